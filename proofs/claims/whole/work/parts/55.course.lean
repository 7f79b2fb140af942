/-! ===== pure: who hears whom, who is next ===== -/
def hw (W : Nat → Nat → Nat) (R G x y : Nat) : Nat := if W x y * (1 + G) ≤ R then W x y * (1 + G) else 0
def mst (F T L : Nat → Nat) (x y k b : Nat) : Nat := if F k = x ∧ T k = y ∧ (b = 0 ∨ L k < b) then L k else b
def mus (F T L : Nat → Nat) (x y : Nat) : Nat → Nat → Nat
  | 0, b => b
  | k + 1, b => mst F T L x y k (mus F T L x y k b)
/-- the beats after which y hears x, nought for never -/
def Hn (W : Nat → Nat → Nat) (R : Nat) (a : AN) (x y : Nat) : Nat := if aD a y then 0 else mus (aF a) (aT a) (aL a) x y (aM a) (hw W R (aG a) x y)
def enc (b : Nat) : Int32 := if b = 0 then -9 else nI b
theorem enc0 : enc 0 = -9 := rfl
theorem encP {b : Nat} (h : b ≠ 0) : enc b = nI b := if_neg h
theorem m9_ne {b : Nat} (h : b < 2 ^ 31) : ¬ nI b = (-9 : Int32) := by
  rw [i_eq, nI_toInt h]
  have : (-9 : Int32).toInt = -9 := by decide
  omega
theorem m1_ne {b : Nat} (h : b < 2 ^ 31) : ¬ nI b = (-1 : Int32) := by
  rw [i_eq, nI_toInt h]
  have : (-1 : Int32).toInt = -1 := by decide
  omega
theorem hw_le (W : Nat → Nat → Nat) (R G x y : Nat) : hw W R G x y ≤ R := by
  unfold hw
  split
  · assumption
  · omega
theorem mus_le {F T L : Nat → Nat} {x y : Nat} {M R : Nat} (hL : ∀ k, k < M → L k ≤ 20) (hR : R ≤ 20) {b : Nat} (hb : b ≤ R) : ∀ k, k ≤ M → mus F T L x y k b ≤ 20
  | 0, _ => by show b ≤ 20; omega
  | k + 1, h => by
    have h1 := mus_le (F := F) (T := T) (x := x) (y := y) hL hR hb k (by omega)
    have h2 := hL k (by omega)
    show mst F T L x y k _ ≤ 20
    unfold mst
    split <;> omega
theorem Hn_le {W : Nat → Nat → Nat} {R : Nat} {a : AN} {x y : Nat} (hL : ∀ k, k < aM a → aL a k ≤ 20) (hR : R ≤ 20) : Hn W R a x y ≤ 20 := by
  unfold Hn
  split
  · omega
  · exact mus_le hL hR (hw_le _ _ _ _ _) _ (Nat.le_refl _)
theorem mus_self {F T L : Nat → Nat} {x : Nat} {M : Nat} (hF : ∀ k, k < M → F k ≠ T k) : ∀ k, k ≤ M → mus F T L x x k 0 = 0
  | 0, _ => rfl
  | k + 1, h => by
    have h1 := mus_self (L := L) (x := x) hF k (by omega)
    show mst F T L x x k _ = 0
    unfold mst
    rw [h1, if_neg (fun c => hF k (by omega) (c.1.trans c.2.1.symm))]
theorem Hn_self {W : Nat → Nat → Nat} {R : Nat} {a : AN} {x : Nat} (hW : W x x = 0) (hF : ∀ k, k < aM a → aF a k ≠ aT a k) : Hn W R a x x = 0 := by
  unfold Hn hw
  rw [hW, Nat.zero_mul, ite_self, mus_self hF _ (Nat.le_refl _), ite_self]
/-- what of a state of the reference the hearing reads -/
def RH (n : Nat) (f : Nat → Int32) (a : AN) : Prop := f 3 = nI (aG a) ∧ aG a ≤ 1 ∧ (∀ v, v < 6 → f (10 + v) = if aD a v then 1 else 0) ∧ f 16 = nI (aM a) ∧ aM a ≤ 4 ∧ (∀ k, k < aM a → f (17 + 3 * k) = nI (aF a k) ∧ f (18 + 3 * k) = nI (aT a k) ∧ f (19 + 3 * k) = nI (aL a k)) ∧ (∀ k, k < aM a → aF a k < n ∧ aT a k < n ∧ aF a k ≠ aT a k ∧ 1 ≤ aL a k ∧ aL a k ≤ 20)
theorem hearsIn_loop {f : Nat → Int32} {n : Nat} {a : AN} (hn : n ≤ 6) (hf : RH n f a) {x y : Nat} (hx : x < 6) (hy : y < 6) {b : Nat} (hb : b ≤ 20) (K : Int32 → Option Int32) : ∀ (i k fu : Nat), aM a - k = i → k ≤ aM a → i < fu → fX12_hearsIn_L65 (nI y) (nI x) f K fu (enc (mus (aF a) (aT a) (aL a) x y k b)) (nI k) = K (enc (mus (aF a) (aT a) (aL a) x y (aM a) b)) := by
  obtain ⟨f3, g1, fd, f16, hM, fm, hm⟩ := hf
  intro i
  induction i with
  | zero =>
    intro k fu h1 h2 h3
    have hk : k = aM a := by omega
    subst hk
    obtain ⟨fu, rfl⟩ : ∃ g, fu = g + 1 := ⟨fu - 1, by omega⟩
    unfold fX12_hearsIn_L65 fX12_hearsIn_65
    rw [f16, if_pos (nI_le (Nat.le_refl _) (by omega))]
  | succ i ih =>
    intro k fu h1 h2 h3
    have hk : k < aM a := by omega
    obtain ⟨fu, rfl⟩ : ∃ g, fu = g + 1 := ⟨fu - 1, by omega⟩
    obtain ⟨q1, q2, q3⟩ := fm k hk
    obtain ⟨m1, m2, m3, m4, m5⟩ := hm k hk
    have hB : mus (aF a) (aT a) (aL a) x y k b ≤ 20 := mus_le (fun k h => (hm k h).2.2.2.2) (Nat.le_refl 20) hb k (by omega)
    have ih' := ih (k + 1) fu (by omega) (by omega) (by omega)
    have i0 : (17 : Int32) + (3 : Int32) * nI k = nI (17 + 3 * k) := by simp only [litI, pk_mul, nI_add]
    have i1 : nI (17 + 3 * k) + (1 : Int32) = nI (18 + 3 * k) := by rw [nI_1]; congr 1; omega
    have i2 : nI (17 + 3 * k) + (2 : Int32) = nI (19 + 3 * k) := by rw [show (2 : Int32) = nI 2 from rfl, nI_add]; congr 1; omega
    unfold fX12_hearsIn_L65 fX12_hearsIn_65
    rw [f16, if_neg (nI_ge hk (by omega)), lti_eq, i0, rdi_at (j := 17 + 3 * k) rfl (by omega) (by omega), q1, i1, rdi_at (j := 18 + 3 * k) rfl (by omega) (by omega), q2]
    unfold fX12_hearsIn_119 fX12_hearsIn_130 fX12_hearsIn_132
    simp only [i2, rdi_at (j := 19 + 3 * k) rfl (show 19 + 3 * k < 35 by omega) (by omega : (35 : Nat) < 2 ^ 31), q3, nI_1]
    rw [← ih']
    show _ = fX12_hearsIn_L65 _ _ _ _ _ (enc (mst (aF a) (aT a) (aL a) x y k (mus (aF a) (aT a) (aL a) x y k b))) _
    generalize mus (aF a) (aT a) (aL a) x y k b = B at hB ⊢
    unfold mst
    by_cases h5 : aF a k = x
    · rw [if_pos (by rw [h5])]
      by_cases h6 : aT a k = y
      · rw [if_pos (by rw [h6])]
        by_cases h7 : B = 0
        · rw [if_pos (by rw [h7]; rfl), if_pos ⟨h5, h6, Or.inl h7⟩, encP (by omega)]
        · rw [encP h7, if_neg (m9_ne (by omega))]
          by_cases h8 : aL a k < B
          · rw [if_neg (nI_ge h8 (by omega)), if_pos ⟨h5, h6, Or.inr h8⟩, encP (by omega)]
          · rw [if_pos (nI_le (by omega) (by omega)), if_neg (fun c => c.2.2.elim h7 h8), encP h7]
      · rw [if_neg (nI_ne (by omega) (by omega) h6), if_neg (fun c => h6 c.2.1)]
    · rw [if_neg (nI_ne (by omega) (by omega) h5), if_neg (fun c => h5 c.1)]
/-- what of the valley of the reference the hearing reads -/
def RW (n R : Nat) (W : Nat → Nat → Nat) (len many : Nat → Int32) : Prop := n ≤ 6 ∧ 1 ≤ R ∧ R ≤ 20 ∧ (∀ a b, W a b = W b a) ∧ (∀ a, W a a = 0) ∧ (∀ a b, W a b ≤ 9) ∧ many 0 = nI n ∧ many 1 = nI R ∧ ∀ a b, a < 6 → b < 6 → len (6 * a + b) = nI (W a b)
theorem hearsIn_ok {N : Nat} (hN : 10 ≤ N) {n R : Nat} {W : Nat → Nat → Nat} {len many f : Nat → Int32} {a : AN} (hv : RW n R W len many) (hf : RH n f a) {x y : Nat} (hx : x < 6) (hy : y < 6) : fX12_hearsIn N (nI y) (nI x) len many f = some (enc (Hn W R a x y)) := by
  obtain ⟨w1, w2, w3, w4, w5, w6, w7, w8, w9⟩ := hv
  have hf' := hf
  obtain ⟨f3, g1, fd, f16, hM, fm, hm⟩ := hf'
  unfold fX12_hearsIn fX12_hearsIn_15 fX12_hearsIn_53 fX12_hearsIn_60
  by_cases hxy : y = x
  · subst hxy
    rw [if_pos rfl, Hn_self (w5 _) (fun k h => (hm k h).2.2.1), enc0]
  · rw [if_neg (nI_ne (by omega) (by omega) hxy), show (10 : Int32) + nI y = nI (10 + y) by simp only [litI, nI_add], rdi_at (j := 10 + y) rfl (by omega) (by omega), fd y hy]
    unfold Hn
    by_cases hd : aD a y = true
    · rw [if_pos hd, if_pos rfl, if_pos hd, enc0]
    · rw [if_neg hd, if_neg (by decide), if_neg hd]
      have e1 : (6 : Int32) * nI y + nI x = nI (6 * y + x) := by simp only [litI, pk_mul, nI_add]
      have e2 : nI (W y x) * ((1 : Int32) + nI (aG a)) = nI (W x y * (1 + aG a)) := by rw [w4 y x]; simp only [litI, pk_mul, nI_add]
      have hW := w6 x y
      have hG : W x y * (1 + aG a) ≤ 18 := by
        have : W x y * (1 + aG a) ≤ 9 * 2 := Nat.mul_le_mul hW (by omega)
        omega
      rw [e1, rdi_at (j := 6 * y + x) rfl (by omega) (by omega), w9 y x hy hx, f3, e2, lti_eq, w8]
      have key := fun b hb => hearsIn_loop w1 hf hx hy (b := b) hb (fun z => some z) (aM a) 0 N (by omega) (by omega) (by omega)
      by_cases h0 : W x y * (1 + aG a) = 0
      · rw [if_pos (by rw [h0]; rfl)]
        have e : hw W R (aG a) x y = 0 := by unfold hw; rw [h0, ite_self]
        rw [e]
        exact key 0 (by omega)
      · rw [if_neg (show ¬ nI (W x y * (1 + aG a)) = (0 : Int32) from nI_ne0 (by omega) (by omega))]
        by_cases h1 : W x y * (1 + aG a) ≤ R
        · rw [if_pos (nI_le h1 (by omega))]
          have e : hw W R (aG a) x y = W x y * (1 + aG a) := by unfold hw; rw [if_pos h1]
          rw [e]
          have k2 := key (W x y * (1 + aG a)) (by omega)
          rw [show mus (aF a) (aT a) (aL a) x y 0 (W x y * (1 + aG a)) = W x y * (1 + aG a) from rfl, encP h0] at k2
          exact k2
        · rw [if_neg (nI_ge (by omega) (by omega))]
          have e : hw W R (aG a) x y = 0 := by unfold hw; rw [if_neg h1]
          rw [e]
          exact key 0 (by omega)
/-- the last to hear among the first k, with its beats -/
def bst (h : Nat → Nat) : Nat → Nat × Nat
  | 0 => (0, 0)
  | k + 1 => if (bst h k).1 < h k then (h k, k) else bst h k
theorem bst_ok (h : Nat → Nat) : ∀ k, (bst h k).1 = 0 ∨ ((bst h k).2 < k ∧ h (bst h k).2 = (bst h k).1)
  | 0 => Or.inl rfl
  | k + 1 => by
    have := bst_ok h k
    unfold bst
    split
    · exact Or.inr ⟨Nat.lt_succ_self _, rfl⟩
    · rcases this with h1 | ⟨h1, h2⟩
      · exact Or.inl h1
      · exact Or.inr ⟨by omega, h2⟩
theorem bst_le {h : Nat → Nat} {B : Nat} (hB : ∀ y, h y ≤ B) (k : Nat) : (bst h k).1 ≤ B := by
  rcases bst_ok h k with h1 | ⟨_, h2⟩
  · omega
  · rw [← h2]; exact hB _
/-- the next village, and the beats until its stroke -/
def nx (h : Nat → Nat) (n : Nat) : Option Nat := if (bst h n).1 = 0 then none else some (bst h n).2
def gp (h S : Nat → Nat) (n : Nat) : Nat := (bst h n).1 + S (bst h n).2
