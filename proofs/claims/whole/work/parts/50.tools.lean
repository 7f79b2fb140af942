/-! ===== pure: tools ===== -/
theorem litI (n : Nat) : (OfNat.ofNat n : Int32) = nI n := rfl
theorem lti_eq {O α : Type} (a : α) (k : α → Option O) : lti a k = k a := rfl
theorem ob_some {O O' : Type} (a : O') (k : O' → Option O) : Option.bind (some a) k = k a := rfl
theorem rdi_at {O : Type} {n : Nat} {f : Nat → Int32} {i : Int32} {k : Int32 → Option O} {j : Nat} (hi : i = nI j) (hj : j < n) (hn : n < 2 ^ 31) : rdi n f i k = k (f j) := by
  subst hi
  unfold rdi
  rw [if_neg, nI_clamp (by omega)]
  exact nI_in hj hn
theorem wri_at {O : Type} {n : Nat} {f : Nat → Int32} {i x : Int32} {k : (Nat → Int32) → Option O} {j : Nat} (hi : i = nI j) (hj : j < n) (hn : n < 2 ^ 31) : wri n f i x k = k (upd f j x) := by
  subst hi
  unfold wri
  rw [if_neg, nI_clamp (by omega)]
  exact nI_in hj hn
theorem rdx_at {O : Type} {n : Nat} {i : Int32} {k : Nat → Option O} {j : Nat} (hi : i = nI j) (hj : j < n) (hn : n < 2 ^ 31) : rdx n i k = k j := by
  subst hi
  unfold rdx
  rw [if_neg, nI_clamp (by omega)]
  exact nI_in hj hn
theorem bz0 {O : Type} (k : Option O) : bz 0 k = k := by unfold bz; rw [if_pos (by rfl)]
theorem bz1 {O : Type} (k : Option O) : bz 1 k = k := by unfold bz; rw [if_pos (by rfl)]
theorem i_lt (a b : Int32) : a < b ↔ a.toInt < b.toInt := Int32.lt_iff_toInt_lt
theorem i_le (a b : Int32) : a ≤ b ↔ a.toInt ≤ b.toInt := Int32.le_iff_toInt_le
theorem i_eq (a b : Int32) : a = b ↔ a.toInt = b.toInt := Int32.toInt_inj.symm
theorem ne10 : ¬ (1 : Int32) = 0 := by decide
/-- a test of a range, the same on both sides -/
theorem rng (x a b : Int32) : (fX12_in x a b = some 1 ∧ fX11_isWithin x a b = some 1 ∧ ¬ x < a ∧ ¬ b < x) ∨ (fX12_in x a b = some 0 ∧ fX11_isWithin x a b = some 0 ∧ (x < a ∨ b < x)) := by
  by_cases h1 : x < a
  · right
    refine ⟨?_, ?_, Or.inl h1⟩
    · unfold fX12_in fX12_in_14 fX12_in_15; rw [if_pos h1, bz0]
    · unfold fX11_isWithin fX11_isWithin_14 fX11_isWithin_15; rw [if_pos h1, bz0]
  · by_cases h2 : b < x
    · right
      refine ⟨?_, ?_, Or.inr h2⟩
      · unfold fX12_in fX12_in_14 fX12_in_15; rw [if_neg h1, if_pos h2, bz0]
      · unfold fX11_isWithin fX11_isWithin_14 fX11_isWithin_15; rw [if_neg h1, if_pos h2, bz0]
    · left
      refine ⟨?_, ?_, h1, h2⟩
      · unfold fX12_in fX12_in_15; rw [if_neg h1, if_neg h2, bz1]
      · unfold fX11_isWithin fX11_isWithin_15; rw [if_neg h1, if_neg h2, bz1]
theorem rngN (x : Int32) (B : Nat) (hB : B < 2 ^ 31) : (fX12_in x 0 (nI B) = some 1 ∧ fX11_isWithin x 0 (nI B) = some 1 ∧ ∃ j, j ≤ B ∧ x = nI j) ∨ (fX12_in x 0 (nI B) = some 0 ∧ fX11_isWithin x 0 (nI B) = some 0 ∧ ∀ j, j ≤ B → ¬ x = nI j) := by
  rcases rng x 0 (nI B) with ⟨h1, h2, h3, h4⟩ | ⟨h1, h2, h3⟩
  · left
    refine ⟨h1, h2, ?_⟩
    obtain ⟨j, hj, rfl⟩ := nI_of h3
    refine ⟨j, ?_, rfl⟩
    rw [nI_ltI hB hj] at h4
    omega
  · right
    refine ⟨h1, h2, fun j hj e => ?_⟩
    subst e
    rcases h3 with h3 | h3
    · exact nI_pos (by omega) h3
    · rw [nI_ltI hB (by omega)] at h3
      omega
theorem rngM (x : Int32) (A B : Nat) (hB : B < 2 ^ 31) (hA : A ≤ B) : (fX12_in x (nI A) (nI B) = some 1 ∧ fX11_isWithin x (nI A) (nI B) = some 1 ∧ ∃ j, A ≤ j ∧ j ≤ B ∧ x = nI j) ∨ (fX12_in x (nI A) (nI B) = some 0 ∧ fX11_isWithin x (nI A) (nI B) = some 0 ∧ ∀ j, A ≤ j → j ≤ B → ¬ x = nI j) := by
  rcases rng x (nI A) (nI B) with ⟨h1, h2, h3, h4⟩ | ⟨h1, h2, h3⟩
  · left
    refine ⟨h1, h2, ?_⟩
    have h0 : ¬ x < 0 := by
      rw [i_lt] at h3 ⊢
      rw [nI_toInt (by omega)] at h3
      have : (0 : Int32).toInt = 0 := rfl
      omega
    obtain ⟨j, hj, rfl⟩ := nI_of h0
    rw [nI_ltI hB hj] at h4
    rw [nI_ltI hj (by omega)] at h3
    exact ⟨j, by omega, by omega, rfl⟩
  · right
    refine ⟨h1, h2, fun j hj1 hj e => ?_⟩
    subst e
    rcases h3 with h3 | h3
    · rw [nI_ltI (by omega) (by omega)] at h3
      omega
    · rw [nI_ltI hB (by omega)] at h3
      omega
/-- a test of a village, the same on both sides -/
theorem vil {n : Nat} (hn : n ≤ 6) (x : Int32) {many : Nat → Int32} (hm : many 0 = nI n) : (fX12_isVillage x many = some 1 ∧ fX11_isVillage x (nI n) = some 1 ∧ ∃ j, j < n ∧ x = nI j) ∨ (fX12_isVillage x many = some 0 ∧ fX11_isVillage x (nI n) = some 0 ∧ ∀ j, j < n → ¬ x = nI j) := by
  unfold fX12_isVillage fX11_isVillage fX11_isVillage_19 fX11_isVillage_20
  rw [hm]
  rcases rng x 0 (nI n - 1) with ⟨h1, -, h3, h4⟩ | ⟨h1, -, h3⟩
  · left
    rw [h1, ob_some, bz1]
    obtain ⟨j, hj, rfl⟩ := nI_of h3
    have hjn : j < n := by
      rcases Nat.lt_or_ge j n with h | h
      · exact h
      · exfalso
        apply h4
        have e1 : (1 : Int32) = nI 1 := rfl
        rw [i_lt, e1, pk_sub_toInt (by omega) (by omega), nI_toInt hj]
        omega
    refine ⟨rfl, ?_, j, hjn, rfl⟩
    rw [if_neg h3, if_neg (nI_ge hjn (by omega))]
  · right
    rw [h1, ob_some, bz0]
    have hno : ∀ j, j < n → ¬ x = nI j := by
      intro j hj e
      subst e
      rcases h3 with h3 | h3
      · exact nI_pos (by omega) h3
      · have e1 : (1 : Int32) = nI 1 := rfl
        rw [i_lt, e1, pk_sub_toInt (by omega) (by omega), nI_toInt (by omega)] at h3
        omega
    refine ⟨rfl, ?_, hno⟩
    by_cases hx : x < 0
    · rw [if_pos hx]
    · rw [if_neg hx]
      obtain ⟨j, hj, rfl⟩ := nI_of hx
      have hjn : n ≤ j := by
        rcases Nat.lt_or_ge j n with h | h
        · exact absurd rfl (hno j h)
        · exact h
      rw [if_pos (nI_le hjn hj)]
/-- the abstract state of NOW: strokes, beat, place, fog, mules, slow, deaf, from, to, beats, struck -/
abbrev AN : Type := Nat × Nat × Nat × Nat × Nat × (Nat → Nat) × (Nat → Bool) × (Nat → Nat) × (Nat → Nat) × (Nat → Nat) × (Nat → Int32)
def aK (a : AN) : Nat := a.1
def aB (a : AN) : Nat := a.2.1
def aP (a : AN) : Nat := a.2.2.1
def aG (a : AN) : Nat := a.2.2.2.1
def aM (a : AN) : Nat := a.2.2.2.2.1
def aS (a : AN) : Nat → Nat := a.2.2.2.2.2.1
def aD (a : AN) : Nat → Bool := a.2.2.2.2.2.2.1
def aF (a : AN) : Nat → Nat := a.2.2.2.2.2.2.2.1
def aT (a : AN) : Nat → Nat := a.2.2.2.2.2.2.2.2.1
def aL (a : AN) : Nat → Nat := a.2.2.2.2.2.2.2.2.2.1
def aX (a : AN) : Nat → Int32 := a.2.2.2.2.2.2.2.2.2.2
/-- what is told of the numbers, with n villages -/
def OkA (n : Nat) (a : AN) : Prop := aK a ≤ 9999 ∧ aB a ≤ 29 * aK a ∧ (aP a < n ∨ (n = 0 ∧ aP a = 0)) ∧ aG a ≤ 1 ∧ aM a ≤ 2 ∧ (∀ v, v < 6 → aS a v ≤ 9) ∧ (∀ k, k < aM a → aF a k < n ∧ aT a k < n ∧ aF a k ≠ aT a k ∧ 1 ≤ aL a k ∧ aL a k ≤ 20) ∧ (∀ v, n ≤ v → aD a v = false) ∧ (n = 0 → aK a = 0)
/-- the class's picture of it -/
def RC (c : SC) (a : AN) : Prop := c.1 = nI (aK a) ∧ c.2.1 = nI (aB a) ∧ c.2.2.1 = nI (aP a) ∧ c.2.2.2.1 = nI (aG a) ∧ (∃ D, D < 64 ∧ c.2.2.2.2.1 = nI D ∧ ∀ v, v < 6 → D.testBit v = aD a v) ∧ c.2.2.2.2.2.1 = nI (aM a) ∧ (∀ k, k < aM a → c.2.2.2.2.2.2.1 k = nI (aL a k) ∧ c.2.2.2.2.2.2.2.1 k = nI (aF a k) ∧ c.2.2.2.2.2.2.2.2.1 k = nI (aT a k)) ∧ (∀ v, v < 6 → c.2.2.2.2.2.2.2.2.2.1 v = nI (aS a v)) ∧ (∀ v, v < 6 → c.2.2.2.2.2.2.2.2.2.2 v = aX a v)
/-- the reference's picture of it -/
def RF (f : Nat → Int32) (a : AN) : Prop := f 0 = nI (aK a) ∧ f 1 = nI (aB a) ∧ f 2 = nI (aP a) ∧ f 3 = nI (aG a) ∧ (∀ v, v < 6 → f (4 + v) = nI (aS a v)) ∧ (∀ v, v < 6 → f (10 + v) = if aD a v then 1 else 0) ∧ f 16 = nI (aM a) ∧ (∀ k, k < aM a → f (17 + 3 * k) = nI (aF a k) ∧ f (18 + 3 * k) = nI (aT a k) ∧ f (19 + 3 * k) = nI (aL a k)) ∧ (∀ v, v < 6 → f (29 + v) = aX a v)
def Rel (n : Nat) (c : SC) (f : Nat → Int32) : Prop := ∃ a, OkA n a ∧ RC c a ∧ RF f a
/-- the abstract valley: villages, reach, start, ways, slow and deaf as told -/
abbrev AV : Type := Nat × Nat × Nat × (Nat → Nat → Nat) × (Nat → Nat) × (Nat → Bool)
def vN (v : AV) : Nat := v.1
def vR (v : AV) : Nat := v.2.1
def vS (v : AV) : Nat := v.2.2.1
def vW (v : AV) : Nat → Nat → Nat := v.2.2.2.1
def vL (v : AV) : Nat → Nat := v.2.2.2.2.1
def vD (v : AV) : Nat → Bool := v.2.2.2.2.2
def OkV (v : AV) : Prop := vN v ≤ 6 ∧ 1 ≤ vR v ∧ vR v ≤ 20 ∧ (vS v < vN v ∨ (vN v = 0 ∧ vS v = 0)) ∧ (∀ a b, vW v a b = vW v b a) ∧ (∀ a, vW v a a = 0) ∧ (∀ a b, vW v a b ≤ 9) ∧ (∀ a, vL v a ≤ 9) ∧ (∀ a, vN v ≤ a → vD v a = false)
def InvT (d : DS) (m : MS) : Prop := ∃ t, t ≤ 200 ∧ (dT d).1 = nI t ∧ m_typed m = nI t ∧ ∀ j, j < t → ∃ c, c < 256 ∧ (dT d).2.2.2.2.2 j = nI c ∧ m_text m j = nI c
def InvV (d : DS) (m : MS) (v : AV) : Prop := OkV v ∧ (dV d).1 = nI (vN v) ∧ m_many m 0 = nI (vN v) ∧ (dV d).2.2.1 = nI (vR v) ∧ m_many m 1 = nI (vR v) ∧ (dV d).2.2.2.1 = nI (vS v) ∧ m_many m 2 = nI (vS v) ∧
  (∀ a b, a < 6 → b < 6 → (dV d).2.2.2.2.2.2.2 (6 * a + b) = nI (vW v a b)) ∧ (∀ a b, a < 6 → b < 6 → m_lengths m (6 * a + b) = nI (vW v a b)) ∧
  (∀ a, a < vN v → m_slow m a = nI (vL v a) ∧ m_deaf m a = if vD v a then 1 else 0) ∧
  (∃ D, D < 64 ∧ (dF d).2.2.2.2.1 = nI D ∧ ∀ a, a < 6 → D.testBit a = vD v a) ∧ (dF d).2.2.2.2.2.1 = 0 ∧ (∀ a, a < vN v → (dF d).2.2.2.2.2.2.2.2.2.1 a = nI (vL v a))
def InvP (d : DS) (m : MS) (n : Nat) : Prop := ∃ u, u ≤ 10 ∧ (dP d).1 = nI u ∧ m_undoMany m = nI u ∧ ∀ j, j < u → Rel n ((dP d).2 j) (fun i => m_undos m (35 * j + i))
def InvI (d : DS) (m : MS) (n : Nat) : Prop := (∀ i, i < 2 → dKept d i = m_isKept m i ∧ (dKept d i = 0 ∨ dKept d i = 1)) ∧ (dKept d 0 = 1 → Rel n (dI d) (fun i => m_kept m i)) ∧ (dKept d 1 = 1 → Rel n (dJ d) (fun i => m_kept m (35 + i)))
def InvK (d : DS) (m : MS) : Prop := (dK d).1 + (dK d).2.1 + (dK d).2.2.1 + (dK d).2.2.2.1 + (dK d).2.2.2.2.1 + (dK d).2.2.2.2.2 = m_trace m
def InvH (d : DS) (m : MS) (n : Nat) : Prop := ∃ h, h ≤ 5 ∧ dHN d = nI h ∧ m_heardMany m = nI h ∧ ∀ j, j < h → ∃ v b, v < n ∧ b ≤ 200 ∧ dHV d j = nI v ∧ m_heardBy m j = nI v ∧ dHB d j = nI b ∧ m_heardAt m j = nI b
def InvB (d : DS) (m : MS) : Prop := ∃ h, h ≤ 6 ∧ dTN d = nI h ∧ m_tellMany m = nI h ∧ ∀ j, j < h → ∃ b, b ≤ 400 ∧ dTB d j = nI b ∧ m_tellsAt m j = nI b
/-- class and reference stand alike -/
def Inv (d : DS) (m : MS) : Prop := InvT d m ∧ InvK d m ∧ InvB d m ∧ ∃ v, InvV d m v ∧ Rel (vN v) (dS d) (m_s m) ∧ InvP d m (vN v) ∧ InvI d m (vN v) ∧ InvH d m (vN v)
theorem inv0 : Inv d00 m00 := by
  refine ⟨⟨0, by omega, rfl, rfl, fun j h => by omega⟩, by unfold InvK; rfl, ⟨0, by omega, rfl, rfl, fun j h => by omega⟩, (0, 20, 0, fun _ _ => 0, fun _ => 0, fun _ => false), ?_, ?_, ⟨0, by omega, rfl, rfl, fun j h => by omega⟩, ?_, ⟨0, by omega, rfl, rfl, fun j h => by omega⟩⟩
  · refine ⟨⟨by decide, by decide, by decide, Or.inr ⟨rfl, rfl⟩, fun _ _ => rfl, fun _ => rfl, fun _ _ => Nat.zero_le _, fun _ => Nat.zero_le _, fun _ _ => rfl⟩, rfl, rfl, rfl, rfl, rfl, rfl, fun _ _ _ _ => rfl, fun _ _ _ _ => rfl, fun _ h => absurd h (Nat.not_lt_zero _), ⟨0, by omega, rfl, fun a h => by simp [vD]⟩, rfl, fun _ h => absurd h (Nat.not_lt_zero _)⟩
  · refine ⟨(0, 0, 0, 0, 0, fun _ => 0, fun _ => false, fun _ => 0, fun _ => 0, fun _ => 0, fun _ => 0), ?_, ?_, ?_⟩
    · refine ⟨by decide, by decide, Or.inr ⟨rfl, rfl⟩, by decide, by decide, fun _ _ => Nat.zero_le _, fun _ h => absurd h (Nat.not_lt_zero _), fun _ _ => rfl, fun _ => rfl⟩
    · refine ⟨rfl, rfl, rfl, rfl, ⟨0, by omega, rfl, fun a h => by simp [aD]⟩, rfl, fun _ h => absurd h (Nat.not_lt_zero _), fun _ _ => rfl, fun _ _ => rfl⟩
    · refine ⟨rfl, rfl, rfl, rfl, fun _ _ => rfl, fun _ _ => rfl, rfl, fun _ h => absurd h (Nat.not_lt_zero _), fun _ _ => rfl⟩
  · refine ⟨fun i hi => ⟨rfl, Or.inl rfl⟩, fun h => absurd h (by decide), fun h => absurd h (by decide)⟩
