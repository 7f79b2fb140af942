/-! ===== pure: the odds by sums ===== -/
def sm (f : Nat → Nat) : Nat → Nat
  | 0 => 0
  | k + 1 => sm f k + f k
theorem sm_congr {f g : Nat → Nat} : ∀ k, (∀ j, j < k → f j = g j) → sm f k = sm g k
  | 0, _ => rfl
  | k + 1, h => by
    unfold sm
    rw [sm_congr k (fun j hj => h j (by omega)), h k (by omega)]
theorem sm_add (f g : Nat → Nat) : ∀ k, sm f k + sm g k = sm (fun j => f j + g j) k
  | 0 => rfl
  | k + 1 => by
    have := sm_add f g k
    unfold sm
    omega
theorem sm_mul (f : Nat → Nat) (c : Nat) : ∀ k, sm (fun j => f j * c) k = sm f k * c
  | 0 => by
    show 0 = 0 * c
    rw [Nat.zero_mul]
  | k + 1 => by
    unfold sm
    rw [sm_mul f c k, Nat.add_mul]
theorem sm_zero : ∀ k, sm (fun _ => 0) k = 0
  | 0 => rfl
  | k + 1 => by
    unfold sm
    rw [sm_zero k]
theorem sm_swap (F : Nat → Nat → Nat) (b : Nat) : ∀ a, sm (fun i => sm (fun j => F i j) b) a = sm (fun j => sm (fun i => F i j) a) b
  | 0 => by
    show 0 = sm (fun _ => 0) b
    rw [sm_zero]
  | a + 1 => by
    have e : sm (fun j => sm (fun i => F i j) (a + 1)) b = sm (fun j => sm (fun i => F i j) a + F a j) b := rfl
    rw [e, ← sm_add, ← sm_swap F b a]
    rfl
theorem sm_app (f : Nat → Nat) (a : Nat) : ∀ b, sm f (a + b) = sm f a + sm (fun j => f (a + j)) b
  | 0 => rfl
  | b + 1 => by
    show sm f (a + b) + f (a + b) = sm f a + (sm (fun j => f (a + j)) b + f (a + b))
    rw [sm_app f a b]
    omega
theorem sm_no {g : Nat → Nat} {x : Nat} : ∀ k, k ≤ x → sm (fun i => if x = i then g i else 0) k = 0
  | 0, _ => rfl
  | k + 1, h => by
    unfold sm
    rw [sm_no k (by omega), if_neg (by omega)]
theorem sm_one {g : Nat → Nat} {x : Nat} : ∀ k, x < k → sm (fun i => if x = i then g i else 0) k = g x
  | 0, h => absurd h (Nat.not_lt_zero _)
  | k + 1, h => by
    unfold sm
    by_cases c : x = k
    · subst c
      rw [sm_no x (Nat.le_refl _), if_pos rfl, Nat.zero_add]
    · rw [sm_one k (by omega), if_neg c, Nat.add_zero]
theorem sm_le {f : Nat → Nat} {B : Nat} (h : ∀ j, f j ≤ B) : ∀ k, sm f k ≤ B * k
  | 0 => Nat.zero_le _
  | k + 1 => by
    have h1 := sm_le h k
    have h2 := h k
    unfold sm
    rw [Nat.mul_add, Nat.mul_one]
    omega
/-- the weight of a set of fogs -/
def wt (p set : Nat) : Nat → Nat
  | 0 => 1
  | k + 1 => wt p set k * (if set.testBit k then p else 10 - p)
/-- where it is after k strokes by a set of fogs -/
def pl (nc nf : Nat → Option Nat) (x0 set : Nat) : Nat → Option Nat
  | 0 => some x0
  | k + 1 => match pl nc nf x0 set k with
    | none => none
    | some x => if set.testBit k then nf x else nc x
def tm (nc nf : Nat → Option Nat) (p x0 n v set : Nat) : Nat := if pl nc nf x0 set n = some v then wt p set n else 0
def gq (nc nf : Nat → Option Nat) (p i y : Nat) : Nat := (if nc i = some y then 10 - p else 0) + (if nf i = some y then p else 0)
def ch (nc nf : Nat → Option Nat) (p x0 : Nat) : Nat → Nat → Nat
  | 0, y => if y = x0 then 1 else 0
  | k + 1, y => sm (fun i => ch nc nf p x0 k i * gq nc nf p i y) 6
theorem wt_le {p set : Nat} (hp : p ≤ 10) : ∀ k, wt p set k ≤ 10 ^ k
  | 0 => Nat.le_refl _
  | k + 1 => by
    unfold wt
    rw [Nat.pow_succ]
    refine Nat.mul_le_mul (wt_le hp k) ?_
    split <;> omega
theorem wt_low {p n set : Nat} : ∀ k, k ≤ n → wt p (2 ^ n + set) k = wt p set k
  | 0, _ => rfl
  | k + 1, h => by
    unfold wt
    rw [wt_low k (by omega), Nat.testBit_two_pow_add_gt (by omega)]
theorem pl_low {nc nf : Nat → Option Nat} {x0 n set : Nat} : ∀ k, k ≤ n → pl nc nf x0 (2 ^ n + set) k = pl nc nf x0 set k
  | 0, _ => rfl
  | k + 1, h => by
    unfold pl
    rw [pl_low k (by omega), Nat.testBit_two_pow_add_gt (by omega)]
theorem pl_lt {nc nf : Nat → Option Nat} {x0 set : Nat} (h0 : x0 < 6) (hc : ∀ x y, nc x = some y → y < 6) (hf : ∀ x y, nf x = some y → y < 6) : ∀ k x, pl nc nf x0 set k = some x → x < 6
  | 0, x, h => by
    cases h
    exact h0
  | k + 1, x, h => by
    unfold pl at h
    cases e : pl nc nf x0 set k with
    | none =>
      rw [e] at h
      cases h
    | some z =>
      rw [e] at h
      simp only at h
      split at h
      · exact hf z x h
      · exact hc z x h
theorem up_eq {nc nf : Nat → Option Nat} {p x0 : Nat} (h0 : x0 < 6) (hc : ∀ x y, nc x = some y → y < 6) (hf : ∀ x y, nf x = some y → y < 6) : ∀ n y, sm (tm nc nf p x0 n y) (2 ^ n) = ch nc nf p x0 n y
  | 0, y => by
    show 0 + (if some x0 = some y then 1 else 0) = if y = x0 then 1 else 0
    rw [Nat.zero_add]
    by_cases c : y = x0
    · rw [if_pos c, if_pos (by rw [c])]
    · rw [if_neg c, if_neg (fun q => c (by cases q; rfl))]
  | n + 1, y => by
    have e1 : 2 ^ (n + 1) = 2 ^ n + 2 ^ n := by rw [Nat.pow_succ]; omega
    rw [e1, sm_app, sm_add]
    have e2 : ∀ set, set < 2 ^ n → tm nc nf p x0 (n + 1) y set + tm nc nf p x0 (n + 1) y (2 ^ n + set) = sm (fun i => tm nc nf p x0 n i set * gq nc nf p i y) 6 := by
      intro set hs
      have b0 : set.testBit n = false := Nat.testBit_lt_two_pow hs
      have b1 : (2 ^ n + set).testBit n = true := by rw [Nat.testBit_two_pow_add_eq, b0]; rfl
      cases e : pl nc nf x0 set n with
      | none =>
        have a1 : pl nc nf x0 set (n + 1) = none := by
          unfold pl
          rw [e]
        have a2 : pl nc nf x0 (2 ^ n + set) (n + 1) = none := by
          unfold pl
          rw [pl_low n (Nat.le_refl _), e]
        have t1 : tm nc nf p x0 (n + 1) y set = 0 := by
          unfold tm
          rw [a1, if_neg (fun q => by cases q)]
        have t2 : tm nc nf p x0 (n + 1) y (2 ^ n + set) = 0 := by
          unfold tm
          rw [a2, if_neg (fun q => by cases q)]
        have t3 : ∀ i, i < 6 → tm nc nf p x0 n i set * gq nc nf p i y = 0 := fun i _ => by
          unfold tm
          rw [e, if_neg (fun q => by cases q), Nat.zero_mul]
        rw [t1, t2, sm_congr 6 t3, sm_zero]
      | some x =>
        have hx := pl_lt h0 hc hf n x e
        have a1 : pl nc nf x0 set (n + 1) = nc x := by
          unfold pl
          rw [e]
          show (if set.testBit n = true then nf x else nc x) = nc x
          rw [b0]
          rfl
        have a2 : pl nc nf x0 (2 ^ n + set) (n + 1) = nf x := by
          unfold pl
          rw [pl_low n (Nat.le_refl _), e]
          show (if (2 ^ n + set).testBit n = true then nf x else nc x) = nf x
          rw [b1]
          rfl
        have w1 : wt p set (n + 1) = wt p set n * (10 - p) := by
          show wt p set n * (if set.testBit n then p else 10 - p) = _
          rw [b0]
          rfl
        have w2 : wt p (2 ^ n + set) (n + 1) = wt p set n * p := by
          show wt p (2 ^ n + set) n * (if (2 ^ n + set).testBit n then p else 10 - p) = _
          rw [wt_low n (Nat.le_refl _), b1]
          rfl
        have t1 : tm nc nf p x0 (n + 1) y set = if nc x = some y then wt p set n * (10 - p) else 0 := by
          unfold tm
          rw [a1, w1]
        have t2 : tm nc nf p x0 (n + 1) y (2 ^ n + set) = if nf x = some y then wt p set n * p else 0 := by
          unfold tm
          rw [a2, w2]
        have t3 : ∀ i, i < 6 → tm nc nf p x0 n i set * gq nc nf p i y = if x = i then wt p set n * gq nc nf p i y else 0 := fun i _ => by
          unfold tm
          rw [e]
          by_cases c : x = i
          · rw [if_pos c, if_pos (by rw [c])]
          · rw [if_neg c, if_neg (fun q => c (by cases q; rfl)), Nat.zero_mul]
        rw [t1, t2, sm_congr 6 t3, sm_one (g := fun i => wt p set n * gq nc nf p i y) 6 hx]
        show _ = wt p set n * ((if nc x = some y then 10 - p else 0) + (if nf x = some y then p else 0))
        rw [Nat.mul_add]
        congr 1
        · split
          · rfl
          · rw [Nat.mul_zero]
        · split
          · rfl
          · rw [Nat.mul_zero]
    rw [sm_congr (2 ^ n) e2, sm_swap (fun set i => tm nc nf p x0 n i set * gq nc nf p i y) 6 (2 ^ n)]
    show _ = sm (fun i => ch nc nf p x0 n i * gq nc nf p i y) 6
    refine sm_congr 6 (fun i hi => ?_)
    rw [sm_mul, up_eq h0 hc hf n i]
theorem ch_b {nc nf : Nat → Option Nat} {p x0 : Nat} (h0 : x0 < 6) (hc : ∀ x y, nc x = some y → y < 6) (hf : ∀ x y, nf x = some y → y < 6) (hp : p ≤ 10) {n : Nat} (hn : n ≤ 6) (y : Nat) : ch nc nf p x0 n y < 2 ^ 30 := by
  rw [← up_eq h0 hc hf]
  have h1 : ∀ set, tm nc nf p x0 n y set ≤ 10 ^ 6 := fun set => by
    unfold tm
    split
    · exact Nat.le_trans (wt_le hp n) (Nat.pow_le_pow_right (by omega) hn)
    · exact Nat.zero_le _
  have h2 := sm_le h1 (2 ^ n)
  have h3 : 2 ^ n ≤ 2 ^ 6 := Nat.pow_le_pow_right (by omega) hn
  have h4 : 10 ^ 6 * 2 ^ n ≤ 10 ^ 6 * 2 ^ 6 := Nat.mul_le_mul_left _ h3
  omega
/-- the two ways of dividing, side by side -/
theorem gcdL (KC KF : Int32 → Option Int32) : ∀ (t a b i fu fu' : Nat), b < 2 ^ t → t ≤ 30 → a < 2 ^ 31 → i + 2 * t ≤ 63 → 2 * t < fu → 2 * t < fu' → ∃ g, (0 < g ∨ (a = 0 ∧ b = 0)) ∧ g < 2 ^ 31 ∧ fX11_commonDivisor_L7 KC fu (nI a) (nI b) (nI i) = KC (nI g) ∧ fX12_gcd_L4 KF fu' (nI a) (nI b) = KF (nI g) := by
  have done : ∀ (a i fu fu' : Nat), a < 2 ^ 31 → i ≤ 63 → 0 < fu → 0 < fu' → ∃ g, (0 < g ∨ (a = 0 ∧ 0 = 0)) ∧ g < 2 ^ 31 ∧ fX11_commonDivisor_L7 KC fu (nI a) (nI 0) (nI i) = KC (nI g) ∧ fX12_gcd_L4 KF fu' (nI a) (nI 0) = KF (nI g) := by
    intro a i fu fu' ha hi h1 h2
    obtain ⟨fu, rfl⟩ : ∃ g, fu = g + 1 := ⟨fu - 1, by omega⟩
    obtain ⟨fu', rfl⟩ : ∃ g, fu' = g + 1 := ⟨fu' - 1, by omega⟩
    unfold fX11_commonDivisor_L7 fX11_commonDivisor_7 fX12_gcd_L4 fX12_gcd_4
    rw [if_neg (show ¬ (64 : Int32) ≤ nI i from nI_ge (b := 64) (by omega) (by omega)), if_pos (show nI 0 = (0 : Int32) from rfl), if_pos (show nI 0 = (0 : Int32) from rfl)]
    exact ⟨a, by omega, ha, rfl, rfl⟩
  have one : ∀ (a b i fu fu' : Nat), a < 2 ^ 31 → 0 < b → b < 2 ^ 31 → i ≤ 63 → fX11_commonDivisor_L7 KC (fu + 1) (nI a) (nI b) (nI i) = fX11_commonDivisor_L7 KC fu (nI b) (nI (a % b)) (nI (i + 1)) ∧ fX12_gcd_L4 KF (fu' + 1) (nI a) (nI b) = fX12_gcd_L4 KF fu' (nI b) (nI (a % b)) := by
    intro a b i fu fu' ha hb hb2 hi
    constructor
    · rw [show fX11_commonDivisor_L7 KC (fu + 1) (nI a) (nI b) (nI i) = fX11_commonDivisor_7 (fX11_commonDivisor_L7 KC fu) KC (nI a) (nI b) (nI i) from rfl]
      unfold fX11_commonDivisor_7 dvi
      rw [if_neg (show ¬ (64 : Int32) ≤ nI i from nI_ge (b := 64) (by omega) (by omega)), if_neg (nI_ne0 hb hb2), if_neg (nI_ne0 hb hb2), lti_eq, pk_rem ha hb hb2, nI_1]
    · rw [show fX12_gcd_L4 KF (fu' + 1) (nI a) (nI b) = fX12_gcd_4 (fX12_gcd_L4 KF fu') KF (nI a) (nI b) from rfl]
      unfold fX12_gcd_4 dvi
      rw [if_neg (nI_ne0 hb hb2), if_neg (nI_ne0 hb hb2), lti_eq, pk_rem ha hb hb2]
  intro t
  induction t with
  | zero =>
    intro a b i fu fu' h1 h2 h3 h4 h5 h6
    have hb : b = 0 := by omega
    subst hb
    exact done a i fu fu' h3 (by omega) (by omega) (by omega)
  | succ t ih =>
    intro a b i fu fu' h1 h2 h3 h4 h5 h6
    by_cases hb : b = 0
    · subst hb
      exact done a i fu fu' h3 (by omega) (by omega) (by omega)
    · have hb31 : b < 2 ^ 31 := Nat.lt_of_lt_of_le h1 (Nat.pow_le_pow_right (by omega) (by omega))
      obtain ⟨fu, rfl⟩ : ∃ g, fu = g + 1 := ⟨fu - 1, by omega⟩
      obtain ⟨fu', rfl⟩ : ∃ g, fu' = g + 1 := ⟨fu' - 1, by omega⟩
      obtain ⟨o1, o2⟩ := one a b i fu fu' h3 (by omega) hb31 (by omega)
      rw [o1, o2]
      have hr : a % b < b := Nat.mod_lt _ (by omega)
      by_cases hr0 : a % b = 0
      · rw [hr0]
        obtain ⟨g, g1, g2, g3, g4⟩ := done b (i + 1) fu fu' hb31 (by omega) (by omega) (by omega)
        exact ⟨g, by omega, g2, g3, g4⟩
      · obtain ⟨fu, rfl⟩ : ∃ g, fu = g + 1 := ⟨fu - 1, by omega⟩
        obtain ⟨fu', rfl⟩ : ∃ g, fu' = g + 1 := ⟨fu' - 1, by omega⟩
        obtain ⟨o3, o4⟩ := one b (a % b) (i + 1) fu fu' hb31 (by omega) (by omega) (by omega)
        rw [o3, o4]
        have hm : b % (a % b) < 2 ^ t := by
          have q1 := Nat.div_add_mod b (a % b)
          have q2 : b % (a % b) < a % b := Nat.mod_lt _ (by omega)
          have q3 : 1 ≤ b / (a % b) := (Nat.le_div_iff_mul_le (by omega)).mpr (by omega)
          have q4 : (a % b) * 1 ≤ (a % b) * (b / (a % b)) := Nat.mul_le_mul_left _ q3
          rw [Nat.pow_succ] at h1
          omega
        obtain ⟨g, g1, g2, g3, g4⟩ := ih (a % b) (b % (a % b)) (i + 1 + 1) fu fu' hm (by omega) (by omega) (by omega) (by omega) (by omega)
        exact ⟨g, by omega, g2, g3, g4⟩
