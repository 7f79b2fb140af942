/-! ===== pure: the next stroke in the reference ===== -/
def encN (o : Option Nat) : Int32 := match o with
  | none => -9
  | some y => nI y
theorem nx_none {h : Nat → Nat} {n : Nat} (e : (bst h n).1 = 0) : nx h n = none := if_pos e
theorem nx_some {h : Nat → Nat} {n : Nat} (e : (bst h n).1 ≠ 0) : nx h n = some (bst h n).2 := if_neg e
theorem nx_lt {h : Nat → Nat} {n y : Nat} (e : nx h n = some y) : y < n ∧ y = (bst h n).2 ∧ h y = (bst h n).1 ∧ h y ≠ 0 := by
  unfold nx at e
  by_cases h0 : (bst h n).1 = 0
  · rw [if_pos h0] at e; cases e
  · rw [if_neg h0] at e
    rcases bst_ok h n with h1 | ⟨h1, h2⟩
    · exact absurd h1 h0
    · cases e
      exact ⟨h1, rfl, h2, by rw [h2]; exact h0⟩
theorem lastOf_loop {N : Nat} (hN : 10 ≤ N) {n R : Nat} {W : Nat → Nat → Nat} {len many f : Nat → Int32} {a : AN} (hv : RW n R W len many) (hf : RH n f a) {x : Nat} (hx : x < 6) (K : Int32 → Option Int32) : ∀ (i k fu : Nat), n - k = i → k ≤ n → i < fu → fX12_lastOf_L6 N (nI x) len many f K fu (encN (nx (Hn W R a x) k)) (nI k) = K (encN (nx (Hn W R a x) n)) := by
  have hn : n ≤ 6 := hv.1
  have hm0 : many 0 = nI n := hv.2.2.2.2.2.2.1
  have hL : ∀ y, Hn W R a x y ≤ 20 := fun y => Hn_le (fun k h => (hf.2.2.2.2.2.2 k h).2.2.2.2) hv.2.2.1
  intro i
  induction i with
  | zero =>
    intro k fu h1 h2 h3
    have hk : k = n := by omega
    subst hk
    obtain ⟨fu, rfl⟩ : ∃ g, fu = g + 1 := ⟨fu - 1, by omega⟩
    unfold fX12_lastOf_L6 fX12_lastOf_6
    rw [hm0, if_pos (nI_le (Nat.le_refl _) (by omega))]
  | succ i ih =>
    intro k fu h1 h2 h3
    have hk : k < n := by omega
    obtain ⟨fu, rfl⟩ : ∃ g, fu = g + 1 := ⟨fu - 1, by omega⟩
    have ih' := ih (k + 1) fu (by omega) (by omega) (by omega)
    unfold fX12_lastOf_L6 fX12_lastOf_6
    rw [hm0, if_neg (nI_ge hk (by omega)), hearsIn_ok hN hv hf hx (show k < 6 by omega), ob_some]
    unfold fX12_lastOf_57 fX12_lastOf_52 fX12_lastOf_58
    rw [nI_1, ← ih']
    have hk1 : bst (Hn W R a x) (k + 1) = if (bst (Hn W R a x) k).1 < Hn W R a x k then (Hn W R a x k, k) else bst (Hn W R a x) k := rfl
    have hLk := hL k
    by_cases h0 : Hn W R a x k = 0
    · have e : nx (Hn W R a x) (k + 1) = nx (Hn W R a x) k := by
        unfold nx
        rw [hk1, if_neg (show ¬ (bst (Hn W R a x) k).1 < Hn W R a x k by omega)]
      rw [h0, enc0, if_pos rfl, e]
    · rw [encP h0, if_neg (m9_ne (by omega))]
      by_cases h4 : (bst (Hn W R a x) k).1 = 0
      · have e : nx (Hn W R a x) (k + 1) = some k := by
          unfold nx
          rw [hk1, if_pos (show (bst (Hn W R a x) k).1 < Hn W R a x k by omega), if_neg h0]
        rw [nx_none h4, e, if_pos (show encN none = -9 from rfl)]
        rfl
      · have hb := bst_ok (Hn W R a x) k
        rcases hb with hb | ⟨hb1, hb2⟩
        · exact absurd hb h4
        · rw [nx_some h4]
          have hLb := hL (bst (Hn W R a x) k).2
          rw [show encN (some (bst (Hn W R a x) k).2) = nI (bst (Hn W R a x) k).2 from rfl, if_neg (m9_ne (by omega)), hearsIn_ok hN hv hf hx (show (bst (Hn W R a x) k).2 < 6 by omega), ob_some, hb2, encP h4]
          rw [hb2] at hLb
          by_cases h5 : (bst (Hn W R a x) k).1 < Hn W R a x k
          · have e : nx (Hn W R a x) (k + 1) = some k := by
              unfold nx
              rw [hk1, if_pos h5, if_neg h0]
            rw [if_neg (nI_ge h5 (by omega)), e]
            rfl
          · have e : nx (Hn W R a x) (k + 1) = some (bst (Hn W R a x) k).2 := by
              unfold nx
              rw [hk1, if_neg h5, if_neg h4]
            rw [if_pos (nI_le (by omega) (by omega)), e]
            rfl
theorem lastOf_ok {N : Nat} (hN : 10 ≤ N) {n R : Nat} {W : Nat → Nat → Nat} {len many f : Nat → Int32} {a : AN} (hv : RW n R W len many) (hf : RH n f a) {x : Nat} (hx : x < 6) : fX12_lastOf N (nI x) len many f = some (encN (nx (Hn W R a x) n)) := by
  have hn : n ≤ 6 := hv.1
  exact lastOf_loop hN hv hf hx (fun z => some z) n 0 N (by omega) (by omega) (by omega)
/-- the state after a stroke at y, the beats g on -/
def stp (f : Nat → Int32) (y g : Nat) : Nat → Int32 := upd (upd (upd (upd f 1 (f 1 + nI g)) 2 (nI y)) 0 (f 0 + 1)) (29 + y) (f (29 + y) + 1)
theorem goes_ok {N : Nat} (hN : 10 ≤ N) {n R : Nat} {W : Nat → Nat → Nat} {S : Nat → Nat} {len many f : Nat → Int32} {a : AN} (hv : RW n R W len many) (hf : RH n f a) (hS : ∀ y, y < n → f (4 + y) = nI (S y)) {x : Nat} (hx : x < 6) (hp : f 2 = nI x) (hx0 : n ≠ 0) : fX12_goes N len many f = some (match nx (Hn W R a x) n with
    | none => (0, f)
    | some y => (1, stp f y (gp (Hn W R a x) S n))) := by
  have hn : n ≤ 6 := hv.1
  have hm0 : many 0 = nI n := hv.2.2.2.2.2.2.1
  unfold fX12_goes
  rw [hm0, if_neg (show ¬ nI n = (0 : Int32) from nI_ne0 (by omega) (by omega)), hp, lastOf_ok hN hv hf hx, ob_some]
  cases e : nx (Hn W R a x) n with
  | none => rw [if_pos (show encN none = -9 from rfl)]
  | some y =>
    obtain ⟨y1, y2, y3, y4⟩ := nx_lt e
    rw [show encN (some y) = nI y from rfl, if_neg (m9_ne (by omega)), hearsIn_ok hN hv hf hx (show y < 6 by omega), ob_some, encP y4]
    have i4 : (4 : Int32) + nI y = nI (4 + y) := by simp only [litI, nI_add]
    have i29 : (29 : Int32) + nI y = nI (29 + y) := by simp only [litI, nI_add]
    rw [i4, rdi_at (j := 4 + y) rfl (by omega) (by omega), hS y y1, i29]
    simp only [lti_eq, rdi_at (j := 29 + y) rfl (show 29 + y < 35 by omega) (by omega : (35 : Nat) < 2 ^ 31), wri_at (j := 29 + y) rfl (show 29 + y < 35 by omega) (by omega : (35 : Nat) < 2 ^ 31)]
    have e1 : upd (upd f 1 (f 1 + (nI (Hn W R a x y) + nI (S y)))) 2 (nI y) 0 = f 0 := by rw [upd_ne (by omega), upd_ne (by omega)]
    rw [e1]
    have e2 : upd (upd (upd f 1 (f 1 + (nI (Hn W R a x y) + nI (S y)))) 2 (nI y)) 0 (f 0 + 1) (29 + y) = f (29 + y) := by rw [upd_ne (by omega), upd_ne (by omega), upd_ne (by omega)]
    rw [e2]
    have e3 : nI (Hn W R a x y) + nI (S y) = nI (gp (Hn W R a x) S n) := by
      unfold gp
      rw [nI_add, ← y2, y3]
    rw [e3]
    rfl
theorem goes_no {N : Nat} {len many f : Nat → Int32} (h : many 0 = 0) : fX12_goes N len many f = some (0, f) := by
  unfold fX12_goes
  rw [if_pos h]
theorem stp_keep {f : Nat → Int32} {y g : Nat} {n : Nat} {a : AN} (hy : y < 6) (h : RH n f a) : RH n (stp f y g) a := by
  obtain ⟨f3, g1, fd, f16, hM, fm, hm⟩ := h
  have k : ∀ j, j ≠ 0 → j ≠ 1 → j ≠ 2 → j ≠ 29 + y → stp f y g j = f j := fun j h0 h1 h2 h3 => by
    unfold stp
    rw [upd_ne h3, upd_ne h0, upd_ne h2, upd_ne h1]
  refine ⟨(k 3 (by omega) (by omega) (by omega) (by omega)).trans f3, g1, fun v hv => (k _ (by omega) (by omega) (by omega) (by omega)).trans (fd v hv), (k 16 (by omega) (by omega) (by omega) (by omega)).trans f16, hM, fun j hj => ?_, hm⟩
  obtain ⟨q1, q2, q3⟩ := fm j hj
  exact ⟨(k _ (by omega) (by omega) (by omega) (by omega)).trans q1, (k _ (by omega) (by omega) (by omega) (by omega)).trans q2, (k _ (by omega) (by omega) (by omega) (by omega)).trans q3⟩
theorem stp_at {f : Nat → Int32} {y g : Nat} (hy : y < 6) : stp f y g 0 = f 0 + 1 ∧ stp f y g 1 = f 1 + nI g ∧ stp f y g 2 = nI y ∧ (∀ j, j < 6 → stp f y g (4 + j) = f (4 + j)) ∧ (∀ j, j < 6 → stp f y g (29 + j) = if j = y then f (29 + j) + 1 else f (29 + j)) := by
  unfold stp
  refine ⟨by rw [upd_ne (by omega), upd_eq rfl], by rw [upd_ne (by omega), upd_ne (by omega), upd_ne (by omega), upd_eq rfl], by rw [upd_ne (by omega), upd_ne (by omega), upd_eq rfl], fun j hj => by rw [upd_ne (by omega), upd_ne (by omega), upd_ne (by omega), upd_ne (by omega)], fun j hj => ?_⟩
  by_cases h : j = y
  · subst h
    rw [upd_eq rfl, if_pos rfl]
  · rw [if_neg h, upd_ne (by omega), upd_ne (by omega), upd_ne (by omega), upd_ne (by omega)]
