/-! ===== pure: as told ===== -/
/-- the state as told, begun at x -/
def toldA (v : AV) (x : Nat) : AN := ((if vN v = 0 then 0 else 1), 0, x, 0, 0, (fun y => if y < vN v then vL v y else 0), vD v, (fun _ => 0), (fun _ => 0), (fun _ => 0), (fun y => if vN v ≠ 0 ∧ y = x then 1 else 0))
theorem toldA_ok {v : AV} (h : OkV v) {x : Nat} (hx : x < vN v ∨ (vN v = 0 ∧ x = 0)) : OkA (vN v) (toldA v x) := by
  obtain ⟨o1, o2, o3, o4, o5, o6, o7, o8, o9⟩ := h
  refine ⟨?_, Nat.zero_le _, hx, Nat.zero_le _, Nat.zero_le _, fun y _ => ?_, fun k hk => absurd hk (Nat.not_lt_zero _), o9, fun h0 => if_pos h0⟩
  · show (if vN v = 0 then 0 else 1) ≤ 9999
    split <;> omega
  · show (if y < vN v then vL v y else 0) ≤ 9
    have := o8 y
    split <;> omega
theorem ast0 {K : (Nat → Int32) → Option (Nat → Int32)} : ∀ (r i : Nat) (g : Nat → Int32) (n : Nat), i + r = 35 → r < n → fX12_asTold_L2 K n (nI i) g = K (fun j => if i ≤ j ∧ j < 35 then 0 else g j) := by
  intro r
  induction r with
  | zero =>
    intro i g n hi hn
    obtain ⟨n, rfl⟩ : ∃ k, n = k + 1 := ⟨n - 1, by omega⟩
    obtain rfl : i = 35 := by omega
    unfold fX12_asTold_L2 fX12_asTold_2
    rw [if_pos (show (35 : Int32) ≤ nI 35 by decide)]
    congr 1
    funext j
    rw [if_neg (by omega)]
  | succ r ih =>
    intro i g n hi hn
    obtain ⟨n, rfl⟩ : ∃ k, n = k + 1 := ⟨n - 1, by omega⟩
    unfold fX12_asTold_L2 fX12_asTold_2
    rw [if_neg (show ¬ (35 : Int32) ≤ nI i from nI_ge (a := i) (b := 35) (by omega) (by omega))]
    rw [wri_at (j := i) rfl (by omega) (by omega)]
    rw [show nI i + 1 = nI (i + 1) from nI_1 i, ih (i + 1) _ n (by omega) (by omega)]
    congr 1
    funext j
    rw [upd_at]
    by_cases h1 : j = i
    · rw [if_neg (by omega), if_pos h1, if_pos (by omega)]
    · rw [if_neg h1]
      by_cases h2 : i + 1 ≤ j ∧ j < 35
      · rw [if_pos h2, if_pos (by omega)]
      · rw [if_neg h2, if_neg (by omega)]
theorem ast1 {nn : Nat} (hnn : nn ≤ 6) {deaf many slow : Nat → Int32} (hm : many 0 = nI nn) {K : (Nat → Int32) → Option (Nat → Int32)} : ∀ (r i : Nat) (g : Nat → Int32) (n : Nat), i + r = nn → r < n → fX12_asTold_L20 deaf many slow K n (nI i) g = K (fun j => if 4 + i ≤ j ∧ j < 4 + nn then slow (j - 4) else if 10 + i ≤ j ∧ j < 10 + nn then deaf (j - 10) else g j) := by
  intro r
  induction r with
  | zero =>
    intro i g n hi hn
    obtain ⟨n, rfl⟩ : ∃ k, n = k + 1 := ⟨n - 1, by omega⟩
    obtain rfl : i = nn := by omega
    unfold fX12_asTold_L20 fX12_asTold_20
    rw [hm, if_pos (nI_le (Nat.le_refl _) (by omega))]
    congr 1
    funext j
    rw [if_neg (by omega), if_neg (by omega)]
  | succ r ih =>
    intro i g n hi hn
    obtain ⟨n, rfl⟩ : ∃ k, n = k + 1 := ⟨n - 1, by omega⟩
    have i4 : (4 : Int32) + nI i = nI (4 + i) := by simp only [litI, nI_add]
    have i10 : (10 : Int32) + nI i = nI (10 + i) := by simp only [litI, nI_add]
    unfold fX12_asTold_L20 fX12_asTold_20
    rw [hm, if_neg (nI_ge (by omega) (by omega)), rdi_at (j := i) rfl (by omega) (by omega), i4, wri_at (j := 4 + i) rfl (by omega) (by omega), rdi_at (j := i) rfl (by omega) (by omega), i10, wri_at (j := 10 + i) rfl (by omega) (by omega)]
    rw [show nI i + 1 = nI (i + 1) from nI_1 i, ih (i + 1) _ n (by omega) (by omega)]
    congr 1
    funext j
    simp only [upd_at]
    by_cases h1 : j = 4 + i
    · subst h1
      rw [if_neg (by omega), if_neg (by omega), if_neg (by omega), if_pos rfl, if_pos (by omega)]
      congr 1
      omega
    · by_cases h2 : j = 10 + i
      · subst h2
        rw [if_neg (by omega), if_neg (by omega), if_pos rfl, if_neg (by omega), if_pos (by omega)]
        congr 1
        omega
      · rw [if_neg h2, if_neg h1]
        by_cases h3 : 4 + (i + 1) ≤ j ∧ j < 4 + nn
        · rw [if_pos h3, if_pos (by omega)]
        · rw [if_neg h3, if_neg (show ¬ (4 + i ≤ j ∧ j < 4 + nn) by omega)]
          by_cases h4 : 10 + (i + 1) ≤ j ∧ j < 10 + nn
          · rw [if_pos h4, if_pos (by omega)]
          · rw [if_neg h4, if_neg (by omega)]
/-- what of the valley of the reference the beginning reads -/
def RT (v : AV) (deaf many slow : Nat → Int32) : Prop := OkV v ∧ many 0 = nI (vN v) ∧ ∀ a, a < vN v → slow a = nI (vL v a) ∧ deaf a = if vD v a then 1 else 0
theorem asTold_ok {N : Nat} (hN : 400 ≤ N) {v : AV} {deaf many slow : Nat → Int32} (h : RT v deaf many slow) {x : Nat} (hx : x < vN v ∨ (vN v = 0 ∧ x = 0)) (w : Nat → Int32) : ∃ w', fX12_asTold N (nI x) deaf many slow w = some w' ∧ RF w' (toldA v x) := by
  obtain ⟨hOk, hm, hs⟩ := h
  have hn : vN v ≤ 6 := hOk.1
  have hD := hOk.2.2.2.2.2.2.2.2
  unfold fX12_asTold
  rw [show (0 : Int32) = nI 0 from rfl, ast0 35 0 w N (by omega) (by omega), ast1 hn hm (vN v) 0 _ N (by omega) (by omega), hm]
  unfold fX12_asTold_83
  have hf4 : ∀ y, y < 6 → (if 4 + 0 ≤ 4 + y ∧ 4 + y < 4 + vN v then slow (4 + y - 4) else (if 10 + 0 ≤ 4 + y ∧ 4 + y < 10 + vN v then deaf (4 + y - 10) else (if 0 ≤ 4 + y ∧ 4 + y < 35 then nI 0 else w (4 + y)))) = nI (if y < vN v then vL v y else 0) := by
    intro y hy
    by_cases c : y < vN v
    · rw [if_pos (by omega), if_pos c, show 4 + y - 4 = y by omega]
      exact (hs y c).1
    · rw [if_neg (by omega), if_neg (by omega), if_pos (by omega), if_neg c]
  have hf10 : ∀ y, y < 6 → (if 4 + 0 ≤ 10 + y ∧ 10 + y < 4 + vN v then slow (10 + y - 4) else (if 10 + 0 ≤ 10 + y ∧ 10 + y < 10 + vN v then deaf (10 + y - 10) else (if 0 ≤ 10 + y ∧ 10 + y < 35 then nI 0 else w (10 + y)))) = if vD v y then 1 else 0 := by
    intro y hy
    rw [if_neg (by omega)]
    by_cases c : y < vN v
    · rw [if_pos (by omega), show 10 + y - 10 = y by omega]
      exact (hs y c).2
    · rw [if_neg (by omega), if_pos (by omega), hD y (by omega)]
      rfl
  have hfz : ∀ y, y < 35 → (y < 4 ∨ 16 ≤ y) → (if 4 + 0 ≤ y ∧ y < 4 + vN v then slow (y - 4) else (if 10 + 0 ≤ y ∧ y < 10 + vN v then deaf (y - 10) else (if 0 ≤ y ∧ y < 35 then nI 0 else w y))) = nI 0 := by
    intro y hy hc
    rw [if_neg (by omega), if_neg (by omega), if_pos (by omega)]
  generalize (fun j => if 4 + 0 ≤ j ∧ j < 4 + vN v then slow (j - 4) else (if 10 + 0 ≤ j ∧ j < 10 + vN v then deaf (j - 10) else (if 0 ≤ j ∧ j < 35 then nI 0 else w j))) = g at *
  by_cases h0 : vN v = 0
  · rw [if_pos (by rw [h0]; exact nI_le (Nat.le_refl _) (by omega))]
    refine ⟨_, rfl, ?_⟩
    have hx0 : x = 0 := by omega
    subst hx0
    refine ⟨(hfz 0 (by omega) (by omega)).trans (by unfold toldA aK; rw [if_pos h0]), hfz 1 (by omega) (by omega), hfz 2 (by omega) (by omega), hfz 3 (by omega) (by omega), hf4, hf10, hfz 16 (by omega) (by omega), fun k hk => absurd hk (Nat.not_lt_zero _), fun y hy => (hfz (29 + y) (by omega) (by omega)).trans ?_⟩
    show nI 0 = if vN v ≠ 0 ∧ y = 0 then 1 else 0
    rw [if_neg (fun c => c.1 h0)]
    rfl
  · have hxn : x < vN v := by omega
    have i29 : (29 : Int32) + nI x = nI (29 + x) := by simp only [litI, nI_add]
    rw [if_neg (show ¬ nI (vN v) ≤ nI 0 from nI_ge (by omega) (by omega)), lti_eq, lti_eq, i29, wri_at (j := 29 + x) rfl (by omega) (by omega)]
    refine ⟨_, rfl, ?_⟩
    refine ⟨?_, ?_, ?_, ?_, fun y hy => ?_, fun y hy => ?_, ?_, fun k hk => absurd hk (Nat.not_lt_zero _), fun y hy => ?_⟩
    · rw [upd_ne (by omega), upd_ne (by omega), upd_eq rfl]
      unfold toldA aK
      rw [if_neg h0]
      rfl
    · rw [upd_ne (by omega), upd_ne (by omega), upd_ne (by omega)]
      exact hfz 1 (by omega) (by omega)
    · rw [upd_ne (by omega), upd_eq rfl]
      rfl
    · rw [upd_ne (by omega), upd_ne (by omega), upd_ne (by omega)]
      exact hfz 3 (by omega) (by omega)
    · rw [upd_ne (by omega), upd_ne (by omega), upd_ne (by omega)]
      exact hf4 y hy
    · rw [upd_ne (by omega), upd_ne (by omega), upd_ne (by omega)]
      exact hf10 y hy
    · rw [upd_ne (by omega), upd_ne (by omega), upd_ne (by omega)]
      exact hfz 16 (by omega) (by omega)
    · show _ = if vN v ≠ 0 ∧ y = x then 1 else 0
      by_cases c : y = x
      · rw [upd_eq (by omega), if_pos ⟨h0, c⟩]
      · rw [upd_ne (by omega), upd_ne (by omega), upd_ne (by omega)]
        exact (hfz (29 + y) (by omega) (by omega)).trans (if_neg (show ¬ (vN v ≠ 0 ∧ y = x) from fun q => c q.2)).symm
theorem mkRT {d : DS} {m : MS} {v : AV} (h : InvV d m v) : RT v (m_deaf m) (m_many m) (m_slow m) := by
  obtain ⟨o, n1, n2, n3, n4, n5, n6, n7, n8, n9, n10⟩ := h
  exact ⟨o, n2, n9⟩
theorem told_lay {N : Nat} (hN : 10 ≤ N) {d : DS} {m : MS} {v : AV} (hV : InvV d m v) (x : Nat) (gap hear next slow : Nat → Int32) : ∃ D gap' hear' next' slow', fX11_layAsTold N ((dF d).2.2.2.2.1) ((dF d).2.2.2.2.2.1) ((dV d).1) ((dV d).2.2.1) gap hear next slow ((dF d).2.2.2.2.2.2.1) ((dF d).2.2.2.2.2.2.2.1) ((dF d).2.2.2.2.2.2.2.2.1) ((dF d).2.2.2.2.2.2.2.2.2.1) ((dV d).2.2.2.2.2.2.2) = some (nI (vN v), nI D, gap', hear', next', slow') ∧ CH (Hn (vW v) (vR v) (toldA v x)) hear' ∧ CN (vN v) (aS (toldA v x)) (Hn (vW v) (vR v) (toldA v x)) gap' next' := by
  obtain ⟨⟨o1, o2, o3, o4, o5, o6, o7, o8, o9⟩, n1, n2, n3, n4, n5, n6, n7, n8, n9, ⟨D, hD, n10, hB⟩, n11, n12⟩ := hV
  obtain ⟨gap', hear', next', slow', q1, q2, q3, q4⟩ := lay_ok hN (W := vW v) (R := vR v) (G := 0) (D := D) (M := 0) (n := vN v) (B := vD v) (F := fun _ => 0) (T := fun _ => 0) (L := fun _ => 0) (S := aS (toldA v x)) (mb := (dF d).2.2.2.2.2.2.1) (mf := (dF d).2.2.2.2.2.2.2.1) (mt := (dF d).2.2.2.2.2.2.2.2.1) (sl := (dF d).2.2.2.2.2.2.2.2.2.1) (ways := (dV d).2.2.2.2.2.2.2) o1 o7 o3 (by omega) hD hB n7 (by omega) (fun k hk => absurd hk (Nat.not_lt_zero _)) (fun k hk => absurd hk (Nat.not_lt_zero _)) (fun y hy => (n12 y hy).trans (congrArg nI (if_pos hy).symm)) gap hear next slow
  refine ⟨D, gap', hear', next', slow', ?_, q2, q3⟩
  unfold fX11_layAsTold
  rw [n10, n11, n1, n3]
  show Option.bind (fX0_lay N (nI 0) gap hear next slow (nI (vN v)) (nI (vR v)) ((dV d).2.2.2.2.2.2.2) (nI D) (nI 0) ((dF d).2.2.2.2.2.2.1) ((dF d).2.2.2.2.2.2.2.1) ((dF d).2.2.2.2.2.2.2.2.1) ((dF d).2.2.2.2.2.2.2.2.2.1)) _ = _
  rw [q1]
  rfl
