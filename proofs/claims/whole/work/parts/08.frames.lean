/-! ===== worlds with a part that isn't told cell by cell ===== -/
def SW (wd wd' : va_W) : Prop := ∀ A : Nat → Prop, va_D A wd → (∀ q ∈ wd', q ∈ wd) ∧ va_D A wd'
theorem SW.refl (wd : va_W) : SW wd wd := fun _ h => ⟨fun _ h => h, h⟩
theorem SW.trans {a b c : va_W} (h1 : SW a b) (h2 : SW b c) : SW a c := fun A h => ⟨fun q hq => (h1 A h).1 q ((h2 A (h1 A h).2).1 q hq), (h2 A (h1 A h).2).2⟩
theorem SW.idx {wd w : va_W} (is : List Nat) (h : is.map (fun i => wd[i]?) = w.map some) (hn : va_nd is = true) : SW wd w := by
  intro A hD
  refine ⟨fun q hq => ?_, hD.sub is hn h⟩
  have h1 : some q ∈ is.map (fun i => wd[i]?) := by rw [h]; exact List.mem_map_of_mem hq
  obtain ⟨i, -, hi⟩ := List.mem_map.mp h1
  exact List.mem_of_getElem? hi
theorem va_D.left {A : Nat → Prop} {a b : va_W} (h : va_D A (a ++ b)) : va_D A a :=
  ⟨fun i j p q hi hj e => h.1 i j p q (by rw [List.getElem?_append_left (List.getElem?_eq_some_iff.mp hi).1]; exact hi) (by rw [List.getElem?_append_left (List.getElem?_eq_some_iff.mp hj).1]; exact hj) e,
   fun k q hk => h.2 k q (by rw [List.getElem?_append_left (List.getElem?_eq_some_iff.mp hk).1]; exact hk)⟩
theorem va_D.right {A : Nat → Prop} {a b : va_W} (h : va_D A (a ++ b)) : va_D A b := by
  have key : ∀ (k : Nat) (q : Nat × va_E), b[k]? = some q → (a ++ b)[a.length + k]? = some q := fun k q hk => by
    rw [List.getElem?_append_right (by omega), Nat.add_sub_cancel_left]; exact hk
  exact ⟨fun i j p q hi hj e => by have := h.1 _ _ p q (key i p hi) (key j q hj) e; omega, fun k q hk => h.2 _ q (key k q hk)⟩
theorem va_D.cross {A : Nat → Prop} {a b : va_W} (h : va_D A (a ++ b)) {p q : Nat × va_E} (hp : p ∈ a) (hq : q ∈ b) : p.1 ≠ q.1 := by
  obtain ⟨i, hi⟩ := List.getElem?_of_mem hp
  obtain ⟨j, hj⟩ := List.getElem?_of_mem hq
  intro e
  have hil := (List.getElem?_eq_some_iff.mp hi).1
  have := h.1 i (a.length + j) p q (by rw [List.getElem?_append_left hil]; exact hi) (by rw [List.getElem?_append_right (by omega), Nat.add_sub_cancel_left]; exact hj) e
  omega
theorem SW.app {a a' b b' : va_W} (h1 : SW a a') (h2 : SW b b') : SW (a ++ b) (a' ++ b') := by
  intro A hD
  obtain ⟨m1, d1⟩ := h1 A hD.left
  obtain ⟨m2, d2⟩ := h2 A hD.right
  refine ⟨fun q hq => ?_, va_D.app d1 d2 (fun i j p q hi hj => hD.cross (m1 p (List.mem_of_getElem? hi)) (m2 q (List.mem_of_getElem? hj)))⟩
  rcases List.mem_append.mp hq with h | h
  · exact List.mem_append_left _ (m1 q h)
  · exact List.mem_append_right _ (m2 q h)
theorem SW.comm (a b : va_W) : SW (a ++ b) (b ++ a) := by
  intro A hD
  refine ⟨fun q hq => ?_, va_D.app hD.right hD.left (fun i j p q hi hj e => hD.cross (List.mem_of_getElem? hj) (List.mem_of_getElem? hi) e.symm)⟩
  rcases List.mem_append.mp hq with h | h
  · exact List.mem_append_right _ h
  · exact List.mem_append_left _ h
theorem SW.eq {a b : va_W} (h : a = b) : SW a b := h ▸ SW.refl a
/-- a ++ (h ++ L) with L focused: (c ++ a) ++ (h ++ x) -/
theorem SW.focus {a h L c x : va_W} (hL : SW L (c ++ x)) : SW (a ++ (h ++ L)) ((c ++ a) ++ (h ++ x)) := by
  refine SW.trans (SW.app (SW.refl a) (SW.app (SW.refl h) hL)) ?_
  refine SW.trans (b := a ++ (c ++ (h ++ x))) (SW.app (SW.refl a) ?_) ?_
  · rw [← List.append_assoc, ← List.append_assoc]
    exact SW.app (SW.comm h c) (SW.refl x)
  · rw [← List.append_assoc]
    exact SW.app (SW.comm a c) (SW.refl _)
theorem SW.unfocus {a h L c x : va_W} (hL : SW (c ++ x) L) : SW ((c ++ a) ++ (h ++ x)) (a ++ (h ++ L)) := by
  refine SW.trans (b := a ++ (h ++ (c ++ x))) ?_ (SW.app (SW.refl a) (SW.app (SW.refl h) hL))
  refine SW.trans (b := a ++ (c ++ (h ++ x))) ?_ (SW.app (SW.refl a) ?_)
  · rw [← List.append_assoc a c]
    exact SW.app (SW.comm c a) (SW.refl _)
  · rw [← List.append_assoc, ← List.append_assoc]
    exact SW.app (SW.comm c h) (SW.refl x)
theorem SW.perm {a b : va_W} (h : a.Perm b) : SW a b := by
  induction h with
  | nil => exact SW.refl _
  | cons x _ ih => exact SW.app (SW.refl [x]) ih
  | swap x y l => exact SW.app (SW.comm [y] [x]) (SW.refl l)
  | trans _ _ ih1 ih2 => exact SW.trans ih1 ih2
theorem nd_range (n : Nat) : ∀ a : Nat, va_nd ((List.range' a n)) = true := by
  induction n with
  | zero => intro a; rfl
  | succ n ih =>
    intro a
    simp only [List.range'_succ, va_nd, Bool.and_eq_true, decide_eq_true_eq]
    refine ⟨fun h => ?_, ih (a + 1)⟩
    have := List.mem_range'_1.mp h
    omega
theorem range_left (a b : va_W) : (List.range' 0 a.length).map (fun i => (a ++ b)[i]?) = a.map some := by
  apply List.ext_getElem
  · simp
  · intro i h1 h2
    simp at h1
    simp [List.getElem?_append_left h1]
theorem range_right (a b : va_W) : (List.range' a.length b.length).map (fun i => (a ++ b)[i]?) = b.map some := by
  apply List.ext_getElem
  · simp
  · intro i h1 h2
    simp at h1
    simp [List.getElem?_append_right, h1]
section VF
variable {X : XT} {cc : ByteArray} {own : String} {ce sl : Nat} {wd wa wb : va_W} {lv : List (Option Value)} {pc : Nat} {st stk : List Value}
theorem V.sel {wd' : va_W} (h : SW wd wd') (k : V X cc own ce sl wd' lv pc st) : V X cc own ce sl wd lv pc st :=
  fun p e s m below meth c s₁ B hml ho hK hN H locs ls hP hD hS hl => k p e s m below meth c s₁ B hml ho hK hN H locs ls (fun i q hi => by
    obtain ⟨j, hj⟩ := List.getElem?_of_mem ((h _ hD).1 q (List.mem_of_getElem? hi))
    exact hP j q hj) (h _ hD).2 hS hl
/-- a call of a method of a part of the world, by any choice of that part -/
theorem V.callP {k : KT} {n idx b ci : Nat} {fs As : List Value} {W0 wr : va_W} {Qo : Option Value → va_W → Prop} (hp : SW wd (W0 ++ wr)) (hc : Ct (xl X, xG X, k, W0, .ref b :: As, Qo)) (L : LkV own idx k n) (hd : decode cc pc = .ok (.invokevirtual idx, 3)) (hlev : Nat.ble (kd k + 1) (kd (xk X)) = true) (hcs : Nat.ble (ce + kmc k) (kmc (xk X)) = true ∧ Nat.ble (sl + kms k) (kms (xk X)) = true) (hstk : stk = As.reverse ++ .ref b :: st) (hn : As.length = n) (hsum : Nat.ble ((st.map fun v => v.category).sum) 8 = true)
    (hq : (b, .inr (ci, fs)) ∈ W0) (hci : (vwCl[ci]?).map (fun c => c.1) = some (ky k).cls)
    (kk : ∀ (r : Option Value) (u : va_W), Qo r u → V X cc own (ce + kmc k) (sl + kms k) (wr ++ u) lv (pc + 3) (r.toList ++ st)) : V X cc own ce sl wd lv pc stk := by
  refine V.sel hp ?_
  obtain ⟨q, hq⟩ := List.getElem?_of_mem (List.mem_append_left wr hq)
  exact V.callV hc L hd hlev hcs hstk hn hsum hq hci (List.range' 0 W0.length) (List.range' W0.length wr.length) (range_left W0 wr) (range_right W0 wr) (nd_range _ _) (nd_range _ _) (by
    rw [List.all_eq_true]
    intro i hi
    have h1 := List.mem_range'_1.mp hi
    simp only [Bool.not_eq_true', List.elem_eq_mem, decide_eq_false_iff_not]
    intro h2
    have h3 := List.mem_range'_1.mp h2
    omega) kk
theorem V.callVvP {O O' : Type} {out : O} {fc : Option O'} {kf : O' → Option O} {k : KT} {n idx b ci : Nat} {fs : List Value} (As : List Value) {W0 wr : va_W} {W1 wd' : O' → va_W} (hp : SW wd (W0 ++ wr)) (hf : fc.bind kf = some out) (hc : ∀ o, fc = some o → Ct (xl X, xG X, k, W0, .ref b :: As, qE none (W1 o))) (L : LkV own idx k n) (hd : decode cc pc = .ok (.invokevirtual idx, 3)) {k0 : KT} (hX : xk X = k0) (hlev : Nat.ble (kd k + 1) (kd k0) = true) (hz : kmc k = 0 ∧ kms k = 0) (hce : ce = 0 ∧ sl = 0) (hstk : stk = As.reverse ++ .ref b :: st) (hn : As.length = n) (hsum : Nat.ble ((st.map fun v => v.category).sum) 8 = true)
    (hq : (b, .inr (ci, fs)) ∈ W0) (hci : (vwCl[ci]?).map (fun c => c.1) = some (ky k).cls)
    (hp' : ∀ o, SW (W1 o ++ wr) (wd' o)) (kk : ∀ o, kf o = some out → V X cc own ce sl (wd' o) lv (pc + 3) st) : V X cc own ce sl wd lv pc stk := by
  obtain ⟨o, h1, h2⟩ := ob_ok hf
  obtain ⟨z1, z2⟩ := hz
  obtain ⟨rfl, rfl⟩ := hce
  refine V.callP hp (hc o h1) L hd (by rw [hX]; exact hlev) ⟨by rw [z1]; exact Nat.ble_eq_true_of_le (Nat.zero_le _), by rw [z2]; exact Nat.ble_eq_true_of_le (Nat.zero_le _)⟩ hstk hn hsum hq hci ?_
  intro r' u hq'
  obtain ⟨rfl, rfl⟩ := hq'
  rw [z1, z2]
  exact V.sel (SW.trans (SW.comm _ _) (hp' o)) (kk o h2)
theorem V.callViP {O O' : Type} {out : O} {fc : Option O'} {kf : O' → Option O} {k : KT} {n idx b ci : Nat} {fs : List Value} (As : List Value) {W0 wr : va_W} {r : O' → Int32} {W1 wd' : O' → va_W} (hp : SW wd (W0 ++ wr)) (hf : fc.bind kf = some out) (hc : ∀ o, fc = some o → Ct (xl X, xG X, k, W0, .ref b :: As, qE (some (.int (r o))) (W1 o))) (L : LkV own idx k n) (hd : decode cc pc = .ok (.invokevirtual idx, 3)) {k0 : KT} (hX : xk X = k0) (hlev : Nat.ble (kd k + 1) (kd k0) = true) (hz : kmc k = 0 ∧ kms k = 0) (hce : ce = 0 ∧ sl = 0) (hstk : stk = As.reverse ++ .ref b :: st) (hn : As.length = n) (hsum : Nat.ble ((st.map fun v => v.category).sum) 8 = true)
    (hq : (b, .inr (ci, fs)) ∈ W0) (hci : (vwCl[ci]?).map (fun c => c.1) = some (ky k).cls)
    (hp' : ∀ o, SW (W1 o ++ wr) (wd' o)) (kk : ∀ o, kf o = some out → V X cc own ce sl (wd' o) lv (pc + 3) (.int (r o) :: st)) : V X cc own ce sl wd lv pc stk := by
  obtain ⟨o, h1, h2⟩ := ob_ok hf
  obtain ⟨z1, z2⟩ := hz
  obtain ⟨rfl, rfl⟩ := hce
  refine V.callP hp (hc o h1) L hd (by rw [hX]; exact hlev) ⟨by rw [z1]; exact Nat.ble_eq_true_of_le (Nat.zero_le _), by rw [z2]; exact Nat.ble_eq_true_of_le (Nat.zero_le _)⟩ hstk hn hsum hq hci ?_
  intro r' u hq'
  obtain ⟨rfl, rfl⟩ := hq'
  rw [z1, z2]
  exact V.sel (SW.trans (SW.comm _ _) (hp' o)) (kk o h2)
/-- told cells wa beside an untold part wb -/
theorem SW.tail {wa wb W0 wr : va_W} (isC isR : List Nat) (hC : isC.map (fun i => wa[i]?) = W0.map some) (hR : isR.map (fun i => wa[i]?) = wr.map some) (hn : va_nd (isC ++ isR) = true) : SW (wa ++ wb) (W0 ++ (wr ++ wb)) := by
  rw [← List.append_assoc]
  refine SW.app (SW.idx (isC ++ isR) ?_ hn) (SW.refl wb)
  rw [List.map_append, List.map_append, hC, hR]
theorem SW.tail' {wb W1 wr wd' : va_W} (pm : List Nat) (h : pm.map (fun i => (wr ++ W1)[i]?) = wd'.map some) (hn : va_nd pm = true) : SW (W1 ++ (wr ++ wb)) (wd' ++ wb) := by
  rw [← List.append_assoc]
  exact SW.app (SW.trans (SW.comm _ _) (SW.idx pm h hn)) (SW.refl wb)
/-- and where the callee has the untold part for its own -/
theorem SW.chunk {wa ch W0 wr : va_W} (isC isR : List Nat) (hC : isC.map (fun i => wa[i]?) = W0.map some) (hR : isR.map (fun i => wa[i]?) = wr.map some) (hn : va_nd (isC ++ isR) = true) : SW (wa ++ ch) ((W0 ++ ch) ++ wr) := by
  refine SW.trans (SW.tail isC isR hC hR hn) ?_
  rw [List.append_assoc]
  exact SW.app (SW.refl W0) (SW.comm wr ch)
theorem SW.chunk' {ch W1 wr wd' : va_W} (pm : List Nat) (h : pm.map (fun i => (wr ++ W1)[i]?) = wd'.map some) (hn : va_nd pm = true) : SW ((W1 ++ ch) ++ wr) (wd' ++ ch) := by
  refine SW.trans (b := W1 ++ (wr ++ ch)) ?_ (SW.tail' pm h hn)
  rw [List.append_assoc]
  exact SW.app (SW.refl W1) (SW.comm ch wr)
end VF
section VG
variable {X : XT} {cc : ByteArray} {own : String} {ce sl : Nat} {wd wa wb : va_W} {lv : List (Option Value)} {pc : Nat} {st stk : List Value}
theorem V.eqw {wd' : va_W} (h : wd = wd') (k : V X cc own ce sl wd' lv pc st) : V X cc own ce sl wd lv pc st := h ▸ k
theorem V.callNP {k : KT} {host : String} {n idx b : Nat} {As : List Value} {W0 wr : va_W} {Qo : Option Value → va_W → Prop} (hp : SW wd (W0 ++ wr)) (hc : Ct (xl X, xG X, k, W0, .ref b :: As, Qo)) (L : LkN own host idx k n) (hd : decode cc pc = .ok (.invokespecial idx, 3)) {k0 : KT} (hX : xk X = k0) (hlev : Nat.ble (kd k + 1) (kd k0) = true) (hcs : Nat.ble (ce + kmc k) (kmc k0) = true ∧ Nat.ble (sl + kms k) (kms k0) = true) (hstk : stk = As.reverse ++ .ref b :: st) (hn : As.length = n) (hsum : Nat.ble ((st.map fun v => v.category).sum) 8 = true)
    (kk : ∀ (r : Option Value) (u : va_W), Qo r u → V X cc own (ce + kmc k) (sl + kms k) (wr ++ u) lv (pc + 3) (r.toList ++ st)) : V X cc own ce sl wd lv pc stk := by
  refine V.sel hp ?_
  exact V.callN hc L hd (by rw [hX]; exact hlev) (by rw [hX]; exact hcs) hstk hn hsum (List.range' 0 W0.length) (List.range' W0.length wr.length) (range_left W0 wr) (range_right W0 wr) (nd_range _ _) (nd_range _ _) (by
    rw [List.all_eq_true]
    intro i hi
    have h1 := List.mem_range'_1.mp hi
    simp only [Bool.not_eq_true', List.elem_eq_mem, decide_eq_false_iff_not]
    intro h2
    have h3 := List.mem_range'_1.mp h2
    omega) kk
theorem V.callIP {k : KT} {n idx b : Nat} {As : List Value} {W0 wr : va_W} {Qo : Option Value → va_W → Prop} (hp : SW wd (W0 ++ wr)) (hc : Ct (xl X, xG X, k, W0, .ref b :: As, Qo)) (L : LkI own idx k n) (hd : decode cc pc = .ok (.invokespecial idx, 3)) {k0 : KT} (hX : xk X = k0) (hlev : Nat.ble (kd k + 1) (kd k0) = true) (hcs : Nat.ble (ce + kmc k) (kmc k0) = true ∧ Nat.ble (sl + kms k) (kms k0) = true) (hstk : stk = As.reverse ++ .ref b :: st) (hn : As.length = n) (hsum : Nat.ble ((st.map fun v => v.category).sum) 8 = true)
    (kk : ∀ (r : Option Value) (u : va_W), Qo r u → V X cc own (ce + kmc k) (sl + kms k) (wr ++ u) lv (pc + 3) (r.toList ++ st)) : V X cc own ce sl wd lv pc stk := by
  refine V.sel hp ?_
  exact V.callI hc L hd (by rw [hX]; exact hlev) (by rw [hX]; exact hcs) hstk hn hsum (List.range' 0 W0.length) (List.range' W0.length wr.length) (range_left W0 wr) (range_right W0 wr) (nd_range _ _) (nd_range _ _) (by
    rw [List.all_eq_true]
    intro i hi
    have h1 := List.mem_range'_1.mp hi
    simp only [Bool.not_eq_true', List.elem_eq_mem, decide_eq_false_iff_not]
    intro h2
    have h3 := List.mem_range'_1.mp h2
    omega) kk
/-- a made cell goes ahead of the untold part -/
theorem SW.ahead (a c b : va_W) : SW ((a ++ c) ++ b) ((a ++ b) ++ c) := by
  rw [List.append_assoc, List.append_assoc]
  exact SW.app (SW.refl a) (SW.comm c b)
/-- the made object, out of an explicit list: its own cell, the rest -/
theorem SW.last {a b : va_W} : SW (a ++ b) (b ++ a) := SW.comm a b
end VG
