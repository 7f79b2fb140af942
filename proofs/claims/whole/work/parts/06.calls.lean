/-! ===== calls by contract ===== -/
theorem kws_good {k : KT} (h : Cond.code (ky k) (kc k) (kn k) (kr k) ∈ gt) : GoodIn gt (kws k) := by
  intro w hw
  rcases List.mem_cons.mp hw with rfl | hw
  · exact ⟨h, good_of_word (List.mem_filter.mp h).2⟩
  · exact ⟨hw, good_of_word (List.mem_filter.mp hw).2⟩
theorem Pz.blind {G : GT} {W0 : va_W} {av : List Value} {sz : Nat} : FrameBlind (Pz G W0 av sz) := fun a U g mk q => by
  obtain ⟨q0, q1, qP, qK, qD, qN⟩ := q
  exact ⟨q0, q1, qP, va_K.moved (u := U) (U := U.calling g mk a) (Vm.Alike.refl U.vm) qK, qD, Nz.same (u := U) (U := U.calling g mk a) rfl qN⟩
/-- what a call needs of the tables: (class that calls, index) to the method k of n arguments -/
def LkB (k : KT) (n : Nat) : Prop := Cond.code (ky k) (kc k) (kn k) (kr k) ∈ gt ∧ Cond.initialized (ky k).cls ∈ gt ∧ ((ky k).cls ≠ "java/lang/invoke/MethodHandle" ∧ (ky k).cls ≠ "java/lang/invoke/VarHandle") ∧ (parseMethodDescriptor (ky k).desc).map (fun d => d.parameters.length) = some n ∧ kn k ≤ 21
def LkV (own : String) (idx : Nat) (k : KT) (n : Nat) : Prop := LkB k n ∧ Cond.methodLink own idx (ky k) ∈ gt ∧ Cond.instanceMethod (ky k) ∈ gt ∧ Cond.selects (ky k).cls (ky k) (ky k) ∈ gt
def LkS (own : String) (idx : Nat) (k : KT) (n : Nat) : Prop := LkB k n ∧ Cond.methodLink own idx (ky k) ∈ gt ∧ Cond.static (ky k) ∈ gt
def LkI (own : String) (idx : Nat) (k : KT) (n : Nat) : Prop := LkB k n ∧ Cond.methodLink own idx (ky k) ∈ gt ∧ Cond.instanceMethod (ky k) ∈ gt ∧ (ky k).name = "<init>" ∧ kr k = none
def LkN (own host : String) (idx : Nat) (k : KT) (n : Nat) : Prop := LkB k n ∧ (own, idx, ky k, host) ∈ nzM ∧ Cond.instanceMethod (ky k) ∈ gt ∧ (ky k).name = "<init>" ∧ kr k = none
theorem lkb_fits {X : XT} {k : KT} {n : Nat} {args : Array Value} {s : State} (h : LkB k n) (hts : ∀ w ∈ gt, w.before args s = true) (hd : kd k + 1 ≤ kd (xk X)) :
    ((krm k).cells = kmc k ∧ (krm k).slots = kms k ∧ (krm k).frames + 1 ≤ (krm (xk X)).frames ∧ 8 + (kn k + 11) + (krm k).locals ≤ (krm (xk X)).locals ∧ (∀ w ∈ kws k, ∀ (a' : Array Value) (U : State), s.WarmedH U.vm → w.before a' U = true) ∧ Cond.code (ky k) (kc k) (kn k) (kr k) ∈ kws k) ∧
    (Cond.code (ky k) (kc k) (kn k) (kr k)).before args s = true ∧ (Cond.initialized (ky k).cls).before args s = true ∧ ((ky k).cls ≠ "java/lang/invoke/MethodHandle" ∧ (ky k).cls ≠ "java/lang/invoke/VarHandle") ∧ (∀ sig, parseMethodDescriptor (ky k).desc = some sig → n = sig.parameters.length) := by
  obtain ⟨h1, h2, h3, h4, h5⟩ := h
  refine ⟨⟨rfl, rfl, hd, ?_, pay_in hts (kws_good h1), List.mem_cons_self⟩, hts _ h1, hts _ h2, h3, fun sig hs => ?_⟩
  · show 8 + (kn k + 11) + 40 * kd k ≤ 40 * kd (xk X)
    omega
  · rw [hs] at h4
    exact (Option.some.inj h4).symm
section VC
variable {X : XT} {cc : ByteArray} {own : String} {ce sl : Nat} {wd : va_W} {lv : List (Option Value)} {pc : Nat} {st stk : List Value}
/-- behind a call: the rest of the world and what the callee left -/
theorem V.of_run {W0 wr : va_W} {Qo : Option Value → va_W → Prop} {mc ms : Nat} {av : List Value} (isC isR : List Nat) (hC : isC.map (fun i => wd[i]?) = W0.map some) (hR : isR.map (fun i => wd[i]?) = wr.map some) (hnd : va_nd isC = true) (hn : va_nd isR = true) (hdis : (isR.all fun i => !(isC.elem i)) = true)
    (hrun : ∀ (p : Program) (e : Env) (s : State) (m : MethodId) (below : List Frame) (meth : Method) (c : Code) (s₁ : State),
      BodyLoose p (xl X) (ky (xk X)) (headSpec (kws (xk X)) (krm (xk X))) cc (kn (xk X)) (kr (xk X)) e s m (xa X).toArray below meth c s₁ → c.maxLocals = lv.length → (ky (xk X)).cls = own → va_K (xG X).1 vwCl (tyz (xG X)) s → Nz s →
      ∀ (H : Heap) (locs : List Loc) (ls : Array Slot), va_P (xG X).1 vwCl wd H → (∀ U : State, U.heap = H → s.WarmedH U.vm → Pz (xG X) W0 av H.size av.toArray U) → lz ls lv →
        va_Run p (xl X) e (krm (xk X)) s m (xa X).toArray below meth c H locs ce sl mc ms (F0 m pc ls stk) st (Qz (xG X) Qo W0 H.size av.toArray) (va_A W0 H.size))
    (kk : ∀ (r : Option Value) (u : va_W), Qo r u → V X cc own (ce + mc) (sl + ms) (wr ++ u) lv (pc + 3) (r.toList ++ st)) : V X cc own ce sl wd lv pc stk := by
  intro p e s m below meth c s₁ B hml ho hK hN H locs ls hP hD hS hl
  have hdis2 : ∀ i ∈ isR, i ∉ isC := by
    intro i hi hc
    have h1 := List.all_eq_true.mp hdis i hi
    simp [List.elem_eq_mem, hc] at h1
  have hA : ∀ q, s.heap.size ≤ q → va_A (xW X) s.heap.size q := fun q h => Or.inr h
  have hPc : va_P (xG X).1 vwCl W0 H := hP.sub isC (by
    have := congrArg (fun l => l.filterMap id) hC
    simpa [List.filterMap_map, Function.comp_def] using this)
  have hDc : va_D (va_A (xW X) s.heap.size) W0 := hD.sub isC hnd hC
  have hFc := va_free (wc := W0) hD hS hA isC hC
  have hr := hrun p e s m below meth c s₁ B hml ho hK hN H locs ls hP (fun U hU hW => ⟨rfl, by rw [hU], by rw [hU]; exact hPc, va_K.moved hW.alike hK, hDc.weaken (fun _ _ _ _ => trivial), hN.warm hW⟩) hl
  intro T hT Y
  obtain ⟨v, st₀, t, T', L, h0, Y', hL, e1, e2, ⟨⟨r, u, hv, hq, hP1, hD1⟩, hz, hk⟩, stp⟩ := hr T hT Y
  cases hv
  rw [h0] at hz hk
  rw [← e1] at hP1 hz hk
  obtain ⟨hP2, hD2⟩ := va_join (wr := wr) (w1 := u) hP hD isC isR hC hR hn hdis2 hk hFc hP1 hD1
  have hS2 : va_S (va_A (xW X) s.heap.size) s.heap T'.heap (locs ++ L) := by
    refine ⟨Nat.le_trans hS.1 hz, fun q h1 h2 => ?_, fun q hq => ?_⟩
    · rw [hk q (Nat.lt_of_lt_of_le h1 hS.1) (fun z => h2 (hFc q z))]
      exact hS.2.1 q h1 h2
    · rcases List.mem_append.mp hq with h | h
      · exact hS.2.2 q h
      · exact hFc _ (hL q h)
  obtain ⟨t2, a1, b1⟩ := kk v u hq p e s m below meth c s₁ B hml ho hK hN T'.heap (locs ++ L) ls hP2 hD2 hS2 hl T' rfl Y'
  exact ⟨t2, stp t2 a1, b1⟩
theorem V.callV {k : KT} {n idx b q ci : Nat} {fs As : List Value} {W0 wr : va_W} {Qo : Option Value → va_W → Prop} (hc : Ct (xl X, xG X, k, W0, .ref b :: As, Qo)) (L : LkV own idx k n) (hd : decode cc pc = .ok (.invokevirtual idx, 3)) (hlev : Nat.ble (kd k + 1) (kd (xk X)) = true) (hcs : Nat.ble (ce + kmc k) (kmc (xk X)) = true ∧ Nat.ble (sl + kms k) (kms (xk X)) = true) (hstk : stk = As.reverse ++ .ref b :: st) (hn : As.length = n) (hsum : Nat.ble ((st.map fun v => v.category).sum) 8 = true)
    (hq : wd[q]? = some (b, .inr (ci, fs))) (hci : (vwCl[ci]?).map (fun c => c.1) = some (ky k).cls)
    (isC isR : List Nat) (hC : isC.map (fun i => wd[i]?) = W0.map some) (hR : isR.map (fun i => wd[i]?) = wr.map some) (hnd : va_nd isC = true) (hnr : va_nd isR = true) (hdis : (isR.all fun i => !(isC.elem i)) = true)
    (kk : ∀ (r : Option Value) (u : va_W), Qo r u → V X cc own (ce + kmc k) (sl + kms k) (wr ++ u) lv (pc + 3) (r.toList ++ st)) : V X cc own ce sl wd lv pc stk := by
  refine V.of_run (av := .ref b :: As) isC isR hC hR hnd hnr hdis ?_ kk
  intro p e s m below meth c s₁ B hml ho hK hN H locs ls hP hpre hl
  have hts := kws_ts B.pre
  obtain ⟨L0, L1, L2, L3⟩ := L
  obtain ⟨⟨f1, f2, f3, f4, f5, f6⟩, f7, f8, f9, f10⟩ := lkb_fits (X := X) L0 hts (Nat.le_of_ble_eq_true hlev)
  obtain ⟨qc, hqc, hqc2⟩ := Option.map_eq_some_iff.mp hci
  have hrc := va_recv hK hP hqc hq
  rw [hqc2] at hrc
  exact va_runV (C := (ky k).cls) (As := As) (rest := st) (g := F0 m pc ls stk) ⟨B.exec, B.bytes, hml, ho ▸ findClass_of_methodNamed B.named, hts⟩ (hc H.size) ⟨⟨f1, f2, f3, f4, f5, f6, f7, f8, f9, f10, hts _ L1⟩, hts _ L2, hts _ L3⟩ ⟨Pz.blind, hrc, hpre⟩ rfl hn hl.1 hstk (lv_room (Nat.le_of_ble_eq_true hsum)) hd ⟨Nat.le_of_ble_eq_true hcs.1, Nat.le_of_ble_eq_true hcs.2⟩
theorem V.callS {k : KT} {n idx : Nat} {As : List Value} {W0 wr : va_W} {Qo : Option Value → va_W → Prop} (hc : Ct (xl X, xG X, k, W0, As, Qo)) (L : LkS own idx k n) (hd : decode cc pc = .ok (.invokestatic idx, 3)) (hlev : Nat.ble (kd k + 1) (kd (xk X)) = true) (hcs : Nat.ble (ce + kmc k) (kmc (xk X)) = true ∧ Nat.ble (sl + kms k) (kms (xk X)) = true) (hstk : stk = As.reverse ++ st) (hn : As.length = n) (hsum : Nat.ble ((st.map fun v => v.category).sum) 8 = true)
    (isC isR : List Nat) (hC : isC.map (fun i => wd[i]?) = W0.map some) (hR : isR.map (fun i => wd[i]?) = wr.map some) (hnd : va_nd isC = true) (hnr : va_nd isR = true) (hdis : (isR.all fun i => !(isC.elem i)) = true)
    (kk : ∀ (r : Option Value) (u : va_W), Qo r u → V X cc own (ce + kmc k) (sl + kms k) (wr ++ u) lv (pc + 3) (r.toList ++ st)) : V X cc own ce sl wd lv pc stk := by
  refine V.of_run (av := As) isC isR hC hR hnd hnr hdis ?_ kk
  intro p e s m below meth c s₁ B hml ho hK hN H locs ls hP hpre hl
  have hts := kws_ts B.pre
  obtain ⟨L0, L1, L2⟩ := L
  obtain ⟨⟨f1, f2, f3, f4, f5, f6⟩, f7, f8, f9, f10⟩ := lkb_fits (X := X) L0 hts (Nat.le_of_ble_eq_true hlev)
  exact va_runS (As := As) (rest := st) (g := F0 m pc ls stk) ⟨B.exec, B.bytes, hml, ho ▸ findClass_of_methodNamed B.named, hts⟩ (hc H.size) ⟨⟨f1, f2, f3, f4, f5, f6, f7, f8, f9, f10, hts _ L1⟩, hts _ L2⟩ ⟨Pz.blind, hpre⟩ rfl hn hl.1 hstk (lv_room (Nat.le_of_ble_eq_true hsum)) hd ⟨Nat.le_of_ble_eq_true hcs.1, Nat.le_of_ble_eq_true hcs.2⟩
theorem V.callI {k : KT} {n idx b : Nat} {As : List Value} {W0 wr : va_W} {Qo : Option Value → va_W → Prop} (hc : Ct (xl X, xG X, k, W0, .ref b :: As, Qo)) (L : LkI own idx k n) (hd : decode cc pc = .ok (.invokespecial idx, 3)) (hlev : Nat.ble (kd k + 1) (kd (xk X)) = true) (hcs : Nat.ble (ce + kmc k) (kmc (xk X)) = true ∧ Nat.ble (sl + kms k) (kms (xk X)) = true) (hstk : stk = As.reverse ++ .ref b :: st) (hn : As.length = n) (hsum : Nat.ble ((st.map fun v => v.category).sum) 8 = true)
    (isC isR : List Nat) (hC : isC.map (fun i => wd[i]?) = W0.map some) (hR : isR.map (fun i => wd[i]?) = wr.map some) (hnd : va_nd isC = true) (hnr : va_nd isR = true) (hdis : (isR.all fun i => !(isC.elem i)) = true)
    (kk : ∀ (r : Option Value) (u : va_W), Qo r u → V X cc own (ce + kmc k) (sl + kms k) (wr ++ u) lv (pc + 3) (r.toList ++ st)) : V X cc own ce sl wd lv pc stk := by
  refine V.of_run (av := .ref b :: As) isC isR hC hR hnd hnr hdis ?_ kk
  intro p e s m below meth c s₁ B hml ho hK hN H locs ls hP hpre hl
  have hts := kws_ts B.pre
  obtain ⟨L0, L1, L2, L3, L4⟩ := L
  obtain ⟨⟨f1, f2, f3, f4, f5, f6⟩, f7, f8, f9, f10⟩ := lkb_fits (X := X) L0 hts (Nat.le_of_ble_eq_true hlev)
  rw [L4] at f6 f7
  exact va_runI (As := As) (rest := st) (g := F0 m pc ls stk) ⟨B.exec, B.bytes, hml, ho ▸ findClass_of_methodNamed B.named, hts⟩ (hc H.size) ⟨⟨f1, f2, f3, f4, f5, f6, f7, f8, f9, f10, hts _ L1⟩, L3, hts _ L2⟩ ⟨Pz.blind, hpre⟩ rfl hn hl.1 hstk (lv_room (Nat.le_of_ble_eq_true hsum)) hd ⟨Nat.le_of_ble_eq_true hcs.1, Nat.le_of_ble_eq_true hcs.2⟩
theorem V.callN {k : KT} {host : String} {n idx b : Nat} {As : List Value} {W0 wr : va_W} {Qo : Option Value → va_W → Prop} (hc : Ct (xl X, xG X, k, W0, .ref b :: As, Qo)) (L : LkN own host idx k n) (hd : decode cc pc = .ok (.invokespecial idx, 3)) (hlev : Nat.ble (kd k + 1) (kd (xk X)) = true) (hcs : Nat.ble (ce + kmc k) (kmc (xk X)) = true ∧ Nat.ble (sl + kms k) (kms (xk X)) = true) (hstk : stk = As.reverse ++ .ref b :: st) (hn : As.length = n) (hsum : Nat.ble ((st.map fun v => v.category).sum) 8 = true)
    (isC isR : List Nat) (hC : isC.map (fun i => wd[i]?) = W0.map some) (hR : isR.map (fun i => wd[i]?) = wr.map some) (hnd : va_nd isC = true) (hnr : va_nd isR = true) (hdis : (isR.all fun i => !(isC.elem i)) = true)
    (kk : ∀ (r : Option Value) (u : va_W), Qo r u → V X cc own (ce + kmc k) (sl + kms k) (wr ++ u) lv (pc + 3) (r.toList ++ st)) : V X cc own ce sl wd lv pc stk := by
  refine V.of_run (av := .ref b :: As) isC isR hC hR hnd hnr hdis ?_ kk
  intro p e s m below meth c s₁ B hml ho hK hN H locs ls hP hpre hl
  have hts := kws_ts B.pre
  obtain ⟨L0, L1, L2, L3, L4⟩ := L
  obtain ⟨⟨f1, f2, f3, f4, f5, f6⟩, f7, f8, f9, f10⟩ := lkb_fits (X := X) L0 hts (Nat.le_of_ble_eq_true hlev)
  rw [L4] at f6 f7
  exact va_runIN (As := As) (rest := st) (g := F0 m pc ls stk) (host := host) ⟨B.exec, B.bytes, hml, ho ▸ findClass_of_methodNamed B.named, hts⟩ (hc H.size) ⟨⟨⟨f1, f2, f3, f4, f5, f6⟩, f7, f8, f9, f10, va_Nw.use rfl (hN.1 _ L1)⟩, L3, hts _ L2⟩ ⟨Pz.blind, hpre⟩ rfl hn hl.1 hstk (lv_room (Nat.le_of_ble_eq_true hsum)) hd ⟨Nat.le_of_ble_eq_true hcs.1, Nat.le_of_ble_eq_true hcs.2⟩
/-- a call that answers an int, of a method whose contract says all; then the world in its own order again -/
theorem V.callVi {O O' : Type} {out : O} {fc : Option O'} {kf : O' → Option O} {k : KT} {n idx b q ci : Nat} {fs : List Value} (As : List Value) {W0 wr : va_W} {r : O' → Int32} {W1 wd' : O' → va_W} (hf : fc.bind kf = some out) (hc : ∀ o, fc = some o → Ct (xl X, xG X, k, W0, .ref b :: As, qE (some (.int (r o))) (W1 o))) (L : LkV own idx k n) (hd : decode cc pc = .ok (.invokevirtual idx, 3)) {k0 : KT} (hX : xk X = k0) (hlev : Nat.ble (kd k + 1) (kd k0) = true) (hz : kmc k = 0 ∧ kms k = 0) (hce : ce = 0 ∧ sl = 0) (hstk : stk = As.reverse ++ .ref b :: st) (hn : As.length = n) (hsum : Nat.ble ((st.map fun v => v.category).sum) 8 = true)
    (hq : wd[q]? = some (b, .inr (ci, fs))) (hci : (vwCl[ci]?).map (fun c => c.1) = some (ky k).cls)
    (isC isR pm : List Nat) (hC : isC.map (fun i => wd[i]?) = W0.map some) (hR : isR.map (fun i => wd[i]?) = wr.map some) (hnd : va_nd isC = true) (hnr : va_nd isR = true) (hdis : (isR.all fun i => !(isC.elem i)) = true)
    (hpm : ∀ o, pm.map (fun i => (wr ++ W1 o)[i]?) = (wd' o).map some) (hnp : va_nd pm = true)
    (kk : ∀ o, kf o = some out → V X cc own ce sl (wd' o) lv (pc + 3) (.int (r o) :: st)) : V X cc own ce sl wd lv pc stk := by
  obtain ⟨o, h1, h2⟩ := ob_ok hf
  obtain ⟨z1, z2⟩ := hz
  obtain ⟨rfl, rfl⟩ := hce
  refine V.callV (hc o h1) L hd (by rw [hX]; exact hlev) ⟨by rw [z1]; exact Nat.ble_eq_true_of_le (Nat.zero_le _), by rw [z2]; exact Nat.ble_eq_true_of_le (Nat.zero_le _)⟩ hstk hn hsum hq hci isC isR hC hR hnd hnr hdis ?_
  intro r' u hq'
  obtain ⟨rfl, rfl⟩ := hq'
  rw [z1, z2]
  exact V.sub pm (hpm o) hnp (kk o h2)
theorem V.callVv {O O' : Type} {out : O} {fc : Option O'} {kf : O' → Option O} {k : KT} {n idx b q ci : Nat} {fs : List Value} (As : List Value) {W0 wr : va_W} {W1 wd' : O' → va_W} (hf : fc.bind kf = some out) (hc : ∀ o, fc = some o → Ct (xl X, xG X, k, W0, .ref b :: As, qE none (W1 o))) (L : LkV own idx k n) (hd : decode cc pc = .ok (.invokevirtual idx, 3)) {k0 : KT} (hX : xk X = k0) (hlev : Nat.ble (kd k + 1) (kd k0) = true) (hz : kmc k = 0 ∧ kms k = 0) (hce : ce = 0 ∧ sl = 0) (hstk : stk = As.reverse ++ .ref b :: st) (hn : As.length = n) (hsum : Nat.ble ((st.map fun v => v.category).sum) 8 = true)
    (hq : wd[q]? = some (b, .inr (ci, fs))) (hci : (vwCl[ci]?).map (fun c => c.1) = some (ky k).cls)
    (isC isR pm : List Nat) (hC : isC.map (fun i => wd[i]?) = W0.map some) (hR : isR.map (fun i => wd[i]?) = wr.map some) (hnd : va_nd isC = true) (hnr : va_nd isR = true) (hdis : (isR.all fun i => !(isC.elem i)) = true)
    (hpm : ∀ o, pm.map (fun i => (wr ++ W1 o)[i]?) = (wd' o).map some) (hnp : va_nd pm = true)
    (kk : ∀ o, kf o = some out → V X cc own ce sl (wd' o) lv (pc + 3) st) : V X cc own ce sl wd lv pc stk := by
  obtain ⟨o, h1, h2⟩ := ob_ok hf
  obtain ⟨z1, z2⟩ := hz
  obtain ⟨rfl, rfl⟩ := hce
  refine V.callV (hc o h1) L hd (by rw [hX]; exact hlev) ⟨by rw [z1]; exact Nat.ble_eq_true_of_le (Nat.zero_le _), by rw [z2]; exact Nat.ble_eq_true_of_le (Nat.zero_le _)⟩ hstk hn hsum hq hci isC isR hC hR hnd hnr hdis ?_
  intro r' u hq'
  obtain ⟨rfl, rfl⟩ := hq'
  rw [z1, z2]
  exact V.sub pm (hpm o) hnp (kk o h2)
theorem V.callSi {O O' : Type} {out : O} {fc : Option O'} {kf : O' → Option O} {k : KT} {n idx : Nat} (As : List Value) {r : O' → Int32} (hf : fc.bind kf = some out) (hc : ∀ o, fc = some o → Ct (xl X, xG X, k, [], As, qE (some (.int (r o))) [])) (L : LkS own idx k n) (hd : decode cc pc = .ok (.invokestatic idx, 3)) {k0 : KT} (hX : xk X = k0) (hlev : Nat.ble (kd k + 1) (kd k0) = true) (hz : kmc k = 0 ∧ kms k = 0) (hce : ce = 0 ∧ sl = 0) (hstk : stk = As.reverse ++ st) (hn : As.length = n) (hsum : Nat.ble ((st.map fun v => v.category).sum) 8 = true)
    (kk : ∀ o, kf o = some out → V X cc own ce sl wd lv (pc + 3) (.int (r o) :: st)) : V X cc own ce sl wd lv pc stk := by
  obtain ⟨o, h1, h2⟩ := ob_ok hf
  obtain ⟨z1, z2⟩ := hz
  obtain ⟨rfl, rfl⟩ := hce
  have hnd : ∀ (n a : Nat), va_nd ((List.range' a n)) = true := by
    intro n
    induction n with
    | zero => intro a; rfl
    | succ n ih =>
      intro a
      simp only [List.range'_succ, va_nd, Bool.and_eq_true, decide_eq_true_eq]
      refine ⟨fun h => ?_, ih (a + 1)⟩
      have := List.mem_range'_1.mp h
      omega
  have hR : (List.range' 0 wd.length).map (fun i => wd[i]?) = wd.map some := by
    apply List.ext_getElem
    · simp
    · intro i h1 h2
      simp at h1 h2 ⊢
  refine V.callS (W0 := []) (wr := wd) (hc o h1) L hd (by rw [hX]; exact hlev) ⟨by rw [z1]; exact Nat.ble_eq_true_of_le (Nat.zero_le _), by rw [z2]; exact Nat.ble_eq_true_of_le (Nat.zero_le _)⟩ hstk hn hsum [] (List.range' 0 wd.length) rfl hR rfl (hnd _ _) (by simp [List.all_eq_true]) ?_
  intro r' u hq'
  obtain ⟨rfl, rfl⟩ := hq'
  rw [z1, z2, List.append_nil]
  exact kk o h2
end VC
