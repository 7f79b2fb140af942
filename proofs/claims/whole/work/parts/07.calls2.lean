/-! ===== overriding methods, super, new objects and arrays ===== -/
theorem gt_good {ws : List Cond} (h : ∀ w ∈ ws, w ∈ gt) : GoodIn gt ws := fun w hw => ⟨h w hw, good_of_word (List.mem_filter.mp (h w hw)).2⟩
def LkO (own : String) (idx : Nat) (C : String) (x : MethodName) (k : KT) (n : Nat) : Prop := LkB k n ∧ Cond.methodLink own idx x ∈ gt ∧ Cond.sameMethod x.cls x.cls x.name x.desc ∈ gt ∧ Cond.instanceMethod x ∈ gt ∧ Cond.selects C x (ky k) ∈ gt ∧ Cond.instanceMethod (ky k) ∈ gt ∧ (∃ b0 m0 r0, Cond.code x b0 m0 r0 ∈ gt) ∧ (x.cls ≠ "java/lang/invoke/MethodHandle" ∧ x.cls ≠ "java/lang/invoke/VarHandle" ∧ (parseMethodDescriptor x.desc).map (fun d => d.parameters.length) = some n)
def LkU (own : String) (idx : Nat) (k : KT) (n : Nat) : Prop := LkB k n ∧ Cond.methodLink own idx (ky k) ∈ gt ∧ Cond.sameMethod (ky k).cls (ky k).cls (ky k).name (ky k).desc ∈ gt ∧ Cond.superclass own (ky k).cls ∈ gt ∧ Cond.instanceMethod (ky k) ∈ gt ∧ (ky k).name ≠ "<init>"
section VD
variable {X : XT} {cc : ByteArray} {own : String} {ce sl : Nat} {wd : va_W} {lv : List (Option Value)} {pc : Nat} {st stk : List Value}
theorem V.callOi {O O' : Type} {out : O} {fc : Option O'} {kf : O' → Option O} {k : KT} {x : MethodName} {C : String} {n idx b q ci : Nat} {fs : List Value} (As : List Value) {W0 wr : va_W} {r : O' → Int32} {W1 wd' : O' → va_W} (hf : fc.bind kf = some out) (hc : ∀ o, fc = some o → Ct (xl X, xG X, k, W0, .ref b :: As, qE (some (.int (r o))) (W1 o))) (L : LkO own idx C x k n) (hd : decode cc pc = .ok (.invokevirtual idx, 3)) {k0 : KT} (hX : xk X = k0) (hlev : Nat.ble (kd k + 1) (kd k0) = true) (hz : kmc k = 0 ∧ kms k = 0) (hce : ce = 0 ∧ sl = 0) (hstk : stk = As.reverse ++ .ref b :: st) (hn : As.length = n) (hsum : Nat.ble ((st.map fun v => v.category).sum) 8 = true)
    (hq : wd[q]? = some (b, .inr (ci, fs))) (hci : (vwCl[ci]?).map (fun c => c.1) = some C)
    (isC isR pm : List Nat) (hC : isC.map (fun i => wd[i]?) = W0.map some) (hR : isR.map (fun i => wd[i]?) = wr.map some) (hnd : va_nd isC = true) (hnr : va_nd isR = true) (hdis : (isR.all fun i => !(isC.elem i)) = true)
    (hpm : ∀ o, pm.map (fun i => (wr ++ W1 o)[i]?) = (wd' o).map some) (hnp : va_nd pm = true)
    (kk : ∀ o, kf o = some out → V X cc own ce sl (wd' o) lv (pc + 3) (.int (r o) :: st)) : V X cc own ce sl wd lv pc stk := by
  obtain ⟨o, h1, h2⟩ := ob_ok hf
  obtain ⟨z1, z2⟩ := hz
  obtain ⟨rfl, rfl⟩ := hce
  refine V.of_run (st := st) (av := .ref b :: As) (mc := 0) (ms := 0) (Qo := qE (some (.int (r o))) (W1 o)) isC isR hC hR hnd hnr hdis ?_ ?_
  · intro p e s m below meth c s₁ B hml ho hK hN H locs ls hP hpre hl
    have hts := kws_ts B.pre
    obtain ⟨L0, L1, L2, L3, L4, L5, ⟨b0, m0, r0, L6⟩, L7⟩ := L
    obtain ⟨⟨f1, f2, f3, f4, f5, f6⟩, f7, f8, f9, f10⟩ := lkb_fits (X := X) L0 hts (by rw [hX]; exact Nat.le_of_ble_eq_true hlev)
    obtain ⟨qc, hqc, hqc2⟩ := Option.map_eq_some_iff.mp hci
    have hrc := va_recv hK hP hqc hq
    rw [hqc2] at hrc
    have hM : Met (xl X) (ky k) (kws k) (krm k) (Pz (xG X) W0 (.ref b :: As) H.size) (Qz (xG X) (qE (some (.int (r o))) (W1 o)) W0 H.size) (kmc k) (kms k) (va_A W0 H.size) := hc o h1 H.size
    rw [z1, z2] at hM
    rw [z1] at f1
    rw [z2] at f2
    have hG : GoodIn gt (va_wsO own idx C x.cls x (ky k) (kws k)) := by
      refine gt_good ?_
      intro w hw
      rcases List.mem_append.mp hw with hw | hw
      · simp only [List.mem_cons, List.not_mem_nil, or_false] at hw
        rcases hw with rfl | rfl | rfl | rfl | rfl | rfl
        · exact L1
        · exact L2
        · exact L3
        · exact L4
        · exact L5
        · exact L0.2.1
      · exact (kws_good L0.1 w hw).1
    have cw : va_CU (krm (xk X)) s (xa X).toArray own C x.cls idx x (ky k) (kc k) (kn k) (kr k) (kws k) (krm k) 0 0 n := va_cwO n hts hG rfl f1 f2 (h0 := L6) L7 ⟨f3, f4⟩
    have := va_runU (p := p) (l := xl X) (e := e) (R := krm (xk X)) (s := s) (m := m) (args := (xa X).toArray) (below := below) (meth := meth) (c := c) (H := H) (locs := locs) (cells := 0) (slots := 0) (C := C) (As := As) (rest := st) (g := F0 m pc ls stk) ⟨B.exec, B.bytes, hml, ho ▸ findClass_of_methodNamed B.named, hts⟩ hM cw ⟨Pz.blind, hrc, hpre⟩ rfl hn hl.1 hstk (lv_room (Nat.le_of_ble_eq_true hsum)) hd ⟨Nat.zero_le _, Nat.zero_le _⟩
    exact this
  · intro r' u hq'
    obtain ⟨rfl, rfl⟩ := hq'
    exact V.sub pm (hpm o) hnp (kk o h2)
theorem V.callUi {O O' : Type} {out : O} {fc : Option O'} {kf : O' → Option O} {k : KT} {n idx b q ci : Nat} {fs : List Value} (As : List Value) {W0 wr : va_W} {r : O' → Int32} {W1 wd' : O' → va_W} (hf : fc.bind kf = some out) (hc : ∀ o, fc = some o → Ct (xl X, xG X, k, W0, .ref b :: As, qE (some (.int (r o))) (W1 o))) (L : LkU own idx k n) (hd : decode cc pc = .ok (.invokespecial idx, 3)) {k0 : KT} (hX : xk X = k0) (hlev : Nat.ble (kd k + 1) (kd k0) = true) (hz : kmc k = 0 ∧ kms k = 0) (hce : ce = 0 ∧ sl = 0) (hstk : stk = As.reverse ++ .ref b :: st) (hn : As.length = n) (hsum : Nat.ble ((st.map fun v => v.category).sum) 8 = true)
    (hq : wd[q]? = some (b, .inr (ci, fs))) {C : vw_C} (hci : vwCl[ci]? = some C)
    (isC isR pm : List Nat) (hC : isC.map (fun i => wd[i]?) = W0.map some) (hR : isR.map (fun i => wd[i]?) = wr.map some) (hnd : va_nd isC = true) (hnr : va_nd isR = true) (hdis : (isR.all fun i => !(isC.elem i)) = true)
    (hpm : ∀ o, pm.map (fun i => (wr ++ W1 o)[i]?) = (wd' o).map some) (hnp : va_nd pm = true)
    (kk : ∀ o, kf o = some out → V X cc own ce sl (wd' o) lv (pc + 3) (.int (r o) :: st)) : V X cc own ce sl wd lv pc stk := by
  obtain ⟨o, h1, h2⟩ := ob_ok hf
  obtain ⟨z1, z2⟩ := hz
  obtain ⟨rfl, rfl⟩ := hce
  refine V.of_run (st := st) (av := .ref b :: As) (mc := 0) (ms := 0) (Qo := qE (some (.int (r o))) (W1 o)) isC isR hC hR hnd hnr hdis ?_ ?_
  · intro p e s m below meth c s₁ B hml ho hK hN H locs ls hP hpre hl
    have hts := kws_ts B.pre
    obtain ⟨L0, L1, L2, L3, L4, L5⟩ := L
    obtain ⟨⟨f1, f2, f3, f4, f5, f6⟩, f7, f8, f9, f10⟩ := lkb_fits (X := X) L0 hts (by rw [hX]; exact Nat.le_of_ble_eq_true hlev)
    have hrc := va_recv hK hP hci hq
    have hM : Met (xl X) (ky k) (kws k) (krm k) (Pz (xG X) W0 (.ref b :: As) H.size) (Qz (xG X) (qE (some (.int (r o))) (W1 o)) W0 H.size) (kmc k) (kms k) (va_A W0 H.size) := hc o h1 H.size
    rw [z1, z2] at hM
    rw [z1] at f1
    rw [z2] at f2
    have := va_runSU (p := p) (l := xl X) (e := e) (R := krm (xk X)) (s := s) (m := m) (args := (xa X).toArray) (below := below) (meth := meth) (c := c) (H := H) (locs := locs) (cells := 0) (slots := 0) (C := C.1) (As := As) (rest := st) (g := F0 m pc ls stk) (hK.1 ci C hci).2 ⟨B.exec, B.bytes, hml, ho ▸ findClass_of_methodNamed B.named, hts⟩ hM ⟨⟨f1, f2, f3, f4, f5, f6⟩, hts _ L1, hts _ L2, hts _ L3, hts _ L4, f8, f7, L5, f10⟩ ⟨Pz.blind, hrc, hpre⟩ rfl hn hl.1 hstk (lv_room (Nat.le_of_ble_eq_true hsum)) hd ⟨Nat.zero_le _, Nat.zero_le _⟩
    exact this
  · intro r' u hq'
    obtain ⟨rfl, rfl⟩ := hq'
    exact V.sub pm (hpm o) hnp (kk o h2)
/-- what 'new' needs of the tables -/
def Nk (own : String) (idx ci N : Nat) (fs : List Value) : Prop := ∃ (C : String) (T : u_T) (ty : Nat → FieldType), vwCl[ci]? = some (C, T, N) ∧ (∀ w ∈ u_ws C T N, w ∈ gt) ∧ (∀ k, k < N → parseFieldDescriptor (T k).2.2.1 = some (ty k)) ∧ Cond.classLink own idx C ∈ gt ∧ Cond.instantiable C N ∈ gt ∧ Cond.initialized C ∈ gt ∧ ∀ j, j < N → defaultValue (ty j) = vp_V fs j
theorem V.new {idx ci N : Nat} {fs : List Value} {k0 : KT} (hX : xk X = k0) (hd : decode cc pc = .ok (.new idx, 3)) (hN : Nk own idx ci N fs) (hc : Nat.ble (ce + 1) (kmc k0) = true) (hs : Nat.ble (sl + N) (kms k0) = true) (k : ∀ q : Nat, V X cc own (ce + 1) (sl + N) (wd ++ [(q, .inr (ci, fs))]) lv (pc + 3) (.ref q :: st)) : V X cc own ce sl wd lv pc st := by
  intro p e s m below meth c s₁ B hml ho hK hNz H locs ls hP hD hS hl
  obtain ⟨C, T, ty, h1, h2, h3, h4, h5, h6, h7⟩ := hN
  have hts := kws_ts B.pre
  exact va_new B.exec B.bytes hts h2 ty h3 (ho ▸ findClass_of_methodNamed B.named) (hts _ h4) (hts _ h5) (hts _ h6) hK hP hD hS (fun q h => Or.inr h) h1 h7 (by show _ ≤ kmc (xk X); rw [hX]; exact Nat.le_of_ble_eq_true hc) (by show _ ≤ kms (xk X); rw [hX]; exact Nat.le_of_ble_eq_true hs) hd (fun q H1 hP hD hS => k q p e s m below meth c s₁ B hml ho hK hNz H1 locs ls hP hD hS hl)
theorem V.newa {atype : ArrayType} {ty : FieldType} {t N : Nat} {n : Int32} {k0 : KT} (hX : xk X = k0) (hd : decode cc pc = .ok (.newarray atype, 2)) (hw : Cond.arrayClass ty ∈ gt) (hty : newarray.typeOf atype = ty) (ht : (tyz (xG X))[t]? = some ((xG X).2 t, ty)) (hprim : ty = .int ∨ ty = .char ∨ ty = .boolean) (hn : ¬ n < 0 ∧ n.toNatClampNeg = N ∧ N ≤ 1000) (hc : Nat.ble (ce + 1) (kmc k0) = true) (hs : Nat.ble (sl + N) (kms k0) = true) (k : ∀ q : Nat, V X cc own (ce + 1) (sl + N) (wd ++ [(q, .inl ((xG X).2 t, N, .inl (fun _ => 0)))]) lv (pc + 2) (.ref q :: st)) : V X cc own ce sl wd lv pc (.int n :: st) := by
  intro p e s m below meth c s₁ B hml ho hK hNz H locs ls hP hD hS hl
  have hts := kws_ts B.pre
  obtain ⟨n1, n2, n3⟩ := hn
  refine va_newa (a0 := (N, .inl (fun _ => 0))) (N' := N) B.exec B.bytes (by rw [hty]; exact hts _ hw) hty hK hP hD hS (fun q h => Or.inr h) ?_ n1 n2 ?_ (by show _ ≤ kmc (xk X); rw [hX]; exact Nat.le_of_ble_eq_true hc) (by show _ ≤ kms (xk X); rw [hX]; exact Nat.le_of_ble_eq_true hs) hd (fun q cA H1 hK1 hP hD hS => ?_)
  · intro cA
    rcases hprim with rfl | rfl | rfl <;> rfl
  · rcases hprim with rfl | rfl | rfl
    · have : componentBytes .int ≤ 8 := by decide
      have := Nat.mul_le_mul n3 this
      omega
    · have : componentBytes .char ≤ 8 := by decide
      have := Nat.mul_le_mul n3 this
      omega
    · have : componentBytes .boolean ≤ 8 := by decide
      have := Nat.mul_le_mul n3 this
      omega
  · have h1 := (hK1.2 (tyz (xG X)).length (cA, ty) (by rw [List.getElem?_append_right (Nat.le_refl _)]; simp)).2
    have h2 := (hK.2 t _ ht).2
    have he : cA = (xG X).2 t := by
      rcases hprim with rfl | rfl | rfl <;> exact Option.some.inj (h1.symm.trans h2)
    subst he
    exact k q p e s m below meth c s₁ B hml ho hK hNz H1 locs ls hP hD hS hl
theorem V.anew {idx t N : Nat} {C : String} {n : Int32} {k0 : KT} (hX : xk X = k0) (hd : decode cc pc = .ok (.anewarray idx, 3)) (hw : Cond.classLink own idx C ∈ gt) (hO : C = "FarDrum$State" ∨ C = "FarDrum$Kind") (ht : (tyz (xG X))[t]? = some ((xG X).2 t, .object C)) (hn : ¬ n < 0 ∧ n.toNatClampNeg = N ∧ N ≤ 1000) (hc : Nat.ble (ce + 1) (kmc k0) = true) (hs : Nat.ble (sl + N) (kms k0) = true) (k : ∀ q : Nat, V X cc own (ce + 1) (sl + N) (wd ++ [(q, .inl ((xG X).2 t, N, .inr (.inr (.inr (.inr (fun _ => none))))))]) lv (pc + 3) (.ref q :: st)) : V X cc own ce sl wd lv pc (.int n :: st) := by
  intro p e s m below meth c s₁ B hml ho hK hNz H locs ls hP hD hS hl
  have hts := kws_ts B.pre
  obtain ⟨n1, n2, n3⟩ := hn
  have hov : va_AO C s := by
    rcases hO with rfl | rfl
    · exact hNz.2.2.1
    · exact hNz.2.2.2
  refine va_newq B.exec B.bytes (ho ▸ findClass_of_methodNamed B.named) (hts _ hw) hov hK hP hD hS (fun q h => Or.inr h) n1 n2 (by omega) (by show _ ≤ kmc (xk X); rw [hX]; exact Nat.le_of_ble_eq_true hc) (by show _ ≤ kms (xk X); rw [hX]; exact Nat.le_of_ble_eq_true hs) hd (fun q cA H1 hK1 hP hD hS => ?_)
  have h1 := (hK1.2 (tyz (xG X)).length (cA, .object C) (by rw [List.getElem?_append_right (Nat.le_refl _)]; simp)).2
  have h2 := (hK.2 t _ ht).2
  obtain ⟨-, -, -, -, -, h1⟩ := h1
  obtain ⟨-, -, -, -, -, h2⟩ := h2
  have he : cA = (xG X).2 t := Option.some.inj (h1.symm.trans h2)
  subst he
  exact k q p e s m below meth c s₁ B hml ho hK hNz H1 locs ls hP hD hS hl
theorem V.aast {wd' : va_W} {q qk ci a t n v j : Nat} {vs : List Value} {f : Nat → Option Nat} {i : Int32} {E : String} {cl : vw_C} (hd : decode cc pc = .ok (.aastore, 1)) (hq : wd[q]? = some (a, .inl ((xG X).2 t, n, .inr (.inr (.inr (.inr f)))))) (ht : (tyz (xG X))[t]? = some ((xG X).2 t, .object E)) (hv : wd[qk]? = some (v, .inr (ci, vs))) (hc : vwCl[ci]? = some cl) (hE : cl.1 = E ∨ (cl.1, E) ∈ nzC) (hin : vp_in i n) (hj : i.toNatClampNeg = j) (hw : wd.set q (a, .inl ((xG X).2 t, n, .inr (.inr (.inr (.inr (va_up f j (some v))))))) = wd') (k : V X cc own ce sl wd' lv (pc + 1) st) : V X cc own ce sl wd lv pc (.ref v :: .int i :: .ref a :: st) := by
  intro p e s m below meth c s₁ B hml ho hK hNz H locs ls hP hD hS hl
  subst hw
  subst hj
  rcases hE with rfl | hE
  · exact va_astq B.exec B.bytes hK hP hD hS q t qk ci hq ht hv hc hin hd (fun H1 locs1 hP hD hS => k p e s m below meth c s₁ B hml ho hK hNz H1 locs1 ls hP hD hS hl)
  · exact va_astqO B.exec B.bytes hK hP hD hS q t qk ci hq ht (hNz.2.1 _ hE) hv hc hin hd (fun H1 locs1 hP hD hS => k p e s m below meth c s₁ B hml ho hK hNz H1 locs1 ls hP hD hS hl)
theorem V.objInit {a idx : Nat} {k0 : KT} (hX : xk X = k0) (hdp : Nat.ble 1 (kd k0) = true) (hd : decode cc pc = .ok (.invokespecial idx, 3)) (hw : Cond.methodLink own idx objectInit ∈ gt ∧ Cond.instanceMethod objectInit ∈ gt ∧ Cond.code objectInit ⟨#[0xb1]⟩ 1 none ∈ gt) (hsum : Nat.ble ((st.map fun v => v.category).sum) 8 = true) (k : V X cc own ce sl wd lv (pc + 3) st) : V X cc own ce sl wd lv pc (.ref a :: st) := by
  intro p e s m below meth c s₁ B hml ho hK hNz H locs ls hP hD hS hl
  have hts := kws_ts B.pre
  have h1 : 1 ≤ kd (xk X) := by rw [hX]; exact Nat.le_of_ble_eq_true hdp
  have h2 := Nat.le_of_ble_eq_true hsum
  refine W.objInit B.exec B.bytes (ho ▸ findClass_of_methodNamed B.named) (hts _ hw.1) (hts _ hw.2.1) (hts _ hw.2.2) rfl (by rw [hml]; exact hl.1) rfl hd h1 ?_ ?_
  · have h3 : 2 * (F0 m pc ls (Value.ref a :: st)).monitorRoom + (st.map fun v => v.category).sum ≤ 8 := lv_room h2
    show _ ≤ 40 * kd (xk X)
    omega
  · exact W.eq (g2 := F0 m (pc + 3) ls st) rfl (k p e s m below meth c s₁ B hml ho hK hNz H locs ls hP hD hS hl)
theorem V.icmp_geD {x y : Int32} {off : Int} {tgt : Nat} (b : Bool) (hd : decode cc pc = .ok (.if_icmp .ge off, 3)) (ht : (pc : Int) + off = (tgt : Int)) (hb : decide (y ≤ x) = b) (k : V X cc own ce sl wd lv (if b then tgt else pc + 3) st) : V X cc own ce sl wd lv pc (.int y :: .int x :: st) := by
  subst hb
  intro p e s m below meth c s₁ B hml ho hK hNz H locs ls hP hD hS hl
  refine lv_icmp_ge B.exec B.bytes hd ht (fun q => ?_) (fun q => ?_)
  · rw [decide_eq_true q] at k
    exact k p e s m below meth c s₁ B hml ho hK hNz H locs ls hP hD hS hl
  · rw [decide_eq_false q] at k
    exact k p e s m below meth c s₁ B hml ho hK hNz H locs ls hP hD hS hl
end VD
