/-! THE CLAIM OUT OF ONE WALK OF THE LAW'S BODY. Your part is whole_start (and what it stands on); all else here is the same for every law, but numbers. -/
def R_law : String := "FarDrumLaw"
def lw_P (b : Addr) (xs : List Int32) (args : Array Value) (s : State) : Prop := args = #[.ref b] ∧ s.IntsAt b xs ∧ xs.length ≤ 320 ∧ (Jvm.Cond.and given_1 narrow_1).before args s = true
def lw_Q (_ : Array Value) (s : State) (o : Outcome) (t : State) : Prop := o = .returned (some (.int 1)) ∧ Framed s o t [] 600000 7302250
def lw_Z (below : List Frame) (a : Array Value) (s : State) : State → Prop := fun t => ∃ o, t.status = .running ∧ Ended t below o ∧ lw_Q a s o t
/-- the law's own end, with 1 on the stack, nothing written that was there before, its room as the claim has it -/
theorem lw_ret {p : Program} {l : Launch} {e : Env} {s : State} {m : MethodId} {below : List Frame} {meth : Method} {c : Code} {b : Nat} (hx : p.tables.exec = Jvm.exec) (hb : c.code = code) (hr : meth.sig.returnType = ret) (hlocks : meth.locks = false) {pc : Nat} {H : Heap} {ls : Array Slot} (hdg : decode code pc = .ok (.ireturn, 1)) : W p l e room_1 s m #[Value.ref b] below meth c H [] 600000 7302250 (lw_Z below #[Value.ref b] s) (F0 m pc ls [.int 1]) := by
  intro T hT X
  obtain ⟨fs, hret, hrun, hended, hW, hframe⟩ := X.leave (v := some (.int 1)) (hlocks := hlocks) (fun h => by rw [hr] at h; cases h)
  have hmeth' : T.vm.method? m = some meth := X.method'
  refine ⟨T.setFrames fs, ?_, .returned (some (.int 1)), hrun, hended, rfl, ⟨_, rfl⟩, hW, hframe⟩
  jvm_step X.here [X.here.top, hx, hb, hdg, hmeth', hr, ret, narrow_b1]
  (try refine ⟨rfl, ?_⟩); (try refine ⟨rfl, ?_⟩)
  first | (intro acts; rw [hret _ acts rfl rfl rfl]) | rw [hret _ _ rfl rfl rfl]
  exact Steps.refl _
/-- what holds at the law's entry: the machine, the code, the tables' words (any of lw_tbl by 'hts w (by decide +kernel)'), the script of L ints xs at the cell b, what the Statement gives of the start (any of its parts by flat_of_before) -/
def lw_At (p : Program) (s : State) (m : MethodId) (meth : Method) (c : Code) (b L : Nat) (xs : Nat → Int32) : Prop :=
  p.tables.exec = Jvm.exec ∧ c.code = code ∧ meth.sig.returnType = ret ∧ c.maxLocals = 4 ∧ s.vm.findClass R_law = some m.cls ∧ (∀ w ∈ lw_tbl, w.before #[Value.ref b] s = true) ∧ va_X b L xs s s.heap ∧ b < s.heap.size ∧ meth.locks = false ∧ (Jvm.Cond.and given_1 narrow_1).before #[Value.ref b] s = true

def VL (l : Launch) (G : GT) (b L : Nat) (xs : Nat → Int32) (ce sl : Nat) (wd : va_W) (lv : List (Option Value)) (pc : Nat) (st : List Value) : Prop :=
  ∀ (p : Program) (e : Env) (s : State) (m : MethodId) (below : List Frame) (meth : Method) (c : Code), lw_At p s m meth c b L xs → va_K G.1 vwCl (tyz G) s → Nz s →
    ∀ (H : Heap) (locs : List Loc) (ls : Array Slot), va_P G.1 vwCl wd H → va_D (fun q : Nat => s.heap.size ≤ q) wd → va_S (fun q : Nat => s.heap.size ≤ q) s.heap H locs → lz ls lv → lv.length = 4 →
      W p l e room_1 s m #[Value.ref b] below meth c H locs ce sl (lw_Z below #[Value.ref b] s) (F0 m pc ls st)
section VLR
variable {l : Launch} {G : GT} {b L : Nat} {xs : Nat → Int32} {ce sl : Nat} {wd : va_W} {lv : List (Option Value)} {pc : Nat} {st stk : List Value}
theorem lw_gt {p : Program} {s : State} {m : MethodId} {meth : Method} {c : Code} (C0 : lw_At p s m meth c b L xs) : ∀ w ∈ gt, w.before #[Value.ref b] s = true := fun w hw => C0.2.2.2.2.2.1 w (List.mem_filter.mp hw).1
theorem VL.iconst {n : Int} {v : Int32} (hd : decode code pc = .ok (.iconst n, 1)) (hv : Int32.ofInt n = v) (k : VL l G b L xs ce sl wd lv (pc + 1) (.int v :: st)) : VL l G b L xs ce sl wd lv pc (st) :=
  fun p e s m below meth c C0 hK hN H locs ls hP hD hS hl hn4 => lv_iconst C0.1 C0.2.1 hd hv (k p e s m below meth c C0 hK hN H locs ls hP hD hS hl hn4)
theorem VL.bipush {n : Int} {v : Int32} (hd : decode code pc = .ok (.bipush n, 2)) (hv : (Int8.ofInt n).toInt32 = v) (k : VL l G b L xs ce sl wd lv (pc + 2) (.int v :: st)) : VL l G b L xs ce sl wd lv pc (st) :=
  fun p e s m below meth c C0 hK hN H locs ls hP hD hS hl hn4 => lv_bipush C0.1 C0.2.1 hd hv (k p e s m below meth c C0 hK hN H locs ls hP hD hS hl hn4)
theorem VL.aloadn {i : Fin 4} {x : Nat} (hd : decode code pc = .ok (.aload_n i, 1)) (hv : lv[(i : Nat)]? = some (some (.ref x))) (k : VL l G b L xs ce sl wd lv (pc + 1) (.ref x :: st)) : VL l G b L xs ce sl wd lv pc (st) :=
  fun p e s m below meth c C0 hK hN H locs ls hP hD hS hl hn4 => lv_aload_n C0.1 C0.2.1 hd rfl (hl.at hv) (k p e s m below meth c C0 hK hN H locs ls hP hD hS hl hn4)
theorem VL.iloadn {i : Fin 4} {x : Int32} (hd : decode code pc = .ok (.iload_n i, 1)) (hv : lv[(i : Nat)]? = some (some (.int x))) (k : VL l G b L xs ce sl wd lv (pc + 1) (.int x :: st)) : VL l G b L xs ce sl wd lv pc (st) :=
  fun p e s m below meth c C0 hK hN H locs ls hP hD hS hl hn4 => lv_iload_n C0.1 C0.2.1 hd rfl (hl.at hv) (k p e s m below meth c C0 hK hN H locs ls hP hD hS hl hn4)
theorem VL.iadd {x y : Int32} (hd : decode code pc = .ok (.iadd, 1)) (k : VL l G b L xs ce sl wd lv (pc + 1) (.int (x + y) :: st)) : VL l G b L xs ce sl wd lv pc (.int y :: .int x :: st) :=
  fun p e s m below meth c C0 hK hN H locs ls hP hD hS hl hn4 => lv_iadd C0.1 C0.2.1 hd (k p e s m below meth c C0 hK hN H locs ls hP hD hS hl hn4)
theorem VL.isub {x y : Int32} (hd : decode code pc = .ok (.isub, 1)) (k : VL l G b L xs ce sl wd lv (pc + 1) (.int (x - y) :: st)) : VL l G b L xs ce sl wd lv pc (.int y :: .int x :: st) :=
  fun p e s m below meth c C0 hK hN H locs ls hP hD hS hl hn4 => lv_isub C0.1 C0.2.1 hd (k p e s m below meth c C0 hK hN H locs ls hP hD hS hl hn4)
theorem VL.iand {x y : Int32} (hd : decode code pc = .ok (.iand, 1)) (k : VL l G b L xs ce sl wd lv (pc + 1) (.int (x &&& y) :: st)) : VL l G b L xs ce sl wd lv pc (.int y :: .int x :: st) :=
  fun p e s m below meth c C0 hK hN H locs ls hP hD hS hl hn4 => lv_iand C0.1 C0.2.1 hd (k p e s m below meth c C0 hK hN H locs ls hP hD hS hl hn4)
theorem VL.dup {v : Value} (hd : decode code pc = .ok (.dup, 1)) (hv : v.category = 1) (k : VL l G b L xs ce sl wd lv (pc + 1) (v :: v :: st)) : VL l G b L xs ce sl wd lv pc (v :: st) :=
  fun p e s m below meth c C0 hK hN H locs ls hP hD hS hl hn4 => lv_dup C0.1 C0.2.1 hd hv (k p e s m below meth c C0 hK hN H locs ls hP hD hS hl hn4)
theorem VL.lcmp {x y : Int64} (hd : decode code pc = .ok (.lcmp, 1)) (k : VL l G b L xs ce sl wd lv (pc + 1) (.int (lg_cmp x y) :: st)) : VL l G b L xs ce sl wd lv pc (.long y :: .long x :: st) :=
  fun p e s m below meth c C0 hK hN H locs ls hP hD hS hl hn4 => W.lcmp C0.1 C0.2.1 hd (k p e s m below meth c C0 hK hN H locs ls hP hD hS hl hn4)
theorem VL.slen  (hd : decode code pc = .ok (.arraylength, 1)) (k : VL l G b L xs ce sl wd lv (pc + 1) (.int (Int32.ofNat L) :: st)) : VL l G b L xs ce sl wd lv pc (.ref b :: st) :=
  fun p e s m below meth c C0 hK hN H locs ls hP hD hS hl hn4 => va_slen C0.1 C0.2.1 C0.2.2.2.2.2.2.1 C0.2.2.2.2.2.2.2.1 (Nat.not_le.mpr C0.2.2.2.2.2.2.2.1) hS hd (k p e s m below meth c C0 hK hN H locs ls hP hD hS hl hn4)
theorem VL.sld {i : Int32} (hd : decode code pc = .ok (.iaload, 1)) (hv : vp_in i L) (k : VL l G b L xs ce sl wd lv (pc + 1) (.int (xs i.toNatClampNeg) :: st)) : VL l G b L xs ce sl wd lv pc (.int i :: .ref b :: st) :=
  fun p e s m below meth c C0 hK hN H locs ls hP hD hS hl hn4 => va_sld C0.1 C0.2.1 C0.2.2.2.2.2.2.1 C0.2.2.2.2.2.2.2.1 (Nat.not_le.mpr C0.2.2.2.2.2.2.2.1) hS hv hd (k p e s m below meth c C0 hK hN H locs ls hP hD hS hl hn4)
theorem VL.goto {off : Int} {tgt : Nat} (hd : decode code pc = .ok (.goto off, 3)) (ht : (pc : Int) + off = (tgt : Int)) (k : VL l G b L xs ce sl wd lv tgt st) : VL l G b L xs ce sl wd lv pc st :=
  fun p e s m below meth c C0 hK hN H locs ls hP hD hS hl hn4 => lv_goto C0.1 C0.2.1 hd ht (k p e s m below meth c C0 hK hN H locs ls hP hD hS hl hn4)
theorem VL.istoren {lv' : List (Option Value)} {i : Fin 4} {x : Int32} (hd : decode code pc = .ok (.istore_n i, 1)) (hi : Nat.blt (i : Nat) lv.length = true) (hk : okS lv (i : Nat) = true) (hv : lv.set (i : Nat) (some (.int x)) = lv') (k : VL l G b L xs ce sl wd lv' (pc + 1) st) : VL l G b L xs ce sl wd lv pc (.int x :: st) :=
  fun p e s m below meth c C0 hK hN H locs ls hP hD hS hl hn4 => lv_istore_n C0.1 C0.2.1 hd rfl hl (Nat.le_of_ble_eq_true hi) rfl (fun ls2 h2 => k p e s m below meth c C0 hK hN H locs ls2 hP hD hS (lz.set (Nat.le_of_ble_eq_true hi) hk h2 hv) (by rw [← hv, List.length_set]; exact hn4))
theorem VL.astoren {lv' : List (Option Value)} {i : Fin 4} {x : Nat} (hd : decode code pc = .ok (.astore_n i, 1)) (hi : Nat.blt (i : Nat) lv.length = true) (hk : okS lv (i : Nat) = true) (hv : lv.set (i : Nat) (some (.ref x)) = lv') (k : VL l G b L xs ce sl wd lv' (pc + 1) st) : VL l G b L xs ce sl wd lv pc (.ref x :: st) :=
  fun p e s m below meth c C0 hK hN H locs ls hP hD hS hl hn4 => lv_astore_n C0.1 C0.2.1 hd rfl hl (Nat.le_of_ble_eq_true hi) rfl (fun ls2 h2 => k p e s m below meth c C0 hK hN H locs ls2 hP hD hS (lz.set (Nat.le_of_ble_eq_true hi) hk h2 hv) (by rw [← hv, List.length_set]; exact hn4))
theorem VL.iinc {lv' : List (Option Value)} {i : Nat} {n : Int} {x v : Int32} (hd : decode code pc = .ok (.iinc i n, 3)) (hx : lv[i]? = some (some (.int x))) (hk : okS lv i = true) (he : Int32.ofInt n = v) (hv : lv.set i (some (.int (x + v))) = lv') (k : VL l G b L xs ce sl wd lv' (pc + 3) st) : VL l G b L xs ce sl wd lv pc st := by
  intro p e s m below meth c C0 hK hN H locs ls hP hD hS hl hn4
  have hi : i < lv.length := (List.getElem?_eq_some_iff.mp hx).1
  have hm : (i, Value.int x) ∈ las 0 lv := by have := las_mem lv 0 i _ hx; simpa using this
  obtain ⟨j, hj⟩ := List.getElem?_of_mem hm
  exact lv_iinc (k := j) (v := x + v) C0.1 C0.2.1 hd hl hj (by rw [he]) hi rfl (fun ls2 h2 => k p e s m below meth c C0 hK hN H locs ls2 hP hD hS (lz.set hi hk h2 hv) (by rw [← hv, List.length_set]; exact hn4))
theorem VL.icmp_gt {x y : Int32} {off : Int} {tgt : Nat} (hd : decode code pc = .ok (.if_icmp .gt off, 3)) (ht : (pc : Int) + off = (tgt : Int)) (k1 : y < x → VL l G b L xs ce sl wd lv tgt st) (k2 : ¬ y < x → VL l G b L xs ce sl wd lv (pc + 3) st) : VL l G b L xs ce sl wd lv pc (.int y :: .int x :: st) :=
  fun p e s m below meth c C0 hK hN H locs ls hP hD hS hl hn4 => lv_icmp_gt C0.1 C0.2.1 hd ht (fun q => (k1 q p e s m below meth c C0 hK hN H locs ls hP hD hS hl hn4)) (fun q => (k2 q p e s m below meth c C0 hK hN H locs ls hP hD hS hl hn4))
theorem VL.icmp_eq {x y : Int32} {off : Int} {tgt : Nat} (hd : decode code pc = .ok (.if_icmp .eq off, 3)) (ht : (pc : Int) + off = (tgt : Int)) (k1 : x = y → VL l G b L xs ce sl wd lv tgt st) (k2 : ¬ x = y → VL l G b L xs ce sl wd lv (pc + 3) st) : VL l G b L xs ce sl wd lv pc (.int y :: .int x :: st) :=
  fun p e s m below meth c C0 hK hN H locs ls hP hD hS hl hn4 => lv_icmp_eq C0.1 C0.2.1 hd ht (fun q => (k1 q p e s m below meth c C0 hK hN H locs ls hP hD hS hl hn4)) (fun q => (k2 q p e s m below meth c C0 hK hN H locs ls hP hD hS hl hn4))
theorem VL.if_eq {x : Int32} {off : Int} {tgt : Nat} (hd : decode code pc = .ok (.ifCond .eq off, 3)) (ht : (pc : Int) + off = (tgt : Int)) (k1 : x = 0 → VL l G b L xs ce sl wd lv tgt st) (k2 : ¬ x = 0 → VL l G b L xs ce sl wd lv (pc + 3) st) : VL l G b L xs ce sl wd lv pc (.int x :: st) :=
  fun p e s m below meth c C0 hK hN H locs ls hP hD hS hl hn4 => lv_if_eq C0.1 C0.2.1 hd ht (fun q => (k1 q p e s m below meth c C0 hK hN H locs ls hP hD hS hl hn4)) (fun q => (k2 q p e s m below meth c C0 hK hN H locs ls hP hD hS hl hn4))
theorem VL.tableIn {dflt lo hi : Int} {offs : Array Int} {len : Nat} {x v : Int32} {off : Int} {tgt : Nat} (he : x = v) (hd : decode code pc = .ok (.tableswitch dflt lo hi offs, len)) (h1 : ¬ v.toInt < lo) (h2 : ¬ hi < v.toInt) (hv : offs[(v.toInt - lo).toNat]? = some off) (ht : (pc : Int) + off = (tgt : Int)) (k : VL l G b L xs ce sl wd lv tgt st) : VL l G b L xs ce sl wd lv pc (.int x :: st) := by
  subst he
  exact fun p e s m below meth c C0 hK hN H locs ls hP hD hS hl hn4 => lv_tableIn C0.1 C0.2.1 hd h1 h2 hv ht (k p e s m below meth c C0 hK hN H locs ls hP hD hS hl hn4)
theorem VL.tableOut {dflt lo hi : Int} {offs : Array Int} {len : Nat} {x : Int32} {tgt : Nat} (hd : decode code pc = .ok (.tableswitch dflt lo hi offs, len)) (h : x.toInt < lo ∨ hi < x.toInt) (ht : (pc : Int) + dflt = (tgt : Int)) (k : VL l G b L xs ce sl wd lv tgt st) : VL l G b L xs ce sl wd lv pc (.int x :: st) :=
  fun p e s m below meth c C0 hK hN H locs ls hP hD hS hl hn4 => lv_tableOut C0.1 C0.2.1 hd h ht (k p e s m below meth c C0 hK hN H locs ls hP hD hS hl hn4)
theorem VL.ret (hc : ce ≤ 600000) (hs : sl ≤ 7302250) (hd : decode code pc = .ok (.ireturn, 1)) : VL l G b L xs ce sl wd lv pc [.int 1] := by
  intro p e s m below meth c C0 hK hN H locs ls hP hD hS hl hn4
  obtain ⟨hx, hb, hr, hml, hown, hts, hX, hbl, hlocks, hgv⟩ := id C0
  refine va_forget hS.2.2 ?_
  refine W.widen hc hs ?_
  exact lw_ret hx hb hr hlocks hd
theorem VL.new {idx ci N : Nat} {fs : List Value} (hd : decode code pc = .ok (.new idx, 3)) (hN : Nk "FarDrumLaw" idx ci N fs) (hc : Nat.ble (ce + 1) 600000 = true) (hs : Nat.ble (sl + N) 7302250 = true) (k : ∀ q : Nat, VL l G b L xs (ce + 1) (sl + N) (wd ++ [(q, .inr (ci, fs))]) lv (pc + 3) (.ref q :: st)) : VL l G b L xs ce sl wd lv pc st := by
  intro p e s m below meth c C0 hK hNz H locs ls hP hD hS hl hn4
  obtain ⟨C, T, ty, h1, h2, h3, h4, h5, h6, h7⟩ := hN
  have hts := lw_gt C0
  exact va_new C0.1 C0.2.1 hts h2 ty h3 C0.2.2.2.2.1 (hts _ h4) (hts _ h5) (hts _ h6) hK hP hD hS (fun q h => h) h1 h7 (Nat.le_of_ble_eq_true hc) (Nat.le_of_ble_eq_true hs) hd (fun q H1 hP hD hS => k q p e s m below meth c C0 hK hNz H1 locs ls hP hD hS hl hn4)
theorem VL.eqw {wd' : va_W} (h : wd = wd') (k : VL l G b L xs ce sl wd' lv pc st) : VL l G b L xs ce sl wd lv pc st := h ▸ k
theorem VL.sel {wd' : va_W} (h : SW wd wd') (k : VL l G b L xs ce sl wd' lv pc st) : VL l G b L xs ce sl wd lv pc st :=
  fun p e s m below meth c C0 hK hN H locs ls hP hD hS hl hn4 => k p e s m below meth c C0 hK hN H locs ls (fun i q hi => by
    obtain ⟨j, hj⟩ := List.getElem?_of_mem ((h _ hD).1 q (List.mem_of_getElem? hi))
    exact hP j q hj) (h _ hD).2 hS hl hn4
theorem VL.of_run {W0 wr : va_W} {Qo : Option Value → va_W → Prop} {mc ms : Nat} {av : List Value} (hp : SW wd (W0 ++ wr))
    (hrun : ∀ (p : Program) (e : Env) (s : State) (m : MethodId) (below : List Frame) (meth : Method) (c : Code), lw_At p s m meth c b L xs → va_K G.1 vwCl (tyz G) s → Nz s →
      ∀ (H : Heap) (locs : List Loc) (ls : Array Slot), va_P G.1 vwCl (W0 ++ wr) H → (∀ U : State, U.heap = H → s.WarmedH U.vm → Pz G W0 av H.size av.toArray U) → lz ls lv → lv.length = 4 →
        va_Run p l e room_1 s m #[Value.ref b] below meth c H locs ce sl mc ms (F0 m pc ls stk) st (Qz G Qo W0 H.size av.toArray) (va_A W0 H.size))
    (kk : ∀ (r : Option Value) (u : va_W), Qo r u → VL l G b L xs (ce + mc) (sl + ms) (wr ++ u) lv (pc + 3) (r.toList ++ st)) : VL l G b L xs ce sl wd lv pc stk := by
  refine VL.sel hp ?_
  intro p e s m below meth c C0 hK hN H locs ls hP hD hS hl hn4
  have hC := range_left W0 wr
  have hR := range_right W0 wr
  have hA : ∀ q, s.heap.size ≤ q → (fun q : Nat => s.heap.size ≤ q) q := fun q h => h
  have hPc : va_P G.1 vwCl W0 H := fun i q hi => by
    obtain ⟨j, hj⟩ := List.getElem?_of_mem (List.mem_append_left wr (List.mem_of_getElem? hi))
    exact hP j q hj
  have hDc : va_D (fun q : Nat => s.heap.size ≤ q) W0 := hD.left
  have hFc := va_free (wc := W0) hD hS hA (List.range' 0 W0.length) hC
  have hr := hrun p e s m below meth c C0 hK hN H locs ls hP (fun U hU hW => ⟨rfl, by rw [hU], by rw [hU]; exact hPc, va_K.moved hW.alike hK, hDc.weaken (fun _ _ _ _ => trivial), hN.warm hW⟩) hl hn4
  intro T hT Y
  obtain ⟨v, st₀, t, T', Lc, h0, Y', hL, e1, e2, ⟨⟨r, u, hv, hq, hP1, hD1⟩, hz, hk⟩, stp⟩ := hr T hT Y
  cases hv
  rw [h0] at hz hk
  rw [← e1] at hP1 hz hk
  obtain ⟨hP2, hD2⟩ := va_join (wr := wr) (w1 := u) hP hD (List.range' 0 W0.length) (List.range' W0.length wr.length) hC hR (nd_range _ _) (by
    intro i hi h2
    have h1 := List.mem_range'_1.mp hi
    have h3 := List.mem_range'_1.mp h2
    omega) hk hFc hP1 hD1
  have hS2 : va_S (fun q : Nat => s.heap.size ≤ q) s.heap T'.heap (locs ++ Lc) := by
    refine ⟨Nat.le_trans hS.1 hz, fun q h1 h2 => ?_, fun q hq => ?_⟩
    · rw [hk q (Nat.lt_of_lt_of_le h1 hS.1) (fun z => h2 (hFc q z))]
      exact hS.2.1 q h1 h2
    · rcases List.mem_append.mp hq with h | h
      · exact hS.2.2 q h
      · exact hFc _ (hL q h)
  obtain ⟨t2, a1, b1⟩ := kk v u hq p e s m below meth c C0 hK hN T'.heap (locs ++ Lc) ls hP2 hD2 hS2 hl hn4 T' rfl Y'
  exact ⟨t2, stp t2 a1, b1⟩
theorem lw_fits {k : KT} {n : Nat} {args : Array Value} {s : State} (h : LkB k n) (hts : ∀ w ∈ gt, w.before args s = true) (hd : kd k ≤ 7) :
    ((krm k).cells = kmc k ∧ (krm k).slots = kms k ∧ (krm k).frames + 1 ≤ room_1.frames ∧ 8 + (kn k + 11) + (krm k).locals ≤ room_1.locals ∧ (∀ w ∈ kws k, ∀ (a' : Array Value) (U : State), s.WarmedH U.vm → w.before a' U = true) ∧ Cond.code (ky k) (kc k) (kn k) (kr k) ∈ kws k) ∧
    (Cond.code (ky k) (kc k) (kn k) (kr k)).before args s = true ∧ (Cond.initialized (ky k).cls).before args s = true ∧ ((ky k).cls ≠ "java/lang/invoke/MethodHandle" ∧ (ky k).cls ≠ "java/lang/invoke/VarHandle") ∧ (∀ sig, parseMethodDescriptor (ky k).desc = some sig → n = sig.parameters.length) := by
  obtain ⟨h1, h2, h3, h4, h5⟩ := h
  refine ⟨⟨rfl, rfl, ?_, ?_, pay_in hts (kws_good h1), List.mem_cons_self⟩, hts _ h1, hts _ h2, h3, fun sig hs => ?_⟩
  · show kd k + 1 ≤ 10
    omega
  · show 8 + (kn k + 11) + 40 * kd k ≤ 346
    omega
  · rw [hs] at h4
    exact (Option.some.inj h4).symm
theorem VL.callV {k : KT} {n idx q0 ci : Nat} {fs As : List Value} {W0 wr : va_W} {Qo : Option Value → va_W → Prop} (hp : SW wd (W0 ++ wr)) (hc : Ct (l, G, k, W0, .ref q0 :: As, Qo)) (Lk : LkV "FarDrumLaw" idx k n) (hd : decode code pc = .ok (.invokevirtual idx, 3)) (hlev : Nat.ble (kd k) 7 = true) (hcs : ce + kmc k ≤ 600000 ∧ sl + kms k ≤ 7302250) (hstk : stk = As.reverse ++ .ref q0 :: st) (hn : As.length = n) (hsum : Nat.ble ((st.map fun v => v.category).sum) 8 = true)
    (hq : (q0, .inr (ci, fs)) ∈ W0) (hci : (vwCl[ci]?).map (fun c => c.1) = some (ky k).cls)
    (kk : ∀ (r : Option Value) (u : va_W), Qo r u → VL l G b L xs (ce + kmc k) (sl + kms k) (wr ++ u) lv (pc + 3) (r.toList ++ st)) : VL l G b L xs ce sl wd lv pc stk := by
  refine VL.of_run (av := .ref q0 :: As) hp ?_ kk
  intro p e s m below meth c C0 hK hN H locs ls hP hpre hl hn4
  have hts := lw_gt C0
  obtain ⟨L0, L1, L2, L3⟩ := Lk
  obtain ⟨⟨f1, f2, f3, f4, f5, f6⟩, f7, f8, f9, f10⟩ := lw_fits L0 hts (Nat.le_of_ble_eq_true hlev)
  obtain ⟨qc, hqc, hqc2⟩ := Option.map_eq_some_iff.mp hci
  obtain ⟨i, hi⟩ := List.getElem?_of_mem (List.mem_append_left wr hq)
  have hrc := va_recv hK hP hqc hi
  rw [hqc2] at hrc
  have hown : s.vm.findClass "FarDrumLaw" = some m.cls := C0.2.2.2.2.1
  exact va_runV (C := (ky k).cls) (As := As) (rest := st) (g := F0 m pc ls stk) ⟨C0.1, C0.2.1, C0.2.2.2.1.trans hn4.symm, hown, hts⟩ (hc H.size) ⟨⟨f1, f2, f3, f4, f5, f6, f7, f8, f9, f10, hts _ L1⟩, hts _ L2, hts _ L3⟩ ⟨Pz.blind, hrc, hpre⟩ rfl hn hl.1 hstk (lv_room (Nat.le_of_ble_eq_true hsum)) hd ⟨hcs.1, hcs.2⟩
theorem VL.callVi {k : KT} {n idx q0 ci : Nat} {fs : List Value} (As : List Value) {W0 wr W1 wd' : va_W} {r : Int32} (hp : SW wd (W0 ++ wr)) (hc : Ct (l, G, k, W0, .ref q0 :: As, qE (some (.int r)) W1)) (Lk : LkV "FarDrumLaw" idx k n) (hd : decode code pc = .ok (.invokevirtual idx, 3)) (hlev : Nat.ble (kd k) 7 = true) (hz : kmc k = 0 ∧ kms k = 0) (hcs : ce ≤ 600000 ∧ sl ≤ 7302250) (hstk : stk = As.reverse ++ .ref q0 :: st) (hn : As.length = n) (hsum : Nat.ble ((st.map fun v => v.category).sum) 8 = true)
    (hq : (q0, .inr (ci, fs)) ∈ W0) (hci : (vwCl[ci]?).map (fun c => c.1) = some (ky k).cls) (hp' : SW (W1 ++ wr) wd') (kk : VL l G b L xs ce sl wd' lv (pc + 3) (.int r :: st)) : VL l G b L xs ce sl wd lv pc stk := by
  obtain ⟨z1, z2⟩ := hz
  refine VL.callV hp hc Lk hd hlev (by rw [z1, z2]; exact hcs) hstk hn hsum hq hci ?_
  intro r' u hq'
  obtain ⟨rfl, rfl⟩ := hq'
  rw [z1, z2]
  exact VL.sel (SW.trans (SW.comm _ _) hp') kk
theorem VL.callVl {k : KT} {n idx q0 ci : Nat} {fs : List Value} (As : List Value) {W0 wr W1 wd' : va_W} {r : Int64} (hp : SW wd (W0 ++ wr)) (hc : Ct (l, G, k, W0, .ref q0 :: As, qE (some (.long r)) W1)) (Lk : LkV "FarDrumLaw" idx k n) (hd : decode code pc = .ok (.invokevirtual idx, 3)) (hlev : Nat.ble (kd k) 7 = true) (hz : kmc k = 0 ∧ kms k = 0) (hcs : ce ≤ 600000 ∧ sl ≤ 7302250) (hstk : stk = As.reverse ++ .ref q0 :: st) (hn : As.length = n) (hsum : Nat.ble ((st.map fun v => v.category).sum) 8 = true)
    (hq : (q0, .inr (ci, fs)) ∈ W0) (hci : (vwCl[ci]?).map (fun c => c.1) = some (ky k).cls) (hp' : SW (W1 ++ wr) wd') (kk : VL l G b L xs ce sl wd' lv (pc + 3) (.long r :: st)) : VL l G b L xs ce sl wd lv pc stk := by
  obtain ⟨z1, z2⟩ := hz
  refine VL.callV hp hc Lk hd hlev (by rw [z1, z2]; exact hcs) hstk hn hsum hq hci ?_
  intro r' u hq'
  obtain ⟨rfl, rfl⟩ := hq'
  rw [z1, z2]
  exact VL.sel (SW.trans (SW.comm _ _) hp') kk
theorem VL.callI {k : KT} {n idx q0 : Nat} {As : List Value} {W0 wr : va_W} {Qo : Option Value → va_W → Prop} (hp : SW wd (W0 ++ wr)) (hc : Ct (l, G, k, W0, .ref q0 :: As, Qo)) (Lk : LkI "FarDrumLaw" idx k n) (hd : decode code pc = .ok (.invokespecial idx, 3)) (hlev : Nat.ble (kd k) 7 = true) (hcs : Nat.ble (ce + kmc k) 600000 = true ∧ Nat.ble (sl + kms k) 7302250 = true) (hstk : stk = As.reverse ++ .ref q0 :: st) (hn : As.length = n) (hsum : Nat.ble ((st.map fun v => v.category).sum) 8 = true)
    (kk : ∀ (r : Option Value) (u : va_W), Qo r u → VL l G b L xs (ce + kmc k) (sl + kms k) (wr ++ u) lv (pc + 3) (r.toList ++ st)) : VL l G b L xs ce sl wd lv pc stk := by
  refine VL.of_run (av := .ref q0 :: As) hp ?_ kk
  intro p e s m below meth c C0 hK hN H locs ls hP hpre hl hn4
  have hts := lw_gt C0
  obtain ⟨L0, L1, L2, L3, L4⟩ := Lk
  obtain ⟨⟨f1, f2, f3, f4, f5, f6⟩, f7, f8, f9, f10⟩ := lw_fits L0 hts (Nat.le_of_ble_eq_true hlev)
  rw [L4] at f6 f7
  have hown : s.vm.findClass "FarDrumLaw" = some m.cls := C0.2.2.2.2.1
  exact va_runI (As := As) (rest := st) (g := F0 m pc ls stk) ⟨C0.1, C0.2.1, C0.2.2.2.1.trans hn4.symm, hown, hts⟩ (hc H.size) ⟨⟨f1, f2, f3, f4, f5, f6, f7, f8, f9, f10, hts _ L1⟩, L3, hts _ L2⟩ ⟨Pz.blind, hpre⟩ rfl hn hl.1 hstk (lv_room (Nat.le_of_ble_eq_true hsum)) hd ⟨Nat.le_of_ble_eq_true hcs.1, Nat.le_of_ble_eq_true hcs.2⟩
end VLR
theorem lw_arr {s : State} {args : Array Value} {ty : FieldType} (hp : ty = .int ∨ ty = .char ∨ ty = .boolean) (h : (Cond.arrayClass ty).before args s = true) : ∃ cA : ClassId, ArrOfT s cA ty ∧ va_RA s cA ty := by
  obtain ⟨cA, kA, comp, h1, h2, h3⟩ := Cond.arrayClass_spec h
  refine ⟨cA, fun n z => ⟨fun k h => (by cases h), kA, h2, comp, h3⟩, ?_⟩
  rcases hp with rfl | rfl | rfl <;> exact h1
theorem lw_arrO {s : State} {C : String} (h : va_AO C s) : ∃ cA : ClassId, ArrOfT s cA (.object C) ∧ va_RA s cA (.object C) := by
  obtain ⟨comp, cA, kA, h1, -, h2, h3, h4⟩ := Cond.arrayOver_spec h
  exact ⟨cA, fun n z => ⟨fun k h => (by cases h), kA, h2, comp, h3⟩, kA, comp, h2, h3, h1, h4⟩
theorem lw_Nz {s : State} {b : Nat} (hts : ∀ w ∈ lw_tbl, w.before #[Value.ref b] s = true) : Nz s :=
  ⟨List.forall_mem_cons.mpr ⟨va_Nw.of rfl (hts _ kn_1_27), List.forall_mem_cons.mpr ⟨va_Nw.of rfl (hts _ kn_1_56), List.forall_mem_cons.mpr ⟨va_Nw.of rfl (hts _ kn_1_101), List.forall_mem_cons.mpr ⟨va_Nw.of rfl (hts _ kn_1_163), List.forall_mem_cons.mpr ⟨va_Nw.of rfl (hts _ kn_1_174), List.forall_mem_cons.mpr ⟨va_Nw.of rfl (hts _ kn_1_233), List.forall_mem_cons.mpr ⟨va_Nw.of rfl (hts _ kn_2_14), List.forall_mem_cons.mpr ⟨va_Nw.of rfl (hts _ kn_2_17), List.forall_mem_cons.mpr ⟨va_Nw.of rfl (hts _ kn_2_22), List.forall_mem_cons.mpr ⟨va_Nw.of rfl (hts _ kn_2_25), List.forall_mem_cons.mpr ⟨va_Nw.of rfl (hts _ kn_2_30), List.forall_mem_cons.mpr ⟨va_Nw.of rfl (hts _ kn_2_33), List.forall_mem_cons.mpr ⟨va_Nw.of rfl (hts _ kn_2_38), List.forall_mem_cons.mpr ⟨va_Nw.of rfl (hts _ kn_2_41), List.forall_mem_cons.mpr ⟨va_Nw.of rfl (hts _ kn_2_46), List.forall_mem_cons.mpr ⟨va_Nw.of rfl (hts _ kn_2_49), fun _ h => absurd h List.not_mem_nil⟩⟩⟩⟩⟩⟩⟩⟩⟩⟩⟩⟩⟩⟩⟩⟩, List.forall_mem_cons.mpr ⟨va_Nw.of rfl (hts _ kn_5_100), List.forall_mem_cons.mpr ⟨va_Nw.of rfl (hts _ kn_5_101), List.forall_mem_cons.mpr ⟨va_Nw.of rfl (hts _ kn_5_102), List.forall_mem_cons.mpr ⟨va_Nw.of rfl (hts _ kn_5_103), List.forall_mem_cons.mpr ⟨va_Nw.of rfl (hts _ kn_5_104), fun _ h => absurd h List.not_mem_nil⟩⟩⟩⟩⟩, va_AO.of (hts _ kn_1_162), va_AO.of (hts _ kn_1_231)⟩
theorem lw_G {s : State} {b : Nat} (hts0 : ∀ w ∈ lw_tbl, w.before #[Value.ref b] s = true) : ∃ G : GT, va_K G.1 vwCl (tyz G) s := by
  have hts : ∀ w ∈ gt, w.before #[Value.ref b] s = true := fun w hw => hts0 w (List.mem_filter.mp hw).1
  have hN := lw_Nz hts0
  obtain ⟨c0, i0, hk0⟩ := u_known (C := RX0) (T := TX0) (N := 14) (n := 14) hts inX0 (hts _ kw_1_173)
  obtain ⟨c1, i1, hk1⟩ := u_known (C := RX1) (T := TX1) (N := 1) (n := 1) hts inX1 (hts _ kw_2_37)
  obtain ⟨c2, i2, hk2⟩ := u_known (C := RX2) (T := TX2) (N := 1) (n := 1) hts inX2 (hts _ kw_2_13)
  obtain ⟨c3, i3, hk3⟩ := u_known (C := RX3) (T := TX3) (N := 1) (n := 1) hts inX3 (hts _ kw_2_29)
  obtain ⟨c4, i4, hk4⟩ := u_known (C := RX4) (T := TX4) (N := 1) (n := 1) hts inX4 (hts _ kw_1_232)
  obtain ⟨c5, i5, hk5⟩ := u_known (C := RX5) (T := TX5) (N := 1) (n := 1) hts inX5 (hts _ kw_2_21)
  obtain ⟨c6, i6, hk6⟩ := u_known (C := RX6) (T := TX6) (N := 2) (n := 2) hts inX6 (hts _ kw_1_156)
  obtain ⟨c7, i7, hk7⟩ := u_known (C := RX7) (T := TX7) (N := 11) (n := 11) hts inX7 (hts _ kw_1_100)
  obtain ⟨c8, i8, hk8⟩ := u_known (C := RX8) (T := TX8) (N := 6) (n := 6) hts inX8 (hts _ kw_1_26)
  obtain ⟨c9, i9, hk9⟩ := u_known (C := RX9) (T := TX9) (N := 8) (n := 8) hts inX9 (hts _ kw_1_55)
  obtain ⟨c10, i10, hk10⟩ := u_known (C := RX10) (T := TX10) (N := 1) (n := 1) hts inX10 (hts _ kw_2_45)
  obtain ⟨c11, i11, hk11⟩ := u_known (C := RX11) (T := TX11) (N := 18) (n := 18) hts inX11 (hts _ kw_1_18)
  obtain ⟨c12, i12, hk12⟩ := u_known (C := RX12) (T := TX12) (N := 29) (n := 29) hts inX12 (hts _ kw_4_3)
  obtain ⟨a0, ha0⟩ := lw_arr (Or.inl rfl) (hts _ kw_1_98)
  obtain ⟨a1, ha1⟩ := lw_arr (Or.inr (Or.inl rfl)) (hts _ kw_1_53)
  obtain ⟨a2, ha2⟩ := lw_arr (Or.inr (Or.inr rfl)) (hts _ kw_1_229)
  obtain ⟨a3, ha3⟩ := lw_arrO hN.2.2.1
  obtain ⟨a4, ha4⟩ := lw_arrO hN.2.2.2
  refine ⟨((fun k => match k with | 0 => c0 | 1 => c1 | 2 => c2 | 3 => c3 | 4 => c4 | 5 => c5 | 6 => c6 | 7 => c7 | 8 => c8 | 9 => c9 | 10 => c10 | 11 => c11 | _ => c12, fun k => match k with | 0 => i0 | 1 => i1 | 2 => i2 | 3 => i3 | 4 => i4 | 5 => i5 | 6 => i6 | 7 => i7 | 8 => i8 | 9 => i9 | 10 => i10 | 11 => i11 | _ => i12), fun k => match k with | 0 => a0 | 1 => a1 | 2 => a2 | 3 => a3 | _ => a4), ?_, ?_⟩
  · intro k q hq
    match k, hq with
    | 0, hq => cases hq; exact hk0
    | 1, hq => cases hq; exact hk1
    | 2, hq => cases hq; exact hk2
    | 3, hq => cases hq; exact hk3
    | 4, hq => cases hq; exact hk4
    | 5, hq => cases hq; exact hk5
    | 6, hq => cases hq; exact hk6
    | 7, hq => cases hq; exact hk7
    | 8, hq => cases hq; exact hk8
    | 9, hq => cases hq; exact hk9
    | 10, hq => cases hq; exact hk10
    | 11, hq => cases hq; exact hk11
    | 12, hq => cases hq; exact hk12
    | k + 13, hq => simp [vwCl] at hq
  · intro k q hq
    match k, hq with
    | 0, hq => cases hq; exact ha0
    | 1, hq => cases hq; exact ha1
    | 2, hq => cases hq; exact ha2
    | 3, hq => cases hq; exact ha3
    | 4, hq => cases hq; exact ha4
    | k + 5, hq => simp [tyz] at hq
