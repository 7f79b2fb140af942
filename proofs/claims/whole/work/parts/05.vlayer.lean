/-! ===== the judgement V: where the machine stands, said by the world, the locals, the place in the code and the stack alone ===== -/
abbrev GT : Type := va_G × (Nat → ClassId)
def tyz (G : GT) : List (ClassId × FieldType) := [(G.2 0, .int), (G.2 1, .char), (G.2 2, .boolean), (G.2 3, .object "FarDrum$State"), (G.2 4, .object "FarDrum$Kind")]
/-- the links to private members of nest mates, what may be cast to Kind, the arrays of references -/
def nzM : List (String × Nat × MethodName × String) := [("FarDrum", 9, ⟨"FarDrum$Text", "<init>", "()V"⟩, "FarDrum"), ("FarDrum", 18, ⟨"FarDrum$Valley", "<init>", "()V"⟩, "FarDrum"), ("FarDrum", 28, ⟨"FarDrum$State", "<init>", "()V"⟩, "FarDrum"), ("FarDrum$Past", 17, ⟨"FarDrum$State", "<init>", "()V"⟩, "FarDrum"), ("FarDrum", 53, ⟨"FarDrum$Course", "<init>", "()V"⟩, "FarDrum"), ("FarDrum", 63, ⟨"FarDrum$Kind", "<init>", "()V"⟩, "FarDrum"), ("FarDrum", 66, ⟨"FarDrum$Hill", "<init>", "()V"⟩, "FarDrum"), ("FarDrum$Hill", 1, ⟨"FarDrum$Kind", "<init>", "()V"⟩, "FarDrum"), ("FarDrum", 69, ⟨"FarDrum$Mill", "<init>", "()V"⟩, "FarDrum"), ("FarDrum$Mill", 1, ⟨"FarDrum$Kind", "<init>", "()V"⟩, "FarDrum"), ("FarDrum", 72, ⟨"FarDrum$Hollow", "<init>", "()V"⟩, "FarDrum"), ("FarDrum$Hollow", 1, ⟨"FarDrum$Hill", "<init>", "()V"⟩, "FarDrum"), ("FarDrum", 75, ⟨"FarDrum$Ford", "<init>", "()V"⟩, "FarDrum"), ("FarDrum$Ford", 1, ⟨"FarDrum$Mill", "<init>", "()V"⟩, "FarDrum"), ("FarDrum", 78, ⟨"FarDrum$Widow", "<init>", "()V"⟩, "FarDrum"), ("FarDrum$Widow", 1, ⟨"FarDrum$Kind", "<init>", "()V"⟩, "FarDrum")]
def nzC : List (String × String) := [("FarDrum$Hill", "FarDrum$Kind"), ("FarDrum$Mill", "FarDrum$Kind"), ("FarDrum$Hollow", "FarDrum$Kind"), ("FarDrum$Ford", "FarDrum$Kind"), ("FarDrum$Widow", "FarDrum$Kind")]
def Nz (U : State) : Prop := (∀ q ∈ nzM, va_Nw (.methodLinkNest q.1 q.2.1 q.2.2.1 q.2.2.2) U) ∧ (∀ q ∈ nzC, va_Nw (.castable q.1 q.2) U) ∧ va_AO "FarDrum$State" U ∧ va_AO "FarDrum$Kind" U
theorem Nz.warm {s U : State} (hW : s.WarmedH U.vm) (h : Nz s) : Nz U := ⟨fun q hq => va_Nw.warmM hW (h.1 q hq), fun q hq => va_Nw.warmC hW (h.2.1 q hq), va_AO.moved hW.alike h.2.2.1, va_AO.moved hW.alike h.2.2.2⟩
theorem Nz.same {u U : State} (e : u.vm = U.vm) (h : Nz u) : Nz U := ⟨fun q hq => va_Nw.same rfl e (h.1 q hq), fun q hq => va_Nw.same rfl e (h.2.1 q hq), va_AO.moved (by rw [e]; exact Vm.Alike.refl _) h.2.2.1, va_AO.moved (by rw [e]; exact Vm.Alike.refl _) h.2.2.2⟩
/-- a method: name, code, locals, what it returns, how deep it calls, the cells and slots that it makes -/
abbrev KT : Type := MethodName × ByteArray × Nat × Option FieldType × Nat × Nat × Nat
def ky (k : KT) : MethodName := k.1
def kc (k : KT) : ByteArray := k.2.1
def kn (k : KT) : Nat := k.2.2.1
def kr (k : KT) : Option FieldType := k.2.2.2.1
def kd (k : KT) : Nat := k.2.2.2.2.1
def kmc (k : KT) : Nat := k.2.2.2.2.2.1
def kms (k : KT) : Nat := k.2.2.2.2.2.2
def kws (k : KT) : List Cond := Cond.code (ky k) (kc k) (kn k) (kr k) :: gt
def krm (k : KT) : Room := { frames := kd k, cells := kmc k, slots := kms k, locals := 40 * kd k }
/-- a run of a method: launch, numbers of the classes, method, world at its start, arguments, what holds at its end -/
abbrev XT : Type := Launch × GT × KT × va_W × List Value × (Option Value → va_W → Prop)
def xl (X : XT) : Launch := X.1
def xG (X : XT) : GT := X.2.1
def xk (X : XT) : KT := X.2.2.1
def xW (X : XT) : va_W := X.2.2.2.1
def xa (X : XT) : List Value := X.2.2.2.2.1
def xQ (X : XT) : Option Value → va_W → Prop := X.2.2.2.2.2
def qE (r : Option Value) (w : va_W) : Option Value → va_W → Prop := fun r' w' => r' = r ∧ w' = w
def Qz (G : GT) (Qo : Option Value → va_W → Prop) (W0 : va_W) (sz : Nat) : Array Value → State → Outcome → State → Prop := fun _ st oc t => (∃ (r : Option Value) (u : va_W), oc = .returned r ∧ Qo r u ∧ va_P G.1 vwCl u t.heap ∧ va_D (va_A W0 sz) u) ∧ va_F (va_A W0 sz) st t
def Pz (G : GT) (W0 : va_W) (av : List Value) (sz : Nat) : Array Value → State → Prop := va_Pc av (fun U => U.heap.size = sz ∧ va_P G.1 vwCl W0 U.heap ∧ va_K G.1 vwCl (tyz G) U ∧ va_D (fun _ => True) W0 ∧ Nz U)
/-- the contract of a run -/
def Ct (X : XT) : Prop := ∀ sz : Nat, Met (xl X) (ky (xk X)) (kws (xk X)) (krm (xk X)) (Pz (xG X) (xW X) (xa X) sz) (Qz (xG X) (xQ X) (xW X) sz) (kmc (xk X)) (kms (xk X)) (va_A (xW X) sz)
/-- the locals, by place -/
def las : Nat → List (Option Value) → List (Nat × Value)
  | _, [] => []
  | i, none :: t => las (i + 1) t
  | i, some v :: t => (i, v) :: las (i + 1) t
theorem las_mem : ∀ (lv : List (Option Value)) (i j : Nat) (v : Value), lv[j]? = some (some v) → (i + j, v) ∈ las i lv
  | [], _, _, _, h => by simp at h
  | a :: t, i, 0, v, h => by
    simp at h
    subst h
    simp [las]
  | none :: t, i, j + 1, v, h => by
    have := las_mem t (i + 1) j v (by simpa using h)
    rw [show i + (j + 1) = i + 1 + j by omega]
    simpa [las] using this
  | some w :: t, i, j + 1, v, h => by
    have := las_mem t (i + 1) j v (by simpa using h)
    rw [show i + (j + 1) = i + 1 + j by omega]
    exact List.mem_cons_of_mem _ this
theorem las_inv : ∀ (lv : List (Option Value)) (i k : Nat) (v : Value), (k, v) ∈ las i lv → ∃ j, k = i + j ∧ lv[j]? = some (some v)
  | [], _, _, _, h => by simp [las] at h
  | none :: t, i, k, v, h => by
    obtain ⟨j, h1, h2⟩ := las_inv t (i + 1) k v (by simpa [las] using h)
    exact ⟨j + 1, by omega, by simpa using h2⟩
  | some w :: t, i, k, v, h => by
    rcases List.mem_cons.mp h with h | h
    · cases h
      exact ⟨0, by omega, by simp⟩
    · obtain ⟨j, h1, h2⟩ := las_inv t (i + 1) k v h
      exact ⟨j + 1, by omega, by simpa using h2⟩
def lz (ls : Array Slot) (lv : List (Option Value)) : Prop := lv_has ls lv.length (las 0 lv)
theorem lz.at {ls : Array Slot} {lv : List (Option Value)} (h : lz ls lv) {i : Nat} {v : Value} (hi : lv[i]? = some (some v)) : ls[i]? = some (.val v) := h.2.2 (i, v) (by have := las_mem lv 0 i v hi; simpa using this)
def okS (lv : List (Option Value)) (i : Nat) : Bool := match i with
  | 0 => true
  | j + 1 => match lv[j]? with
    | some (some v) => v.category != 2
    | _ => true
theorem lz.set {ls' : Array Slot} {lv lv' : List (Option Value)} {i : Nat} {v : Value} (hn : i < lv.length) (ho : okS lv i = true) (h : lv_has ls' lv.length ((i, v) :: (las 0 lv).filter (fun q => !(q.1 == i) && !(q.1 + 1 == i && q.2.category == 2)))) (e : lv.set i (some v) = lv') : lz ls' lv' := by
  subst e
  refine ⟨by rw [List.length_set]; exact h.1, h.2.1, fun q hq => ?_⟩
  obtain ⟨k, w⟩ := q
  obtain ⟨j, hj, h2⟩ := las_inv _ _ _ _ hq
  have hkj : k = j := by omega
  subst hkj
  by_cases hki : k = i
  · subst hki
    rw [List.getElem?_set_self hn] at h2
    cases h2
    exact h.2.2 _ List.mem_cons_self
  · rw [List.getElem?_set_ne (Ne.symm hki)] at h2
    refine h.2.2 (k, w) (List.mem_cons_of_mem _ (List.mem_filter.mpr ⟨by have := las_mem lv 0 k w h2; simpa using this, ?_⟩))
    simp only [Bool.and_eq_true, Bool.not_eq_true', beq_eq_false_iff_ne, ne_eq, Bool.and_eq_false_iff]
    refine ⟨hki, ?_⟩
    by_cases hk1 : k + 1 = i
    · right
      subst hk1
      simp only [okS, h2, bne_iff_ne, ne_eq] at ho
      exact ho
    · left
      exact hk1
theorem lz.mask {ls : Array Slot} {lv lv' : List (Option Value)} (hn : lv'.length = lv.length) (hm : ∀ (i : Nat) (v : Value), lv'[i]? = some (some v) → lv[i]? = some (some v)) (h : lz ls lv) : lz ls lv' := by
  refine ⟨by rw [hn]; exact h.1, h.2.1, fun q hq => ?_⟩
  obtain ⟨k, w⟩ := q
  obtain ⟨j, hj, h2⟩ := las_inv _ _ _ _ hq
  have hkj : k = j := by omega
  subst hkj
  exact h.at (hm _ _ h2)
def maskL : List Bool → List (Option Value) → List (Option Value)
  | [], _ => []
  | _, [] => []
  | b :: t, v :: r => (if b then v else none) :: maskL t r
theorem maskL_in : ∀ (bs : List Bool) (lv : List (Option Value)) (i : Nat) (v : Value), (maskL bs lv)[i]? = some (some v) → lv[i]? = some (some v)
  | [], _, _, _, h => by simp [maskL] at h
  | _ :: _, [], _, _, h => by simp [maskL] at h
  | b :: t, w :: r, 0, v, h => by
    cases b
    · simp [maskL] at h
    · simpa [maskL] using h
  | b :: t, w :: r, i + 1, v, h => by
    have := maskL_in t r i v (by simpa [maskL] using h)
    simpa using this
theorem lz.long {ls' : Array Slot} {lv lv' : List (Option Value)} {i : Nat} {v : Value} (hn : i + 1 < lv.length) (ho : okS lv i = true) (h : lv_has ls' lv.length ((i, v) :: (las 0 lv).filter (fun q => !(q.1 == i) && (!(q.1 == i + 1) && !(q.1 + 1 == i && q.2.category == 2))))) (e : (lv.set i (some v)).set (i + 1) none = lv') : lz ls' lv' := by
  subst e
  refine ⟨by rw [List.length_set, List.length_set]; exact h.1, h.2.1, fun q hq => ?_⟩
  obtain ⟨k, w⟩ := q
  obtain ⟨j, hj, h2⟩ := las_inv _ _ _ _ hq
  have hkj : k = j := by omega
  subst hkj
  by_cases hk2 : k = i + 1
  · subst hk2
    rw [List.getElem?_set_self (by rw [List.length_set]; exact hn)] at h2
    cases h2
  · rw [List.getElem?_set_ne (Ne.symm hk2)] at h2
    by_cases hki : k = i
    · subst hki
      rw [List.getElem?_set_self (by omega)] at h2
      cases h2
      exact h.2.2 _ List.mem_cons_self
    · rw [List.getElem?_set_ne (Ne.symm hki)] at h2
      refine h.2.2 (k, w) (List.mem_cons_of_mem _ (List.mem_filter.mpr ⟨by have := las_mem lv 0 k w h2; simpa using this, ?_⟩))
      simp only [Bool.and_eq_true, Bool.not_eq_true', beq_eq_false_iff_ne, ne_eq, Bool.and_eq_false_iff]
      refine ⟨hki, hk2, ?_⟩
      by_cases hk1 : k + 1 = i
      · right
        subst hk1
        simp only [okS, h2, bne_iff_ne, ne_eq] at ho
        exact ho
      · left
        exact hk1
def V (X : XT) (cc : ByteArray) (own : String) (ce sl : Nat) (wd : va_W) (lv : List (Option Value)) (pc : Nat) (st : List Value) : Prop :=
  ∀ (p : Program) (e : Env) (s : State) (m : MethodId) (below : List Frame) (meth : Method) (c : Code) (s₁ : State),
    BodyLoose p (xl X) (ky (xk X)) (headSpec (kws (xk X)) (krm (xk X))) cc (kn (xk X)) (kr (xk X)) e s m (xa X).toArray below meth c s₁ → c.maxLocals = lv.length → (ky (xk X)).cls = own → va_K (xG X).1 vwCl (tyz (xG X)) s → Nz s →
    ∀ (H : Heap) (locs : List Loc) (ls : Array Slot), va_P (xG X).1 vwCl wd H → va_D (va_A (xW X) s.heap.size) wd → va_S (va_A (xW X) s.heap.size) s.heap H locs → lz ls lv →
      W p (xl X) e (krm (xk X)) s m (xa X).toArray below meth c H locs ce sl (MQ below (Qz (xG X) (xQ X) (xW X) s.heap.size) (xa X).toArray s (kmc (xk X)) (kms (xk X)) (va_A (xW X) s.heap.size)) (F0 m pc ls st)
theorem Ct.of {X : XT} (lv : List (Option Value)) (hy : plainName (ky (xk X)).cls = true) (hn : kn (xk X) = lv.length) (hs : Nat.ble (lg_sl (xa X)).length lv.length = true) (hl : las 0 lv = lv_args 0 (xa X)) (h : V X (kc (xk X)) (ky (xk X)).cls 0 0 (xW X) lv 0 []) : Ct X := by
  intro sz
  refine Met.ofW (cc := kc (xk X)) (maxL := kn (xk X)) (ret := kr (xk X)) hy rfl ?_
  intro p e s m args below meth c s₁ B hml hv
  obtain ⟨rfl, hsz, hP, hK, hD0, hN⟩ := hv
  subst hsz
  have hD := hD0.self (sz := s.heap.size)
  rw [lg_entry_eq]
  refine h p e s m below meth c s₁ B (hml.trans hn) rfl hK hN s.heap [] _ hP hD va_S.rf ?_
  have h1 := lv_entry (xa X) (n := kn (xk X)) (by rw [hn]; exact Nat.le_of_ble_eq_true hs)
  rw [← hl, hn] at h1
  rw [hn]
  exact h1
/-- reads and writes of arrays, that may fail -/
def rdi {O : Type} (n : Nat) (f : Nat → Int32) (i : Int32) (k : Int32 → Option O) : Option O := if i < 0 ∨ n ≤ i.toNatClampNeg then none else k (f i.toNatClampNeg)
def wri {O : Type} (n : Nat) (f : Nat → Int32) (i x : Int32) (k : (Nat → Int32) → Option O) : Option O := if i < 0 ∨ n ≤ i.toNatClampNeg then none else k (upd f i.toNatClampNeg x)
def lti {O α : Type} (a : α) (k : α → Option O) : Option O := k a
def dvi {O : Type} (y : Int32) (k : Option O) : Option O := if y = 0 then none else k
def bz {O : Type} (y : Int32) (k : Option O) : Option O := if narrow .boolean (.int y) = .int y then k else none
theorem rdi_ok {O : Type} {n : Nat} {f : Nat → Int32} {i : Int32} {k : Int32 → Option O} {out : O} (h : rdi n f i k = some out) : vp_in i n ∧ k (f i.toNatClampNeg) = some out := by
  unfold rdi at h
  split at h
  · cases h
  · rename_i h1
    exact ⟨h1, h⟩
theorem wri_ok {O : Type} {n : Nat} {f : Nat → Int32} {i x : Int32} {k : (Nat → Int32) → Option O} {out : O} (h : wri n f i x k = some out) : vp_in i n ∧ k (upd f i.toNatClampNeg x) = some out := by
  unfold wri at h
  split at h
  · cases h
  · rename_i h1
    exact ⟨h1, h⟩
theorem dvi_ok {O : Type} {y : Int32} {k : Option O} {out : O} (h : dvi y k = some out) : ¬ y = 0 ∧ k = some out := by
  unfold dvi at h
  split at h
  · cases h
  · rename_i h1
    exact ⟨h1, h⟩
theorem bz_ok {O : Type} {y : Int32} {k : Option O} {out : O} (h : bz y k = some out) : narrow .boolean (.int y) = .int y ∧ k = some out := by
  unfold bz at h
  split at h
  · rename_i h1
    exact ⟨h1, h⟩
  · cases h
theorem ob_ok {O O' : Type} {a : Option O'} {k : O' → Option O} {out : O} (h : a.bind k = some out) : ∃ o, a = some o ∧ k o = some out := by
  cases a with
  | none => cases h
  | some o => exact ⟨o, rfl, h⟩
section VR
variable {X : XT} {cc : ByteArray} {own : String} {ce sl : Nat} {wd : va_W} {lv : List (Option Value)} {pc : Nat} {st : List Value}
theorem kws_ts {k : KT} {rm : Room} {args : Array Value} {s : State} (h : (headSpec (kws k) rm).pre.before args s = true) : ∀ w ∈ gt, w.before args s = true := fun w hw => atoms_spec (ws := kws k) h w (List.mem_cons_of_mem _ hw)
theorem V.sub {wd' : va_W} (is : List Nat) (hs : is.map (fun i => wd[i]?) = wd'.map some) (hn : va_nd is = true) (k : V X cc own ce sl wd' lv pc st) : V X cc own ce sl wd lv pc st :=
  fun p e s m below meth c s₁ B hml ho hK hN H locs ls hP hD hS hl => k p e s m below meth c s₁ B hml ho hK hN H locs ls (hP.sub is (by
    have := congrArg (fun l => l.filterMap id) hs
    simpa [List.filterMap_map, Function.comp_def] using this)) (hD.sub is hn hs) hS hl
theorem V.mask {lv' : List (Option Value)} (bs : List Bool) (hb : bs.length = lv.length) (e : maskL bs lv = lv') (k : V X cc own ce sl wd lv' pc st) : V X cc own ce sl wd lv pc st := by
  subst e
  have hlen : ∀ (bs : List Bool) (lv : List (Option Value)), bs.length = lv.length → (maskL bs lv).length = lv.length := by
    intro bs
    induction bs with
    | nil => intro lv h; cases lv with
      | nil => rfl
      | cons a t => simp at h
    | cons b t ih => intro lv h; cases lv with
      | nil => simp at h
      | cons a r => simp [maskL]; exact ih r (by simpa using h)
  exact fun p e s m below meth c s₁ B hml ho hK hN H locs ls hP hD hS hl => k p e s m below meth c s₁ B (by rw [hlen bs lv hb]; exact hml) ho hK hN H locs ls hP hD hS (hl.mask (hlen bs lv hb) (maskL_in bs lv))
theorem V.widen {ce' sl' : Nat} (h1 : ce ≤ ce') (h2 : sl ≤ sl') (k : V X cc own ce' sl' wd lv pc st) : V X cc own ce sl wd lv pc st :=
  fun p e s m below meth c s₁ B hml ho hK hN H locs ls hP hD hS hl => W.widen h1 h2 (k p e s m below meth c s₁ B hml ho hK hN H locs ls hP hD hS hl)
theorem V.iconst {n : Int} {v : Int32} (hd : decode cc pc = .ok (.iconst n, 1)) (hv : Int32.ofInt n = v) (k : V X cc own ce sl wd lv (pc + 1) (.int v :: st)) : V X cc own ce sl wd lv pc (st) :=
  fun p e s m below meth c s₁ B hml ho hK hN H locs ls hP hD hS hl => lv_iconst B.exec B.bytes hd hv (k p e s m below meth c s₁ B hml ho hK hN H locs ls hP hD hS hl)
theorem V.bipush {n : Int} {v : Int32} (hd : decode cc pc = .ok (.bipush n, 2)) (hv : (Int8.ofInt n).toInt32 = v) (k : V X cc own ce sl wd lv (pc + 2) (.int v :: st)) : V X cc own ce sl wd lv pc (st) :=
  fun p e s m below meth c s₁ B hml ho hK hN H locs ls hP hD hS hl => lv_bipush B.exec B.bytes hd hv (k p e s m below meth c s₁ B hml ho hK hN H locs ls hP hD hS hl)
theorem V.sipush {n : Int} {v : Int32} (hd : decode cc pc = .ok (.sipush n, 3)) (hv : (Int16.ofInt n).toInt32 = v) (k : V X cc own ce sl wd lv (pc + 3) (.int v :: st)) : V X cc own ce sl wd lv pc (st) :=
  fun p e s m below meth c s₁ B hml ho hK hN H locs ls hP hD hS hl => lv_sipush B.exec B.bytes hd hv (k p e s m below meth c s₁ B hml ho hK hN H locs ls hP hD hS hl)
theorem V.lconst {n : Fin 2} {v : Int64} (hd : decode cc pc = .ok (.lconst n, 1)) (hv : Int64.ofNat (n : Nat) = v) (k : V X cc own ce sl wd lv (pc + 1) (.long v :: st)) : V X cc own ce sl wd lv pc (st) :=
  fun p e s m below meth c s₁ B hml ho hK hN H locs ls hP hD hS hl => lv_lconst B.exec B.bytes hd hv (k p e s m below meth c s₁ B hml ho hK hN H locs ls hP hD hS hl)
theorem V.iadd {x y : Int32} (hd : decode cc pc = .ok (.iadd, 1)) (k : V X cc own ce sl wd lv (pc + 1) (.int (x + y) :: st)) : V X cc own ce sl wd lv pc (.int y :: .int x :: st) :=
  fun p e s m below meth c s₁ B hml ho hK hN H locs ls hP hD hS hl => lv_iadd B.exec B.bytes hd (k p e s m below meth c s₁ B hml ho hK hN H locs ls hP hD hS hl)
theorem V.isub {x y : Int32} (hd : decode cc pc = .ok (.isub, 1)) (k : V X cc own ce sl wd lv (pc + 1) (.int (x - y) :: st)) : V X cc own ce sl wd lv pc (.int y :: .int x :: st) :=
  fun p e s m below meth c s₁ B hml ho hK hN H locs ls hP hD hS hl => lv_isub B.exec B.bytes hd (k p e s m below meth c s₁ B hml ho hK hN H locs ls hP hD hS hl)
theorem V.imul {x y : Int32} (hd : decode cc pc = .ok (.imul, 1)) (k : V X cc own ce sl wd lv (pc + 1) (.int (x * y) :: st)) : V X cc own ce sl wd lv pc (.int y :: .int x :: st) :=
  fun p e s m below meth c s₁ B hml ho hK hN H locs ls hP hD hS hl => lv_imul B.exec B.bytes hd (k p e s m below meth c s₁ B hml ho hK hN H locs ls hP hD hS hl)
theorem V.iand {x y : Int32} (hd : decode cc pc = .ok (.iand, 1)) (k : V X cc own ce sl wd lv (pc + 1) (.int (x &&& y) :: st)) : V X cc own ce sl wd lv pc (.int y :: .int x :: st) :=
  fun p e s m below meth c s₁ B hml ho hK hN H locs ls hP hD hS hl => lv_iand B.exec B.bytes hd (k p e s m below meth c s₁ B hml ho hK hN H locs ls hP hD hS hl)
theorem V.ior {x y : Int32} (hd : decode cc pc = .ok (.ior, 1)) (k : V X cc own ce sl wd lv (pc + 1) (.int (x ||| y) :: st)) : V X cc own ce sl wd lv pc (.int y :: .int x :: st) :=
  fun p e s m below meth c s₁ B hml ho hK hN H locs ls hP hD hS hl => lv_ior B.exec B.bytes hd (k p e s m below meth c s₁ B hml ho hK hN H locs ls hP hD hS hl)
theorem V.ixor {x y : Int32} (hd : decode cc pc = .ok (.ixor, 1)) (k : V X cc own ce sl wd lv (pc + 1) (.int (x ^^^ y) :: st)) : V X cc own ce sl wd lv pc (.int y :: .int x :: st) :=
  fun p e s m below meth c s₁ B hml ho hK hN H locs ls hP hD hS hl => lv_ixor B.exec B.bytes hd (k p e s m below meth c s₁ B hml ho hK hN H locs ls hP hD hS hl)
theorem V.ishl {x y : Int32} (hd : decode cc pc = .ok (.ishl, 1)) (k : V X cc own ce sl wd lv (pc + 1) (.int (x <<< (y &&& 31)) :: st)) : V X cc own ce sl wd lv pc (.int y :: .int x :: st) :=
  fun p e s m below meth c s₁ B hml ho hK hN H locs ls hP hD hS hl => lv_ishl B.exec B.bytes hd (k p e s m below meth c s₁ B hml ho hK hN H locs ls hP hD hS hl)
theorem V.ishr {x y : Int32} (hd : decode cc pc = .ok (.ishr, 1)) (k : V X cc own ce sl wd lv (pc + 1) (.int (x >>> (y &&& 31)) :: st)) : V X cc own ce sl wd lv pc (.int y :: .int x :: st) :=
  fun p e s m below meth c s₁ B hml ho hK hN H locs ls hP hD hS hl => lv_ishr B.exec B.bytes hd (k p e s m below meth c s₁ B hml ho hK hN H locs ls hP hD hS hl)
theorem V.iushr {x y : Int32} (hd : decode cc pc = .ok (.iushr, 1)) (k : V X cc own ce sl wd lv (pc + 1) (.int ((x.toUInt32 >>> (y.toUInt32 &&& Int32.toUInt32 31)).toInt32) :: st)) : V X cc own ce sl wd lv pc (.int y :: .int x :: st) :=
  fun p e s m below meth c s₁ B hml ho hK hN H locs ls hP hD hS hl => lv_iushr B.exec B.bytes hd rfl (k p e s m below meth c s₁ B hml ho hK hN H locs ls hP hD hS hl)
theorem V.ladd {x y : Int64} (hd : decode cc pc = .ok (.ladd, 1)) (k : V X cc own ce sl wd lv (pc + 1) (.long (x + y) :: st)) : V X cc own ce sl wd lv pc (.long y :: .long x :: st) :=
  fun p e s m below meth c s₁ B hml ho hK hN H locs ls hP hD hS hl => lv_ladd B.exec B.bytes hd (k p e s m below meth c s₁ B hml ho hK hN H locs ls hP hD hS hl)
theorem V.i2c {x : Int32} (hd : decode cc pc = .ok (.i2c, 1)) (k : V X cc own ce sl wd lv (pc + 1) (.int ((x.toUInt32 % 65536).toInt32) :: st)) : V X cc own ce sl wd lv pc (.int x :: st) :=
  fun p e s m below meth c s₁ B hml ho hK hN H locs ls hP hD hS hl => lv_i2c B.exec B.bytes hd rfl (k p e s m below meth c s₁ B hml ho hK hN H locs ls hP hD hS hl)
theorem V.dup {v : Value} (hd : decode cc pc = .ok (.dup, 1)) (hv : v.category = 1) (k : V X cc own ce sl wd lv (pc + 1) (v :: v :: st)) : V X cc own ce sl wd lv pc (v :: st) :=
  fun p e s m below meth c s₁ B hml ho hK hN H locs ls hP hD hS hl => lv_dup B.exec B.bytes hd hv (k p e s m below meth c s₁ B hml ho hK hN H locs ls hP hD hS hl)
theorem V.pop {v : Value} (hd : decode cc pc = .ok (.pop, 1)) (hv : v.category = 1) (k : V X cc own ce sl wd lv (pc + 1) (st)) : V X cc own ce sl wd lv pc (v :: st) :=
  fun p e s m below meth c s₁ B hml ho hK hN H locs ls hP hD hS hl => lv_pop B.exec B.bytes hd hv (k p e s m below meth c s₁ B hml ho hK hN H locs ls hP hD hS hl)
theorem V.dup2 {v w : Value} (hd : decode cc pc = .ok (.dup2, 1)) (hv : v.category = 1 ∧ w.category = 1) (k : V X cc own ce sl wd lv (pc + 1) (v :: w :: v :: w :: st)) : V X cc own ce sl wd lv pc (v :: w :: st) :=
  fun p e s m below meth c s₁ B hml ho hK hN H locs ls hP hD hS hl => lv_dup2_11 B.exec B.bytes hd hv.1 hv.2 (k p e s m below meth c s₁ B hml ho hK hN H locs ls hP hD hS hl)
theorem V.iloadn {i : Fin 4} {x : Int32} (hd : decode cc pc = .ok (.iload_n i, 1)) (hv : lv[(i : Nat)]? = some (some (.int x))) (k : V X cc own ce sl wd lv (pc + 1) (.int x :: st)) : V X cc own ce sl wd lv pc (st) :=
  fun p e s m below meth c s₁ B hml ho hK hN H locs ls hP hD hS hl => lv_iload_n B.exec B.bytes hd rfl (hl.at hv) (k p e s m below meth c s₁ B hml ho hK hN H locs ls hP hD hS hl)
theorem V.iload {i : Nat} {x : Int32} (hd : decode cc pc = .ok (.iload i, 2)) (hv : lv[i]? = some (some (.int x))) (k : V X cc own ce sl wd lv (pc + 2) (.int x :: st)) : V X cc own ce sl wd lv pc (st) :=
  fun p e s m below meth c s₁ B hml ho hK hN H locs ls hP hD hS hl => lv_iload B.exec B.bytes hd (hl.at hv) (k p e s m below meth c s₁ B hml ho hK hN H locs ls hP hD hS hl)
theorem V.aloadn {i : Fin 4} {x : Nat} (hd : decode cc pc = .ok (.aload_n i, 1)) (hv : lv[(i : Nat)]? = some (some (.ref x))) (k : V X cc own ce sl wd lv (pc + 1) (.ref x :: st)) : V X cc own ce sl wd lv pc (st) :=
  fun p e s m below meth c s₁ B hml ho hK hN H locs ls hP hD hS hl => lv_aload_n B.exec B.bytes hd rfl (hl.at hv) (k p e s m below meth c s₁ B hml ho hK hN H locs ls hP hD hS hl)
theorem V.lloadn {i : Fin 4} {x : Int64} (hd : decode cc pc = .ok (.lload_n i, 1)) (hv : lv[(i : Nat)]? = some (some (.long x))) (k : V X cc own ce sl wd lv (pc + 1) (.long x :: st)) : V X cc own ce sl wd lv pc (st) :=
  fun p e s m below meth c s₁ B hml ho hK hN H locs ls hP hD hS hl => lv_lload_n B.exec B.bytes hd rfl (hl.at hv) (k p e s m below meth c s₁ B hml ho hK hN H locs ls hP hD hS hl)
theorem V.istoren {lv' : List (Option Value)} {i : Fin 4} {x : Int32} (hd : decode cc pc = .ok (.istore_n i, 1)) (hi : Nat.blt (i : Nat) lv.length = true) (hk : okS lv (i : Nat) = true) (hv : lv.set (i : Nat) (some (.int x)) = lv') (k : V X cc own ce sl wd lv' (pc + 1) st) : V X cc own ce sl wd lv pc (.int x :: st) :=
  fun p e s m below meth c s₁ B hml ho hK hN H locs ls hP hD hS hl => lv_istore_n B.exec B.bytes hd rfl hl (Nat.le_of_ble_eq_true hi) rfl (fun ls2 h2 => k p e s m below meth c s₁ B (by rw [hml, ← hv, List.length_set]) ho hK hN H locs ls2 hP hD hS (lz.set (Nat.le_of_ble_eq_true hi) hk h2 hv))
theorem V.istore {lv' : List (Option Value)} {i : Nat} {x : Int32} (hd : decode cc pc = .ok (.istore i, 2)) (hi : Nat.blt i lv.length = true) (hk : okS lv i = true) (hv : lv.set i (some (.int x)) = lv') (k : V X cc own ce sl wd lv' (pc + 2) st) : V X cc own ce sl wd lv pc (.int x :: st) :=
  fun p e s m below meth c s₁ B hml ho hK hN H locs ls hP hD hS hl => lv_istore B.exec B.bytes hd hl (Nat.le_of_ble_eq_true hi) rfl (fun ls2 h2 => k p e s m below meth c s₁ B (by rw [hml, ← hv, List.length_set]) ho hK hN H locs ls2 hP hD hS (lz.set (Nat.le_of_ble_eq_true hi) hk h2 hv))
theorem V.astoren {lv' : List (Option Value)} {i : Fin 4} {x : Nat} (hd : decode cc pc = .ok (.astore_n i, 1)) (hi : Nat.blt (i : Nat) lv.length = true) (hk : okS lv (i : Nat) = true) (hv : lv.set (i : Nat) (some (.ref x)) = lv') (k : V X cc own ce sl wd lv' (pc + 1) st) : V X cc own ce sl wd lv pc (.ref x :: st) :=
  fun p e s m below meth c s₁ B hml ho hK hN H locs ls hP hD hS hl => lv_astore_n B.exec B.bytes hd rfl hl (Nat.le_of_ble_eq_true hi) rfl (fun ls2 h2 => k p e s m below meth c s₁ B (by rw [hml, ← hv, List.length_set]) ho hK hN H locs ls2 hP hD hS (lz.set (Nat.le_of_ble_eq_true hi) hk h2 hv))
theorem V.lstoren {lv' : List (Option Value)} {i : Fin 4} {x : Int64} (hd : decode cc pc = .ok (.lstore_n i, 1)) (hi : Nat.blt ((i : Nat) + 1) lv.length = true) (hk : okS lv (i : Nat) = true) (hv : (lv.set (i : Nat) (some (.long x))).set ((i : Nat) + 1) none = lv') (k : V X cc own ce sl wd lv' (pc + 1) st) : V X cc own ce sl wd lv pc (.long x :: st) :=
  fun p e s m below meth c s₁ B hml ho hK hN H locs ls hP hD hS hl => lv_lstore_n B.exec B.bytes hd rfl hl (Nat.le_of_ble_eq_true hi) rfl (fun ls2 h2 => k p e s m below meth c s₁ B (by rw [hml, ← hv, List.length_set, List.length_set]) ho hK hN H locs ls2 hP hD hS (lz.long (Nat.le_of_ble_eq_true hi) hk h2 hv))
theorem V.iinc {lv' : List (Option Value)} {i : Nat} {n : Int} {x v : Int32} (hd : decode cc pc = .ok (.iinc i n, 3)) (hx : lv[i]? = some (some (.int x))) (hk : okS lv i = true) (he : Int32.ofInt n = v) (hv : lv.set i (some (.int (x + v))) = lv') (k : V X cc own ce sl wd lv' (pc + 3) st) : V X cc own ce sl wd lv pc st := by
  intro p e s m below meth c s₁ B hml ho hK hN H locs ls hP hD hS hl
  have hi : i < lv.length := (List.getElem?_eq_some_iff.mp hx).1
  have hm : (i, Value.int x) ∈ las 0 lv := by have := las_mem lv 0 i _ hx; simpa using this
  obtain ⟨j, hj⟩ := List.getElem?_of_mem hm
  exact lv_iinc (k := j) (v := x + v) B.exec B.bytes hd hl hj (by rw [he]) hi rfl (fun ls2 h2 => k p e s m below meth c s₁ B (by rw [hml, ← hv, List.length_set]) ho hK hN H locs ls2 hP hD hS (lz.set hi hk h2 hv))
theorem V.goto {off : Int} {tgt : Nat} (hd : decode cc pc = .ok (.goto off, 3)) (ht : (pc : Int) + off = (tgt : Int)) (k : V X cc own ce sl wd lv tgt st) : V X cc own ce sl wd lv pc st :=
  fun p e s m below meth c s₁ B hml ho hK hN H locs ls hP hD hS hl => lv_goto B.exec B.bytes hd ht (k p e s m below meth c s₁ B hml ho hK hN H locs ls hP hD hS hl)
theorem V.icmp_eq {O : Type} {out : O} {A1 A2 : Option O} {x y : Int32} {off : Int} {tgt : Nat} (hd : decode cc pc = .ok (.if_icmp .eq off, 3)) (ht : (pc : Int) + off = (tgt : Int)) (hf : (if x = y then A1 else A2) = some out) (k1 : A1 = some out → V X cc own ce sl wd lv tgt st) (k2 : A2 = some out → V X cc own ce sl wd lv (pc + 3) st) : V X cc own ce sl wd lv pc (.int y :: .int x :: st) :=
  fun p e s m below meth c s₁ B hml ho hK hN H locs ls hP hD hS hl => lv_icmp_eq B.exec B.bytes hd ht (fun q => (k1 (by rw [if_pos q] at hf; exact hf) p e s m below meth c s₁ B hml ho hK hN H locs ls hP hD hS hl)) (fun q => (k2 (by rw [if_neg q] at hf; exact hf) p e s m below meth c s₁ B hml ho hK hN H locs ls hP hD hS hl))
theorem V.if_eq {O : Type} {out : O} {A1 A2 : Option O} {x : Int32} {off : Int} {tgt : Nat} (hd : decode cc pc = .ok (.ifCond .eq off, 3)) (ht : (pc : Int) + off = (tgt : Int)) (hf : (if x = 0 then A1 else A2) = some out) (k1 : A1 = some out → V X cc own ce sl wd lv tgt st) (k2 : A2 = some out → V X cc own ce sl wd lv (pc + 3) st) : V X cc own ce sl wd lv pc (.int x :: st) :=
  fun p e s m below meth c s₁ B hml ho hK hN H locs ls hP hD hS hl => lv_if_eq B.exec B.bytes hd ht (fun q => (k1 (by rw [if_pos q] at hf; exact hf) p e s m below meth c s₁ B hml ho hK hN H locs ls hP hD hS hl)) (fun q => (k2 (by rw [if_neg q] at hf; exact hf) p e s m below meth c s₁ B hml ho hK hN H locs ls hP hD hS hl))
theorem V.icmp_ne {O : Type} {out : O} {A1 A2 : Option O} {x y : Int32} {off : Int} {tgt : Nat} (hd : decode cc pc = .ok (.if_icmp .ne off, 3)) (ht : (pc : Int) + off = (tgt : Int)) (hf : (if x = y then A2 else A1) = some out) (k1 : A1 = some out → V X cc own ce sl wd lv tgt st) (k2 : A2 = some out → V X cc own ce sl wd lv (pc + 3) st) : V X cc own ce sl wd lv pc (.int y :: .int x :: st) :=
  fun p e s m below meth c s₁ B hml ho hK hN H locs ls hP hD hS hl => lv_icmp_ne B.exec B.bytes hd ht (fun q => (k1 (by rw [if_neg q] at hf; exact hf) p e s m below meth c s₁ B hml ho hK hN H locs ls hP hD hS hl)) (fun q => (k2 (by first | (rw [if_pos q] at hf; exact hf) | (rw [if_pos (Classical.not_not.mp q)] at hf; exact hf)) p e s m below meth c s₁ B hml ho hK hN H locs ls hP hD hS hl))
theorem V.if_ne {O : Type} {out : O} {A1 A2 : Option O} {x : Int32} {off : Int} {tgt : Nat} (hd : decode cc pc = .ok (.ifCond .ne off, 3)) (ht : (pc : Int) + off = (tgt : Int)) (hf : (if x = 0 then A2 else A1) = some out) (k1 : A1 = some out → V X cc own ce sl wd lv tgt st) (k2 : A2 = some out → V X cc own ce sl wd lv (pc + 3) st) : V X cc own ce sl wd lv pc (.int x :: st) :=
  fun p e s m below meth c s₁ B hml ho hK hN H locs ls hP hD hS hl => lv_if_ne B.exec B.bytes hd ht (fun q => (k1 (by rw [if_neg q] at hf; exact hf) p e s m below meth c s₁ B hml ho hK hN H locs ls hP hD hS hl)) (fun q => (k2 (by first | (rw [if_pos q] at hf; exact hf) | (rw [if_pos (Classical.not_not.mp q)] at hf; exact hf)) p e s m below meth c s₁ B hml ho hK hN H locs ls hP hD hS hl))
theorem V.icmp_lt {O : Type} {out : O} {A1 A2 : Option O} {x y : Int32} {off : Int} {tgt : Nat} (hd : decode cc pc = .ok (.if_icmp .lt off, 3)) (ht : (pc : Int) + off = (tgt : Int)) (hf : (if x < y then A1 else A2) = some out) (k1 : A1 = some out → V X cc own ce sl wd lv tgt st) (k2 : A2 = some out → V X cc own ce sl wd lv (pc + 3) st) : V X cc own ce sl wd lv pc (.int y :: .int x :: st) :=
  fun p e s m below meth c s₁ B hml ho hK hN H locs ls hP hD hS hl => lv_icmp_lt B.exec B.bytes hd ht (fun q => (k1 (by rw [if_pos q] at hf; exact hf) p e s m below meth c s₁ B hml ho hK hN H locs ls hP hD hS hl)) (fun q => (k2 (by rw [if_neg q] at hf; exact hf) p e s m below meth c s₁ B hml ho hK hN H locs ls hP hD hS hl))
theorem V.if_lt {O : Type} {out : O} {A1 A2 : Option O} {x : Int32} {off : Int} {tgt : Nat} (hd : decode cc pc = .ok (.ifCond .lt off, 3)) (ht : (pc : Int) + off = (tgt : Int)) (hf : (if x < 0 then A1 else A2) = some out) (k1 : A1 = some out → V X cc own ce sl wd lv tgt st) (k2 : A2 = some out → V X cc own ce sl wd lv (pc + 3) st) : V X cc own ce sl wd lv pc (.int x :: st) :=
  fun p e s m below meth c s₁ B hml ho hK hN H locs ls hP hD hS hl => lv_if_lt B.exec B.bytes hd ht (fun q => (k1 (by rw [if_pos q] at hf; exact hf) p e s m below meth c s₁ B hml ho hK hN H locs ls hP hD hS hl)) (fun q => (k2 (by rw [if_neg q] at hf; exact hf) p e s m below meth c s₁ B hml ho hK hN H locs ls hP hD hS hl))
theorem V.icmp_ge {O : Type} {out : O} {A1 A2 : Option O} {x y : Int32} {off : Int} {tgt : Nat} (hd : decode cc pc = .ok (.if_icmp .ge off, 3)) (ht : (pc : Int) + off = (tgt : Int)) (hf : (if y ≤ x then A1 else A2) = some out) (k1 : A1 = some out → V X cc own ce sl wd lv tgt st) (k2 : A2 = some out → V X cc own ce sl wd lv (pc + 3) st) : V X cc own ce sl wd lv pc (.int y :: .int x :: st) :=
  fun p e s m below meth c s₁ B hml ho hK hN H locs ls hP hD hS hl => lv_icmp_ge B.exec B.bytes hd ht (fun q => (k1 (by rw [if_pos q] at hf; exact hf) p e s m below meth c s₁ B hml ho hK hN H locs ls hP hD hS hl)) (fun q => (k2 (by rw [if_neg q] at hf; exact hf) p e s m below meth c s₁ B hml ho hK hN H locs ls hP hD hS hl))
theorem V.if_ge {O : Type} {out : O} {A1 A2 : Option O} {x : Int32} {off : Int} {tgt : Nat} (hd : decode cc pc = .ok (.ifCond .ge off, 3)) (ht : (pc : Int) + off = (tgt : Int)) (hf : (if 0 ≤ x then A1 else A2) = some out) (k1 : A1 = some out → V X cc own ce sl wd lv tgt st) (k2 : A2 = some out → V X cc own ce sl wd lv (pc + 3) st) : V X cc own ce sl wd lv pc (.int x :: st) :=
  fun p e s m below meth c s₁ B hml ho hK hN H locs ls hP hD hS hl => lv_if_ge B.exec B.bytes hd ht (fun q => (k1 (by rw [if_pos q] at hf; exact hf) p e s m below meth c s₁ B hml ho hK hN H locs ls hP hD hS hl)) (fun q => (k2 (by rw [if_neg q] at hf; exact hf) p e s m below meth c s₁ B hml ho hK hN H locs ls hP hD hS hl))
theorem V.icmp_gt {O : Type} {out : O} {A1 A2 : Option O} {x y : Int32} {off : Int} {tgt : Nat} (hd : decode cc pc = .ok (.if_icmp .gt off, 3)) (ht : (pc : Int) + off = (tgt : Int)) (hf : (if y < x then A1 else A2) = some out) (k1 : A1 = some out → V X cc own ce sl wd lv tgt st) (k2 : A2 = some out → V X cc own ce sl wd lv (pc + 3) st) : V X cc own ce sl wd lv pc (.int y :: .int x :: st) :=
  fun p e s m below meth c s₁ B hml ho hK hN H locs ls hP hD hS hl => lv_icmp_gt B.exec B.bytes hd ht (fun q => (k1 (by rw [if_pos q] at hf; exact hf) p e s m below meth c s₁ B hml ho hK hN H locs ls hP hD hS hl)) (fun q => (k2 (by rw [if_neg q] at hf; exact hf) p e s m below meth c s₁ B hml ho hK hN H locs ls hP hD hS hl))
theorem V.if_gt {O : Type} {out : O} {A1 A2 : Option O} {x : Int32} {off : Int} {tgt : Nat} (hd : decode cc pc = .ok (.ifCond .gt off, 3)) (ht : (pc : Int) + off = (tgt : Int)) (hf : (if 0 < x then A1 else A2) = some out) (k1 : A1 = some out → V X cc own ce sl wd lv tgt st) (k2 : A2 = some out → V X cc own ce sl wd lv (pc + 3) st) : V X cc own ce sl wd lv pc (.int x :: st) :=
  fun p e s m below meth c s₁ B hml ho hK hN H locs ls hP hD hS hl => lv_if_gt B.exec B.bytes hd ht (fun q => (k1 (by rw [if_pos q] at hf; exact hf) p e s m below meth c s₁ B hml ho hK hN H locs ls hP hD hS hl)) (fun q => (k2 (by rw [if_neg q] at hf; exact hf) p e s m below meth c s₁ B hml ho hK hN H locs ls hP hD hS hl))
theorem V.icmp_le {O : Type} {out : O} {A1 A2 : Option O} {x y : Int32} {off : Int} {tgt : Nat} (hd : decode cc pc = .ok (.if_icmp .le off, 3)) (ht : (pc : Int) + off = (tgt : Int)) (hf : (if x ≤ y then A1 else A2) = some out) (k1 : A1 = some out → V X cc own ce sl wd lv tgt st) (k2 : A2 = some out → V X cc own ce sl wd lv (pc + 3) st) : V X cc own ce sl wd lv pc (.int y :: .int x :: st) :=
  fun p e s m below meth c s₁ B hml ho hK hN H locs ls hP hD hS hl => lv_icmp_le B.exec B.bytes hd ht (fun q => (k1 (by rw [if_pos q] at hf; exact hf) p e s m below meth c s₁ B hml ho hK hN H locs ls hP hD hS hl)) (fun q => (k2 (by rw [if_neg q] at hf; exact hf) p e s m below meth c s₁ B hml ho hK hN H locs ls hP hD hS hl))
theorem V.if_le {O : Type} {out : O} {A1 A2 : Option O} {x : Int32} {off : Int} {tgt : Nat} (hd : decode cc pc = .ok (.ifCond .le off, 3)) (ht : (pc : Int) + off = (tgt : Int)) (hf : (if x ≤ 0 then A1 else A2) = some out) (k1 : A1 = some out → V X cc own ce sl wd lv tgt st) (k2 : A2 = some out → V X cc own ce sl wd lv (pc + 3) st) : V X cc own ce sl wd lv pc (.int x :: st) :=
  fun p e s m below meth c s₁ B hml ho hK hN H locs ls hP hD hS hl => lv_if_le B.exec B.bytes hd ht (fun q => (k1 (by rw [if_pos q] at hf; exact hf) p e s m below meth c s₁ B hml ho hK hN H locs ls hP hD hS hl)) (fun q => (k2 (by rw [if_neg q] at hf; exact hf) p e s m below meth c s₁ B hml ho hK hN H locs ls hP hD hS hl))
theorem V.idiv {O : Type} {out : O} {A1 : Option O} {x y : Int32} (hd : decode cc pc = .ok (.idiv, 1)) (hf : dvi y A1 = some out) (k : A1 = some out → V X cc own ce sl wd lv (pc + 1) (.int (x / y) :: st)) : V X cc own ce sl wd lv pc (.int y :: .int x :: st) :=
  fun p e s m below meth c s₁ B hml ho hK hN H locs ls hP hD hS hl => lv_idiv B.exec B.bytes hd (dvi_ok hf).1 (k (dvi_ok hf).2 p e s m below meth c s₁ B hml ho hK hN H locs ls hP hD hS hl)
theorem V.irem {O : Type} {out : O} {A1 : Option O} {x y : Int32} (hd : decode cc pc = .ok (.irem, 1)) (hf : dvi y A1 = some out) (k : A1 = some out → V X cc own ce sl wd lv (pc + 1) (.int (x - x / y * y) :: st)) : V X cc own ce sl wd lv pc (.int y :: .int x :: st) :=
  fun p e s m below meth c s₁ B hml ho hK hN H locs ls hP hD hS hl => lv_irem B.exec B.bytes hd (dvi_ok hf).1 (k (dvi_ok hf).2 p e s m below meth c s₁ B hml ho hK hN H locs ls hP hD hS hl)
theorem V.idivC {x y : Int32} (hd : decode cc pc = .ok (.idiv, 1)) (hv : ¬ y = 0) (k : V X cc own ce sl wd lv (pc + 1) (.int (x / y) :: st)) : V X cc own ce sl wd lv pc (.int y :: .int x :: st) :=
  fun p e s m below meth c s₁ B hml ho hK hN H locs ls hP hD hS hl => lv_idiv B.exec B.bytes hd hv (k p e s m below meth c s₁ B hml ho hK hN H locs ls hP hD hS hl)
theorem V.iremC {x y : Int32} (hd : decode cc pc = .ok (.irem, 1)) (hv : ¬ y = 0) (k : V X cc own ce sl wd lv (pc + 1) (.int (x - x / y * y) :: st)) : V X cc own ce sl wd lv pc (.int y :: .int x :: st) :=
  fun p e s m below meth c s₁ B hml ho hK hN H locs ls hP hD hS hl => lv_irem B.exec B.bytes hd hv (k p e s m below meth c s₁ B hml ho hK hN H locs ls hP hD hS hl)
/-- a field of a class by its link -/
def Fk (own : String) (idx ci k : Nat) : Prop := ∃ (C : String) (T : u_T) (N : Nat) (ref : String), vwCl[ci]? = some (C, T, N) ∧ (∀ w ∈ u_ws C T N, w ∈ gt) ∧ k < N ∧ Cond.fieldLink own idx ref (T k).2.1 (T k).2.2.1 ∈ gt ∧ (ref = (T k).1 ∨ Cond.sameField ref (T k).1 (T k).2.1 (T k).2.2.1 ∈ gt)
def Pk (own : String) (idx ci k : Nat) (ty : FieldType) (fin : Bool) : Prop := ∃ (C : String) (T : u_T) (N : Nat) (ref : String) (ty0 : Nat → FieldType), vwCl[ci]? = some (C, T, N) ∧ (∀ w ∈ u_ws C T N, w ∈ gt) ∧ k < N ∧ Cond.fieldLink own idx ref (T k).2.1 (T k).2.2.1 ∈ gt ∧ (ref = (T k).1 ∨ Cond.sameField ref (T k).1 (T k).2.1 (T k).2.2.1 ∈ gt) ∧ (∀ k, k < N → parseFieldDescriptor (T k).2.2.1 = some (ty0 k)) ∧ (∀ a, a < N → ∀ b, b < N → a ≠ b → (T a).2.1 ≠ (T b).2.1) ∧ (T k).2.2.2 = fin ∧ parseFieldDescriptor (T k).2.2.1 = some ty ∧ (fin = true → (T k).1 = own)
theorem fk_same {s : State} {args : Array Value} {ref o n d : String} (hts : ∀ w ∈ gt, w.before args s = true) (h : ref = o ∨ Cond.sameField ref o n d ∈ gt) : ∀ x, s.fieldFound? o n d = some x → s.fieldFound? ref n d = some x := by
  rcases h with rfl | h
  · exact fun _ h => h
  · exact fun x hx => u_same (hts _ h) x hx
theorem V.getf {idx ci k q a : Nat} {fs : List Value} {v : Value} (hd : decode cc pc = .ok (.getfield idx, 3)) (hF : Fk own idx ci k) (hq : wd[q]? = some (a, .inr (ci, fs))) (hv : fs[k]? = some v) (kk : V X cc own ce sl wd lv (pc + 3) (v :: st)) : V X cc own ce sl wd lv pc (.ref a :: st) := by
  intro p e s m below meth c s₁ B hml ho hK hN H locs ls hP hD hS hl
  obtain ⟨C, T, N, ref, h1, h2, h3, h4, h5⟩ := hF
  have hts := kws_ts B.pre
  exact va_get B.exec B.bytes hts h2 (ho ▸ findClass_of_methodNamed B.named) hK hP q hq h1 k h3 (hts _ h4) (fk_same hts h5) hv hd (kk p e s m below meth c s₁ B hml ho hK hN H locs ls hP hD hS hl)
theorem V.putf {wd' : va_W} {idx ci k q a : Nat} {fs : List Value} {ty : FieldType} {v : Value} (hd : decode cc pc = .ok (.putfield idx, 3)) (hF : Pk own idx ci k ty false) (hq : wd[q]? = some (a, .inr (ci, fs))) (hn : narrow ty v = v) (hfit : fits ty v = true) (hl0 : Nat.blt k fs.length = true) (hw : wd.set q (a, .inr (ci, fs.set k v)) = wd') (kk : V X cc own ce sl wd' lv (pc + 3) st) : V X cc own ce sl wd lv pc (v :: .ref a :: st) := by
  intro p e s m below meth c s₁ B hml ho hK hN H locs ls hP hD hS hl
  obtain ⟨C, T, N, ref, ty0, h1, h2, h3, h4, h5, h6, h7, h8, h9, -⟩ := hF
  have hts := kws_ts B.pre
  subst hw
  exact va_put B.exec B.bytes hts h2 ty0 h6 h7 (ho ▸ findClass_of_methodNamed B.named) hK hP hD hS q hq h1 k h3 (hts _ h4) (fk_same hts h5) h8 h9 hn hfit (Nat.le_of_ble_eq_true hl0) hd (fun H1 locs1 hP hD hS => kk p e s m below meth c s₁ B hml ho hK hN H1 locs1 ls hP hD hS hl)
theorem V.putfF {wd' : va_W} {idx ci k q a : Nat} {fs : List Value} {ty : FieldType} {v : Value} (hi : (ky (xk X)).name = "<init>") (hd : decode cc pc = .ok (.putfield idx, 3)) (hF : Pk own idx ci k ty true) (hq : wd[q]? = some (a, .inr (ci, fs))) (hn : narrow ty v = v) (hfit : fits ty v = true) (hl0 : Nat.blt k fs.length = true) (hw : wd.set q (a, .inr (ci, fs.set k v)) = wd') (kk : V X cc own ce sl wd' lv (pc + 3) st) : V X cc own ce sl wd lv pc (v :: .ref a :: st) := by
  intro p e s m below meth c s₁ B hml ho hK hN H locs ls hP hD hS hl
  obtain ⟨C, T, N, ref, ty0, h1, h2, h3, h4, h5, h6, h7, h8, h9, h10⟩ := hF
  have hts := kws_ts B.pre
  have hin : meth.name = "<init>" := (name_of_methodNamed B.named B.method).1.trans hi
  subst hw
  exact va_putF B.exec B.bytes hts h2 ty0 h6 h7 (ho ▸ findClass_of_methodNamed B.named) hK hP hD hS q hq h1 k h3 (hts _ h4) (fk_same hts h5) h8 hin (h10 rfl) h9 hn hfit (Nat.le_of_ble_eq_true hl0) hd (fun H1 locs1 hP hD hS => kk p e s m below meth c s₁ B hml ho hK hN H1 locs1 ls hP hD hS hl)
theorem V.iald {O : Type} {out : O} {q a n : Nat} {f : Nat → Int32} {i : Int32} {kf : Int32 → Option O} (hd : decode cc pc = .ok (.iaload, 1)) (hq : wd[q]? = some (a, .inl ((xG X).2 0, n, .inl f))) (hf : rdi n f i kf = some out) (k : ∀ x : Int32, kf x = some out → V X cc own ce sl wd lv (pc + 1) (.int x :: st)) : V X cc own ce sl wd lv pc (.int i :: .ref a :: st) :=
  fun p e s m below meth c s₁ B hml ho hK hN H locs ls hP hD hS hl => va_iald B.exec B.bytes hK hP q 0 hq rfl (rdi_ok hf).1 hd (k _ (rdi_ok hf).2 p e s m below meth c s₁ B hml ho hK hN H locs ls hP hD hS hl)
theorem V.ialdC {q a n : Nat} {f : Nat → Int32} {i : Int32} (j : Nat) (hd : decode cc pc = .ok (.iaload, 1)) (hq : wd[q]? = some (a, .inl ((xG X).2 0, n, .inl f))) (hi : vp_in i n ∧ i.toNatClampNeg = j) (k : V X cc own ce sl wd lv (pc + 1) (.int (f j) :: st)) : V X cc own ce sl wd lv pc (.int i :: .ref a :: st) :=
  fun p e s m below meth c s₁ B hml ho hK hN H locs ls hP hD hS hl => va_iald B.exec B.bytes hK hP q 0 hq rfl hi.1 hd (by rw [hi.2]; exact (k p e s m below meth c s₁ B hml ho hK hN H locs ls hP hD hS hl))
theorem V.cald {O : Type} {out : O} {q a n : Nat} {f : Nat → Int32} {i : Int32} {kf : Int32 → Option O} (hd : decode cc pc = .ok (.caload, 1)) (hq : wd[q]? = some (a, .inl ((xG X).2 1, n, .inl f))) (hf : rdi n f i kf = some out) (k : ∀ x : Int32, kf x = some out → V X cc own ce sl wd lv (pc + 1) (.int x :: st)) : V X cc own ce sl wd lv pc (.int i :: .ref a :: st) :=
  fun p e s m below meth c s₁ B hml ho hK hN H locs ls hP hD hS hl => va_cald B.exec B.bytes hK hP q 1 hq rfl (rdi_ok hf).1 hd (k _ (rdi_ok hf).2 p e s m below meth c s₁ B hml ho hK hN H locs ls hP hD hS hl)
theorem V.caldC {q a n : Nat} {f : Nat → Int32} {i : Int32} (j : Nat) (hd : decode cc pc = .ok (.caload, 1)) (hq : wd[q]? = some (a, .inl ((xG X).2 1, n, .inl f))) (hi : vp_in i n ∧ i.toNatClampNeg = j) (k : V X cc own ce sl wd lv (pc + 1) (.int (f j) :: st)) : V X cc own ce sl wd lv pc (.int i :: .ref a :: st) :=
  fun p e s m below meth c s₁ B hml ho hK hN H locs ls hP hD hS hl => va_cald B.exec B.bytes hK hP q 1 hq rfl hi.1 hd (by rw [hi.2]; exact (k p e s m below meth c s₁ B hml ho hK hN H locs ls hP hD hS hl))
theorem V.zald {O : Type} {out : O} {q a n : Nat} {f : Nat → Int32} {i : Int32} {kf : Int32 → Option O} (hd : decode cc pc = .ok (.baload, 1)) (hq : wd[q]? = some (a, .inl ((xG X).2 2, n, .inl f))) (hf : rdi n f i kf = some out) (k : ∀ x : Int32, kf x = some out → V X cc own ce sl wd lv (pc + 1) (.int x :: st)) : V X cc own ce sl wd lv pc (.int i :: .ref a :: st) :=
  fun p e s m below meth c s₁ B hml ho hK hN H locs ls hP hD hS hl => va_zald B.exec B.bytes hK hP q 2 hq rfl (rdi_ok hf).1 hd (k _ (rdi_ok hf).2 p e s m below meth c s₁ B hml ho hK hN H locs ls hP hD hS hl)
theorem V.zaldC {q a n : Nat} {f : Nat → Int32} {i : Int32} (j : Nat) (hd : decode cc pc = .ok (.baload, 1)) (hq : wd[q]? = some (a, .inl ((xG X).2 2, n, .inl f))) (hi : vp_in i n ∧ i.toNatClampNeg = j) (k : V X cc own ce sl wd lv (pc + 1) (.int (f j) :: st)) : V X cc own ce sl wd lv pc (.int i :: .ref a :: st) :=
  fun p e s m below meth c s₁ B hml ho hK hN H locs ls hP hD hS hl => va_zald B.exec B.bytes hK hP q 2 hq rfl hi.1 hd (by rw [hi.2]; exact (k p e s m below meth c s₁ B hml ho hK hN H locs ls hP hD hS hl))
theorem V.iast {O : Type} {out : O} {wd' : (Nat → Int32) → va_W} {q a n : Nat} {f : Nat → Int32} {i x : Int32} {kf : (Nat → Int32) → Option O} (hd : decode cc pc = .ok (.iastore, 1)) (hq : wd[q]? = some (a, .inl ((xG X).2 0, n, .inl f))) (hf : wri n f i x kf = some out) (hw : ∀ g : Nat → Int32, wd.set q (a, .inl ((xG X).2 0, n, .inl g)) = wd' g) (k : ∀ g : Nat → Int32, kf g = some out → V X cc own ce sl (wd' g) lv (pc + 1) st) : V X cc own ce sl wd lv pc (.int x :: .int i :: .ref a :: st) := by
  exact fun p e s m below meth c s₁ B hml ho hK hN H locs ls hP hD hS hl => va_iast B.exec B.bytes hK hP hD hS q 0 hq rfl (wri_ok hf).1 hd (fun H1 locs1 hP hD hS => k _ (wri_ok hf).2 p e s m below meth c s₁ B hml ho hK hN H1 locs1 ls (by rw [← hw]; exact hP) (by rw [← hw]; exact hD) hS hl)
theorem V.iastC {O : Type} {out : O} {wd' : (Nat → Int32) → va_W} {q a n : Nat} {f : Nat → Int32} {i x : Int32} {kf : (Nat → Int32) → Option O} (j : Nat) (hd : decode cc pc = .ok (.iastore, 1)) (hq : wd[q]? = some (a, .inl ((xG X).2 0, n, .inl f))) (hi : vp_in i n ∧ i.toNatClampNeg = j) (hf : lti (upd f j x) kf = some out) (hw : ∀ g : Nat → Int32, wd.set q (a, .inl ((xG X).2 0, n, .inl g)) = wd' g) (k : ∀ g : Nat → Int32, kf g = some out → V X cc own ce sl (wd' g) lv (pc + 1) st) : V X cc own ce sl wd lv pc (.int x :: .int i :: .ref a :: st) := by
  obtain ⟨hi1, rfl⟩ := hi
  exact fun p e s m below meth c s₁ B hml ho hK hN H locs ls hP hD hS hl => va_iast B.exec B.bytes hK hP hD hS q 0 hq rfl hi1 hd (fun H1 locs1 hP hD hS => k _ hf p e s m below meth c s₁ B hml ho hK hN H1 locs1 ls (by rw [← hw]; exact hP) (by rw [← hw]; exact hD) hS hl)
theorem V.cast {O : Type} {out : O} {wd' : (Nat → Int32) → va_W} {q a n : Nat} {f : Nat → Int32} {i x : Int32} {kf : (Nat → Int32) → Option O} (hd : decode cc pc = .ok (.castore, 1)) (hq : wd[q]? = some (a, .inl ((xG X).2 1, n, .inl f))) (hf : wri n f i (vp_nar .char x) kf = some out) (hw : ∀ g : Nat → Int32, wd.set q (a, .inl ((xG X).2 1, n, .inl g)) = wd' g) (k : ∀ g : Nat → Int32, kf g = some out → V X cc own ce sl (wd' g) lv (pc + 1) st) : V X cc own ce sl wd lv pc (.int x :: .int i :: .ref a :: st) := by
  exact fun p e s m below meth c s₁ B hml ho hK hN H locs ls hP hD hS hl => va_cast B.exec B.bytes hK hP hD hS q 1 hq rfl (wri_ok hf).1 hd (fun H1 locs1 hP hD hS => k _ (wri_ok hf).2 p e s m below meth c s₁ B hml ho hK hN H1 locs1 ls (by rw [← hw]; exact hP) (by rw [← hw]; exact hD) hS hl)
theorem V.castC {O : Type} {out : O} {wd' : (Nat → Int32) → va_W} {q a n : Nat} {f : Nat → Int32} {i x : Int32} {kf : (Nat → Int32) → Option O} (j : Nat) (hd : decode cc pc = .ok (.castore, 1)) (hq : wd[q]? = some (a, .inl ((xG X).2 1, n, .inl f))) (hi : vp_in i n ∧ i.toNatClampNeg = j) (hf : lti (upd f j (vp_nar .char x)) kf = some out) (hw : ∀ g : Nat → Int32, wd.set q (a, .inl ((xG X).2 1, n, .inl g)) = wd' g) (k : ∀ g : Nat → Int32, kf g = some out → V X cc own ce sl (wd' g) lv (pc + 1) st) : V X cc own ce sl wd lv pc (.int x :: .int i :: .ref a :: st) := by
  obtain ⟨hi1, rfl⟩ := hi
  exact fun p e s m below meth c s₁ B hml ho hK hN H locs ls hP hD hS hl => va_cast B.exec B.bytes hK hP hD hS q 1 hq rfl hi1 hd (fun H1 locs1 hP hD hS => k _ hf p e s m below meth c s₁ B hml ho hK hN H1 locs1 ls (by rw [← hw]; exact hP) (by rw [← hw]; exact hD) hS hl)
theorem V.zast {O : Type} {out : O} {wd' : (Nat → Int32) → va_W} {q a n : Nat} {f : Nat → Int32} {i x : Int32} {kf : (Nat → Int32) → Option O} (hd : decode cc pc = .ok (.bastore, 1)) (hq : wd[q]? = some (a, .inl ((xG X).2 2, n, .inl f))) (hf : wri n f i (vp_nar .boolean x) kf = some out) (hw : ∀ g : Nat → Int32, wd.set q (a, .inl ((xG X).2 2, n, .inl g)) = wd' g) (k : ∀ g : Nat → Int32, kf g = some out → V X cc own ce sl (wd' g) lv (pc + 1) st) : V X cc own ce sl wd lv pc (.int x :: .int i :: .ref a :: st) := by
  exact fun p e s m below meth c s₁ B hml ho hK hN H locs ls hP hD hS hl => va_zast B.exec B.bytes hK hP hD hS q 2 hq rfl (wri_ok hf).1 hd (fun H1 locs1 hP hD hS => k _ (wri_ok hf).2 p e s m below meth c s₁ B hml ho hK hN H1 locs1 ls (by rw [← hw]; exact hP) (by rw [← hw]; exact hD) hS hl)
theorem V.zastC {O : Type} {out : O} {wd' : (Nat → Int32) → va_W} {q a n : Nat} {f : Nat → Int32} {i x : Int32} {kf : (Nat → Int32) → Option O} (j : Nat) (hd : decode cc pc = .ok (.bastore, 1)) (hq : wd[q]? = some (a, .inl ((xG X).2 2, n, .inl f))) (hi : vp_in i n ∧ i.toNatClampNeg = j) (hf : lti (upd f j (vp_nar .boolean x)) kf = some out) (hw : ∀ g : Nat → Int32, wd.set q (a, .inl ((xG X).2 2, n, .inl g)) = wd' g) (k : ∀ g : Nat → Int32, kf g = some out → V X cc own ce sl (wd' g) lv (pc + 1) st) : V X cc own ce sl wd lv pc (.int x :: .int i :: .ref a :: st) := by
  obtain ⟨hi1, rfl⟩ := hi
  exact fun p e s m below meth c s₁ B hml ho hK hN H locs ls hP hD hS hl => va_zast B.exec B.bytes hK hP hD hS q 2 hq rfl hi1 hd (fun H1 locs1 hP hD hS => k _ hf p e s m below meth c s₁ B hml ho hK hN H1 locs1 ls (by rw [← hw]; exact hP) (by rw [← hw]; exact hD) hS hl)
theorem V.alen {q a t0 : Nat} {x : vp_A} {v : Int32} {cA : ClassId} {ty : FieldType} (hd : decode cc pc = .ok (.arraylength, 1)) (hq : wd[q]? = some (a, .inl (cA, x))) (ht : (tyz (xG X))[t0]? = some (cA, ty)) (hv : Int32.ofNat x.1 = v) (k : V X cc own ce sl wd lv (pc + 1) (.int v :: st)) : V X cc own ce sl wd lv pc (.ref a :: st) :=
  fun p e s m below meth c s₁ B hml ho hK hN H locs ls hP hD hS hl => va_alen B.exec B.bytes hK hP q t0 hq ht hv hd (k p e s m below meth c s₁ B hml ho hK hN H locs ls hP hD hS hl)
theorem V.aald {q a n j t0 : Nat} {C : String} {f : Nat → Option Nat} {i : Int32} {v : Value} {cA : ClassId} (hd : decode cc pc = .ok (.aaload, 1)) (hq : wd[q]? = some (a, .inl (cA, n, .inr (.inr (.inr (.inr f)))))) (ht : (tyz (xG X))[t0]? = some (cA, .object C)) (hin : vp_in i n) (hj : i.toNatClampNeg = j) (hv : va_rf (f j) = v) (k : V X cc own ce sl wd lv (pc + 1) (v :: st)) : V X cc own ce sl wd lv pc (.int i :: .ref a :: st) :=
  fun p e s m below meth c s₁ B hml ho hK hN H locs ls hP hD hS hl => va_aldq B.exec B.bytes hK hP q t0 hq ht hin hd (by rw [hj, hv]; exact (k p e s m below meth c s₁ B hml ho hK hN H locs ls hP hD hS hl))
theorem V.vret (hr : kr (xk X) = none) (hc : ce = kmc (xk X) ∧ sl = kms (xk X)) (hd : decode cc pc = .ok (.return_, 1)) (hQ : xQ X none wd) : V X cc own ce sl wd lv pc [] := by
  intro p e s m below meth c s₁ B hml ho hK hN H locs ls hP hD hS hl
  obtain ⟨rfl, rfl⟩ := hc
  exact W.vret B.exec B.bytes (B.returns.trans hr) (fun t ht hW => ⟨⟨none, wd, rfl, hQ, by rw [ht]; exact hP, hD⟩, hS.F ht⟩) hS.2.2 hd B.notSynchronized
theorem V.iret {x : Int32} (hr : kr (xk X) = some .int) (hc : ce = kmc (xk X) ∧ sl = kms (xk X)) (hd : decode cc pc = .ok (.ireturn, 1)) (hQ : xQ X (some (.int x)) wd) : V X cc own ce sl wd lv pc [.int x] := by
  intro p e s m below meth c s₁ B hml ho hK hN H locs ls hP hD hS hl
  obtain ⟨rfl, rfl⟩ := hc
  exact W.iret B.exec B.bytes (B.returns.trans hr) (fun t ht hW => ⟨⟨_, wd, rfl, hQ, by rw [ht]; exact hP, hD⟩, hS.F ht⟩) hS.2.2 hd B.notSynchronized
theorem V.zret {x : Int32} (hr : kr (xk X) = some .boolean) (hx : narrow .boolean (.int x) = .int x) (hc : ce = kmc (xk X) ∧ sl = kms (xk X)) (hd : decode cc pc = .ok (.ireturn, 1)) (hQ : xQ X (some (.int x)) wd) : V X cc own ce sl wd lv pc [.int x] := by
  intro p e s m below meth c s₁ B hml ho hK hN H locs ls hP hD hS hl
  obtain ⟨rfl, rfl⟩ := hc
  exact W.zret B.exec B.bytes (B.returns.trans hr) hx (fun t ht hW => ⟨⟨_, wd, rfl, hQ, by rw [ht]; exact hP, hD⟩, hS.F ht⟩) hS.2.2 hd B.notSynchronized
theorem V.lret {x : Int64} (hr : kr (xk X) = some .long) (hc : ce = kmc (xk X) ∧ sl = kms (xk X)) (hd : decode cc pc = .ok (.lreturn, 1)) (hQ : xQ X (some (.long x)) wd) : V X cc own ce sl wd lv pc [.long x] := by
  intro p e s m below meth c s₁ B hml ho hK hN H locs ls hP hD hS hl
  obtain ⟨rfl, rfl⟩ := hc
  exact W.lret B.exec B.bytes (B.returns.trans hr) (fun t ht hW => ⟨⟨_, wd, rfl, hQ, by rw [ht]; exact hP, hD⟩, hS.F ht⟩) hS.2.2 hd B.notSynchronized
theorem V.ldc2 {idx : Nat} {v : Int64} (hd : decode cc pc = .ok (.ldc2_w idx, 3)) (hw : Cond.constantLong own idx v ∈ gt) (k : V X cc own ce sl wd lv (pc + 3) (.long v :: st)) : V X cc own ce sl wd lv pc st :=
  fun p e s m below meth c s₁ B hml ho hK hN H locs ls hP hD hS hl => lv_ldc2 B.exec B.bytes (ho ▸ findClass_of_methodNamed B.named) (kws_ts B.pre _ hw) hd (k p e s m below meth c s₁ B hml ho hK hN H locs ls hP hD hS hl)
theorem V.ldcw {idx : Nat} {v : Int32} (hd : decode cc pc = .ok (.ldc_w idx, 3)) (hw : Cond.constant own idx v ∈ gt) (k : V X cc own ce sl wd lv (pc + 3) (.int v :: st)) : V X cc own ce sl wd lv pc st :=
  fun p e s m below meth c s₁ B hml ho hK hN H locs ls hP hD hS hl => lv_ldcw B.exec B.bytes (ho ▸ findClass_of_methodNamed B.named) (kws_ts B.pre _ hw) hd (k p e s m below meth c s₁ B hml ho hK hN H locs ls hP hD hS hl)
theorem V.ldc {idx : Nat} {v : Int32} (hd : decode cc pc = .ok (.ldc idx, 2)) (hw : Cond.constant own idx v ∈ gt) (k : V X cc own ce sl wd lv (pc + 2) (.int v :: st)) : V X cc own ce sl wd lv pc st :=
  fun p e s m below meth c s₁ B hml ho hK hN H locs ls hP hD hS hl => lv_ldc B.exec B.bytes (ho ▸ findClass_of_methodNamed B.named) (kws_ts B.pre _ hw) hd (k p e s m below meth c s₁ B hml ho hK hN H locs ls hP hD hS hl)
theorem V.topi {O : Type} {out : O} {x : Int32} {kf : Int32 → Option O} (hf : lti x kf = some out) (k : ∀ y : Int32, kf y = some out → V X cc own ce sl wd lv pc (.int y :: st)) : V X cc own ce sl wd lv pc (.int x :: st) := k x hf
theorem V.topl {O : Type} {out : O} {x : Int64} {kf : Int64 → Option O} (hf : lti x kf = some out) (k : ∀ y : Int64, kf y = some out → V X cc own ce sl wd lv pc (.long y :: st)) : V X cc own ce sl wd lv pc (.long x :: st) := k x hf
theorem V.sw {O : Type} {out : O} {A1 A2 : Option O} {x v : Int32} (hf : (if x = v then A1 else A2) = some out) (k1 : x = v → A1 = some out → V X cc own ce sl wd lv pc (.int x :: st)) (k2 : ¬ x = v → A2 = some out → V X cc own ce sl wd lv pc (.int x :: st)) : V X cc own ce sl wd lv pc (.int x :: st) := by
  by_cases h : x = v
  · rw [if_pos h] at hf
    exact k1 h hf
  · rw [if_neg h] at hf
    exact k2 h hf
theorem V.tableIn {dflt lo hi : Int} {offs : Array Int} {len : Nat} {x v : Int32} {off : Int} {tgt : Nat} (he : x = v) (hd : decode cc pc = .ok (.tableswitch dflt lo hi offs, len)) (h1 : ¬ v.toInt < lo) (h2 : ¬ hi < v.toInt) (hv : offs[(v.toInt - lo).toNat]? = some off) (ht : (pc : Int) + off = (tgt : Int)) (k : V X cc own ce sl wd lv tgt st) : V X cc own ce sl wd lv pc (.int x :: st) := by
  subst he
  exact fun p e s m below meth c s₁ B hml ho hK hN H locs ls hP hD hS hl => lv_tableIn B.exec B.bytes hd h1 h2 hv ht (k p e s m below meth c s₁ B hml ho hK hN H locs ls hP hD hS hl)
theorem V.tableOut {dflt lo hi : Int} {offs : Array Int} {len : Nat} {x : Int32} {tgt : Nat} (hd : decode cc pc = .ok (.tableswitch dflt lo hi offs, len)) (h : x.toInt < lo ∨ hi < x.toInt) (ht : (pc : Int) + dflt = (tgt : Int)) (k : V X cc own ce sl wd lv tgt st) : V X cc own ce sl wd lv pc (.int x :: st) :=
  fun p e s m below meth c s₁ B hml ho hK hN H locs ls hP hD hS hl => lv_tableOut B.exec B.bytes hd h ht (k p e s m below meth c s₁ B hml ho hK hN H locs ls hP hD hS hl)
theorem V.lookup {dflt : Int} {ps : Array (Int × Int)} {len : Nat} {x : Int32} {off : Int} {tgt : Nat} (hd : decode cc pc = .ok (.lookupswitch dflt ps, len)) (hp : (ps.toList.zip (ps.toList.drop 1)).all (fun (a, next) => a.1 < next.1) = true) (hv : Op.lookupswitch.offset ps.toList dflt x.toInt = off) (ht : (pc : Int) + off = (tgt : Int)) (k : V X cc own ce sl wd lv tgt st) : V X cc own ce sl wd lv pc (.int x :: st) :=
  fun p e s m below meth c s₁ B hml ho hK hN H locs ls hP hD hS hl => lv_lookup B.exec B.bytes hd hp hv ht (k p e s m below meth c s₁ B hml ho hK hN H locs ls hP hD hS hl)
theorem tbl_out {x : Int32} {n : Nat} (hn : n < 1000) (h : ∀ k, k < n → ¬ x = Int32.ofNat k) : x.toInt < 0 ∨ ((n : Int) - 1) < x.toInt := by
  by_cases h0 : x.toInt < 0
  · exact Or.inl h0
  · right
    by_cases h1 : ((n : Int) - 1) < x.toInt
    · exact h1
    · exfalso
      refine h x.toInt.toNat (by omega) ?_
      apply Int32.toInt_inj.mp
      rw [Int32.toInt_ofNat_of_lt (by omega)]
      omega
theorem V.mmax {k0 : KT} {idx : Nat} {x y : Int32} (hX : xk X = k0) (hdp : Nat.ble 1 (kd k0) = true) (hd : decode cc pc = .ok (.invokestatic idx, 3)) (hw : Cond.methodLink own idx Lib.Math.max.name ∈ gt ∧ Cond.static Lib.Math.max.name ∈ gt ∧ Cond.initialized "java/lang/Math" ∈ gt ∧ Cond.code Lib.Math.max.name Lib.Math.max.code 2 (some .int) ∈ gt) (hsum : Nat.ble ((st.map fun v => v.category).sum) 8 = true) (hc : ce = 0 ∧ sl = 0) (k : V X cc own ce sl wd lv (pc + 3) (.int (if x < y then y else x) :: st)) : V X cc own ce sl wd lv pc (.int y :: .int x :: st) := by
  intro p e s m below meth c s₁ B hml ho hK hN H locs ls hP hD hS hl
  have hts := kws_ts B.pre
  have h1 : 1 ≤ kd (xk X) := by rw [hX]; exact Nat.le_of_ble_eq_true hdp
  have h2 := Nat.le_of_ble_eq_true hsum
  exact va_mmax B.exec B.bytes (hml.trans hl.1.symm) (ho ▸ findClass_of_methodNamed B.named) (hts _ hw.1) (hts _ hw.2.1) (hts _ hw.2.2.1) (hts _ hw.2.2.2) h1 (by show _ ≤ 40 * kd (xk X); omega) (hc.1 ▸ Nat.zero_le _) (hc.2 ▸ Nat.zero_le _) hd (k p e s m below meth c s₁ B hml ho hK hN H locs ls hP hD hS hl)
theorem V.mmin {k0 : KT} {idx : Nat} {x y : Int32} (hX : xk X = k0) (hdp : Nat.ble 1 (kd k0) = true) (hd : decode cc pc = .ok (.invokestatic idx, 3)) (hw : Cond.methodLink own idx Lib.Math.min.name ∈ gt ∧ Cond.static Lib.Math.min.name ∈ gt ∧ Cond.initialized "java/lang/Math" ∈ gt ∧ Cond.code Lib.Math.min.name Lib.Math.min.code 2 (some .int) ∈ gt) (hsum : Nat.ble ((st.map fun v => v.category).sum) 8 = true) (hc : ce = 0 ∧ sl = 0) (k : V X cc own ce sl wd lv (pc + 3) (.int (if y < x then y else x) :: st)) : V X cc own ce sl wd lv pc (.int y :: .int x :: st) := by
  intro p e s m below meth c s₁ B hml ho hK hN H locs ls hP hD hS hl
  have hts := kws_ts B.pre
  have h1 : 1 ≤ kd (xk X) := by rw [hX]; exact Nat.le_of_ble_eq_true hdp
  have h2 := Nat.le_of_ble_eq_true hsum
  exact va_mmin B.exec B.bytes (hml.trans hl.1.symm) (ho ▸ findClass_of_methodNamed B.named) (hts _ hw.1) (hts _ hw.2.1) (hts _ hw.2.2.1) (hts _ hw.2.2.2) h1 (by show _ ≤ 40 * kd (xk X); omega) (hc.1 ▸ Nat.zero_le _) (hc.2 ▸ Nat.zero_le _) hd (k p e s m below meth c s₁ B hml ho hK hN H locs ls hP hD hS hl)
/-- arraycopy of a whole stretch from 0 to 0 of two int arrays -/
theorem V.copyi {O : Type} {out : O} {wd' : (Nat → Int32) → va_W} {kf : (Nat → Int32) → Option O} {idx q0 q1 a0 a1 n0 n1 N : Nat} {f g : Nat → Int32} {n : Int32} {k0 : KT} (hX : xk X = k0) (hdp : Nat.ble 1 (kd k0) = true) (hd : decode cc pc = .ok (.invokestatic idx, 3)) (hw : Cond.methodLink own idx arraycopyName ∈ gt ∧ Cond.native arraycopyName ∈ gt ∧ Cond.static arraycopyName ∈ gt ∧ Cond.initialized "java/lang/System" ∈ gt) (hsum : Nat.ble ((st.map fun v => v.category).sum) 8 = true) (ha0 : wd[q0]? = some (a0, .inl ((xG X).2 0, n0, .inl f))) (ha1 : wd[q1]? = some (a1, .inl ((xG X).2 0, n1, .inl g))) (hn : ¬ n < 0 ∧ n.toNatClampNeg = N ∧ N ≤ n0 ∧ N ≤ n1) (hf : lti (va_cpy f g 0 0 N) kf = some out) (hw' : ∀ h : Nat → Int32, wd.set q1 (a1, .inl ((xG X).2 0, n1, .inl h)) = wd' h) (k : ∀ h : Nat → Int32, kf h = some out → V X cc own ce sl (wd' h) lv (pc + 3) st) : V X cc own ce sl wd lv pc (.int n :: .int 0 :: .ref a1 :: .int 0 :: .ref a0 :: st) := by
  intro p e s m below meth c s₁ B hml ho hK hN H locs ls hP hD hS hl
  have hts := kws_ts B.pre
  have h1 : 1 ≤ kd (xk X) := by rw [hX]; exact Nat.le_of_ble_eq_true hdp
  have h2 := Nat.le_of_ble_eq_true hsum
  obtain ⟨n1', n2, n3, n4⟩ := hn
  have h0 : (0 : Int32).toNatClampNeg = 0 := rfl
  refine va_copyi B.exec B.bytes (hml.trans hl.1.symm) (ho ▸ findClass_of_methodNamed B.named) (hts _ hw.1) (hts _ hw.2.1) (hts _ hw.2.2.1) (hts _ hw.2.2.2) hK hP hD hS q0 q1 0 0 ha0 ha1 rfl rfl rfl (by decide) (by decide) n1' (by rw [n2, h0]; omega) (by rw [n2, h0]; omega) (fun i _ => rfl) h1 (by show _ ≤ 40 * kd (xk X); have h9 : nativeFrameWords "java/lang/System" "arraycopy" 5 ≤ 21 := (by decide); omega) hd (fun H1 locs1 hP hD hS => ?_)
  rw [n2, h0, hw'] at hP hD
  exact k _ hf p e s m below meth c s₁ B hml ho hK hN H1 locs1 ls hP hD hS hl
theorem V.vretE {k0 : KT} {r : Option Value} {w : va_W} (hX : xk X = k0) (hk : kr k0 = none ∧ kmc k0 = 0 ∧ kms k0 = 0) (hQ : xQ X = qE r w) (hd : decode cc pc = .ok (.return_, 1)) (h1 : r = none) (h2 : w = wd) : V X cc own 0 0 wd lv pc [] :=
  V.vret (by rw [hX]; exact hk.1) (by rw [hX, hk.2.1, hk.2.2]; exact ⟨rfl, rfl⟩) hd (by rw [hQ]; exact ⟨h1.symm, h2.symm⟩)
theorem V.iretE {k0 : KT} {r : Option Value} {w : va_W} {x : Int32} (hX : xk X = k0) (hk : kr k0 = some .int ∧ kmc k0 = 0 ∧ kms k0 = 0) (hQ : xQ X = qE r w) (hd : decode cc pc = .ok (.ireturn, 1)) (h1 : r = some (.int x)) (h2 : w = wd) : V X cc own 0 0 wd lv pc [.int x] :=
  V.iret (by rw [hX]; exact hk.1) (by rw [hX, hk.2.1, hk.2.2]; exact ⟨rfl, rfl⟩) hd (by rw [hQ]; exact ⟨h1.symm, h2.symm⟩)
theorem V.zretE {k0 : KT} {r : Option Value} {w : va_W} {x : Int32} (hX : xk X = k0) (hk : kr k0 = some .boolean ∧ kmc k0 = 0 ∧ kms k0 = 0) (hQ : xQ X = qE r w) (hz : narrow .boolean (.int x) = .int x) (hd : decode cc pc = .ok (.ireturn, 1)) (h1 : r = some (.int x)) (h2 : w = wd) : V X cc own 0 0 wd lv pc [.int x] :=
  V.zret (by rw [hX]; exact hk.1) hz (by rw [hX, hk.2.1, hk.2.2]; exact ⟨rfl, rfl⟩) hd (by rw [hQ]; exact ⟨h1.symm, h2.symm⟩)
theorem V.lretE {k0 : KT} {r : Option Value} {w : va_W} {x : Int64} (hX : xk X = k0) (hk : kr k0 = some .long ∧ kmc k0 = 0 ∧ kms k0 = 0) (hQ : xQ X = qE r w) (hd : decode cc pc = .ok (.lreturn, 1)) (h1 : r = some (.long x)) (h2 : w = wd) : V X cc own 0 0 wd lv pc [.long x] :=
  V.lret (by rw [hX]; exact hk.1) (by rw [hX, hk.2.1, hk.2.2]; exact ⟨rfl, rfl⟩) hd (by rw [hQ]; exact ⟨h1.symm, h2.symm⟩)
theorem vp_c {i : Int32} {n : Nat} (h : ¬ (i < 0 ∨ n ≤ i.toNatClampNeg)) : vp_in i n := h
theorem lk_ne {x k : Int32} {a : Int} (h : ¬ x = k) (ha : k.toInt = a) : ¬ a = x.toInt := fun e => h (Int32.toInt_inj.mp (by rw [ha, e]))
theorem lk_out4 {x k0 k1 k2 k3 : Int32} {a0 a1 a2 a3 o0 o1 o2 o3 d : Int} (h0 : ¬ x = k0) (h1 : ¬ x = k1) (h2 : ¬ x = k2) (h3 : ¬ x = k3) (ha : k0.toInt = a0 ∧ k1.toInt = a1 ∧ k2.toInt = a2 ∧ k3.toInt = a3) : Op.lookupswitch.offset [(a0, o0), (a1, o1), (a2, o2), (a3, o3)] d x.toInt = d := by
  obtain ⟨b0, b1, b2, b3⟩ := ha
  rw [Op.lookupswitch.offset_cons, if_neg (lk_ne h0 b0), Op.lookupswitch.offset_cons, if_neg (lk_ne h1 b1), Op.lookupswitch.offset_cons, if_neg (lk_ne h2 b2), Op.lookupswitch.offset_cons, if_neg (lk_ne h3 b3), Op.lookupswitch.offset_nil]
theorem lays_in {C : String} {T : u_T} {N : Nat} (h : ∀ k, k < N → u_lay C T k ∈ gt) : ∀ w ∈ u_ws C T N, w ∈ gt := by
  intro w hw
  obtain ⟨k, hk, rfl⟩ := List.mem_map.mp hw
  exact h k (List.mem_range.mp hk)
end VR
