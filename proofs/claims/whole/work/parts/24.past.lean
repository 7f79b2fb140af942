def rf2 (a0 : Nat) (a1 : Nat) : Nat → Option Nat := fun i => match i with | 0 => some a0 | 1 => some a1 | _ => none
def rf6 (a0 : Nat) (a1 : Nat) (a2 : Nat) (a3 : Nat) (a4 : Nat) (a5 : Nat) : Nat → Option Nat := fun i => match i with | 0 => some a0 | 1 => some a1 | 2 => some a2 | 3 => some a3 | 4 => some a4 | 5 => some a5 | _ => none
abbrev SC : Type := Int32 × Int32 × Int32 × Int32 × Int32 × Int32 × (Nat → Int32) × (Nat → Int32) × (Nat → Int32) × (Nat → Int32) × (Nat → Int32)
def stC (G : GT) (pad : Nat → Nat) (c : SC) : va_W := [(pad 0, .inr (7, [.int c.1, .int c.2.1, .int c.2.2.1, .int c.2.2.2.1, .int c.2.2.2.2.1, .int c.2.2.2.2.2.1, .ref (pad 4), .ref (pad 5), .ref (pad 2), .ref (pad 3), .ref (pad 1)])), (pad 1, .inl (G.2 0, 2, .inl c.2.2.2.2.2.2.1)), (pad 2, .inl (G.2 0, 2, .inl c.2.2.2.2.2.2.2.1)), (pad 3, .inl (G.2 0, 2, .inl c.2.2.2.2.2.2.2.2.1)), (pad 4, .inl (G.2 0, 6, .inl c.2.2.2.2.2.2.2.2.2.1)), (pad 5, .inl (G.2 0, 6, .inl c.2.2.2.2.2.2.2.2.2.2))]
def stL (G : GT) (pad : Nat → Nat → Nat) (S : Nat → SC) : va_W := (List.range 10).flatMap (fun i => stC G (pad i) (S i))
def stX (G : GT) (pad : Nat → Nat → Nat) (S : Nat → SC) (j : Nat) : va_W := ((List.range 10).erase j).flatMap (fun i => stC G (pad i) (S i))
def pastWf (G : GT) (qp qa : Nat) (pad : Nat → Nat → Nat) (f : Nat → Option Nat) (size : Int32) (S : Nat → SC) : va_W := [(qp, .inr (6, [.int size, .ref qa])), (qa, .inl (G.2 3, 10, .inr (.inr (.inr (.inr f)))))] ++ stL G pad S
abbrev pastW (G : GT) (qp qa : Nat) (pad : Nat → Nat → Nat) (size : Int32) (S : Nat → SC) : va_W := pastWf G qp qa pad (fun i => some (pad i 0)) size S
theorem stL_focus {G : GT} {pad : Nat → Nat → Nat} {S : Nat → SC} {j : Nat} (hj : j < 10) : (stL G pad S).Perm (stC G (pad j) (S j) ++ stX G pad S j) := (List.perm_cons_erase (List.mem_range.mpr hj)).flatMap_right _
theorem stX_up {G : GT} {pad : Nat → Nat → Nat} {S : Nat → SC} {j : Nat} {c : SC} : stX G pad (va_up S j c) j = stX G pad S j := by
  refine congrArg List.flatten (List.map_congr_left (fun i hi => ?_))
  have hne : i ≠ j := fun e => by
    subst e
    exact (List.nodup_range.not_mem_erase) hi
  have he : va_up S j c i = S i := by unfold va_up; rw [if_neg hne]
  rw [he]
theorem stL_unfocus {G : GT} {pad : Nat → Nat → Nat} {S : Nat → SC} {j : Nat} {c : SC} (hj : j < 10) : (stC G (pad j) c ++ stX G pad S j).Perm (stL G pad (va_up S j c)) := by
  have h := (stL_focus (G := G) (pad := pad) (S := va_up S j c) hj).symm
  have he : va_up S j c j = c := by unfold va_up; rw [if_pos rfl]
  rw [stX_up, he] at h
  exact h
theorem SW.focus2 {a h L c x : va_W} (hL : SW L (c ++ x)) : SW (a ++ (h ++ L)) ((a ++ c) ++ (h ++ x)) := SW.trans (SW.focus hL) (SW.app (SW.comm c a) (SW.refl _))
theorem SW.unfocus2 {a h L c x : va_W} (hL : SW (c ++ x) L) : SW ((a ++ c) ++ (h ++ x)) (a ++ (h ++ L)) := SW.trans (SW.app (SW.comm a c) (SW.refl _)) (SW.unfocus hL)
def rdx {O : Type} (n : Nat) (i : Int32) (k : Nat → Option O) : Option O := if i < 0 ∨ n ≤ i.toNatClampNeg then none else k i.toNatClampNeg
theorem rdx_ok {O : Type} {n : Nat} {i : Int32} {k : Nat → Option O} {out : O} (h : rdx n i k = some out) : vp_in i n ∧ ∃ j, i.toNatClampNeg = j ∧ j < n ∧ k j = some out := by
  unfold rdx at h
  split at h
  · cases h
  · rename_i h1
    exact ⟨h1, _, rfl, Nat.not_le.mp (fun q => h1 (Or.inr q)), h⟩
def rotP {α : Type} (f : Nat → α) : Nat → α := fun i => if i < 9 then f (i + 1) else f 0
theorem stL_rot {G : GT} {pad : Nat → Nat → Nat} {S : Nat → SC} : (stL G pad S).Perm (stL G (rotP pad) (rotP S)) := by
  have e : stL G (rotP pad) (rotP S) = ([1, 2, 3, 4, 5, 6, 7, 8, 9] ++ [0]).flatMap (fun i => stC G (pad i) (S i)) := rfl
  have e2 : stL G pad S = ([0] ++ [1, 2, 3, 4, 5, 6, 7, 8, 9]).flatMap (fun i => stC G (pad i) (S i)) := rfl
  rw [e, e2]
  exact List.perm_append_comm.flatMap_right _
theorem V.refn {X : XT} {cc : ByteArray} {own : String} {ce sl : Nat} {wd wd' : va_W} {lv : List (Option Value)} {pc : Nat} {st : List Value} {q a n : Nat} {cA : ClassId} {f g : Nat → Option Nat} (hq : wd[q]? = some (a, .inl (cA, n, .inr (.inr (.inr (.inr f)))))) (he : ∀ j, j < n → f j = g j) (hw : wd.set q (a, .inl (cA, n, .inr (.inr (.inr (.inr g))))) = wd') (k : V X cc own ce sl wd' lv pc st) : V X cc own ce sl wd lv pc st := by
  intro p e s m below meth c s₁ B hml ho hK hNz H locs ls hP hD hS hl
  subst hw
  have hcell : vp_cell cA (n, .inr (.inr (.inr (.inr f)))) = vp_cell cA (n, .inr (.inr (.inr (.inr g)))) := by
    show arrV cA n (fun j => va_rf (f j)) = arrV cA n (fun j => va_rf (g j))
    unfold arrV
    congr 1
    apply Array.ext
    · simp
    · intro i h1 h2
      simp only [Array.size_ofFn] at h1
      simp only [Array.getElem_ofFn]
      rw [he i h1]
  refine k p e s m below meth c s₁ B hml ho hK hNz H locs ls ?_ (hD.set hq) hS hl
  refine hP.set hD hq ?_ (fun _ _ => rfl)
  have h1 : H[a]? = some (vp_cell cA (n, .inr (.inr (.inr (.inr f))))) := hP q _ hq
  show H[a]? = some (vp_cell cA (n, .inr (.inr (.inr (.inr g)))))
  rw [h1, hcell]
def kX6_dropOldest : KT := (yX6_dropOldest, cX6_dropOldest, 3, none, 0, 0, 0)
def kX6_push : KT := (yX6_push, cX6_push, 2, none, 2, 0, 0)
def kX6_popInto : KT := (yX6_popInto, cX6_popInto, 2, none, 2, 0, 0)
theorem kX6_dropOldest_r : kr kX6_dropOldest = none ∧ kmc kX6_dropOldest = 0 ∧ kms kX6_dropOldest = 0 := ⟨rfl, rfl, rfl⟩
theorem kX6_dropOldest_p : plainName (ky kX6_dropOldest).cls = true := by decide +kernel
theorem kX6_push_r : kr kX6_push = none ∧ kmc kX6_push = 0 ∧ kms kX6_push = 0 := ⟨rfl, rfl, rfl⟩
theorem kX6_push_p : plainName (ky kX6_push).cls = true := by decide +kernel
theorem kX6_popInto_r : kr kX6_popInto = none ∧ kmc kX6_popInto = 0 ∧ kms kX6_popInto = 0 := ⟨rfl, rfl, rfl⟩
theorem kX6_popInto_p : plainName (ky kX6_popInto).cls = true := by decide +kernel
theorem fk_X6_11_6 : Fk "FarDrum$Past" 11 6 1 := ⟨RX6, TX6, 2, "FarDrum$Past", rfl, inX6, by decide, kw_1_166, Or.inl rfl⟩
theorem fk_X6_18_6 : Fk "FarDrum$Past" 18 6 0 := ⟨RX6, TX6, 2, "FarDrum$Past", rfl, inX6, by decide, kw_1_164, Or.inl rfl⟩
theorem pk_X6_18_6 : Pk "FarDrum$Past" 18 6 0 .int false := ⟨RX6, TX6, 2, "FarDrum$Past", tyX6, rfl, inX6, by decide, kw_1_164, Or.inl rfl, tyX6_ok, nmX6, rfl, by decide +kernel, fun h => by cases h⟩
theorem lkb_X6_dropOldest : LkB kX6_dropOldest 0 := ⟨kw_3_36, kw_1_5, ⟨by decide, by decide⟩, by decide +kernel, by decide⟩
theorem lkV_X6_22 : LkV "FarDrum$Past" 22 kX6_dropOldest 0 := ⟨lkb_X6_dropOldest, kw_3_33, kw_3_35, kp_16⟩
theorem lkV_X6_25 : LkV "FarDrum$Past" 25 kX7_copy 1 := ⟨lkb_X7_copy, kw_3_37, kw_2_196, kw_2_197⟩
set_option maxRecDepth 50000 in
theorem tX6_dropOldest {X : XT} {qp qa : Nat} {pad : Nat → Nat → Nat} {size : Int32} {S : Nat → SC} (hX : xk X = kX6_dropOldest) (hQ : xQ X = qE none (pastW (xG X) qp qa (rotP pad) 9 (rotP S))) : V X cX6_dropOldest "FarDrum$Past" 0 0 (pastW (xG X) qp qa pad size S) [some (.ref qp), none, none] 0 [] := by
  refine V.aloadn (pc := 0) dX6_dropOldest_0 rfl ?_
  refine V.getf (q := 0) (pc := 1) dX6_dropOldest_1 fk_X6_11_6 rfl rfl ?_
  refine V.iconst (pc := 4) (v := 0) dX6_dropOldest_4 (by decide) ?_
  refine V.aald (pc := 5) (q := 1) (t0 := 3) (j := 0) (v := .ref (pad 0 0)) dX6_dropOldest_5 rfl rfl (vp_c (by decide)) (by decide) rfl ?_
  refine V.astoren (pc := 6) dX6_dropOldest_6 rfl rfl rfl ?_
  refine V.iconst (pc := 7) (v := 1) dX6_dropOldest_7 (by decide) ?_
  refine V.istoren (pc := 8) dX6_dropOldest_8 rfl rfl rfl ?_
  refine V.iloadn (pc := 9) dX6_dropOldest_9 rfl ?_
  refine V.bipush (pc := 10) (v := 10) dX6_dropOldest_10 (by decide) ?_
  refine V.icmp_geD (pc := 12) (tgt := 35) false dX6_dropOldest_12 (by decide) (by decide) ?_
  refine V.aloadn (pc := 15) dX6_dropOldest_15 rfl ?_
  refine V.getf (q := 0) (pc := 16) dX6_dropOldest_16 fk_X6_11_6 rfl rfl ?_
  refine V.iloadn (pc := 19) dX6_dropOldest_19 rfl ?_
  refine V.iconst (pc := 20) (v := 1) dX6_dropOldest_20 (by decide) ?_
  refine V.isub (pc := 21) dX6_dropOldest_21 ?_
  refine V.aloadn (pc := 22) dX6_dropOldest_22 rfl ?_
  refine V.getf (q := 0) (pc := 23) dX6_dropOldest_23 fk_X6_11_6 rfl rfl ?_
  refine V.iloadn (pc := 26) dX6_dropOldest_26 rfl ?_
  refine V.aald (pc := 27) (q := 1) (t0 := 3) (j := 1) (v := .ref (pad 1 0)) dX6_dropOldest_27 rfl rfl (vp_c (by decide)) (by decide) rfl ?_
  refine V.aast (pc := 28) (q := 1) (qk := 8) (t := 3) (j := 0) (E := "FarDrum$State") (wd' := pastWf (xG X) qp qa pad (va_up (fun i => some (pad i 0)) 0 (some (pad 1 0))) size S) dX6_dropOldest_28 rfl rfl rfl rfl (Or.inl rfl) (vp_c (by decide)) (by decide) rfl ?_
  refine V.iinc (pc := 29) (v := 1) dX6_dropOldest_29 rfl rfl (by decide) rfl ?_
  refine V.goto (pc := 32) (tgt := 9) dX6_dropOldest_32 (by decide) ?_
  refine V.iloadn (pc := 9) dX6_dropOldest_9 rfl ?_
  refine V.bipush (pc := 10) (v := 10) dX6_dropOldest_10 (by decide) ?_
  refine V.icmp_geD (pc := 12) (tgt := 35) false dX6_dropOldest_12 (by decide) (by decide) ?_
  refine V.aloadn (pc := 15) dX6_dropOldest_15 rfl ?_
  refine V.getf (q := 0) (pc := 16) dX6_dropOldest_16 fk_X6_11_6 rfl rfl ?_
  refine V.iloadn (pc := 19) dX6_dropOldest_19 rfl ?_
  refine V.iconst (pc := 20) (v := 1) dX6_dropOldest_20 (by decide) ?_
  refine V.isub (pc := 21) dX6_dropOldest_21 ?_
  refine V.aloadn (pc := 22) dX6_dropOldest_22 rfl ?_
  refine V.getf (q := 0) (pc := 23) dX6_dropOldest_23 fk_X6_11_6 rfl rfl ?_
  refine V.iloadn (pc := 26) dX6_dropOldest_26 rfl ?_
  refine V.aald (pc := 27) (q := 1) (t0 := 3) (j := 2) (v := .ref (pad 2 0)) dX6_dropOldest_27 rfl rfl (vp_c (by decide)) (by decide) rfl ?_
  refine V.aast (pc := 28) (q := 1) (qk := 14) (t := 3) (j := 1) (E := "FarDrum$State") (wd' := pastWf (xG X) qp qa pad (va_up (va_up (fun i => some (pad i 0)) 0 (some (pad 1 0))) 1 (some (pad 2 0))) size S) dX6_dropOldest_28 rfl rfl rfl rfl (Or.inl rfl) (vp_c (by decide)) (by decide) rfl ?_
  refine V.iinc (pc := 29) (v := 1) dX6_dropOldest_29 rfl rfl (by decide) rfl ?_
  refine V.goto (pc := 32) (tgt := 9) dX6_dropOldest_32 (by decide) ?_
  refine V.iloadn (pc := 9) dX6_dropOldest_9 rfl ?_
  refine V.bipush (pc := 10) (v := 10) dX6_dropOldest_10 (by decide) ?_
  refine V.icmp_geD (pc := 12) (tgt := 35) false dX6_dropOldest_12 (by decide) (by decide) ?_
  refine V.aloadn (pc := 15) dX6_dropOldest_15 rfl ?_
  refine V.getf (q := 0) (pc := 16) dX6_dropOldest_16 fk_X6_11_6 rfl rfl ?_
  refine V.iloadn (pc := 19) dX6_dropOldest_19 rfl ?_
  refine V.iconst (pc := 20) (v := 1) dX6_dropOldest_20 (by decide) ?_
  refine V.isub (pc := 21) dX6_dropOldest_21 ?_
  refine V.aloadn (pc := 22) dX6_dropOldest_22 rfl ?_
  refine V.getf (q := 0) (pc := 23) dX6_dropOldest_23 fk_X6_11_6 rfl rfl ?_
  refine V.iloadn (pc := 26) dX6_dropOldest_26 rfl ?_
  refine V.aald (pc := 27) (q := 1) (t0 := 3) (j := 3) (v := .ref (pad 3 0)) dX6_dropOldest_27 rfl rfl (vp_c (by decide)) (by decide) rfl ?_
  refine V.aast (pc := 28) (q := 1) (qk := 20) (t := 3) (j := 2) (E := "FarDrum$State") (wd' := pastWf (xG X) qp qa pad (va_up (va_up (va_up (fun i => some (pad i 0)) 0 (some (pad 1 0))) 1 (some (pad 2 0))) 2 (some (pad 3 0))) size S) dX6_dropOldest_28 rfl rfl rfl rfl (Or.inl rfl) (vp_c (by decide)) (by decide) rfl ?_
  refine V.iinc (pc := 29) (v := 1) dX6_dropOldest_29 rfl rfl (by decide) rfl ?_
  refine V.goto (pc := 32) (tgt := 9) dX6_dropOldest_32 (by decide) ?_
  refine V.iloadn (pc := 9) dX6_dropOldest_9 rfl ?_
  refine V.bipush (pc := 10) (v := 10) dX6_dropOldest_10 (by decide) ?_
  refine V.icmp_geD (pc := 12) (tgt := 35) false dX6_dropOldest_12 (by decide) (by decide) ?_
  refine V.aloadn (pc := 15) dX6_dropOldest_15 rfl ?_
  refine V.getf (q := 0) (pc := 16) dX6_dropOldest_16 fk_X6_11_6 rfl rfl ?_
  refine V.iloadn (pc := 19) dX6_dropOldest_19 rfl ?_
  refine V.iconst (pc := 20) (v := 1) dX6_dropOldest_20 (by decide) ?_
  refine V.isub (pc := 21) dX6_dropOldest_21 ?_
  refine V.aloadn (pc := 22) dX6_dropOldest_22 rfl ?_
  refine V.getf (q := 0) (pc := 23) dX6_dropOldest_23 fk_X6_11_6 rfl rfl ?_
  refine V.iloadn (pc := 26) dX6_dropOldest_26 rfl ?_
  refine V.aald (pc := 27) (q := 1) (t0 := 3) (j := 4) (v := .ref (pad 4 0)) dX6_dropOldest_27 rfl rfl (vp_c (by decide)) (by decide) rfl ?_
  refine V.aast (pc := 28) (q := 1) (qk := 26) (t := 3) (j := 3) (E := "FarDrum$State") (wd' := pastWf (xG X) qp qa pad (va_up (va_up (va_up (va_up (fun i => some (pad i 0)) 0 (some (pad 1 0))) 1 (some (pad 2 0))) 2 (some (pad 3 0))) 3 (some (pad 4 0))) size S) dX6_dropOldest_28 rfl rfl rfl rfl (Or.inl rfl) (vp_c (by decide)) (by decide) rfl ?_
  refine V.iinc (pc := 29) (v := 1) dX6_dropOldest_29 rfl rfl (by decide) rfl ?_
  refine V.goto (pc := 32) (tgt := 9) dX6_dropOldest_32 (by decide) ?_
  refine V.iloadn (pc := 9) dX6_dropOldest_9 rfl ?_
  refine V.bipush (pc := 10) (v := 10) dX6_dropOldest_10 (by decide) ?_
  refine V.icmp_geD (pc := 12) (tgt := 35) false dX6_dropOldest_12 (by decide) (by decide) ?_
  refine V.aloadn (pc := 15) dX6_dropOldest_15 rfl ?_
  refine V.getf (q := 0) (pc := 16) dX6_dropOldest_16 fk_X6_11_6 rfl rfl ?_
  refine V.iloadn (pc := 19) dX6_dropOldest_19 rfl ?_
  refine V.iconst (pc := 20) (v := 1) dX6_dropOldest_20 (by decide) ?_
  refine V.isub (pc := 21) dX6_dropOldest_21 ?_
  refine V.aloadn (pc := 22) dX6_dropOldest_22 rfl ?_
  refine V.getf (q := 0) (pc := 23) dX6_dropOldest_23 fk_X6_11_6 rfl rfl ?_
  refine V.iloadn (pc := 26) dX6_dropOldest_26 rfl ?_
  refine V.aald (pc := 27) (q := 1) (t0 := 3) (j := 5) (v := .ref (pad 5 0)) dX6_dropOldest_27 rfl rfl (vp_c (by decide)) (by decide) rfl ?_
  refine V.aast (pc := 28) (q := 1) (qk := 32) (t := 3) (j := 4) (E := "FarDrum$State") (wd' := pastWf (xG X) qp qa pad (va_up (va_up (va_up (va_up (va_up (fun i => some (pad i 0)) 0 (some (pad 1 0))) 1 (some (pad 2 0))) 2 (some (pad 3 0))) 3 (some (pad 4 0))) 4 (some (pad 5 0))) size S) dX6_dropOldest_28 rfl rfl rfl rfl (Or.inl rfl) (vp_c (by decide)) (by decide) rfl ?_
  refine V.iinc (pc := 29) (v := 1) dX6_dropOldest_29 rfl rfl (by decide) rfl ?_
  refine V.goto (pc := 32) (tgt := 9) dX6_dropOldest_32 (by decide) ?_
  refine V.iloadn (pc := 9) dX6_dropOldest_9 rfl ?_
  refine V.bipush (pc := 10) (v := 10) dX6_dropOldest_10 (by decide) ?_
  refine V.icmp_geD (pc := 12) (tgt := 35) false dX6_dropOldest_12 (by decide) (by decide) ?_
  refine V.aloadn (pc := 15) dX6_dropOldest_15 rfl ?_
  refine V.getf (q := 0) (pc := 16) dX6_dropOldest_16 fk_X6_11_6 rfl rfl ?_
  refine V.iloadn (pc := 19) dX6_dropOldest_19 rfl ?_
  refine V.iconst (pc := 20) (v := 1) dX6_dropOldest_20 (by decide) ?_
  refine V.isub (pc := 21) dX6_dropOldest_21 ?_
  refine V.aloadn (pc := 22) dX6_dropOldest_22 rfl ?_
  refine V.getf (q := 0) (pc := 23) dX6_dropOldest_23 fk_X6_11_6 rfl rfl ?_
  refine V.iloadn (pc := 26) dX6_dropOldest_26 rfl ?_
  refine V.aald (pc := 27) (q := 1) (t0 := 3) (j := 6) (v := .ref (pad 6 0)) dX6_dropOldest_27 rfl rfl (vp_c (by decide)) (by decide) rfl ?_
  refine V.aast (pc := 28) (q := 1) (qk := 38) (t := 3) (j := 5) (E := "FarDrum$State") (wd' := pastWf (xG X) qp qa pad (va_up (va_up (va_up (va_up (va_up (va_up (fun i => some (pad i 0)) 0 (some (pad 1 0))) 1 (some (pad 2 0))) 2 (some (pad 3 0))) 3 (some (pad 4 0))) 4 (some (pad 5 0))) 5 (some (pad 6 0))) size S) dX6_dropOldest_28 rfl rfl rfl rfl (Or.inl rfl) (vp_c (by decide)) (by decide) rfl ?_
  refine V.iinc (pc := 29) (v := 1) dX6_dropOldest_29 rfl rfl (by decide) rfl ?_
  refine V.goto (pc := 32) (tgt := 9) dX6_dropOldest_32 (by decide) ?_
  refine V.iloadn (pc := 9) dX6_dropOldest_9 rfl ?_
  refine V.bipush (pc := 10) (v := 10) dX6_dropOldest_10 (by decide) ?_
  refine V.icmp_geD (pc := 12) (tgt := 35) false dX6_dropOldest_12 (by decide) (by decide) ?_
  refine V.aloadn (pc := 15) dX6_dropOldest_15 rfl ?_
  refine V.getf (q := 0) (pc := 16) dX6_dropOldest_16 fk_X6_11_6 rfl rfl ?_
  refine V.iloadn (pc := 19) dX6_dropOldest_19 rfl ?_
  refine V.iconst (pc := 20) (v := 1) dX6_dropOldest_20 (by decide) ?_
  refine V.isub (pc := 21) dX6_dropOldest_21 ?_
  refine V.aloadn (pc := 22) dX6_dropOldest_22 rfl ?_
  refine V.getf (q := 0) (pc := 23) dX6_dropOldest_23 fk_X6_11_6 rfl rfl ?_
  refine V.iloadn (pc := 26) dX6_dropOldest_26 rfl ?_
  refine V.aald (pc := 27) (q := 1) (t0 := 3) (j := 7) (v := .ref (pad 7 0)) dX6_dropOldest_27 rfl rfl (vp_c (by decide)) (by decide) rfl ?_
  refine V.aast (pc := 28) (q := 1) (qk := 44) (t := 3) (j := 6) (E := "FarDrum$State") (wd' := pastWf (xG X) qp qa pad (va_up (va_up (va_up (va_up (va_up (va_up (va_up (fun i => some (pad i 0)) 0 (some (pad 1 0))) 1 (some (pad 2 0))) 2 (some (pad 3 0))) 3 (some (pad 4 0))) 4 (some (pad 5 0))) 5 (some (pad 6 0))) 6 (some (pad 7 0))) size S) dX6_dropOldest_28 rfl rfl rfl rfl (Or.inl rfl) (vp_c (by decide)) (by decide) rfl ?_
  refine V.iinc (pc := 29) (v := 1) dX6_dropOldest_29 rfl rfl (by decide) rfl ?_
  refine V.goto (pc := 32) (tgt := 9) dX6_dropOldest_32 (by decide) ?_
  refine V.iloadn (pc := 9) dX6_dropOldest_9 rfl ?_
  refine V.bipush (pc := 10) (v := 10) dX6_dropOldest_10 (by decide) ?_
  refine V.icmp_geD (pc := 12) (tgt := 35) false dX6_dropOldest_12 (by decide) (by decide) ?_
  refine V.aloadn (pc := 15) dX6_dropOldest_15 rfl ?_
  refine V.getf (q := 0) (pc := 16) dX6_dropOldest_16 fk_X6_11_6 rfl rfl ?_
  refine V.iloadn (pc := 19) dX6_dropOldest_19 rfl ?_
  refine V.iconst (pc := 20) (v := 1) dX6_dropOldest_20 (by decide) ?_
  refine V.isub (pc := 21) dX6_dropOldest_21 ?_
  refine V.aloadn (pc := 22) dX6_dropOldest_22 rfl ?_
  refine V.getf (q := 0) (pc := 23) dX6_dropOldest_23 fk_X6_11_6 rfl rfl ?_
  refine V.iloadn (pc := 26) dX6_dropOldest_26 rfl ?_
  refine V.aald (pc := 27) (q := 1) (t0 := 3) (j := 8) (v := .ref (pad 8 0)) dX6_dropOldest_27 rfl rfl (vp_c (by decide)) (by decide) rfl ?_
  refine V.aast (pc := 28) (q := 1) (qk := 50) (t := 3) (j := 7) (E := "FarDrum$State") (wd' := pastWf (xG X) qp qa pad (va_up (va_up (va_up (va_up (va_up (va_up (va_up (va_up (fun i => some (pad i 0)) 0 (some (pad 1 0))) 1 (some (pad 2 0))) 2 (some (pad 3 0))) 3 (some (pad 4 0))) 4 (some (pad 5 0))) 5 (some (pad 6 0))) 6 (some (pad 7 0))) 7 (some (pad 8 0))) size S) dX6_dropOldest_28 rfl rfl rfl rfl (Or.inl rfl) (vp_c (by decide)) (by decide) rfl ?_
  refine V.iinc (pc := 29) (v := 1) dX6_dropOldest_29 rfl rfl (by decide) rfl ?_
  refine V.goto (pc := 32) (tgt := 9) dX6_dropOldest_32 (by decide) ?_
  refine V.iloadn (pc := 9) dX6_dropOldest_9 rfl ?_
  refine V.bipush (pc := 10) (v := 10) dX6_dropOldest_10 (by decide) ?_
  refine V.icmp_geD (pc := 12) (tgt := 35) false dX6_dropOldest_12 (by decide) (by decide) ?_
  refine V.aloadn (pc := 15) dX6_dropOldest_15 rfl ?_
  refine V.getf (q := 0) (pc := 16) dX6_dropOldest_16 fk_X6_11_6 rfl rfl ?_
  refine V.iloadn (pc := 19) dX6_dropOldest_19 rfl ?_
  refine V.iconst (pc := 20) (v := 1) dX6_dropOldest_20 (by decide) ?_
  refine V.isub (pc := 21) dX6_dropOldest_21 ?_
  refine V.aloadn (pc := 22) dX6_dropOldest_22 rfl ?_
  refine V.getf (q := 0) (pc := 23) dX6_dropOldest_23 fk_X6_11_6 rfl rfl ?_
  refine V.iloadn (pc := 26) dX6_dropOldest_26 rfl ?_
  refine V.aald (pc := 27) (q := 1) (t0 := 3) (j := 9) (v := .ref (pad 9 0)) dX6_dropOldest_27 rfl rfl (vp_c (by decide)) (by decide) rfl ?_
  refine V.aast (pc := 28) (q := 1) (qk := 56) (t := 3) (j := 8) (E := "FarDrum$State") (wd' := pastWf (xG X) qp qa pad (va_up (va_up (va_up (va_up (va_up (va_up (va_up (va_up (va_up (fun i => some (pad i 0)) 0 (some (pad 1 0))) 1 (some (pad 2 0))) 2 (some (pad 3 0))) 3 (some (pad 4 0))) 4 (some (pad 5 0))) 5 (some (pad 6 0))) 6 (some (pad 7 0))) 7 (some (pad 8 0))) 8 (some (pad 9 0))) size S) dX6_dropOldest_28 rfl rfl rfl rfl (Or.inl rfl) (vp_c (by decide)) (by decide) rfl ?_
  refine V.iinc (pc := 29) (v := 1) dX6_dropOldest_29 rfl rfl (by decide) rfl ?_
  refine V.goto (pc := 32) (tgt := 9) dX6_dropOldest_32 (by decide) ?_
  refine V.iloadn (pc := 9) dX6_dropOldest_9 rfl ?_
  refine V.bipush (pc := 10) (v := 10) dX6_dropOldest_10 (by decide) ?_
  refine V.icmp_geD (pc := 12) (tgt := 35) true dX6_dropOldest_12 (by decide) (by decide) ?_
  refine V.aloadn (pc := 35) dX6_dropOldest_35 rfl ?_
  refine V.getf (q := 0) (pc := 36) dX6_dropOldest_36 fk_X6_11_6 rfl rfl ?_
  refine V.bipush (pc := 39) (v := 9) dX6_dropOldest_39 (by decide) ?_
  refine V.aloadn (pc := 41) dX6_dropOldest_41 rfl ?_
  refine V.aast (pc := 42) (q := 1) (qk := 2) (t := 3) (j := 9) (E := "FarDrum$State") (wd' := pastWf (xG X) qp qa pad (va_up (va_up (va_up (va_up (va_up (va_up (va_up (va_up (va_up (va_up (fun i => some (pad i 0)) 0 (some (pad 1 0))) 1 (some (pad 2 0))) 2 (some (pad 3 0))) 3 (some (pad 4 0))) 4 (some (pad 5 0))) 5 (some (pad 6 0))) 6 (some (pad 7 0))) 7 (some (pad 8 0))) 8 (some (pad 9 0))) 9 (some (pad 0 0))) size S) dX6_dropOldest_42 rfl rfl rfl rfl (Or.inl rfl) (vp_c (by decide)) (by decide) rfl ?_
  refine V.aloadn (pc := 43) dX6_dropOldest_43 rfl ?_
  refine V.bipush (pc := 44) (v := 9) dX6_dropOldest_44 (by decide) ?_
  refine V.putf (q := 0) (wd' := pastWf (xG X) qp qa pad (va_up (va_up (va_up (va_up (va_up (va_up (va_up (va_up (va_up (va_up (fun i => some (pad i 0)) 0 (some (pad 1 0))) 1 (some (pad 2 0))) 2 (some (pad 3 0))) 3 (some (pad 4 0))) 4 (some (pad 5 0))) 5 (some (pad 6 0))) 6 (some (pad 7 0))) 7 (some (pad 8 0))) 8 (some (pad 9 0))) 9 (some (pad 0 0))) 9 S) (pc := 46) dX6_dropOldest_46 pk_X6_18_6 rfl rfl rfl rfl rfl ?_
  refine V.sel (pc := 49) (wd' := pastWf (xG X) qp qa (rotP pad) (va_up (va_up (va_up (va_up (va_up (va_up (va_up (va_up (va_up (va_up (fun i => some (pad i 0)) 0 (some (pad 1 0))) 1 (some (pad 2 0))) 2 (some (pad 3 0))) 3 (some (pad 4 0))) 4 (some (pad 5 0))) 5 (some (pad 6 0))) 6 (some (pad 7 0))) 7 (some (pad 8 0))) 8 (some (pad 9 0))) 9 (some (pad 0 0))) 9 (rotP S)) (SW.app (SW.refl _) (SW.perm stL_rot)) ?_
  refine V.refn (pc := 49) (q := 1) (g := fun i => some (rotP pad i 0)) (wd' := pastW (xG X) qp qa (rotP pad) 9 (rotP S)) rfl (fun j hj => match j, hj with | 0, _ => rfl | 1, _ => rfl | 2, _ => rfl | 3, _ => rfl | 4, _ => rfl | 5, _ => rfl | 6, _ => rfl | 7, _ => rfl | 8, _ => rfl | 9, _ => rfl | j + 10, hj => absurd hj (by omega)) rfl ?_
  exact V.vretE (pc := 49) hX kX6_dropOldest_r hQ dX6_dropOldest_49 rfl rfl
theorem oX6_dropOldest {l : Launch} {G : GT} {qp qa : Nat} {pad : Nat → Nat → Nat} {size : Int32} {S : Nat → SC} : Ct (l, G, kX6_dropOldest, pastW G qp qa pad size S, [.ref qp], qE none (pastW G qp qa (rotP pad) 9 (rotP S))) :=
  Ct.of [some (.ref qp), none, none] kX6_dropOldest_p rfl rfl rfl (tX6_dropOldest (X := (l, G, kX6_dropOldest, pastW G qp qa pad size S, [.ref qp], qE none (pastW G qp qa (rotP pad) 9 (rotP S)))) rfl rfl)
def wX6_push (G : GT) (q_a1 q_a1_muleBeats q_a1_muleFrom q_a1_muleTo q_a1_slow q_a1_struck q_a0 q_a0_states : Nat) (pad : Nat → Nat → Nat) (size : Int32) (S : Nat → SC) (v_a1_strokes v_a1_beat v_a1_place v_a1_fog v_a1_deaf v_a1_mules : Int32) (m_a1_muleBeats m_a1_muleFrom m_a1_muleTo m_a1_slow m_a1_struck : Nat → Int32) : va_W := [(q_a1, .inr (7, [.int v_a1_strokes, .int v_a1_beat, .int v_a1_place, .int v_a1_fog, .int v_a1_deaf, .int v_a1_mules, .ref q_a1_slow, .ref q_a1_struck, .ref q_a1_muleFrom, .ref q_a1_muleTo, .ref q_a1_muleBeats])), (q_a1_muleBeats, .inl (G.2 0, 2, .inl m_a1_muleBeats)), (q_a1_muleFrom, .inl (G.2 0, 2, .inl m_a1_muleFrom)), (q_a1_muleTo, .inl (G.2 0, 2, .inl m_a1_muleTo)), (q_a1_slow, .inl (G.2 0, 6, .inl m_a1_slow)), (q_a1_struck, .inl (G.2 0, 6, .inl m_a1_struck))] ++ pastW G q_a0 q_a0_states pad size S
def fX6_push_13 (pad : Nat → Nat → Nat) (size : Int32) (S : Nat → SC) (v_a1_strokes v_a1_beat v_a1_place v_a1_fog v_a1_deaf v_a1_mules : Int32) (m_a1_muleBeats m_a1_muleFrom m_a1_muleTo m_a1_slow m_a1_struck : Nat → Int32) : Option ((Nat → Nat → Nat) × Int32 × (Nat → SC)) :=
  rdx 10 size fun j =>
  Option.bind (fX7_copy (S j).2.2.2.2.2.2.1 (S j).2.2.2.2.2.2.2.1 (S j).2.2.2.2.2.2.2.2.1 (S j).2.2.2.2.2.2.2.2.2.1 (S j).2.2.2.2.2.2.2.2.2.2 v_a1_strokes v_a1_beat v_a1_place v_a1_fog v_a1_deaf v_a1_mules m_a1_muleBeats m_a1_muleFrom m_a1_muleTo m_a1_slow m_a1_struck) fun o =>
  lti (size + (1 : Int32)) fun y =>
  some (pad, y, va_up S j o)
def fX6_push (pad : Nat → Nat → Nat) (size : Int32) (S : Nat → SC) (v_a1_strokes v_a1_beat v_a1_place v_a1_fog v_a1_deaf v_a1_mules : Int32) (m_a1_muleBeats m_a1_muleFrom m_a1_muleTo m_a1_slow m_a1_struck : Nat → Int32) : Option ((Nat → Nat → Nat) × Int32 × (Nat → SC)) :=
  if size < (10 : Int32) then fX6_push_13 pad size S v_a1_strokes v_a1_beat v_a1_place v_a1_fog v_a1_deaf v_a1_mules m_a1_muleBeats m_a1_muleFrom m_a1_muleTo m_a1_slow m_a1_struck else fX6_push_13 (rotP pad) 9 (rotP S) v_a1_strokes v_a1_beat v_a1_place v_a1_fog v_a1_deaf v_a1_mules m_a1_muleBeats m_a1_muleFrom m_a1_muleTo m_a1_slow m_a1_struck
set_option maxRecDepth 50000 in
theorem tX6_push_13 {X : XT} {q_a1 q_a1_muleBeats q_a1_muleFrom q_a1_muleTo q_a1_slow q_a1_struck q_a0 q_a0_states : Nat} {pad : Nat → Nat → Nat} {size : Int32} {S : Nat → SC} {v_a1_strokes v_a1_beat v_a1_place v_a1_fog v_a1_deaf v_a1_mules : Int32} {m_a1_muleBeats m_a1_muleFrom m_a1_muleTo m_a1_slow m_a1_struck : Nat → Int32} {out : (Nat → Nat → Nat) × Int32 × (Nat → SC)} (hX : xk X = kX6_push) (hQ : xQ X = qE none (wX6_push (xG X) q_a1 q_a1_muleBeats q_a1_muleFrom q_a1_muleTo q_a1_slow q_a1_struck q_a0 q_a0_states out.1 out.2.1 out.2.2 v_a1_strokes v_a1_beat v_a1_place v_a1_fog v_a1_deaf v_a1_mules m_a1_muleBeats m_a1_muleFrom m_a1_muleTo m_a1_slow m_a1_struck)) (hf : fX6_push_13 pad size S v_a1_strokes v_a1_beat v_a1_place v_a1_fog v_a1_deaf v_a1_mules m_a1_muleBeats m_a1_muleFrom m_a1_muleTo m_a1_slow m_a1_struck = some out) : V X cX6_push "FarDrum$Past" 0 0 (wX6_push (xG X) q_a1 q_a1_muleBeats q_a1_muleFrom q_a1_muleTo q_a1_slow q_a1_struck q_a0 q_a0_states pad size S v_a1_strokes v_a1_beat v_a1_place v_a1_fog v_a1_deaf v_a1_mules m_a1_muleBeats m_a1_muleFrom m_a1_muleTo m_a1_slow m_a1_struck) [some (.ref q_a0), some (.ref q_a1)] 13 [] := by
  unfold fX6_push_13 at hf
  refine V.aloadn (pc := 13) dX6_push_13 rfl ?_
  refine V.getf (q := 6) (pc := 14) dX6_push_14 fk_X6_11_6 rfl rfl ?_
  refine V.aloadn (pc := 17) dX6_push_17 rfl ?_
  refine V.getf (q := 6) (pc := 18) dX6_push_18 fk_X6_18_6 rfl rfl ?_
  obtain ⟨hin, j, ej, hj, hf⟩ := rdx_ok hf
  refine V.aald (pc := 21) (q := 7) (t0 := 3) (j := j) (v := .ref (pad j 0)) dX6_push_21 rfl rfl hin ej rfl ?_
  refine V.aloadn (pc := 22) dX6_push_22 rfl ?_
  refine V.callVvP (pc := 23) (wd' := fun (o : SC) => wX6_push (xG X) q_a1 q_a1_muleBeats q_a1_muleFrom q_a1_muleTo q_a1_slow q_a1_struck q_a0 q_a0_states pad size (va_up S j o) v_a1_strokes v_a1_beat v_a1_place v_a1_fog v_a1_deaf v_a1_mules m_a1_muleBeats m_a1_muleFrom m_a1_muleTo m_a1_slow m_a1_struck) [.ref q_a1] (st := []) (SW.focus (a := [(q_a1, .inr (7, [.int v_a1_strokes, .int v_a1_beat, .int v_a1_place, .int v_a1_fog, .int v_a1_deaf, .int v_a1_mules, .ref q_a1_slow, .ref q_a1_struck, .ref q_a1_muleFrom, .ref q_a1_muleTo, .ref q_a1_muleBeats])), (q_a1_muleBeats, .inl ((xG X).2 0, 2, .inl m_a1_muleBeats)), (q_a1_muleFrom, .inl ((xG X).2 0, 2, .inl m_a1_muleFrom)), (q_a1_muleTo, .inl ((xG X).2 0, 2, .inl m_a1_muleTo)), (q_a1_slow, .inl ((xG X).2 0, 6, .inl m_a1_slow)), (q_a1_struck, .inl ((xG X).2 0, 6, .inl m_a1_struck))]) (h := [(q_a0, .inr (6, [.int size, .ref q_a0_states])), (q_a0_states, .inl ((xG X).2 3, 10, .inr (.inr (.inr (.inr (fun i => some (pad i 0)))))))]) (SW.perm (stL_focus (G := xG X) (pad := pad) (S := S) hj))) hf (fun _ h => oX7_copy (q_a0 := (pad j 0)) (q_a0_muleBeats := (pad j 1)) (q_a0_muleFrom := (pad j 2)) (q_a0_muleTo := (pad j 3)) (q_a0_slow := (pad j 4)) (q_a0_struck := (pad j 5)) (v_a0_strokes := (S j).1) (v_a0_beat := (S j).2.1) (v_a0_place := (S j).2.2.1) (v_a0_fog := (S j).2.2.2.1) (v_a0_deaf := (S j).2.2.2.2.1) (v_a0_mules := (S j).2.2.2.2.2.1) (m_a0_muleBeats := (S j).2.2.2.2.2.2.1) (m_a0_muleFrom := (S j).2.2.2.2.2.2.2.1) (m_a0_muleTo := (S j).2.2.2.2.2.2.2.2.1) (m_a0_slow := (S j).2.2.2.2.2.2.2.2.2.1) (m_a0_struck := (S j).2.2.2.2.2.2.2.2.2.2) (q_a1 := q_a1) (q_a1_muleBeats := q_a1_muleBeats) (q_a1_muleFrom := q_a1_muleFrom) (q_a1_muleTo := q_a1_muleTo) (q_a1_slow := q_a1_slow) (q_a1_struck := q_a1_struck) (v_a1_strokes := v_a1_strokes) (v_a1_beat := v_a1_beat) (v_a1_place := v_a1_place) (v_a1_fog := v_a1_fog) (v_a1_deaf := v_a1_deaf) (v_a1_mules := v_a1_mules) (m_a1_muleBeats := m_a1_muleBeats) (m_a1_muleFrom := m_a1_muleFrom) (m_a1_muleTo := m_a1_muleTo) (m_a1_slow := m_a1_slow) (m_a1_struck := m_a1_struck) h) lkV_X6_25 dX6_push_23 hX rfl ⟨rfl, rfl⟩ ⟨rfl, rfl⟩ rfl rfl rfl (List.mem_of_getElem? (i := 0) rfl) rfl (fun o => SW.unfocus (a := [(q_a1, .inr (7, [.int v_a1_strokes, .int v_a1_beat, .int v_a1_place, .int v_a1_fog, .int v_a1_deaf, .int v_a1_mules, .ref q_a1_slow, .ref q_a1_struck, .ref q_a1_muleFrom, .ref q_a1_muleTo, .ref q_a1_muleBeats])), (q_a1_muleBeats, .inl ((xG X).2 0, 2, .inl m_a1_muleBeats)), (q_a1_muleFrom, .inl ((xG X).2 0, 2, .inl m_a1_muleFrom)), (q_a1_muleTo, .inl ((xG X).2 0, 2, .inl m_a1_muleTo)), (q_a1_slow, .inl ((xG X).2 0, 6, .inl m_a1_slow)), (q_a1_struck, .inl ((xG X).2 0, 6, .inl m_a1_struck))]) (h := [(q_a0, .inr (6, [.int size, .ref q_a0_states])), (q_a0_states, .inl ((xG X).2 3, 10, .inr (.inr (.inr (.inr (fun i => some (pad i 0)))))))]) (SW.perm (stL_unfocus (G := xG X) (pad := pad) (S := S) (c := o) hj))) (fun o hf => ?_)
  refine V.aloadn (pc := 26) dX6_push_26 rfl ?_
  refine V.dup (pc := 27) dX6_push_27 rfl ?_
  refine V.getf (q := 6) (pc := 28) dX6_push_28 fk_X6_18_6 rfl rfl ?_
  refine V.iconst (pc := 31) (v := 1) dX6_push_31 (by decide) ?_
  refine V.iadd (pc := 32) dX6_push_32 ?_
  refine V.topi hf (fun y hf => ?_)
  refine V.putf (q := 6) (wd' := wX6_push (xG X) q_a1 q_a1_muleBeats q_a1_muleFrom q_a1_muleTo q_a1_slow q_a1_struck q_a0 q_a0_states pad y (va_up S j o) v_a1_strokes v_a1_beat v_a1_place v_a1_fog v_a1_deaf v_a1_mules m_a1_muleBeats m_a1_muleFrom m_a1_muleTo m_a1_slow m_a1_struck) (pc := 33) dX6_push_33 pk_X6_18_6 rfl rfl rfl rfl rfl ?_
  exact V.vretE (pc := 36) hX kX6_push_r hQ dX6_push_36 rfl (by cases hf; rfl)
set_option maxRecDepth 50000 in
theorem tX6_push_0 {X : XT} {q_a1 q_a1_muleBeats q_a1_muleFrom q_a1_muleTo q_a1_slow q_a1_struck q_a0 q_a0_states : Nat} {pad : Nat → Nat → Nat} {size : Int32} {S : Nat → SC} {v_a1_strokes v_a1_beat v_a1_place v_a1_fog v_a1_deaf v_a1_mules : Int32} {m_a1_muleBeats m_a1_muleFrom m_a1_muleTo m_a1_slow m_a1_struck : Nat → Int32} {out : (Nat → Nat → Nat) × Int32 × (Nat → SC)} (hX : xk X = kX6_push) (hQ : xQ X = qE none (wX6_push (xG X) q_a1 q_a1_muleBeats q_a1_muleFrom q_a1_muleTo q_a1_slow q_a1_struck q_a0 q_a0_states out.1 out.2.1 out.2.2 v_a1_strokes v_a1_beat v_a1_place v_a1_fog v_a1_deaf v_a1_mules m_a1_muleBeats m_a1_muleFrom m_a1_muleTo m_a1_slow m_a1_struck)) (hf : fX6_push pad size S v_a1_strokes v_a1_beat v_a1_place v_a1_fog v_a1_deaf v_a1_mules m_a1_muleBeats m_a1_muleFrom m_a1_muleTo m_a1_slow m_a1_struck = some out) : V X cX6_push "FarDrum$Past" 0 0 (wX6_push (xG X) q_a1 q_a1_muleBeats q_a1_muleFrom q_a1_muleTo q_a1_slow q_a1_struck q_a0 q_a0_states pad size S v_a1_strokes v_a1_beat v_a1_place v_a1_fog v_a1_deaf v_a1_mules m_a1_muleBeats m_a1_muleFrom m_a1_muleTo m_a1_slow m_a1_struck) [some (.ref q_a0), some (.ref q_a1)] 0 [] := by
  unfold fX6_push at hf
  refine V.aloadn (pc := 0) dX6_push_0 rfl ?_
  refine V.getf (q := 6) (pc := 1) dX6_push_1 fk_X6_18_6 rfl rfl ?_
  refine V.bipush (pc := 4) (v := 10) dX6_push_4 (by decide) ?_
  refine V.icmp_lt (pc := 6) (tgt := 13) dX6_push_6 (by decide) hf (fun hf => ?_) (fun hf => ?_)
  · exact tX6_push_13 hX hQ hf
  · refine V.aloadn (pc := 9) dX6_push_9 rfl ?_
    refine V.callVvP (O' := Unit) (fc := some ()) (kf := fun _ => fX6_push_13 (rotP pad) 9 (rotP S) v_a1_strokes v_a1_beat v_a1_place v_a1_fog v_a1_deaf v_a1_mules m_a1_muleBeats m_a1_muleFrom m_a1_muleTo m_a1_slow m_a1_struck) (pc := 10) (wd' := fun _ => wX6_push (xG X) q_a1 q_a1_muleBeats q_a1_muleFrom q_a1_muleTo q_a1_slow q_a1_struck q_a0 q_a0_states (rotP pad) 9 (rotP S) v_a1_strokes v_a1_beat v_a1_place v_a1_fog v_a1_deaf v_a1_mules m_a1_muleBeats m_a1_muleFrom m_a1_muleTo m_a1_slow m_a1_struck) [] (st := []) (SW.comm _ _) hf (fun _ _ => oX6_dropOldest (qp := q_a0) (qa := q_a0_states) (pad := pad) (size := size) (S := S)) lkV_X6_22 dX6_push_10 hX rfl ⟨rfl, rfl⟩ ⟨rfl, rfl⟩ rfl rfl rfl (List.mem_of_getElem? (i := 0) rfl) rfl (fun _ => SW.comm _ _) (fun _ hf => ?_)
    exact tX6_push_13 hX hQ hf
theorem oX6_push {l : Launch} {G : GT} {q_a1 q_a1_muleBeats q_a1_muleFrom q_a1_muleTo q_a1_slow q_a1_struck q_a0 q_a0_states : Nat} {pad : Nat → Nat → Nat} {size : Int32} {S : Nat → SC} {v_a1_strokes v_a1_beat v_a1_place v_a1_fog v_a1_deaf v_a1_mules : Int32} {m_a1_muleBeats m_a1_muleFrom m_a1_muleTo m_a1_slow m_a1_struck : Nat → Int32} {out : (Nat → Nat → Nat) × Int32 × (Nat → SC)} (hf : fX6_push pad size S v_a1_strokes v_a1_beat v_a1_place v_a1_fog v_a1_deaf v_a1_mules m_a1_muleBeats m_a1_muleFrom m_a1_muleTo m_a1_slow m_a1_struck = some out) : Ct (l, G, kX6_push, wX6_push G q_a1 q_a1_muleBeats q_a1_muleFrom q_a1_muleTo q_a1_slow q_a1_struck q_a0 q_a0_states pad size S v_a1_strokes v_a1_beat v_a1_place v_a1_fog v_a1_deaf v_a1_mules m_a1_muleBeats m_a1_muleFrom m_a1_muleTo m_a1_slow m_a1_struck, [.ref q_a0, .ref q_a1], qE none (wX6_push G q_a1 q_a1_muleBeats q_a1_muleFrom q_a1_muleTo q_a1_slow q_a1_struck q_a0 q_a0_states out.1 out.2.1 out.2.2 v_a1_strokes v_a1_beat v_a1_place v_a1_fog v_a1_deaf v_a1_mules m_a1_muleBeats m_a1_muleFrom m_a1_muleTo m_a1_slow m_a1_struck)) :=
  Ct.of [some (.ref q_a0), some (.ref q_a1)] kX6_push_p rfl rfl rfl (tX6_push_0 (X := (l, G, kX6_push, wX6_push G q_a1 q_a1_muleBeats q_a1_muleFrom q_a1_muleTo q_a1_slow q_a1_struck q_a0 q_a0_states pad size S v_a1_strokes v_a1_beat v_a1_place v_a1_fog v_a1_deaf v_a1_mules m_a1_muleBeats m_a1_muleFrom m_a1_muleTo m_a1_slow m_a1_struck, [.ref q_a0, .ref q_a1], qE none (wX6_push G q_a1 q_a1_muleBeats q_a1_muleFrom q_a1_muleTo q_a1_slow q_a1_struck q_a0 q_a0_states out.1 out.2.1 out.2.2 v_a1_strokes v_a1_beat v_a1_place v_a1_fog v_a1_deaf v_a1_mules m_a1_muleBeats m_a1_muleFrom m_a1_muleTo m_a1_slow m_a1_struck))) rfl rfl hf)
def fX6_popInto (size : Int32) (S : Nat → SC) (v_a1_strokes v_a1_beat v_a1_place v_a1_fog v_a1_deaf v_a1_mules : Int32) (m_a1_muleBeats m_a1_muleFrom m_a1_muleTo m_a1_slow m_a1_struck : Nat → Int32) : Option (Int32 × SC) :=
  if 0 < size then (lti (size - (1 : Int32)) fun y =>
  rdx 10 y fun j =>
  Option.bind (fX7_copy m_a1_muleBeats m_a1_muleFrom m_a1_muleTo m_a1_slow m_a1_struck (S j).1 (S j).2.1 (S j).2.2.1 (S j).2.2.2.1 (S j).2.2.2.2.1 (S j).2.2.2.2.2.1 (S j).2.2.2.2.2.2.1 (S j).2.2.2.2.2.2.2.1 (S j).2.2.2.2.2.2.2.2.1 (S j).2.2.2.2.2.2.2.2.2.1 (S j).2.2.2.2.2.2.2.2.2.2) fun o => some (y, o))
  else some (size, v_a1_strokes, v_a1_beat, v_a1_place, v_a1_fog, v_a1_deaf, v_a1_mules, m_a1_muleBeats, m_a1_muleFrom, m_a1_muleTo, m_a1_slow, m_a1_struck)
set_option maxRecDepth 50000 in
theorem tX6_popInto_0 {X : XT} {q_a1 q_a1_muleBeats q_a1_muleFrom q_a1_muleTo q_a1_slow q_a1_struck q_a0 q_a0_states : Nat} {pad : Nat → Nat → Nat} {size : Int32} {S : Nat → SC} {v_a1_strokes v_a1_beat v_a1_place v_a1_fog v_a1_deaf v_a1_mules : Int32} {m_a1_muleBeats m_a1_muleFrom m_a1_muleTo m_a1_slow m_a1_struck : Nat → Int32} {out : Int32 × SC} (hX : xk X = kX6_popInto) (hQ : xQ X = qE none (wX6_push (xG X) q_a1 q_a1_muleBeats q_a1_muleFrom q_a1_muleTo q_a1_slow q_a1_struck q_a0 q_a0_states pad out.1 S out.2.1 out.2.2.1 out.2.2.2.1 out.2.2.2.2.1 out.2.2.2.2.2.1 out.2.2.2.2.2.2.1 out.2.2.2.2.2.2.2.1 out.2.2.2.2.2.2.2.2.1 out.2.2.2.2.2.2.2.2.2.1 out.2.2.2.2.2.2.2.2.2.2.1 out.2.2.2.2.2.2.2.2.2.2.2)) (hf : fX6_popInto size S v_a1_strokes v_a1_beat v_a1_place v_a1_fog v_a1_deaf v_a1_mules m_a1_muleBeats m_a1_muleFrom m_a1_muleTo m_a1_slow m_a1_struck = some out) : V X cX6_popInto "FarDrum$Past" 0 0 (wX6_push (xG X) q_a1 q_a1_muleBeats q_a1_muleFrom q_a1_muleTo q_a1_slow q_a1_struck q_a0 q_a0_states pad size S v_a1_strokes v_a1_beat v_a1_place v_a1_fog v_a1_deaf v_a1_mules m_a1_muleBeats m_a1_muleFrom m_a1_muleTo m_a1_slow m_a1_struck) [some (.ref q_a0), some (.ref q_a1)] 0 [] := by
  unfold fX6_popInto at hf
  refine V.aloadn (pc := 0) dX6_popInto_0 rfl ?_
  refine V.getf (q := 6) (pc := 1) dX6_popInto_1 fk_X6_18_6 rfl rfl ?_
  refine V.if_gt (pc := 4) (tgt := 8) dX6_popInto_4 (by decide) hf (fun hf => ?_) (fun hf => ?_)
  · refine V.aloadn (pc := 8) dX6_popInto_8 rfl ?_
    refine V.dup (pc := 9) dX6_popInto_9 rfl ?_
    refine V.getf (q := 6) (pc := 10) dX6_popInto_10 fk_X6_18_6 rfl rfl ?_
    refine V.iconst (pc := 13) (v := 1) dX6_popInto_13 (by decide) ?_
    refine V.isub (pc := 14) dX6_popInto_14 ?_
    refine V.topi hf (fun y hf => ?_)
    refine V.putf (q := 6) (wd' := wX6_push (xG X) q_a1 q_a1_muleBeats q_a1_muleFrom q_a1_muleTo q_a1_slow q_a1_struck q_a0 q_a0_states pad y S v_a1_strokes v_a1_beat v_a1_place v_a1_fog v_a1_deaf v_a1_mules m_a1_muleBeats m_a1_muleFrom m_a1_muleTo m_a1_slow m_a1_struck) (pc := 15) dX6_popInto_15 pk_X6_18_6 rfl rfl rfl rfl rfl ?_
    refine V.aloadn (pc := 18) dX6_popInto_18 rfl ?_
    refine V.aloadn (pc := 19) dX6_popInto_19 rfl ?_
    refine V.getf (q := 6) (pc := 20) dX6_popInto_20 fk_X6_11_6 rfl rfl ?_
    refine V.aloadn (pc := 23) dX6_popInto_23 rfl ?_
    refine V.getf (q := 6) (pc := 24) dX6_popInto_24 fk_X6_18_6 rfl rfl ?_
    obtain ⟨hin, j, ej, hj, hf⟩ := rdx_ok hf
    refine V.aald (pc := 27) (q := 7) (t0 := 3) (j := j) (v := .ref (pad j 0)) dX6_popInto_27 rfl rfl hin ej rfl ?_
    refine V.callVvP (pc := 28) (wd' := fun (o : SC) => wX6_push (xG X) q_a1 q_a1_muleBeats q_a1_muleFrom q_a1_muleTo q_a1_slow q_a1_struck q_a0 q_a0_states pad y S o.1 o.2.1 o.2.2.1 o.2.2.2.1 o.2.2.2.2.1 o.2.2.2.2.2.1 o.2.2.2.2.2.2.1 o.2.2.2.2.2.2.2.1 o.2.2.2.2.2.2.2.2.1 o.2.2.2.2.2.2.2.2.2.1 o.2.2.2.2.2.2.2.2.2.2) [.ref (pad j 0)] (st := []) (SW.focus2 (a := [(q_a1, .inr (7, [.int v_a1_strokes, .int v_a1_beat, .int v_a1_place, .int v_a1_fog, .int v_a1_deaf, .int v_a1_mules, .ref q_a1_slow, .ref q_a1_struck, .ref q_a1_muleFrom, .ref q_a1_muleTo, .ref q_a1_muleBeats])), (q_a1_muleBeats, .inl ((xG X).2 0, 2, .inl m_a1_muleBeats)), (q_a1_muleFrom, .inl ((xG X).2 0, 2, .inl m_a1_muleFrom)), (q_a1_muleTo, .inl ((xG X).2 0, 2, .inl m_a1_muleTo)), (q_a1_slow, .inl ((xG X).2 0, 6, .inl m_a1_slow)), (q_a1_struck, .inl ((xG X).2 0, 6, .inl m_a1_struck))]) (h := [(q_a0, .inr (6, [.int y, .ref q_a0_states])), (q_a0_states, .inl ((xG X).2 3, 10, .inr (.inr (.inr (.inr (fun i => some (pad i 0)))))))]) (SW.perm (stL_focus (G := xG X) (pad := pad) (S := S) hj))) hf (fun _ h => oX7_copy (q_a0 := q_a1) (q_a0_muleBeats := q_a1_muleBeats) (q_a0_muleFrom := q_a1_muleFrom) (q_a0_muleTo := q_a1_muleTo) (q_a0_slow := q_a1_slow) (q_a0_struck := q_a1_struck) (v_a0_strokes := v_a1_strokes) (v_a0_beat := v_a1_beat) (v_a0_place := v_a1_place) (v_a0_fog := v_a1_fog) (v_a0_deaf := v_a1_deaf) (v_a0_mules := v_a1_mules) (m_a0_muleBeats := m_a1_muleBeats) (m_a0_muleFrom := m_a1_muleFrom) (m_a0_muleTo := m_a1_muleTo) (m_a0_slow := m_a1_slow) (m_a0_struck := m_a1_struck) (q_a1 := (pad j 0)) (q_a1_muleBeats := (pad j 1)) (q_a1_muleFrom := (pad j 2)) (q_a1_muleTo := (pad j 3)) (q_a1_slow := (pad j 4)) (q_a1_struck := (pad j 5)) (v_a1_strokes := (S j).1) (v_a1_beat := (S j).2.1) (v_a1_place := (S j).2.2.1) (v_a1_fog := (S j).2.2.2.1) (v_a1_deaf := (S j).2.2.2.2.1) (v_a1_mules := (S j).2.2.2.2.2.1) (m_a1_muleBeats := (S j).2.2.2.2.2.2.1) (m_a1_muleFrom := (S j).2.2.2.2.2.2.2.1) (m_a1_muleTo := (S j).2.2.2.2.2.2.2.2.1) (m_a1_slow := (S j).2.2.2.2.2.2.2.2.2.1) (m_a1_struck := (S j).2.2.2.2.2.2.2.2.2.2) h) lkV_X6_25 dX6_popInto_28 hX rfl ⟨rfl, rfl⟩ ⟨rfl, rfl⟩ rfl rfl rfl (List.mem_of_getElem? (i := 0) rfl) rfl (fun o => SW.unfocus2 (a := [(q_a1, .inr (7, [.int o.1, .int o.2.1, .int o.2.2.1, .int o.2.2.2.1, .int o.2.2.2.2.1, .int o.2.2.2.2.2.1, .ref q_a1_slow, .ref q_a1_struck, .ref q_a1_muleFrom, .ref q_a1_muleTo, .ref q_a1_muleBeats])), (q_a1_muleBeats, .inl ((xG X).2 0, 2, .inl o.2.2.2.2.2.2.1)), (q_a1_muleFrom, .inl ((xG X).2 0, 2, .inl o.2.2.2.2.2.2.2.1)), (q_a1_muleTo, .inl ((xG X).2 0, 2, .inl o.2.2.2.2.2.2.2.2.1)), (q_a1_slow, .inl ((xG X).2 0, 6, .inl o.2.2.2.2.2.2.2.2.2.1)), (q_a1_struck, .inl ((xG X).2 0, 6, .inl o.2.2.2.2.2.2.2.2.2.2))]) (h := [(q_a0, .inr (6, [.int y, .ref q_a0_states])), (q_a0_states, .inl ((xG X).2 3, 10, .inr (.inr (.inr (.inr (fun i => some (pad i 0)))))))]) (c := stC (xG X) (pad j) (S j)) (SW.perm (stL_focus (G := xG X) (pad := pad) (S := S) hj).symm)) (fun o hf => ?_)
    exact V.vretE (pc := 31) hX kX6_popInto_r hQ dX6_popInto_31 rfl (by cases hf; rfl)
  · exact V.vretE (pc := 7) hX kX6_popInto_r hQ dX6_popInto_7 rfl (by cases hf; rfl)
theorem oX6_popInto {l : Launch} {G : GT} {q_a1 q_a1_muleBeats q_a1_muleFrom q_a1_muleTo q_a1_slow q_a1_struck q_a0 q_a0_states : Nat} {pad : Nat → Nat → Nat} {size : Int32} {S : Nat → SC} {v_a1_strokes v_a1_beat v_a1_place v_a1_fog v_a1_deaf v_a1_mules : Int32} {m_a1_muleBeats m_a1_muleFrom m_a1_muleTo m_a1_slow m_a1_struck : Nat → Int32} {out : Int32 × SC} (hf : fX6_popInto size S v_a1_strokes v_a1_beat v_a1_place v_a1_fog v_a1_deaf v_a1_mules m_a1_muleBeats m_a1_muleFrom m_a1_muleTo m_a1_slow m_a1_struck = some out) : Ct (l, G, kX6_popInto, wX6_push G q_a1 q_a1_muleBeats q_a1_muleFrom q_a1_muleTo q_a1_slow q_a1_struck q_a0 q_a0_states pad size S v_a1_strokes v_a1_beat v_a1_place v_a1_fog v_a1_deaf v_a1_mules m_a1_muleBeats m_a1_muleFrom m_a1_muleTo m_a1_slow m_a1_struck, [.ref q_a0, .ref q_a1], qE none (wX6_push G q_a1 q_a1_muleBeats q_a1_muleFrom q_a1_muleTo q_a1_slow q_a1_struck q_a0 q_a0_states pad out.1 S out.2.1 out.2.2.1 out.2.2.2.1 out.2.2.2.2.1 out.2.2.2.2.2.1 out.2.2.2.2.2.2.1 out.2.2.2.2.2.2.2.1 out.2.2.2.2.2.2.2.2.1 out.2.2.2.2.2.2.2.2.2.1 out.2.2.2.2.2.2.2.2.2.2.1 out.2.2.2.2.2.2.2.2.2.2.2)) :=
  Ct.of [some (.ref q_a0), some (.ref q_a1)] kX6_popInto_p rfl rfl rfl (tX6_popInto_0 (X := (l, G, kX6_popInto, wX6_push G q_a1 q_a1_muleBeats q_a1_muleFrom q_a1_muleTo q_a1_slow q_a1_struck q_a0 q_a0_states pad size S v_a1_strokes v_a1_beat v_a1_place v_a1_fog v_a1_deaf v_a1_mules m_a1_muleBeats m_a1_muleFrom m_a1_muleTo m_a1_slow m_a1_struck, [.ref q_a0, .ref q_a1], qE none (wX6_push G q_a1 q_a1_muleBeats q_a1_muleFrom q_a1_muleTo q_a1_slow q_a1_struck q_a0 q_a0_states pad out.1 S out.2.1 out.2.2.1 out.2.2.2.1 out.2.2.2.2.1 out.2.2.2.2.2.1 out.2.2.2.2.2.2.1 out.2.2.2.2.2.2.2.1 out.2.2.2.2.2.2.2.2.1 out.2.2.2.2.2.2.2.2.2.1 out.2.2.2.2.2.2.2.2.2.2.1 out.2.2.2.2.2.2.2.2.2.2.2))) rfl rfl hf)
