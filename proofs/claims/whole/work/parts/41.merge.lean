/-! ===== a part of a told list, taken out and put back in its places ===== -/
def cel0 : Nat × va_E := (0, .inr (0, []))
def ixOf (l : List Nat) (k : Nat) : Option Nat := match l with
  | [] => none
  | a :: t => if a = k then some 0 else (ixOf t k).map (· + 1)
theorem ixOf_some : ∀ (l : List Nat) (k j : Nat), ixOf l k = some j → l[j]? = some k
  | [], k, j, h => by simp [ixOf] at h
  | a :: t, k, j, h => by
    unfold ixOf at h
    split at h
    · rename_i e
      cases h
      simp [e]
    · cases he : ixOf t k with
      | none => rw [he] at h; cases h
      | some i =>
        rw [he] at h
        cases h
        have := ixOf_some t k i he
        simpa using this
theorem ixOf_none : ∀ (l : List Nat) (k : Nat), ixOf l k = none → k ∉ l
  | [], k, _ => by simp
  | a :: t, k, h => by
    unfold ixOf at h
    split at h
    · cases h
    · rename_i e
      cases he : ixOf t k with
      | none =>
        have := ixOf_none t k he
        intro hm
        rcases List.mem_cons.mp hm with rfl | hm
        · exact e rfl
        · exact this hm
      | some i => rw [he] at h; cases h
def rstI (n : Nat) (isC : List Nat) : List Nat := (List.range n).filter (fun k => !(isC.elem k))
def rstW (wa : va_W) (isC : List Nat) : va_W := (rstI wa.length isC).map (fun k => wa.getD k cel0)
def mrg (wa : va_W) (isC : List Nat) (W1 : va_W) : va_W := (List.range wa.length).map (fun k => match ixOf isC k with | some j => W1.getD j cel0 | none => wa.getD k cel0)
theorem getD_some {wa : va_W} {k : Nat} (h : k < wa.length) : wa[k]? = some (wa.getD k cel0) := by
  rw [List.getD_eq_getElem?_getD, List.getElem?_eq_getElem h]
  rfl
theorem rstI_mem {n k : Nat} {isC : List Nat} : k ∈ rstI n isC ↔ k < n ∧ k ∉ isC := by
  simp [rstI, List.mem_filter]
theorem nd_of_nodup : ∀ (l : List Nat), l.Nodup → va_nd l = true
  | [], _ => rfl
  | a :: t, h => by
    have h := List.nodup_cons.mp h
    simp only [va_nd, Bool.and_eq_true, decide_eq_true_eq]
    exact ⟨h.1, nd_of_nodup t h.2⟩
theorem rstI_nd (n : Nat) (isC : List Nat) : va_nd (rstI n isC) = true := nd_of_nodup _ (List.nodup_range.filter _)
theorem rstW_idx (wa : va_W) (isC : List Nat) : (rstI wa.length isC).map (fun i => wa[i]?) = (rstW wa isC).map some := by
  unfold rstW
  rw [List.map_map]
  apply List.map_congr_left
  intro k hk
  exact getD_some (rstI_mem.mp hk).1
theorem SW.pick {wa wb W0 : va_W} (isC : List Nat) (hC : isC.map (fun i => wa[i]?) = W0.map some) (hn : va_nd isC = true) : SW (wa ++ wb) (W0 ++ (rstW wa isC ++ wb)) := by
  rw [← List.append_assoc]
  refine SW.app ?_ (SW.refl wb)
  intro A hD
  have h0 := (SW.idx isC hC hn) A hD
  have h1 := (SW.idx (rstI wa.length isC) (rstW_idx wa isC) (rstI_nd _ _)) A hD
  refine ⟨fun q hq => ?_, va_D.app h0.2 h1.2 (fun i j p q hi hj e => ?_)⟩
  · rcases List.mem_append.mp hq with h | h
    · exact h0.1 q h
    · exact h1.1 q h
  · -- p stands at a place of isC, q at another
    have a1 : (isC.map (fun i => wa[i]?))[i]? = some (some p) := by rw [hC, List.getElem?_map, hi]; rfl
    rw [List.getElem?_map] at a1
    have a2 : ((rstI wa.length isC).map (fun i => wa[i]?))[j]? = some (some q) := by rw [rstW_idx, List.getElem?_map, hj]; rfl
    rw [List.getElem?_map] at a2
    cases e1 : isC[i]? with
    | none => rw [e1] at a1; cases a1
    | some x =>
      cases e2 : (rstI wa.length isC)[j]? with
      | none => rw [e2] at a2; cases a2
      | some y =>
        rw [e1] at a1
        rw [e2] at a2
        have hx : wa[x]? = some p := Option.some.inj a1
        have hy : wa[y]? = some q := Option.some.inj a2
        have hxy := hD.1 x y p q hx hy e
        subst hxy
        exact (rstI_mem.mp (List.mem_of_getElem? e2)).2 (List.mem_of_getElem? e1)
theorem mrg_at {wa W1 : va_W} {isC : List Nat} {k : Nat} {q : Nat × va_E} (h : (mrg wa isC W1)[k]? = some q) : k < wa.length ∧ ((∃ j, isC[j]? = some k ∧ q = W1.getD j cel0) ∨ (k ∉ isC ∧ q = wa.getD k cel0)) := by
  unfold mrg at h
  rw [List.getElem?_map] at h
  have hk : k < wa.length := by
    by_cases hk : k < wa.length
    · exact hk
    · rw [List.getElem?_eq_none (by simpa using Nat.not_lt.mp hk)] at h
      cases h
  refine ⟨hk, ?_⟩
  rw [List.getElem?_range hk] at h
  simp only [Option.map_some, Option.some.injEq] at h
  cases he : ixOf isC k with
  | some j =>
    rw [he] at h
    exact Or.inl ⟨j, ixOf_some _ _ _ he, h.symm⟩
  | none =>
    rw [he] at h
    exact Or.inr ⟨ixOf_none _ _ he, h.symm⟩
theorem SW.back {wa wb W1 : va_W} (isC : List Nat) (hl : W1.length = isC.length) : SW (W1 ++ (rstW wa isC ++ wb)) (mrg wa isC W1 ++ wb) := by
  rw [← List.append_assoc]
  refine SW.app ?_ (SW.refl wb)
  intro A hD
  -- where a cell of the merged list stands in W1 ++ rest
  have key : ∀ (k : Nat) (q : Nat × va_E), (mrg wa isC W1)[k]? = some q → ∃ z, (W1 ++ rstW wa isC)[z]? = some q ∧ ((z < W1.length ∧ isC[z]? = some k) ∨ (W1.length ≤ z ∧ (rstI wa.length isC)[z - W1.length]? = some k)) := by
    intro k q hq
    obtain ⟨hk, h | h⟩ := mrg_at hq
    · obtain ⟨j, hj, rfl⟩ := h
      have hjl : j < W1.length := by rw [hl]; exact (List.getElem?_eq_some_iff.mp hj).1
      exact ⟨j, by rw [List.getElem?_append_left hjl]; exact getD_some hjl, Or.inl ⟨hjl, hj⟩⟩
    · obtain ⟨hn, rfl⟩ := h
      obtain ⟨j, hj⟩ := List.getElem?_of_mem (rstI_mem.mpr ⟨hk, hn⟩)
      refine ⟨W1.length + j, ?_, Or.inr ⟨by omega, by rw [Nat.add_sub_cancel_left]; exact hj⟩⟩
      rw [List.getElem?_append_right (by omega), Nat.add_sub_cancel_left]
      unfold rstW
      rw [List.getElem?_map, hj]
      rfl
  refine ⟨fun q hq => ?_, fun i j p q hi hj e => ?_, fun k q hk => ?_⟩
  · obtain ⟨k, hk⟩ := List.getElem?_of_mem hq
    obtain ⟨z, hz, -⟩ := key k q hk
    exact List.mem_of_getElem? hz
  · obtain ⟨z1, a1, b1⟩ := key i p hi
    obtain ⟨z2, a2, b2⟩ := key j q hj
    have hz := hD.1 z1 z2 p q a1 a2 e
    subst hz
    rcases b1 with ⟨l1, b1⟩ | ⟨l1, b1⟩ <;> rcases b2 with ⟨l2, b2⟩ | ⟨l2, b2⟩
    · exact Option.some.inj (b1.symm.trans b2)
    · omega
    · omega
    · exact Option.some.inj (b1.symm.trans b2)
  · obtain ⟨z, hz, -⟩ := key k q hk
    exact hD.2 z q hz
/-- the untold part is the callee's too -/
theorem SW.pickC {wa ch W0 : va_W} (isC : List Nat) (hC : isC.map (fun i => wa[i]?) = W0.map some) (hn : va_nd isC = true) : SW (wa ++ ch) ((W0 ++ ch) ++ rstW wa isC) := by
  refine SW.trans (SW.pick isC hC hn) ?_
  rw [List.append_assoc]
  exact SW.app (SW.refl W0) (SW.comm _ _)
theorem SW.backC {wa ch W1 : va_W} (isC : List Nat) (hl : W1.length = isC.length) : SW ((W1 ++ ch) ++ rstW wa isC) (mrg wa isC W1 ++ ch) := by
  refine SW.trans (b := W1 ++ (rstW wa isC ++ ch)) ?_ (SW.back isC hl)
  rw [List.append_assoc]
  exact SW.app (SW.refl W1) (SW.comm _ _)
