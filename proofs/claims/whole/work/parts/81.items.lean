/-! ===== pure: an item, read by both ===== -/
def RI (N t : Nat) (tx : Nat → Int32) (B : B70T) (l1 x n0 tk pc vl told : Int32) (deaf len many slow : Nat → Int32) : V18 := Option.bind (fX12_readsItem N x (nI t) n0 tk pc vl (-1) told deaf len many slow tx) fun o118 => fX12_valley_121 B N l1 (nI t) o118.1 o118.2.1 o118.2.2.1 o118.2.2.2.1 o118.2.2.2.2.1 o118.2.2.2.2.2.1 o118.2.2.2.2.2.2.1 o118.2.2.2.2.2.2.2.1 o118.2.2.2.2.2.2.2.2.1 o118.2.2.2.2.2.2.2.2.2 tx
theorem sub1_lt {n x : Nat} (hn : n ≤ 6) (hx : x ≤ 20) (h : ¬ nI n - (1 : Int32) < nI x) : x < n := by
  rcases Nat.lt_or_ge x n with q | q
  · exact q
  · exfalso
    apply h
    rw [i_lt, show (1 : Int32) = nI 1 from rfl, pk_sub_toInt (by omega) (by omega), nI_toInt (by omega)]
    omega
theorem keepV (deaf len many slow : Nat → Int32) (n : Nat) (a b c : Int32) : Keep deaf len many slow (upd deaf (6 + n) a) len (upd many 3 b) (upd slow (6 + n) c) := ⟨fun j hj => upd_ne (by omega), fun _ _ => rfl, fun j hj => ⟨upd_ne (by omega), upd_ne (by omega)⟩⟩
theorem item_v {N : Nat} (hN : 400 ≤ N) {t : Nat} {C : Nat → Nat} {lt tx : Nat → Int32} (h : TX t C lt tx) {s : Nat} {n0 tk pc vl : Int32} (hr : RSt N t lt tx s n0 tk pc vl) {v : AV} {rt st : Bool} {cn cd cr cs crt cst : Int32} {sl wy : Nat → Int32} (hd : DC v rt st cn cd cr cs crt cst sl wy) {told : Int32} {deaf len many slow : Nat → Int32} (hf : DF v rt st told deaf len many slow) (ho : OkD v) (hn6 : vN v < 6) (pl0 tk0 num : Int32) (B : B70T) (l1 : Int32) :
    (∃ q o, q ≤ t ∧ fX8_readVillage N (nI t) pl0 (nI s) tk0 num lt cn cd sl = some o ∧ o.1 = 0 ∧ o.2.1 = nI q ∧ FltB B l1 deaf len many slow q (RI N t tx B l1 118 n0 tk pc vl told deaf len many slow)) ∨
    (∃ v' e o, s < e ∧ e ≤ t ∧ fX8_readVillage N (nI t) pl0 (nI s) tk0 num lt cn cd sl = some o ∧ o.1 = 1 ∧ o.2.2.1 = nI e ∧ DC v' rt st o.2.2.2.2.2.1 o.2.2.2.2.2.2.1 cr cs crt cst o.2.2.2.2.2.2.2 wy ∧ OkB N t lt tx B l1 deaf len many slow v' rt st e (RI N t tx B l1 118 n0 tk pc vl told deaf len many slow)) := by
  obtain ⟨d1, ⟨D, hD, d2, d3⟩, d4, d5, d6, d7, d8, d9⟩ := hd
  obtain ⟨f1, f2, f3, f4, f5, f6⟩ := hf
  have ht := h.1
  have i6 : (6 : Int32) + nI (vN v) = nI (6 + vN v) := by simp only [litI, nI_add]
  unfold RI fX8_readVillage fX12_readsItem fX12_readsItem_237
  rw [d1, d2, if_pos (show nI (vN v) < (6 : Int32) from nI_lt (b := 6) hn6 (by omega)), if_pos (show (118 : Int32) = 118 from rfl), f2, i6]
  rcases numS hN h hr 0 9 num with ⟨x1, e1, n1, t1, p1, v1, a1, a2, a3, a4, a5, a6, a7, a8, a9, a10, a11, a12⟩ | ⟨q, a, b, c, a1, a2, a3, a4, a5⟩
  · rw [a6, a11]
    simp only [ob_some, if_neg ne10, wri_at (j := 6 + vN v) rfl (show 6 + vN v < 12 by omega) (by omega : (12 : Nat) < 2 ^ 31), lti_eq, nI_1]
    rcases numS hN h a12 0 1 (nI x1) with ⟨x2, e2, n2, t2, p2, v2, b1, b2, b3, b4, b5, b6, b7, b8, b9, b10, b11, b12⟩ | ⟨q, a, b, c, b1, b2, b3, b4, b5⟩
    · rw [b6, b11]
      simp only [ob_some, if_neg ne10]
      have hx2 : x2 ≤ 1 := by
        rcases Nat.lt_or_ge 1 x2 with q | q
        · exact absurd (show (1 : Int32) < nI x2 from nI_lt (a := 1) q (by omega)) b3
        · exact q
      have hx1 : x1 ≤ 9 := by
        rcases Nat.lt_or_ge 9 x1 with q | q
        · exact absurd (show (9 : Int32) < nI x1 from nI_lt (a := 9) q (by omega)) a3
        · exact q
      obtain ⟨E, g1, g2, g3⟩ := bor hD hn6 hx2
      unfold fX9_addVillage
      rw [if_pos (show nI (vN v) < (6 : Int32) from nI_lt (b := 6) hn6 (by omega)), wri_at (j := vN v) rfl hn6 (by omega), lti_eq, lti_eq, nI_1, g2, ob_some]
      rcases v121S hN h b12 (nI x2) B l1 told (upd deaf (6 + vN v) (nI x2)) len (upd many 3 (nI (vN v + 1))) (upd slow (6 + vN v) (nI x1)) with ⟨e3, n3, t3, p3, v3, c, d, k1, k2, k3, k4, k5⟩ | ⟨q, a, b, c, k1, k2, k3, k4⟩
      · right
        refine ⟨(vN v + 1, vR v, vS v, vW v, (fun y => if y = vN v then x1 else vL v y), (fun y => if y = vN v then decide (x2 = 1) else vD v y)), e3, (1, p2, nI e3, c, d, nI (vN v + 1), nI E, upd sl (vN v) (nI x1)), by omega, k2, ?_, rfl, rfl, ?_, ?_⟩
        · rw [k3, ob_some, bz1]
        · refine ⟨rfl, ⟨E, g1, rfl, fun y hy => ?_⟩, d4, d5, d6, d7, fun y hy => ?_, d9⟩
          · show E.testBit y = if y = vN v then decide (x2 = 1) else vD v y
            rw [g3 y hy, d3 y hy]
            by_cases q : y = vN v
            · rw [if_pos q, decide_eq_true q, ho.2.2.2.2.2.2.2.2 y (by omega), Bool.false_or, Bool.true_and]
            · rw [if_neg q, decide_eq_false q, Bool.false_and, Bool.or_false]
          · show upd sl (vN v) (nI x1) y = nI (if y < vN v + 1 then (if y = vN v then x1 else vL v y) else 0)
            by_cases q : y = vN v
            · rw [upd_eq q, if_pos (by omega), if_pos q]
            · rw [upd_ne q, d8 y hy, if_neg q]
              by_cases q2 : y < vN v
              · rw [if_pos q2, if_pos (by omega)]
              · rw [if_neg q2, if_neg (by omega)]
        · refine ⟨n3, t3, p3, v3, _, _, _, _, _, k4, keepV _ _ _ _ _ _ _ _, k5, ⟨f1, upd_eq rfl, (upd_ne (by omega)).trans f3, (upd_ne (by omega)).trans f4, fun y hy => ?_, f6⟩, ?_⟩
          · show upd slow (6 + vN v) (nI x1) (6 + y) = nI (if y = vN v then x1 else vL v y) ∧ upd deaf (6 + vN v) (nI x2) (6 + y) = if (if y = vN v then decide (x2 = 1) else vD v y) = true then 1 else 0
            have hy' : y < vN v + 1 := hy
            by_cases q : y = vN v
            · rw [upd_eq (by omega), upd_eq (by omega), if_pos q, if_pos q]
              refine ⟨rfl, ?_⟩
              rcases (show x2 = 0 ∨ x2 = 1 by omega) with rfl | rfl <;> rfl
            · rw [upd_ne (by omega), upd_ne (by omega), if_neg q, if_neg q]
              exact f5 y (by omega)
          · obtain ⟨o1, o2, o3, o4, o5, o6, o7, o8, o9⟩ := ho
            refine ⟨hn6, o2, o3, ?_, o5, o6, o7, fun y => ?_, fun y hy => ?_⟩
            · show vS v < vN v + 1 ∨ vS v = 0
              omega
            · show (if y = vN v then x1 else vL v y) ≤ 9
              have := o8 y
              split <;> omega
            · show (if y = vN v then decide (x2 = 1) else vD v y) = false
              have hy' : vN v + 1 ≤ y := hy
              rw [if_neg (by omega)]
              exact o9 y (by omega)
      · left
        refine ⟨q, (0, p2, a, b, c, nI (vN v + 1), nI E, upd sl (vN v) (nI x1)), k1, ?_, rfl, k2, ?_⟩
        · rw [k3, ob_some, bz0]
        · exact ⟨n2, t2, p2, v2, _, _, _, _, _, k4, keepV _ _ _ _ _ _ _ _⟩
    · left
      subst b2
      rw [b5, b3]
      refine ⟨q, (0, nI q, a, b, c, nI (vN v), nI D, sl), b1, ?_, rfl, rfl, ?_⟩
      · simp only [ob_some, if_true]
      · simp only [ob_some]
        rw [v121F (by omega)]
        exact ⟨_, _, _, _, _, _, _, _, _, rfl, keepV _ _ _ _ _ _ _ _⟩
  · left
    subst a2
    rw [a3, a5]
    refine ⟨q, (0, nI q, a, b, c, nI (vN v), nI D, sl), a1, ?_, rfl, rfl, ?_⟩
    · simp only [ob_some, if_true]
    · simp only [ob_some, wri_at (j := 6 + vN v) rfl (show 6 + vN v < 12 by omega) (by omega : (12 : Nat) < 2 ^ 31), lti_eq, numF (show q ≤ 200 by omega)]
      rw [v121F (by omega)]
      exact ⟨_, _, _, _, _, _, _, _, _, rfl, keepV _ _ _ _ _ _ _ _⟩
theorem told1 (st : Bool) : nI ((if false = true then 1 else 0) + (if st = true then 2 else 0)) ||| (1 : Int32) = nI ((if true = true then 1 else 0) + (if st = true then 2 else 0)) := by
  cases st <;> decide
theorem told2 (rt : Bool) : nI ((if rt = true then 1 else 0) + (if false = true then 2 else 0)) ||| (2 : Int32) = nI ((if rt = true then 1 else 0) + (if true = true then 2 else 0)) := by
  cases rt <;> decide
theorem keepM (deaf len many slow : Nat → Int32) (n : Nat) (hn : 3 ≤ n) (b : Int32) : Keep deaf len many slow deaf len (upd many n b) slow := ⟨fun j hj => upd_ne (by omega), fun _ _ => rfl, fun j hj => ⟨rfl, rfl⟩⟩
theorem item_r {N : Nat} (hN : 400 ≤ N) {t : Nat} {C : Nat → Nat} {lt tx : Nat → Int32} (h : TX t C lt tx) {s : Nat} {n0 tk pc vl : Int32} (hr : RSt N t lt tx s n0 tk pc vl) {v : AV} {st : Bool} {cn cd cr cs crt cst : Int32} {sl wy : Nat → Int32} (hd : DC v false st cn cd cr cs crt cst sl wy) {told : Int32} {deaf len many slow : Nat → Int32} (hf : DF v false st told deaf len many slow) (ho : OkD v) (pl0 tk0 num : Int32) (B : B70T) (l1 : Int32) :
    (∃ q o, q ≤ t ∧ fX8_readReach N (nI t) pl0 (nI s) tk0 num lt cr crt = some o ∧ o.1 = 0 ∧ o.2.1 = nI q ∧ FltB B l1 deaf len many slow q (RI N t tx B l1 114 n0 tk pc vl told deaf len many slow)) ∨
    (∃ v' e o, s < e ∧ e ≤ t ∧ fX8_readReach N (nI t) pl0 (nI s) tk0 num lt cr crt = some o ∧ o.1 = 1 ∧ o.2.2.1 = nI e ∧ DC v' true st cn cd o.2.2.2.2.2.1 cs o.2.2.2.2.2.2 cst sl wy ∧ OkB N t lt tx B l1 deaf len many slow v' true st e (RI N t tx B l1 114 n0 tk pc vl told deaf len many slow)) := by
  obtain ⟨d1, d2, d4, d5, d6, d7, d8, d9⟩ := hd
  obtain ⟨f1, f2, f3, f4, f5, f6⟩ := hf
  have ht := h.1
  unfold RI fX8_readReach fX8_readReach_17 fX12_readsItem fX12_readsItem_237
  rw [d6, if_pos (show fl false = 0 from rfl), if_neg (show ¬ (114 : Int32) = 118 by decide), if_neg (show ¬ (114 : Int32) = 101 by decide), if_pos (show (114 : Int32) = 114 from rfl)]
  rcases numS hN h hr 1 20 num with ⟨x1, e1, n1, t1, p1, v1, a1, a2, a3, a4, a5, a6, a7, a8, a9, a10, a11, a12⟩ | ⟨q, a, b, c, a1, a2, a3, a4, a5⟩
  · rw [a6, a11]
    simp only [ob_some, if_neg ne10, lti_eq]
    have hx1 : 1 ≤ x1 := by
      rcases Nat.lt_or_ge x1 1 with q | q
      · exact absurd (show nI x1 < (1 : Int32) from nI_lt (b := 1) q (by omega)) a2
      · exact q
    rcases v121S hN h a12 (nI x1) B l1 (told ||| 1) deaf len (upd many 4 (nI x1)) slow with ⟨e3, n3, t3, p3, v3, c, d, k1, k2, k3, k4, k5⟩ | ⟨q, a, b, c, k1, k2, k3, k4⟩
    · right
      refine ⟨(vN v, x1, vS v, vW v, vL v, vD v), e3, (1, p1, nI e3, c, d, nI x1, 1), by omega, k2, ?_, rfl, rfl, ⟨d1, d2, rfl, d5, rfl, d7, d8, d9⟩, ?_⟩
      · rw [k3, ob_some, bz1]
      · refine ⟨n3, t3, p3, v3, _, _, _, _, _, k4, keepM _ _ _ _ _ (by omega) _, k5, ⟨?_, (upd_ne (by omega)).trans f2, upd_eq rfl, (upd_ne (by omega)).trans f4, f5, f6⟩, ?_⟩
        · rw [f1]
          exact told1 st
        · obtain ⟨o1, o2, o3, o4, o5, o6, o7, o8, o9⟩ := ho
          exact ⟨o1, hx1, a1, o4, o5, o6, o7, o8, o9⟩
    · left
      refine ⟨q, (0, p1, a, b, c, nI x1, 1), k1, ?_, rfl, k2, ?_⟩
      · rw [k3, ob_some, bz0]
      · exact ⟨n1, t1, p1, v1, _, _, _, _, _, k4, keepM _ _ _ _ _ (by omega) _⟩
  · left
    subst a2
    rw [a3, a5]
    refine ⟨q, (0, nI q, a, b, c, cr, fl false), a1, ?_, rfl, rfl, ?_⟩
    · simp only [ob_some, if_true]
    · simp only [ob_some, lti_eq]
      rw [v121F (by omega)]
      exact ⟨_, _, _, _, _, _, _, _, _, rfl, keepM _ _ _ _ _ (by omega) _⟩
theorem item_s {N : Nat} (hN : 400 ≤ N) {t : Nat} {C : Nat → Nat} {lt tx : Nat → Int32} (h : TX t C lt tx) {s : Nat} {n0 tk pc vl : Int32} (hr : RSt N t lt tx s n0 tk pc vl) {v : AV} {rt : Bool} {cn cd cr cs crt cst : Int32} {sl wy : Nat → Int32} (hd : DC v rt false cn cd cr cs crt cst sl wy) {told : Int32} {deaf len many slow : Nat → Int32} (hf : DF v rt false told deaf len many slow) (ho : OkD v) (pl0 tk0 num : Int32) (B : B70T) (l1 : Int32) :
    (∃ q o, q ≤ t ∧ fX8_readStart N (nI t) pl0 (nI s) tk0 num lt cn cs cst = some o ∧ o.1 = 0 ∧ o.2.1 = nI q ∧ FltB B l1 deaf len many slow q (RI N t tx B l1 115 n0 tk pc vl told deaf len many slow)) ∨
    (∃ v' e o, s < e ∧ e ≤ t ∧ fX8_readStart N (nI t) pl0 (nI s) tk0 num lt cn cs cst = some o ∧ o.1 = 1 ∧ o.2.2.1 = nI e ∧ DC v' rt true cn cd cr o.2.2.2.2.2.1 crt o.2.2.2.2.2.2 sl wy ∧ OkB N t lt tx B l1 deaf len many slow v' rt true e (RI N t tx B l1 115 n0 tk pc vl told deaf len many slow)) := by
  obtain ⟨d1, d2, d4, d5, d6, d7, d8, d9⟩ := hd
  obtain ⟨f1, f2, f3, f4, f5, f6⟩ := hf
  have ht := h.1
  unfold RI fX8_readStart fX8_readStart_21 fX12_readsItem fX12_readsItem_237
  rw [d7, if_pos (show fl false = 0 from rfl), if_neg (show ¬ (115 : Int32) = 118 by decide), if_neg (show ¬ (115 : Int32) = 101 by decide), if_neg (show ¬ (115 : Int32) = 114 by decide), d1, f2]
  rcases numS hN h hr 0 (nI (vN v) - 1) num with ⟨x1, e1, n1, t1, p1, v1, a1, a2, a3, a4, a5, a6, a7, a8, a9, a10, a11, a12⟩ | ⟨q, a, b, c, a1, a2, a3, a4, a5⟩
  · rw [a6, a11]
    simp only [ob_some, if_neg ne10, lti_eq]
    have hx1 : x1 < vN v := sub1_lt ho.1 a1 a3
    rcases v121S hN h a12 (nI x1) B l1 (told ||| 2) deaf len (upd many 5 (nI x1)) slow with ⟨e3, n3, t3, p3, v3, c, d, k1, k2, k3, k4, k5⟩ | ⟨q, a, b, c, k1, k2, k3, k4⟩
    · right
      refine ⟨(vN v, vR v, x1, vW v, vL v, vD v), e3, (1, p1, nI e3, c, d, nI x1, 1), by omega, k2, ?_, rfl, rfl, ⟨rfl, d2, d4, rfl, d6, rfl, d8, d9⟩, ?_⟩
      · rw [k3, ob_some, bz1]
      · refine ⟨n3, t3, p3, v3, _, _, _, _, _, k4, keepM _ _ _ _ _ (by omega) _, k5, ⟨?_, (upd_ne (by omega)).trans f2, (upd_ne (by omega)).trans f3, upd_eq rfl, f5, f6⟩, ?_⟩
        · rw [f1]
          exact told2 rt
        · obtain ⟨o1, o2, o3, o4, o5, o6, o7, o8, o9⟩ := ho
          exact ⟨o1, o2, o3, Or.inl hx1, o5, o6, o7, o8, o9⟩
    · left
      refine ⟨q, (0, p1, a, b, c, nI x1, 1), k1, ?_, rfl, k2, ?_⟩
      · rw [k3, ob_some, bz0]
      · exact ⟨n1, t1, p1, v1, _, _, _, _, _, k4, keepM _ _ _ _ _ (by omega) _⟩
  · left
    subst a2
    rw [a3, a5]
    refine ⟨q, (0, nI q, a, b, c, cs, fl false), a1, ?_, rfl, rfl, ?_⟩
    · simp only [ob_some, if_true]
    · simp only [ob_some, lti_eq]
      rw [v121F (by omega)]
      exact ⟨_, _, _, _, _, _, _, _, _, rfl, keepM _ _ _ _ _ (by omega) _⟩
theorem r121F {N t q : Nat} (hq : q ≤ 200) (l2 s1 n0 tk pc vl told : Int32) (deaf len many slow tx : Nat → Int32) : fX12_readsItem_121 N l2 s1 (nI t) n0 tk pc vl (nI q) told deaf len many slow tx = some (n0, tk, pc, vl, nI q, told, deaf, len, many, slow) := by
  unfold fX12_readsItem_121 fX12_readsItem_173 fX12_readsItem_237
  simp only [takesF hq, ob_some, numF hq, isW0 hq, if_true]
theorem r121N {N t q : Nat} (hq : q ≤ 200) (l2 n0 tk vl told : Int32) (deaf len many slow tx : Nat → Int32) : fX12_readsItem_121 N l2 0 (nI t) n0 tk (nI q) vl (-1) told deaf len many slow tx = some (n0, tk, nI q, vl, nI q, told, deaf, len, many, slow) := by
  unfold fX12_readsItem_121 fX12_readsItem_173 fX12_readsItem_237
  simp only [takesN, ob_some, numF hq, isW0 hq, if_true]
def setW (W : Nat → Nat → Nat) (x1 x2 x3 : Nat) : Nat → Nat → Nat := fun a b => if (a = x1 ∧ b = x2) ∨ (a = x2 ∧ b = x1) then x3 else W a b
theorem item_e {N : Nat} (hN : 400 ≤ N) {t : Nat} {C : Nat → Nat} {lt tx : Nat → Int32} (h : TX t C lt tx) {s : Nat} {n0 tk pc vl : Int32} (hr : RSt N t lt tx s n0 tk pc vl) {v : AV} {rt st : Bool} {cn cd cr cs crt cst : Int32} {sl wy : Nat → Int32} (hd : DC v rt st cn cd cr cs crt cst sl wy) {told : Int32} {deaf len many slow : Nat → Int32} (hf : DF v rt st told deaf len many slow) (ho : OkD v) (num : Int32) (B : B70T) (l1 : Int32) :
    (∃ q o, q ≤ t ∧ fX8_readWay N (nI t) (nI s) num lt cn wy = some o ∧ o.1 = 0 ∧ o.2.1 = nI q ∧ FltB B l1 deaf len many slow q (RI N t tx B l1 101 n0 tk pc vl told deaf len many slow)) ∨
    (∃ v' e o, s < e ∧ e ≤ t ∧ fX8_readWay N (nI t) (nI s) num lt cn wy = some o ∧ o.1 = 1 ∧ o.2.2.1 = nI e ∧ DC v' rt st cn cd cr cs crt cst sl o.2.2.2.2.2 ∧ OkB N t lt tx B l1 deaf len many slow v' rt st e (RI N t tx B l1 101 n0 tk pc vl told deaf len many slow)) := by
  obtain ⟨d1, d2, d4, d5, d6, d7, d8, d9⟩ := hd
  obtain ⟨f1, f2, f3, f4, f5, f6⟩ := id hf
  have ht := h.1
  have hn := ho.1
  unfold RI fX8_readWay fX8_readWay_43 fX12_readsItem fX12_readsItem_120
  rw [if_neg (show ¬ (101 : Int32) = 118 by decide), if_pos (show (101 : Int32) = 101 from rfl), d1, f2]
  rcases numS hN h hr 0 (nI (vN v) - 1) num with ⟨x1, e1, n1, t1, p1, v1, a1, a2, a3, a4, a5, a6, a7, a8, a9, a10, a11, a12⟩ | ⟨q, a, b, c, a1, a2, a3, a4, a5⟩
  · rw [a6, a11]
    simp only [ob_some, if_neg ne10]
    have hx1 : x1 < vN v := sub1_lt hn a1 a3
    obtain ⟨pq, ee, kk, xx, hLx, -, -, hpq, -⟩ := id a12
    have hpq2 : pq ≤ t := hLx.2.2.1
    rcases numS hN h a12 0 (nI (vN v) - 1) (nI x1) with ⟨x2, e2, n2, t2, p2, v2, b1, b2, b3, b4, b5, b6, b7, b8, b9, b10, b11, b12⟩ | ⟨q, a, b, c, b1, b2, b3, b4, b5⟩
    · have hx2 : x2 < vN v := sub1_lt hn b1 b3
      rw [b6, if_pos b7, b9]
      simp only [ob_some, if_neg ne10]
      rw [b8]
      by_cases hxx : x2 = x1
      · left
        subst hpq
        rw [hxx, if_pos (show nI x1 = nI x1 from rfl), if_pos (show nI x1 = nI x1 from rfl), r121N (by omega), ob_some]
        refine ⟨pq, (0, nI pq, nI e2, 2, nI x1, wy), hpq2, rfl, rfl, rfl, ?_⟩
        simp only
        rw [v121F (by omega)]
        exact ⟨_, _, _, _, _, _, _, _, _, rfl, Keep_refl _ _ _ _⟩
      · rw [if_neg (nI_ne (by omega) (by omega) hxx), if_neg (nI_ne (by omega) (by omega) hxx)]
        unfold fX12_readsItem_121 fX12_readsItem_173 fX12_readsItem_237
        rw [b8] at b10
        rw [b10]
        simp only [ob_some]
        rcases numS hN h b12 1 9 (nI x2) with ⟨x3, e3, n3, t3, p3, v3, c1, c2, c3, c4, c5, c6, c7, c8, c9, c10, c11, c12⟩ | ⟨q, a, b, c, c1, c2, c3, c4, c5⟩
        · have hx3 : x3 ≤ 9 := by
            rcases Nat.lt_or_ge 9 x3 with q | q
            · exact absurd (show (9 : Int32) < nI x3 from nI_lt (a := 9) q (by omega)) c3
            · exact q
          have i1 : nI x1 * (6 : Int32) + nI x2 = nI (6 * x1 + x2) := by simp only [litI, pk_mul, nI_add]; congr 1; omega
          have i2 : nI x2 * (6 : Int32) + nI x1 = nI (6 * x2 + x1) := by simp only [litI, pk_mul, nI_add]; congr 1; omega
          have i3 : (36 : Int32) + (6 : Int32) * nI x1 + nI x2 = nI (36 + 6 * x1 + x2) := by simp only [litI, pk_mul, nI_add]
          have i4 : (36 : Int32) + (6 : Int32) * nI x2 + nI x1 = nI (36 + 6 * x2 + x1) := by simp only [litI, pk_mul, nI_add]
          unfold fX9_addWay
          rw [c6, c11]
          simp only [ob_some, isW1, if_neg ne10, i1, i2, i3, i4, wri_at (j := 6 * x1 + x2) rfl (show 6 * x1 + x2 < 36 by omega) (by omega : (36 : Nat) < 2 ^ 31), wri_at (j := 6 * x2 + x1) rfl (show 6 * x2 + x1 < 36 by omega) (by omega : (36 : Nat) < 2 ^ 31), wri_at (j := 36 + 6 * x1 + x2) rfl (show 36 + 6 * x1 + x2 < 72 by omega) (by omega : (72 : Nat) < 2 ^ 31), wri_at (j := 36 + 6 * x2 + x1) rfl (show 36 + 6 * x2 + x1 < 72 by omega) (by omega : (72 : Nat) < 2 ^ 31)]
          have hkeep : Keep deaf len many slow deaf (upd (upd len (36 + 6 * x1 + x2) (nI x3)) (36 + 6 * x2 + x1) (nI x3)) many slow := ⟨fun _ _ => rfl, fun j hj => by rw [upd_ne (by omega), upd_ne (by omega)], fun _ _ => ⟨rfl, rfl⟩⟩
          rcases v121S hN h c12 (nI x3) B l1 told deaf (upd (upd len (36 + 6 * x1 + x2) (nI x3)) (36 + 6 * x2 + x1) (nI x3)) many slow with ⟨e4, n4, t4, p4, v4, c, d, k1, k2, k3, k4, k5⟩ | ⟨q, a, b, c, k1, k2, k3, k4⟩
          · right
            refine ⟨(vN v, vR v, vS v, setW (vW v) x1 x2 x3, vL v, vD v), e4, (1, p3, nI e4, c, d, upd (upd wy (6 * x1 + x2) (nI x3)) (6 * x2 + x1) (nI x3)), by omega, k2, ?_, rfl, rfl, ⟨rfl, d2, d4, d5, d6, d7, d8, fun y z hy hz => ?_⟩, ?_⟩
            · rw [k3, ob_some, bz1]
            · show upd (upd wy (6 * x1 + x2) (nI x3)) (6 * x2 + x1) (nI x3) (6 * y + z) = nI (if (y = x1 ∧ z = x2) ∨ (y = x2 ∧ z = x1) then x3 else vW v y z)
              by_cases q1 : y = x2 ∧ z = x1
              · rw [upd_eq (by omega), if_pos (Or.inr q1)]
              · rw [upd_ne (by omega)]
                by_cases q2 : y = x1 ∧ z = x2
                · rw [upd_eq (by omega), if_pos (Or.inl q2)]
                · rw [upd_ne (by omega), if_neg (fun q => q.elim q2 q1)]
                  exact d9 y z hy hz
            · refine ⟨n4, t4, p4, v4, _, _, _, _, _, k4, hkeep, k5, ⟨f1, f2, f3, f4, f5, fun y z hy hz => ?_⟩, ?_⟩
              · show upd (upd len (36 + 6 * x1 + x2) (nI x3)) (36 + 6 * x2 + x1) (nI x3) (36 + 6 * y + z) = nI (if (y = x1 ∧ z = x2) ∨ (y = x2 ∧ z = x1) then x3 else vW v y z)
                by_cases q1 : y = x2 ∧ z = x1
                · rw [upd_eq (by omega), if_pos (Or.inr q1)]
                · rw [upd_ne (by omega)]
                  by_cases q2 : y = x1 ∧ z = x2
                  · rw [upd_eq (by omega), if_pos (Or.inl q2)]
                  · rw [upd_ne (by omega), if_neg (fun q => q.elim q2 q1)]
                    exact f6 y z hy hz
              · obtain ⟨o1, o2, o3, o4, o5, o6, o7, o8, o9⟩ := ho
                refine ⟨o1, o2, o3, o4, fun y z => ?_, fun y => ?_, fun y z => ?_, o8, o9⟩
                · show setW (vW v) x1 x2 x3 y z = setW (vW v) x1 x2 x3 z y
                  unfold setW
                  by_cases q : (y = x1 ∧ z = x2) ∨ (y = x2 ∧ z = x1)
                  · rw [if_pos q, if_pos (q.elim (fun w => Or.inr ⟨w.2, w.1⟩) (fun w => Or.inl ⟨w.2, w.1⟩))]
                  · rw [if_neg q, if_neg (fun w => q (w.elim (fun w => Or.inr ⟨w.2, w.1⟩) (fun w => Or.inl ⟨w.2, w.1⟩)))]
                    exact o5 y z
                · show setW (vW v) x1 x2 x3 y y = 0
                  unfold setW
                  rw [if_neg (by omega)]
                  exact o6 y
                · show setW (vW v) x1 x2 x3 y z ≤ 9
                  unfold setW
                  have := o7 y z
                  split <;> omega
          · left
            refine ⟨q, (0, p3, a, b, c, upd (upd wy (6 * x1 + x2) (nI x3)) (6 * x2 + x1) (nI x3)), k1, ?_, rfl, k2, ?_⟩
            · rw [k3, ob_some, bz0]
            · exact ⟨n3, t3, p3, v3, _, _, _, _, _, k4, hkeep⟩
        · left
          subst c2
          rw [c3, c5]
          refine ⟨q, (0, nI q, a, b, c, wy), c1, ?_, rfl, rfl, ?_⟩
          · simp only [ob_some, if_true]
          · simp only [ob_some, isW0 (show q ≤ 200 by omega), if_true]
            rw [v121F (by omega)]
            exact ⟨_, _, _, _, _, _, _, _, _, rfl, Keep_refl _ _ _ _⟩
    · left
      subst b2
      have hz : (if t1 = (2 : Int32) then (Option.bind (fX12_in v1 (0 : Int32) (nI (vN v) - (1 : Int32))) fun o102 =>
  if o102 = 0 then (fX12_readsItem_121 N (nI x1) (0 : Int32) (nI t) n1 t1 (nI q) v1 (-1) told deaf len many slow tx)
  else (if v1 = nI x1 then (fX12_readsItem_121 N (nI x1) (0 : Int32) (nI t) n1 t1 (nI q) v1 (-1) told deaf len many slow tx)
  else (fX12_readsItem_121 N (nI x1) (1 : Int32) (nI t) n1 t1 (nI q) v1 (-1) told deaf len many slow tx)))
  else (fX12_readsItem_121 N (nI x1) (0 : Int32) (nI t) n1 t1 (nI q) v1 (-1) told deaf len many slow tx)) = some (n1, t1, nI q, v1, nI q, told, deaf, len, many, slow) := by
        by_cases w : t1 = 2
        · rw [if_pos w, b4.resolve_left (fun w2 => w2 w), ob_some, if_pos rfl]
          exact r121N (by omega) _ _ _ _ _ _ _ _ _ _
        · rw [if_neg w]
          exact r121N (by omega) _ _ _ _ _ _ _ _ _ _
      rw [hz, b3]
      refine ⟨q, (0, nI q, a, b, c, wy), b1, ?_, rfl, rfl, ?_⟩
      · simp only [ob_some, if_true]
      · simp only [ob_some]
        rw [v121F (by omega)]
        exact ⟨_, _, _, _, _, _, _, _, _, rfl, Keep_refl _ _ _ _⟩
  · left
    subst a2
    rw [a3, a5]
    refine ⟨q, (0, nI q, a, b, c, wy), a1, ?_, rfl, rfl, ?_⟩
    · simp only [ob_some, if_true]
    · simp only [ob_some, r121F (show q ≤ 200 by omega)]
      rcases in01 vl 0 (nI (vN v) - 1) with w | w
      · rw [w]
        simp only [ob_some, if_neg ne10, ite_self]
        rw [v121F (by omega)]
        exact ⟨_, _, _, _, _, _, _, _, _, rfl, Keep_refl _ _ _ _⟩
      · rw [w]
        simp only [ob_some, if_true, ite_self]
        rw [v121F (by omega)]
        exact ⟨_, _, _, _, _, _, _, _, _, rfl, Keep_refl _ _ _ _⟩
