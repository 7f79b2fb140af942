theorem inX9 : ∀ w ∈ u_ws RX9 TX9 8, w ∈ gt := lays_in (fun k hk => match k, hk with | 0, _ => kw_1_81 | 1, _ => kw_1_83 | 2, _ => kw_1_85 | 3, _ => kw_1_87 | 4, _ => kw_1_89 | 5, _ => kw_1_91 | 6, _ => kw_1_93 | 7, _ => kw_1_95 | k + 8, hk => absurd hk (by omega))
theorem pk_X9_22_9 : Pk "FarDrum$Valley" 22 9 0 .int false := ⟨RX9, TX9, 8, "FarDrum$Valley", tyX9, rfl, inX9, by decide, kw_1_60, Or.inl rfl, tyX9_ok, nmX9, rfl, by decide +kernel, fun h => by cases h⟩
theorem pk_X9_25_9 : Pk "FarDrum$Valley" 25 9 1 .int false := ⟨RX9, TX9, 8, "FarDrum$Valley", tyX9, rfl, inX9, by decide, kw_1_65, Or.inl rfl, tyX9_ok, nmX9, rfl, by decide +kernel, fun h => by cases h⟩
theorem pk_X9_9_9 : Pk "FarDrum$Valley" 9 9 2 .int false := ⟨RX9, TX9, 8, "FarDrum$Valley", tyX9, rfl, inX9, by decide, kw_1_67, Or.inl rfl, tyX9_ok, nmX9, rfl, by decide +kernel, fun h => by cases h⟩
theorem pk_X9_28_9 : Pk "FarDrum$Valley" 28 9 3 .int false := ⟨RX9, TX9, 8, "FarDrum$Valley", tyX9, rfl, inX9, by decide, kw_1_70, Or.inl rfl, tyX9_ok, nmX9, rfl, by decide +kernel, fun h => by cases h⟩
theorem pk_X9_31_9 : Pk "FarDrum$Valley" 31 9 4 .boolean false := ⟨RX9, TX9, 8, "FarDrum$Valley", tyX9, rfl, inX9, by decide, kw_1_74, Or.inl rfl, tyX9_ok, nmX9, rfl, by decide +kernel, fun h => by cases h⟩
theorem pk_X9_35_9 : Pk "FarDrum$Valley" 35 9 5 .boolean false := ⟨RX9, TX9, 8, "FarDrum$Valley", tyX9, rfl, inX9, by decide, kw_1_76, Or.inl rfl, tyX9_ok, nmX9, rfl, by decide +kernel, fun h => by cases h⟩
theorem fk_X9_15_9 : Fk "FarDrum$Valley" 15 9 6 := ⟨RX9, TX9, 8, "FarDrum$Valley", rfl, inX9, by decide, kw_1_78, Or.inl rfl⟩
theorem fk_X9_19_9 : Fk "FarDrum$Valley" 19 9 7 := ⟨RX9, TX9, 8, "FarDrum$Valley", rfl, inX9, by decide, kw_1_80, Or.inl rfl⟩
def wX9_empty (G : GT) (q_a0 : Nat) (q_a0_slow : Nat) (q_a0_ways : Nat) (v_a0_villages : Int32) (v_a0_deaf : Int32) (v_a0_reach : Int32) (v_a0_start : Int32) (v_a0_reachTold : Int32) (v_a0_startTold : Int32) (m_a0_slow : Nat → Int32) (m_a0_ways : Nat → Int32) : va_W := [(q_a0, .inr (9, [.int v_a0_villages, .int v_a0_deaf, .int v_a0_reach, .int v_a0_start, .int v_a0_reachTold, .int v_a0_startTold, .ref q_a0_slow, .ref q_a0_ways])), (q_a0_slow, .inl (G.2 0, 6, .inl m_a0_slow)), (q_a0_ways, .inl (G.2 0, 36, .inl m_a0_ways))]
def kX9_empty : KT := (yX9_empty, cX9_empty, 2, none, 0, 0, 0)
theorem kX9_empty_r : kr kX9_empty = none ∧ kmc kX9_empty = 0 ∧ kms kX9_empty = 0 := ⟨rfl, rfl, rfl⟩
theorem kX9_empty_p : plainName (ky kX9_empty).cls = true := by decide +kernel
def fX9_empty_33 (B33 : Int32 → (Nat → Int32) → Option (Int32 × Int32 × Int32 × Int32 × Int32 × Int32 × (Nat → Int32) × (Nat → Int32))) (K33_52 : (Nat → Int32) → Option (Int32 × Int32 × Int32 × Int32 × Int32 × Int32 × (Nat → Int32) × (Nat → Int32))) (l1 : Int32) (m_a0_slow : Nat → Int32) : Option (Int32 × Int32 × Int32 × Int32 × Int32 × Int32 × (Nat → Int32) × (Nat → Int32)) :=
  if (6 : Int32) ≤ l1 then (K33_52 m_a0_slow)
  else (wri 6 m_a0_slow l1 (0 : Int32) fun g45 =>
  B33 (l1 + (1 : Int32)) g45)
def fX9_empty_L33 (K33_52 : (Nat → Int32) → Option (Int32 × Int32 × Int32 × Int32 × Int32 × Int32 × (Nat → Int32) × (Nat → Int32))) : Nat → Int32 → (Nat → Int32) → Option (Int32 × Int32 × Int32 × Int32 × Int32 × Int32 × (Nat → Int32) × (Nat → Int32))
  | 0, _, _ => none
  | n + 1, l1, m_a0_slow => fX9_empty_33 (fX9_empty_L33 K33_52 n) K33_52 l1 m_a0_slow
def fX9_empty_54 (B54 : Int32 → (Nat → Int32) → Option (Int32 × Int32 × Int32 × Int32 × Int32 × Int32 × (Nat → Int32) × (Nat → Int32))) (K54_76 : (Nat → Int32) → Option (Int32 × Int32 × Int32 × Int32 × Int32 × Int32 × (Nat → Int32) × (Nat → Int32))) (l1 : Int32) (m_a0_ways : Nat → Int32) : Option (Int32 × Int32 × Int32 × Int32 × Int32 × Int32 × (Nat → Int32) × (Nat → Int32)) :=
  if (36 : Int32) ≤ l1 then (K54_76 m_a0_ways)
  else (wri 36 m_a0_ways l1 (0 : Int32) fun g69 =>
  B54 (l1 + (1 : Int32)) g69)
def fX9_empty_L54 (K54_76 : (Nat → Int32) → Option (Int32 × Int32 × Int32 × Int32 × Int32 × Int32 × (Nat → Int32) × (Nat → Int32))) : Nat → Int32 → (Nat → Int32) → Option (Int32 × Int32 × Int32 × Int32 × Int32 × Int32 × (Nat → Int32) × (Nat → Int32))
  | 0, _, _ => none
  | n + 1, l1, m_a0_ways => fX9_empty_54 (fX9_empty_L54 K54_76 n) K54_76 l1 m_a0_ways
def fX9_empty (N : Nat) (m_a0_slow : Nat → Int32) (m_a0_ways : Nat → Int32) : Option (Int32 × Int32 × Int32 × Int32 × Int32 × Int32 × (Nat → Int32) × (Nat → Int32)) :=
  fX9_empty_L33
      (fun m_a0_slowk33_52 => fX9_empty_L54
      (fun m_a0_waysk54_76 => some ((0 : Int32), (0 : Int32), (20 : Int32), (0 : Int32), (0 : Int32), (0 : Int32), m_a0_slowk33_52, m_a0_waysk54_76)) N (0 : Int32) m_a0_ways) N (0 : Int32) m_a0_slow
section
variable {X : XT} {N : Nat} {q_a0 : Nat} {q_a0_slow : Nat} {q_a0_ways : Nat} {v_a0_villages : Int32} {v_a0_deaf : Int32} {v_a0_reach : Int32} {v_a0_start : Int32} {v_a0_reachTold : Int32} {v_a0_startTold : Int32} {m_a0_slow : Nat → Int32} {m_a0_ways : Nat → Int32} {l1 : Int32}
set_option maxRecDepth 20000 in
theorem tX9_empty_33 {out : Int32 × Int32 × Int32 × Int32 × Int32 × Int32 × (Nat → Int32) × (Nat → Int32)} (hX : xk X = kX9_empty) (hQ : xQ X = qE none (wX9_empty (xG X) q_a0 q_a0_slow q_a0_ways out.1 out.2.1 out.2.2.1 out.2.2.2.1 out.2.2.2.2.1 out.2.2.2.2.2.1 out.2.2.2.2.2.2.1 out.2.2.2.2.2.2.2)) {B33 : Int32 → (Nat → Int32) → Option (Int32 × Int32 × Int32 × Int32 × Int32 × Int32 × (Nat → Int32) × (Nat → Int32))} {K33_52 : (Nat → Int32) → Option (Int32 × Int32 × Int32 × Int32 × Int32 × Int32 × (Nat → Int32) × (Nat → Int32))} (hB33 : ∀ (l1 : Int32) (m_a0_slow : Nat → Int32), B33 l1 m_a0_slow = some out → V X cX9_empty "FarDrum$Valley" 0 0 (wX9_empty (xG X) q_a0 q_a0_slow q_a0_ways v_a0_villages v_a0_deaf v_a0_reach v_a0_start v_a0_reachTold v_a0_startTold m_a0_slow m_a0_ways) [some (.ref q_a0), some (.int l1)] 33 []) (hK33_52 : ∀ (m_a0_slow : Nat → Int32), K33_52 m_a0_slow = some out → V X cX9_empty "FarDrum$Valley" 0 0 (wX9_empty (xG X) q_a0 q_a0_slow q_a0_ways v_a0_villages v_a0_deaf v_a0_reach v_a0_start v_a0_reachTold v_a0_startTold m_a0_slow m_a0_ways) [some (.ref q_a0), none] 52 []) (hf : fX9_empty_33 B33 K33_52 l1 m_a0_slow = some out) : V X cX9_empty "FarDrum$Valley" 0 0 (wX9_empty (xG X) q_a0 q_a0_slow q_a0_ways v_a0_villages v_a0_deaf v_a0_reach v_a0_start v_a0_reachTold v_a0_startTold m_a0_slow m_a0_ways) [some (.ref q_a0), some (.int l1)] 33 [] := by
  unfold fX9_empty_33 at hf
  refine V.iloadn (pc := 33) dX9_empty_33 rfl ?_
  refine V.bipush (pc := 34) (v := 6) dX9_empty_34 (by decide) ?_
  refine V.icmp_ge (pc := 36) (tgt := 52) dX9_empty_36 (by decide) hf (fun hf => ?_) (fun hf => ?_)
  · refine V.mask (pc := 52) [true, false] rfl rfl ?_
    exact hK33_52 _ hf
  · refine V.aloadn (pc := 39) dX9_empty_39 rfl ?_
    refine V.getf (q := 0) (pc := 40) dX9_empty_40 fk_X9_15_9 rfl rfl ?_
    refine V.iloadn (pc := 43) dX9_empty_43 rfl ?_
    refine V.iconst (pc := 44) (v := 0) dX9_empty_44 (by decide) ?_
    refine V.iast (pc := 45) (q := 1) (wd' := fun g45 => wX9_empty (xG X) q_a0 q_a0_slow q_a0_ways v_a0_villages v_a0_deaf v_a0_reach v_a0_start v_a0_reachTold v_a0_startTold g45 m_a0_ways) dX9_empty_45 rfl hf (fun _ => rfl) (fun g45 hf => ?_)
    refine V.iinc (pc := 46) (v := 1) dX9_empty_46 rfl rfl (by decide) rfl ?_
    refine V.goto (pc := 49) (tgt := 33) dX9_empty_49 (by decide) ?_
    exact hB33 _ _ hf
theorem tX9_empty_L33 {out : Int32 × Int32 × Int32 × Int32 × Int32 × Int32 × (Nat → Int32) × (Nat → Int32)} (hX : xk X = kX9_empty) (hQ : xQ X = qE none (wX9_empty (xG X) q_a0 q_a0_slow q_a0_ways out.1 out.2.1 out.2.2.1 out.2.2.2.1 out.2.2.2.2.1 out.2.2.2.2.2.1 out.2.2.2.2.2.2.1 out.2.2.2.2.2.2.2)) {K33_52 : (Nat → Int32) → Option (Int32 × Int32 × Int32 × Int32 × Int32 × Int32 × (Nat → Int32) × (Nat → Int32))} (hK33_52 : ∀ (m_a0_slow : Nat → Int32), K33_52 m_a0_slow = some out → V X cX9_empty "FarDrum$Valley" 0 0 (wX9_empty (xG X) q_a0 q_a0_slow q_a0_ways v_a0_villages v_a0_deaf v_a0_reach v_a0_start v_a0_reachTold v_a0_startTold m_a0_slow m_a0_ways) [some (.ref q_a0), none] 52 []) : ∀ (n : Nat) (l1 : Int32) (m_a0_slow : Nat → Int32), fX9_empty_L33 K33_52 n l1 m_a0_slow = some out → V X cX9_empty "FarDrum$Valley" 0 0 (wX9_empty (xG X) q_a0 q_a0_slow q_a0_ways v_a0_villages v_a0_deaf v_a0_reach v_a0_start v_a0_reachTold v_a0_startTold m_a0_slow m_a0_ways) [some (.ref q_a0), some (.int l1)] 33 [] := by
  intro n
  induction n with
  | zero => intro l1 m_a0_slow hf; cases hf
  | succ n ih => intro l1 m_a0_slow hf; exact tX9_empty_33 hX hQ ih hK33_52 hf
set_option maxRecDepth 20000 in
theorem tX9_empty_54 {out : Int32 × Int32 × Int32 × Int32 × Int32 × Int32 × (Nat → Int32) × (Nat → Int32)} (hX : xk X = kX9_empty) (hQ : xQ X = qE none (wX9_empty (xG X) q_a0 q_a0_slow q_a0_ways out.1 out.2.1 out.2.2.1 out.2.2.2.1 out.2.2.2.2.1 out.2.2.2.2.2.1 out.2.2.2.2.2.2.1 out.2.2.2.2.2.2.2)) {B54 : Int32 → (Nat → Int32) → Option (Int32 × Int32 × Int32 × Int32 × Int32 × Int32 × (Nat → Int32) × (Nat → Int32))} {K54_76 : (Nat → Int32) → Option (Int32 × Int32 × Int32 × Int32 × Int32 × Int32 × (Nat → Int32) × (Nat → Int32))} (hB54 : ∀ (l1 : Int32) (m_a0_ways : Nat → Int32), B54 l1 m_a0_ways = some out → V X cX9_empty "FarDrum$Valley" 0 0 (wX9_empty (xG X) q_a0 q_a0_slow q_a0_ways v_a0_villages v_a0_deaf v_a0_reach v_a0_start v_a0_reachTold v_a0_startTold m_a0_slow m_a0_ways) [some (.ref q_a0), some (.int l1)] 54 []) (hK54_76 : ∀ (m_a0_ways : Nat → Int32), K54_76 m_a0_ways = some out → V X cX9_empty "FarDrum$Valley" 0 0 (wX9_empty (xG X) q_a0 q_a0_slow q_a0_ways v_a0_villages v_a0_deaf v_a0_reach v_a0_start v_a0_reachTold v_a0_startTold m_a0_slow m_a0_ways) [none, none] 76 []) (hf : fX9_empty_54 B54 K54_76 l1 m_a0_ways = some out) : V X cX9_empty "FarDrum$Valley" 0 0 (wX9_empty (xG X) q_a0 q_a0_slow q_a0_ways v_a0_villages v_a0_deaf v_a0_reach v_a0_start v_a0_reachTold v_a0_startTold m_a0_slow m_a0_ways) [some (.ref q_a0), some (.int l1)] 54 [] := by
  unfold fX9_empty_54 at hf
  refine V.iloadn (pc := 54) dX9_empty_54 rfl ?_
  refine V.aloadn (pc := 55) dX9_empty_55 rfl ?_
  refine V.getf (q := 0) (pc := 56) dX9_empty_56 fk_X9_19_9 rfl rfl ?_
  refine V.alen (q := 2) (t0 := 0) (v := 36) (pc := 59) dX9_empty_59 rfl rfl rfl ?_
  refine V.icmp_ge (pc := 60) (tgt := 76) dX9_empty_60 (by decide) hf (fun hf => ?_) (fun hf => ?_)
  · refine V.mask (pc := 76) [false, false] rfl rfl ?_
    exact hK54_76 _ hf
  · refine V.aloadn (pc := 63) dX9_empty_63 rfl ?_
    refine V.getf (q := 0) (pc := 64) dX9_empty_64 fk_X9_19_9 rfl rfl ?_
    refine V.iloadn (pc := 67) dX9_empty_67 rfl ?_
    refine V.iconst (pc := 68) (v := 0) dX9_empty_68 (by decide) ?_
    refine V.iast (pc := 69) (q := 2) (wd' := fun g69 => wX9_empty (xG X) q_a0 q_a0_slow q_a0_ways v_a0_villages v_a0_deaf v_a0_reach v_a0_start v_a0_reachTold v_a0_startTold m_a0_slow g69) dX9_empty_69 rfl hf (fun _ => rfl) (fun g69 hf => ?_)
    refine V.iinc (pc := 70) (v := 1) dX9_empty_70 rfl rfl (by decide) rfl ?_
    refine V.goto (pc := 73) (tgt := 54) dX9_empty_73 (by decide) ?_
    exact hB54 _ _ hf
theorem tX9_empty_L54 {out : Int32 × Int32 × Int32 × Int32 × Int32 × Int32 × (Nat → Int32) × (Nat → Int32)} (hX : xk X = kX9_empty) (hQ : xQ X = qE none (wX9_empty (xG X) q_a0 q_a0_slow q_a0_ways out.1 out.2.1 out.2.2.1 out.2.2.2.1 out.2.2.2.2.1 out.2.2.2.2.2.1 out.2.2.2.2.2.2.1 out.2.2.2.2.2.2.2)) {K54_76 : (Nat → Int32) → Option (Int32 × Int32 × Int32 × Int32 × Int32 × Int32 × (Nat → Int32) × (Nat → Int32))} (hK54_76 : ∀ (m_a0_ways : Nat → Int32), K54_76 m_a0_ways = some out → V X cX9_empty "FarDrum$Valley" 0 0 (wX9_empty (xG X) q_a0 q_a0_slow q_a0_ways v_a0_villages v_a0_deaf v_a0_reach v_a0_start v_a0_reachTold v_a0_startTold m_a0_slow m_a0_ways) [none, none] 76 []) : ∀ (n : Nat) (l1 : Int32) (m_a0_ways : Nat → Int32), fX9_empty_L54 K54_76 n l1 m_a0_ways = some out → V X cX9_empty "FarDrum$Valley" 0 0 (wX9_empty (xG X) q_a0 q_a0_slow q_a0_ways v_a0_villages v_a0_deaf v_a0_reach v_a0_start v_a0_reachTold v_a0_startTold m_a0_slow m_a0_ways) [some (.ref q_a0), some (.int l1)] 54 [] := by
  intro n
  induction n with
  | zero => intro l1 m_a0_ways hf; cases hf
  | succ n ih => intro l1 m_a0_ways hf; exact tX9_empty_54 hX hQ ih hK54_76 hf
set_option maxRecDepth 20000 in
theorem tX9_empty_0 {out : Int32 × Int32 × Int32 × Int32 × Int32 × Int32 × (Nat → Int32) × (Nat → Int32)} (hX : xk X = kX9_empty) (hQ : xQ X = qE none (wX9_empty (xG X) q_a0 q_a0_slow q_a0_ways out.1 out.2.1 out.2.2.1 out.2.2.2.1 out.2.2.2.2.1 out.2.2.2.2.2.1 out.2.2.2.2.2.2.1 out.2.2.2.2.2.2.2)) (hf : fX9_empty N m_a0_slow m_a0_ways = some out) : V X cX9_empty "FarDrum$Valley" 0 0 (wX9_empty (xG X) q_a0 q_a0_slow q_a0_ways v_a0_villages v_a0_deaf v_a0_reach v_a0_start v_a0_reachTold v_a0_startTold m_a0_slow m_a0_ways) [some (.ref q_a0), none] 0 [] := by
  unfold fX9_empty at hf
  refine V.aloadn (pc := 0) dX9_empty_0 rfl ?_
  refine V.iconst (pc := 1) (v := 0) dX9_empty_1 (by decide) ?_
  refine V.putf (q := 0) (wd' := wX9_empty (xG X) q_a0 q_a0_slow q_a0_ways (0 : Int32) v_a0_deaf v_a0_reach v_a0_start v_a0_reachTold v_a0_startTold m_a0_slow m_a0_ways) (pc := 2) dX9_empty_2 pk_X9_22_9 rfl rfl rfl rfl rfl ?_
  refine V.aloadn (pc := 5) dX9_empty_5 rfl ?_
  refine V.iconst (pc := 6) (v := 0) dX9_empty_6 (by decide) ?_
  refine V.putf (q := 0) (wd' := wX9_empty (xG X) q_a0 q_a0_slow q_a0_ways (0 : Int32) (0 : Int32) v_a0_reach v_a0_start v_a0_reachTold v_a0_startTold m_a0_slow m_a0_ways) (pc := 7) dX9_empty_7 pk_X9_25_9 rfl rfl rfl rfl rfl ?_
  refine V.aloadn (pc := 10) dX9_empty_10 rfl ?_
  refine V.bipush (pc := 11) (v := 20) dX9_empty_11 (by decide) ?_
  refine V.putf (q := 0) (wd' := wX9_empty (xG X) q_a0 q_a0_slow q_a0_ways (0 : Int32) (0 : Int32) (20 : Int32) v_a0_start v_a0_reachTold v_a0_startTold m_a0_slow m_a0_ways) (pc := 13) dX9_empty_13 pk_X9_9_9 rfl rfl rfl rfl rfl ?_
  refine V.aloadn (pc := 16) dX9_empty_16 rfl ?_
  refine V.iconst (pc := 17) (v := 0) dX9_empty_17 (by decide) ?_
  refine V.putf (q := 0) (wd' := wX9_empty (xG X) q_a0 q_a0_slow q_a0_ways (0 : Int32) (0 : Int32) (20 : Int32) (0 : Int32) v_a0_reachTold v_a0_startTold m_a0_slow m_a0_ways) (pc := 18) dX9_empty_18 pk_X9_28_9 rfl rfl rfl rfl rfl ?_
  refine V.aloadn (pc := 21) dX9_empty_21 rfl ?_
  refine V.iconst (pc := 22) (v := 0) dX9_empty_22 (by decide) ?_
  refine V.putf (q := 0) (wd' := wX9_empty (xG X) q_a0 q_a0_slow q_a0_ways (0 : Int32) (0 : Int32) (20 : Int32) (0 : Int32) (0 : Int32) v_a0_startTold m_a0_slow m_a0_ways) (pc := 23) dX9_empty_23 pk_X9_31_9 rfl rfl rfl rfl rfl ?_
  refine V.aloadn (pc := 26) dX9_empty_26 rfl ?_
  refine V.iconst (pc := 27) (v := 0) dX9_empty_27 (by decide) ?_
  refine V.putf (q := 0) (wd' := wX9_empty (xG X) q_a0 q_a0_slow q_a0_ways (0 : Int32) (0 : Int32) (20 : Int32) (0 : Int32) (0 : Int32) (0 : Int32) m_a0_slow m_a0_ways) (pc := 28) dX9_empty_28 pk_X9_35_9 rfl rfl rfl rfl rfl ?_
  refine V.iconst (pc := 31) (v := 0) dX9_empty_31 (by decide) ?_
  refine V.istoren (pc := 32) dX9_empty_32 rfl rfl rfl ?_
  refine tX9_empty_L33 hX hQ ?_ _ _ _ hf
  · intro m_a0_slowk33_52 hf
    refine V.iconst (pc := 52) (v := 0) dX9_empty_52 (by decide) ?_
    refine V.istoren (pc := 53) dX9_empty_53 rfl rfl rfl ?_
    refine tX9_empty_L54 hX hQ ?_ _ _ _ hf
    · intro m_a0_waysk54_76 hf
      exact V.vretE (pc := 76) hX kX9_empty_r hQ dX9_empty_76 (by cases hf; rfl) (by cases hf; rfl)
end
theorem oX9_empty {l : Launch} {G : GT} {N : Nat} {q_a0 : Nat} {q_a0_slow : Nat} {q_a0_ways : Nat} {v_a0_villages : Int32} {v_a0_deaf : Int32} {v_a0_reach : Int32} {v_a0_start : Int32} {v_a0_reachTold : Int32} {v_a0_startTold : Int32} {m_a0_slow : Nat → Int32} {m_a0_ways : Nat → Int32} {out : Int32 × Int32 × Int32 × Int32 × Int32 × Int32 × (Nat → Int32) × (Nat → Int32)} (hf : fX9_empty N m_a0_slow m_a0_ways = some out) : Ct (l, G, kX9_empty, wX9_empty G q_a0 q_a0_slow q_a0_ways v_a0_villages v_a0_deaf v_a0_reach v_a0_start v_a0_reachTold v_a0_startTold m_a0_slow m_a0_ways, [.ref q_a0], qE none (wX9_empty G q_a0 q_a0_slow q_a0_ways out.1 out.2.1 out.2.2.1 out.2.2.2.1 out.2.2.2.2.1 out.2.2.2.2.2.1 out.2.2.2.2.2.2.1 out.2.2.2.2.2.2.2)) :=
  Ct.of [some (.ref q_a0), none] kX9_empty_p rfl rfl rfl ((tX9_empty_0 (X := (l, G, kX9_empty, wX9_empty G q_a0 q_a0_slow q_a0_ways v_a0_villages v_a0_deaf v_a0_reach v_a0_start v_a0_reachTold v_a0_startTold m_a0_slow m_a0_ways, [.ref q_a0], qE none (wX9_empty G q_a0 q_a0_slow q_a0_ways out.1 out.2.1 out.2.2.1 out.2.2.2.1 out.2.2.2.2.1 out.2.2.2.2.2.1 out.2.2.2.2.2.2.1 out.2.2.2.2.2.2.2))) rfl rfl hf))

theorem fk_X9_22_9 : Fk "FarDrum$Valley" 22 9 0 := ⟨RX9, TX9, 8, "FarDrum$Valley", rfl, inX9, by decide, kw_1_60, Or.inl rfl⟩
theorem fk_X9_25_9 : Fk "FarDrum$Valley" 25 9 1 := ⟨RX9, TX9, 8, "FarDrum$Valley", rfl, inX9, by decide, kw_1_65, Or.inl rfl⟩
def wX9_addVillage (G : GT) (q_a0 : Nat) (q_a0_slow : Nat) (v_a0_villages : Int32) (v_a0_deaf : Int32) (u_a0_reach : Value) (u_a0_start : Value) (u_a0_reachTold : Value) (u_a0_startTold : Value) (u_a0_ways : Value) (m_a0_slow : Nat → Int32) : va_W := [(q_a0, .inr (9, [.int v_a0_villages, .int v_a0_deaf, u_a0_reach, u_a0_start, u_a0_reachTold, u_a0_startTold, .ref q_a0_slow, u_a0_ways])), (q_a0_slow, .inl (G.2 0, 6, .inl m_a0_slow))]
def kX9_addVillage : KT := (yX9_addVillage, cX9_addVillage, 3, none, 0, 0, 0)
theorem kX9_addVillage_r : kr kX9_addVillage = none ∧ kmc kX9_addVillage = 0 ∧ kms kX9_addVillage = 0 := ⟨rfl, rfl, rfl⟩
theorem kX9_addVillage_p : plainName (ky kX9_addVillage).cls = true := by decide +kernel
def fX9_addVillage (l1 : Int32) (l2 : Int32) (v_a0_villages : Int32) (v_a0_deaf : Int32) (m_a0_slow : Nat → Int32) : Option (Int32 × Int32 × (Nat → Int32)) :=
  if v_a0_villages < (6 : Int32) then (wri 6 m_a0_slow v_a0_villages l1 fun g19 =>
  lti (v_a0_deaf ||| (l2 <<< (v_a0_villages &&& 31))) fun y32 =>
  lti (v_a0_villages + (1 : Int32)) fun y42 =>
  some (y42, y32, g19))
  else (some (v_a0_villages, v_a0_deaf, m_a0_slow))
section
variable {X : XT} {N : Nat} {q_a0 : Nat} {q_a0_slow : Nat} {v_a0_villages : Int32} {v_a0_deaf : Int32} {u_a0_reach : Value} {u_a0_start : Value} {u_a0_reachTold : Value} {u_a0_startTold : Value} {u_a0_ways : Value} {m_a0_slow : Nat → Int32} {l1 : Int32} {l2 : Int32}
set_option maxRecDepth 20000 in
theorem tX9_addVillage_0 {out : Int32 × Int32 × (Nat → Int32)} (hX : xk X = kX9_addVillage) (hQ : xQ X = qE none (wX9_addVillage (xG X) q_a0 q_a0_slow out.1 out.2.1 u_a0_reach u_a0_start u_a0_reachTold u_a0_startTold u_a0_ways out.2.2)) (hf : fX9_addVillage l1 l2 v_a0_villages v_a0_deaf m_a0_slow = some out) : V X cX9_addVillage "FarDrum$Valley" 0 0 (wX9_addVillage (xG X) q_a0 q_a0_slow v_a0_villages v_a0_deaf u_a0_reach u_a0_start u_a0_reachTold u_a0_startTold u_a0_ways m_a0_slow) [some (.ref q_a0), some (.int l1), some (.int l2)] 0 [] := by
  unfold fX9_addVillage at hf
  refine V.aloadn (pc := 0) dX9_addVillage_0 rfl ?_
  refine V.getf (q := 0) (pc := 1) dX9_addVillage_1 fk_X9_22_9 rfl rfl ?_
  refine V.bipush (pc := 4) (v := 6) dX9_addVillage_4 (by decide) ?_
  refine V.icmp_lt (pc := 6) (tgt := 10) dX9_addVillage_6 (by decide) hf (fun hf => ?_) (fun hf => ?_)
  · refine V.aloadn (pc := 10) dX9_addVillage_10 rfl ?_
    refine V.getf (q := 0) (pc := 11) dX9_addVillage_11 fk_X9_15_9 rfl rfl ?_
    refine V.aloadn (pc := 14) dX9_addVillage_14 rfl ?_
    refine V.getf (q := 0) (pc := 15) dX9_addVillage_15 fk_X9_22_9 rfl rfl ?_
    refine V.iloadn (pc := 18) dX9_addVillage_18 rfl ?_
    refine V.iast (pc := 19) (q := 1) (wd' := fun g19 => wX9_addVillage (xG X) q_a0 q_a0_slow v_a0_villages v_a0_deaf u_a0_reach u_a0_start u_a0_reachTold u_a0_startTold u_a0_ways g19) dX9_addVillage_19 rfl hf (fun _ => rfl) (fun g19 hf => ?_)
    refine V.aloadn (pc := 20) dX9_addVillage_20 rfl ?_
    refine V.dup (pc := 21) dX9_addVillage_21 rfl ?_
    refine V.getf (q := 0) (pc := 22) dX9_addVillage_22 fk_X9_25_9 rfl rfl ?_
    refine V.iloadn (pc := 25) dX9_addVillage_25 rfl ?_
    refine V.aloadn (pc := 26) dX9_addVillage_26 rfl ?_
    refine V.getf (q := 0) (pc := 27) dX9_addVillage_27 fk_X9_22_9 rfl rfl ?_
    refine V.ishl (pc := 30) dX9_addVillage_30 ?_
    refine V.ior (pc := 31) dX9_addVillage_31 ?_
    refine V.topi hf (fun y32 hf => ?_)
    refine V.putf (q := 0) (wd' := wX9_addVillage (xG X) q_a0 q_a0_slow v_a0_villages y32 u_a0_reach u_a0_start u_a0_reachTold u_a0_startTold u_a0_ways g19) (pc := 32) dX9_addVillage_32 pk_X9_25_9 rfl rfl rfl rfl rfl ?_
    refine V.aloadn (pc := 35) dX9_addVillage_35 rfl ?_
    refine V.dup (pc := 36) dX9_addVillage_36 rfl ?_
    refine V.getf (q := 0) (pc := 37) dX9_addVillage_37 fk_X9_22_9 rfl rfl ?_
    refine V.iconst (pc := 40) (v := 1) dX9_addVillage_40 (by decide) ?_
    refine V.iadd (pc := 41) dX9_addVillage_41 ?_
    refine V.topi hf (fun y42 hf => ?_)
    refine V.putf (q := 0) (wd' := wX9_addVillage (xG X) q_a0 q_a0_slow y42 y32 u_a0_reach u_a0_start u_a0_reachTold u_a0_startTold u_a0_ways g19) (pc := 42) dX9_addVillage_42 pk_X9_22_9 rfl rfl rfl rfl rfl ?_
    exact V.vretE (pc := 45) hX kX9_addVillage_r hQ dX9_addVillage_45 (by cases hf; rfl) (by cases hf; rfl)
  · exact V.vretE (pc := 9) hX kX9_addVillage_r hQ dX9_addVillage_9 (by cases hf; rfl) (by cases hf; rfl)
end
theorem oX9_addVillage {l : Launch} {G : GT} {q_a0 : Nat} {q_a0_slow : Nat} {v_a0_villages : Int32} {v_a0_deaf : Int32} {u_a0_reach : Value} {u_a0_start : Value} {u_a0_reachTold : Value} {u_a0_startTold : Value} {u_a0_ways : Value} {m_a0_slow : Nat → Int32} {l1 : Int32} {l2 : Int32} {out : Int32 × Int32 × (Nat → Int32)} (hf : fX9_addVillage l1 l2 v_a0_villages v_a0_deaf m_a0_slow = some out) : Ct (l, G, kX9_addVillage, wX9_addVillage G q_a0 q_a0_slow v_a0_villages v_a0_deaf u_a0_reach u_a0_start u_a0_reachTold u_a0_startTold u_a0_ways m_a0_slow, [.ref q_a0, .int l1, .int l2], qE none (wX9_addVillage G q_a0 q_a0_slow out.1 out.2.1 u_a0_reach u_a0_start u_a0_reachTold u_a0_startTold u_a0_ways out.2.2)) :=
  Ct.of [some (.ref q_a0), some (.int l1), some (.int l2)] kX9_addVillage_p rfl rfl rfl ((tX9_addVillage_0 (X := (l, G, kX9_addVillage, wX9_addVillage G q_a0 q_a0_slow v_a0_villages v_a0_deaf u_a0_reach u_a0_start u_a0_reachTold u_a0_startTold u_a0_ways m_a0_slow, [.ref q_a0, .int l1, .int l2], qE none (wX9_addVillage G q_a0 q_a0_slow out.1 out.2.1 u_a0_reach u_a0_start u_a0_reachTold u_a0_startTold u_a0_ways out.2.2))) rfl rfl hf))

def wX9_addWay (G : GT) (q_a0 : Nat) (q_a0_ways : Nat) (u_a0_villages : Value) (u_a0_deaf : Value) (u_a0_reach : Value) (u_a0_start : Value) (u_a0_reachTold : Value) (u_a0_startTold : Value) (u_a0_slow : Value) (m_a0_ways : Nat → Int32) : va_W := [(q_a0, .inr (9, [u_a0_villages, u_a0_deaf, u_a0_reach, u_a0_start, u_a0_reachTold, u_a0_startTold, u_a0_slow, .ref q_a0_ways])), (q_a0_ways, .inl (G.2 0, 36, .inl m_a0_ways))]
def kX9_addWay : KT := (yX9_addWay, cX9_addWay, 4, none, 0, 0, 0)
theorem kX9_addWay_r : kr kX9_addWay = none ∧ kmc kX9_addWay = 0 ∧ kms kX9_addWay = 0 := ⟨rfl, rfl, rfl⟩
theorem kX9_addWay_p : plainName (ky kX9_addWay).cls = true := by decide +kernel
def fX9_addWay (l1 : Int32) (l2 : Int32) (l3 : Int32) (m_a0_ways : Nat → Int32) : Option ((Nat → Int32)) :=
  wri 36 m_a0_ways ((l1 * (6 : Int32)) + l2) l3 fun g11 =>
  wri 36 g11 ((l2 * (6 : Int32)) + l1) l3 fun g23 =>
  some g23
section
variable {X : XT} {N : Nat} {q_a0 : Nat} {q_a0_ways : Nat} {u_a0_villages : Value} {u_a0_deaf : Value} {u_a0_reach : Value} {u_a0_start : Value} {u_a0_reachTold : Value} {u_a0_startTold : Value} {u_a0_slow : Value} {m_a0_ways : Nat → Int32} {l1 : Int32} {l2 : Int32} {l3 : Int32}
set_option maxRecDepth 20000 in
theorem tX9_addWay_0 {out : (Nat → Int32)} (hX : xk X = kX9_addWay) (hQ : xQ X = qE none (wX9_addWay (xG X) q_a0 q_a0_ways u_a0_villages u_a0_deaf u_a0_reach u_a0_start u_a0_reachTold u_a0_startTold u_a0_slow out)) (hf : fX9_addWay l1 l2 l3 m_a0_ways = some out) : V X cX9_addWay "FarDrum$Valley" 0 0 (wX9_addWay (xG X) q_a0 q_a0_ways u_a0_villages u_a0_deaf u_a0_reach u_a0_start u_a0_reachTold u_a0_startTold u_a0_slow m_a0_ways) [some (.ref q_a0), some (.int l1), some (.int l2), some (.int l3)] 0 [] := by
  unfold fX9_addWay at hf
  refine V.aloadn (pc := 0) dX9_addWay_0 rfl ?_
  refine V.getf (q := 0) (pc := 1) dX9_addWay_1 fk_X9_19_9 rfl rfl ?_
  refine V.iloadn (pc := 4) dX9_addWay_4 rfl ?_
  refine V.bipush (pc := 5) (v := 6) dX9_addWay_5 (by decide) ?_
  refine V.imul (pc := 7) dX9_addWay_7 ?_
  refine V.iloadn (pc := 8) dX9_addWay_8 rfl ?_
  refine V.iadd (pc := 9) dX9_addWay_9 ?_
  refine V.iloadn (pc := 10) dX9_addWay_10 rfl ?_
  refine V.iast (pc := 11) (q := 1) (wd' := fun g11 => wX9_addWay (xG X) q_a0 q_a0_ways u_a0_villages u_a0_deaf u_a0_reach u_a0_start u_a0_reachTold u_a0_startTold u_a0_slow g11) dX9_addWay_11 rfl hf (fun _ => rfl) (fun g11 hf => ?_)
  refine V.aloadn (pc := 12) dX9_addWay_12 rfl ?_
  refine V.getf (q := 0) (pc := 13) dX9_addWay_13 fk_X9_19_9 rfl rfl ?_
  refine V.iloadn (pc := 16) dX9_addWay_16 rfl ?_
  refine V.bipush (pc := 17) (v := 6) dX9_addWay_17 (by decide) ?_
  refine V.imul (pc := 19) dX9_addWay_19 ?_
  refine V.iloadn (pc := 20) dX9_addWay_20 rfl ?_
  refine V.iadd (pc := 21) dX9_addWay_21 ?_
  refine V.iloadn (pc := 22) dX9_addWay_22 rfl ?_
  refine V.iast (pc := 23) (q := 1) (wd' := fun g23 => wX9_addWay (xG X) q_a0 q_a0_ways u_a0_villages u_a0_deaf u_a0_reach u_a0_start u_a0_reachTold u_a0_startTold u_a0_slow g23) dX9_addWay_23 rfl hf (fun _ => rfl) (fun g23 hf => ?_)
  exact V.vretE (pc := 24) hX kX9_addWay_r hQ dX9_addWay_24 (by cases hf; rfl) (by cases hf; rfl)
end
theorem oX9_addWay {l : Launch} {G : GT} {q_a0 : Nat} {q_a0_ways : Nat} {u_a0_villages : Value} {u_a0_deaf : Value} {u_a0_reach : Value} {u_a0_start : Value} {u_a0_reachTold : Value} {u_a0_startTold : Value} {u_a0_slow : Value} {m_a0_ways : Nat → Int32} {l1 : Int32} {l2 : Int32} {l3 : Int32} {out : (Nat → Int32)} (hf : fX9_addWay l1 l2 l3 m_a0_ways = some out) : Ct (l, G, kX9_addWay, wX9_addWay G q_a0 q_a0_ways u_a0_villages u_a0_deaf u_a0_reach u_a0_start u_a0_reachTold u_a0_startTold u_a0_slow m_a0_ways, [.ref q_a0, .int l1, .int l2, .int l3], qE none (wX9_addWay G q_a0 q_a0_ways u_a0_villages u_a0_deaf u_a0_reach u_a0_start u_a0_reachTold u_a0_startTold u_a0_slow out)) :=
  Ct.of [some (.ref q_a0), some (.int l1), some (.int l2), some (.int l3)] kX9_addWay_p rfl rfl rfl ((tX9_addWay_0 (X := (l, G, kX9_addWay, wX9_addWay G q_a0 q_a0_ways u_a0_villages u_a0_deaf u_a0_reach u_a0_start u_a0_reachTold u_a0_startTold u_a0_slow m_a0_ways, [.ref q_a0, .int l1, .int l2, .int l3], qE none (wX9_addWay G q_a0 q_a0_ways u_a0_villages u_a0_deaf u_a0_reach u_a0_start u_a0_reachTold u_a0_startTold u_a0_slow out))) rfl rfl hf))

def wX9_between (G : GT) (q_a0 : Nat) (q_a0_ways : Nat) (u_a0_villages : Value) (u_a0_deaf : Value) (u_a0_reach : Value) (u_a0_start : Value) (u_a0_reachTold : Value) (u_a0_startTold : Value) (u_a0_slow : Value) (m_a0_ways : Nat → Int32) : va_W := [(q_a0, .inr (9, [u_a0_villages, u_a0_deaf, u_a0_reach, u_a0_start, u_a0_reachTold, u_a0_startTold, u_a0_slow, .ref q_a0_ways])), (q_a0_ways, .inl (G.2 0, 36, .inl m_a0_ways))]
def kX9_between : KT := (yX9_between, cX9_between, 3, (some .int), 0, 0, 0)
theorem kX9_between_r : kr kX9_between = (some .int) ∧ kmc kX9_between = 0 ∧ kms kX9_between = 0 := ⟨rfl, rfl, rfl⟩
theorem kX9_between_p : plainName (ky kX9_between).cls = true := by decide +kernel
def fX9_between (l1 : Int32) (l2 : Int32) (m_a0_ways : Nat → Int32) : Option (Int32) :=
  rdi 36 m_a0_ways ((l1 * (6 : Int32)) + l2) fun x10 =>
  some x10
section
variable {X : XT} {N : Nat} {q_a0 : Nat} {q_a0_ways : Nat} {u_a0_villages : Value} {u_a0_deaf : Value} {u_a0_reach : Value} {u_a0_start : Value} {u_a0_reachTold : Value} {u_a0_startTold : Value} {u_a0_slow : Value} {m_a0_ways : Nat → Int32} {l1 : Int32} {l2 : Int32}
set_option maxRecDepth 20000 in
theorem tX9_between_0 {out : Int32} (hX : xk X = kX9_between) (hQ : xQ X = qE (some (.int out)) (wX9_between (xG X) q_a0 q_a0_ways u_a0_villages u_a0_deaf u_a0_reach u_a0_start u_a0_reachTold u_a0_startTold u_a0_slow m_a0_ways)) (hf : fX9_between l1 l2 m_a0_ways = some out) : V X cX9_between "FarDrum$Valley" 0 0 (wX9_between (xG X) q_a0 q_a0_ways u_a0_villages u_a0_deaf u_a0_reach u_a0_start u_a0_reachTold u_a0_startTold u_a0_slow m_a0_ways) [some (.ref q_a0), some (.int l1), some (.int l2)] 0 [] := by
  unfold fX9_between at hf
  refine V.aloadn (pc := 0) dX9_between_0 rfl ?_
  refine V.getf (q := 0) (pc := 1) dX9_between_1 fk_X9_19_9 rfl rfl ?_
  refine V.iloadn (pc := 4) dX9_between_4 rfl ?_
  refine V.bipush (pc := 5) (v := 6) dX9_between_5 (by decide) ?_
  refine V.imul (pc := 7) dX9_between_7 ?_
  refine V.iloadn (pc := 8) dX9_between_8 rfl ?_
  refine V.iadd (pc := 9) dX9_between_9 ?_
  refine V.iald (pc := 10) (q := 1) dX9_between_10 rfl hf (fun x10 hf => ?_)
  exact V.iretE (pc := 11) hX kX9_between_r hQ dX9_between_11 (by cases hf; rfl) (by cases hf; rfl)
end
theorem oX9_between {l : Launch} {G : GT} {q_a0 : Nat} {q_a0_ways : Nat} {u_a0_villages : Value} {u_a0_deaf : Value} {u_a0_reach : Value} {u_a0_start : Value} {u_a0_reachTold : Value} {u_a0_startTold : Value} {u_a0_slow : Value} {m_a0_ways : Nat → Int32} {l1 : Int32} {l2 : Int32} {out : Int32} (hf : fX9_between l1 l2 m_a0_ways = some out) : Ct (l, G, kX9_between, wX9_between G q_a0 q_a0_ways u_a0_villages u_a0_deaf u_a0_reach u_a0_start u_a0_reachTold u_a0_startTold u_a0_slow m_a0_ways, [.ref q_a0, .int l1, .int l2], qE (some (.int out)) (wX9_between G q_a0 q_a0_ways u_a0_villages u_a0_deaf u_a0_reach u_a0_start u_a0_reachTold u_a0_startTold u_a0_slow m_a0_ways)) :=
  Ct.of [some (.ref q_a0), some (.int l1), some (.int l2)] kX9_between_p rfl rfl rfl ((tX9_between_0 (X := (l, G, kX9_between, wX9_between G q_a0 q_a0_ways u_a0_villages u_a0_deaf u_a0_reach u_a0_start u_a0_reachTold u_a0_startTold u_a0_slow m_a0_ways, [.ref q_a0, .int l1, .int l2], qE (some (.int out)) (wX9_between G q_a0 q_a0_ways u_a0_villages u_a0_deaf u_a0_reach u_a0_start u_a0_reachTold u_a0_startTold u_a0_slow m_a0_ways))) rfl rfl hf))

theorem lkb_X9_between : LkB kX9_between 2 := ⟨kw_2_217, kw_1_3, ⟨by decide, by decide⟩, by decide +kernel, by decide⟩
theorem lkV_X9_38 : LkV "FarDrum$Valley" 38 kX9_between 2 := ⟨lkb_X9_between, kw_2_214, kw_2_215, kw_2_216⟩
theorem fk_X9_9_9 : Fk "FarDrum$Valley" 9 9 2 := ⟨RX9, TX9, 8, "FarDrum$Valley", rfl, inX9, by decide, kw_1_67, Or.inl rfl⟩
def wX9_heardOver (G : GT) (q_a0 : Nat) (q_a0_ways : Nat) (u_a0_villages : Value) (u_a0_deaf : Value) (v_a0_reach : Int32) (u_a0_start : Value) (u_a0_reachTold : Value) (u_a0_startTold : Value) (u_a0_slow : Value) (m_a0_ways : Nat → Int32) : va_W := [(q_a0, .inr (9, [u_a0_villages, u_a0_deaf, .int v_a0_reach, u_a0_start, u_a0_reachTold, u_a0_startTold, u_a0_slow, .ref q_a0_ways])), (q_a0_ways, .inl (G.2 0, 36, .inl m_a0_ways))]
def kX9_heardOver : KT := (yX9_heardOver, cX9_heardOver, 5, (some .int), 1, 0, 0)
theorem kX9_heardOver_r : kr kX9_heardOver = (some .int) ∧ kmc kX9_heardOver = 0 ∧ kms kX9_heardOver = 0 := ⟨rfl, rfl, rfl⟩
theorem kX9_heardOver_p : plainName (ky kX9_heardOver).cls = true := by decide +kernel
def fX9_heardOver_25 (s0 : Int32) : Option (Int32) :=
  some s0
def fX9_heardOver (l1 : Int32) (l2 : Int32) (l3 : Int32) (v_a0_reach : Int32) (m_a0_ways : Nat → Int32) : Option (Int32) :=
  Option.bind (fX9_between l1 l2 m_a0_ways) fun o3 =>
  lti (o3 <<< (l3 &&& 31)) fun y8 =>
  if y8 ≤ v_a0_reach then (fX9_heardOver_25 y8)
  else (fX9_heardOver_25 (0 : Int32))
section
variable {X : XT} {N : Nat} {q_a0 : Nat} {q_a0_ways : Nat} {u_a0_villages : Value} {u_a0_deaf : Value} {v_a0_reach : Int32} {u_a0_start : Value} {u_a0_reachTold : Value} {u_a0_startTold : Value} {u_a0_slow : Value} {m_a0_ways : Nat → Int32} {l1 : Int32} {l2 : Int32} {l3 : Int32} {s0 : Int32}
set_option maxRecDepth 20000 in
theorem tX9_heardOver_25 {out : Int32} (hX : xk X = kX9_heardOver) (hQ : xQ X = qE (some (.int out)) (wX9_heardOver (xG X) q_a0 q_a0_ways u_a0_villages u_a0_deaf v_a0_reach u_a0_start u_a0_reachTold u_a0_startTold u_a0_slow m_a0_ways)) (hf : fX9_heardOver_25 s0 = some out) : V X cX9_heardOver "FarDrum$Valley" 0 0 (wX9_heardOver (xG X) q_a0 q_a0_ways u_a0_villages u_a0_deaf v_a0_reach u_a0_start u_a0_reachTold u_a0_startTold u_a0_slow m_a0_ways) [none, none, none, none, none] 25 [.int s0] := by
  unfold fX9_heardOver_25 at hf
  exact V.iretE (pc := 25) hX kX9_heardOver_r hQ dX9_heardOver_25 (by cases hf; rfl) (by cases hf; rfl)
set_option maxRecDepth 20000 in
theorem tX9_heardOver_0 {out : Int32} (hX : xk X = kX9_heardOver) (hQ : xQ X = qE (some (.int out)) (wX9_heardOver (xG X) q_a0 q_a0_ways u_a0_villages u_a0_deaf v_a0_reach u_a0_start u_a0_reachTold u_a0_startTold u_a0_slow m_a0_ways)) (hf : fX9_heardOver l1 l2 l3 v_a0_reach m_a0_ways = some out) : V X cX9_heardOver "FarDrum$Valley" 0 0 (wX9_heardOver (xG X) q_a0 q_a0_ways u_a0_villages u_a0_deaf v_a0_reach u_a0_start u_a0_reachTold u_a0_startTold u_a0_slow m_a0_ways) [some (.ref q_a0), some (.int l1), some (.int l2), some (.int l3), none] 0 [] := by
  unfold fX9_heardOver at hf
  refine V.aloadn (pc := 0) dX9_heardOver_0 rfl ?_
  refine V.iloadn (pc := 1) dX9_heardOver_1 rfl ?_
  refine V.iloadn (pc := 2) dX9_heardOver_2 rfl ?_
  refine V.callVi (pc := 3) (q := 0) (wr := []) (wd' := fun o3 => wX9_heardOver (xG X) q_a0 q_a0_ways u_a0_villages u_a0_deaf v_a0_reach u_a0_start u_a0_reachTold u_a0_startTold u_a0_slow m_a0_ways) [.int l1, .int l2] (st := []) hf (fun _ h => oX9_between (q_a0 := q_a0) (q_a0_ways := q_a0_ways) (u_a0_villages := u_a0_villages) (u_a0_deaf := u_a0_deaf) (u_a0_reach := ((.int v_a0_reach))) (u_a0_start := u_a0_start) (u_a0_reachTold := u_a0_reachTold) (u_a0_startTold := u_a0_startTold) (u_a0_slow := u_a0_slow) (m_a0_ways := m_a0_ways) (l1 := l1) (l2 := l2) h) lkV_X9_38 dX9_heardOver_3 hX rfl ⟨rfl, rfl⟩ ⟨rfl, rfl⟩ rfl rfl rfl rfl rfl [0, 1] [] [0, 1] rfl rfl rfl rfl rfl (fun _ => rfl) rfl (fun o3 hf => ?_)
  refine V.iloadn (pc := 6) dX9_heardOver_6 rfl ?_
  refine V.ishl (pc := 7) dX9_heardOver_7 ?_
  refine V.topi hf (fun y8 hf => ?_)
  refine V.istore (pc := 8) dX9_heardOver_8 rfl rfl rfl ?_
  refine V.iload (pc := 10) dX9_heardOver_10 rfl ?_
  refine V.aloadn (pc := 12) dX9_heardOver_12 rfl ?_
  refine V.getf (q := 0) (pc := 13) dX9_heardOver_13 fk_X9_9_9 rfl rfl ?_
  refine V.icmp_le (pc := 16) (tgt := 23) dX9_heardOver_16 (by decide) hf (fun hf => ?_) (fun hf => ?_)
  · refine V.iload (pc := 23) dX9_heardOver_23 rfl ?_
    refine V.mask (pc := 25) [false, false, false, false, false] rfl rfl ?_
    exact tX9_heardOver_25 hX hQ hf
  · refine V.iconst (pc := 19) (v := 0) dX9_heardOver_19 (by decide) ?_
    refine V.goto (pc := 20) (tgt := 25) dX9_heardOver_20 (by decide) ?_
    refine V.mask (pc := 25) [false, false, false, false, false] rfl rfl ?_
    exact tX9_heardOver_25 hX hQ hf
end
theorem oX9_heardOver {l : Launch} {G : GT} {q_a0 : Nat} {q_a0_ways : Nat} {u_a0_villages : Value} {u_a0_deaf : Value} {v_a0_reach : Int32} {u_a0_start : Value} {u_a0_reachTold : Value} {u_a0_startTold : Value} {u_a0_slow : Value} {m_a0_ways : Nat → Int32} {l1 : Int32} {l2 : Int32} {l3 : Int32} {out : Int32} (hf : fX9_heardOver l1 l2 l3 v_a0_reach m_a0_ways = some out) : Ct (l, G, kX9_heardOver, wX9_heardOver G q_a0 q_a0_ways u_a0_villages u_a0_deaf v_a0_reach u_a0_start u_a0_reachTold u_a0_startTold u_a0_slow m_a0_ways, [.ref q_a0, .int l1, .int l2, .int l3], qE (some (.int out)) (wX9_heardOver G q_a0 q_a0_ways u_a0_villages u_a0_deaf v_a0_reach u_a0_start u_a0_reachTold u_a0_startTold u_a0_slow m_a0_ways)) :=
  Ct.of [some (.ref q_a0), some (.int l1), some (.int l2), some (.int l3), none] kX9_heardOver_p rfl rfl rfl ((tX9_heardOver_0 (X := (l, G, kX9_heardOver, wX9_heardOver G q_a0 q_a0_ways u_a0_villages u_a0_deaf v_a0_reach u_a0_start u_a0_reachTold u_a0_startTold u_a0_slow m_a0_ways, [.ref q_a0, .int l1, .int l2, .int l3], qE (some (.int out)) (wX9_heardOver G q_a0 q_a0_ways u_a0_villages u_a0_deaf v_a0_reach u_a0_start u_a0_reachTold u_a0_startTold u_a0_slow m_a0_ways))) rfl rfl hf))

def wX9_neighbours (G : GT) (q_a0 : Nat) (q_a0_ways : Nat) (v_a0_villages : Int32) (u_a0_deaf : Value) (u_a0_reach : Value) (u_a0_start : Value) (u_a0_reachTold : Value) (u_a0_startTold : Value) (u_a0_slow : Value) (m_a0_ways : Nat → Int32) : va_W := [(q_a0, .inr (9, [.int v_a0_villages, u_a0_deaf, u_a0_reach, u_a0_start, u_a0_reachTold, u_a0_startTold, u_a0_slow, .ref q_a0_ways])), (q_a0_ways, .inl (G.2 0, 36, .inl m_a0_ways))]
def kX9_neighbours : KT := (yX9_neighbours, cX9_neighbours, 4, (some .int), 1, 0, 0)
theorem kX9_neighbours_r : kr kX9_neighbours = (some .int) ∧ kmc kX9_neighbours = 0 ∧ kms kX9_neighbours = 0 := ⟨rfl, rfl, rfl⟩
theorem kX9_neighbours_p : plainName (ky kX9_neighbours).cls = true := by decide +kernel
def fX9_neighbours_27 (B4 : Int32 → Int32 → Option (Int32)) (l2 : Int32) (l3 : Int32) : Option (Int32) :=
  B4 l2 (l3 + (1 : Int32))
def fX9_neighbours_4 (B4 : Int32 → Int32 → Option (Int32)) (K4_33 : Int32 → Option (Int32)) (l1 : Int32) (l2 : Int32) (l3 : Int32) (v_a0_villages : Int32) (m_a0_ways : Nat → Int32) : Option (Int32) :=
  if v_a0_villages ≤ l3 then (K4_33 l2)
  else (Option.bind (fX9_between l1 l3 m_a0_ways) fun o15 =>
  if o15 ≤ 0 then (fX9_neighbours_27 B4 l2 l3)
  else (lti (l2 ||| ((1 : Int32) <<< (l3 &&& 31))) fun y26 =>
  fX9_neighbours_27 B4 y26 l3))
def fX9_neighbours_L4 (l1 : Int32) (v_a0_villages : Int32) (m_a0_ways : Nat → Int32) (K4_33 : Int32 → Option (Int32)) : Nat → Int32 → Int32 → Option (Int32)
  | 0, _, _ => none
  | n + 1, l2, l3 => fX9_neighbours_4 (fX9_neighbours_L4 l1 v_a0_villages m_a0_ways K4_33 n) K4_33 l1 l2 l3 v_a0_villages m_a0_ways
def fX9_neighbours (N : Nat) (l1 : Int32) (v_a0_villages : Int32) (m_a0_ways : Nat → Int32) : Option (Int32) :=
  fX9_neighbours_L4 l1 v_a0_villages m_a0_ways
      (fun l2k4_33 => some l2k4_33) N (0 : Int32) (0 : Int32)
section
variable {X : XT} {N : Nat} {q_a0 : Nat} {q_a0_ways : Nat} {v_a0_villages : Int32} {u_a0_deaf : Value} {u_a0_reach : Value} {u_a0_start : Value} {u_a0_reachTold : Value} {u_a0_startTold : Value} {u_a0_slow : Value} {m_a0_ways : Nat → Int32} {l1 : Int32} {l2 : Int32} {l3 : Int32}
set_option maxRecDepth 20000 in
theorem tX9_neighbours_27 {out : Int32} (hX : xk X = kX9_neighbours) (hQ : xQ X = qE (some (.int out)) (wX9_neighbours (xG X) q_a0 q_a0_ways v_a0_villages u_a0_deaf u_a0_reach u_a0_start u_a0_reachTold u_a0_startTold u_a0_slow m_a0_ways)) {B4 : Int32 → Int32 → Option (Int32)} (hB4 : ∀ (l2 : Int32) (l3 : Int32), B4 l2 l3 = some out → V X cX9_neighbours "FarDrum$Valley" 0 0 (wX9_neighbours (xG X) q_a0 q_a0_ways v_a0_villages u_a0_deaf u_a0_reach u_a0_start u_a0_reachTold u_a0_startTold u_a0_slow m_a0_ways) [some (.ref q_a0), some (.int l1), some (.int l2), some (.int l3)] 4 []) (hf : fX9_neighbours_27 B4 l2 l3 = some out) : V X cX9_neighbours "FarDrum$Valley" 0 0 (wX9_neighbours (xG X) q_a0 q_a0_ways v_a0_villages u_a0_deaf u_a0_reach u_a0_start u_a0_reachTold u_a0_startTold u_a0_slow m_a0_ways) [some (.ref q_a0), some (.int l1), some (.int l2), some (.int l3)] 27 [] := by
  unfold fX9_neighbours_27 at hf
  refine V.iinc (pc := 27) (v := 1) dX9_neighbours_27 rfl rfl (by decide) rfl ?_
  refine V.goto (pc := 30) (tgt := 4) dX9_neighbours_30 (by decide) ?_
  exact hB4 _ _ hf
set_option maxRecDepth 20000 in
theorem tX9_neighbours_4 {out : Int32} (hX : xk X = kX9_neighbours) (hQ : xQ X = qE (some (.int out)) (wX9_neighbours (xG X) q_a0 q_a0_ways v_a0_villages u_a0_deaf u_a0_reach u_a0_start u_a0_reachTold u_a0_startTold u_a0_slow m_a0_ways)) {B4 : Int32 → Int32 → Option (Int32)} {K4_33 : Int32 → Option (Int32)} (hB4 : ∀ (l2 : Int32) (l3 : Int32), B4 l2 l3 = some out → V X cX9_neighbours "FarDrum$Valley" 0 0 (wX9_neighbours (xG X) q_a0 q_a0_ways v_a0_villages u_a0_deaf u_a0_reach u_a0_start u_a0_reachTold u_a0_startTold u_a0_slow m_a0_ways) [some (.ref q_a0), some (.int l1), some (.int l2), some (.int l3)] 4 []) (hK4_33 : ∀ (l2 : Int32), K4_33 l2 = some out → V X cX9_neighbours "FarDrum$Valley" 0 0 (wX9_neighbours (xG X) q_a0 q_a0_ways v_a0_villages u_a0_deaf u_a0_reach u_a0_start u_a0_reachTold u_a0_startTold u_a0_slow m_a0_ways) [none, none, some (.int l2), none] 33 []) (hf : fX9_neighbours_4 B4 K4_33 l1 l2 l3 v_a0_villages m_a0_ways = some out) : V X cX9_neighbours "FarDrum$Valley" 0 0 (wX9_neighbours (xG X) q_a0 q_a0_ways v_a0_villages u_a0_deaf u_a0_reach u_a0_start u_a0_reachTold u_a0_startTold u_a0_slow m_a0_ways) [some (.ref q_a0), some (.int l1), some (.int l2), some (.int l3)] 4 [] := by
  unfold fX9_neighbours_4 at hf
  refine V.iloadn (pc := 4) dX9_neighbours_4 rfl ?_
  refine V.aloadn (pc := 5) dX9_neighbours_5 rfl ?_
  refine V.getf (q := 0) (pc := 6) dX9_neighbours_6 fk_X9_22_9 rfl rfl ?_
  refine V.icmp_ge (pc := 9) (tgt := 33) dX9_neighbours_9 (by decide) hf (fun hf => ?_) (fun hf => ?_)
  · refine V.mask (pc := 33) [false, false, true, false] rfl rfl ?_
    exact hK4_33 _ hf
  · refine V.aloadn (pc := 12) dX9_neighbours_12 rfl ?_
    refine V.iloadn (pc := 13) dX9_neighbours_13 rfl ?_
    refine V.iloadn (pc := 14) dX9_neighbours_14 rfl ?_
    refine V.callVi (pc := 15) (q := 0) (wr := []) (wd' := fun o15 => wX9_neighbours (xG X) q_a0 q_a0_ways v_a0_villages u_a0_deaf u_a0_reach u_a0_start u_a0_reachTold u_a0_startTold u_a0_slow m_a0_ways) [.int l1, .int l3] (st := []) hf (fun _ h => oX9_between (q_a0 := q_a0) (q_a0_ways := q_a0_ways) (u_a0_villages := ((.int v_a0_villages))) (u_a0_deaf := u_a0_deaf) (u_a0_reach := u_a0_reach) (u_a0_start := u_a0_start) (u_a0_reachTold := u_a0_reachTold) (u_a0_startTold := u_a0_startTold) (u_a0_slow := u_a0_slow) (m_a0_ways := m_a0_ways) (l1 := l1) (l2 := l3) h) lkV_X9_38 dX9_neighbours_15 hX rfl ⟨rfl, rfl⟩ ⟨rfl, rfl⟩ rfl rfl rfl rfl rfl [0, 1] [] [0, 1] rfl rfl rfl rfl rfl (fun _ => rfl) rfl (fun o15 hf => ?_)
    refine V.if_le (pc := 18) (tgt := 27) dX9_neighbours_18 (by decide) hf (fun hf => ?_) (fun hf => ?_)
    · exact tX9_neighbours_27 hX hQ hB4 hf
    · refine V.iloadn (pc := 21) dX9_neighbours_21 rfl ?_
      refine V.iconst (pc := 22) (v := 1) dX9_neighbours_22 (by decide) ?_
      refine V.iloadn (pc := 23) dX9_neighbours_23 rfl ?_
      refine V.ishl (pc := 24) dX9_neighbours_24 ?_
      refine V.ior (pc := 25) dX9_neighbours_25 ?_
      refine V.topi hf (fun y26 hf => ?_)
      refine V.istoren (pc := 26) dX9_neighbours_26 rfl rfl rfl ?_
      exact tX9_neighbours_27 hX hQ hB4 hf
theorem tX9_neighbours_L4 {out : Int32} (hX : xk X = kX9_neighbours) (hQ : xQ X = qE (some (.int out)) (wX9_neighbours (xG X) q_a0 q_a0_ways v_a0_villages u_a0_deaf u_a0_reach u_a0_start u_a0_reachTold u_a0_startTold u_a0_slow m_a0_ways)) {K4_33 : Int32 → Option (Int32)} (hK4_33 : ∀ (l2 : Int32), K4_33 l2 = some out → V X cX9_neighbours "FarDrum$Valley" 0 0 (wX9_neighbours (xG X) q_a0 q_a0_ways v_a0_villages u_a0_deaf u_a0_reach u_a0_start u_a0_reachTold u_a0_startTold u_a0_slow m_a0_ways) [none, none, some (.int l2), none] 33 []) : ∀ (n : Nat) (l2 : Int32) (l3 : Int32), fX9_neighbours_L4 l1 v_a0_villages m_a0_ways K4_33 n l2 l3 = some out → V X cX9_neighbours "FarDrum$Valley" 0 0 (wX9_neighbours (xG X) q_a0 q_a0_ways v_a0_villages u_a0_deaf u_a0_reach u_a0_start u_a0_reachTold u_a0_startTold u_a0_slow m_a0_ways) [some (.ref q_a0), some (.int l1), some (.int l2), some (.int l3)] 4 [] := by
  intro n
  induction n with
  | zero => intro l2 l3 hf; cases hf
  | succ n ih => intro l2 l3 hf; exact tX9_neighbours_4 hX hQ ih hK4_33 hf
set_option maxRecDepth 20000 in
theorem tX9_neighbours_0 {out : Int32} (hX : xk X = kX9_neighbours) (hQ : xQ X = qE (some (.int out)) (wX9_neighbours (xG X) q_a0 q_a0_ways v_a0_villages u_a0_deaf u_a0_reach u_a0_start u_a0_reachTold u_a0_startTold u_a0_slow m_a0_ways)) (hf : fX9_neighbours N l1 v_a0_villages m_a0_ways = some out) : V X cX9_neighbours "FarDrum$Valley" 0 0 (wX9_neighbours (xG X) q_a0 q_a0_ways v_a0_villages u_a0_deaf u_a0_reach u_a0_start u_a0_reachTold u_a0_startTold u_a0_slow m_a0_ways) [some (.ref q_a0), some (.int l1), none, none] 0 [] := by
  unfold fX9_neighbours at hf
  refine V.iconst (pc := 0) (v := 0) dX9_neighbours_0 (by decide) ?_
  refine V.istoren (pc := 1) dX9_neighbours_1 rfl rfl rfl ?_
  refine V.iconst (pc := 2) (v := 0) dX9_neighbours_2 (by decide) ?_
  refine V.istoren (pc := 3) dX9_neighbours_3 rfl rfl rfl ?_
  refine tX9_neighbours_L4 hX hQ ?_ _ _ _ hf
  · intro l2k4_33 hf
    refine V.iloadn (pc := 33) dX9_neighbours_33 rfl ?_
    exact V.iretE (pc := 34) hX kX9_neighbours_r hQ dX9_neighbours_34 (by cases hf; rfl) (by cases hf; rfl)
end
theorem oX9_neighbours {l : Launch} {G : GT} {N : Nat} {q_a0 : Nat} {q_a0_ways : Nat} {v_a0_villages : Int32} {u_a0_deaf : Value} {u_a0_reach : Value} {u_a0_start : Value} {u_a0_reachTold : Value} {u_a0_startTold : Value} {u_a0_slow : Value} {m_a0_ways : Nat → Int32} {l1 : Int32} {out : Int32} (hf : fX9_neighbours N l1 v_a0_villages m_a0_ways = some out) : Ct (l, G, kX9_neighbours, wX9_neighbours G q_a0 q_a0_ways v_a0_villages u_a0_deaf u_a0_reach u_a0_start u_a0_reachTold u_a0_startTold u_a0_slow m_a0_ways, [.ref q_a0, .int l1], qE (some (.int out)) (wX9_neighbours G q_a0 q_a0_ways v_a0_villages u_a0_deaf u_a0_reach u_a0_start u_a0_reachTold u_a0_startTold u_a0_slow m_a0_ways)) :=
  Ct.of [some (.ref q_a0), some (.int l1), none, none] kX9_neighbours_p rfl rfl rfl ((tX9_neighbours_0 (X := (l, G, kX9_neighbours, wX9_neighbours G q_a0 q_a0_ways v_a0_villages u_a0_deaf u_a0_reach u_a0_start u_a0_reachTold u_a0_startTold u_a0_slow m_a0_ways, [.ref q_a0, .int l1], qE (some (.int out)) (wX9_neighbours G q_a0 q_a0_ways v_a0_villages u_a0_deaf u_a0_reach u_a0_start u_a0_reachTold u_a0_startTold u_a0_slow m_a0_ways))) rfl rfl hf))

theorem lkm_X9_42 : Cond.methodLink "FarDrum$Valley" 42 Lib.Math.max.name ∈ gt ∧ Cond.static Lib.Math.max.name ∈ gt ∧ Cond.initialized "java/lang/Math" ∈ gt ∧ Cond.code Lib.Math.max.name Lib.Math.max.code 2 (some .int) ∈ gt := ⟨kw_3_204, kw_3_205, kw_1_14, kw_3_206⟩
def wX9_longestWay (G : GT) (q_a0 : Nat) (q_a0_ways : Nat) (v_a0_villages : Int32) (u_a0_deaf : Value) (u_a0_reach : Value) (u_a0_start : Value) (u_a0_reachTold : Value) (u_a0_startTold : Value) (u_a0_slow : Value) (m_a0_ways : Nat → Int32) : va_W := [(q_a0, .inr (9, [.int v_a0_villages, u_a0_deaf, u_a0_reach, u_a0_start, u_a0_reachTold, u_a0_startTold, u_a0_slow, .ref q_a0_ways])), (q_a0_ways, .inl (G.2 0, 36, .inl m_a0_ways))]
def kX9_longestWay : KT := (yX9_longestWay, cX9_longestWay, 4, (some .int), 1, 0, 0)
theorem kX9_longestWay_r : kr kX9_longestWay = (some .int) ∧ kmc kX9_longestWay = 0 ∧ kms kX9_longestWay = 0 := ⟨rfl, rfl, rfl⟩
theorem kX9_longestWay_p : plainName (ky kX9_longestWay).cls = true := by decide +kernel
def fX9_longestWay_4 (B4 : Int32 → Int32 → Option (Int32)) (K4_29 : Int32 → Option (Int32)) (l1 : Int32) (l2 : Int32) (l3 : Int32) (v_a0_villages : Int32) (m_a0_ways : Nat → Int32) : Option (Int32) :=
  if v_a0_villages ≤ l3 then (K4_29 l2)
  else (Option.bind (fX9_between l1 l3 m_a0_ways) fun o16 =>
  lti (if l2 < o16 then o16 else l2) fun y22 =>
  B4 y22 (l3 + (1 : Int32)))
def fX9_longestWay_L4 (l1 : Int32) (v_a0_villages : Int32) (m_a0_ways : Nat → Int32) (K4_29 : Int32 → Option (Int32)) : Nat → Int32 → Int32 → Option (Int32)
  | 0, _, _ => none
  | n + 1, l2, l3 => fX9_longestWay_4 (fX9_longestWay_L4 l1 v_a0_villages m_a0_ways K4_29 n) K4_29 l1 l2 l3 v_a0_villages m_a0_ways
def fX9_longestWay (N : Nat) (l1 : Int32) (v_a0_villages : Int32) (m_a0_ways : Nat → Int32) : Option (Int32) :=
  fX9_longestWay_L4 l1 v_a0_villages m_a0_ways
      (fun l2k4_29 => some l2k4_29) N (0 : Int32) (0 : Int32)
section
variable {X : XT} {N : Nat} {q_a0 : Nat} {q_a0_ways : Nat} {v_a0_villages : Int32} {u_a0_deaf : Value} {u_a0_reach : Value} {u_a0_start : Value} {u_a0_reachTold : Value} {u_a0_startTold : Value} {u_a0_slow : Value} {m_a0_ways : Nat → Int32} {l1 : Int32} {l2 : Int32} {l3 : Int32}
set_option maxRecDepth 20000 in
theorem tX9_longestWay_4 {out : Int32} (hX : xk X = kX9_longestWay) (hQ : xQ X = qE (some (.int out)) (wX9_longestWay (xG X) q_a0 q_a0_ways v_a0_villages u_a0_deaf u_a0_reach u_a0_start u_a0_reachTold u_a0_startTold u_a0_slow m_a0_ways)) {B4 : Int32 → Int32 → Option (Int32)} {K4_29 : Int32 → Option (Int32)} (hB4 : ∀ (l2 : Int32) (l3 : Int32), B4 l2 l3 = some out → V X cX9_longestWay "FarDrum$Valley" 0 0 (wX9_longestWay (xG X) q_a0 q_a0_ways v_a0_villages u_a0_deaf u_a0_reach u_a0_start u_a0_reachTold u_a0_startTold u_a0_slow m_a0_ways) [some (.ref q_a0), some (.int l1), some (.int l2), some (.int l3)] 4 []) (hK4_29 : ∀ (l2 : Int32), K4_29 l2 = some out → V X cX9_longestWay "FarDrum$Valley" 0 0 (wX9_longestWay (xG X) q_a0 q_a0_ways v_a0_villages u_a0_deaf u_a0_reach u_a0_start u_a0_reachTold u_a0_startTold u_a0_slow m_a0_ways) [none, none, some (.int l2), none] 29 []) (hf : fX9_longestWay_4 B4 K4_29 l1 l2 l3 v_a0_villages m_a0_ways = some out) : V X cX9_longestWay "FarDrum$Valley" 0 0 (wX9_longestWay (xG X) q_a0 q_a0_ways v_a0_villages u_a0_deaf u_a0_reach u_a0_start u_a0_reachTold u_a0_startTold u_a0_slow m_a0_ways) [some (.ref q_a0), some (.int l1), some (.int l2), some (.int l3)] 4 [] := by
  unfold fX9_longestWay_4 at hf
  refine V.iloadn (pc := 4) dX9_longestWay_4 rfl ?_
  refine V.aloadn (pc := 5) dX9_longestWay_5 rfl ?_
  refine V.getf (q := 0) (pc := 6) dX9_longestWay_6 fk_X9_22_9 rfl rfl ?_
  refine V.icmp_ge (pc := 9) (tgt := 29) dX9_longestWay_9 (by decide) hf (fun hf => ?_) (fun hf => ?_)
  · refine V.mask (pc := 29) [false, false, true, false] rfl rfl ?_
    exact hK4_29 _ hf
  · refine V.iloadn (pc := 12) dX9_longestWay_12 rfl ?_
    refine V.aloadn (pc := 13) dX9_longestWay_13 rfl ?_
    refine V.iloadn (pc := 14) dX9_longestWay_14 rfl ?_
    refine V.iloadn (pc := 15) dX9_longestWay_15 rfl ?_
    refine V.callVi (pc := 16) (q := 0) (wr := []) (wd' := fun o16 => wX9_longestWay (xG X) q_a0 q_a0_ways v_a0_villages u_a0_deaf u_a0_reach u_a0_start u_a0_reachTold u_a0_startTold u_a0_slow m_a0_ways) [.int l1, .int l3] (st := [.int l2]) hf (fun _ h => oX9_between (q_a0 := q_a0) (q_a0_ways := q_a0_ways) (u_a0_villages := ((.int v_a0_villages))) (u_a0_deaf := u_a0_deaf) (u_a0_reach := u_a0_reach) (u_a0_start := u_a0_start) (u_a0_reachTold := u_a0_reachTold) (u_a0_startTold := u_a0_startTold) (u_a0_slow := u_a0_slow) (m_a0_ways := m_a0_ways) (l1 := l1) (l2 := l3) h) lkV_X9_38 dX9_longestWay_16 hX rfl ⟨rfl, rfl⟩ ⟨rfl, rfl⟩ rfl rfl rfl rfl rfl [0, 1] [] [0, 1] rfl rfl rfl rfl rfl (fun _ => rfl) rfl (fun o16 hf => ?_)
    refine V.mmax (pc := 19) hX rfl dX9_longestWay_19 lkm_X9_42 rfl ⟨rfl, rfl⟩ ?_
    refine V.topi hf (fun y22 hf => ?_)
    refine V.istoren (pc := 22) dX9_longestWay_22 rfl rfl rfl ?_
    refine V.iinc (pc := 23) (v := 1) dX9_longestWay_23 rfl rfl (by decide) rfl ?_
    refine V.goto (pc := 26) (tgt := 4) dX9_longestWay_26 (by decide) ?_
    exact hB4 _ _ hf
theorem tX9_longestWay_L4 {out : Int32} (hX : xk X = kX9_longestWay) (hQ : xQ X = qE (some (.int out)) (wX9_longestWay (xG X) q_a0 q_a0_ways v_a0_villages u_a0_deaf u_a0_reach u_a0_start u_a0_reachTold u_a0_startTold u_a0_slow m_a0_ways)) {K4_29 : Int32 → Option (Int32)} (hK4_29 : ∀ (l2 : Int32), K4_29 l2 = some out → V X cX9_longestWay "FarDrum$Valley" 0 0 (wX9_longestWay (xG X) q_a0 q_a0_ways v_a0_villages u_a0_deaf u_a0_reach u_a0_start u_a0_reachTold u_a0_startTold u_a0_slow m_a0_ways) [none, none, some (.int l2), none] 29 []) : ∀ (n : Nat) (l2 : Int32) (l3 : Int32), fX9_longestWay_L4 l1 v_a0_villages m_a0_ways K4_29 n l2 l3 = some out → V X cX9_longestWay "FarDrum$Valley" 0 0 (wX9_longestWay (xG X) q_a0 q_a0_ways v_a0_villages u_a0_deaf u_a0_reach u_a0_start u_a0_reachTold u_a0_startTold u_a0_slow m_a0_ways) [some (.ref q_a0), some (.int l1), some (.int l2), some (.int l3)] 4 [] := by
  intro n
  induction n with
  | zero => intro l2 l3 hf; cases hf
  | succ n ih => intro l2 l3 hf; exact tX9_longestWay_4 hX hQ ih hK4_29 hf
set_option maxRecDepth 20000 in
theorem tX9_longestWay_0 {out : Int32} (hX : xk X = kX9_longestWay) (hQ : xQ X = qE (some (.int out)) (wX9_longestWay (xG X) q_a0 q_a0_ways v_a0_villages u_a0_deaf u_a0_reach u_a0_start u_a0_reachTold u_a0_startTold u_a0_slow m_a0_ways)) (hf : fX9_longestWay N l1 v_a0_villages m_a0_ways = some out) : V X cX9_longestWay "FarDrum$Valley" 0 0 (wX9_longestWay (xG X) q_a0 q_a0_ways v_a0_villages u_a0_deaf u_a0_reach u_a0_start u_a0_reachTold u_a0_startTold u_a0_slow m_a0_ways) [some (.ref q_a0), some (.int l1), none, none] 0 [] := by
  unfold fX9_longestWay at hf
  refine V.iconst (pc := 0) (v := 0) dX9_longestWay_0 (by decide) ?_
  refine V.istoren (pc := 1) dX9_longestWay_1 rfl rfl rfl ?_
  refine V.iconst (pc := 2) (v := 0) dX9_longestWay_2 (by decide) ?_
  refine V.istoren (pc := 3) dX9_longestWay_3 rfl rfl rfl ?_
  refine tX9_longestWay_L4 hX hQ ?_ _ _ _ hf
  · intro l2k4_29 hf
    refine V.iloadn (pc := 29) dX9_longestWay_29 rfl ?_
    exact V.iretE (pc := 30) hX kX9_longestWay_r hQ dX9_longestWay_30 (by cases hf; rfl) (by cases hf; rfl)
end
theorem oX9_longestWay {l : Launch} {G : GT} {N : Nat} {q_a0 : Nat} {q_a0_ways : Nat} {v_a0_villages : Int32} {u_a0_deaf : Value} {u_a0_reach : Value} {u_a0_start : Value} {u_a0_reachTold : Value} {u_a0_startTold : Value} {u_a0_slow : Value} {m_a0_ways : Nat → Int32} {l1 : Int32} {out : Int32} (hf : fX9_longestWay N l1 v_a0_villages m_a0_ways = some out) : Ct (l, G, kX9_longestWay, wX9_longestWay G q_a0 q_a0_ways v_a0_villages u_a0_deaf u_a0_reach u_a0_start u_a0_reachTold u_a0_startTold u_a0_slow m_a0_ways, [.ref q_a0, .int l1], qE (some (.int out)) (wX9_longestWay G q_a0 q_a0_ways v_a0_villages u_a0_deaf u_a0_reach u_a0_start u_a0_reachTold u_a0_startTold u_a0_slow m_a0_ways)) :=
  Ct.of [some (.ref q_a0), some (.int l1), none, none] kX9_longestWay_p rfl rfl rfl ((tX9_longestWay_0 (X := (l, G, kX9_longestWay, wX9_longestWay G q_a0 q_a0_ways v_a0_villages u_a0_deaf u_a0_reach u_a0_start u_a0_reachTold u_a0_startTold u_a0_slow m_a0_ways, [.ref q_a0, .int l1], qE (some (.int out)) (wX9_longestWay G q_a0 q_a0_ways v_a0_villages u_a0_deaf u_a0_reach u_a0_start u_a0_reachTold u_a0_startTold u_a0_slow m_a0_ways))) rfl rfl hf))

theorem inX7 : ∀ w ∈ u_ws RX7 TX7 11, w ∈ gt := lays_in (fun k hk => match k, hk with | 0, _ => kw_1_132 | 1, _ => kw_1_134 | 2, _ => kw_1_136 | 3, _ => kw_1_138 | 4, _ => kw_1_140 | 5, _ => kw_1_142 | 6, _ => kw_1_144 | 7, _ => kw_1_146 | 8, _ => kw_1_148 | 9, _ => kw_1_150 | 10, _ => kw_1_152 | k + 11, hk => absurd hk (by omega))
theorem fk_X7_27_7 : Fk "FarDrum$State" 27 7 0 := ⟨RX7, TX7, 11, "FarDrum$State", rfl, inX7, by decide, kw_1_105, Or.inl rfl⟩
theorem pk_X7_27_7 : Pk "FarDrum$State" 27 7 0 .int false := ⟨RX7, TX7, 11, "FarDrum$State", tyX7, rfl, inX7, by decide, kw_1_105, Or.inl rfl, tyX7_ok, nmX7, rfl, by decide +kernel, fun h => by cases h⟩
theorem pk_X7_31_7 : Pk "FarDrum$State" 31 7 1 .int false := ⟨RX7, TX7, 11, "FarDrum$State", tyX7, rfl, inX7, by decide, kw_1_107, Or.inl rfl, tyX7_ok, nmX7, rfl, by decide +kernel, fun h => by cases h⟩
theorem pk_X7_34_7 : Pk "FarDrum$State" 34 7 2 .int false := ⟨RX7, TX7, 11, "FarDrum$State", tyX7, rfl, inX7, by decide, kw_1_109, Or.inl rfl, tyX7_ok, nmX7, rfl, by decide +kernel, fun h => by cases h⟩
theorem fk_X7_15_7 : Fk "FarDrum$State" 15 7 7 := ⟨RX7, TX7, 11, "FarDrum$State", rfl, inX7, by decide, kw_1_123, Or.inl rfl⟩
def wX7_strike (G : GT) (q_a0 : Nat) (q_a0_struck : Nat) (v_a0_strokes : Int32) (v_a0_beat : Int32) (v_a0_place : Int32) (u_a0_fog : Value) (u_a0_deaf : Value) (u_a0_mules : Value) (u_a0_slow : Value) (u_a0_muleFrom : Value) (u_a0_muleTo : Value) (u_a0_muleBeats : Value) (m_a0_struck : Nat → Int32) : va_W := [(q_a0, .inr (7, [.int v_a0_strokes, .int v_a0_beat, .int v_a0_place, u_a0_fog, u_a0_deaf, u_a0_mules, u_a0_slow, .ref q_a0_struck, u_a0_muleFrom, u_a0_muleTo, u_a0_muleBeats])), (q_a0_struck, .inl (G.2 0, 6, .inl m_a0_struck))]
def kX7_strike : KT := (yX7_strike, cX7_strike, 3, none, 0, 0, 0)
theorem kX7_strike_r : kr kX7_strike = none ∧ kmc kX7_strike = 0 ∧ kms kX7_strike = 0 := ⟨rfl, rfl, rfl⟩
theorem kX7_strike_p : plainName (ky kX7_strike).cls = true := by decide +kernel
def fX7_strike (l1 : Int32) (l2 : Int32) (v_a0_strokes : Int32) (m_a0_struck : Nat → Int32) : Option (Int32 × Int32 × Int32 × (Nat → Int32)) :=
  lti (v_a0_strokes + (1 : Int32)) fun y7 =>
  rdi 6 m_a0_struck l1 fun x26 =>
  wri 6 m_a0_struck l1 (x26 + (1 : Int32)) fun g29 =>
  some (y7, l2, l1, g29)
section
variable {X : XT} {N : Nat} {q_a0 : Nat} {q_a0_struck : Nat} {v_a0_strokes : Int32} {v_a0_beat : Int32} {v_a0_place : Int32} {u_a0_fog : Value} {u_a0_deaf : Value} {u_a0_mules : Value} {u_a0_slow : Value} {u_a0_muleFrom : Value} {u_a0_muleTo : Value} {u_a0_muleBeats : Value} {m_a0_struck : Nat → Int32} {l1 : Int32} {l2 : Int32}
set_option maxRecDepth 20000 in
theorem tX7_strike_0 {out : Int32 × Int32 × Int32 × (Nat → Int32)} (hX : xk X = kX7_strike) (hQ : xQ X = qE none (wX7_strike (xG X) q_a0 q_a0_struck out.1 out.2.1 out.2.2.1 u_a0_fog u_a0_deaf u_a0_mules u_a0_slow u_a0_muleFrom u_a0_muleTo u_a0_muleBeats out.2.2.2)) (hf : fX7_strike l1 l2 v_a0_strokes m_a0_struck = some out) : V X cX7_strike "FarDrum$State" 0 0 (wX7_strike (xG X) q_a0 q_a0_struck v_a0_strokes v_a0_beat v_a0_place u_a0_fog u_a0_deaf u_a0_mules u_a0_slow u_a0_muleFrom u_a0_muleTo u_a0_muleBeats m_a0_struck) [some (.ref q_a0), some (.int l1), some (.int l2)] 0 [] := by
  unfold fX7_strike at hf
  refine V.aloadn (pc := 0) dX7_strike_0 rfl ?_
  refine V.dup (pc := 1) dX7_strike_1 rfl ?_
  refine V.getf (q := 0) (pc := 2) dX7_strike_2 fk_X7_27_7 rfl rfl ?_
  refine V.iconst (pc := 5) (v := 1) dX7_strike_5 (by decide) ?_
  refine V.iadd (pc := 6) dX7_strike_6 ?_
  refine V.topi hf (fun y7 hf => ?_)
  refine V.putf (q := 0) (wd' := wX7_strike (xG X) q_a0 q_a0_struck y7 v_a0_beat v_a0_place u_a0_fog u_a0_deaf u_a0_mules u_a0_slow u_a0_muleFrom u_a0_muleTo u_a0_muleBeats m_a0_struck) (pc := 7) dX7_strike_7 pk_X7_27_7 rfl rfl rfl rfl rfl ?_
  refine V.aloadn (pc := 10) dX7_strike_10 rfl ?_
  refine V.iloadn (pc := 11) dX7_strike_11 rfl ?_
  refine V.putf (q := 0) (wd' := wX7_strike (xG X) q_a0 q_a0_struck y7 l2 v_a0_place u_a0_fog u_a0_deaf u_a0_mules u_a0_slow u_a0_muleFrom u_a0_muleTo u_a0_muleBeats m_a0_struck) (pc := 12) dX7_strike_12 pk_X7_31_7 rfl rfl rfl rfl rfl ?_
  refine V.aloadn (pc := 15) dX7_strike_15 rfl ?_
  refine V.iloadn (pc := 16) dX7_strike_16 rfl ?_
  refine V.putf (q := 0) (wd' := wX7_strike (xG X) q_a0 q_a0_struck y7 l2 l1 u_a0_fog u_a0_deaf u_a0_mules u_a0_slow u_a0_muleFrom u_a0_muleTo u_a0_muleBeats m_a0_struck) (pc := 17) dX7_strike_17 pk_X7_34_7 rfl rfl rfl rfl rfl ?_
  refine V.aloadn (pc := 20) dX7_strike_20 rfl ?_
  refine V.getf (q := 0) (pc := 21) dX7_strike_21 fk_X7_15_7 rfl rfl ?_
  refine V.iloadn (pc := 24) dX7_strike_24 rfl ?_
  refine V.dup2 (pc := 25) dX7_strike_25 ⟨rfl, rfl⟩ ?_
  refine V.iald (pc := 26) (q := 1) dX7_strike_26 rfl hf (fun x26 hf => ?_)
  refine V.iconst (pc := 27) (v := 1) dX7_strike_27 (by decide) ?_
  refine V.iadd (pc := 28) dX7_strike_28 ?_
  refine V.iast (pc := 29) (q := 1) (wd' := fun g29 => wX7_strike (xG X) q_a0 q_a0_struck y7 l2 l1 u_a0_fog u_a0_deaf u_a0_mules u_a0_slow u_a0_muleFrom u_a0_muleTo u_a0_muleBeats g29) dX7_strike_29 rfl hf (fun _ => rfl) (fun g29 hf => ?_)
  exact V.vretE (pc := 30) hX kX7_strike_r hQ dX7_strike_30 (by cases hf; rfl) (by cases hf; rfl)
end
theorem oX7_strike {l : Launch} {G : GT} {q_a0 : Nat} {q_a0_struck : Nat} {v_a0_strokes : Int32} {v_a0_beat : Int32} {v_a0_place : Int32} {u_a0_fog : Value} {u_a0_deaf : Value} {u_a0_mules : Value} {u_a0_slow : Value} {u_a0_muleFrom : Value} {u_a0_muleTo : Value} {u_a0_muleBeats : Value} {m_a0_struck : Nat → Int32} {l1 : Int32} {l2 : Int32} {out : Int32 × Int32 × Int32 × (Nat → Int32)} (hf : fX7_strike l1 l2 v_a0_strokes m_a0_struck = some out) : Ct (l, G, kX7_strike, wX7_strike G q_a0 q_a0_struck v_a0_strokes v_a0_beat v_a0_place u_a0_fog u_a0_deaf u_a0_mules u_a0_slow u_a0_muleFrom u_a0_muleTo u_a0_muleBeats m_a0_struck, [.ref q_a0, .int l1, .int l2], qE none (wX7_strike G q_a0 q_a0_struck out.1 out.2.1 out.2.2.1 u_a0_fog u_a0_deaf u_a0_mules u_a0_slow u_a0_muleFrom u_a0_muleTo u_a0_muleBeats out.2.2.2)) :=
  Ct.of [some (.ref q_a0), some (.int l1), some (.int l2)] kX7_strike_p rfl rfl rfl ((tX7_strike_0 (X := (l, G, kX7_strike, wX7_strike G q_a0 q_a0_struck v_a0_strokes v_a0_beat v_a0_place u_a0_fog u_a0_deaf u_a0_mules u_a0_slow u_a0_muleFrom u_a0_muleTo u_a0_muleBeats m_a0_struck, [.ref q_a0, .int l1, .int l2], qE none (wX7_strike G q_a0 q_a0_struck out.1 out.2.1 out.2.2.1 u_a0_fog u_a0_deaf u_a0_mules u_a0_slow u_a0_muleFrom u_a0_muleTo u_a0_muleBeats out.2.2.2))) rfl rfl hf))

theorem pk_X7_37_7 : Pk "FarDrum$State" 37 7 3 .int false := ⟨RX7, TX7, 11, "FarDrum$State", tyX7, rfl, inX7, by decide, kw_1_111, Or.inl rfl, tyX7_ok, nmX7, rfl, by decide +kernel, fun h => by cases h⟩
theorem fk_X7_40_9 : Fk "FarDrum$State" 40 9 1 := ⟨RX9, TX9, 8, "FarDrum$Valley", rfl, inX9, by decide, kw_1_66, Or.inl rfl⟩
theorem pk_X7_45_7 : Pk "FarDrum$State" 45 7 4 .int false := ⟨RX7, TX7, 11, "FarDrum$State", tyX7, rfl, inX7, by decide, kw_1_114, Or.inl rfl, tyX7_ok, nmX7, rfl, by decide +kernel, fun h => by cases h⟩
theorem pk_X7_46_7 : Pk "FarDrum$State" 46 7 5 .int false := ⟨RX7, TX7, 11, "FarDrum$State", tyX7, rfl, inX7, by decide, kw_1_116, Or.inl rfl, tyX7_ok, nmX7, rfl, by decide +kernel, fun h => by cases h⟩
theorem fk_X7_9_7 : Fk "FarDrum$State" 9 7 6 := ⟨RX7, TX7, 11, "FarDrum$State", rfl, inX7, by decide, kw_1_119, Or.inl rfl⟩
theorem fk_X7_49_9 : Fk "FarDrum$State" 49 9 6 := ⟨RX9, TX9, 8, "FarDrum$Valley", rfl, inX9, by decide, kw_1_79, Or.inl rfl⟩
theorem fk_X7_50_9 : Fk "FarDrum$State" 50 9 0 := ⟨RX9, TX9, 8, "FarDrum$Valley", rfl, inX9, by decide, kw_1_62, Or.inl rfl⟩
theorem fk_X7_53_9 : Fk "FarDrum$State" 53 9 3 := ⟨RX9, TX9, 8, "FarDrum$Valley", rfl, inX9, by decide, kw_1_71, Or.inl rfl⟩
theorem lkb_X7_strike : LkB kX7_strike 2 := ⟨kw_2_194, kw_1_4, ⟨by decide, by decide⟩, by decide +kernel, by decide⟩
theorem lkV_X7_56 : LkV "FarDrum$State" 56 kX7_strike 2 := ⟨lkb_X7_strike, kw_2_191, kw_2_192, kw_2_193⟩
def wX7_begin (G : GT) (q_a0 : Nat) (q_a0_slow : Nat) (q_a0_struck : Nat) (q_a1 : Nat) (q_a1_slow : Nat) (v_a0_strokes : Int32) (v_a0_beat : Int32) (v_a0_place : Int32) (v_a0_fog : Int32) (v_a0_deaf : Int32) (v_a0_mules : Int32) (u_a0_muleFrom : Value) (u_a0_muleTo : Value) (u_a0_muleBeats : Value) (m_a0_slow : Nat → Int32) (m_a0_struck : Nat → Int32) (v_a1_villages : Int32) (v_a1_deaf : Int32) (u_a1_reach : Value) (v_a1_start : Int32) (u_a1_reachTold : Value) (u_a1_startTold : Value) (u_a1_ways : Value) (m_a1_slow : Nat → Int32) : va_W := [(q_a0, .inr (7, [.int v_a0_strokes, .int v_a0_beat, .int v_a0_place, .int v_a0_fog, .int v_a0_deaf, .int v_a0_mules, .ref q_a0_slow, .ref q_a0_struck, u_a0_muleFrom, u_a0_muleTo, u_a0_muleBeats])), (q_a0_slow, .inl (G.2 0, 6, .inl m_a0_slow)), (q_a0_struck, .inl (G.2 0, 6, .inl m_a0_struck)), (q_a1, .inr (9, [.int v_a1_villages, .int v_a1_deaf, u_a1_reach, .int v_a1_start, u_a1_reachTold, u_a1_startTold, .ref q_a1_slow, u_a1_ways])), (q_a1_slow, .inl (G.2 0, 6, .inl m_a1_slow))]
def kX7_begin : KT := (yX7_begin, cX7_begin, 3, none, 1, 0, 0)
theorem kX7_begin_r : kr kX7_begin = none ∧ kmc kX7_begin = 0 ∧ kms kX7_begin = 0 := ⟨rfl, rfl, rfl⟩
theorem kX7_begin_p : plainName (ky kX7_begin).cls = true := by decide +kernel
def fX7_begin_35 (B35 : Int32 → (Nat → Int32) → (Nat → Int32) → Option (Int32 × Int32 × Int32 × Int32 × Int32 × Int32 × (Nat → Int32) × (Nat → Int32))) (K35_66 : (Nat → Int32) → (Nat → Int32) → Option (Int32 × Int32 × Int32 × Int32 × Int32 × Int32 × (Nat → Int32) × (Nat → Int32))) (l2 : Int32) (m_a0_slow : Nat → Int32) (m_a0_struck : Nat → Int32) (m_a1_slow : Nat → Int32) : Option (Int32 × Int32 × Int32 × Int32 × Int32 × Int32 × (Nat → Int32) × (Nat → Int32)) :=
  if (6 : Int32) ≤ l2 then (K35_66 m_a0_slow m_a0_struck)
  else (rdi 6 m_a1_slow l2 fun x51 =>
  wri 6 m_a0_slow l2 x51 fun g52 =>
  wri 6 m_a0_struck l2 (0 : Int32) fun g59 =>
  B35 (l2 + (1 : Int32)) g52 g59)
def fX7_begin_L35 (m_a1_slow : Nat → Int32) (K35_66 : (Nat → Int32) → (Nat → Int32) → Option (Int32 × Int32 × Int32 × Int32 × Int32 × Int32 × (Nat → Int32) × (Nat → Int32))) : Nat → Int32 → (Nat → Int32) → (Nat → Int32) → Option (Int32 × Int32 × Int32 × Int32 × Int32 × Int32 × (Nat → Int32) × (Nat → Int32))
  | 0, _, _, _ => none
  | n + 1, l2, m_a0_slow, m_a0_struck => fX7_begin_35 (fX7_begin_L35 m_a1_slow K35_66 n) K35_66 l2 m_a0_slow m_a0_struck m_a1_slow
def fX7_begin_82 (v_a0_strokes : Int32) (v_a0_beat : Int32) (v_a0_place : Int32) (v_a0_fog : Int32) (v_a0_deaf : Int32) (v_a0_mules : Int32) (m_a0_slow : Nat → Int32) (m_a0_struck : Nat → Int32) : Option (Int32 × Int32 × Int32 × Int32 × Int32 × Int32 × (Nat → Int32) × (Nat → Int32)) :=
  some (v_a0_strokes, v_a0_beat, v_a0_place, v_a0_fog, v_a0_deaf, v_a0_mules, m_a0_slow, m_a0_struck)
def fX7_begin (N : Nat) (m_a0_slow : Nat → Int32) (m_a0_struck : Nat → Int32) (v_a1_villages : Int32) (v_a1_deaf : Int32) (v_a1_start : Int32) (m_a1_slow : Nat → Int32) : Option (Int32 × Int32 × Int32 × Int32 × Int32 × Int32 × (Nat → Int32) × (Nat → Int32)) :=
  fX7_begin_L35 m_a1_slow
      (fun m_a0_slowk35_66 m_a0_struckk35_66 => if v_a1_villages ≤ 0 then (fX7_begin_82 (0 : Int32) (0 : Int32) (0 : Int32) (0 : Int32) v_a1_deaf (0 : Int32) m_a0_slowk35_66 m_a0_struckk35_66)
  else (Option.bind (fX7_strike v_a1_start (0 : Int32) (0 : Int32) m_a0_struckk35_66) fun o79 =>
  fX7_begin_82 o79.1 o79.2.1 o79.2.2.1 (0 : Int32) v_a1_deaf (0 : Int32) m_a0_slowk35_66 o79.2.2.2)) N (0 : Int32) m_a0_slow m_a0_struck
section
variable {X : XT} {N : Nat} {q_a0 : Nat} {q_a0_slow : Nat} {q_a0_struck : Nat} {q_a1 : Nat} {q_a1_slow : Nat} {v_a0_strokes : Int32} {v_a0_beat : Int32} {v_a0_place : Int32} {v_a0_fog : Int32} {v_a0_deaf : Int32} {v_a0_mules : Int32} {u_a0_muleFrom : Value} {u_a0_muleTo : Value} {u_a0_muleBeats : Value} {m_a0_slow : Nat → Int32} {m_a0_struck : Nat → Int32} {v_a1_villages : Int32} {v_a1_deaf : Int32} {u_a1_reach : Value} {v_a1_start : Int32} {u_a1_reachTold : Value} {u_a1_startTold : Value} {u_a1_ways : Value} {m_a1_slow : Nat → Int32} {l2 : Int32}
set_option maxRecDepth 20000 in
theorem tX7_begin_35 {out : Int32 × Int32 × Int32 × Int32 × Int32 × Int32 × (Nat → Int32) × (Nat → Int32)} (hX : xk X = kX7_begin) (hQ : xQ X = qE none (wX7_begin (xG X) q_a0 q_a0_slow q_a0_struck q_a1 q_a1_slow out.1 out.2.1 out.2.2.1 out.2.2.2.1 out.2.2.2.2.1 out.2.2.2.2.2.1 u_a0_muleFrom u_a0_muleTo u_a0_muleBeats out.2.2.2.2.2.2.1 out.2.2.2.2.2.2.2 v_a1_villages v_a1_deaf u_a1_reach v_a1_start u_a1_reachTold u_a1_startTold u_a1_ways m_a1_slow)) {B35 : Int32 → (Nat → Int32) → (Nat → Int32) → Option (Int32 × Int32 × Int32 × Int32 × Int32 × Int32 × (Nat → Int32) × (Nat → Int32))} {K35_66 : (Nat → Int32) → (Nat → Int32) → Option (Int32 × Int32 × Int32 × Int32 × Int32 × Int32 × (Nat → Int32) × (Nat → Int32))} (hB35 : ∀ (l2 : Int32) (m_a0_slow : Nat → Int32) (m_a0_struck : Nat → Int32), B35 l2 m_a0_slow m_a0_struck = some out → V X cX7_begin "FarDrum$State" 0 0 (wX7_begin (xG X) q_a0 q_a0_slow q_a0_struck q_a1 q_a1_slow v_a0_strokes v_a0_beat v_a0_place v_a0_fog v_a0_deaf v_a0_mules u_a0_muleFrom u_a0_muleTo u_a0_muleBeats m_a0_slow m_a0_struck v_a1_villages v_a1_deaf u_a1_reach v_a1_start u_a1_reachTold u_a1_startTold u_a1_ways m_a1_slow) [some (.ref q_a0), some (.ref q_a1), some (.int l2)] 35 []) (hK35_66 : ∀ (m_a0_slow : Nat → Int32) (m_a0_struck : Nat → Int32), K35_66 m_a0_slow m_a0_struck = some out → V X cX7_begin "FarDrum$State" 0 0 (wX7_begin (xG X) q_a0 q_a0_slow q_a0_struck q_a1 q_a1_slow v_a0_strokes v_a0_beat v_a0_place v_a0_fog v_a0_deaf v_a0_mules u_a0_muleFrom u_a0_muleTo u_a0_muleBeats m_a0_slow m_a0_struck v_a1_villages v_a1_deaf u_a1_reach v_a1_start u_a1_reachTold u_a1_startTold u_a1_ways m_a1_slow) [some (.ref q_a0), some (.ref q_a1), none] 66 []) (hf : fX7_begin_35 B35 K35_66 l2 m_a0_slow m_a0_struck m_a1_slow = some out) : V X cX7_begin "FarDrum$State" 0 0 (wX7_begin (xG X) q_a0 q_a0_slow q_a0_struck q_a1 q_a1_slow v_a0_strokes v_a0_beat v_a0_place v_a0_fog v_a0_deaf v_a0_mules u_a0_muleFrom u_a0_muleTo u_a0_muleBeats m_a0_slow m_a0_struck v_a1_villages v_a1_deaf u_a1_reach v_a1_start u_a1_reachTold u_a1_startTold u_a1_ways m_a1_slow) [some (.ref q_a0), some (.ref q_a1), some (.int l2)] 35 [] := by
  unfold fX7_begin_35 at hf
  refine V.iloadn (pc := 35) dX7_begin_35 rfl ?_
  refine V.bipush (pc := 36) (v := 6) dX7_begin_36 (by decide) ?_
  refine V.icmp_ge (pc := 38) (tgt := 66) dX7_begin_38 (by decide) hf (fun hf => ?_) (fun hf => ?_)
  · refine V.mask (pc := 66) [true, true, false] rfl rfl ?_
    exact hK35_66 _ _ hf
  · refine V.aloadn (pc := 41) dX7_begin_41 rfl ?_
    refine V.getf (q := 0) (pc := 42) dX7_begin_42 fk_X7_9_7 rfl rfl ?_
    refine V.iloadn (pc := 45) dX7_begin_45 rfl ?_
    refine V.aloadn (pc := 46) dX7_begin_46 rfl ?_
    refine V.getf (q := 3) (pc := 47) dX7_begin_47 fk_X7_49_9 rfl rfl ?_
    refine V.iloadn (pc := 50) dX7_begin_50 rfl ?_
    refine V.iald (pc := 51) (q := 4) dX7_begin_51 rfl hf (fun x51 hf => ?_)
    refine V.iast (pc := 52) (q := 1) (wd' := fun g52 => wX7_begin (xG X) q_a0 q_a0_slow q_a0_struck q_a1 q_a1_slow v_a0_strokes v_a0_beat v_a0_place v_a0_fog v_a0_deaf v_a0_mules u_a0_muleFrom u_a0_muleTo u_a0_muleBeats g52 m_a0_struck v_a1_villages v_a1_deaf u_a1_reach v_a1_start u_a1_reachTold u_a1_startTold u_a1_ways m_a1_slow) dX7_begin_52 rfl hf (fun _ => rfl) (fun g52 hf => ?_)
    refine V.aloadn (pc := 53) dX7_begin_53 rfl ?_
    refine V.getf (q := 0) (pc := 54) dX7_begin_54 fk_X7_15_7 rfl rfl ?_
    refine V.iloadn (pc := 57) dX7_begin_57 rfl ?_
    refine V.iconst (pc := 58) (v := 0) dX7_begin_58 (by decide) ?_
    refine V.iast (pc := 59) (q := 2) (wd' := fun g59 => wX7_begin (xG X) q_a0 q_a0_slow q_a0_struck q_a1 q_a1_slow v_a0_strokes v_a0_beat v_a0_place v_a0_fog v_a0_deaf v_a0_mules u_a0_muleFrom u_a0_muleTo u_a0_muleBeats g52 g59 v_a1_villages v_a1_deaf u_a1_reach v_a1_start u_a1_reachTold u_a1_startTold u_a1_ways m_a1_slow) dX7_begin_59 rfl hf (fun _ => rfl) (fun g59 hf => ?_)
    refine V.iinc (pc := 60) (v := 1) dX7_begin_60 rfl rfl (by decide) rfl ?_
    refine V.goto (pc := 63) (tgt := 35) dX7_begin_63 (by decide) ?_
    exact hB35 _ _ _ hf
theorem tX7_begin_L35 {out : Int32 × Int32 × Int32 × Int32 × Int32 × Int32 × (Nat → Int32) × (Nat → Int32)} (hX : xk X = kX7_begin) (hQ : xQ X = qE none (wX7_begin (xG X) q_a0 q_a0_slow q_a0_struck q_a1 q_a1_slow out.1 out.2.1 out.2.2.1 out.2.2.2.1 out.2.2.2.2.1 out.2.2.2.2.2.1 u_a0_muleFrom u_a0_muleTo u_a0_muleBeats out.2.2.2.2.2.2.1 out.2.2.2.2.2.2.2 v_a1_villages v_a1_deaf u_a1_reach v_a1_start u_a1_reachTold u_a1_startTold u_a1_ways m_a1_slow)) {K35_66 : (Nat → Int32) → (Nat → Int32) → Option (Int32 × Int32 × Int32 × Int32 × Int32 × Int32 × (Nat → Int32) × (Nat → Int32))} (hK35_66 : ∀ (m_a0_slow : Nat → Int32) (m_a0_struck : Nat → Int32), K35_66 m_a0_slow m_a0_struck = some out → V X cX7_begin "FarDrum$State" 0 0 (wX7_begin (xG X) q_a0 q_a0_slow q_a0_struck q_a1 q_a1_slow v_a0_strokes v_a0_beat v_a0_place v_a0_fog v_a0_deaf v_a0_mules u_a0_muleFrom u_a0_muleTo u_a0_muleBeats m_a0_slow m_a0_struck v_a1_villages v_a1_deaf u_a1_reach v_a1_start u_a1_reachTold u_a1_startTold u_a1_ways m_a1_slow) [some (.ref q_a0), some (.ref q_a1), none] 66 []) : ∀ (n : Nat) (l2 : Int32) (m_a0_slow : Nat → Int32) (m_a0_struck : Nat → Int32), fX7_begin_L35 m_a1_slow K35_66 n l2 m_a0_slow m_a0_struck = some out → V X cX7_begin "FarDrum$State" 0 0 (wX7_begin (xG X) q_a0 q_a0_slow q_a0_struck q_a1 q_a1_slow v_a0_strokes v_a0_beat v_a0_place v_a0_fog v_a0_deaf v_a0_mules u_a0_muleFrom u_a0_muleTo u_a0_muleBeats m_a0_slow m_a0_struck v_a1_villages v_a1_deaf u_a1_reach v_a1_start u_a1_reachTold u_a1_startTold u_a1_ways m_a1_slow) [some (.ref q_a0), some (.ref q_a1), some (.int l2)] 35 [] := by
  intro n
  induction n with
  | zero => intro l2 m_a0_slow m_a0_struck hf; cases hf
  | succ n ih => intro l2 m_a0_slow m_a0_struck hf; exact tX7_begin_35 hX hQ ih hK35_66 hf
set_option maxRecDepth 20000 in
theorem tX7_begin_82 {out : Int32 × Int32 × Int32 × Int32 × Int32 × Int32 × (Nat → Int32) × (Nat → Int32)} (hX : xk X = kX7_begin) (hQ : xQ X = qE none (wX7_begin (xG X) q_a0 q_a0_slow q_a0_struck q_a1 q_a1_slow out.1 out.2.1 out.2.2.1 out.2.2.2.1 out.2.2.2.2.1 out.2.2.2.2.2.1 u_a0_muleFrom u_a0_muleTo u_a0_muleBeats out.2.2.2.2.2.2.1 out.2.2.2.2.2.2.2 v_a1_villages v_a1_deaf u_a1_reach v_a1_start u_a1_reachTold u_a1_startTold u_a1_ways m_a1_slow)) (hf : fX7_begin_82 v_a0_strokes v_a0_beat v_a0_place v_a0_fog v_a0_deaf v_a0_mules m_a0_slow m_a0_struck = some out) : V X cX7_begin "FarDrum$State" 0 0 (wX7_begin (xG X) q_a0 q_a0_slow q_a0_struck q_a1 q_a1_slow v_a0_strokes v_a0_beat v_a0_place v_a0_fog v_a0_deaf v_a0_mules u_a0_muleFrom u_a0_muleTo u_a0_muleBeats m_a0_slow m_a0_struck v_a1_villages v_a1_deaf u_a1_reach v_a1_start u_a1_reachTold u_a1_startTold u_a1_ways m_a1_slow) [none, none, none] 82 [] := by
  unfold fX7_begin_82 at hf
  exact V.vretE (pc := 82) hX kX7_begin_r hQ dX7_begin_82 (by cases hf; rfl) (by cases hf; rfl)
set_option maxRecDepth 20000 in
theorem tX7_begin_0 {out : Int32 × Int32 × Int32 × Int32 × Int32 × Int32 × (Nat → Int32) × (Nat → Int32)} (hX : xk X = kX7_begin) (hQ : xQ X = qE none (wX7_begin (xG X) q_a0 q_a0_slow q_a0_struck q_a1 q_a1_slow out.1 out.2.1 out.2.2.1 out.2.2.2.1 out.2.2.2.2.1 out.2.2.2.2.2.1 u_a0_muleFrom u_a0_muleTo u_a0_muleBeats out.2.2.2.2.2.2.1 out.2.2.2.2.2.2.2 v_a1_villages v_a1_deaf u_a1_reach v_a1_start u_a1_reachTold u_a1_startTold u_a1_ways m_a1_slow)) (hf : fX7_begin N m_a0_slow m_a0_struck v_a1_villages v_a1_deaf v_a1_start m_a1_slow = some out) : V X cX7_begin "FarDrum$State" 0 0 (wX7_begin (xG X) q_a0 q_a0_slow q_a0_struck q_a1 q_a1_slow v_a0_strokes v_a0_beat v_a0_place v_a0_fog v_a0_deaf v_a0_mules u_a0_muleFrom u_a0_muleTo u_a0_muleBeats m_a0_slow m_a0_struck v_a1_villages v_a1_deaf u_a1_reach v_a1_start u_a1_reachTold u_a1_startTold u_a1_ways m_a1_slow) [some (.ref q_a0), some (.ref q_a1), none] 0 [] := by
  unfold fX7_begin at hf
  refine V.aloadn (pc := 0) dX7_begin_0 rfl ?_
  refine V.iconst (pc := 1) (v := 0) dX7_begin_1 (by decide) ?_
  refine V.putf (q := 0) (wd' := wX7_begin (xG X) q_a0 q_a0_slow q_a0_struck q_a1 q_a1_slow (0 : Int32) v_a0_beat v_a0_place v_a0_fog v_a0_deaf v_a0_mules u_a0_muleFrom u_a0_muleTo u_a0_muleBeats m_a0_slow m_a0_struck v_a1_villages v_a1_deaf u_a1_reach v_a1_start u_a1_reachTold u_a1_startTold u_a1_ways m_a1_slow) (pc := 2) dX7_begin_2 pk_X7_27_7 rfl rfl rfl rfl rfl ?_
  refine V.aloadn (pc := 5) dX7_begin_5 rfl ?_
  refine V.iconst (pc := 6) (v := 0) dX7_begin_6 (by decide) ?_
  refine V.putf (q := 0) (wd' := wX7_begin (xG X) q_a0 q_a0_slow q_a0_struck q_a1 q_a1_slow (0 : Int32) (0 : Int32) v_a0_place v_a0_fog v_a0_deaf v_a0_mules u_a0_muleFrom u_a0_muleTo u_a0_muleBeats m_a0_slow m_a0_struck v_a1_villages v_a1_deaf u_a1_reach v_a1_start u_a1_reachTold u_a1_startTold u_a1_ways m_a1_slow) (pc := 7) dX7_begin_7 pk_X7_31_7 rfl rfl rfl rfl rfl ?_
  refine V.aloadn (pc := 10) dX7_begin_10 rfl ?_
  refine V.iconst (pc := 11) (v := 0) dX7_begin_11 (by decide) ?_
  refine V.putf (q := 0) (wd' := wX7_begin (xG X) q_a0 q_a0_slow q_a0_struck q_a1 q_a1_slow (0 : Int32) (0 : Int32) (0 : Int32) v_a0_fog v_a0_deaf v_a0_mules u_a0_muleFrom u_a0_muleTo u_a0_muleBeats m_a0_slow m_a0_struck v_a1_villages v_a1_deaf u_a1_reach v_a1_start u_a1_reachTold u_a1_startTold u_a1_ways m_a1_slow) (pc := 12) dX7_begin_12 pk_X7_34_7 rfl rfl rfl rfl rfl ?_
  refine V.aloadn (pc := 15) dX7_begin_15 rfl ?_
  refine V.iconst (pc := 16) (v := 0) dX7_begin_16 (by decide) ?_
  refine V.putf (q := 0) (wd' := wX7_begin (xG X) q_a0 q_a0_slow q_a0_struck q_a1 q_a1_slow (0 : Int32) (0 : Int32) (0 : Int32) (0 : Int32) v_a0_deaf v_a0_mules u_a0_muleFrom u_a0_muleTo u_a0_muleBeats m_a0_slow m_a0_struck v_a1_villages v_a1_deaf u_a1_reach v_a1_start u_a1_reachTold u_a1_startTold u_a1_ways m_a1_slow) (pc := 17) dX7_begin_17 pk_X7_37_7 rfl rfl rfl rfl rfl ?_
  refine V.aloadn (pc := 20) dX7_begin_20 rfl ?_
  refine V.aloadn (pc := 21) dX7_begin_21 rfl ?_
  refine V.getf (q := 3) (pc := 22) dX7_begin_22 fk_X7_40_9 rfl rfl ?_
  refine V.putf (q := 0) (wd' := wX7_begin (xG X) q_a0 q_a0_slow q_a0_struck q_a1 q_a1_slow (0 : Int32) (0 : Int32) (0 : Int32) (0 : Int32) v_a1_deaf v_a0_mules u_a0_muleFrom u_a0_muleTo u_a0_muleBeats m_a0_slow m_a0_struck v_a1_villages v_a1_deaf u_a1_reach v_a1_start u_a1_reachTold u_a1_startTold u_a1_ways m_a1_slow) (pc := 25) dX7_begin_25 pk_X7_45_7 rfl rfl rfl rfl rfl ?_
  refine V.aloadn (pc := 28) dX7_begin_28 rfl ?_
  refine V.iconst (pc := 29) (v := 0) dX7_begin_29 (by decide) ?_
  refine V.putf (q := 0) (wd' := wX7_begin (xG X) q_a0 q_a0_slow q_a0_struck q_a1 q_a1_slow (0 : Int32) (0 : Int32) (0 : Int32) (0 : Int32) v_a1_deaf (0 : Int32) u_a0_muleFrom u_a0_muleTo u_a0_muleBeats m_a0_slow m_a0_struck v_a1_villages v_a1_deaf u_a1_reach v_a1_start u_a1_reachTold u_a1_startTold u_a1_ways m_a1_slow) (pc := 30) dX7_begin_30 pk_X7_46_7 rfl rfl rfl rfl rfl ?_
  refine V.iconst (pc := 33) (v := 0) dX7_begin_33 (by decide) ?_
  refine V.istoren (pc := 34) dX7_begin_34 rfl rfl rfl ?_
  refine tX7_begin_L35 hX hQ ?_ _ _ _ _ hf
  · intro m_a0_slowk35_66 m_a0_struckk35_66 hf
    refine V.aloadn (pc := 66) dX7_begin_66 rfl ?_
    refine V.getf (q := 3) (pc := 67) dX7_begin_67 fk_X7_50_9 rfl rfl ?_
    refine V.if_le (pc := 70) (tgt := 82) dX7_begin_70 (by decide) hf (fun hf => ?_) (fun hf => ?_)
    · refine V.mask (pc := 82) [false, false, false] rfl rfl ?_
      exact tX7_begin_82 hX hQ hf
    · refine V.aloadn (pc := 73) dX7_begin_73 rfl ?_
      refine V.aloadn (pc := 74) dX7_begin_74 rfl ?_
      refine V.getf (q := 3) (pc := 75) dX7_begin_75 fk_X7_53_9 rfl rfl ?_
      refine V.iconst (pc := 78) (v := 0) dX7_begin_78 (by decide) ?_
      refine V.callVv (pc := 79) (q := 0) (wr := [(q_a0_slow, .inl ((xG X).2 0, 6, .inl m_a0_slowk35_66)), (q_a1, .inr (9, [.int v_a1_villages, .int v_a1_deaf, u_a1_reach, .int v_a1_start, u_a1_reachTold, u_a1_startTold, .ref q_a1_slow, u_a1_ways])), (q_a1_slow, .inl ((xG X).2 0, 6, .inl m_a1_slow))]) (wd' := fun o79 => wX7_begin (xG X) q_a0 q_a0_slow q_a0_struck q_a1 q_a1_slow o79.1 o79.2.1 o79.2.2.1 (0 : Int32) v_a1_deaf (0 : Int32) u_a0_muleFrom u_a0_muleTo u_a0_muleBeats m_a0_slowk35_66 o79.2.2.2 v_a1_villages v_a1_deaf u_a1_reach v_a1_start u_a1_reachTold u_a1_startTold u_a1_ways m_a1_slow) [.int v_a1_start, .int (0 : Int32)] (st := []) hf (fun _ h => oX7_strike (q_a0 := q_a0) (q_a0_struck := q_a0_struck) (v_a0_strokes := (0 : Int32)) (v_a0_beat := (0 : Int32)) (v_a0_place := (0 : Int32)) (u_a0_fog := ((.int (0 : Int32)))) (u_a0_deaf := ((.int v_a1_deaf))) (u_a0_mules := ((.int (0 : Int32)))) (u_a0_slow := ((.ref q_a0_slow))) (u_a0_muleFrom := u_a0_muleFrom) (u_a0_muleTo := u_a0_muleTo) (u_a0_muleBeats := u_a0_muleBeats) (m_a0_struck := m_a0_struckk35_66) (l1 := v_a1_start) (l2 := (0 : Int32)) h) lkV_X7_56 dX7_begin_79 hX rfl ⟨rfl, rfl⟩ ⟨rfl, rfl⟩ rfl rfl rfl rfl rfl [0, 2] [1, 3, 4] [3, 0, 4, 1, 2] rfl rfl rfl rfl rfl (fun _ => rfl) rfl (fun o79 hf => ?_)
      refine V.mask (pc := 82) [false, false, false] rfl rfl ?_
      exact tX7_begin_82 hX hQ hf
end
theorem oX7_begin {l : Launch} {G : GT} {N : Nat} {q_a0 : Nat} {q_a0_slow : Nat} {q_a0_struck : Nat} {q_a1 : Nat} {q_a1_slow : Nat} {v_a0_strokes : Int32} {v_a0_beat : Int32} {v_a0_place : Int32} {v_a0_fog : Int32} {v_a0_deaf : Int32} {v_a0_mules : Int32} {u_a0_muleFrom : Value} {u_a0_muleTo : Value} {u_a0_muleBeats : Value} {m_a0_slow : Nat → Int32} {m_a0_struck : Nat → Int32} {v_a1_villages : Int32} {v_a1_deaf : Int32} {u_a1_reach : Value} {v_a1_start : Int32} {u_a1_reachTold : Value} {u_a1_startTold : Value} {u_a1_ways : Value} {m_a1_slow : Nat → Int32} {out : Int32 × Int32 × Int32 × Int32 × Int32 × Int32 × (Nat → Int32) × (Nat → Int32)} (hf : fX7_begin N m_a0_slow m_a0_struck v_a1_villages v_a1_deaf v_a1_start m_a1_slow = some out) : Ct (l, G, kX7_begin, wX7_begin G q_a0 q_a0_slow q_a0_struck q_a1 q_a1_slow v_a0_strokes v_a0_beat v_a0_place v_a0_fog v_a0_deaf v_a0_mules u_a0_muleFrom u_a0_muleTo u_a0_muleBeats m_a0_slow m_a0_struck v_a1_villages v_a1_deaf u_a1_reach v_a1_start u_a1_reachTold u_a1_startTold u_a1_ways m_a1_slow, [.ref q_a0, .ref q_a1], qE none (wX7_begin G q_a0 q_a0_slow q_a0_struck q_a1 q_a1_slow out.1 out.2.1 out.2.2.1 out.2.2.2.1 out.2.2.2.2.1 out.2.2.2.2.2.1 u_a0_muleFrom u_a0_muleTo u_a0_muleBeats out.2.2.2.2.2.2.1 out.2.2.2.2.2.2.2 v_a1_villages v_a1_deaf u_a1_reach v_a1_start u_a1_reachTold u_a1_startTold u_a1_ways m_a1_slow)) :=
  Ct.of [some (.ref q_a0), some (.ref q_a1), none] kX7_begin_p rfl rfl rfl ((tX7_begin_0 (X := (l, G, kX7_begin, wX7_begin G q_a0 q_a0_slow q_a0_struck q_a1 q_a1_slow v_a0_strokes v_a0_beat v_a0_place v_a0_fog v_a0_deaf v_a0_mules u_a0_muleFrom u_a0_muleTo u_a0_muleBeats m_a0_slow m_a0_struck v_a1_villages v_a1_deaf u_a1_reach v_a1_start u_a1_reachTold u_a1_startTold u_a1_ways m_a1_slow, [.ref q_a0, .ref q_a1], qE none (wX7_begin G q_a0 q_a0_slow q_a0_struck q_a1 q_a1_slow out.1 out.2.1 out.2.2.1 out.2.2.2.1 out.2.2.2.2.1 out.2.2.2.2.2.1 u_a0_muleFrom u_a0_muleTo u_a0_muleBeats out.2.2.2.2.2.2.1 out.2.2.2.2.2.2.2 v_a1_villages v_a1_deaf u_a1_reach v_a1_start u_a1_reachTold u_a1_startTold u_a1_ways m_a1_slow))) rfl rfl hf))

theorem fk_X7_46_7 : Fk "FarDrum$State" 46 7 5 := ⟨RX7, TX7, 11, "FarDrum$State", rfl, inX7, by decide, kw_1_116, Or.inl rfl⟩
theorem fk_X7_18_7 : Fk "FarDrum$State" 18 7 8 := ⟨RX7, TX7, 11, "FarDrum$State", rfl, inX7, by decide, kw_1_126, Or.inl rfl⟩
theorem fk_X7_21_7 : Fk "FarDrum$State" 21 7 9 := ⟨RX7, TX7, 11, "FarDrum$State", rfl, inX7, by decide, kw_1_128, Or.inl rfl⟩
theorem fk_X7_24_7 : Fk "FarDrum$State" 24 7 10 := ⟨RX7, TX7, 11, "FarDrum$State", rfl, inX7, by decide, kw_1_130, Or.inl rfl⟩
def wX7_addMule (G : GT) (q_a0 : Nat) (q_a0_muleBeats : Nat) (q_a0_muleFrom : Nat) (q_a0_muleTo : Nat) (u_a0_strokes : Value) (u_a0_beat : Value) (u_a0_place : Value) (u_a0_fog : Value) (u_a0_deaf : Value) (v_a0_mules : Int32) (u_a0_slow : Value) (u_a0_struck : Value) (m_a0_muleBeats : Nat → Int32) (m_a0_muleFrom : Nat → Int32) (m_a0_muleTo : Nat → Int32) : va_W := [(q_a0, .inr (7, [u_a0_strokes, u_a0_beat, u_a0_place, u_a0_fog, u_a0_deaf, .int v_a0_mules, u_a0_slow, u_a0_struck, .ref q_a0_muleFrom, .ref q_a0_muleTo, .ref q_a0_muleBeats])), (q_a0_muleBeats, .inl (G.2 0, 2, .inl m_a0_muleBeats)), (q_a0_muleFrom, .inl (G.2 0, 2, .inl m_a0_muleFrom)), (q_a0_muleTo, .inl (G.2 0, 2, .inl m_a0_muleTo))]
def kX7_addMule : KT := (yX7_addMule, cX7_addMule, 4, none, 0, 0, 0)
theorem kX7_addMule_r : kr kX7_addMule = none ∧ kmc kX7_addMule = 0 ∧ kms kX7_addMule = 0 := ⟨rfl, rfl, rfl⟩
theorem kX7_addMule_p : plainName (ky kX7_addMule).cls = true := by decide +kernel
def fX7_addMule (l1 : Int32) (l2 : Int32) (l3 : Int32) (v_a0_mules : Int32) (m_a0_muleBeats : Nat → Int32) (m_a0_muleFrom : Nat → Int32) (m_a0_muleTo : Nat → Int32) : Option (Int32 × (Nat → Int32) × (Nat → Int32) × (Nat → Int32)) :=
  if v_a0_mules < (2 : Int32) then (wri 2 m_a0_muleFrom v_a0_mules l1 fun g18 =>
  wri 2 m_a0_muleTo v_a0_mules l2 fun g28 =>
  wri 2 m_a0_muleBeats v_a0_mules l3 fun g38 =>
  lti (v_a0_mules + (1 : Int32)) fun y46 =>
  some (y46, g38, g18, g28))
  else (some (v_a0_mules, m_a0_muleBeats, m_a0_muleFrom, m_a0_muleTo))
section
variable {X : XT} {N : Nat} {q_a0 : Nat} {q_a0_muleBeats : Nat} {q_a0_muleFrom : Nat} {q_a0_muleTo : Nat} {u_a0_strokes : Value} {u_a0_beat : Value} {u_a0_place : Value} {u_a0_fog : Value} {u_a0_deaf : Value} {v_a0_mules : Int32} {u_a0_slow : Value} {u_a0_struck : Value} {m_a0_muleBeats : Nat → Int32} {m_a0_muleFrom : Nat → Int32} {m_a0_muleTo : Nat → Int32} {l1 : Int32} {l2 : Int32} {l3 : Int32}
set_option maxRecDepth 20000 in
theorem tX7_addMule_0 {out : Int32 × (Nat → Int32) × (Nat → Int32) × (Nat → Int32)} (hX : xk X = kX7_addMule) (hQ : xQ X = qE none (wX7_addMule (xG X) q_a0 q_a0_muleBeats q_a0_muleFrom q_a0_muleTo u_a0_strokes u_a0_beat u_a0_place u_a0_fog u_a0_deaf out.1 u_a0_slow u_a0_struck out.2.1 out.2.2.1 out.2.2.2)) (hf : fX7_addMule l1 l2 l3 v_a0_mules m_a0_muleBeats m_a0_muleFrom m_a0_muleTo = some out) : V X cX7_addMule "FarDrum$State" 0 0 (wX7_addMule (xG X) q_a0 q_a0_muleBeats q_a0_muleFrom q_a0_muleTo u_a0_strokes u_a0_beat u_a0_place u_a0_fog u_a0_deaf v_a0_mules u_a0_slow u_a0_struck m_a0_muleBeats m_a0_muleFrom m_a0_muleTo) [some (.ref q_a0), some (.int l1), some (.int l2), some (.int l3)] 0 [] := by
  unfold fX7_addMule at hf
  refine V.aloadn (pc := 0) dX7_addMule_0 rfl ?_
  refine V.getf (q := 0) (pc := 1) dX7_addMule_1 fk_X7_46_7 rfl rfl ?_
  refine V.iconst (pc := 4) (v := 2) dX7_addMule_4 (by decide) ?_
  refine V.icmp_lt (pc := 5) (tgt := 9) dX7_addMule_5 (by decide) hf (fun hf => ?_) (fun hf => ?_)
  · refine V.aloadn (pc := 9) dX7_addMule_9 rfl ?_
    refine V.getf (q := 0) (pc := 10) dX7_addMule_10 fk_X7_18_7 rfl rfl ?_
    refine V.aloadn (pc := 13) dX7_addMule_13 rfl ?_
    refine V.getf (q := 0) (pc := 14) dX7_addMule_14 fk_X7_46_7 rfl rfl ?_
    refine V.iloadn (pc := 17) dX7_addMule_17 rfl ?_
    refine V.iast (pc := 18) (q := 2) (wd' := fun g18 => wX7_addMule (xG X) q_a0 q_a0_muleBeats q_a0_muleFrom q_a0_muleTo u_a0_strokes u_a0_beat u_a0_place u_a0_fog u_a0_deaf v_a0_mules u_a0_slow u_a0_struck m_a0_muleBeats g18 m_a0_muleTo) dX7_addMule_18 rfl hf (fun _ => rfl) (fun g18 hf => ?_)
    refine V.aloadn (pc := 19) dX7_addMule_19 rfl ?_
    refine V.getf (q := 0) (pc := 20) dX7_addMule_20 fk_X7_21_7 rfl rfl ?_
    refine V.aloadn (pc := 23) dX7_addMule_23 rfl ?_
    refine V.getf (q := 0) (pc := 24) dX7_addMule_24 fk_X7_46_7 rfl rfl ?_
    refine V.iloadn (pc := 27) dX7_addMule_27 rfl ?_
    refine V.iast (pc := 28) (q := 3) (wd' := fun g28 => wX7_addMule (xG X) q_a0 q_a0_muleBeats q_a0_muleFrom q_a0_muleTo u_a0_strokes u_a0_beat u_a0_place u_a0_fog u_a0_deaf v_a0_mules u_a0_slow u_a0_struck m_a0_muleBeats g18 g28) dX7_addMule_28 rfl hf (fun _ => rfl) (fun g28 hf => ?_)
    refine V.aloadn (pc := 29) dX7_addMule_29 rfl ?_
    refine V.getf (q := 0) (pc := 30) dX7_addMule_30 fk_X7_24_7 rfl rfl ?_
    refine V.aloadn (pc := 33) dX7_addMule_33 rfl ?_
    refine V.getf (q := 0) (pc := 34) dX7_addMule_34 fk_X7_46_7 rfl rfl ?_
    refine V.iloadn (pc := 37) dX7_addMule_37 rfl ?_
    refine V.iast (pc := 38) (q := 1) (wd' := fun g38 => wX7_addMule (xG X) q_a0 q_a0_muleBeats q_a0_muleFrom q_a0_muleTo u_a0_strokes u_a0_beat u_a0_place u_a0_fog u_a0_deaf v_a0_mules u_a0_slow u_a0_struck g38 g18 g28) dX7_addMule_38 rfl hf (fun _ => rfl) (fun g38 hf => ?_)
    refine V.aloadn (pc := 39) dX7_addMule_39 rfl ?_
    refine V.dup (pc := 40) dX7_addMule_40 rfl ?_
    refine V.getf (q := 0) (pc := 41) dX7_addMule_41 fk_X7_46_7 rfl rfl ?_
    refine V.iconst (pc := 44) (v := 1) dX7_addMule_44 (by decide) ?_
    refine V.iadd (pc := 45) dX7_addMule_45 ?_
    refine V.topi hf (fun y46 hf => ?_)
    refine V.putf (q := 0) (wd' := wX7_addMule (xG X) q_a0 q_a0_muleBeats q_a0_muleFrom q_a0_muleTo u_a0_strokes u_a0_beat u_a0_place u_a0_fog u_a0_deaf y46 u_a0_slow u_a0_struck g38 g18 g28) (pc := 46) dX7_addMule_46 pk_X7_46_7 rfl rfl rfl rfl rfl ?_
    exact V.vretE (pc := 49) hX kX7_addMule_r hQ dX7_addMule_49 (by cases hf; rfl) (by cases hf; rfl)
  · exact V.vretE (pc := 8) hX kX7_addMule_r hQ dX7_addMule_8 (by cases hf; rfl) (by cases hf; rfl)
end
theorem oX7_addMule {l : Launch} {G : GT} {q_a0 : Nat} {q_a0_muleBeats : Nat} {q_a0_muleFrom : Nat} {q_a0_muleTo : Nat} {u_a0_strokes : Value} {u_a0_beat : Value} {u_a0_place : Value} {u_a0_fog : Value} {u_a0_deaf : Value} {v_a0_mules : Int32} {u_a0_slow : Value} {u_a0_struck : Value} {m_a0_muleBeats : Nat → Int32} {m_a0_muleFrom : Nat → Int32} {m_a0_muleTo : Nat → Int32} {l1 : Int32} {l2 : Int32} {l3 : Int32} {out : Int32 × (Nat → Int32) × (Nat → Int32) × (Nat → Int32)} (hf : fX7_addMule l1 l2 l3 v_a0_mules m_a0_muleBeats m_a0_muleFrom m_a0_muleTo = some out) : Ct (l, G, kX7_addMule, wX7_addMule G q_a0 q_a0_muleBeats q_a0_muleFrom q_a0_muleTo u_a0_strokes u_a0_beat u_a0_place u_a0_fog u_a0_deaf v_a0_mules u_a0_slow u_a0_struck m_a0_muleBeats m_a0_muleFrom m_a0_muleTo, [.ref q_a0, .int l1, .int l2, .int l3], qE none (wX7_addMule G q_a0 q_a0_muleBeats q_a0_muleFrom q_a0_muleTo u_a0_strokes u_a0_beat u_a0_place u_a0_fog u_a0_deaf out.1 u_a0_slow u_a0_struck out.2.1 out.2.2.1 out.2.2.2)) :=
  Ct.of [some (.ref q_a0), some (.int l1), some (.int l2), some (.int l3)] kX7_addMule_p rfl rfl rfl ((tX7_addMule_0 (X := (l, G, kX7_addMule, wX7_addMule G q_a0 q_a0_muleBeats q_a0_muleFrom q_a0_muleTo u_a0_strokes u_a0_beat u_a0_place u_a0_fog u_a0_deaf v_a0_mules u_a0_slow u_a0_struck m_a0_muleBeats m_a0_muleFrom m_a0_muleTo, [.ref q_a0, .int l1, .int l2, .int l3], qE none (wX7_addMule G q_a0 q_a0_muleBeats q_a0_muleFrom q_a0_muleTo u_a0_strokes u_a0_beat u_a0_place u_a0_fog u_a0_deaf out.1 u_a0_slow u_a0_struck out.2.1 out.2.2.1 out.2.2.2))) rfl rfl hf))

theorem fk_X7_31_7 : Fk "FarDrum$State" 31 7 1 := ⟨RX7, TX7, 11, "FarDrum$State", rfl, inX7, by decide, kw_1_107, Or.inl rfl⟩
theorem fk_X7_34_7 : Fk "FarDrum$State" 34 7 2 := ⟨RX7, TX7, 11, "FarDrum$State", rfl, inX7, by decide, kw_1_109, Or.inl rfl⟩
theorem fk_X7_37_7 : Fk "FarDrum$State" 37 7 3 := ⟨RX7, TX7, 11, "FarDrum$State", rfl, inX7, by decide, kw_1_111, Or.inl rfl⟩
theorem fk_X7_45_7 : Fk "FarDrum$State" 45 7 4 := ⟨RX7, TX7, 11, "FarDrum$State", rfl, inX7, by decide, kw_1_114, Or.inl rfl⟩
theorem lkc_X7_60 : Cond.methodLink "FarDrum$State" 60 arraycopyName ∈ gt ∧ Cond.native arraycopyName ∈ gt ∧ Cond.static arraycopyName ∈ gt ∧ Cond.initialized "java/lang/System" ∈ gt := ⟨kw_2_199, kw_2_201, kw_2_200, kw_1_15⟩
def wX7_copy (G : GT) (q_a0 : Nat) (q_a0_muleBeats : Nat) (q_a0_muleFrom : Nat) (q_a0_muleTo : Nat) (q_a0_slow : Nat) (q_a0_struck : Nat) (q_a1 : Nat) (q_a1_muleBeats : Nat) (q_a1_muleFrom : Nat) (q_a1_muleTo : Nat) (q_a1_slow : Nat) (q_a1_struck : Nat) (v_a0_strokes : Int32) (v_a0_beat : Int32) (v_a0_place : Int32) (v_a0_fog : Int32) (v_a0_deaf : Int32) (v_a0_mules : Int32) (m_a0_muleBeats : Nat → Int32) (m_a0_muleFrom : Nat → Int32) (m_a0_muleTo : Nat → Int32) (m_a0_slow : Nat → Int32) (m_a0_struck : Nat → Int32) (v_a1_strokes : Int32) (v_a1_beat : Int32) (v_a1_place : Int32) (v_a1_fog : Int32) (v_a1_deaf : Int32) (v_a1_mules : Int32) (m_a1_muleBeats : Nat → Int32) (m_a1_muleFrom : Nat → Int32) (m_a1_muleTo : Nat → Int32) (m_a1_slow : Nat → Int32) (m_a1_struck : Nat → Int32) : va_W := [(q_a0, .inr (7, [.int v_a0_strokes, .int v_a0_beat, .int v_a0_place, .int v_a0_fog, .int v_a0_deaf, .int v_a0_mules, .ref q_a0_slow, .ref q_a0_struck, .ref q_a0_muleFrom, .ref q_a0_muleTo, .ref q_a0_muleBeats])), (q_a0_muleBeats, .inl (G.2 0, 2, .inl m_a0_muleBeats)), (q_a0_muleFrom, .inl (G.2 0, 2, .inl m_a0_muleFrom)), (q_a0_muleTo, .inl (G.2 0, 2, .inl m_a0_muleTo)), (q_a0_slow, .inl (G.2 0, 6, .inl m_a0_slow)), (q_a0_struck, .inl (G.2 0, 6, .inl m_a0_struck)), (q_a1, .inr (7, [.int v_a1_strokes, .int v_a1_beat, .int v_a1_place, .int v_a1_fog, .int v_a1_deaf, .int v_a1_mules, .ref q_a1_slow, .ref q_a1_struck, .ref q_a1_muleFrom, .ref q_a1_muleTo, .ref q_a1_muleBeats])), (q_a1_muleBeats, .inl (G.2 0, 2, .inl m_a1_muleBeats)), (q_a1_muleFrom, .inl (G.2 0, 2, .inl m_a1_muleFrom)), (q_a1_muleTo, .inl (G.2 0, 2, .inl m_a1_muleTo)), (q_a1_slow, .inl (G.2 0, 6, .inl m_a1_slow)), (q_a1_struck, .inl (G.2 0, 6, .inl m_a1_struck))]
def kX7_copy : KT := (yX7_copy, cX7_copy, 2, none, 1, 0, 0)
theorem kX7_copy_r : kr kX7_copy = none ∧ kmc kX7_copy = 0 ∧ kms kX7_copy = 0 := ⟨rfl, rfl, rfl⟩
theorem kX7_copy_p : plainName (ky kX7_copy).cls = true := by decide +kernel
def fX7_copy (m_a0_muleBeats : Nat → Int32) (m_a0_muleFrom : Nat → Int32) (m_a0_muleTo : Nat → Int32) (m_a0_slow : Nat → Int32) (m_a0_struck : Nat → Int32) (v_a1_strokes : Int32) (v_a1_beat : Int32) (v_a1_place : Int32) (v_a1_fog : Int32) (v_a1_deaf : Int32) (v_a1_mules : Int32) (m_a1_muleBeats : Nat → Int32) (m_a1_muleFrom : Nat → Int32) (m_a1_muleTo : Nat → Int32) (m_a1_slow : Nat → Int32) (m_a1_struck : Nat → Int32) : Option (Int32 × Int32 × Int32 × Int32 × Int32 × Int32 × (Nat → Int32) × (Nat → Int32) × (Nat → Int32) × (Nat → Int32) × (Nat → Int32)) :=
  lti (va_cpy m_a1_slow m_a0_slow 0 0 6) fun g60 =>
  lti (va_cpy m_a1_struck m_a0_struck 0 0 6) fun g75 =>
  lti (va_cpy m_a1_muleFrom m_a0_muleFrom 0 0 2) fun g89 =>
  lti (va_cpy m_a1_muleTo m_a0_muleTo 0 0 2) fun g103 =>
  lti (va_cpy m_a1_muleBeats m_a0_muleBeats 0 0 2) fun g117 =>
  some (v_a1_strokes, v_a1_beat, v_a1_place, v_a1_fog, v_a1_deaf, v_a1_mules, g117, g89, g103, g60, g75)
section
variable {X : XT} {N : Nat} {q_a0 : Nat} {q_a0_muleBeats : Nat} {q_a0_muleFrom : Nat} {q_a0_muleTo : Nat} {q_a0_slow : Nat} {q_a0_struck : Nat} {q_a1 : Nat} {q_a1_muleBeats : Nat} {q_a1_muleFrom : Nat} {q_a1_muleTo : Nat} {q_a1_slow : Nat} {q_a1_struck : Nat} {v_a0_strokes : Int32} {v_a0_beat : Int32} {v_a0_place : Int32} {v_a0_fog : Int32} {v_a0_deaf : Int32} {v_a0_mules : Int32} {m_a0_muleBeats : Nat → Int32} {m_a0_muleFrom : Nat → Int32} {m_a0_muleTo : Nat → Int32} {m_a0_slow : Nat → Int32} {m_a0_struck : Nat → Int32} {v_a1_strokes : Int32} {v_a1_beat : Int32} {v_a1_place : Int32} {v_a1_fog : Int32} {v_a1_deaf : Int32} {v_a1_mules : Int32} {m_a1_muleBeats : Nat → Int32} {m_a1_muleFrom : Nat → Int32} {m_a1_muleTo : Nat → Int32} {m_a1_slow : Nat → Int32} {m_a1_struck : Nat → Int32}
set_option maxRecDepth 20000 in
theorem tX7_copy_0 {out : Int32 × Int32 × Int32 × Int32 × Int32 × Int32 × (Nat → Int32) × (Nat → Int32) × (Nat → Int32) × (Nat → Int32) × (Nat → Int32)} (hX : xk X = kX7_copy) (hQ : xQ X = qE none (wX7_copy (xG X) q_a0 q_a0_muleBeats q_a0_muleFrom q_a0_muleTo q_a0_slow q_a0_struck q_a1 q_a1_muleBeats q_a1_muleFrom q_a1_muleTo q_a1_slow q_a1_struck out.1 out.2.1 out.2.2.1 out.2.2.2.1 out.2.2.2.2.1 out.2.2.2.2.2.1 out.2.2.2.2.2.2.1 out.2.2.2.2.2.2.2.1 out.2.2.2.2.2.2.2.2.1 out.2.2.2.2.2.2.2.2.2.1 out.2.2.2.2.2.2.2.2.2.2 v_a1_strokes v_a1_beat v_a1_place v_a1_fog v_a1_deaf v_a1_mules m_a1_muleBeats m_a1_muleFrom m_a1_muleTo m_a1_slow m_a1_struck)) (hf : fX7_copy m_a0_muleBeats m_a0_muleFrom m_a0_muleTo m_a0_slow m_a0_struck v_a1_strokes v_a1_beat v_a1_place v_a1_fog v_a1_deaf v_a1_mules m_a1_muleBeats m_a1_muleFrom m_a1_muleTo m_a1_slow m_a1_struck = some out) : V X cX7_copy "FarDrum$State" 0 0 (wX7_copy (xG X) q_a0 q_a0_muleBeats q_a0_muleFrom q_a0_muleTo q_a0_slow q_a0_struck q_a1 q_a1_muleBeats q_a1_muleFrom q_a1_muleTo q_a1_slow q_a1_struck v_a0_strokes v_a0_beat v_a0_place v_a0_fog v_a0_deaf v_a0_mules m_a0_muleBeats m_a0_muleFrom m_a0_muleTo m_a0_slow m_a0_struck v_a1_strokes v_a1_beat v_a1_place v_a1_fog v_a1_deaf v_a1_mules m_a1_muleBeats m_a1_muleFrom m_a1_muleTo m_a1_slow m_a1_struck) [some (.ref q_a0), some (.ref q_a1)] 0 [] := by
  unfold fX7_copy at hf
  refine V.aloadn (pc := 0) dX7_copy_0 rfl ?_
  refine V.aloadn (pc := 1) dX7_copy_1 rfl ?_
  refine V.getf (q := 6) (pc := 2) dX7_copy_2 fk_X7_27_7 rfl rfl ?_
  refine V.putf (q := 0) (wd' := wX7_copy (xG X) q_a0 q_a0_muleBeats q_a0_muleFrom q_a0_muleTo q_a0_slow q_a0_struck q_a1 q_a1_muleBeats q_a1_muleFrom q_a1_muleTo q_a1_slow q_a1_struck v_a1_strokes v_a0_beat v_a0_place v_a0_fog v_a0_deaf v_a0_mules m_a0_muleBeats m_a0_muleFrom m_a0_muleTo m_a0_slow m_a0_struck v_a1_strokes v_a1_beat v_a1_place v_a1_fog v_a1_deaf v_a1_mules m_a1_muleBeats m_a1_muleFrom m_a1_muleTo m_a1_slow m_a1_struck) (pc := 5) dX7_copy_5 pk_X7_27_7 rfl rfl rfl rfl rfl ?_
  refine V.aloadn (pc := 8) dX7_copy_8 rfl ?_
  refine V.aloadn (pc := 9) dX7_copy_9 rfl ?_
  refine V.getf (q := 6) (pc := 10) dX7_copy_10 fk_X7_31_7 rfl rfl ?_
  refine V.putf (q := 0) (wd' := wX7_copy (xG X) q_a0 q_a0_muleBeats q_a0_muleFrom q_a0_muleTo q_a0_slow q_a0_struck q_a1 q_a1_muleBeats q_a1_muleFrom q_a1_muleTo q_a1_slow q_a1_struck v_a1_strokes v_a1_beat v_a0_place v_a0_fog v_a0_deaf v_a0_mules m_a0_muleBeats m_a0_muleFrom m_a0_muleTo m_a0_slow m_a0_struck v_a1_strokes v_a1_beat v_a1_place v_a1_fog v_a1_deaf v_a1_mules m_a1_muleBeats m_a1_muleFrom m_a1_muleTo m_a1_slow m_a1_struck) (pc := 13) dX7_copy_13 pk_X7_31_7 rfl rfl rfl rfl rfl ?_
  refine V.aloadn (pc := 16) dX7_copy_16 rfl ?_
  refine V.aloadn (pc := 17) dX7_copy_17 rfl ?_
  refine V.getf (q := 6) (pc := 18) dX7_copy_18 fk_X7_34_7 rfl rfl ?_
  refine V.putf (q := 0) (wd' := wX7_copy (xG X) q_a0 q_a0_muleBeats q_a0_muleFrom q_a0_muleTo q_a0_slow q_a0_struck q_a1 q_a1_muleBeats q_a1_muleFrom q_a1_muleTo q_a1_slow q_a1_struck v_a1_strokes v_a1_beat v_a1_place v_a0_fog v_a0_deaf v_a0_mules m_a0_muleBeats m_a0_muleFrom m_a0_muleTo m_a0_slow m_a0_struck v_a1_strokes v_a1_beat v_a1_place v_a1_fog v_a1_deaf v_a1_mules m_a1_muleBeats m_a1_muleFrom m_a1_muleTo m_a1_slow m_a1_struck) (pc := 21) dX7_copy_21 pk_X7_34_7 rfl rfl rfl rfl rfl ?_
  refine V.aloadn (pc := 24) dX7_copy_24 rfl ?_
  refine V.aloadn (pc := 25) dX7_copy_25 rfl ?_
  refine V.getf (q := 6) (pc := 26) dX7_copy_26 fk_X7_37_7 rfl rfl ?_
  refine V.putf (q := 0) (wd' := wX7_copy (xG X) q_a0 q_a0_muleBeats q_a0_muleFrom q_a0_muleTo q_a0_slow q_a0_struck q_a1 q_a1_muleBeats q_a1_muleFrom q_a1_muleTo q_a1_slow q_a1_struck v_a1_strokes v_a1_beat v_a1_place v_a1_fog v_a0_deaf v_a0_mules m_a0_muleBeats m_a0_muleFrom m_a0_muleTo m_a0_slow m_a0_struck v_a1_strokes v_a1_beat v_a1_place v_a1_fog v_a1_deaf v_a1_mules m_a1_muleBeats m_a1_muleFrom m_a1_muleTo m_a1_slow m_a1_struck) (pc := 29) dX7_copy_29 pk_X7_37_7 rfl rfl rfl rfl rfl ?_
  refine V.aloadn (pc := 32) dX7_copy_32 rfl ?_
  refine V.aloadn (pc := 33) dX7_copy_33 rfl ?_
  refine V.getf (q := 6) (pc := 34) dX7_copy_34 fk_X7_45_7 rfl rfl ?_
  refine V.putf (q := 0) (wd' := wX7_copy (xG X) q_a0 q_a0_muleBeats q_a0_muleFrom q_a0_muleTo q_a0_slow q_a0_struck q_a1 q_a1_muleBeats q_a1_muleFrom q_a1_muleTo q_a1_slow q_a1_struck v_a1_strokes v_a1_beat v_a1_place v_a1_fog v_a1_deaf v_a0_mules m_a0_muleBeats m_a0_muleFrom m_a0_muleTo m_a0_slow m_a0_struck v_a1_strokes v_a1_beat v_a1_place v_a1_fog v_a1_deaf v_a1_mules m_a1_muleBeats m_a1_muleFrom m_a1_muleTo m_a1_slow m_a1_struck) (pc := 37) dX7_copy_37 pk_X7_45_7 rfl rfl rfl rfl rfl ?_
  refine V.aloadn (pc := 40) dX7_copy_40 rfl ?_
  refine V.aloadn (pc := 41) dX7_copy_41 rfl ?_
  refine V.getf (q := 6) (pc := 42) dX7_copy_42 fk_X7_46_7 rfl rfl ?_
  refine V.putf (q := 0) (wd' := wX7_copy (xG X) q_a0 q_a0_muleBeats q_a0_muleFrom q_a0_muleTo q_a0_slow q_a0_struck q_a1 q_a1_muleBeats q_a1_muleFrom q_a1_muleTo q_a1_slow q_a1_struck v_a1_strokes v_a1_beat v_a1_place v_a1_fog v_a1_deaf v_a1_mules m_a0_muleBeats m_a0_muleFrom m_a0_muleTo m_a0_slow m_a0_struck v_a1_strokes v_a1_beat v_a1_place v_a1_fog v_a1_deaf v_a1_mules m_a1_muleBeats m_a1_muleFrom m_a1_muleTo m_a1_slow m_a1_struck) (pc := 45) dX7_copy_45 pk_X7_46_7 rfl rfl rfl rfl rfl ?_
  refine V.aloadn (pc := 48) dX7_copy_48 rfl ?_
  refine V.getf (q := 6) (pc := 49) dX7_copy_49 fk_X7_9_7 rfl rfl ?_
  refine V.iconst (pc := 52) (v := 0) dX7_copy_52 (by decide) ?_
  refine V.aloadn (pc := 53) dX7_copy_53 rfl ?_
  refine V.getf (q := 0) (pc := 54) dX7_copy_54 fk_X7_9_7 rfl rfl ?_
  refine V.iconst (pc := 57) (v := 0) dX7_copy_57 (by decide) ?_
  refine V.bipush (pc := 58) (v := 6) dX7_copy_58 (by decide) ?_
  refine V.copyi (pc := 60) (q0 := 10) (q1 := 4) (N := 6) (wd' := fun g60 => wX7_copy (xG X) q_a0 q_a0_muleBeats q_a0_muleFrom q_a0_muleTo q_a0_slow q_a0_struck q_a1 q_a1_muleBeats q_a1_muleFrom q_a1_muleTo q_a1_slow q_a1_struck v_a1_strokes v_a1_beat v_a1_place v_a1_fog v_a1_deaf v_a1_mules m_a0_muleBeats m_a0_muleFrom m_a0_muleTo g60 m_a0_struck v_a1_strokes v_a1_beat v_a1_place v_a1_fog v_a1_deaf v_a1_mules m_a1_muleBeats m_a1_muleFrom m_a1_muleTo m_a1_slow m_a1_struck) hX rfl dX7_copy_60 lkc_X7_60 rfl rfl rfl ⟨by decide, by decide, by decide, by decide⟩ hf (fun _ => rfl) (fun g60 hf => ?_)
  refine V.aloadn (pc := 63) dX7_copy_63 rfl ?_
  refine V.getf (q := 6) (pc := 64) dX7_copy_64 fk_X7_15_7 rfl rfl ?_
  refine V.iconst (pc := 67) (v := 0) dX7_copy_67 (by decide) ?_
  refine V.aloadn (pc := 68) dX7_copy_68 rfl ?_
  refine V.getf (q := 0) (pc := 69) dX7_copy_69 fk_X7_15_7 rfl rfl ?_
  refine V.iconst (pc := 72) (v := 0) dX7_copy_72 (by decide) ?_
  refine V.bipush (pc := 73) (v := 6) dX7_copy_73 (by decide) ?_
  refine V.copyi (pc := 75) (q0 := 11) (q1 := 5) (N := 6) (wd' := fun g75 => wX7_copy (xG X) q_a0 q_a0_muleBeats q_a0_muleFrom q_a0_muleTo q_a0_slow q_a0_struck q_a1 q_a1_muleBeats q_a1_muleFrom q_a1_muleTo q_a1_slow q_a1_struck v_a1_strokes v_a1_beat v_a1_place v_a1_fog v_a1_deaf v_a1_mules m_a0_muleBeats m_a0_muleFrom m_a0_muleTo g60 g75 v_a1_strokes v_a1_beat v_a1_place v_a1_fog v_a1_deaf v_a1_mules m_a1_muleBeats m_a1_muleFrom m_a1_muleTo m_a1_slow m_a1_struck) hX rfl dX7_copy_75 lkc_X7_60 rfl rfl rfl ⟨by decide, by decide, by decide, by decide⟩ hf (fun _ => rfl) (fun g75 hf => ?_)
  refine V.aloadn (pc := 78) dX7_copy_78 rfl ?_
  refine V.getf (q := 6) (pc := 79) dX7_copy_79 fk_X7_18_7 rfl rfl ?_
  refine V.iconst (pc := 82) (v := 0) dX7_copy_82 (by decide) ?_
  refine V.aloadn (pc := 83) dX7_copy_83 rfl ?_
  refine V.getf (q := 0) (pc := 84) dX7_copy_84 fk_X7_18_7 rfl rfl ?_
  refine V.iconst (pc := 87) (v := 0) dX7_copy_87 (by decide) ?_
  refine V.iconst (pc := 88) (v := 2) dX7_copy_88 (by decide) ?_
  refine V.copyi (pc := 89) (q0 := 8) (q1 := 2) (N := 2) (wd' := fun g89 => wX7_copy (xG X) q_a0 q_a0_muleBeats q_a0_muleFrom q_a0_muleTo q_a0_slow q_a0_struck q_a1 q_a1_muleBeats q_a1_muleFrom q_a1_muleTo q_a1_slow q_a1_struck v_a1_strokes v_a1_beat v_a1_place v_a1_fog v_a1_deaf v_a1_mules m_a0_muleBeats g89 m_a0_muleTo g60 g75 v_a1_strokes v_a1_beat v_a1_place v_a1_fog v_a1_deaf v_a1_mules m_a1_muleBeats m_a1_muleFrom m_a1_muleTo m_a1_slow m_a1_struck) hX rfl dX7_copy_89 lkc_X7_60 rfl rfl rfl ⟨by decide, by decide, by decide, by decide⟩ hf (fun _ => rfl) (fun g89 hf => ?_)
  refine V.aloadn (pc := 92) dX7_copy_92 rfl ?_
  refine V.getf (q := 6) (pc := 93) dX7_copy_93 fk_X7_21_7 rfl rfl ?_
  refine V.iconst (pc := 96) (v := 0) dX7_copy_96 (by decide) ?_
  refine V.aloadn (pc := 97) dX7_copy_97 rfl ?_
  refine V.getf (q := 0) (pc := 98) dX7_copy_98 fk_X7_21_7 rfl rfl ?_
  refine V.iconst (pc := 101) (v := 0) dX7_copy_101 (by decide) ?_
  refine V.iconst (pc := 102) (v := 2) dX7_copy_102 (by decide) ?_
  refine V.copyi (pc := 103) (q0 := 9) (q1 := 3) (N := 2) (wd' := fun g103 => wX7_copy (xG X) q_a0 q_a0_muleBeats q_a0_muleFrom q_a0_muleTo q_a0_slow q_a0_struck q_a1 q_a1_muleBeats q_a1_muleFrom q_a1_muleTo q_a1_slow q_a1_struck v_a1_strokes v_a1_beat v_a1_place v_a1_fog v_a1_deaf v_a1_mules m_a0_muleBeats g89 g103 g60 g75 v_a1_strokes v_a1_beat v_a1_place v_a1_fog v_a1_deaf v_a1_mules m_a1_muleBeats m_a1_muleFrom m_a1_muleTo m_a1_slow m_a1_struck) hX rfl dX7_copy_103 lkc_X7_60 rfl rfl rfl ⟨by decide, by decide, by decide, by decide⟩ hf (fun _ => rfl) (fun g103 hf => ?_)
  refine V.aloadn (pc := 106) dX7_copy_106 rfl ?_
  refine V.getf (q := 6) (pc := 107) dX7_copy_107 fk_X7_24_7 rfl rfl ?_
  refine V.iconst (pc := 110) (v := 0) dX7_copy_110 (by decide) ?_
  refine V.aloadn (pc := 111) dX7_copy_111 rfl ?_
  refine V.getf (q := 0) (pc := 112) dX7_copy_112 fk_X7_24_7 rfl rfl ?_
  refine V.iconst (pc := 115) (v := 0) dX7_copy_115 (by decide) ?_
  refine V.iconst (pc := 116) (v := 2) dX7_copy_116 (by decide) ?_
  refine V.copyi (pc := 117) (q0 := 7) (q1 := 1) (N := 2) (wd' := fun g117 => wX7_copy (xG X) q_a0 q_a0_muleBeats q_a0_muleFrom q_a0_muleTo q_a0_slow q_a0_struck q_a1 q_a1_muleBeats q_a1_muleFrom q_a1_muleTo q_a1_slow q_a1_struck v_a1_strokes v_a1_beat v_a1_place v_a1_fog v_a1_deaf v_a1_mules g117 g89 g103 g60 g75 v_a1_strokes v_a1_beat v_a1_place v_a1_fog v_a1_deaf v_a1_mules m_a1_muleBeats m_a1_muleFrom m_a1_muleTo m_a1_slow m_a1_struck) hX rfl dX7_copy_117 lkc_X7_60 rfl rfl rfl ⟨by decide, by decide, by decide, by decide⟩ hf (fun _ => rfl) (fun g117 hf => ?_)
  exact V.vretE (pc := 120) hX kX7_copy_r hQ dX7_copy_120 (by cases hf; rfl) (by cases hf; rfl)
end
theorem oX7_copy {l : Launch} {G : GT} {q_a0 : Nat} {q_a0_muleBeats : Nat} {q_a0_muleFrom : Nat} {q_a0_muleTo : Nat} {q_a0_slow : Nat} {q_a0_struck : Nat} {q_a1 : Nat} {q_a1_muleBeats : Nat} {q_a1_muleFrom : Nat} {q_a1_muleTo : Nat} {q_a1_slow : Nat} {q_a1_struck : Nat} {v_a0_strokes : Int32} {v_a0_beat : Int32} {v_a0_place : Int32} {v_a0_fog : Int32} {v_a0_deaf : Int32} {v_a0_mules : Int32} {m_a0_muleBeats : Nat → Int32} {m_a0_muleFrom : Nat → Int32} {m_a0_muleTo : Nat → Int32} {m_a0_slow : Nat → Int32} {m_a0_struck : Nat → Int32} {v_a1_strokes : Int32} {v_a1_beat : Int32} {v_a1_place : Int32} {v_a1_fog : Int32} {v_a1_deaf : Int32} {v_a1_mules : Int32} {m_a1_muleBeats : Nat → Int32} {m_a1_muleFrom : Nat → Int32} {m_a1_muleTo : Nat → Int32} {m_a1_slow : Nat → Int32} {m_a1_struck : Nat → Int32} {out : Int32 × Int32 × Int32 × Int32 × Int32 × Int32 × (Nat → Int32) × (Nat → Int32) × (Nat → Int32) × (Nat → Int32) × (Nat → Int32)} (hf : fX7_copy m_a0_muleBeats m_a0_muleFrom m_a0_muleTo m_a0_slow m_a0_struck v_a1_strokes v_a1_beat v_a1_place v_a1_fog v_a1_deaf v_a1_mules m_a1_muleBeats m_a1_muleFrom m_a1_muleTo m_a1_slow m_a1_struck = some out) : Ct (l, G, kX7_copy, wX7_copy G q_a0 q_a0_muleBeats q_a0_muleFrom q_a0_muleTo q_a0_slow q_a0_struck q_a1 q_a1_muleBeats q_a1_muleFrom q_a1_muleTo q_a1_slow q_a1_struck v_a0_strokes v_a0_beat v_a0_place v_a0_fog v_a0_deaf v_a0_mules m_a0_muleBeats m_a0_muleFrom m_a0_muleTo m_a0_slow m_a0_struck v_a1_strokes v_a1_beat v_a1_place v_a1_fog v_a1_deaf v_a1_mules m_a1_muleBeats m_a1_muleFrom m_a1_muleTo m_a1_slow m_a1_struck, [.ref q_a0, .ref q_a1], qE none (wX7_copy G q_a0 q_a0_muleBeats q_a0_muleFrom q_a0_muleTo q_a0_slow q_a0_struck q_a1 q_a1_muleBeats q_a1_muleFrom q_a1_muleTo q_a1_slow q_a1_struck out.1 out.2.1 out.2.2.1 out.2.2.2.1 out.2.2.2.2.1 out.2.2.2.2.2.1 out.2.2.2.2.2.2.1 out.2.2.2.2.2.2.2.1 out.2.2.2.2.2.2.2.2.1 out.2.2.2.2.2.2.2.2.2.1 out.2.2.2.2.2.2.2.2.2.2 v_a1_strokes v_a1_beat v_a1_place v_a1_fog v_a1_deaf v_a1_mules m_a1_muleBeats m_a1_muleFrom m_a1_muleTo m_a1_slow m_a1_struck)) :=
  Ct.of [some (.ref q_a0), some (.ref q_a1)] kX7_copy_p rfl rfl rfl ((tX7_copy_0 (X := (l, G, kX7_copy, wX7_copy G q_a0 q_a0_muleBeats q_a0_muleFrom q_a0_muleTo q_a0_slow q_a0_struck q_a1 q_a1_muleBeats q_a1_muleFrom q_a1_muleTo q_a1_slow q_a1_struck v_a0_strokes v_a0_beat v_a0_place v_a0_fog v_a0_deaf v_a0_mules m_a0_muleBeats m_a0_muleFrom m_a0_muleTo m_a0_slow m_a0_struck v_a1_strokes v_a1_beat v_a1_place v_a1_fog v_a1_deaf v_a1_mules m_a1_muleBeats m_a1_muleFrom m_a1_muleTo m_a1_slow m_a1_struck, [.ref q_a0, .ref q_a1], qE none (wX7_copy G q_a0 q_a0_muleBeats q_a0_muleFrom q_a0_muleTo q_a0_slow q_a0_struck q_a1 q_a1_muleBeats q_a1_muleFrom q_a1_muleTo q_a1_slow q_a1_struck out.1 out.2.1 out.2.2.1 out.2.2.2.1 out.2.2.2.2.1 out.2.2.2.2.2.1 out.2.2.2.2.2.2.1 out.2.2.2.2.2.2.2.1 out.2.2.2.2.2.2.2.2.1 out.2.2.2.2.2.2.2.2.2.1 out.2.2.2.2.2.2.2.2.2.2 v_a1_strokes v_a1_beat v_a1_place v_a1_fog v_a1_deaf v_a1_mules m_a1_muleBeats m_a1_muleFrom m_a1_muleTo m_a1_slow m_a1_struck))) rfl rfl hf))
