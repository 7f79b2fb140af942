def wX8_isDigit (G : GT)  : va_W := []
def kX8_isDigit : KT := (yX8_isDigit, cX8_isDigit, 1, (some .boolean), 0, 0, 0)
theorem kX8_isDigit_r : kr kX8_isDigit = (some .boolean) ∧ kmc kX8_isDigit = 0 ∧ kms kX8_isDigit = 0 := ⟨rfl, rfl, rfl⟩
theorem kX8_isDigit_p : plainName (ky kX8_isDigit).cls = true := by decide +kernel
def fX8_isDigit_17 (s0 : Int32) : Option (Int32) :=
  bz s0 <| 
  some s0
def fX8_isDigit_16 : Option (Int32) :=
  fX8_isDigit_17 (0 : Int32)
def fX8_isDigit (l0 : Int32) : Option (Int32) :=
  if l0 < (48 : Int32) then (fX8_isDigit_16)
  else (if (57 : Int32) < l0 then (fX8_isDigit_16)
  else (fX8_isDigit_17 (1 : Int32)))
section
variable {X : XT} {N : Nat} {l0 : Int32} {s0 : Int32}
set_option maxRecDepth 20000 in
theorem tX8_isDigit_17 {out : Int32} (hX : xk X = kX8_isDigit) (hQ : xQ X = qE (some (.int out)) (wX8_isDigit (xG X))) (hf : fX8_isDigit_17 s0 = some out) : V X cX8_isDigit "FarDrum$Text" 0 0 (wX8_isDigit (xG X)) [none] 17 [.int s0] := by
  unfold fX8_isDigit_17 at hf
  obtain ⟨hz, hf⟩ := bz_ok hf
  exact V.zretE (pc := 17) hX kX8_isDigit_r hQ hz dX8_isDigit_17 (by cases hf; rfl) (by cases hf; rfl)
set_option maxRecDepth 20000 in
theorem tX8_isDigit_16 {out : Int32} (hX : xk X = kX8_isDigit) (hQ : xQ X = qE (some (.int out)) (wX8_isDigit (xG X))) (hf : fX8_isDigit_16 = some out) : V X cX8_isDigit "FarDrum$Text" 0 0 (wX8_isDigit (xG X)) [none] 16 [] := by
  unfold fX8_isDigit_16 at hf
  refine V.iconst (pc := 16) (v := 0) dX8_isDigit_16 (by decide) ?_
  exact tX8_isDigit_17 hX hQ hf
set_option maxRecDepth 20000 in
theorem tX8_isDigit_0 {out : Int32} (hX : xk X = kX8_isDigit) (hQ : xQ X = qE (some (.int out)) (wX8_isDigit (xG X))) (hf : fX8_isDigit l0 = some out) : V X cX8_isDigit "FarDrum$Text" 0 0 (wX8_isDigit (xG X)) [some (.int l0)] 0 [] := by
  unfold fX8_isDigit at hf
  refine V.iloadn (pc := 0) dX8_isDigit_0 rfl ?_
  refine V.bipush (pc := 1) (v := 48) dX8_isDigit_1 (by decide) ?_
  refine V.icmp_lt (pc := 3) (tgt := 16) dX8_isDigit_3 (by decide) hf (fun hf => ?_) (fun hf => ?_)
  · refine V.mask (pc := 16) [false] rfl rfl ?_
    exact tX8_isDigit_16 hX hQ hf
  · refine V.iloadn (pc := 6) dX8_isDigit_6 rfl ?_
    refine V.bipush (pc := 7) (v := 57) dX8_isDigit_7 (by decide) ?_
    refine V.icmp_gt (pc := 9) (tgt := 16) dX8_isDigit_9 (by decide) hf (fun hf => ?_) (fun hf => ?_)
    · refine V.mask (pc := 16) [false] rfl rfl ?_
      exact tX8_isDigit_16 hX hQ hf
    · refine V.iconst (pc := 12) (v := 1) dX8_isDigit_12 (by decide) ?_
      refine V.goto (pc := 13) (tgt := 17) dX8_isDigit_13 (by decide) ?_
      refine V.mask (pc := 17) [false] rfl rfl ?_
      exact tX8_isDigit_17 hX hQ hf
end
theorem oX8_isDigit {l : Launch} {G : GT}  {l0 : Int32} {out : Int32} (hf : fX8_isDigit l0 = some out) : Ct (l, G, kX8_isDigit, wX8_isDigit G, [.int l0], qE (some (.int out)) (wX8_isDigit G)) :=
  Ct.of [some (.int l0)] kX8_isDigit_p rfl rfl rfl ((tX8_isDigit_0 (X := (l, G, kX8_isDigit, wX8_isDigit G, [.int l0], qE (some (.int out)) (wX8_isDigit G))) rfl rfl hf))

def wX8_isSign (G : GT)  : va_W := []
def kX8_isSign : KT := (yX8_isSign, cX8_isSign, 1, (some .boolean), 0, 0, 0)
theorem kX8_isSign_r : kr kX8_isSign = (some .boolean) ∧ kmc kX8_isSign = 0 ∧ kms kX8_isSign = 0 := ⟨rfl, rfl, rfl⟩
theorem kX8_isSign_p : plainName (ky kX8_isSign).cls = true := by decide +kernel
def fX8_isSign_35 (s0 : Int32) : Option (Int32) :=
  bz s0 <| 
  some s0
def fX8_isSign_30 : Option (Int32) :=
  fX8_isSign_35 (1 : Int32)
def fX8_isSign (l0 : Int32) : Option (Int32) :=
  if l0 = (118 : Int32) then (fX8_isSign_30)
  else (if l0 = (101 : Int32) then (fX8_isSign_30)
  else (if l0 = (114 : Int32) then (fX8_isSign_30)
  else (if l0 = (115 : Int32) then (fX8_isSign_30)
  else (if l0 = (59 : Int32) then (fX8_isSign_30)
  else (fX8_isSign_35 (0 : Int32))))))
section
variable {X : XT} {N : Nat} {l0 : Int32} {s0 : Int32}
set_option maxRecDepth 20000 in
theorem tX8_isSign_35 {out : Int32} (hX : xk X = kX8_isSign) (hQ : xQ X = qE (some (.int out)) (wX8_isSign (xG X))) (hf : fX8_isSign_35 s0 = some out) : V X cX8_isSign "FarDrum$Text" 0 0 (wX8_isSign (xG X)) [none] 35 [.int s0] := by
  unfold fX8_isSign_35 at hf
  obtain ⟨hz, hf⟩ := bz_ok hf
  exact V.zretE (pc := 35) hX kX8_isSign_r hQ hz dX8_isSign_35 (by cases hf; rfl) (by cases hf; rfl)
set_option maxRecDepth 20000 in
theorem tX8_isSign_30 {out : Int32} (hX : xk X = kX8_isSign) (hQ : xQ X = qE (some (.int out)) (wX8_isSign (xG X))) (hf : fX8_isSign_30 = some out) : V X cX8_isSign "FarDrum$Text" 0 0 (wX8_isSign (xG X)) [none] 30 [] := by
  unfold fX8_isSign_30 at hf
  refine V.iconst (pc := 30) (v := 1) dX8_isSign_30 (by decide) ?_
  refine V.goto (pc := 31) (tgt := 35) dX8_isSign_31 (by decide) ?_
  exact tX8_isSign_35 hX hQ hf
set_option maxRecDepth 20000 in
theorem tX8_isSign_0 {out : Int32} (hX : xk X = kX8_isSign) (hQ : xQ X = qE (some (.int out)) (wX8_isSign (xG X))) (hf : fX8_isSign l0 = some out) : V X cX8_isSign "FarDrum$Text" 0 0 (wX8_isSign (xG X)) [some (.int l0)] 0 [] := by
  unfold fX8_isSign at hf
  refine V.iloadn (pc := 0) dX8_isSign_0 rfl ?_
  refine V.bipush (pc := 1) (v := 118) dX8_isSign_1 (by decide) ?_
  refine V.icmp_eq (pc := 3) (tgt := 30) dX8_isSign_3 (by decide) hf (fun hf => ?_) (fun hf => ?_)
  · refine V.mask (pc := 30) [false] rfl rfl ?_
    exact tX8_isSign_30 hX hQ hf
  · refine V.iloadn (pc := 6) dX8_isSign_6 rfl ?_
    refine V.bipush (pc := 7) (v := 101) dX8_isSign_7 (by decide) ?_
    refine V.icmp_eq (pc := 9) (tgt := 30) dX8_isSign_9 (by decide) hf (fun hf => ?_) (fun hf => ?_)
    · refine V.mask (pc := 30) [false] rfl rfl ?_
      exact tX8_isSign_30 hX hQ hf
    · refine V.iloadn (pc := 12) dX8_isSign_12 rfl ?_
      refine V.bipush (pc := 13) (v := 114) dX8_isSign_13 (by decide) ?_
      refine V.icmp_eq (pc := 15) (tgt := 30) dX8_isSign_15 (by decide) hf (fun hf => ?_) (fun hf => ?_)
      · refine V.mask (pc := 30) [false] rfl rfl ?_
        exact tX8_isSign_30 hX hQ hf
      · refine V.iloadn (pc := 18) dX8_isSign_18 rfl ?_
        refine V.bipush (pc := 19) (v := 115) dX8_isSign_19 (by decide) ?_
        refine V.icmp_eq (pc := 21) (tgt := 30) dX8_isSign_21 (by decide) hf (fun hf => ?_) (fun hf => ?_)
        · refine V.mask (pc := 30) [false] rfl rfl ?_
          exact tX8_isSign_30 hX hQ hf
        · refine V.iloadn (pc := 24) dX8_isSign_24 rfl ?_
          refine V.bipush (pc := 25) (v := 59) dX8_isSign_25 (by decide) ?_
          refine V.icmp_ne (pc := 27) (tgt := 34) dX8_isSign_27 (by decide) hf (fun hf => ?_) (fun hf => ?_)
          · refine V.iconst (pc := 34) (v := 0) dX8_isSign_34 (by decide) ?_
            refine V.mask (pc := 35) [false] rfl rfl ?_
            exact tX8_isSign_35 hX hQ hf
          · refine V.mask (pc := 30) [false] rfl rfl ?_
            exact tX8_isSign_30 hX hQ hf
end
theorem oX8_isSign {l : Launch} {G : GT}  {l0 : Int32} {out : Int32} (hf : fX8_isSign l0 = some out) : Ct (l, G, kX8_isSign, wX8_isSign G, [.int l0], qE (some (.int out)) (wX8_isSign G)) :=
  Ct.of [some (.int l0)] kX8_isSign_p rfl rfl rfl ((tX8_isSign_0 (X := (l, G, kX8_isSign, wX8_isSign G, [.int l0], qE (some (.int out)) (wX8_isSign G))) rfl rfl hf))

theorem inX8 : ∀ w ∈ u_ws RX8 TX8 6, w ∈ gt := lays_in (fun k hk => match k, hk with | 0, _ => kw_1_40 | 1, _ => kw_1_42 | 2, _ => kw_1_44 | 3, _ => kw_1_46 | 4, _ => kw_1_48 | 5, _ => kw_1_50 | k + 6, hk => absurd hk (by omega))
theorem pk_X8_53_8 : Pk "FarDrum$Text" 53 8 5 .int false := ⟨RX8, TX8, 6, "FarDrum$Text", tyX8, rfl, inX8, by decide, kw_1_39, Or.inl rfl, tyX8_ok, nmX8, rfl, by decide +kernel, fun h => by cases h⟩
theorem fk_X8_20_8 : Fk "FarDrum$Text" 20 8 3 := ⟨RX8, TX8, 6, "FarDrum$Text", rfl, inX8, by decide, kw_1_37, Or.inl rfl⟩
theorem fk_X8_81_8 : Fk "FarDrum$Text" 81 8 1 := ⟨RX8, TX8, 6, "FarDrum$Text", rfl, inX8, by decide, kw_1_34, Or.inl rfl⟩
theorem fk_X8_9_8 : Fk "FarDrum$Text" 9 8 0 := ⟨RX8, TX8, 6, "FarDrum$Text", rfl, inX8, by decide, kw_1_31, Or.inl rfl⟩
theorem lkb_X8_isDigit : LkB kX8_isDigit 1 := ⟨kw_2_136, kw_1_2, ⟨by decide, by decide⟩, by decide +kernel, by decide⟩
theorem lkS_X8_87 : LkS "FarDrum$Text" 87 kX8_isDigit 1 := ⟨lkb_X8_isDigit, kw_2_134, kw_2_135⟩
theorem fk_X8_53_8 : Fk "FarDrum$Text" 53 8 5 := ⟨RX8, TX8, 6, "FarDrum$Text", rfl, inX8, by decide, kw_1_39, Or.inl rfl⟩
theorem lkm_X8_97 : Cond.methodLink "FarDrum$Text" 97 Lib.Math.min.name ∈ gt ∧ Cond.static Lib.Math.min.name ∈ gt ∧ Cond.initialized "java/lang/Math" ∈ gt ∧ Cond.code Lib.Math.min.name Lib.Math.min.code 2 (some .int) ∈ gt := ⟨kw_2_141, kw_2_142, kw_1_14, kw_2_143⟩
theorem pk_X8_20_8 : Pk "FarDrum$Text" 20 8 3 .int false := ⟨RX8, TX8, 6, "FarDrum$Text", tyX8, rfl, inX8, by decide, kw_1_37, Or.inl rfl, tyX8_ok, nmX8, rfl, by decide +kernel, fun h => by cases h⟩
theorem fk_X8_84_8 : Fk "FarDrum$Text" 84 8 2 := ⟨RX8, TX8, 6, "FarDrum$Text", rfl, inX8, by decide, kw_1_36, Or.inl rfl⟩
theorem pk_X8_27_8 : Pk "FarDrum$Text" 27 8 4 .int false := ⟨RX8, TX8, 6, "FarDrum$Text", tyX8, rfl, inX8, by decide, kw_1_38, Or.inl rfl, tyX8_ok, nmX8, rfl, by decide +kernel, fun h => by cases h⟩
def wX8_readDigits (G : GT) (q_a0 : Nat) (q_a0_letters : Nat) (v_a0_length : Int32) (v_a0_place : Int32) (v_a0_at : Int32) (v_a0_token : Int32) (v_a0_number : Int32) (m_a0_letters : Nat → Int32) : va_W := [(q_a0, .inr (8, [.ref q_a0_letters, .int v_a0_length, .int v_a0_place, .int v_a0_at, .int v_a0_token, .int v_a0_number])), (q_a0_letters, .inl (G.2 1, 200, .inl m_a0_letters))]
def kX8_readDigits : KT := (yX8_readDigits, cX8_readDigits, 2, none, 1, 0, 0)
theorem kX8_readDigits_r : kr kX8_readDigits = none ∧ kmc kX8_readDigits = 0 ∧ kms kX8_readDigits = 0 := ⟨rfl, rfl, rfl⟩
theorem kX8_readDigits_p : plainName (ky kX8_readDigits).cls = true := by decide +kernel
def fX8_readDigits_5 (B5 : Int32 → Int32 → Option (Int32 × Int32 × Int32)) (K5_74 : Int32 → Int32 → Option (Int32 × Int32 × Int32)) (v_a0_length : Int32) (v_a0_at : Int32) (v_a0_number : Int32) (m_a0_letters : Nat → Int32) : Option (Int32 × Int32 × Int32) :=
  if v_a0_length ≤ v_a0_at then (K5_74 v_a0_at v_a0_number)
  else (rdi 200 m_a0_letters v_a0_at fun x24 =>
  Option.bind (fX8_isDigit x24) fun o25 =>
  if o25 = 0 then (K5_74 v_a0_at v_a0_number)
  else (rdi 200 m_a0_letters v_a0_at fun x47 =>
  lti (if (1000 : Int32) < (((v_a0_number * (10 : Int32)) + x47) - (48 : Int32)) then (1000 : Int32) else (((v_a0_number * (10 : Int32)) + x47) - (48 : Int32))) fun y58 =>
  lti (v_a0_at + (1 : Int32)) fun y68 =>
  B5 y68 y58))
def fX8_readDigits_L5 (v_a0_length : Int32) (m_a0_letters : Nat → Int32) (K5_74 : Int32 → Int32 → Option (Int32 × Int32 × Int32)) : Nat → Int32 → Int32 → Option (Int32 × Int32 × Int32)
  | 0, _, _ => none
  | n + 1, v_a0_at, v_a0_number => fX8_readDigits_5 (fX8_readDigits_L5 v_a0_length m_a0_letters K5_74 n) K5_74 v_a0_length v_a0_at v_a0_number m_a0_letters
def fX8_readDigits_126 (s1 : Int32) (v_a0_at : Int32) (v_a0_number : Int32) : Option (Int32 × Int32 × Int32) :=
  some (v_a0_at, s1, v_a0_number)
def fX8_readDigits_121 (v_a0_at : Int32) (v_a0_number : Int32) : Option (Int32 × Int32 × Int32) :=
  fX8_readDigits_126 (0 : Int32) v_a0_at v_a0_number
def fX8_readDigits_106 (s0 : Int32) (v_a0_at : Int32) (v_a0_number : Int32) : Option (Int32 × Int32 × Int32) :=
  if s0 = 0 then (if v_a0_number ≤ (20 : Int32) then (fX8_readDigits_126 (2 : Int32) v_a0_at v_a0_number)
  else (fX8_readDigits_121 v_a0_at v_a0_number))
  else (fX8_readDigits_121 v_a0_at v_a0_number)
def fX8_readDigits_105 (v_a0_at : Int32) (v_a0_number : Int32) : Option (Int32 × Int32 × Int32) :=
  fX8_readDigits_106 (0 : Int32) v_a0_at v_a0_number
def fX8_readDigits (N : Nat) (v_a0_length : Int32) (v_a0_place : Int32) (v_a0_at : Int32) (m_a0_letters : Nat → Int32) : Option (Int32 × Int32 × Int32) :=
  fX8_readDigits_L5 v_a0_length m_a0_letters
      (fun v_a0_atk5_74 v_a0_numberk5_74 => rdi 200 m_a0_letters v_a0_place fun x82 =>
  if x82 = (48 : Int32) then (if (v_a0_atk5_74 - v_a0_place) ≤ (1 : Int32) then (fX8_readDigits_105 v_a0_atk5_74 v_a0_numberk5_74)
  else (fX8_readDigits_106 (1 : Int32) v_a0_atk5_74 v_a0_numberk5_74))
  else (fX8_readDigits_105 v_a0_atk5_74 v_a0_numberk5_74)) N v_a0_at (0 : Int32)
section
variable {X : XT} {N : Nat} {q_a0 : Nat} {q_a0_letters : Nat} {v_a0_length : Int32} {v_a0_place : Int32} {v_a0_at : Int32} {v_a0_token : Int32} {v_a0_number : Int32} {m_a0_letters : Nat → Int32} {s0 : Int32} {s1 : Int32}
set_option maxRecDepth 20000 in
theorem tX8_readDigits_5 {out : Int32 × Int32 × Int32} (hX : xk X = kX8_readDigits) (hQ : xQ X = qE none (wX8_readDigits (xG X) q_a0 q_a0_letters v_a0_length v_a0_place out.1 out.2.1 out.2.2 m_a0_letters)) {B5 : Int32 → Int32 → Option (Int32 × Int32 × Int32)} {K5_74 : Int32 → Int32 → Option (Int32 × Int32 × Int32)} (hB5 : ∀ (v_a0_at : Int32) (v_a0_number : Int32), B5 v_a0_at v_a0_number = some out → V X cX8_readDigits "FarDrum$Text" 0 0 (wX8_readDigits (xG X) q_a0 q_a0_letters v_a0_length v_a0_place v_a0_at v_a0_token v_a0_number m_a0_letters) [some (.ref q_a0), none] 5 []) (hK5_74 : ∀ (v_a0_at : Int32) (v_a0_number : Int32), K5_74 v_a0_at v_a0_number = some out → V X cX8_readDigits "FarDrum$Text" 0 0 (wX8_readDigits (xG X) q_a0 q_a0_letters v_a0_length v_a0_place v_a0_at v_a0_token v_a0_number m_a0_letters) [some (.ref q_a0), none] 74 []) (hf : fX8_readDigits_5 B5 K5_74 v_a0_length v_a0_at v_a0_number m_a0_letters = some out) : V X cX8_readDigits "FarDrum$Text" 0 0 (wX8_readDigits (xG X) q_a0 q_a0_letters v_a0_length v_a0_place v_a0_at v_a0_token v_a0_number m_a0_letters) [some (.ref q_a0), none] 5 [] := by
  unfold fX8_readDigits_5 at hf
  refine V.aloadn (pc := 5) dX8_readDigits_5 rfl ?_
  refine V.getf (q := 0) (pc := 6) dX8_readDigits_6 fk_X8_20_8 rfl rfl ?_
  refine V.aloadn (pc := 9) dX8_readDigits_9 rfl ?_
  refine V.getf (q := 0) (pc := 10) dX8_readDigits_10 fk_X8_81_8 rfl rfl ?_
  refine V.icmp_ge (pc := 13) (tgt := 74) dX8_readDigits_13 (by decide) hf (fun hf => ?_) (fun hf => ?_)
  · exact hK5_74 _ _ hf
  · refine V.aloadn (pc := 16) dX8_readDigits_16 rfl ?_
    refine V.getf (q := 0) (pc := 17) dX8_readDigits_17 fk_X8_9_8 rfl rfl ?_
    refine V.aloadn (pc := 20) dX8_readDigits_20 rfl ?_
    refine V.getf (q := 0) (pc := 21) dX8_readDigits_21 fk_X8_20_8 rfl rfl ?_
    refine V.cald (pc := 24) (q := 1) dX8_readDigits_24 rfl hf (fun x24 hf => ?_)
    refine V.callSi (pc := 25) [.int x24] (st := []) hf (fun _ h => oX8_isDigit  (l0 := x24) h) lkS_X8_87 dX8_readDigits_25 hX rfl ⟨rfl, rfl⟩ ⟨rfl, rfl⟩ rfl rfl rfl (fun o25 hf => ?_)
    refine V.if_eq (pc := 28) (tgt := 74) dX8_readDigits_28 (by decide) hf (fun hf => ?_) (fun hf => ?_)
    · exact hK5_74 _ _ hf
    · refine V.aloadn (pc := 31) dX8_readDigits_31 rfl ?_
      refine V.aloadn (pc := 32) dX8_readDigits_32 rfl ?_
      refine V.getf (q := 0) (pc := 33) dX8_readDigits_33 fk_X8_53_8 rfl rfl ?_
      refine V.bipush (pc := 36) (v := 10) dX8_readDigits_36 (by decide) ?_
      refine V.imul (pc := 38) dX8_readDigits_38 ?_
      refine V.aloadn (pc := 39) dX8_readDigits_39 rfl ?_
      refine V.getf (q := 0) (pc := 40) dX8_readDigits_40 fk_X8_9_8 rfl rfl ?_
      refine V.aloadn (pc := 43) dX8_readDigits_43 rfl ?_
      refine V.getf (q := 0) (pc := 44) dX8_readDigits_44 fk_X8_20_8 rfl rfl ?_
      refine V.cald (pc := 47) (q := 1) dX8_readDigits_47 rfl hf (fun x47 hf => ?_)
      refine V.iadd (pc := 48) dX8_readDigits_48 ?_
      refine V.bipush (pc := 49) (v := 48) dX8_readDigits_49 (by decide) ?_
      refine V.isub (pc := 51) dX8_readDigits_51 ?_
      refine V.sipush (pc := 52) (v := 1000) dX8_readDigits_52 (by decide) ?_
      refine V.mmin (pc := 55) hX rfl dX8_readDigits_55 lkm_X8_97 rfl ⟨rfl, rfl⟩ ?_
      refine V.topi hf (fun y58 hf => ?_)
      refine V.putf (q := 0) (wd' := wX8_readDigits (xG X) q_a0 q_a0_letters v_a0_length v_a0_place v_a0_at v_a0_token y58 m_a0_letters) (pc := 58) dX8_readDigits_58 pk_X8_53_8 rfl rfl rfl rfl rfl ?_
      refine V.aloadn (pc := 61) dX8_readDigits_61 rfl ?_
      refine V.dup (pc := 62) dX8_readDigits_62 rfl ?_
      refine V.getf (q := 0) (pc := 63) dX8_readDigits_63 fk_X8_20_8 rfl rfl ?_
      refine V.iconst (pc := 66) (v := 1) dX8_readDigits_66 (by decide) ?_
      refine V.iadd (pc := 67) dX8_readDigits_67 ?_
      refine V.topi hf (fun y68 hf => ?_)
      refine V.putf (q := 0) (wd' := wX8_readDigits (xG X) q_a0 q_a0_letters v_a0_length v_a0_place y68 v_a0_token y58 m_a0_letters) (pc := 68) dX8_readDigits_68 pk_X8_20_8 rfl rfl rfl rfl rfl ?_
      refine V.goto (pc := 71) (tgt := 5) dX8_readDigits_71 (by decide) ?_
      exact hB5 _ _ hf
theorem tX8_readDigits_L5 {out : Int32 × Int32 × Int32} (hX : xk X = kX8_readDigits) (hQ : xQ X = qE none (wX8_readDigits (xG X) q_a0 q_a0_letters v_a0_length v_a0_place out.1 out.2.1 out.2.2 m_a0_letters)) {K5_74 : Int32 → Int32 → Option (Int32 × Int32 × Int32)} (hK5_74 : ∀ (v_a0_at : Int32) (v_a0_number : Int32), K5_74 v_a0_at v_a0_number = some out → V X cX8_readDigits "FarDrum$Text" 0 0 (wX8_readDigits (xG X) q_a0 q_a0_letters v_a0_length v_a0_place v_a0_at v_a0_token v_a0_number m_a0_letters) [some (.ref q_a0), none] 74 []) : ∀ (n : Nat) (v_a0_at : Int32) (v_a0_number : Int32), fX8_readDigits_L5 v_a0_length m_a0_letters K5_74 n v_a0_at v_a0_number = some out → V X cX8_readDigits "FarDrum$Text" 0 0 (wX8_readDigits (xG X) q_a0 q_a0_letters v_a0_length v_a0_place v_a0_at v_a0_token v_a0_number m_a0_letters) [some (.ref q_a0), none] 5 [] := by
  intro n
  induction n with
  | zero => intro v_a0_at v_a0_number hf; cases hf
  | succ n ih => intro v_a0_at v_a0_number hf; exact tX8_readDigits_5 hX hQ ih hK5_74 hf
set_option maxRecDepth 20000 in
theorem tX8_readDigits_126 {out : Int32 × Int32 × Int32} (hX : xk X = kX8_readDigits) (hQ : xQ X = qE none (wX8_readDigits (xG X) q_a0 q_a0_letters v_a0_length v_a0_place out.1 out.2.1 out.2.2 m_a0_letters)) (hf : fX8_readDigits_126 s1 v_a0_at v_a0_number = some out) : V X cX8_readDigits "FarDrum$Text" 0 0 (wX8_readDigits (xG X) q_a0 q_a0_letters v_a0_length v_a0_place v_a0_at v_a0_token v_a0_number m_a0_letters) [none, none] 126 [.int s1, .ref q_a0] := by
  unfold fX8_readDigits_126 at hf
  refine V.putf (q := 0) (wd' := wX8_readDigits (xG X) q_a0 q_a0_letters v_a0_length v_a0_place v_a0_at s1 v_a0_number m_a0_letters) (pc := 126) dX8_readDigits_126 pk_X8_27_8 rfl rfl rfl rfl rfl ?_
  exact V.vretE (pc := 129) hX kX8_readDigits_r hQ dX8_readDigits_129 (by cases hf; rfl) (by cases hf; rfl)
set_option maxRecDepth 20000 in
theorem tX8_readDigits_121 {out : Int32 × Int32 × Int32} (hX : xk X = kX8_readDigits) (hQ : xQ X = qE none (wX8_readDigits (xG X) q_a0 q_a0_letters v_a0_length v_a0_place out.1 out.2.1 out.2.2 m_a0_letters)) (hf : fX8_readDigits_121 v_a0_at v_a0_number = some out) : V X cX8_readDigits "FarDrum$Text" 0 0 (wX8_readDigits (xG X) q_a0 q_a0_letters v_a0_length v_a0_place v_a0_at v_a0_token v_a0_number m_a0_letters) [none, none] 121 [.ref q_a0] := by
  unfold fX8_readDigits_121 at hf
  refine V.iconst (pc := 121) (v := 0) dX8_readDigits_121 (by decide) ?_
  refine V.goto (pc := 122) (tgt := 126) dX8_readDigits_122 (by decide) ?_
  exact tX8_readDigits_126 hX hQ hf
set_option maxRecDepth 20000 in
theorem tX8_readDigits_106 {out : Int32 × Int32 × Int32} (hX : xk X = kX8_readDigits) (hQ : xQ X = qE none (wX8_readDigits (xG X) q_a0 q_a0_letters v_a0_length v_a0_place out.1 out.2.1 out.2.2 m_a0_letters)) (hf : fX8_readDigits_106 s0 v_a0_at v_a0_number = some out) : V X cX8_readDigits "FarDrum$Text" 0 0 (wX8_readDigits (xG X) q_a0 q_a0_letters v_a0_length v_a0_place v_a0_at v_a0_token v_a0_number m_a0_letters) [some (.ref q_a0), none] 106 [.int s0] := by
  unfold fX8_readDigits_106 at hf
  refine V.istoren (pc := 106) dX8_readDigits_106 rfl rfl rfl ?_
  refine V.aloadn (pc := 107) dX8_readDigits_107 rfl ?_
  refine V.iloadn (pc := 108) dX8_readDigits_108 rfl ?_
  refine V.if_ne (pc := 109) (tgt := 121) dX8_readDigits_109 (by decide) hf (fun hf => ?_) (fun hf => ?_)
  · refine V.mask (pc := 121) [false, false] rfl rfl ?_
    exact tX8_readDigits_121 hX hQ hf
  · refine V.aloadn (pc := 112) dX8_readDigits_112 rfl ?_
    refine V.getf (q := 0) (pc := 113) dX8_readDigits_113 fk_X8_53_8 rfl rfl ?_
    refine V.bipush (pc := 116) (v := 20) dX8_readDigits_116 (by decide) ?_
    refine V.icmp_le (pc := 118) (tgt := 125) dX8_readDigits_118 (by decide) hf (fun hf => ?_) (fun hf => ?_)
    · refine V.iconst (pc := 125) (v := 2) dX8_readDigits_125 (by decide) ?_
      refine V.mask (pc := 126) [false, false] rfl rfl ?_
      exact tX8_readDigits_126 hX hQ hf
    · refine V.mask (pc := 121) [false, false] rfl rfl ?_
      exact tX8_readDigits_121 hX hQ hf
set_option maxRecDepth 20000 in
theorem tX8_readDigits_105 {out : Int32 × Int32 × Int32} (hX : xk X = kX8_readDigits) (hQ : xQ X = qE none (wX8_readDigits (xG X) q_a0 q_a0_letters v_a0_length v_a0_place out.1 out.2.1 out.2.2 m_a0_letters)) (hf : fX8_readDigits_105 v_a0_at v_a0_number = some out) : V X cX8_readDigits "FarDrum$Text" 0 0 (wX8_readDigits (xG X) q_a0 q_a0_letters v_a0_length v_a0_place v_a0_at v_a0_token v_a0_number m_a0_letters) [some (.ref q_a0), none] 105 [] := by
  unfold fX8_readDigits_105 at hf
  refine V.iconst (pc := 105) (v := 0) dX8_readDigits_105 (by decide) ?_
  exact tX8_readDigits_106 hX hQ hf
set_option maxRecDepth 20000 in
theorem tX8_readDigits_0 {out : Int32 × Int32 × Int32} (hX : xk X = kX8_readDigits) (hQ : xQ X = qE none (wX8_readDigits (xG X) q_a0 q_a0_letters v_a0_length v_a0_place out.1 out.2.1 out.2.2 m_a0_letters)) (hf : fX8_readDigits N v_a0_length v_a0_place v_a0_at m_a0_letters = some out) : V X cX8_readDigits "FarDrum$Text" 0 0 (wX8_readDigits (xG X) q_a0 q_a0_letters v_a0_length v_a0_place v_a0_at v_a0_token v_a0_number m_a0_letters) [some (.ref q_a0), none] 0 [] := by
  unfold fX8_readDigits at hf
  refine V.aloadn (pc := 0) dX8_readDigits_0 rfl ?_
  refine V.iconst (pc := 1) (v := 0) dX8_readDigits_1 (by decide) ?_
  refine V.putf (q := 0) (wd' := wX8_readDigits (xG X) q_a0 q_a0_letters v_a0_length v_a0_place v_a0_at v_a0_token (0 : Int32) m_a0_letters) (pc := 2) dX8_readDigits_2 pk_X8_53_8 rfl rfl rfl rfl rfl ?_
  refine tX8_readDigits_L5 hX hQ ?_ _ _ _ hf
  · intro v_a0_atk5_74 v_a0_numberk5_74 hf
    refine V.aloadn (pc := 74) dX8_readDigits_74 rfl ?_
    refine V.getf (q := 0) (pc := 75) dX8_readDigits_75 fk_X8_9_8 rfl rfl ?_
    refine V.aloadn (pc := 78) dX8_readDigits_78 rfl ?_
    refine V.getf (q := 0) (pc := 79) dX8_readDigits_79 fk_X8_84_8 rfl rfl ?_
    refine V.cald (pc := 82) (q := 1) dX8_readDigits_82 rfl hf (fun x82 hf => ?_)
    refine V.bipush (pc := 83) (v := 48) dX8_readDigits_83 (by decide) ?_
    refine V.icmp_ne (pc := 85) (tgt := 105) dX8_readDigits_85 (by decide) hf (fun hf => ?_) (fun hf => ?_)
    · exact tX8_readDigits_105 hX hQ hf
    · refine V.aloadn (pc := 88) dX8_readDigits_88 rfl ?_
      refine V.getf (q := 0) (pc := 89) dX8_readDigits_89 fk_X8_20_8 rfl rfl ?_
      refine V.aloadn (pc := 92) dX8_readDigits_92 rfl ?_
      refine V.getf (q := 0) (pc := 93) dX8_readDigits_93 fk_X8_84_8 rfl rfl ?_
      refine V.isub (pc := 96) dX8_readDigits_96 ?_
      refine V.iconst (pc := 97) (v := 1) dX8_readDigits_97 (by decide) ?_
      refine V.icmp_le (pc := 98) (tgt := 105) dX8_readDigits_98 (by decide) hf (fun hf => ?_) (fun hf => ?_)
      · exact tX8_readDigits_105 hX hQ hf
      · refine V.iconst (pc := 101) (v := 1) dX8_readDigits_101 (by decide) ?_
        refine V.goto (pc := 102) (tgt := 106) dX8_readDigits_102 (by decide) ?_
        exact tX8_readDigits_106 hX hQ hf
end
theorem oX8_readDigits {l : Launch} {G : GT} {N : Nat} {q_a0 : Nat} {q_a0_letters : Nat} {v_a0_length : Int32} {v_a0_place : Int32} {v_a0_at : Int32} {v_a0_token : Int32} {v_a0_number : Int32} {m_a0_letters : Nat → Int32} {out : Int32 × Int32 × Int32} (hf : fX8_readDigits N v_a0_length v_a0_place v_a0_at m_a0_letters = some out) : Ct (l, G, kX8_readDigits, wX8_readDigits G q_a0 q_a0_letters v_a0_length v_a0_place v_a0_at v_a0_token v_a0_number m_a0_letters, [.ref q_a0], qE none (wX8_readDigits G q_a0 q_a0_letters v_a0_length v_a0_place out.1 out.2.1 out.2.2 m_a0_letters)) :=
  Ct.of [some (.ref q_a0), none] kX8_readDigits_p rfl rfl rfl ((tX8_readDigits_0 (X := (l, G, kX8_readDigits, wX8_readDigits G q_a0 q_a0_letters v_a0_length v_a0_place v_a0_at v_a0_token v_a0_number m_a0_letters, [.ref q_a0], qE none (wX8_readDigits G q_a0 q_a0_letters v_a0_length v_a0_place out.1 out.2.1 out.2.2 m_a0_letters))) rfl rfl hf))

theorem pk_X8_84_8 : Pk "FarDrum$Text" 84 8 2 .int false := ⟨RX8, TX8, 6, "FarDrum$Text", tyX8, rfl, inX8, by decide, kw_1_36, Or.inl rfl, tyX8_ok, nmX8, rfl, by decide +kernel, fun h => by cases h⟩
theorem lkb_X8_isSign : LkB kX8_isSign 1 := ⟨kw_2_146, kw_1_2, ⟨by decide, by decide⟩, by decide +kernel, by decide⟩
theorem lkS_X8_94 : LkS "FarDrum$Text" 94 kX8_isSign 1 := ⟨lkb_X8_isSign, kw_2_144, kw_2_145⟩
theorem lkb_X8_readDigits : LkB kX8_readDigits 0 := ⟨kw_2_140, kw_1_2, ⟨by decide, by decide⟩, by decide +kernel, by decide⟩
theorem lkV_X8_91 : LkV "FarDrum$Text" 91 kX8_readDigits 0 := ⟨lkb_X8_readDigits, kw_2_137, kw_2_139, kp_1⟩
def wX8_readToken (G : GT) (q_a0 : Nat) (q_a0_letters : Nat) (v_a0_length : Int32) (v_a0_place : Int32) (v_a0_at : Int32) (v_a0_token : Int32) (v_a0_number : Int32) (m_a0_letters : Nat → Int32) : va_W := [(q_a0, .inr (8, [.ref q_a0_letters, .int v_a0_length, .int v_a0_place, .int v_a0_at, .int v_a0_token, .int v_a0_number])), (q_a0_letters, .inl (G.2 1, 200, .inl m_a0_letters))]
def kX8_readToken : KT := (yX8_readToken, cX8_readToken, 2, none, 2, 0, 0)
theorem kX8_readToken_r : kr kX8_readToken = none ∧ kmc kX8_readToken = 0 ∧ kms kX8_readToken = 0 := ⟨rfl, rfl, rfl⟩
theorem kX8_readToken_p : plainName (ky kX8_readToken).cls = true := by decide +kernel
def fX8_readToken_0 (B0 : Int32 → Option (Int32 × Int32 × Int32 × Int32)) (K0_38 : Int32 → Option (Int32 × Int32 × Int32 × Int32)) (v_a0_length : Int32) (v_a0_at : Int32) (m_a0_letters : Nat → Int32) : Option (Int32 × Int32 × Int32 × Int32) :=
  if v_a0_length ≤ v_a0_at then (K0_38 v_a0_at)
  else (rdi 200 m_a0_letters v_a0_at fun x19 =>
  if x19 = (32 : Int32) then (lti (v_a0_at + (1 : Int32)) fun y32 =>
  B0 y32)
  else (K0_38 v_a0_at))
def fX8_readToken_L0 (v_a0_length : Int32) (m_a0_letters : Nat → Int32) (K0_38 : Int32 → Option (Int32 × Int32 × Int32 × Int32)) : Nat → Int32 → Option (Int32 × Int32 × Int32 × Int32)
  | 0, _ => none
  | n + 1, v_a0_at => fX8_readToken_0 (fX8_readToken_L0 v_a0_length m_a0_letters K0_38 n) K0_38 v_a0_length v_a0_at m_a0_letters
def fX8_readToken_108 (s1 : Int32) (v_a0_place : Int32) (v_a0_at : Int32) (v_a0_number : Int32) : Option (Int32 × Int32 × Int32 × Int32) :=
  some (v_a0_place, v_a0_at, s1, v_a0_number)
def fX8_readToken (N : Nat) (v_a0_length : Int32) (v_a0_at : Int32) (v_a0_number : Int32) (m_a0_letters : Nat → Int32) : Option (Int32 × Int32 × Int32 × Int32) :=
  fX8_readToken_L0 v_a0_length m_a0_letters
      (fun v_a0_atk0_38 => if v_a0_atk0_38 < v_a0_length then (rdi 200 m_a0_letters v_a0_atk0_38 fun x71 =>
  Option.bind (fX8_isDigit x71) fun o74 =>
  if o74 = 0 then (lti (v_a0_atk0_38 + (1 : Int32)) fun y92 =>
  Option.bind (fX8_isSign x71) fun o97 =>
  if o97 = 0 then (fX8_readToken_108 (0 : Int32) v_a0_atk0_38 y92 v_a0_number)
  else (fX8_readToken_108 x71 v_a0_atk0_38 y92 v_a0_number))
  else (Option.bind (fX8_readDigits N v_a0_length v_a0_atk0_38 v_a0_atk0_38 m_a0_letters) fun o81 =>
  some (v_a0_atk0_38, o81.1, o81.2.1, o81.2.2)))
  else (some (v_a0_atk0_38, v_a0_atk0_38, (1 : Int32), v_a0_number))) N v_a0_at
section
variable {X : XT} {N : Nat} {q_a0 : Nat} {q_a0_letters : Nat} {v_a0_length : Int32} {v_a0_place : Int32} {v_a0_at : Int32} {v_a0_token : Int32} {v_a0_number : Int32} {m_a0_letters : Nat → Int32} {s1 : Int32}
set_option maxRecDepth 20000 in
theorem tX8_readToken_0 {out : Int32 × Int32 × Int32 × Int32} (hX : xk X = kX8_readToken) (hQ : xQ X = qE none (wX8_readToken (xG X) q_a0 q_a0_letters v_a0_length out.1 out.2.1 out.2.2.1 out.2.2.2 m_a0_letters)) {B0 : Int32 → Option (Int32 × Int32 × Int32 × Int32)} {K0_38 : Int32 → Option (Int32 × Int32 × Int32 × Int32)} (hB0 : ∀ (v_a0_at : Int32), B0 v_a0_at = some out → V X cX8_readToken "FarDrum$Text" 0 0 (wX8_readToken (xG X) q_a0 q_a0_letters v_a0_length v_a0_place v_a0_at v_a0_token v_a0_number m_a0_letters) [some (.ref q_a0), none] 0 []) (hK0_38 : ∀ (v_a0_at : Int32), K0_38 v_a0_at = some out → V X cX8_readToken "FarDrum$Text" 0 0 (wX8_readToken (xG X) q_a0 q_a0_letters v_a0_length v_a0_place v_a0_at v_a0_token v_a0_number m_a0_letters) [some (.ref q_a0), none] 38 []) (hf : fX8_readToken_0 B0 K0_38 v_a0_length v_a0_at m_a0_letters = some out) : V X cX8_readToken "FarDrum$Text" 0 0 (wX8_readToken (xG X) q_a0 q_a0_letters v_a0_length v_a0_place v_a0_at v_a0_token v_a0_number m_a0_letters) [some (.ref q_a0), none] 0 [] := by
  unfold fX8_readToken_0 at hf
  refine V.aloadn (pc := 0) dX8_readToken_0 rfl ?_
  refine V.getf (q := 0) (pc := 1) dX8_readToken_1 fk_X8_20_8 rfl rfl ?_
  refine V.aloadn (pc := 4) dX8_readToken_4 rfl ?_
  refine V.getf (q := 0) (pc := 5) dX8_readToken_5 fk_X8_81_8 rfl rfl ?_
  refine V.icmp_ge (pc := 8) (tgt := 38) dX8_readToken_8 (by decide) hf (fun hf => ?_) (fun hf => ?_)
  · exact hK0_38 _ hf
  · refine V.aloadn (pc := 11) dX8_readToken_11 rfl ?_
    refine V.getf (q := 0) (pc := 12) dX8_readToken_12 fk_X8_9_8 rfl rfl ?_
    refine V.aloadn (pc := 15) dX8_readToken_15 rfl ?_
    refine V.getf (q := 0) (pc := 16) dX8_readToken_16 fk_X8_20_8 rfl rfl ?_
    refine V.cald (pc := 19) (q := 1) dX8_readToken_19 rfl hf (fun x19 hf => ?_)
    refine V.bipush (pc := 20) (v := 32) dX8_readToken_20 (by decide) ?_
    refine V.icmp_ne (pc := 22) (tgt := 38) dX8_readToken_22 (by decide) hf (fun hf => ?_) (fun hf => ?_)
    · exact hK0_38 _ hf
    · refine V.aloadn (pc := 25) dX8_readToken_25 rfl ?_
      refine V.dup (pc := 26) dX8_readToken_26 rfl ?_
      refine V.getf (q := 0) (pc := 27) dX8_readToken_27 fk_X8_20_8 rfl rfl ?_
      refine V.iconst (pc := 30) (v := 1) dX8_readToken_30 (by decide) ?_
      refine V.iadd (pc := 31) dX8_readToken_31 ?_
      refine V.topi hf (fun y32 hf => ?_)
      refine V.putf (q := 0) (wd' := wX8_readToken (xG X) q_a0 q_a0_letters v_a0_length v_a0_place y32 v_a0_token v_a0_number m_a0_letters) (pc := 32) dX8_readToken_32 pk_X8_20_8 rfl rfl rfl rfl rfl ?_
      refine V.goto (pc := 35) (tgt := 0) dX8_readToken_35 (by decide) ?_
      exact hB0 _ hf
theorem tX8_readToken_L0 {out : Int32 × Int32 × Int32 × Int32} (hX : xk X = kX8_readToken) (hQ : xQ X = qE none (wX8_readToken (xG X) q_a0 q_a0_letters v_a0_length out.1 out.2.1 out.2.2.1 out.2.2.2 m_a0_letters)) {K0_38 : Int32 → Option (Int32 × Int32 × Int32 × Int32)} (hK0_38 : ∀ (v_a0_at : Int32), K0_38 v_a0_at = some out → V X cX8_readToken "FarDrum$Text" 0 0 (wX8_readToken (xG X) q_a0 q_a0_letters v_a0_length v_a0_place v_a0_at v_a0_token v_a0_number m_a0_letters) [some (.ref q_a0), none] 38 []) : ∀ (n : Nat) (v_a0_at : Int32), fX8_readToken_L0 v_a0_length m_a0_letters K0_38 n v_a0_at = some out → V X cX8_readToken "FarDrum$Text" 0 0 (wX8_readToken (xG X) q_a0 q_a0_letters v_a0_length v_a0_place v_a0_at v_a0_token v_a0_number m_a0_letters) [some (.ref q_a0), none] 0 [] := by
  intro n
  induction n with
  | zero => intro v_a0_at hf; cases hf
  | succ n ih => intro v_a0_at hf; exact tX8_readToken_0 hX hQ ih hK0_38 hf
set_option maxRecDepth 20000 in
theorem tX8_readToken_108 {out : Int32 × Int32 × Int32 × Int32} (hX : xk X = kX8_readToken) (hQ : xQ X = qE none (wX8_readToken (xG X) q_a0 q_a0_letters v_a0_length out.1 out.2.1 out.2.2.1 out.2.2.2 m_a0_letters)) (hf : fX8_readToken_108 s1 v_a0_place v_a0_at v_a0_number = some out) : V X cX8_readToken "FarDrum$Text" 0 0 (wX8_readToken (xG X) q_a0 q_a0_letters v_a0_length v_a0_place v_a0_at v_a0_token v_a0_number m_a0_letters) [none, none] 108 [.int s1, .ref q_a0] := by
  unfold fX8_readToken_108 at hf
  refine V.putf (q := 0) (wd' := wX8_readToken (xG X) q_a0 q_a0_letters v_a0_length v_a0_place v_a0_at s1 v_a0_number m_a0_letters) (pc := 108) dX8_readToken_108 pk_X8_27_8 rfl rfl rfl rfl rfl ?_
  exact V.vretE (pc := 111) hX kX8_readToken_r hQ dX8_readToken_111 (by cases hf; rfl) (by cases hf; rfl)
set_option maxRecDepth 20000 in
theorem tX8_readToken_E {out : Int32 × Int32 × Int32 × Int32} (hX : xk X = kX8_readToken) (hQ : xQ X = qE none (wX8_readToken (xG X) q_a0 q_a0_letters v_a0_length out.1 out.2.1 out.2.2.1 out.2.2.2 m_a0_letters)) (hf : fX8_readToken N v_a0_length v_a0_at v_a0_number m_a0_letters = some out) : V X cX8_readToken "FarDrum$Text" 0 0 (wX8_readToken (xG X) q_a0 q_a0_letters v_a0_length v_a0_place v_a0_at v_a0_token v_a0_number m_a0_letters) [some (.ref q_a0), none] 0 [] := by
  unfold fX8_readToken at hf
  refine tX8_readToken_L0 hX hQ ?_ _ _ hf
  · intro v_a0_atk0_38 hf
    refine V.aloadn (pc := 38) dX8_readToken_38 rfl ?_
    refine V.aloadn (pc := 39) dX8_readToken_39 rfl ?_
    refine V.getf (q := 0) (pc := 40) dX8_readToken_40 fk_X8_20_8 rfl rfl ?_
    refine V.putf (q := 0) (wd' := wX8_readToken (xG X) q_a0 q_a0_letters v_a0_length v_a0_atk0_38 v_a0_atk0_38 v_a0_token v_a0_number m_a0_letters) (pc := 43) dX8_readToken_43 pk_X8_84_8 rfl rfl rfl rfl rfl ?_
    refine V.aloadn (pc := 46) dX8_readToken_46 rfl ?_
    refine V.getf (q := 0) (pc := 47) dX8_readToken_47 fk_X8_20_8 rfl rfl ?_
    refine V.aloadn (pc := 50) dX8_readToken_50 rfl ?_
    refine V.getf (q := 0) (pc := 51) dX8_readToken_51 fk_X8_81_8 rfl rfl ?_
    refine V.icmp_lt (pc := 54) (tgt := 63) dX8_readToken_54 (by decide) hf (fun hf => ?_) (fun hf => ?_)
    · refine V.aloadn (pc := 63) dX8_readToken_63 rfl ?_
      refine V.getf (q := 0) (pc := 64) dX8_readToken_64 fk_X8_9_8 rfl rfl ?_
      refine V.aloadn (pc := 67) dX8_readToken_67 rfl ?_
      refine V.getf (q := 0) (pc := 68) dX8_readToken_68 fk_X8_20_8 rfl rfl ?_
      refine V.cald (pc := 71) (q := 1) dX8_readToken_71 rfl hf (fun x71 hf => ?_)
      refine V.istoren (pc := 72) dX8_readToken_72 rfl rfl rfl ?_
      refine V.iloadn (pc := 73) dX8_readToken_73 rfl ?_
      refine V.callSi (pc := 74) [.int x71] (st := []) hf (fun _ h => oX8_isDigit  (l0 := x71) h) lkS_X8_87 dX8_readToken_74 hX rfl ⟨rfl, rfl⟩ ⟨rfl, rfl⟩ rfl rfl rfl (fun o74 hf => ?_)
      refine V.if_eq (pc := 77) (tgt := 85) dX8_readToken_77 (by decide) hf (fun hf => ?_) (fun hf => ?_)
      · refine V.aloadn (pc := 85) dX8_readToken_85 rfl ?_
        refine V.dup (pc := 86) dX8_readToken_86 rfl ?_
        refine V.getf (q := 0) (pc := 87) dX8_readToken_87 fk_X8_20_8 rfl rfl ?_
        refine V.iconst (pc := 90) (v := 1) dX8_readToken_90 (by decide) ?_
        refine V.iadd (pc := 91) dX8_readToken_91 ?_
        refine V.topi hf (fun y92 hf => ?_)
        refine V.putf (q := 0) (wd' := wX8_readToken (xG X) q_a0 q_a0_letters v_a0_length v_a0_atk0_38 y92 v_a0_token v_a0_number m_a0_letters) (pc := 92) dX8_readToken_92 pk_X8_20_8 rfl rfl rfl rfl rfl ?_
        refine V.aloadn (pc := 95) dX8_readToken_95 rfl ?_
        refine V.iloadn (pc := 96) dX8_readToken_96 rfl ?_
        refine V.callSi (pc := 97) [.int x71] (st := [.ref q_a0]) hf (fun _ h => oX8_isSign  (l0 := x71) h) lkS_X8_94 dX8_readToken_97 hX rfl ⟨rfl, rfl⟩ ⟨rfl, rfl⟩ rfl rfl rfl (fun o97 hf => ?_)
        refine V.if_eq (pc := 100) (tgt := 107) dX8_readToken_100 (by decide) hf (fun hf => ?_) (fun hf => ?_)
        · refine V.iconst (pc := 107) (v := 0) dX8_readToken_107 (by decide) ?_
          refine V.mask (pc := 108) [false, false] rfl rfl ?_
          exact tX8_readToken_108 hX hQ hf
        · refine V.iloadn (pc := 103) dX8_readToken_103 rfl ?_
          refine V.goto (pc := 104) (tgt := 108) dX8_readToken_104 (by decide) ?_
          refine V.mask (pc := 108) [false, false] rfl rfl ?_
          exact tX8_readToken_108 hX hQ hf
      · refine V.aloadn (pc := 80) dX8_readToken_80 rfl ?_
        refine V.callVv (pc := 81) (q := 0) (wr := []) (wd' := fun o81 => wX8_readToken (xG X) q_a0 q_a0_letters v_a0_length v_a0_atk0_38 o81.1 o81.2.1 o81.2.2 m_a0_letters) [] (st := []) hf (fun _ h => oX8_readDigits (q_a0 := q_a0) (q_a0_letters := q_a0_letters) (v_a0_length := v_a0_length) (v_a0_place := v_a0_atk0_38) (v_a0_at := v_a0_atk0_38) (v_a0_token := v_a0_token) (v_a0_number := v_a0_number) (m_a0_letters := m_a0_letters) h) lkV_X8_91 dX8_readToken_81 hX rfl ⟨rfl, rfl⟩ ⟨rfl, rfl⟩ rfl rfl rfl rfl rfl [0, 1] [] [0, 1] rfl rfl rfl rfl rfl (fun _ => rfl) rfl (fun o81 hf => ?_)
        exact V.vretE (pc := 84) hX kX8_readToken_r hQ dX8_readToken_84 (by cases hf; rfl) (by cases hf; rfl)
    · refine V.aloadn (pc := 57) dX8_readToken_57 rfl ?_
      refine V.iconst (pc := 58) (v := 1) dX8_readToken_58 (by decide) ?_
      refine V.putf (q := 0) (wd' := wX8_readToken (xG X) q_a0 q_a0_letters v_a0_length v_a0_atk0_38 v_a0_atk0_38 (1 : Int32) v_a0_number m_a0_letters) (pc := 59) dX8_readToken_59 pk_X8_27_8 rfl rfl rfl rfl rfl ?_
      exact V.vretE (pc := 62) hX kX8_readToken_r hQ dX8_readToken_62 (by cases hf; rfl) (by cases hf; rfl)
end
theorem oX8_readToken {l : Launch} {G : GT} {N : Nat} {q_a0 : Nat} {q_a0_letters : Nat} {v_a0_length : Int32} {v_a0_place : Int32} {v_a0_at : Int32} {v_a0_token : Int32} {v_a0_number : Int32} {m_a0_letters : Nat → Int32} {out : Int32 × Int32 × Int32 × Int32} (hf : fX8_readToken N v_a0_length v_a0_at v_a0_number m_a0_letters = some out) : Ct (l, G, kX8_readToken, wX8_readToken G q_a0 q_a0_letters v_a0_length v_a0_place v_a0_at v_a0_token v_a0_number m_a0_letters, [.ref q_a0], qE none (wX8_readToken G q_a0 q_a0_letters v_a0_length out.1 out.2.1 out.2.2.1 out.2.2.2 m_a0_letters)) :=
  Ct.of [some (.ref q_a0), none] kX8_readToken_p rfl rfl rfl ((tX8_readToken_E (X := (l, G, kX8_readToken, wX8_readToken G q_a0 q_a0_letters v_a0_length v_a0_place v_a0_at v_a0_token v_a0_number m_a0_letters, [.ref q_a0], qE none (wX8_readToken G q_a0 q_a0_letters v_a0_length out.1 out.2.1 out.2.2.1 out.2.2.2 m_a0_letters))) rfl rfl hf))

theorem lkb_X8_readToken : LkB kX8_readToken 0 := ⟨kw_2_133, kw_1_2, ⟨by decide, by decide⟩, by decide +kernel, by decide⟩
theorem lkV_X8_24 : LkV "FarDrum$Text" 24 kX8_readToken 0 := ⟨lkb_X8_readToken, kw_2_130, kw_2_132, kp_0⟩
theorem fk_X8_27_8 : Fk "FarDrum$Text" 27 8 4 := ⟨RX8, TX8, 6, "FarDrum$Text", rfl, inX8, by decide, kw_1_38, Or.inl rfl⟩
def wX8_readNumber (G : GT) (q_a0 : Nat) (q_a0_letters : Nat) (v_a0_length : Int32) (v_a0_place : Int32) (v_a0_at : Int32) (v_a0_token : Int32) (v_a0_number : Int32) (m_a0_letters : Nat → Int32) : va_W := [(q_a0, .inr (8, [.ref q_a0_letters, .int v_a0_length, .int v_a0_place, .int v_a0_at, .int v_a0_token, .int v_a0_number])), (q_a0_letters, .inl (G.2 1, 200, .inl m_a0_letters))]
def kX8_readNumber : KT := (yX8_readNumber, cX8_readNumber, 3, (some .boolean), 3, 0, 0)
theorem kX8_readNumber_r : kr kX8_readNumber = (some .boolean) ∧ kmc kX8_readNumber = 0 ∧ kms kX8_readNumber = 0 := ⟨rfl, rfl, rfl⟩
theorem kX8_readNumber_p : plainName (ky kX8_readNumber).cls = true := by decide +kernel
def fX8_readNumber_33 (s0 : Int32) (v_a0_place : Int32) (v_a0_at : Int32) (v_a0_token : Int32) (v_a0_number : Int32) : Option (Int32 × Int32 × Int32 × Int32 × Int32) :=
  bz s0 <| 
  some (s0, v_a0_place, v_a0_at, v_a0_token, v_a0_number)
def fX8_readNumber_32 (v_a0_place : Int32) (v_a0_at : Int32) (v_a0_token : Int32) (v_a0_number : Int32) : Option (Int32 × Int32 × Int32 × Int32 × Int32) :=
  fX8_readNumber_33 (0 : Int32) v_a0_place v_a0_at v_a0_token v_a0_number
def fX8_readNumber (N : Nat) (l1 : Int32) (l2 : Int32) (v_a0_length : Int32) (v_a0_at : Int32) (v_a0_number : Int32) (m_a0_letters : Nat → Int32) : Option (Int32 × Int32 × Int32 × Int32 × Int32) :=
  Option.bind (fX8_readToken N v_a0_length v_a0_at v_a0_number m_a0_letters) fun o1 =>
  if o1.2.2.1 = (2 : Int32) then (if o1.2.2.2 < l1 then (fX8_readNumber_32 o1.1 o1.2.1 o1.2.2.1 o1.2.2.2)
  else (if l2 < o1.2.2.2 then (fX8_readNumber_32 o1.1 o1.2.1 o1.2.2.1 o1.2.2.2)
  else (fX8_readNumber_33 (1 : Int32) o1.1 o1.2.1 o1.2.2.1 o1.2.2.2)))
  else (fX8_readNumber_32 o1.1 o1.2.1 o1.2.2.1 o1.2.2.2)
section
variable {X : XT} {N : Nat} {q_a0 : Nat} {q_a0_letters : Nat} {v_a0_length : Int32} {v_a0_place : Int32} {v_a0_at : Int32} {v_a0_token : Int32} {v_a0_number : Int32} {m_a0_letters : Nat → Int32} {l1 : Int32} {l2 : Int32} {s0 : Int32}
set_option maxRecDepth 20000 in
theorem tX8_readNumber_33 {out : Int32 × Int32 × Int32 × Int32 × Int32} (hX : xk X = kX8_readNumber) (hQ : xQ X = qE (some (.int out.1)) (wX8_readNumber (xG X) q_a0 q_a0_letters v_a0_length out.2.1 out.2.2.1 out.2.2.2.1 out.2.2.2.2 m_a0_letters)) (hf : fX8_readNumber_33 s0 v_a0_place v_a0_at v_a0_token v_a0_number = some out) : V X cX8_readNumber "FarDrum$Text" 0 0 (wX8_readNumber (xG X) q_a0 q_a0_letters v_a0_length v_a0_place v_a0_at v_a0_token v_a0_number m_a0_letters) [none, none, none] 33 [.int s0] := by
  unfold fX8_readNumber_33 at hf
  obtain ⟨hz, hf⟩ := bz_ok hf
  exact V.zretE (pc := 33) hX kX8_readNumber_r hQ hz dX8_readNumber_33 (by cases hf; rfl) (by cases hf; rfl)
set_option maxRecDepth 20000 in
theorem tX8_readNumber_32 {out : Int32 × Int32 × Int32 × Int32 × Int32} (hX : xk X = kX8_readNumber) (hQ : xQ X = qE (some (.int out.1)) (wX8_readNumber (xG X) q_a0 q_a0_letters v_a0_length out.2.1 out.2.2.1 out.2.2.2.1 out.2.2.2.2 m_a0_letters)) (hf : fX8_readNumber_32 v_a0_place v_a0_at v_a0_token v_a0_number = some out) : V X cX8_readNumber "FarDrum$Text" 0 0 (wX8_readNumber (xG X) q_a0 q_a0_letters v_a0_length v_a0_place v_a0_at v_a0_token v_a0_number m_a0_letters) [none, none, none] 32 [] := by
  unfold fX8_readNumber_32 at hf
  refine V.iconst (pc := 32) (v := 0) dX8_readNumber_32 (by decide) ?_
  exact tX8_readNumber_33 hX hQ hf
set_option maxRecDepth 20000 in
theorem tX8_readNumber_0 {out : Int32 × Int32 × Int32 × Int32 × Int32} (hX : xk X = kX8_readNumber) (hQ : xQ X = qE (some (.int out.1)) (wX8_readNumber (xG X) q_a0 q_a0_letters v_a0_length out.2.1 out.2.2.1 out.2.2.2.1 out.2.2.2.2 m_a0_letters)) (hf : fX8_readNumber N l1 l2 v_a0_length v_a0_at v_a0_number m_a0_letters = some out) : V X cX8_readNumber "FarDrum$Text" 0 0 (wX8_readNumber (xG X) q_a0 q_a0_letters v_a0_length v_a0_place v_a0_at v_a0_token v_a0_number m_a0_letters) [some (.ref q_a0), some (.int l1), some (.int l2)] 0 [] := by
  unfold fX8_readNumber at hf
  refine V.aloadn (pc := 0) dX8_readNumber_0 rfl ?_
  refine V.callVv (pc := 1) (q := 0) (wr := []) (wd' := fun o1 => wX8_readNumber (xG X) q_a0 q_a0_letters v_a0_length o1.1 o1.2.1 o1.2.2.1 o1.2.2.2 m_a0_letters) [] (st := []) hf (fun _ h => oX8_readToken (q_a0 := q_a0) (q_a0_letters := q_a0_letters) (v_a0_length := v_a0_length) (v_a0_place := v_a0_place) (v_a0_at := v_a0_at) (v_a0_token := v_a0_token) (v_a0_number := v_a0_number) (m_a0_letters := m_a0_letters) h) lkV_X8_24 dX8_readNumber_1 hX rfl ⟨rfl, rfl⟩ ⟨rfl, rfl⟩ rfl rfl rfl rfl rfl [0, 1] [] [0, 1] rfl rfl rfl rfl rfl (fun _ => rfl) rfl (fun o1 hf => ?_)
  refine V.aloadn (pc := 4) dX8_readNumber_4 rfl ?_
  refine V.getf (q := 0) (pc := 5) dX8_readNumber_5 fk_X8_27_8 rfl rfl ?_
  refine V.iconst (pc := 8) (v := 2) dX8_readNumber_8 (by decide) ?_
  refine V.icmp_ne (pc := 9) (tgt := 32) dX8_readNumber_9 (by decide) hf (fun hf => ?_) (fun hf => ?_)
  · refine V.mask (pc := 32) [false, false, false] rfl rfl ?_
    exact tX8_readNumber_32 hX hQ hf
  · refine V.aloadn (pc := 12) dX8_readNumber_12 rfl ?_
    refine V.getf (q := 0) (pc := 13) dX8_readNumber_13 fk_X8_53_8 rfl rfl ?_
    refine V.iloadn (pc := 16) dX8_readNumber_16 rfl ?_
    refine V.icmp_lt (pc := 17) (tgt := 32) dX8_readNumber_17 (by decide) hf (fun hf => ?_) (fun hf => ?_)
    · refine V.mask (pc := 32) [false, false, false] rfl rfl ?_
      exact tX8_readNumber_32 hX hQ hf
    · refine V.aloadn (pc := 20) dX8_readNumber_20 rfl ?_
      refine V.getf (q := 0) (pc := 21) dX8_readNumber_21 fk_X8_53_8 rfl rfl ?_
      refine V.iloadn (pc := 24) dX8_readNumber_24 rfl ?_
      refine V.icmp_gt (pc := 25) (tgt := 32) dX8_readNumber_25 (by decide) hf (fun hf => ?_) (fun hf => ?_)
      · refine V.mask (pc := 32) [false, false, false] rfl rfl ?_
        exact tX8_readNumber_32 hX hQ hf
      · refine V.iconst (pc := 28) (v := 1) dX8_readNumber_28 (by decide) ?_
        refine V.goto (pc := 29) (tgt := 33) dX8_readNumber_29 (by decide) ?_
        refine V.mask (pc := 33) [false, false, false] rfl rfl ?_
        exact tX8_readNumber_33 hX hQ hf
end
theorem oX8_readNumber {l : Launch} {G : GT} {N : Nat} {q_a0 : Nat} {q_a0_letters : Nat} {v_a0_length : Int32} {v_a0_place : Int32} {v_a0_at : Int32} {v_a0_token : Int32} {v_a0_number : Int32} {m_a0_letters : Nat → Int32} {l1 : Int32} {l2 : Int32} {out : Int32 × Int32 × Int32 × Int32 × Int32} (hf : fX8_readNumber N l1 l2 v_a0_length v_a0_at v_a0_number m_a0_letters = some out) : Ct (l, G, kX8_readNumber, wX8_readNumber G q_a0 q_a0_letters v_a0_length v_a0_place v_a0_at v_a0_token v_a0_number m_a0_letters, [.ref q_a0, .int l1, .int l2], qE (some (.int out.1)) (wX8_readNumber G q_a0 q_a0_letters v_a0_length out.2.1 out.2.2.1 out.2.2.2.1 out.2.2.2.2 m_a0_letters)) :=
  Ct.of [some (.ref q_a0), some (.int l1), some (.int l2)] kX8_readNumber_p rfl rfl rfl ((tX8_readNumber_0 (X := (l, G, kX8_readNumber, wX8_readNumber G q_a0 q_a0_letters v_a0_length v_a0_place v_a0_at v_a0_token v_a0_number m_a0_letters, [.ref q_a0, .int l1, .int l2], qE (some (.int out.1)) (wX8_readNumber G q_a0 q_a0_letters v_a0_length out.2.1 out.2.2.1 out.2.2.2.1 out.2.2.2.2 m_a0_letters))) rfl rfl hf))

def wX8_readItemEnd (G : GT) (q_a0 : Nat) (q_a0_letters : Nat) (v_a0_length : Int32) (v_a0_place : Int32) (v_a0_at : Int32) (v_a0_token : Int32) (v_a0_number : Int32) (m_a0_letters : Nat → Int32) : va_W := [(q_a0, .inr (8, [.ref q_a0_letters, .int v_a0_length, .int v_a0_place, .int v_a0_at, .int v_a0_token, .int v_a0_number])), (q_a0_letters, .inl (G.2 1, 200, .inl m_a0_letters))]
def kX8_readItemEnd : KT := (yX8_readItemEnd, cX8_readItemEnd, 1, (some .boolean), 3, 0, 0)
theorem kX8_readItemEnd_r : kr kX8_readItemEnd = (some .boolean) ∧ kmc kX8_readItemEnd = 0 ∧ kms kX8_readItemEnd = 0 := ⟨rfl, rfl, rfl⟩
theorem kX8_readItemEnd_p : plainName (ky kX8_readItemEnd).cls = true := by decide +kernel
def fX8_readItemEnd_18 (s0 : Int32) (v_a0_place : Int32) (v_a0_at : Int32) (v_a0_token : Int32) (v_a0_number : Int32) : Option (Int32 × Int32 × Int32 × Int32 × Int32) :=
  bz s0 <| 
  some (s0, v_a0_place, v_a0_at, v_a0_token, v_a0_number)
def fX8_readItemEnd (N : Nat) (v_a0_length : Int32) (v_a0_at : Int32) (v_a0_number : Int32) (m_a0_letters : Nat → Int32) : Option (Int32 × Int32 × Int32 × Int32 × Int32) :=
  Option.bind (fX8_readToken N v_a0_length v_a0_at v_a0_number m_a0_letters) fun o1 =>
  if o1.2.2.1 = (59 : Int32) then (fX8_readItemEnd_18 (1 : Int32) o1.1 o1.2.1 o1.2.2.1 o1.2.2.2)
  else (fX8_readItemEnd_18 (0 : Int32) o1.1 o1.2.1 o1.2.2.1 o1.2.2.2)
section
variable {X : XT} {N : Nat} {q_a0 : Nat} {q_a0_letters : Nat} {v_a0_length : Int32} {v_a0_place : Int32} {v_a0_at : Int32} {v_a0_token : Int32} {v_a0_number : Int32} {m_a0_letters : Nat → Int32} {s0 : Int32}
set_option maxRecDepth 20000 in
theorem tX8_readItemEnd_18 {out : Int32 × Int32 × Int32 × Int32 × Int32} (hX : xk X = kX8_readItemEnd) (hQ : xQ X = qE (some (.int out.1)) (wX8_readItemEnd (xG X) q_a0 q_a0_letters v_a0_length out.2.1 out.2.2.1 out.2.2.2.1 out.2.2.2.2 m_a0_letters)) (hf : fX8_readItemEnd_18 s0 v_a0_place v_a0_at v_a0_token v_a0_number = some out) : V X cX8_readItemEnd "FarDrum$Text" 0 0 (wX8_readItemEnd (xG X) q_a0 q_a0_letters v_a0_length v_a0_place v_a0_at v_a0_token v_a0_number m_a0_letters) [none] 18 [.int s0] := by
  unfold fX8_readItemEnd_18 at hf
  obtain ⟨hz, hf⟩ := bz_ok hf
  exact V.zretE (pc := 18) hX kX8_readItemEnd_r hQ hz dX8_readItemEnd_18 (by cases hf; rfl) (by cases hf; rfl)
set_option maxRecDepth 20000 in
theorem tX8_readItemEnd_0 {out : Int32 × Int32 × Int32 × Int32 × Int32} (hX : xk X = kX8_readItemEnd) (hQ : xQ X = qE (some (.int out.1)) (wX8_readItemEnd (xG X) q_a0 q_a0_letters v_a0_length out.2.1 out.2.2.1 out.2.2.2.1 out.2.2.2.2 m_a0_letters)) (hf : fX8_readItemEnd N v_a0_length v_a0_at v_a0_number m_a0_letters = some out) : V X cX8_readItemEnd "FarDrum$Text" 0 0 (wX8_readItemEnd (xG X) q_a0 q_a0_letters v_a0_length v_a0_place v_a0_at v_a0_token v_a0_number m_a0_letters) [some (.ref q_a0)] 0 [] := by
  unfold fX8_readItemEnd at hf
  refine V.aloadn (pc := 0) dX8_readItemEnd_0 rfl ?_
  refine V.callVv (pc := 1) (q := 0) (wr := []) (wd' := fun o1 => wX8_readItemEnd (xG X) q_a0 q_a0_letters v_a0_length o1.1 o1.2.1 o1.2.2.1 o1.2.2.2 m_a0_letters) [] (st := []) hf (fun _ h => oX8_readToken (q_a0 := q_a0) (q_a0_letters := q_a0_letters) (v_a0_length := v_a0_length) (v_a0_place := v_a0_place) (v_a0_at := v_a0_at) (v_a0_token := v_a0_token) (v_a0_number := v_a0_number) (m_a0_letters := m_a0_letters) h) lkV_X8_24 dX8_readItemEnd_1 hX rfl ⟨rfl, rfl⟩ ⟨rfl, rfl⟩ rfl rfl rfl rfl rfl [0, 1] [] [0, 1] rfl rfl rfl rfl rfl (fun _ => rfl) rfl (fun o1 hf => ?_)
  refine V.aloadn (pc := 4) dX8_readItemEnd_4 rfl ?_
  refine V.getf (q := 0) (pc := 5) dX8_readItemEnd_5 fk_X8_27_8 rfl rfl ?_
  refine V.bipush (pc := 8) (v := 59) dX8_readItemEnd_8 (by decide) ?_
  refine V.icmp_ne (pc := 10) (tgt := 17) dX8_readItemEnd_10 (by decide) hf (fun hf => ?_) (fun hf => ?_)
  · refine V.iconst (pc := 17) (v := 0) dX8_readItemEnd_17 (by decide) ?_
    refine V.mask (pc := 18) [false] rfl rfl ?_
    exact tX8_readItemEnd_18 hX hQ hf
  · refine V.iconst (pc := 13) (v := 1) dX8_readItemEnd_13 (by decide) ?_
    refine V.goto (pc := 14) (tgt := 18) dX8_readItemEnd_14 (by decide) ?_
    refine V.mask (pc := 18) [false] rfl rfl ?_
    exact tX8_readItemEnd_18 hX hQ hf
end
theorem oX8_readItemEnd {l : Launch} {G : GT} {N : Nat} {q_a0 : Nat} {q_a0_letters : Nat} {v_a0_length : Int32} {v_a0_place : Int32} {v_a0_at : Int32} {v_a0_token : Int32} {v_a0_number : Int32} {m_a0_letters : Nat → Int32} {out : Int32 × Int32 × Int32 × Int32 × Int32} (hf : fX8_readItemEnd N v_a0_length v_a0_at v_a0_number m_a0_letters = some out) : Ct (l, G, kX8_readItemEnd, wX8_readItemEnd G q_a0 q_a0_letters v_a0_length v_a0_place v_a0_at v_a0_token v_a0_number m_a0_letters, [.ref q_a0], qE (some (.int out.1)) (wX8_readItemEnd G q_a0 q_a0_letters v_a0_length out.2.1 out.2.2.1 out.2.2.2.1 out.2.2.2.2 m_a0_letters)) :=
  Ct.of [some (.ref q_a0)] kX8_readItemEnd_p rfl rfl rfl ((tX8_readItemEnd_0 (X := (l, G, kX8_readItemEnd, wX8_readItemEnd G q_a0 q_a0_letters v_a0_length v_a0_place v_a0_at v_a0_token v_a0_number m_a0_letters, [.ref q_a0], qE (some (.int out.1)) (wX8_readItemEnd G q_a0 q_a0_letters v_a0_length out.2.1 out.2.2.1 out.2.2.2.1 out.2.2.2.2 m_a0_letters))) rfl rfl hf))

theorem fk_X8_46_9 : Fk "FarDrum$Text" 46 9 0 := ⟨RX9, TX9, 8, "FarDrum$Valley", rfl, inX9, by decide, kw_1_63, Or.inl rfl⟩
theorem lkb_X8_readNumber : LkB kX8_readNumber 2 := ⟨kw_2_158, kw_1_2, ⟨by decide, by decide⟩, by decide +kernel, by decide⟩
theorem lkV_X8_49 : LkV "FarDrum$Text" 49 kX8_readNumber 2 := ⟨lkb_X8_readNumber, kw_2_155, kw_2_157, kp_4⟩
theorem lkb_X9_addVillage : LkB kX9_addVillage 2 := ⟨kw_2_162, kw_1_3, ⟨by decide, by decide⟩, by decide +kernel, by decide⟩
theorem lkV_X8_56 : LkV "FarDrum$Text" 56 kX9_addVillage 2 := ⟨lkb_X9_addVillage, kw_2_159, kw_2_160, kw_2_161⟩
theorem lkb_X8_readItemEnd : LkB kX8_readItemEnd 0 := ⟨kw_2_166, kw_1_2, ⟨by decide, by decide⟩, by decide +kernel, by decide⟩
theorem lkV_X8_60 : LkV "FarDrum$Text" 60 kX8_readItemEnd 0 := ⟨lkb_X8_readItemEnd, kw_2_163, kw_2_165, kp_5⟩
def wX8_readVillage (G : GT) (q_a0 : Nat) (q_a0_letters : Nat) (q_a1 : Nat) (q_a1_slow : Nat) (v_a0_length : Int32) (v_a0_place : Int32) (v_a0_at : Int32) (v_a0_token : Int32) (v_a0_number : Int32) (m_a0_letters : Nat → Int32) (v_a1_villages : Int32) (v_a1_deaf : Int32) (u_a1_reach : Value) (u_a1_start : Value) (u_a1_reachTold : Value) (u_a1_startTold : Value) (u_a1_ways : Value) (m_a1_slow : Nat → Int32) : va_W := [(q_a0, .inr (8, [.ref q_a0_letters, .int v_a0_length, .int v_a0_place, .int v_a0_at, .int v_a0_token, .int v_a0_number])), (q_a0_letters, .inl (G.2 1, 200, .inl m_a0_letters)), (q_a1, .inr (9, [.int v_a1_villages, .int v_a1_deaf, u_a1_reach, u_a1_start, u_a1_reachTold, u_a1_startTold, .ref q_a1_slow, u_a1_ways])), (q_a1_slow, .inl (G.2 0, 6, .inl m_a1_slow))]
def kX8_readVillage : KT := (yX8_readVillage, cX8_readVillage, 3, (some .boolean), 4, 0, 0)
theorem kX8_readVillage_r : kr kX8_readVillage = (some .boolean) ∧ kmc kX8_readVillage = 0 ∧ kms kX8_readVillage = 0 := ⟨rfl, rfl, rfl⟩
theorem kX8_readVillage_p : plainName (ky kX8_readVillage).cls = true := by decide +kernel
def fX8_readVillage (N : Nat) (v_a0_length : Int32) (v_a0_place : Int32) (v_a0_at : Int32) (v_a0_token : Int32) (v_a0_number : Int32) (m_a0_letters : Nat → Int32) (v_a1_villages : Int32) (v_a1_deaf : Int32) (m_a1_slow : Nat → Int32) : Option (Int32 × Int32 × Int32 × Int32 × Int32 × Int32 × Int32 × (Nat → Int32)) :=
  if v_a1_villages < (6 : Int32) then (Option.bind (fX8_readNumber N (0 : Int32) (9 : Int32) v_a0_length v_a0_at v_a0_number m_a0_letters) fun o15 =>
  if o15.1 = 0 then (some ((0 : Int32), o15.2.1, o15.2.2.1, o15.2.2.2.1, o15.2.2.2.2, v_a1_villages, v_a1_deaf, m_a1_slow))
  else (Option.bind (fX8_readNumber N (0 : Int32) (1 : Int32) v_a0_length o15.2.2.1 o15.2.2.2.2 m_a0_letters) fun o31 =>
  if o31.1 = 0 then (some ((0 : Int32), o31.2.1, o31.2.2.1, o31.2.2.2.1, o31.2.2.2.2, v_a1_villages, v_a1_deaf, m_a1_slow))
  else (Option.bind (fX9_addVillage o15.2.2.2.2 o31.2.2.2.2 v_a1_villages v_a1_deaf m_a1_slow) fun o45 =>
  Option.bind (fX8_readItemEnd N v_a0_length o31.2.2.1 o31.2.2.2.2 m_a0_letters) fun o49 =>
  bz o49.1 <| 
  some (o49.1, o49.2.1, o49.2.2.1, o49.2.2.2.1, o49.2.2.2.2, o45.1, o45.2.1, o45.2.2))))
  else (some ((0 : Int32), v_a0_place, v_a0_at, v_a0_token, v_a0_number, v_a1_villages, v_a1_deaf, m_a1_slow))
section
variable {X : XT} {N : Nat} {q_a0 : Nat} {q_a0_letters : Nat} {q_a1 : Nat} {q_a1_slow : Nat} {v_a0_length : Int32} {v_a0_place : Int32} {v_a0_at : Int32} {v_a0_token : Int32} {v_a0_number : Int32} {m_a0_letters : Nat → Int32} {v_a1_villages : Int32} {v_a1_deaf : Int32} {u_a1_reach : Value} {u_a1_start : Value} {u_a1_reachTold : Value} {u_a1_startTold : Value} {u_a1_ways : Value} {m_a1_slow : Nat → Int32}
set_option maxRecDepth 20000 in
theorem tX8_readVillage_0 {out : Int32 × Int32 × Int32 × Int32 × Int32 × Int32 × Int32 × (Nat → Int32)} (hX : xk X = kX8_readVillage) (hQ : xQ X = qE (some (.int out.1)) (wX8_readVillage (xG X) q_a0 q_a0_letters q_a1 q_a1_slow v_a0_length out.2.1 out.2.2.1 out.2.2.2.1 out.2.2.2.2.1 m_a0_letters out.2.2.2.2.2.1 out.2.2.2.2.2.2.1 u_a1_reach u_a1_start u_a1_reachTold u_a1_startTold u_a1_ways out.2.2.2.2.2.2.2)) (hf : fX8_readVillage N v_a0_length v_a0_place v_a0_at v_a0_token v_a0_number m_a0_letters v_a1_villages v_a1_deaf m_a1_slow = some out) : V X cX8_readVillage "FarDrum$Text" 0 0 (wX8_readVillage (xG X) q_a0 q_a0_letters q_a1 q_a1_slow v_a0_length v_a0_place v_a0_at v_a0_token v_a0_number m_a0_letters v_a1_villages v_a1_deaf u_a1_reach u_a1_start u_a1_reachTold u_a1_startTold u_a1_ways m_a1_slow) [some (.ref q_a0), some (.ref q_a1), none] 0 [] := by
  unfold fX8_readVillage at hf
  refine V.aloadn (pc := 0) dX8_readVillage_0 rfl ?_
  refine V.getf (q := 2) (pc := 1) dX8_readVillage_1 fk_X8_46_9 rfl rfl ?_
  refine V.bipush (pc := 4) (v := 6) dX8_readVillage_4 (by decide) ?_
  refine V.icmp_lt (pc := 6) (tgt := 11) dX8_readVillage_6 (by decide) hf (fun hf => ?_) (fun hf => ?_)
  · refine V.aloadn (pc := 11) dX8_readVillage_11 rfl ?_
    refine V.iconst (pc := 12) (v := 0) dX8_readVillage_12 (by decide) ?_
    refine V.bipush (pc := 13) (v := 9) dX8_readVillage_13 (by decide) ?_
    refine V.callVi (pc := 15) (q := 0) (wr := [(q_a1, .inr (9, [.int v_a1_villages, .int v_a1_deaf, u_a1_reach, u_a1_start, u_a1_reachTold, u_a1_startTold, .ref q_a1_slow, u_a1_ways])), (q_a1_slow, .inl ((xG X).2 0, 6, .inl m_a1_slow))]) (wd' := fun o15 => wX8_readVillage (xG X) q_a0 q_a0_letters q_a1 q_a1_slow v_a0_length o15.2.1 o15.2.2.1 o15.2.2.2.1 o15.2.2.2.2 m_a0_letters v_a1_villages v_a1_deaf u_a1_reach u_a1_start u_a1_reachTold u_a1_startTold u_a1_ways m_a1_slow) [.int (0 : Int32), .int (9 : Int32)] (st := []) hf (fun _ h => oX8_readNumber (q_a0 := q_a0) (q_a0_letters := q_a0_letters) (v_a0_length := v_a0_length) (v_a0_place := v_a0_place) (v_a0_at := v_a0_at) (v_a0_token := v_a0_token) (v_a0_number := v_a0_number) (m_a0_letters := m_a0_letters) (l1 := (0 : Int32)) (l2 := (9 : Int32)) h) lkV_X8_49 dX8_readVillage_15 hX rfl ⟨rfl, rfl⟩ ⟨rfl, rfl⟩ rfl rfl rfl rfl rfl [0, 1] [2, 3] [2, 3, 0, 1] rfl rfl rfl rfl rfl (fun _ => rfl) rfl (fun o15 hf => ?_)
    refine V.if_ne (pc := 18) (tgt := 23) dX8_readVillage_18 (by decide) hf (fun hf => ?_) (fun hf => ?_)
    · refine V.aloadn (pc := 23) dX8_readVillage_23 rfl ?_
      refine V.getf (q := 0) (pc := 24) dX8_readVillage_24 fk_X8_53_8 rfl rfl ?_
      refine V.istoren (pc := 27) dX8_readVillage_27 rfl rfl rfl ?_
      refine V.aloadn (pc := 28) dX8_readVillage_28 rfl ?_
      refine V.iconst (pc := 29) (v := 0) dX8_readVillage_29 (by decide) ?_
      refine V.iconst (pc := 30) (v := 1) dX8_readVillage_30 (by decide) ?_
      refine V.callVi (pc := 31) (q := 0) (wr := [(q_a1, .inr (9, [.int v_a1_villages, .int v_a1_deaf, u_a1_reach, u_a1_start, u_a1_reachTold, u_a1_startTold, .ref q_a1_slow, u_a1_ways])), (q_a1_slow, .inl ((xG X).2 0, 6, .inl m_a1_slow))]) (wd' := fun o31 => wX8_readVillage (xG X) q_a0 q_a0_letters q_a1 q_a1_slow v_a0_length o31.2.1 o31.2.2.1 o31.2.2.2.1 o31.2.2.2.2 m_a0_letters v_a1_villages v_a1_deaf u_a1_reach u_a1_start u_a1_reachTold u_a1_startTold u_a1_ways m_a1_slow) [.int (0 : Int32), .int (1 : Int32)] (st := []) hf (fun _ h => oX8_readNumber (q_a0 := q_a0) (q_a0_letters := q_a0_letters) (v_a0_length := v_a0_length) (v_a0_place := o15.2.1) (v_a0_at := o15.2.2.1) (v_a0_token := o15.2.2.2.1) (v_a0_number := o15.2.2.2.2) (m_a0_letters := m_a0_letters) (l1 := (0 : Int32)) (l2 := (1 : Int32)) h) lkV_X8_49 dX8_readVillage_31 hX rfl ⟨rfl, rfl⟩ ⟨rfl, rfl⟩ rfl rfl rfl rfl rfl [0, 1] [2, 3] [2, 3, 0, 1] rfl rfl rfl rfl rfl (fun _ => rfl) rfl (fun o31 hf => ?_)
      refine V.if_ne (pc := 34) (tgt := 39) dX8_readVillage_34 (by decide) hf (fun hf => ?_) (fun hf => ?_)
      · refine V.aloadn (pc := 39) dX8_readVillage_39 rfl ?_
        refine V.iloadn (pc := 40) dX8_readVillage_40 rfl ?_
        refine V.aloadn (pc := 41) dX8_readVillage_41 rfl ?_
        refine V.getf (q := 0) (pc := 42) dX8_readVillage_42 fk_X8_53_8 rfl rfl ?_
        refine V.callVv (pc := 45) (q := 2) (wr := [(q_a0, .inr (8, [.ref q_a0_letters, .int v_a0_length, .int o31.2.1, .int o31.2.2.1, .int o31.2.2.2.1, .int o31.2.2.2.2])), (q_a0_letters, .inl ((xG X).2 1, 200, .inl m_a0_letters))]) (wd' := fun o45 => wX8_readVillage (xG X) q_a0 q_a0_letters q_a1 q_a1_slow v_a0_length o31.2.1 o31.2.2.1 o31.2.2.2.1 o31.2.2.2.2 m_a0_letters o45.1 o45.2.1 u_a1_reach u_a1_start u_a1_reachTold u_a1_startTold u_a1_ways o45.2.2) [.int o15.2.2.2.2, .int o31.2.2.2.2] (st := []) hf (fun _ h => oX9_addVillage (q_a0 := q_a1) (q_a0_slow := q_a1_slow) (v_a0_villages := v_a1_villages) (v_a0_deaf := v_a1_deaf) (u_a0_reach := u_a1_reach) (u_a0_start := u_a1_start) (u_a0_reachTold := u_a1_reachTold) (u_a0_startTold := u_a1_startTold) (u_a0_ways := u_a1_ways) (m_a0_slow := m_a1_slow) (l1 := o15.2.2.2.2) (l2 := o31.2.2.2.2) h) lkV_X8_56 dX8_readVillage_45 hX rfl ⟨rfl, rfl⟩ ⟨rfl, rfl⟩ rfl rfl rfl rfl rfl [2, 3] [0, 1] [0, 1, 2, 3] rfl rfl rfl rfl rfl (fun _ => rfl) rfl (fun o45 hf => ?_)
        refine V.aloadn (pc := 48) dX8_readVillage_48 rfl ?_
        refine V.callVi (pc := 49) (q := 0) (wr := [(q_a1, .inr (9, [.int o45.1, .int o45.2.1, u_a1_reach, u_a1_start, u_a1_reachTold, u_a1_startTold, .ref q_a1_slow, u_a1_ways])), (q_a1_slow, .inl ((xG X).2 0, 6, .inl o45.2.2))]) (wd' := fun o49 => wX8_readVillage (xG X) q_a0 q_a0_letters q_a1 q_a1_slow v_a0_length o49.2.1 o49.2.2.1 o49.2.2.2.1 o49.2.2.2.2 m_a0_letters o45.1 o45.2.1 u_a1_reach u_a1_start u_a1_reachTold u_a1_startTold u_a1_ways o45.2.2) [] (st := []) hf (fun _ h => oX8_readItemEnd (q_a0 := q_a0) (q_a0_letters := q_a0_letters) (v_a0_length := v_a0_length) (v_a0_place := o31.2.1) (v_a0_at := o31.2.2.1) (v_a0_token := o31.2.2.2.1) (v_a0_number := o31.2.2.2.2) (m_a0_letters := m_a0_letters) h) lkV_X8_60 dX8_readVillage_49 hX rfl ⟨rfl, rfl⟩ ⟨rfl, rfl⟩ rfl rfl rfl rfl rfl [0, 1] [2, 3] [2, 3, 0, 1] rfl rfl rfl rfl rfl (fun _ => rfl) rfl (fun o49 hf => ?_)
        obtain ⟨hz, hf⟩ := bz_ok hf
        exact V.zretE (pc := 52) hX kX8_readVillage_r hQ hz dX8_readVillage_52 (by cases hf; rfl) (by cases hf; rfl)
      · refine V.iconst (pc := 37) (v := 0) dX8_readVillage_37 (by decide) ?_
        exact V.zretE (pc := 38) hX kX8_readVillage_r hQ rfl dX8_readVillage_38 (by cases hf; rfl) (by cases hf; rfl)
    · refine V.iconst (pc := 21) (v := 0) dX8_readVillage_21 (by decide) ?_
      exact V.zretE (pc := 22) hX kX8_readVillage_r hQ rfl dX8_readVillage_22 (by cases hf; rfl) (by cases hf; rfl)
  · refine V.iconst (pc := 9) (v := 0) dX8_readVillage_9 (by decide) ?_
    exact V.zretE (pc := 10) hX kX8_readVillage_r hQ rfl dX8_readVillage_10 (by cases hf; rfl) (by cases hf; rfl)
end
theorem oX8_readVillage {l : Launch} {G : GT} {N : Nat} {q_a0 : Nat} {q_a0_letters : Nat} {q_a1 : Nat} {q_a1_slow : Nat} {v_a0_length : Int32} {v_a0_place : Int32} {v_a0_at : Int32} {v_a0_token : Int32} {v_a0_number : Int32} {m_a0_letters : Nat → Int32} {v_a1_villages : Int32} {v_a1_deaf : Int32} {u_a1_reach : Value} {u_a1_start : Value} {u_a1_reachTold : Value} {u_a1_startTold : Value} {u_a1_ways : Value} {m_a1_slow : Nat → Int32} {out : Int32 × Int32 × Int32 × Int32 × Int32 × Int32 × Int32 × (Nat → Int32)} (hf : fX8_readVillage N v_a0_length v_a0_place v_a0_at v_a0_token v_a0_number m_a0_letters v_a1_villages v_a1_deaf m_a1_slow = some out) : Ct (l, G, kX8_readVillage, wX8_readVillage G q_a0 q_a0_letters q_a1 q_a1_slow v_a0_length v_a0_place v_a0_at v_a0_token v_a0_number m_a0_letters v_a1_villages v_a1_deaf u_a1_reach u_a1_start u_a1_reachTold u_a1_startTold u_a1_ways m_a1_slow, [.ref q_a0, .ref q_a1], qE (some (.int out.1)) (wX8_readVillage G q_a0 q_a0_letters q_a1 q_a1_slow v_a0_length out.2.1 out.2.2.1 out.2.2.2.1 out.2.2.2.2.1 m_a0_letters out.2.2.2.2.2.1 out.2.2.2.2.2.2.1 u_a1_reach u_a1_start u_a1_reachTold u_a1_startTold u_a1_ways out.2.2.2.2.2.2.2)) :=
  Ct.of [some (.ref q_a0), some (.ref q_a1), none] kX8_readVillage_p rfl rfl rfl ((tX8_readVillage_0 (X := (l, G, kX8_readVillage, wX8_readVillage G q_a0 q_a0_letters q_a1 q_a1_slow v_a0_length v_a0_place v_a0_at v_a0_token v_a0_number m_a0_letters v_a1_villages v_a1_deaf u_a1_reach u_a1_start u_a1_reachTold u_a1_startTold u_a1_ways m_a1_slow, [.ref q_a0, .ref q_a1], qE (some (.int out.1)) (wX8_readVillage G q_a0 q_a0_letters q_a1 q_a1_slow v_a0_length out.2.1 out.2.2.1 out.2.2.2.1 out.2.2.2.2.1 m_a0_letters out.2.2.2.2.2.1 out.2.2.2.2.2.2.1 u_a1_reach u_a1_start u_a1_reachTold u_a1_startTold u_a1_ways out.2.2.2.2.2.2.2))) rfl rfl hf))

theorem lkb_X9_addWay : LkB kX9_addWay 3 := ⟨kw_2_174, kw_1_3, ⟨by decide, by decide⟩, by decide +kernel, by decide⟩
theorem lkV_X8_64 : LkV "FarDrum$Text" 64 kX9_addWay 3 := ⟨lkb_X9_addWay, kw_2_171, kw_2_172, kw_2_173⟩
def wX8_readWay (G : GT) (q_a0 : Nat) (q_a0_letters : Nat) (q_a1 : Nat) (q_a1_ways : Nat) (v_a0_length : Int32) (v_a0_place : Int32) (v_a0_at : Int32) (v_a0_token : Int32) (v_a0_number : Int32) (m_a0_letters : Nat → Int32) (v_a1_villages : Int32) (u_a1_deaf : Value) (u_a1_reach : Value) (u_a1_start : Value) (u_a1_reachTold : Value) (u_a1_startTold : Value) (u_a1_slow : Value) (m_a1_ways : Nat → Int32) : va_W := [(q_a0, .inr (8, [.ref q_a0_letters, .int v_a0_length, .int v_a0_place, .int v_a0_at, .int v_a0_token, .int v_a0_number])), (q_a0_letters, .inl (G.2 1, 200, .inl m_a0_letters)), (q_a1, .inr (9, [.int v_a1_villages, u_a1_deaf, u_a1_reach, u_a1_start, u_a1_reachTold, u_a1_startTold, u_a1_slow, .ref q_a1_ways])), (q_a1_ways, .inl (G.2 0, 36, .inl m_a1_ways))]
def kX8_readWay : KT := (yX8_readWay, cX8_readWay, 4, (some .boolean), 4, 0, 0)
theorem kX8_readWay_r : kr kX8_readWay = (some .boolean) ∧ kmc kX8_readWay = 0 ∧ kms kX8_readWay = 0 := ⟨rfl, rfl, rfl⟩
theorem kX8_readWay_p : plainName (ky kX8_readWay).cls = true := by decide +kernel
def fX8_readWay_43 (v_a0_place : Int32) (v_a0_at : Int32) (v_a0_token : Int32) (v_a0_number : Int32) (m_a1_ways : Nat → Int32) : Option (Int32 × Int32 × Int32 × Int32 × Int32 × (Nat → Int32)) :=
  some ((0 : Int32), v_a0_place, v_a0_at, v_a0_token, v_a0_number, m_a1_ways)
def fX8_readWay (N : Nat) (v_a0_length : Int32) (v_a0_at : Int32) (v_a0_number : Int32) (m_a0_letters : Nat → Int32) (v_a1_villages : Int32) (m_a1_ways : Nat → Int32) : Option (Int32 × Int32 × Int32 × Int32 × Int32 × (Nat → Int32)) :=
  Option.bind (fX8_readNumber N (0 : Int32) (v_a1_villages - (1 : Int32)) v_a0_length v_a0_at v_a0_number m_a0_letters) fun o8 =>
  if o8.1 = 0 then (some ((0 : Int32), o8.2.1, o8.2.2.1, o8.2.2.2.1, o8.2.2.2.2, m_a1_ways))
  else (Option.bind (fX8_readNumber N (0 : Int32) (v_a1_villages - (1 : Int32)) v_a0_length o8.2.2.1 o8.2.2.2.2 m_a0_letters) fun o29 =>
  if o29.1 = 0 then (fX8_readWay_43 o29.2.1 o29.2.2.1 o29.2.2.2.1 o29.2.2.2.2 m_a1_ways)
  else (if o29.2.2.2.2 = o8.2.2.2.2 then (fX8_readWay_43 o29.2.1 o29.2.2.1 o29.2.2.2.1 o29.2.2.2.2 m_a1_ways)
  else (Option.bind (fX8_readNumber N (1 : Int32) (9 : Int32) v_a0_length o29.2.2.1 o29.2.2.2.2 m_a0_letters) fun o54 =>
  if o54.1 = 0 then (some ((0 : Int32), o54.2.1, o54.2.2.1, o54.2.2.2.1, o54.2.2.2.2, m_a1_ways))
  else (Option.bind (fX9_addWay o8.2.2.2.2 o29.2.2.2.2 o54.2.2.2.2 m_a1_ways) fun o69 =>
  Option.bind (fX8_readItemEnd N v_a0_length o54.2.2.1 o54.2.2.2.2 m_a0_letters) fun o73 =>
  bz o73.1 <| 
  some (o73.1, o73.2.1, o73.2.2.1, o73.2.2.2.1, o73.2.2.2.2, o69)))))
section
variable {X : XT} {N : Nat} {q_a0 : Nat} {q_a0_letters : Nat} {q_a1 : Nat} {q_a1_ways : Nat} {v_a0_length : Int32} {v_a0_place : Int32} {v_a0_at : Int32} {v_a0_token : Int32} {v_a0_number : Int32} {m_a0_letters : Nat → Int32} {v_a1_villages : Int32} {u_a1_deaf : Value} {u_a1_reach : Value} {u_a1_start : Value} {u_a1_reachTold : Value} {u_a1_startTold : Value} {u_a1_slow : Value} {m_a1_ways : Nat → Int32}
set_option maxRecDepth 20000 in
theorem tX8_readWay_43 {out : Int32 × Int32 × Int32 × Int32 × Int32 × (Nat → Int32)} (hX : xk X = kX8_readWay) (hQ : xQ X = qE (some (.int out.1)) (wX8_readWay (xG X) q_a0 q_a0_letters q_a1 q_a1_ways v_a0_length out.2.1 out.2.2.1 out.2.2.2.1 out.2.2.2.2.1 m_a0_letters v_a1_villages u_a1_deaf u_a1_reach u_a1_start u_a1_reachTold u_a1_startTold u_a1_slow out.2.2.2.2.2)) (hf : fX8_readWay_43 v_a0_place v_a0_at v_a0_token v_a0_number m_a1_ways = some out) : V X cX8_readWay "FarDrum$Text" 0 0 (wX8_readWay (xG X) q_a0 q_a0_letters q_a1 q_a1_ways v_a0_length v_a0_place v_a0_at v_a0_token v_a0_number m_a0_letters v_a1_villages u_a1_deaf u_a1_reach u_a1_start u_a1_reachTold u_a1_startTold u_a1_slow m_a1_ways) [none, none, none, none] 43 [] := by
  unfold fX8_readWay_43 at hf
  refine V.iconst (pc := 43) (v := 0) dX8_readWay_43 (by decide) ?_
  exact V.zretE (pc := 44) hX kX8_readWay_r hQ rfl dX8_readWay_44 (by cases hf; rfl) (by cases hf; rfl)
set_option maxRecDepth 20000 in
theorem tX8_readWay_0 {out : Int32 × Int32 × Int32 × Int32 × Int32 × (Nat → Int32)} (hX : xk X = kX8_readWay) (hQ : xQ X = qE (some (.int out.1)) (wX8_readWay (xG X) q_a0 q_a0_letters q_a1 q_a1_ways v_a0_length out.2.1 out.2.2.1 out.2.2.2.1 out.2.2.2.2.1 m_a0_letters v_a1_villages u_a1_deaf u_a1_reach u_a1_start u_a1_reachTold u_a1_startTold u_a1_slow out.2.2.2.2.2)) (hf : fX8_readWay N v_a0_length v_a0_at v_a0_number m_a0_letters v_a1_villages m_a1_ways = some out) : V X cX8_readWay "FarDrum$Text" 0 0 (wX8_readWay (xG X) q_a0 q_a0_letters q_a1 q_a1_ways v_a0_length v_a0_place v_a0_at v_a0_token v_a0_number m_a0_letters v_a1_villages u_a1_deaf u_a1_reach u_a1_start u_a1_reachTold u_a1_startTold u_a1_slow m_a1_ways) [some (.ref q_a0), some (.ref q_a1), none, none] 0 [] := by
  unfold fX8_readWay at hf
  refine V.aloadn (pc := 0) dX8_readWay_0 rfl ?_
  refine V.iconst (pc := 1) (v := 0) dX8_readWay_1 (by decide) ?_
  refine V.aloadn (pc := 2) dX8_readWay_2 rfl ?_
  refine V.getf (q := 2) (pc := 3) dX8_readWay_3 fk_X8_46_9 rfl rfl ?_
  refine V.iconst (pc := 6) (v := 1) dX8_readWay_6 (by decide) ?_
  refine V.isub (pc := 7) dX8_readWay_7 ?_
  refine V.callVi (pc := 8) (q := 0) (wr := [(q_a1, .inr (9, [.int v_a1_villages, u_a1_deaf, u_a1_reach, u_a1_start, u_a1_reachTold, u_a1_startTold, u_a1_slow, .ref q_a1_ways])), (q_a1_ways, .inl ((xG X).2 0, 36, .inl m_a1_ways))]) (wd' := fun o8 => wX8_readWay (xG X) q_a0 q_a0_letters q_a1 q_a1_ways v_a0_length o8.2.1 o8.2.2.1 o8.2.2.2.1 o8.2.2.2.2 m_a0_letters v_a1_villages u_a1_deaf u_a1_reach u_a1_start u_a1_reachTold u_a1_startTold u_a1_slow m_a1_ways) [.int (0 : Int32), .int (v_a1_villages - (1 : Int32))] (st := []) hf (fun _ h => oX8_readNumber (q_a0 := q_a0) (q_a0_letters := q_a0_letters) (v_a0_length := v_a0_length) (v_a0_place := v_a0_place) (v_a0_at := v_a0_at) (v_a0_token := v_a0_token) (v_a0_number := v_a0_number) (m_a0_letters := m_a0_letters) (l1 := (0 : Int32)) (l2 := (v_a1_villages - (1 : Int32))) h) lkV_X8_49 dX8_readWay_8 hX rfl ⟨rfl, rfl⟩ ⟨rfl, rfl⟩ rfl rfl rfl rfl rfl [0, 1] [2, 3] [2, 3, 0, 1] rfl rfl rfl rfl rfl (fun _ => rfl) rfl (fun o8 hf => ?_)
  refine V.if_ne (pc := 11) (tgt := 16) dX8_readWay_11 (by decide) hf (fun hf => ?_) (fun hf => ?_)
  · refine V.aloadn (pc := 16) dX8_readWay_16 rfl ?_
    refine V.getf (q := 0) (pc := 17) dX8_readWay_17 fk_X8_53_8 rfl rfl ?_
    refine V.istoren (pc := 20) dX8_readWay_20 rfl rfl rfl ?_
    refine V.aloadn (pc := 21) dX8_readWay_21 rfl ?_
    refine V.iconst (pc := 22) (v := 0) dX8_readWay_22 (by decide) ?_
    refine V.aloadn (pc := 23) dX8_readWay_23 rfl ?_
    refine V.getf (q := 2) (pc := 24) dX8_readWay_24 fk_X8_46_9 rfl rfl ?_
    refine V.iconst (pc := 27) (v := 1) dX8_readWay_27 (by decide) ?_
    refine V.isub (pc := 28) dX8_readWay_28 ?_
    refine V.callVi (pc := 29) (q := 0) (wr := [(q_a1, .inr (9, [.int v_a1_villages, u_a1_deaf, u_a1_reach, u_a1_start, u_a1_reachTold, u_a1_startTold, u_a1_slow, .ref q_a1_ways])), (q_a1_ways, .inl ((xG X).2 0, 36, .inl m_a1_ways))]) (wd' := fun o29 => wX8_readWay (xG X) q_a0 q_a0_letters q_a1 q_a1_ways v_a0_length o29.2.1 o29.2.2.1 o29.2.2.2.1 o29.2.2.2.2 m_a0_letters v_a1_villages u_a1_deaf u_a1_reach u_a1_start u_a1_reachTold u_a1_startTold u_a1_slow m_a1_ways) [.int (0 : Int32), .int (v_a1_villages - (1 : Int32))] (st := []) hf (fun _ h => oX8_readNumber (q_a0 := q_a0) (q_a0_letters := q_a0_letters) (v_a0_length := v_a0_length) (v_a0_place := o8.2.1) (v_a0_at := o8.2.2.1) (v_a0_token := o8.2.2.2.1) (v_a0_number := o8.2.2.2.2) (m_a0_letters := m_a0_letters) (l1 := (0 : Int32)) (l2 := (v_a1_villages - (1 : Int32))) h) lkV_X8_49 dX8_readWay_29 hX rfl ⟨rfl, rfl⟩ ⟨rfl, rfl⟩ rfl rfl rfl rfl rfl [0, 1] [2, 3] [2, 3, 0, 1] rfl rfl rfl rfl rfl (fun _ => rfl) rfl (fun o29 hf => ?_)
    refine V.if_eq (pc := 32) (tgt := 43) dX8_readWay_32 (by decide) hf (fun hf => ?_) (fun hf => ?_)
    · refine V.mask (pc := 43) [false, false, false, false] rfl rfl ?_
      exact tX8_readWay_43 hX hQ hf
    · refine V.aloadn (pc := 35) dX8_readWay_35 rfl ?_
      refine V.getf (q := 0) (pc := 36) dX8_readWay_36 fk_X8_53_8 rfl rfl ?_
      refine V.iloadn (pc := 39) dX8_readWay_39 rfl ?_
      refine V.icmp_ne (pc := 40) (tgt := 45) dX8_readWay_40 (by decide) hf (fun hf => ?_) (fun hf => ?_)
      · refine V.aloadn (pc := 45) dX8_readWay_45 rfl ?_
        refine V.getf (q := 0) (pc := 46) dX8_readWay_46 fk_X8_53_8 rfl rfl ?_
        refine V.istoren (pc := 49) dX8_readWay_49 rfl rfl rfl ?_
        refine V.aloadn (pc := 50) dX8_readWay_50 rfl ?_
        refine V.iconst (pc := 51) (v := 1) dX8_readWay_51 (by decide) ?_
        refine V.bipush (pc := 52) (v := 9) dX8_readWay_52 (by decide) ?_
        refine V.callVi (pc := 54) (q := 0) (wr := [(q_a1, .inr (9, [.int v_a1_villages, u_a1_deaf, u_a1_reach, u_a1_start, u_a1_reachTold, u_a1_startTold, u_a1_slow, .ref q_a1_ways])), (q_a1_ways, .inl ((xG X).2 0, 36, .inl m_a1_ways))]) (wd' := fun o54 => wX8_readWay (xG X) q_a0 q_a0_letters q_a1 q_a1_ways v_a0_length o54.2.1 o54.2.2.1 o54.2.2.2.1 o54.2.2.2.2 m_a0_letters v_a1_villages u_a1_deaf u_a1_reach u_a1_start u_a1_reachTold u_a1_startTold u_a1_slow m_a1_ways) [.int (1 : Int32), .int (9 : Int32)] (st := []) hf (fun _ h => oX8_readNumber (q_a0 := q_a0) (q_a0_letters := q_a0_letters) (v_a0_length := v_a0_length) (v_a0_place := o29.2.1) (v_a0_at := o29.2.2.1) (v_a0_token := o29.2.2.2.1) (v_a0_number := o29.2.2.2.2) (m_a0_letters := m_a0_letters) (l1 := (1 : Int32)) (l2 := (9 : Int32)) h) lkV_X8_49 dX8_readWay_54 hX rfl ⟨rfl, rfl⟩ ⟨rfl, rfl⟩ rfl rfl rfl rfl rfl [0, 1] [2, 3] [2, 3, 0, 1] rfl rfl rfl rfl rfl (fun _ => rfl) rfl (fun o54 hf => ?_)
        refine V.if_ne (pc := 57) (tgt := 62) dX8_readWay_57 (by decide) hf (fun hf => ?_) (fun hf => ?_)
        · refine V.aloadn (pc := 62) dX8_readWay_62 rfl ?_
          refine V.iloadn (pc := 63) dX8_readWay_63 rfl ?_
          refine V.iloadn (pc := 64) dX8_readWay_64 rfl ?_
          refine V.aloadn (pc := 65) dX8_readWay_65 rfl ?_
          refine V.getf (q := 0) (pc := 66) dX8_readWay_66 fk_X8_53_8 rfl rfl ?_
          refine V.callVv (pc := 69) (q := 2) (wr := [(q_a0, .inr (8, [.ref q_a0_letters, .int v_a0_length, .int o54.2.1, .int o54.2.2.1, .int o54.2.2.2.1, .int o54.2.2.2.2])), (q_a0_letters, .inl ((xG X).2 1, 200, .inl m_a0_letters))]) (wd' := fun o69 => wX8_readWay (xG X) q_a0 q_a0_letters q_a1 q_a1_ways v_a0_length o54.2.1 o54.2.2.1 o54.2.2.2.1 o54.2.2.2.2 m_a0_letters v_a1_villages u_a1_deaf u_a1_reach u_a1_start u_a1_reachTold u_a1_startTold u_a1_slow o69) [.int o8.2.2.2.2, .int o29.2.2.2.2, .int o54.2.2.2.2] (st := []) hf (fun _ h => oX9_addWay (q_a0 := q_a1) (q_a0_ways := q_a1_ways) (u_a0_villages := ((.int v_a1_villages))) (u_a0_deaf := u_a1_deaf) (u_a0_reach := u_a1_reach) (u_a0_start := u_a1_start) (u_a0_reachTold := u_a1_reachTold) (u_a0_startTold := u_a1_startTold) (u_a0_slow := u_a1_slow) (m_a0_ways := m_a1_ways) (l1 := o8.2.2.2.2) (l2 := o29.2.2.2.2) (l3 := o54.2.2.2.2) h) lkV_X8_64 dX8_readWay_69 hX rfl ⟨rfl, rfl⟩ ⟨rfl, rfl⟩ rfl rfl rfl rfl rfl [2, 3] [0, 1] [0, 1, 2, 3] rfl rfl rfl rfl rfl (fun _ => rfl) rfl (fun o69 hf => ?_)
          refine V.aloadn (pc := 72) dX8_readWay_72 rfl ?_
          refine V.callVi (pc := 73) (q := 0) (wr := [(q_a1, .inr (9, [.int v_a1_villages, u_a1_deaf, u_a1_reach, u_a1_start, u_a1_reachTold, u_a1_startTold, u_a1_slow, .ref q_a1_ways])), (q_a1_ways, .inl ((xG X).2 0, 36, .inl o69))]) (wd' := fun o73 => wX8_readWay (xG X) q_a0 q_a0_letters q_a1 q_a1_ways v_a0_length o73.2.1 o73.2.2.1 o73.2.2.2.1 o73.2.2.2.2 m_a0_letters v_a1_villages u_a1_deaf u_a1_reach u_a1_start u_a1_reachTold u_a1_startTold u_a1_slow o69) [] (st := []) hf (fun _ h => oX8_readItemEnd (q_a0 := q_a0) (q_a0_letters := q_a0_letters) (v_a0_length := v_a0_length) (v_a0_place := o54.2.1) (v_a0_at := o54.2.2.1) (v_a0_token := o54.2.2.2.1) (v_a0_number := o54.2.2.2.2) (m_a0_letters := m_a0_letters) h) lkV_X8_60 dX8_readWay_73 hX rfl ⟨rfl, rfl⟩ ⟨rfl, rfl⟩ rfl rfl rfl rfl rfl [0, 1] [2, 3] [2, 3, 0, 1] rfl rfl rfl rfl rfl (fun _ => rfl) rfl (fun o73 hf => ?_)
          obtain ⟨hz, hf⟩ := bz_ok hf
          exact V.zretE (pc := 76) hX kX8_readWay_r hQ hz dX8_readWay_76 (by cases hf; rfl) (by cases hf; rfl)
        · refine V.iconst (pc := 60) (v := 0) dX8_readWay_60 (by decide) ?_
          exact V.zretE (pc := 61) hX kX8_readWay_r hQ rfl dX8_readWay_61 (by cases hf; rfl) (by cases hf; rfl)
      · refine V.mask (pc := 43) [false, false, false, false] rfl rfl ?_
        exact tX8_readWay_43 hX hQ hf
  · refine V.iconst (pc := 14) (v := 0) dX8_readWay_14 (by decide) ?_
    exact V.zretE (pc := 15) hX kX8_readWay_r hQ rfl dX8_readWay_15 (by cases hf; rfl) (by cases hf; rfl)
end
theorem oX8_readWay {l : Launch} {G : GT} {N : Nat} {q_a0 : Nat} {q_a0_letters : Nat} {q_a1 : Nat} {q_a1_ways : Nat} {v_a0_length : Int32} {v_a0_place : Int32} {v_a0_at : Int32} {v_a0_token : Int32} {v_a0_number : Int32} {m_a0_letters : Nat → Int32} {v_a1_villages : Int32} {u_a1_deaf : Value} {u_a1_reach : Value} {u_a1_start : Value} {u_a1_reachTold : Value} {u_a1_startTold : Value} {u_a1_slow : Value} {m_a1_ways : Nat → Int32} {out : Int32 × Int32 × Int32 × Int32 × Int32 × (Nat → Int32)} (hf : fX8_readWay N v_a0_length v_a0_at v_a0_number m_a0_letters v_a1_villages m_a1_ways = some out) : Ct (l, G, kX8_readWay, wX8_readWay G q_a0 q_a0_letters q_a1 q_a1_ways v_a0_length v_a0_place v_a0_at v_a0_token v_a0_number m_a0_letters v_a1_villages u_a1_deaf u_a1_reach u_a1_start u_a1_reachTold u_a1_startTold u_a1_slow m_a1_ways, [.ref q_a0, .ref q_a1], qE (some (.int out.1)) (wX8_readWay G q_a0 q_a0_letters q_a1 q_a1_ways v_a0_length out.2.1 out.2.2.1 out.2.2.2.1 out.2.2.2.2.1 m_a0_letters v_a1_villages u_a1_deaf u_a1_reach u_a1_start u_a1_reachTold u_a1_startTold u_a1_slow out.2.2.2.2.2)) :=
  Ct.of [some (.ref q_a0), some (.ref q_a1), none, none] kX8_readWay_p rfl rfl rfl ((tX8_readWay_0 (X := (l, G, kX8_readWay, wX8_readWay G q_a0 q_a0_letters q_a1 q_a1_ways v_a0_length v_a0_place v_a0_at v_a0_token v_a0_number m_a0_letters v_a1_villages u_a1_deaf u_a1_reach u_a1_start u_a1_reachTold u_a1_startTold u_a1_slow m_a1_ways, [.ref q_a0, .ref q_a1], qE (some (.int out.1)) (wX8_readWay G q_a0 q_a0_letters q_a1 q_a1_ways v_a0_length out.2.1 out.2.2.1 out.2.2.2.1 out.2.2.2.2.1 m_a0_letters v_a1_villages u_a1_deaf u_a1_reach u_a1_start u_a1_reachTold u_a1_startTold u_a1_slow out.2.2.2.2.2))) rfl rfl hf))

theorem fk_X8_68_9 : Fk "FarDrum$Text" 68 9 4 := ⟨RX9, TX9, 8, "FarDrum$Valley", rfl, inX9, by decide, kw_1_75, Or.inl rfl⟩
theorem pk_X8_68_9 : Pk "FarDrum$Text" 68 9 4 .boolean false := ⟨RX9, TX9, 8, "FarDrum$Valley", tyX9, rfl, inX9, by decide, kw_1_75, Or.inl rfl, tyX9_ok, nmX9, rfl, by decide +kernel, fun h => by cases h⟩
theorem pk_X8_72_9 : Pk "FarDrum$Text" 72 9 2 .int false := ⟨RX9, TX9, 8, "FarDrum$Valley", tyX9, rfl, inX9, by decide, kw_1_68, Or.inl rfl, tyX9_ok, nmX9, rfl, by decide +kernel, fun h => by cases h⟩
def wX8_readReach (G : GT) (q_a0 : Nat) (q_a0_letters : Nat) (q_a1 : Nat) (v_a0_length : Int32) (v_a0_place : Int32) (v_a0_at : Int32) (v_a0_token : Int32) (v_a0_number : Int32) (m_a0_letters : Nat → Int32) (u_a1_villages : Value) (u_a1_deaf : Value) (v_a1_reach : Int32) (u_a1_start : Value) (v_a1_reachTold : Int32) (u_a1_startTold : Value) (u_a1_slow : Value) (u_a1_ways : Value) : va_W := [(q_a0, .inr (8, [.ref q_a0_letters, .int v_a0_length, .int v_a0_place, .int v_a0_at, .int v_a0_token, .int v_a0_number])), (q_a0_letters, .inl (G.2 1, 200, .inl m_a0_letters)), (q_a1, .inr (9, [u_a1_villages, u_a1_deaf, .int v_a1_reach, u_a1_start, .int v_a1_reachTold, u_a1_startTold, u_a1_slow, u_a1_ways]))]
def kX8_readReach : KT := (yX8_readReach, cX8_readReach, 2, (some .boolean), 4, 0, 0)
theorem kX8_readReach_r : kr kX8_readReach = (some .boolean) ∧ kmc kX8_readReach = 0 ∧ kms kX8_readReach = 0 := ⟨rfl, rfl, rfl⟩
theorem kX8_readReach_p : plainName (ky kX8_readReach).cls = true := by decide +kernel
def fX8_readReach_17 (v_a0_place : Int32) (v_a0_at : Int32) (v_a0_token : Int32) (v_a0_number : Int32) (v_a1_reach : Int32) (v_a1_reachTold : Int32) : Option (Int32 × Int32 × Int32 × Int32 × Int32 × Int32 × Int32) :=
  some ((0 : Int32), v_a0_place, v_a0_at, v_a0_token, v_a0_number, v_a1_reach, v_a1_reachTold)
def fX8_readReach (N : Nat) (v_a0_length : Int32) (v_a0_place : Int32) (v_a0_at : Int32) (v_a0_token : Int32) (v_a0_number : Int32) (m_a0_letters : Nat → Int32) (v_a1_reach : Int32) (v_a1_reachTold : Int32) : Option (Int32 × Int32 × Int32 × Int32 × Int32 × Int32 × Int32) :=
  if v_a1_reachTold = 0 then (Option.bind (fX8_readNumber N (1 : Int32) (20 : Int32) v_a0_length v_a0_at v_a0_number m_a0_letters) fun o11 =>
  if o11.1 = 0 then (fX8_readReach_17 o11.2.1 o11.2.2.1 o11.2.2.2.1 o11.2.2.2.2 v_a1_reach v_a1_reachTold)
  else (Option.bind (fX8_readItemEnd N v_a0_length o11.2.2.1 o11.2.2.2.2 m_a0_letters) fun o33 =>
  bz o33.1 <| 
  some (o33.1, o33.2.1, o33.2.2.1, o33.2.2.2.1, o33.2.2.2.2, o11.2.2.2.2, (1 : Int32))))
  else (fX8_readReach_17 v_a0_place v_a0_at v_a0_token v_a0_number v_a1_reach v_a1_reachTold)
section
variable {X : XT} {N : Nat} {q_a0 : Nat} {q_a0_letters : Nat} {q_a1 : Nat} {v_a0_length : Int32} {v_a0_place : Int32} {v_a0_at : Int32} {v_a0_token : Int32} {v_a0_number : Int32} {m_a0_letters : Nat → Int32} {u_a1_villages : Value} {u_a1_deaf : Value} {v_a1_reach : Int32} {u_a1_start : Value} {v_a1_reachTold : Int32} {u_a1_startTold : Value} {u_a1_slow : Value} {u_a1_ways : Value}
set_option maxRecDepth 20000 in
theorem tX8_readReach_17 {out : Int32 × Int32 × Int32 × Int32 × Int32 × Int32 × Int32} (hX : xk X = kX8_readReach) (hQ : xQ X = qE (some (.int out.1)) (wX8_readReach (xG X) q_a0 q_a0_letters q_a1 v_a0_length out.2.1 out.2.2.1 out.2.2.2.1 out.2.2.2.2.1 m_a0_letters u_a1_villages u_a1_deaf out.2.2.2.2.2.1 u_a1_start out.2.2.2.2.2.2 u_a1_startTold u_a1_slow u_a1_ways)) (hf : fX8_readReach_17 v_a0_place v_a0_at v_a0_token v_a0_number v_a1_reach v_a1_reachTold = some out) : V X cX8_readReach "FarDrum$Text" 0 0 (wX8_readReach (xG X) q_a0 q_a0_letters q_a1 v_a0_length v_a0_place v_a0_at v_a0_token v_a0_number m_a0_letters u_a1_villages u_a1_deaf v_a1_reach u_a1_start v_a1_reachTold u_a1_startTold u_a1_slow u_a1_ways) [none, none] 17 [] := by
  unfold fX8_readReach_17 at hf
  refine V.iconst (pc := 17) (v := 0) dX8_readReach_17 (by decide) ?_
  exact V.zretE (pc := 18) hX kX8_readReach_r hQ rfl dX8_readReach_18 (by cases hf; rfl) (by cases hf; rfl)
set_option maxRecDepth 20000 in
theorem tX8_readReach_0 {out : Int32 × Int32 × Int32 × Int32 × Int32 × Int32 × Int32} (hX : xk X = kX8_readReach) (hQ : xQ X = qE (some (.int out.1)) (wX8_readReach (xG X) q_a0 q_a0_letters q_a1 v_a0_length out.2.1 out.2.2.1 out.2.2.2.1 out.2.2.2.2.1 m_a0_letters u_a1_villages u_a1_deaf out.2.2.2.2.2.1 u_a1_start out.2.2.2.2.2.2 u_a1_startTold u_a1_slow u_a1_ways)) (hf : fX8_readReach N v_a0_length v_a0_place v_a0_at v_a0_token v_a0_number m_a0_letters v_a1_reach v_a1_reachTold = some out) : V X cX8_readReach "FarDrum$Text" 0 0 (wX8_readReach (xG X) q_a0 q_a0_letters q_a1 v_a0_length v_a0_place v_a0_at v_a0_token v_a0_number m_a0_letters u_a1_villages u_a1_deaf v_a1_reach u_a1_start v_a1_reachTold u_a1_startTold u_a1_slow u_a1_ways) [some (.ref q_a0), some (.ref q_a1)] 0 [] := by
  unfold fX8_readReach at hf
  refine V.aloadn (pc := 0) dX8_readReach_0 rfl ?_
  refine V.getf (q := 2) (pc := 1) dX8_readReach_1 fk_X8_68_9 rfl rfl ?_
  refine V.if_ne (pc := 4) (tgt := 17) dX8_readReach_4 (by decide) hf (fun hf => ?_) (fun hf => ?_)
  · refine V.mask (pc := 17) [false, false] rfl rfl ?_
    exact tX8_readReach_17 hX hQ hf
  · refine V.aloadn (pc := 7) dX8_readReach_7 rfl ?_
    refine V.iconst (pc := 8) (v := 1) dX8_readReach_8 (by decide) ?_
    refine V.bipush (pc := 9) (v := 20) dX8_readReach_9 (by decide) ?_
    refine V.callVi (pc := 11) (q := 0) (wr := [(q_a1, .inr (9, [u_a1_villages, u_a1_deaf, .int v_a1_reach, u_a1_start, .int v_a1_reachTold, u_a1_startTold, u_a1_slow, u_a1_ways]))]) (wd' := fun o11 => wX8_readReach (xG X) q_a0 q_a0_letters q_a1 v_a0_length o11.2.1 o11.2.2.1 o11.2.2.2.1 o11.2.2.2.2 m_a0_letters u_a1_villages u_a1_deaf v_a1_reach u_a1_start v_a1_reachTold u_a1_startTold u_a1_slow u_a1_ways) [.int (1 : Int32), .int (20 : Int32)] (st := []) hf (fun _ h => oX8_readNumber (q_a0 := q_a0) (q_a0_letters := q_a0_letters) (v_a0_length := v_a0_length) (v_a0_place := v_a0_place) (v_a0_at := v_a0_at) (v_a0_token := v_a0_token) (v_a0_number := v_a0_number) (m_a0_letters := m_a0_letters) (l1 := (1 : Int32)) (l2 := (20 : Int32)) h) lkV_X8_49 dX8_readReach_11 hX rfl ⟨rfl, rfl⟩ ⟨rfl, rfl⟩ rfl rfl rfl rfl rfl [0, 1] [2] [1, 2, 0] rfl rfl rfl rfl rfl (fun _ => rfl) rfl (fun o11 hf => ?_)
    refine V.if_ne (pc := 14) (tgt := 19) dX8_readReach_14 (by decide) hf (fun hf => ?_) (fun hf => ?_)
    · refine V.aloadn (pc := 19) dX8_readReach_19 rfl ?_
      refine V.iconst (pc := 20) (v := 1) dX8_readReach_20 (by decide) ?_
      refine V.putf (q := 2) (wd' := wX8_readReach (xG X) q_a0 q_a0_letters q_a1 v_a0_length o11.2.1 o11.2.2.1 o11.2.2.2.1 o11.2.2.2.2 m_a0_letters u_a1_villages u_a1_deaf v_a1_reach u_a1_start (1 : Int32) u_a1_startTold u_a1_slow u_a1_ways) (pc := 21) dX8_readReach_21 pk_X8_68_9 rfl rfl rfl rfl rfl ?_
      refine V.aloadn (pc := 24) dX8_readReach_24 rfl ?_
      refine V.aloadn (pc := 25) dX8_readReach_25 rfl ?_
      refine V.getf (q := 0) (pc := 26) dX8_readReach_26 fk_X8_53_8 rfl rfl ?_
      refine V.putf (q := 2) (wd' := wX8_readReach (xG X) q_a0 q_a0_letters q_a1 v_a0_length o11.2.1 o11.2.2.1 o11.2.2.2.1 o11.2.2.2.2 m_a0_letters u_a1_villages u_a1_deaf o11.2.2.2.2 u_a1_start (1 : Int32) u_a1_startTold u_a1_slow u_a1_ways) (pc := 29) dX8_readReach_29 pk_X8_72_9 rfl rfl rfl rfl rfl ?_
      refine V.aloadn (pc := 32) dX8_readReach_32 rfl ?_
      refine V.callVi (pc := 33) (q := 0) (wr := [(q_a1, .inr (9, [u_a1_villages, u_a1_deaf, .int o11.2.2.2.2, u_a1_start, .int (1 : Int32), u_a1_startTold, u_a1_slow, u_a1_ways]))]) (wd' := fun o33 => wX8_readReach (xG X) q_a0 q_a0_letters q_a1 v_a0_length o33.2.1 o33.2.2.1 o33.2.2.2.1 o33.2.2.2.2 m_a0_letters u_a1_villages u_a1_deaf o11.2.2.2.2 u_a1_start (1 : Int32) u_a1_startTold u_a1_slow u_a1_ways) [] (st := []) hf (fun _ h => oX8_readItemEnd (q_a0 := q_a0) (q_a0_letters := q_a0_letters) (v_a0_length := v_a0_length) (v_a0_place := o11.2.1) (v_a0_at := o11.2.2.1) (v_a0_token := o11.2.2.2.1) (v_a0_number := o11.2.2.2.2) (m_a0_letters := m_a0_letters) h) lkV_X8_60 dX8_readReach_33 hX rfl ⟨rfl, rfl⟩ ⟨rfl, rfl⟩ rfl rfl rfl rfl rfl [0, 1] [2] [1, 2, 0] rfl rfl rfl rfl rfl (fun _ => rfl) rfl (fun o33 hf => ?_)
      obtain ⟨hz, hf⟩ := bz_ok hf
      exact V.zretE (pc := 36) hX kX8_readReach_r hQ hz dX8_readReach_36 (by cases hf; rfl) (by cases hf; rfl)
    · refine V.mask (pc := 17) [false, false] rfl rfl ?_
      exact tX8_readReach_17 hX hQ hf
end
theorem oX8_readReach {l : Launch} {G : GT} {N : Nat} {q_a0 : Nat} {q_a0_letters : Nat} {q_a1 : Nat} {v_a0_length : Int32} {v_a0_place : Int32} {v_a0_at : Int32} {v_a0_token : Int32} {v_a0_number : Int32} {m_a0_letters : Nat → Int32} {u_a1_villages : Value} {u_a1_deaf : Value} {v_a1_reach : Int32} {u_a1_start : Value} {v_a1_reachTold : Int32} {u_a1_startTold : Value} {u_a1_slow : Value} {u_a1_ways : Value} {out : Int32 × Int32 × Int32 × Int32 × Int32 × Int32 × Int32} (hf : fX8_readReach N v_a0_length v_a0_place v_a0_at v_a0_token v_a0_number m_a0_letters v_a1_reach v_a1_reachTold = some out) : Ct (l, G, kX8_readReach, wX8_readReach G q_a0 q_a0_letters q_a1 v_a0_length v_a0_place v_a0_at v_a0_token v_a0_number m_a0_letters u_a1_villages u_a1_deaf v_a1_reach u_a1_start v_a1_reachTold u_a1_startTold u_a1_slow u_a1_ways, [.ref q_a0, .ref q_a1], qE (some (.int out.1)) (wX8_readReach G q_a0 q_a0_letters q_a1 v_a0_length out.2.1 out.2.2.1 out.2.2.2.1 out.2.2.2.2.1 m_a0_letters u_a1_villages u_a1_deaf out.2.2.2.2.2.1 u_a1_start out.2.2.2.2.2.2 u_a1_startTold u_a1_slow u_a1_ways)) :=
  Ct.of [some (.ref q_a0), some (.ref q_a1)] kX8_readReach_p rfl rfl rfl ((tX8_readReach_0 (X := (l, G, kX8_readReach, wX8_readReach G q_a0 q_a0_letters q_a1 v_a0_length v_a0_place v_a0_at v_a0_token v_a0_number m_a0_letters u_a1_villages u_a1_deaf v_a1_reach u_a1_start v_a1_reachTold u_a1_startTold u_a1_slow u_a1_ways, [.ref q_a0, .ref q_a1], qE (some (.int out.1)) (wX8_readReach G q_a0 q_a0_letters q_a1 v_a0_length out.2.1 out.2.2.1 out.2.2.2.1 out.2.2.2.2.1 m_a0_letters u_a1_villages u_a1_deaf out.2.2.2.2.2.1 u_a1_start out.2.2.2.2.2.2 u_a1_startTold u_a1_slow u_a1_ways))) rfl rfl hf))

theorem fk_X8_75_9 : Fk "FarDrum$Text" 75 9 5 := ⟨RX9, TX9, 8, "FarDrum$Valley", rfl, inX9, by decide, kw_1_77, Or.inl rfl⟩
theorem pk_X8_75_9 : Pk "FarDrum$Text" 75 9 5 .boolean false := ⟨RX9, TX9, 8, "FarDrum$Valley", tyX9, rfl, inX9, by decide, kw_1_77, Or.inl rfl, tyX9_ok, nmX9, rfl, by decide +kernel, fun h => by cases h⟩
theorem pk_X8_78_9 : Pk "FarDrum$Text" 78 9 3 .int false := ⟨RX9, TX9, 8, "FarDrum$Valley", tyX9, rfl, inX9, by decide, kw_1_72, Or.inl rfl, tyX9_ok, nmX9, rfl, by decide +kernel, fun h => by cases h⟩
def wX8_readStart (G : GT) (q_a0 : Nat) (q_a0_letters : Nat) (q_a1 : Nat) (v_a0_length : Int32) (v_a0_place : Int32) (v_a0_at : Int32) (v_a0_token : Int32) (v_a0_number : Int32) (m_a0_letters : Nat → Int32) (v_a1_villages : Int32) (u_a1_deaf : Value) (u_a1_reach : Value) (v_a1_start : Int32) (u_a1_reachTold : Value) (v_a1_startTold : Int32) (u_a1_slow : Value) (u_a1_ways : Value) : va_W := [(q_a0, .inr (8, [.ref q_a0_letters, .int v_a0_length, .int v_a0_place, .int v_a0_at, .int v_a0_token, .int v_a0_number])), (q_a0_letters, .inl (G.2 1, 200, .inl m_a0_letters)), (q_a1, .inr (9, [.int v_a1_villages, u_a1_deaf, u_a1_reach, .int v_a1_start, u_a1_reachTold, .int v_a1_startTold, u_a1_slow, u_a1_ways]))]
def kX8_readStart : KT := (yX8_readStart, cX8_readStart, 2, (some .boolean), 4, 0, 0)
theorem kX8_readStart_r : kr kX8_readStart = (some .boolean) ∧ kmc kX8_readStart = 0 ∧ kms kX8_readStart = 0 := ⟨rfl, rfl, rfl⟩
theorem kX8_readStart_p : plainName (ky kX8_readStart).cls = true := by decide +kernel
def fX8_readStart_21 (v_a0_place : Int32) (v_a0_at : Int32) (v_a0_token : Int32) (v_a0_number : Int32) (v_a1_start : Int32) (v_a1_startTold : Int32) : Option (Int32 × Int32 × Int32 × Int32 × Int32 × Int32 × Int32) :=
  some ((0 : Int32), v_a0_place, v_a0_at, v_a0_token, v_a0_number, v_a1_start, v_a1_startTold)
def fX8_readStart (N : Nat) (v_a0_length : Int32) (v_a0_place : Int32) (v_a0_at : Int32) (v_a0_token : Int32) (v_a0_number : Int32) (m_a0_letters : Nat → Int32) (v_a1_villages : Int32) (v_a1_start : Int32) (v_a1_startTold : Int32) : Option (Int32 × Int32 × Int32 × Int32 × Int32 × Int32 × Int32) :=
  if v_a1_startTold = 0 then (Option.bind (fX8_readNumber N (0 : Int32) (v_a1_villages - (1 : Int32)) v_a0_length v_a0_at v_a0_number m_a0_letters) fun o15 =>
  if o15.1 = 0 then (fX8_readStart_21 o15.2.1 o15.2.2.1 o15.2.2.2.1 o15.2.2.2.2 v_a1_start v_a1_startTold)
  else (Option.bind (fX8_readItemEnd N v_a0_length o15.2.2.1 o15.2.2.2.2 m_a0_letters) fun o37 =>
  bz o37.1 <| 
  some (o37.1, o37.2.1, o37.2.2.1, o37.2.2.2.1, o37.2.2.2.2, o15.2.2.2.2, (1 : Int32))))
  else (fX8_readStart_21 v_a0_place v_a0_at v_a0_token v_a0_number v_a1_start v_a1_startTold)
section
variable {X : XT} {N : Nat} {q_a0 : Nat} {q_a0_letters : Nat} {q_a1 : Nat} {v_a0_length : Int32} {v_a0_place : Int32} {v_a0_at : Int32} {v_a0_token : Int32} {v_a0_number : Int32} {m_a0_letters : Nat → Int32} {v_a1_villages : Int32} {u_a1_deaf : Value} {u_a1_reach : Value} {v_a1_start : Int32} {u_a1_reachTold : Value} {v_a1_startTold : Int32} {u_a1_slow : Value} {u_a1_ways : Value}
set_option maxRecDepth 20000 in
theorem tX8_readStart_21 {out : Int32 × Int32 × Int32 × Int32 × Int32 × Int32 × Int32} (hX : xk X = kX8_readStart) (hQ : xQ X = qE (some (.int out.1)) (wX8_readStart (xG X) q_a0 q_a0_letters q_a1 v_a0_length out.2.1 out.2.2.1 out.2.2.2.1 out.2.2.2.2.1 m_a0_letters v_a1_villages u_a1_deaf u_a1_reach out.2.2.2.2.2.1 u_a1_reachTold out.2.2.2.2.2.2 u_a1_slow u_a1_ways)) (hf : fX8_readStart_21 v_a0_place v_a0_at v_a0_token v_a0_number v_a1_start v_a1_startTold = some out) : V X cX8_readStart "FarDrum$Text" 0 0 (wX8_readStart (xG X) q_a0 q_a0_letters q_a1 v_a0_length v_a0_place v_a0_at v_a0_token v_a0_number m_a0_letters v_a1_villages u_a1_deaf u_a1_reach v_a1_start u_a1_reachTold v_a1_startTold u_a1_slow u_a1_ways) [none, none] 21 [] := by
  unfold fX8_readStart_21 at hf
  refine V.iconst (pc := 21) (v := 0) dX8_readStart_21 (by decide) ?_
  exact V.zretE (pc := 22) hX kX8_readStart_r hQ rfl dX8_readStart_22 (by cases hf; rfl) (by cases hf; rfl)
set_option maxRecDepth 20000 in
theorem tX8_readStart_0 {out : Int32 × Int32 × Int32 × Int32 × Int32 × Int32 × Int32} (hX : xk X = kX8_readStart) (hQ : xQ X = qE (some (.int out.1)) (wX8_readStart (xG X) q_a0 q_a0_letters q_a1 v_a0_length out.2.1 out.2.2.1 out.2.2.2.1 out.2.2.2.2.1 m_a0_letters v_a1_villages u_a1_deaf u_a1_reach out.2.2.2.2.2.1 u_a1_reachTold out.2.2.2.2.2.2 u_a1_slow u_a1_ways)) (hf : fX8_readStart N v_a0_length v_a0_place v_a0_at v_a0_token v_a0_number m_a0_letters v_a1_villages v_a1_start v_a1_startTold = some out) : V X cX8_readStart "FarDrum$Text" 0 0 (wX8_readStart (xG X) q_a0 q_a0_letters q_a1 v_a0_length v_a0_place v_a0_at v_a0_token v_a0_number m_a0_letters v_a1_villages u_a1_deaf u_a1_reach v_a1_start u_a1_reachTold v_a1_startTold u_a1_slow u_a1_ways) [some (.ref q_a0), some (.ref q_a1)] 0 [] := by
  unfold fX8_readStart at hf
  refine V.aloadn (pc := 0) dX8_readStart_0 rfl ?_
  refine V.getf (q := 2) (pc := 1) dX8_readStart_1 fk_X8_75_9 rfl rfl ?_
  refine V.if_ne (pc := 4) (tgt := 21) dX8_readStart_4 (by decide) hf (fun hf => ?_) (fun hf => ?_)
  · refine V.mask (pc := 21) [false, false] rfl rfl ?_
    exact tX8_readStart_21 hX hQ hf
  · refine V.aloadn (pc := 7) dX8_readStart_7 rfl ?_
    refine V.iconst (pc := 8) (v := 0) dX8_readStart_8 (by decide) ?_
    refine V.aloadn (pc := 9) dX8_readStart_9 rfl ?_
    refine V.getf (q := 2) (pc := 10) dX8_readStart_10 fk_X8_46_9 rfl rfl ?_
    refine V.iconst (pc := 13) (v := 1) dX8_readStart_13 (by decide) ?_
    refine V.isub (pc := 14) dX8_readStart_14 ?_
    refine V.callVi (pc := 15) (q := 0) (wr := [(q_a1, .inr (9, [.int v_a1_villages, u_a1_deaf, u_a1_reach, .int v_a1_start, u_a1_reachTold, .int v_a1_startTold, u_a1_slow, u_a1_ways]))]) (wd' := fun o15 => wX8_readStart (xG X) q_a0 q_a0_letters q_a1 v_a0_length o15.2.1 o15.2.2.1 o15.2.2.2.1 o15.2.2.2.2 m_a0_letters v_a1_villages u_a1_deaf u_a1_reach v_a1_start u_a1_reachTold v_a1_startTold u_a1_slow u_a1_ways) [.int (0 : Int32), .int (v_a1_villages - (1 : Int32))] (st := []) hf (fun _ h => oX8_readNumber (q_a0 := q_a0) (q_a0_letters := q_a0_letters) (v_a0_length := v_a0_length) (v_a0_place := v_a0_place) (v_a0_at := v_a0_at) (v_a0_token := v_a0_token) (v_a0_number := v_a0_number) (m_a0_letters := m_a0_letters) (l1 := (0 : Int32)) (l2 := (v_a1_villages - (1 : Int32))) h) lkV_X8_49 dX8_readStart_15 hX rfl ⟨rfl, rfl⟩ ⟨rfl, rfl⟩ rfl rfl rfl rfl rfl [0, 1] [2] [1, 2, 0] rfl rfl rfl rfl rfl (fun _ => rfl) rfl (fun o15 hf => ?_)
    refine V.if_ne (pc := 18) (tgt := 23) dX8_readStart_18 (by decide) hf (fun hf => ?_) (fun hf => ?_)
    · refine V.aloadn (pc := 23) dX8_readStart_23 rfl ?_
      refine V.iconst (pc := 24) (v := 1) dX8_readStart_24 (by decide) ?_
      refine V.putf (q := 2) (wd' := wX8_readStart (xG X) q_a0 q_a0_letters q_a1 v_a0_length o15.2.1 o15.2.2.1 o15.2.2.2.1 o15.2.2.2.2 m_a0_letters v_a1_villages u_a1_deaf u_a1_reach v_a1_start u_a1_reachTold (1 : Int32) u_a1_slow u_a1_ways) (pc := 25) dX8_readStart_25 pk_X8_75_9 rfl rfl rfl rfl rfl ?_
      refine V.aloadn (pc := 28) dX8_readStart_28 rfl ?_
      refine V.aloadn (pc := 29) dX8_readStart_29 rfl ?_
      refine V.getf (q := 0) (pc := 30) dX8_readStart_30 fk_X8_53_8 rfl rfl ?_
      refine V.putf (q := 2) (wd' := wX8_readStart (xG X) q_a0 q_a0_letters q_a1 v_a0_length o15.2.1 o15.2.2.1 o15.2.2.2.1 o15.2.2.2.2 m_a0_letters v_a1_villages u_a1_deaf u_a1_reach o15.2.2.2.2 u_a1_reachTold (1 : Int32) u_a1_slow u_a1_ways) (pc := 33) dX8_readStart_33 pk_X8_78_9 rfl rfl rfl rfl rfl ?_
      refine V.aloadn (pc := 36) dX8_readStart_36 rfl ?_
      refine V.callVi (pc := 37) (q := 0) (wr := [(q_a1, .inr (9, [.int v_a1_villages, u_a1_deaf, u_a1_reach, .int o15.2.2.2.2, u_a1_reachTold, .int (1 : Int32), u_a1_slow, u_a1_ways]))]) (wd' := fun o37 => wX8_readStart (xG X) q_a0 q_a0_letters q_a1 v_a0_length o37.2.1 o37.2.2.1 o37.2.2.2.1 o37.2.2.2.2 m_a0_letters v_a1_villages u_a1_deaf u_a1_reach o15.2.2.2.2 u_a1_reachTold (1 : Int32) u_a1_slow u_a1_ways) [] (st := []) hf (fun _ h => oX8_readItemEnd (q_a0 := q_a0) (q_a0_letters := q_a0_letters) (v_a0_length := v_a0_length) (v_a0_place := o15.2.1) (v_a0_at := o15.2.2.1) (v_a0_token := o15.2.2.2.1) (v_a0_number := o15.2.2.2.2) (m_a0_letters := m_a0_letters) h) lkV_X8_60 dX8_readStart_37 hX rfl ⟨rfl, rfl⟩ ⟨rfl, rfl⟩ rfl rfl rfl rfl rfl [0, 1] [2] [1, 2, 0] rfl rfl rfl rfl rfl (fun _ => rfl) rfl (fun o37 hf => ?_)
      obtain ⟨hz, hf⟩ := bz_ok hf
      exact V.zretE (pc := 40) hX kX8_readStart_r hQ hz dX8_readStart_40 (by cases hf; rfl) (by cases hf; rfl)
    · refine V.mask (pc := 21) [false, false] rfl rfl ?_
      exact tX8_readStart_21 hX hQ hf
end
theorem oX8_readStart {l : Launch} {G : GT} {N : Nat} {q_a0 : Nat} {q_a0_letters : Nat} {q_a1 : Nat} {v_a0_length : Int32} {v_a0_place : Int32} {v_a0_at : Int32} {v_a0_token : Int32} {v_a0_number : Int32} {m_a0_letters : Nat → Int32} {v_a1_villages : Int32} {u_a1_deaf : Value} {u_a1_reach : Value} {v_a1_start : Int32} {u_a1_reachTold : Value} {v_a1_startTold : Int32} {u_a1_slow : Value} {u_a1_ways : Value} {out : Int32 × Int32 × Int32 × Int32 × Int32 × Int32 × Int32} (hf : fX8_readStart N v_a0_length v_a0_place v_a0_at v_a0_token v_a0_number m_a0_letters v_a1_villages v_a1_start v_a1_startTold = some out) : Ct (l, G, kX8_readStart, wX8_readStart G q_a0 q_a0_letters q_a1 v_a0_length v_a0_place v_a0_at v_a0_token v_a0_number m_a0_letters v_a1_villages u_a1_deaf u_a1_reach v_a1_start u_a1_reachTold v_a1_startTold u_a1_slow u_a1_ways, [.ref q_a0, .ref q_a1], qE (some (.int out.1)) (wX8_readStart G q_a0 q_a0_letters q_a1 v_a0_length out.2.1 out.2.2.1 out.2.2.2.1 out.2.2.2.2.1 m_a0_letters v_a1_villages u_a1_deaf u_a1_reach out.2.2.2.2.2.1 u_a1_reachTold out.2.2.2.2.2.2 u_a1_slow u_a1_ways)) :=
  Ct.of [some (.ref q_a0), some (.ref q_a1)] kX8_readStart_p rfl rfl rfl ((tX8_readStart_0 (X := (l, G, kX8_readStart, wX8_readStart G q_a0 q_a0_letters q_a1 v_a0_length v_a0_place v_a0_at v_a0_token v_a0_number m_a0_letters v_a1_villages u_a1_deaf u_a1_reach v_a1_start u_a1_reachTold v_a1_startTold u_a1_slow u_a1_ways, [.ref q_a0, .ref q_a1], qE (some (.int out.1)) (wX8_readStart G q_a0 q_a0_letters q_a1 v_a0_length out.2.1 out.2.2.1 out.2.2.2.1 out.2.2.2.2.1 m_a0_letters v_a1_villages u_a1_deaf u_a1_reach out.2.2.2.2.2.1 u_a1_reachTold out.2.2.2.2.2.2 u_a1_slow u_a1_ways))) rfl rfl hf))

theorem lkb_X8_readWay : LkB kX8_readWay 1 := ⟨kw_2_170, kw_1_2, ⟨by decide, by decide⟩, by decide +kernel, by decide⟩
theorem lkV_X8_37 : LkV "FarDrum$Text" 37 kX8_readWay 1 := ⟨lkb_X8_readWay, kw_2_167, kw_2_169, kp_6⟩
theorem lkb_X8_readReach : LkB kX8_readReach 1 := ⟨kw_2_178, kw_1_2, ⟨by decide, by decide⟩, by decide +kernel, by decide⟩
theorem lkV_X8_40 : LkV "FarDrum$Text" 40 kX8_readReach 1 := ⟨lkb_X8_readReach, kw_2_175, kw_2_177, kp_7⟩
theorem lkb_X8_readStart : LkB kX8_readStart 1 := ⟨kw_2_182, kw_1_2, ⟨by decide, by decide⟩, by decide +kernel, by decide⟩
theorem lkV_X8_43 : LkV "FarDrum$Text" 43 kX8_readStart 1 := ⟨lkb_X8_readStart, kw_2_179, kw_2_181, kp_8⟩
theorem lkb_X8_readVillage : LkB kX8_readVillage 1 := ⟨kw_2_154, kw_1_2, ⟨by decide, by decide⟩, by decide +kernel, by decide⟩
theorem lkV_X8_34 : LkV "FarDrum$Text" 34 kX8_readVillage 1 := ⟨lkb_X8_readVillage, kw_2_151, kw_2_153, kp_3⟩
def wX8_readItem (G : GT) (q_a0 : Nat) (q_a0_letters : Nat) (q_a1 : Nat) (q_a1_slow : Nat) (q_a1_ways : Nat) (v_a0_length : Int32) (v_a0_place : Int32) (v_a0_at : Int32) (v_a0_token : Int32) (v_a0_number : Int32) (m_a0_letters : Nat → Int32) (v_a1_villages : Int32) (v_a1_deaf : Int32) (v_a1_reach : Int32) (v_a1_start : Int32) (v_a1_reachTold : Int32) (v_a1_startTold : Int32) (m_a1_slow : Nat → Int32) (m_a1_ways : Nat → Int32) : va_W := [(q_a0, .inr (8, [.ref q_a0_letters, .int v_a0_length, .int v_a0_place, .int v_a0_at, .int v_a0_token, .int v_a0_number])), (q_a0_letters, .inl (G.2 1, 200, .inl m_a0_letters)), (q_a1, .inr (9, [.int v_a1_villages, .int v_a1_deaf, .int v_a1_reach, .int v_a1_start, .int v_a1_reachTold, .int v_a1_startTold, .ref q_a1_slow, .ref q_a1_ways])), (q_a1_slow, .inl (G.2 0, 6, .inl m_a1_slow)), (q_a1_ways, .inl (G.2 0, 36, .inl m_a1_ways))]
def kX8_readItem : KT := (yX8_readItem, cX8_readItem, 2, (some .boolean), 5, 0, 0)
theorem kX8_readItem_r : kr kX8_readItem = (some .boolean) ∧ kmc kX8_readItem = 0 ∧ kms kX8_readItem = 0 := ⟨rfl, rfl, rfl⟩
theorem kX8_readItem_p : plainName (ky kX8_readItem).cls = true := by decide +kernel
def fX8_readItem (N : Nat) (v_a0_length : Int32) (v_a0_place : Int32) (v_a0_at : Int32) (v_a0_token : Int32) (v_a0_number : Int32) (m_a0_letters : Nat → Int32) (v_a1_villages : Int32) (v_a1_deaf : Int32) (v_a1_reach : Int32) (v_a1_start : Int32) (v_a1_reachTold : Int32) (v_a1_startTold : Int32) (m_a1_slow : Nat → Int32) (m_a1_ways : Nat → Int32) : Option (Int32 × Int32 × Int32 × Int32 × Int32 × Int32 × Int32 × Int32 × Int32 × Int32 × Int32 × (Nat → Int32) × (Nat → Int32)) :=
  if v_a0_token = (101 : Int32) then (Option.bind (fX8_readWay N v_a0_length v_a0_at v_a0_number m_a0_letters v_a1_villages m_a1_ways) fun o56 =>
  bz o56.1 <| 
  some (o56.1, o56.2.1, o56.2.2.1, o56.2.2.2.1, o56.2.2.2.2.1, v_a1_villages, v_a1_deaf, v_a1_reach, v_a1_start, v_a1_reachTold, v_a1_startTold, m_a1_slow, o56.2.2.2.2.2))
  else if v_a0_token = (114 : Int32) then (Option.bind (fX8_readReach N v_a0_length v_a0_place v_a0_at v_a0_token v_a0_number m_a0_letters v_a1_reach v_a1_reachTold) fun o62 =>
  bz o62.1 <| 
  some (o62.1, o62.2.1, o62.2.2.1, o62.2.2.2.1, o62.2.2.2.2.1, v_a1_villages, v_a1_deaf, o62.2.2.2.2.2.1, v_a1_start, o62.2.2.2.2.2.2, v_a1_startTold, m_a1_slow, m_a1_ways))
  else if v_a0_token = (115 : Int32) then (Option.bind (fX8_readStart N v_a0_length v_a0_place v_a0_at v_a0_token v_a0_number m_a0_letters v_a1_villages v_a1_start v_a1_startTold) fun o68 =>
  bz o68.1 <| 
  some (o68.1, o68.2.1, o68.2.2.1, o68.2.2.2.1, o68.2.2.2.2.1, v_a1_villages, v_a1_deaf, v_a1_reach, o68.2.2.2.2.2.1, v_a1_reachTold, o68.2.2.2.2.2.2, m_a1_slow, m_a1_ways))
  else if v_a0_token = (118 : Int32) then (Option.bind (fX8_readVillage N v_a0_length v_a0_place v_a0_at v_a0_token v_a0_number m_a0_letters v_a1_villages v_a1_deaf m_a1_slow) fun o50 =>
  bz o50.1 <| 
  some (o50.1, o50.2.1, o50.2.2.1, o50.2.2.2.1, o50.2.2.2.2.1, o50.2.2.2.2.2.1, o50.2.2.2.2.2.2.1, v_a1_reach, v_a1_start, v_a1_reachTold, v_a1_startTold, o50.2.2.2.2.2.2.2, m_a1_ways))
  else (some ((0 : Int32), v_a0_place, v_a0_at, v_a0_token, v_a0_number, v_a1_villages, v_a1_deaf, v_a1_reach, v_a1_start, v_a1_reachTold, v_a1_startTold, m_a1_slow, m_a1_ways))
section
variable {X : XT} {N : Nat} {q_a0 : Nat} {q_a0_letters : Nat} {q_a1 : Nat} {q_a1_slow : Nat} {q_a1_ways : Nat} {v_a0_length : Int32} {v_a0_place : Int32} {v_a0_at : Int32} {v_a0_token : Int32} {v_a0_number : Int32} {m_a0_letters : Nat → Int32} {v_a1_villages : Int32} {v_a1_deaf : Int32} {v_a1_reach : Int32} {v_a1_start : Int32} {v_a1_reachTold : Int32} {v_a1_startTold : Int32} {m_a1_slow : Nat → Int32} {m_a1_ways : Nat → Int32}
set_option maxRecDepth 20000 in
theorem tX8_readItem_0 {out : Int32 × Int32 × Int32 × Int32 × Int32 × Int32 × Int32 × Int32 × Int32 × Int32 × Int32 × (Nat → Int32) × (Nat → Int32)} (hX : xk X = kX8_readItem) (hQ : xQ X = qE (some (.int out.1)) (wX8_readItem (xG X) q_a0 q_a0_letters q_a1 q_a1_slow q_a1_ways v_a0_length out.2.1 out.2.2.1 out.2.2.2.1 out.2.2.2.2.1 m_a0_letters out.2.2.2.2.2.1 out.2.2.2.2.2.2.1 out.2.2.2.2.2.2.2.1 out.2.2.2.2.2.2.2.2.1 out.2.2.2.2.2.2.2.2.2.1 out.2.2.2.2.2.2.2.2.2.2.1 out.2.2.2.2.2.2.2.2.2.2.2.1 out.2.2.2.2.2.2.2.2.2.2.2.2)) (hf : fX8_readItem N v_a0_length v_a0_place v_a0_at v_a0_token v_a0_number m_a0_letters v_a1_villages v_a1_deaf v_a1_reach v_a1_start v_a1_reachTold v_a1_startTold m_a1_slow m_a1_ways = some out) : V X cX8_readItem "FarDrum$Text" 0 0 (wX8_readItem (xG X) q_a0 q_a0_letters q_a1 q_a1_slow q_a1_ways v_a0_length v_a0_place v_a0_at v_a0_token v_a0_number m_a0_letters v_a1_villages v_a1_deaf v_a1_reach v_a1_start v_a1_reachTold v_a1_startTold m_a1_slow m_a1_ways) [some (.ref q_a0), some (.ref q_a1)] 0 [] := by
  unfold fX8_readItem at hf
  refine V.aloadn (pc := 0) dX8_readItem_0 rfl ?_
  refine V.getf (q := 0) (pc := 1) dX8_readItem_1 fk_X8_27_8 rfl rfl ?_
  refine V.sw (v := 101) hf (fun e0 hf => ?_) (fun e0 hf => ?_)
  · refine V.lookup (pc := 4) (off := 50) (tgt := 54) dX8_readItem_4 (by decide) (by rw [e0]; decide) (by decide) ?_
    refine V.aloadn (pc := 54) dX8_readItem_54 rfl ?_
    refine V.aloadn (pc := 55) dX8_readItem_55 rfl ?_
    refine V.callVi (pc := 56) (q := 0) (wr := [(q_a1_slow, .inl ((xG X).2 0, 6, .inl m_a1_slow))]) (wd' := fun o56 => wX8_readItem (xG X) q_a0 q_a0_letters q_a1 q_a1_slow q_a1_ways v_a0_length o56.2.1 o56.2.2.1 o56.2.2.2.1 o56.2.2.2.2.1 m_a0_letters v_a1_villages v_a1_deaf v_a1_reach v_a1_start v_a1_reachTold v_a1_startTold m_a1_slow o56.2.2.2.2.2) [.ref q_a1] (st := []) hf (fun _ h => oX8_readWay (q_a0 := q_a0) (q_a0_letters := q_a0_letters) (q_a1 := q_a1) (q_a1_ways := q_a1_ways) (v_a0_length := v_a0_length) (v_a0_place := v_a0_place) (v_a0_at := v_a0_at) (v_a0_token := v_a0_token) (v_a0_number := v_a0_number) (m_a0_letters := m_a0_letters) (v_a1_villages := v_a1_villages) (u_a1_deaf := ((.int v_a1_deaf))) (u_a1_reach := ((.int v_a1_reach))) (u_a1_start := ((.int v_a1_start))) (u_a1_reachTold := ((.int v_a1_reachTold))) (u_a1_startTold := ((.int v_a1_startTold))) (u_a1_slow := ((.ref q_a1_slow))) (m_a1_ways := m_a1_ways) h) lkV_X8_37 dX8_readItem_56 hX rfl ⟨rfl, rfl⟩ ⟨rfl, rfl⟩ rfl rfl rfl rfl rfl [0, 1, 2, 4] [3] [1, 2, 3, 0, 4] rfl rfl rfl rfl rfl (fun _ => rfl) rfl (fun o56 hf => ?_)
    obtain ⟨hz, hf⟩ := bz_ok hf
    exact V.zretE (pc := 59) hX kX8_readItem_r hQ hz dX8_readItem_59 (by cases hf; rfl) (by cases hf; rfl)
  refine V.sw (v := 114) hf (fun e1 hf => ?_) (fun e1 hf => ?_)
  · refine V.lookup (pc := 4) (off := 56) (tgt := 60) dX8_readItem_4 (by decide) (by rw [e1]; decide) (by decide) ?_
    refine V.aloadn (pc := 60) dX8_readItem_60 rfl ?_
    refine V.aloadn (pc := 61) dX8_readItem_61 rfl ?_
    refine V.callVi (pc := 62) (q := 0) (wr := [(q_a1_slow, .inl ((xG X).2 0, 6, .inl m_a1_slow)), (q_a1_ways, .inl ((xG X).2 0, 36, .inl m_a1_ways))]) (wd' := fun o62 => wX8_readItem (xG X) q_a0 q_a0_letters q_a1 q_a1_slow q_a1_ways v_a0_length o62.2.1 o62.2.2.1 o62.2.2.2.1 o62.2.2.2.2.1 m_a0_letters v_a1_villages v_a1_deaf o62.2.2.2.2.2.1 v_a1_start o62.2.2.2.2.2.2 v_a1_startTold m_a1_slow m_a1_ways) [.ref q_a1] (st := []) hf (fun _ h => oX8_readReach (q_a0 := q_a0) (q_a0_letters := q_a0_letters) (q_a1 := q_a1) (v_a0_length := v_a0_length) (v_a0_place := v_a0_place) (v_a0_at := v_a0_at) (v_a0_token := v_a0_token) (v_a0_number := v_a0_number) (m_a0_letters := m_a0_letters) (u_a1_villages := ((.int v_a1_villages))) (u_a1_deaf := ((.int v_a1_deaf))) (v_a1_reach := v_a1_reach) (u_a1_start := ((.int v_a1_start))) (v_a1_reachTold := v_a1_reachTold) (u_a1_startTold := ((.int v_a1_startTold))) (u_a1_slow := ((.ref q_a1_slow))) (u_a1_ways := ((.ref q_a1_ways))) h) lkV_X8_40 dX8_readItem_62 hX rfl ⟨rfl, rfl⟩ ⟨rfl, rfl⟩ rfl rfl rfl rfl rfl [0, 1, 2] [3, 4] [2, 3, 4, 0, 1] rfl rfl rfl rfl rfl (fun _ => rfl) rfl (fun o62 hf => ?_)
    obtain ⟨hz, hf⟩ := bz_ok hf
    exact V.zretE (pc := 65) hX kX8_readItem_r hQ hz dX8_readItem_65 (by cases hf; rfl) (by cases hf; rfl)
  refine V.sw (v := 115) hf (fun e2 hf => ?_) (fun e2 hf => ?_)
  · refine V.lookup (pc := 4) (off := 62) (tgt := 66) dX8_readItem_4 (by decide) (by rw [e2]; decide) (by decide) ?_
    refine V.aloadn (pc := 66) dX8_readItem_66 rfl ?_
    refine V.aloadn (pc := 67) dX8_readItem_67 rfl ?_
    refine V.callVi (pc := 68) (q := 0) (wr := [(q_a1_slow, .inl ((xG X).2 0, 6, .inl m_a1_slow)), (q_a1_ways, .inl ((xG X).2 0, 36, .inl m_a1_ways))]) (wd' := fun o68 => wX8_readItem (xG X) q_a0 q_a0_letters q_a1 q_a1_slow q_a1_ways v_a0_length o68.2.1 o68.2.2.1 o68.2.2.2.1 o68.2.2.2.2.1 m_a0_letters v_a1_villages v_a1_deaf v_a1_reach o68.2.2.2.2.2.1 v_a1_reachTold o68.2.2.2.2.2.2 m_a1_slow m_a1_ways) [.ref q_a1] (st := []) hf (fun _ h => oX8_readStart (q_a0 := q_a0) (q_a0_letters := q_a0_letters) (q_a1 := q_a1) (v_a0_length := v_a0_length) (v_a0_place := v_a0_place) (v_a0_at := v_a0_at) (v_a0_token := v_a0_token) (v_a0_number := v_a0_number) (m_a0_letters := m_a0_letters) (v_a1_villages := v_a1_villages) (u_a1_deaf := ((.int v_a1_deaf))) (u_a1_reach := ((.int v_a1_reach))) (v_a1_start := v_a1_start) (u_a1_reachTold := ((.int v_a1_reachTold))) (v_a1_startTold := v_a1_startTold) (u_a1_slow := ((.ref q_a1_slow))) (u_a1_ways := ((.ref q_a1_ways))) h) lkV_X8_43 dX8_readItem_68 hX rfl ⟨rfl, rfl⟩ ⟨rfl, rfl⟩ rfl rfl rfl rfl rfl [0, 1, 2] [3, 4] [2, 3, 4, 0, 1] rfl rfl rfl rfl rfl (fun _ => rfl) rfl (fun o68 hf => ?_)
    obtain ⟨hz, hf⟩ := bz_ok hf
    exact V.zretE (pc := 71) hX kX8_readItem_r hQ hz dX8_readItem_71 (by cases hf; rfl) (by cases hf; rfl)
  refine V.sw (v := 118) hf (fun e3 hf => ?_) (fun e3 hf => ?_)
  · refine V.lookup (pc := 4) (off := 44) (tgt := 48) dX8_readItem_4 (by decide) (by rw [e3]; decide) (by decide) ?_
    refine V.aloadn (pc := 48) dX8_readItem_48 rfl ?_
    refine V.aloadn (pc := 49) dX8_readItem_49 rfl ?_
    refine V.callVi (pc := 50) (q := 0) (wr := [(q_a1_ways, .inl ((xG X).2 0, 36, .inl m_a1_ways))]) (wd' := fun o50 => wX8_readItem (xG X) q_a0 q_a0_letters q_a1 q_a1_slow q_a1_ways v_a0_length o50.2.1 o50.2.2.1 o50.2.2.2.1 o50.2.2.2.2.1 m_a0_letters o50.2.2.2.2.2.1 o50.2.2.2.2.2.2.1 v_a1_reach v_a1_start v_a1_reachTold v_a1_startTold o50.2.2.2.2.2.2.2 m_a1_ways) [.ref q_a1] (st := []) hf (fun _ h => oX8_readVillage (q_a0 := q_a0) (q_a0_letters := q_a0_letters) (q_a1 := q_a1) (q_a1_slow := q_a1_slow) (v_a0_length := v_a0_length) (v_a0_place := v_a0_place) (v_a0_at := v_a0_at) (v_a0_token := v_a0_token) (v_a0_number := v_a0_number) (m_a0_letters := m_a0_letters) (v_a1_villages := v_a1_villages) (v_a1_deaf := v_a1_deaf) (u_a1_reach := ((.int v_a1_reach))) (u_a1_start := ((.int v_a1_start))) (u_a1_reachTold := ((.int v_a1_reachTold))) (u_a1_startTold := ((.int v_a1_startTold))) (u_a1_ways := ((.ref q_a1_ways))) (m_a1_slow := m_a1_slow) h) lkV_X8_34 dX8_readItem_50 hX rfl ⟨rfl, rfl⟩ ⟨rfl, rfl⟩ rfl rfl rfl rfl rfl [0, 1, 2, 3] [4] [1, 2, 3, 4, 0] rfl rfl rfl rfl rfl (fun _ => rfl) rfl (fun o50 hf => ?_)
    obtain ⟨hz, hf⟩ := bz_ok hf
    exact V.zretE (pc := 53) hX kX8_readItem_r hQ hz dX8_readItem_53 (by cases hf; rfl) (by cases hf; rfl)
  refine V.lookup (pc := 4) (off := 68) (tgt := 72) dX8_readItem_4 (by decide) (lk_out4 e0 e1 e2 e3 (by decide)) (by decide) ?_
  refine V.iconst (pc := 72) (v := 0) dX8_readItem_72 (by decide) ?_
  exact V.zretE (pc := 73) hX kX8_readItem_r hQ rfl dX8_readItem_73 (by cases hf; rfl) (by cases hf; rfl)
end
theorem oX8_readItem {l : Launch} {G : GT} {N : Nat} {q_a0 : Nat} {q_a0_letters : Nat} {q_a1 : Nat} {q_a1_slow : Nat} {q_a1_ways : Nat} {v_a0_length : Int32} {v_a0_place : Int32} {v_a0_at : Int32} {v_a0_token : Int32} {v_a0_number : Int32} {m_a0_letters : Nat → Int32} {v_a1_villages : Int32} {v_a1_deaf : Int32} {v_a1_reach : Int32} {v_a1_start : Int32} {v_a1_reachTold : Int32} {v_a1_startTold : Int32} {m_a1_slow : Nat → Int32} {m_a1_ways : Nat → Int32} {out : Int32 × Int32 × Int32 × Int32 × Int32 × Int32 × Int32 × Int32 × Int32 × Int32 × Int32 × (Nat → Int32) × (Nat → Int32)} (hf : fX8_readItem N v_a0_length v_a0_place v_a0_at v_a0_token v_a0_number m_a0_letters v_a1_villages v_a1_deaf v_a1_reach v_a1_start v_a1_reachTold v_a1_startTold m_a1_slow m_a1_ways = some out) : Ct (l, G, kX8_readItem, wX8_readItem G q_a0 q_a0_letters q_a1 q_a1_slow q_a1_ways v_a0_length v_a0_place v_a0_at v_a0_token v_a0_number m_a0_letters v_a1_villages v_a1_deaf v_a1_reach v_a1_start v_a1_reachTold v_a1_startTold m_a1_slow m_a1_ways, [.ref q_a0, .ref q_a1], qE (some (.int out.1)) (wX8_readItem G q_a0 q_a0_letters q_a1 q_a1_slow q_a1_ways v_a0_length out.2.1 out.2.2.1 out.2.2.2.1 out.2.2.2.2.1 m_a0_letters out.2.2.2.2.2.1 out.2.2.2.2.2.2.1 out.2.2.2.2.2.2.2.1 out.2.2.2.2.2.2.2.2.1 out.2.2.2.2.2.2.2.2.2.1 out.2.2.2.2.2.2.2.2.2.2.1 out.2.2.2.2.2.2.2.2.2.2.2.1 out.2.2.2.2.2.2.2.2.2.2.2.2)) :=
  Ct.of [some (.ref q_a0), some (.ref q_a1)] kX8_readItem_p rfl rfl rfl ((tX8_readItem_0 (X := (l, G, kX8_readItem, wX8_readItem G q_a0 q_a0_letters q_a1 q_a1_slow q_a1_ways v_a0_length v_a0_place v_a0_at v_a0_token v_a0_number m_a0_letters v_a1_villages v_a1_deaf v_a1_reach v_a1_start v_a1_reachTold v_a1_startTold m_a1_slow m_a1_ways, [.ref q_a0, .ref q_a1], qE (some (.int out.1)) (wX8_readItem G q_a0 q_a0_letters q_a1 q_a1_slow q_a1_ways v_a0_length out.2.1 out.2.2.1 out.2.2.2.1 out.2.2.2.2.1 m_a0_letters out.2.2.2.2.2.1 out.2.2.2.2.2.2.1 out.2.2.2.2.2.2.2.1 out.2.2.2.2.2.2.2.2.1 out.2.2.2.2.2.2.2.2.2.1 out.2.2.2.2.2.2.2.2.2.2.1 out.2.2.2.2.2.2.2.2.2.2.2.1 out.2.2.2.2.2.2.2.2.2.2.2.2))) rfl rfl hf))

theorem lkb_X9_empty : LkB kX9_empty 0 := ⟨kw_2_129, kw_1_3, ⟨by decide, by decide⟩, by decide +kernel, by decide⟩
theorem lkV_X8_15 : LkV "FarDrum$Text" 15 kX9_empty 0 := ⟨lkb_X9_empty, kw_2_126, kw_2_127, kw_2_128⟩
theorem lkb_X8_readItem : LkB kX8_readItem 1 := ⟨kw_2_150, kw_1_2, ⟨by decide, by decide⟩, by decide +kernel, by decide⟩
theorem lkV_X8_30 : LkV "FarDrum$Text" 30 kX8_readItem 1 := ⟨lkb_X8_readItem, kw_2_147, kw_2_149, kp_2⟩
def wX8_readInto (G : GT) (q_a0 : Nat) (q_a0_letters : Nat) (q_a1 : Nat) (q_a1_slow : Nat) (q_a1_ways : Nat) (v_a0_length : Int32) (v_a0_place : Int32) (v_a0_at : Int32) (v_a0_token : Int32) (v_a0_number : Int32) (m_a0_letters : Nat → Int32) (v_a1_villages : Int32) (v_a1_deaf : Int32) (v_a1_reach : Int32) (v_a1_start : Int32) (v_a1_reachTold : Int32) (v_a1_startTold : Int32) (m_a1_slow : Nat → Int32) (m_a1_ways : Nat → Int32) : va_W := [(q_a0, .inr (8, [.ref q_a0_letters, .int v_a0_length, .int v_a0_place, .int v_a0_at, .int v_a0_token, .int v_a0_number])), (q_a0_letters, .inl (G.2 1, 200, .inl m_a0_letters)), (q_a1, .inr (9, [.int v_a1_villages, .int v_a1_deaf, .int v_a1_reach, .int v_a1_start, .int v_a1_reachTold, .int v_a1_startTold, .ref q_a1_slow, .ref q_a1_ways])), (q_a1_slow, .inl (G.2 0, 6, .inl m_a1_slow)), (q_a1_ways, .inl (G.2 0, 36, .inl m_a1_ways))]
def kX8_readInto : KT := (yX8_readInto, cX8_readInto, 3, (some .int), 6, 0, 0)
theorem kX8_readInto_r : kr kX8_readInto = (some .int) ∧ kmc kX8_readInto = 0 ∧ kms kX8_readInto = 0 := ⟨rfl, rfl, rfl⟩
theorem kX8_readInto_p : plainName (ky kX8_readInto).cls = true := by decide +kernel
def fX8_readInto_11 (B11 : Int32 → Int32 → Int32 → Int32 → Int32 → Int32 → Int32 → Int32 → Int32 → Int32 → Int32 → (Nat → Int32) → (Nat → Int32) → Option (Int32 × Int32 × Int32 × Int32 × Int32 × Int32 × Int32 × Int32 × Int32 × Int32 × Int32 × (Nat → Int32) × (Nat → Int32))) (K11_30 : Int32 → Int32 → Int32 → Int32 → Int32 → Int32 → Int32 → Int32 → Int32 → Int32 → Int32 → (Nat → Int32) → (Nat → Int32) → Option (Int32 × Int32 × Int32 × Int32 × Int32 × Int32 × Int32 × Int32 × Int32 × Int32 × Int32 × (Nat → Int32) × (Nat → Int32))) (K11_40 : Int32 → Int32 → Int32 → Int32 → Int32 → Int32 → Int32 → Int32 → Int32 → Int32 → (Nat → Int32) → (Nat → Int32) → Option (Int32 × Int32 × Int32 × Int32 × Int32 × Int32 × Int32 × Int32 × Int32 × Int32 × Int32 × (Nat → Int32) × (Nat → Int32))) (K11_48 : Int32 → Int32 → Int32 → Int32 → Int32 → Int32 → Int32 → Int32 → Int32 → Int32 → (Nat → Int32) → (Nat → Int32) → Option (Int32 × Int32 × Int32 × Int32 × Int32 × Int32 × Int32 × Int32 × Int32 × Int32 × Int32 × (Nat → Int32) × (Nat → Int32))) (N : Nat) (l2 : Int32) (v_a0_length : Int32) (v_a0_place : Int32) (v_a0_at : Int32) (v_a0_token : Int32) (v_a0_number : Int32) (m_a0_letters : Nat → Int32) (v_a1_villages : Int32) (v_a1_deaf : Int32) (v_a1_reach : Int32) (v_a1_start : Int32) (v_a1_reachTold : Int32) (v_a1_startTold : Int32) (m_a1_slow : Nat → Int32) (m_a1_ways : Nat → Int32) : Option (Int32 × Int32 × Int32 × Int32 × Int32 × Int32 × Int32 × Int32 × Int32 × Int32 × Int32 × (Nat → Int32) × (Nat → Int32)) :=
  if (200 : Int32) < l2 then (K11_48 v_a0_place v_a0_at v_a0_token v_a0_number v_a1_villages v_a1_deaf v_a1_reach v_a1_start v_a1_reachTold v_a1_startTold m_a1_slow m_a1_ways)
  else (Option.bind (fX8_readToken N v_a0_length v_a0_at v_a0_number m_a0_letters) fun o19 =>
  if o19.2.2.1 = (1 : Int32) then (K11_30 l2 o19.1 o19.2.1 o19.2.2.1 o19.2.2.2 v_a1_villages v_a1_deaf v_a1_reach v_a1_start v_a1_reachTold v_a1_startTold m_a1_slow m_a1_ways)
  else (Option.bind (fX8_readItem N v_a0_length o19.1 o19.2.1 o19.2.2.1 o19.2.2.2 m_a0_letters v_a1_villages v_a1_deaf v_a1_reach v_a1_start v_a1_reachTold v_a1_startTold m_a1_slow m_a1_ways) fun o34 =>
  if o34.1 = 0 then (K11_40 o34.2.1 o34.2.2.1 o34.2.2.2.1 o34.2.2.2.2.1 o34.2.2.2.2.2.1 o34.2.2.2.2.2.2.1 o34.2.2.2.2.2.2.2.1 o34.2.2.2.2.2.2.2.2.1 o34.2.2.2.2.2.2.2.2.2.1 o34.2.2.2.2.2.2.2.2.2.2.1 o34.2.2.2.2.2.2.2.2.2.2.2.1 o34.2.2.2.2.2.2.2.2.2.2.2.2)
  else (B11 (l2 + (1 : Int32)) o34.2.1 o34.2.2.1 o34.2.2.2.1 o34.2.2.2.2.1 o34.2.2.2.2.2.1 o34.2.2.2.2.2.2.1 o34.2.2.2.2.2.2.2.1 o34.2.2.2.2.2.2.2.2.1 o34.2.2.2.2.2.2.2.2.2.1 o34.2.2.2.2.2.2.2.2.2.2.1 o34.2.2.2.2.2.2.2.2.2.2.2.1 o34.2.2.2.2.2.2.2.2.2.2.2.2)))
def fX8_readInto_L11 (N : Nat) (v_a0_length : Int32) (m_a0_letters : Nat → Int32) (K11_30 : Int32 → Int32 → Int32 → Int32 → Int32 → Int32 → Int32 → Int32 → Int32 → Int32 → Int32 → (Nat → Int32) → (Nat → Int32) → Option (Int32 × Int32 × Int32 × Int32 × Int32 × Int32 × Int32 × Int32 × Int32 × Int32 × Int32 × (Nat → Int32) × (Nat → Int32))) (K11_40 : Int32 → Int32 → Int32 → Int32 → Int32 → Int32 → Int32 → Int32 → Int32 → Int32 → (Nat → Int32) → (Nat → Int32) → Option (Int32 × Int32 × Int32 × Int32 × Int32 × Int32 × Int32 × Int32 × Int32 × Int32 × Int32 × (Nat → Int32) × (Nat → Int32))) (K11_48 : Int32 → Int32 → Int32 → Int32 → Int32 → Int32 → Int32 → Int32 → Int32 → Int32 → (Nat → Int32) → (Nat → Int32) → Option (Int32 × Int32 × Int32 × Int32 × Int32 × Int32 × Int32 × Int32 × Int32 × Int32 × Int32 × (Nat → Int32) × (Nat → Int32))) : Nat → Int32 → Int32 → Int32 → Int32 → Int32 → Int32 → Int32 → Int32 → Int32 → Int32 → Int32 → (Nat → Int32) → (Nat → Int32) → Option (Int32 × Int32 × Int32 × Int32 × Int32 × Int32 × Int32 × Int32 × Int32 × Int32 × Int32 × (Nat → Int32) × (Nat → Int32))
  | 0, _, _, _, _, _, _, _, _, _, _, _, _, _ => none
  | n + 1, l2, v_a0_place, v_a0_at, v_a0_token, v_a0_number, v_a1_villages, v_a1_deaf, v_a1_reach, v_a1_start, v_a1_reachTold, v_a1_startTold, m_a1_slow, m_a1_ways => fX8_readInto_11 (fX8_readInto_L11 N v_a0_length m_a0_letters K11_30 K11_40 K11_48 n) K11_30 K11_40 K11_48 N l2 v_a0_length v_a0_place v_a0_at v_a0_token v_a0_number m_a0_letters v_a1_villages v_a1_deaf v_a1_reach v_a1_start v_a1_reachTold v_a1_startTold m_a1_slow m_a1_ways
def fX8_readInto (N : Nat) (v_a0_length : Int32) (v_a0_place : Int32) (v_a0_token : Int32) (v_a0_number : Int32) (m_a0_letters : Nat → Int32) (m_a1_slow : Nat → Int32) (m_a1_ways : Nat → Int32) : Option (Int32 × Int32 × Int32 × Int32 × Int32 × Int32 × Int32 × Int32 × Int32 × Int32 × Int32 × (Nat → Int32) × (Nat → Int32)) :=
  Option.bind (fX9_empty N m_a1_slow m_a1_ways) fun o1 =>
  fX8_readInto_L11 N v_a0_length m_a0_letters
      (fun l2k11_30 v_a0_placek11_30 v_a0_atk11_30 v_a0_tokenk11_30 v_a0_numberk11_30 v_a1_villagesk11_30 v_a1_deafk11_30 v_a1_reachk11_30 v_a1_startk11_30 v_a1_reachToldk11_30 v_a1_startToldk11_30 m_a1_slowk11_30 m_a1_waysk11_30 => some (l2k11_30, v_a0_placek11_30, v_a0_atk11_30, v_a0_tokenk11_30, v_a0_numberk11_30, v_a1_villagesk11_30, v_a1_deafk11_30, v_a1_reachk11_30, v_a1_startk11_30, v_a1_reachToldk11_30, v_a1_startToldk11_30, m_a1_slowk11_30, m_a1_waysk11_30))
      (fun v_a0_placek11_40 v_a0_atk11_40 v_a0_tokenk11_40 v_a0_numberk11_40 v_a1_villagesk11_40 v_a1_deafk11_40 v_a1_reachk11_40 v_a1_startk11_40 v_a1_reachToldk11_40 v_a1_startToldk11_40 m_a1_slowk11_40 m_a1_waysk11_40 => some ((-1 : Int32), v_a0_placek11_40, v_a0_atk11_40, v_a0_tokenk11_40, v_a0_numberk11_40, v_a1_villagesk11_40, v_a1_deafk11_40, v_a1_reachk11_40, v_a1_startk11_40, v_a1_reachToldk11_40, v_a1_startToldk11_40, m_a1_slowk11_40, m_a1_waysk11_40))
      (fun v_a0_placek11_48 v_a0_atk11_48 v_a0_tokenk11_48 v_a0_numberk11_48 v_a1_villagesk11_48 v_a1_deafk11_48 v_a1_reachk11_48 v_a1_startk11_48 v_a1_reachToldk11_48 v_a1_startToldk11_48 m_a1_slowk11_48 m_a1_waysk11_48 => some ((-1 : Int32), v_a0_placek11_48, v_a0_atk11_48, v_a0_tokenk11_48, v_a0_numberk11_48, v_a1_villagesk11_48, v_a1_deafk11_48, v_a1_reachk11_48, v_a1_startk11_48, v_a1_reachToldk11_48, v_a1_startToldk11_48, m_a1_slowk11_48, m_a1_waysk11_48)) N (0 : Int32) v_a0_place (0 : Int32) v_a0_token v_a0_number o1.1 o1.2.1 o1.2.2.1 o1.2.2.2.1 o1.2.2.2.2.1 o1.2.2.2.2.2.1 o1.2.2.2.2.2.2.1 o1.2.2.2.2.2.2.2
section
variable {X : XT} {N : Nat} {q_a0 : Nat} {q_a0_letters : Nat} {q_a1 : Nat} {q_a1_slow : Nat} {q_a1_ways : Nat} {v_a0_length : Int32} {v_a0_place : Int32} {v_a0_at : Int32} {v_a0_token : Int32} {v_a0_number : Int32} {m_a0_letters : Nat → Int32} {v_a1_villages : Int32} {v_a1_deaf : Int32} {v_a1_reach : Int32} {v_a1_start : Int32} {v_a1_reachTold : Int32} {v_a1_startTold : Int32} {m_a1_slow : Nat → Int32} {m_a1_ways : Nat → Int32} {l2 : Int32}
set_option maxRecDepth 20000 in
theorem tX8_readInto_11 {out : Int32 × Int32 × Int32 × Int32 × Int32 × Int32 × Int32 × Int32 × Int32 × Int32 × Int32 × (Nat → Int32) × (Nat → Int32)} (hX : xk X = kX8_readInto) (hQ : xQ X = qE (some (.int out.1)) (wX8_readInto (xG X) q_a0 q_a0_letters q_a1 q_a1_slow q_a1_ways v_a0_length out.2.1 out.2.2.1 out.2.2.2.1 out.2.2.2.2.1 m_a0_letters out.2.2.2.2.2.1 out.2.2.2.2.2.2.1 out.2.2.2.2.2.2.2.1 out.2.2.2.2.2.2.2.2.1 out.2.2.2.2.2.2.2.2.2.1 out.2.2.2.2.2.2.2.2.2.2.1 out.2.2.2.2.2.2.2.2.2.2.2.1 out.2.2.2.2.2.2.2.2.2.2.2.2)) {B11 : Int32 → Int32 → Int32 → Int32 → Int32 → Int32 → Int32 → Int32 → Int32 → Int32 → Int32 → (Nat → Int32) → (Nat → Int32) → Option (Int32 × Int32 × Int32 × Int32 × Int32 × Int32 × Int32 × Int32 × Int32 × Int32 × Int32 × (Nat → Int32) × (Nat → Int32))} {K11_30 : Int32 → Int32 → Int32 → Int32 → Int32 → Int32 → Int32 → Int32 → Int32 → Int32 → Int32 → (Nat → Int32) → (Nat → Int32) → Option (Int32 × Int32 × Int32 × Int32 × Int32 × Int32 × Int32 × Int32 × Int32 × Int32 × Int32 × (Nat → Int32) × (Nat → Int32))} {K11_40 : Int32 → Int32 → Int32 → Int32 → Int32 → Int32 → Int32 → Int32 → Int32 → Int32 → (Nat → Int32) → (Nat → Int32) → Option (Int32 × Int32 × Int32 × Int32 × Int32 × Int32 × Int32 × Int32 × Int32 × Int32 × Int32 × (Nat → Int32) × (Nat → Int32))} {K11_48 : Int32 → Int32 → Int32 → Int32 → Int32 → Int32 → Int32 → Int32 → Int32 → Int32 → (Nat → Int32) → (Nat → Int32) → Option (Int32 × Int32 × Int32 × Int32 × Int32 × Int32 × Int32 × Int32 × Int32 × Int32 × Int32 × (Nat → Int32) × (Nat → Int32))} (hB11 : ∀ (l2 : Int32) (v_a0_place : Int32) (v_a0_at : Int32) (v_a0_token : Int32) (v_a0_number : Int32) (v_a1_villages : Int32) (v_a1_deaf : Int32) (v_a1_reach : Int32) (v_a1_start : Int32) (v_a1_reachTold : Int32) (v_a1_startTold : Int32) (m_a1_slow : Nat → Int32) (m_a1_ways : Nat → Int32), B11 l2 v_a0_place v_a0_at v_a0_token v_a0_number v_a1_villages v_a1_deaf v_a1_reach v_a1_start v_a1_reachTold v_a1_startTold m_a1_slow m_a1_ways = some out → V X cX8_readInto "FarDrum$Text" 0 0 (wX8_readInto (xG X) q_a0 q_a0_letters q_a1 q_a1_slow q_a1_ways v_a0_length v_a0_place v_a0_at v_a0_token v_a0_number m_a0_letters v_a1_villages v_a1_deaf v_a1_reach v_a1_start v_a1_reachTold v_a1_startTold m_a1_slow m_a1_ways) [some (.ref q_a0), some (.ref q_a1), some (.int l2)] 11 []) (hK11_30 : ∀ (l2 : Int32) (v_a0_place : Int32) (v_a0_at : Int32) (v_a0_token : Int32) (v_a0_number : Int32) (v_a1_villages : Int32) (v_a1_deaf : Int32) (v_a1_reach : Int32) (v_a1_start : Int32) (v_a1_reachTold : Int32) (v_a1_startTold : Int32) (m_a1_slow : Nat → Int32) (m_a1_ways : Nat → Int32), K11_30 l2 v_a0_place v_a0_at v_a0_token v_a0_number v_a1_villages v_a1_deaf v_a1_reach v_a1_start v_a1_reachTold v_a1_startTold m_a1_slow m_a1_ways = some out → V X cX8_readInto "FarDrum$Text" 0 0 (wX8_readInto (xG X) q_a0 q_a0_letters q_a1 q_a1_slow q_a1_ways v_a0_length v_a0_place v_a0_at v_a0_token v_a0_number m_a0_letters v_a1_villages v_a1_deaf v_a1_reach v_a1_start v_a1_reachTold v_a1_startTold m_a1_slow m_a1_ways) [none, none, some (.int l2)] 30 []) (hK11_40 : ∀ (v_a0_place : Int32) (v_a0_at : Int32) (v_a0_token : Int32) (v_a0_number : Int32) (v_a1_villages : Int32) (v_a1_deaf : Int32) (v_a1_reach : Int32) (v_a1_start : Int32) (v_a1_reachTold : Int32) (v_a1_startTold : Int32) (m_a1_slow : Nat → Int32) (m_a1_ways : Nat → Int32), K11_40 v_a0_place v_a0_at v_a0_token v_a0_number v_a1_villages v_a1_deaf v_a1_reach v_a1_start v_a1_reachTold v_a1_startTold m_a1_slow m_a1_ways = some out → V X cX8_readInto "FarDrum$Text" 0 0 (wX8_readInto (xG X) q_a0 q_a0_letters q_a1 q_a1_slow q_a1_ways v_a0_length v_a0_place v_a0_at v_a0_token v_a0_number m_a0_letters v_a1_villages v_a1_deaf v_a1_reach v_a1_start v_a1_reachTold v_a1_startTold m_a1_slow m_a1_ways) [none, none, none] 40 []) (hK11_48 : ∀ (v_a0_place : Int32) (v_a0_at : Int32) (v_a0_token : Int32) (v_a0_number : Int32) (v_a1_villages : Int32) (v_a1_deaf : Int32) (v_a1_reach : Int32) (v_a1_start : Int32) (v_a1_reachTold : Int32) (v_a1_startTold : Int32) (m_a1_slow : Nat → Int32) (m_a1_ways : Nat → Int32), K11_48 v_a0_place v_a0_at v_a0_token v_a0_number v_a1_villages v_a1_deaf v_a1_reach v_a1_start v_a1_reachTold v_a1_startTold m_a1_slow m_a1_ways = some out → V X cX8_readInto "FarDrum$Text" 0 0 (wX8_readInto (xG X) q_a0 q_a0_letters q_a1 q_a1_slow q_a1_ways v_a0_length v_a0_place v_a0_at v_a0_token v_a0_number m_a0_letters v_a1_villages v_a1_deaf v_a1_reach v_a1_start v_a1_reachTold v_a1_startTold m_a1_slow m_a1_ways) [none, none, none] 48 []) (hf : fX8_readInto_11 B11 K11_30 K11_40 K11_48 N l2 v_a0_length v_a0_place v_a0_at v_a0_token v_a0_number m_a0_letters v_a1_villages v_a1_deaf v_a1_reach v_a1_start v_a1_reachTold v_a1_startTold m_a1_slow m_a1_ways = some out) : V X cX8_readInto "FarDrum$Text" 0 0 (wX8_readInto (xG X) q_a0 q_a0_letters q_a1 q_a1_slow q_a1_ways v_a0_length v_a0_place v_a0_at v_a0_token v_a0_number m_a0_letters v_a1_villages v_a1_deaf v_a1_reach v_a1_start v_a1_reachTold v_a1_startTold m_a1_slow m_a1_ways) [some (.ref q_a0), some (.ref q_a1), some (.int l2)] 11 [] := by
  unfold fX8_readInto_11 at hf
  refine V.iloadn (pc := 11) dX8_readInto_11 rfl ?_
  refine V.sipush (pc := 12) (v := 200) dX8_readInto_12 (by decide) ?_
  refine V.icmp_gt (pc := 15) (tgt := 48) dX8_readInto_15 (by decide) hf (fun hf => ?_) (fun hf => ?_)
  · refine V.mask (pc := 48) [false, false, false] rfl rfl ?_
    exact hK11_48 _ _ _ _ _ _ _ _ _ _ _ _ hf
  · refine V.aloadn (pc := 18) dX8_readInto_18 rfl ?_
    refine V.callVv (pc := 19) (q := 0) (wr := [(q_a1, .inr (9, [.int v_a1_villages, .int v_a1_deaf, .int v_a1_reach, .int v_a1_start, .int v_a1_reachTold, .int v_a1_startTold, .ref q_a1_slow, .ref q_a1_ways])), (q_a1_slow, .inl ((xG X).2 0, 6, .inl m_a1_slow)), (q_a1_ways, .inl ((xG X).2 0, 36, .inl m_a1_ways))]) (wd' := fun o19 => wX8_readInto (xG X) q_a0 q_a0_letters q_a1 q_a1_slow q_a1_ways v_a0_length o19.1 o19.2.1 o19.2.2.1 o19.2.2.2 m_a0_letters v_a1_villages v_a1_deaf v_a1_reach v_a1_start v_a1_reachTold v_a1_startTold m_a1_slow m_a1_ways) [] (st := []) hf (fun _ h => oX8_readToken (q_a0 := q_a0) (q_a0_letters := q_a0_letters) (v_a0_length := v_a0_length) (v_a0_place := v_a0_place) (v_a0_at := v_a0_at) (v_a0_token := v_a0_token) (v_a0_number := v_a0_number) (m_a0_letters := m_a0_letters) h) lkV_X8_24 dX8_readInto_19 hX rfl ⟨rfl, rfl⟩ ⟨rfl, rfl⟩ rfl rfl rfl rfl rfl [0, 1] [2, 3, 4] [3, 4, 0, 1, 2] rfl rfl rfl rfl rfl (fun _ => rfl) rfl (fun o19 hf => ?_)
    refine V.aloadn (pc := 22) dX8_readInto_22 rfl ?_
    refine V.getf (q := 0) (pc := 23) dX8_readInto_23 fk_X8_27_8 rfl rfl ?_
    refine V.iconst (pc := 26) (v := 1) dX8_readInto_26 (by decide) ?_
    refine V.icmp_ne (pc := 27) (tgt := 32) dX8_readInto_27 (by decide) hf (fun hf => ?_) (fun hf => ?_)
    · refine V.aloadn (pc := 32) dX8_readInto_32 rfl ?_
      refine V.aloadn (pc := 33) dX8_readInto_33 rfl ?_
      refine V.callVi (pc := 34) (q := 0) (wr := []) (wd' := fun o34 => wX8_readInto (xG X) q_a0 q_a0_letters q_a1 q_a1_slow q_a1_ways v_a0_length o34.2.1 o34.2.2.1 o34.2.2.2.1 o34.2.2.2.2.1 m_a0_letters o34.2.2.2.2.2.1 o34.2.2.2.2.2.2.1 o34.2.2.2.2.2.2.2.1 o34.2.2.2.2.2.2.2.2.1 o34.2.2.2.2.2.2.2.2.2.1 o34.2.2.2.2.2.2.2.2.2.2.1 o34.2.2.2.2.2.2.2.2.2.2.2.1 o34.2.2.2.2.2.2.2.2.2.2.2.2) [.ref q_a1] (st := []) hf (fun _ h => oX8_readItem (q_a0 := q_a0) (q_a0_letters := q_a0_letters) (q_a1 := q_a1) (q_a1_slow := q_a1_slow) (q_a1_ways := q_a1_ways) (v_a0_length := v_a0_length) (v_a0_place := o19.1) (v_a0_at := o19.2.1) (v_a0_token := o19.2.2.1) (v_a0_number := o19.2.2.2) (m_a0_letters := m_a0_letters) (v_a1_villages := v_a1_villages) (v_a1_deaf := v_a1_deaf) (v_a1_reach := v_a1_reach) (v_a1_start := v_a1_start) (v_a1_reachTold := v_a1_reachTold) (v_a1_startTold := v_a1_startTold) (m_a1_slow := m_a1_slow) (m_a1_ways := m_a1_ways) h) lkV_X8_30 dX8_readInto_34 hX rfl ⟨rfl, rfl⟩ ⟨rfl, rfl⟩ rfl rfl rfl rfl rfl [0, 1, 2, 3, 4] [] [0, 1, 2, 3, 4] rfl rfl rfl rfl rfl (fun _ => rfl) rfl (fun o34 hf => ?_)
      refine V.if_ne (pc := 37) (tgt := 42) dX8_readInto_37 (by decide) hf (fun hf => ?_) (fun hf => ?_)
      · refine V.iinc (pc := 42) (v := 1) dX8_readInto_42 rfl rfl (by decide) rfl ?_
        refine V.goto (pc := 45) (tgt := 11) dX8_readInto_45 (by decide) ?_
        exact hB11 _ _ _ _ _ _ _ _ _ _ _ _ _ hf
      · refine V.mask (pc := 40) [false, false, false] rfl rfl ?_
        exact hK11_40 _ _ _ _ _ _ _ _ _ _ _ _ hf
    · refine V.mask (pc := 30) [false, false, true] rfl rfl ?_
      exact hK11_30 _ _ _ _ _ _ _ _ _ _ _ _ _ hf
theorem tX8_readInto_L11 {out : Int32 × Int32 × Int32 × Int32 × Int32 × Int32 × Int32 × Int32 × Int32 × Int32 × Int32 × (Nat → Int32) × (Nat → Int32)} (hX : xk X = kX8_readInto) (hQ : xQ X = qE (some (.int out.1)) (wX8_readInto (xG X) q_a0 q_a0_letters q_a1 q_a1_slow q_a1_ways v_a0_length out.2.1 out.2.2.1 out.2.2.2.1 out.2.2.2.2.1 m_a0_letters out.2.2.2.2.2.1 out.2.2.2.2.2.2.1 out.2.2.2.2.2.2.2.1 out.2.2.2.2.2.2.2.2.1 out.2.2.2.2.2.2.2.2.2.1 out.2.2.2.2.2.2.2.2.2.2.1 out.2.2.2.2.2.2.2.2.2.2.2.1 out.2.2.2.2.2.2.2.2.2.2.2.2)) {K11_30 : Int32 → Int32 → Int32 → Int32 → Int32 → Int32 → Int32 → Int32 → Int32 → Int32 → Int32 → (Nat → Int32) → (Nat → Int32) → Option (Int32 × Int32 × Int32 × Int32 × Int32 × Int32 × Int32 × Int32 × Int32 × Int32 × Int32 × (Nat → Int32) × (Nat → Int32))} {K11_40 : Int32 → Int32 → Int32 → Int32 → Int32 → Int32 → Int32 → Int32 → Int32 → Int32 → (Nat → Int32) → (Nat → Int32) → Option (Int32 × Int32 × Int32 × Int32 × Int32 × Int32 × Int32 × Int32 × Int32 × Int32 × Int32 × (Nat → Int32) × (Nat → Int32))} {K11_48 : Int32 → Int32 → Int32 → Int32 → Int32 → Int32 → Int32 → Int32 → Int32 → Int32 → (Nat → Int32) → (Nat → Int32) → Option (Int32 × Int32 × Int32 × Int32 × Int32 × Int32 × Int32 × Int32 × Int32 × Int32 × Int32 × (Nat → Int32) × (Nat → Int32))} (hK11_30 : ∀ (l2 : Int32) (v_a0_place : Int32) (v_a0_at : Int32) (v_a0_token : Int32) (v_a0_number : Int32) (v_a1_villages : Int32) (v_a1_deaf : Int32) (v_a1_reach : Int32) (v_a1_start : Int32) (v_a1_reachTold : Int32) (v_a1_startTold : Int32) (m_a1_slow : Nat → Int32) (m_a1_ways : Nat → Int32), K11_30 l2 v_a0_place v_a0_at v_a0_token v_a0_number v_a1_villages v_a1_deaf v_a1_reach v_a1_start v_a1_reachTold v_a1_startTold m_a1_slow m_a1_ways = some out → V X cX8_readInto "FarDrum$Text" 0 0 (wX8_readInto (xG X) q_a0 q_a0_letters q_a1 q_a1_slow q_a1_ways v_a0_length v_a0_place v_a0_at v_a0_token v_a0_number m_a0_letters v_a1_villages v_a1_deaf v_a1_reach v_a1_start v_a1_reachTold v_a1_startTold m_a1_slow m_a1_ways) [none, none, some (.int l2)] 30 []) (hK11_40 : ∀ (v_a0_place : Int32) (v_a0_at : Int32) (v_a0_token : Int32) (v_a0_number : Int32) (v_a1_villages : Int32) (v_a1_deaf : Int32) (v_a1_reach : Int32) (v_a1_start : Int32) (v_a1_reachTold : Int32) (v_a1_startTold : Int32) (m_a1_slow : Nat → Int32) (m_a1_ways : Nat → Int32), K11_40 v_a0_place v_a0_at v_a0_token v_a0_number v_a1_villages v_a1_deaf v_a1_reach v_a1_start v_a1_reachTold v_a1_startTold m_a1_slow m_a1_ways = some out → V X cX8_readInto "FarDrum$Text" 0 0 (wX8_readInto (xG X) q_a0 q_a0_letters q_a1 q_a1_slow q_a1_ways v_a0_length v_a0_place v_a0_at v_a0_token v_a0_number m_a0_letters v_a1_villages v_a1_deaf v_a1_reach v_a1_start v_a1_reachTold v_a1_startTold m_a1_slow m_a1_ways) [none, none, none] 40 []) (hK11_48 : ∀ (v_a0_place : Int32) (v_a0_at : Int32) (v_a0_token : Int32) (v_a0_number : Int32) (v_a1_villages : Int32) (v_a1_deaf : Int32) (v_a1_reach : Int32) (v_a1_start : Int32) (v_a1_reachTold : Int32) (v_a1_startTold : Int32) (m_a1_slow : Nat → Int32) (m_a1_ways : Nat → Int32), K11_48 v_a0_place v_a0_at v_a0_token v_a0_number v_a1_villages v_a1_deaf v_a1_reach v_a1_start v_a1_reachTold v_a1_startTold m_a1_slow m_a1_ways = some out → V X cX8_readInto "FarDrum$Text" 0 0 (wX8_readInto (xG X) q_a0 q_a0_letters q_a1 q_a1_slow q_a1_ways v_a0_length v_a0_place v_a0_at v_a0_token v_a0_number m_a0_letters v_a1_villages v_a1_deaf v_a1_reach v_a1_start v_a1_reachTold v_a1_startTold m_a1_slow m_a1_ways) [none, none, none] 48 []) : ∀ (n : Nat) (l2 : Int32) (v_a0_place : Int32) (v_a0_at : Int32) (v_a0_token : Int32) (v_a0_number : Int32) (v_a1_villages : Int32) (v_a1_deaf : Int32) (v_a1_reach : Int32) (v_a1_start : Int32) (v_a1_reachTold : Int32) (v_a1_startTold : Int32) (m_a1_slow : Nat → Int32) (m_a1_ways : Nat → Int32), fX8_readInto_L11 N v_a0_length m_a0_letters K11_30 K11_40 K11_48 n l2 v_a0_place v_a0_at v_a0_token v_a0_number v_a1_villages v_a1_deaf v_a1_reach v_a1_start v_a1_reachTold v_a1_startTold m_a1_slow m_a1_ways = some out → V X cX8_readInto "FarDrum$Text" 0 0 (wX8_readInto (xG X) q_a0 q_a0_letters q_a1 q_a1_slow q_a1_ways v_a0_length v_a0_place v_a0_at v_a0_token v_a0_number m_a0_letters v_a1_villages v_a1_deaf v_a1_reach v_a1_start v_a1_reachTold v_a1_startTold m_a1_slow m_a1_ways) [some (.ref q_a0), some (.ref q_a1), some (.int l2)] 11 [] := by
  intro n
  induction n with
  | zero => intro l2 v_a0_place v_a0_at v_a0_token v_a0_number v_a1_villages v_a1_deaf v_a1_reach v_a1_start v_a1_reachTold v_a1_startTold m_a1_slow m_a1_ways hf; cases hf
  | succ n ih => intro l2 v_a0_place v_a0_at v_a0_token v_a0_number v_a1_villages v_a1_deaf v_a1_reach v_a1_start v_a1_reachTold v_a1_startTold m_a1_slow m_a1_ways hf; exact tX8_readInto_11 hX hQ ih hK11_30 hK11_40 hK11_48 hf
set_option maxRecDepth 20000 in
theorem tX8_readInto_0 {out : Int32 × Int32 × Int32 × Int32 × Int32 × Int32 × Int32 × Int32 × Int32 × Int32 × Int32 × (Nat → Int32) × (Nat → Int32)} (hX : xk X = kX8_readInto) (hQ : xQ X = qE (some (.int out.1)) (wX8_readInto (xG X) q_a0 q_a0_letters q_a1 q_a1_slow q_a1_ways v_a0_length out.2.1 out.2.2.1 out.2.2.2.1 out.2.2.2.2.1 m_a0_letters out.2.2.2.2.2.1 out.2.2.2.2.2.2.1 out.2.2.2.2.2.2.2.1 out.2.2.2.2.2.2.2.2.1 out.2.2.2.2.2.2.2.2.2.1 out.2.2.2.2.2.2.2.2.2.2.1 out.2.2.2.2.2.2.2.2.2.2.2.1 out.2.2.2.2.2.2.2.2.2.2.2.2)) (hf : fX8_readInto N v_a0_length v_a0_place v_a0_token v_a0_number m_a0_letters m_a1_slow m_a1_ways = some out) : V X cX8_readInto "FarDrum$Text" 0 0 (wX8_readInto (xG X) q_a0 q_a0_letters q_a1 q_a1_slow q_a1_ways v_a0_length v_a0_place v_a0_at v_a0_token v_a0_number m_a0_letters v_a1_villages v_a1_deaf v_a1_reach v_a1_start v_a1_reachTold v_a1_startTold m_a1_slow m_a1_ways) [some (.ref q_a0), some (.ref q_a1), none] 0 [] := by
  unfold fX8_readInto at hf
  refine V.aloadn (pc := 0) dX8_readInto_0 rfl ?_
  refine V.callVv (pc := 1) (q := 2) (wr := [(q_a0, .inr (8, [.ref q_a0_letters, .int v_a0_length, .int v_a0_place, .int v_a0_at, .int v_a0_token, .int v_a0_number])), (q_a0_letters, .inl ((xG X).2 1, 200, .inl m_a0_letters))]) (wd' := fun o1 => wX8_readInto (xG X) q_a0 q_a0_letters q_a1 q_a1_slow q_a1_ways v_a0_length v_a0_place v_a0_at v_a0_token v_a0_number m_a0_letters o1.1 o1.2.1 o1.2.2.1 o1.2.2.2.1 o1.2.2.2.2.1 o1.2.2.2.2.2.1 o1.2.2.2.2.2.2.1 o1.2.2.2.2.2.2.2) [] (st := []) hf (fun _ h => oX9_empty (q_a0 := q_a1) (q_a0_slow := q_a1_slow) (q_a0_ways := q_a1_ways) (v_a0_villages := v_a1_villages) (v_a0_deaf := v_a1_deaf) (v_a0_reach := v_a1_reach) (v_a0_start := v_a1_start) (v_a0_reachTold := v_a1_reachTold) (v_a0_startTold := v_a1_startTold) (m_a0_slow := m_a1_slow) (m_a0_ways := m_a1_ways) h) lkV_X8_15 dX8_readInto_1 hX rfl ⟨rfl, rfl⟩ ⟨rfl, rfl⟩ rfl rfl rfl rfl rfl [2, 3, 4] [0, 1] [0, 1, 2, 3, 4] rfl rfl rfl rfl rfl (fun _ => rfl) rfl (fun o1 hf => ?_)
  refine V.aloadn (pc := 4) dX8_readInto_4 rfl ?_
  refine V.iconst (pc := 5) (v := 0) dX8_readInto_5 (by decide) ?_
  refine V.putf (q := 0) (wd' := wX8_readInto (xG X) q_a0 q_a0_letters q_a1 q_a1_slow q_a1_ways v_a0_length v_a0_place (0 : Int32) v_a0_token v_a0_number m_a0_letters o1.1 o1.2.1 o1.2.2.1 o1.2.2.2.1 o1.2.2.2.2.1 o1.2.2.2.2.2.1 o1.2.2.2.2.2.2.1 o1.2.2.2.2.2.2.2) (pc := 6) dX8_readInto_6 pk_X8_20_8 rfl rfl rfl rfl rfl ?_
  refine V.iconst (pc := 9) (v := 0) dX8_readInto_9 (by decide) ?_
  refine V.istoren (pc := 10) dX8_readInto_10 rfl rfl rfl ?_
  refine tX8_readInto_L11 hX hQ ?_ ?_ ?_ _ _ _ _ _ _ _ _ _ _ _ _ _ _ hf
  · intro l2k11_30 v_a0_placek11_30 v_a0_atk11_30 v_a0_tokenk11_30 v_a0_numberk11_30 v_a1_villagesk11_30 v_a1_deafk11_30 v_a1_reachk11_30 v_a1_startk11_30 v_a1_reachToldk11_30 v_a1_startToldk11_30 m_a1_slowk11_30 m_a1_waysk11_30 hf
    refine V.iloadn (pc := 30) dX8_readInto_30 rfl ?_
    exact V.iretE (pc := 31) hX kX8_readInto_r hQ dX8_readInto_31 (by cases hf; rfl) (by cases hf; rfl)
  · intro v_a0_placek11_40 v_a0_atk11_40 v_a0_tokenk11_40 v_a0_numberk11_40 v_a1_villagesk11_40 v_a1_deafk11_40 v_a1_reachk11_40 v_a1_startk11_40 v_a1_reachToldk11_40 v_a1_startToldk11_40 m_a1_slowk11_40 m_a1_waysk11_40 hf
    refine V.iconst (pc := 40) (v := -1) dX8_readInto_40 (by decide) ?_
    exact V.iretE (pc := 41) hX kX8_readInto_r hQ dX8_readInto_41 (by cases hf; rfl) (by cases hf; rfl)
  · intro v_a0_placek11_48 v_a0_atk11_48 v_a0_tokenk11_48 v_a0_numberk11_48 v_a1_villagesk11_48 v_a1_deafk11_48 v_a1_reachk11_48 v_a1_startk11_48 v_a1_reachToldk11_48 v_a1_startToldk11_48 m_a1_slowk11_48 m_a1_waysk11_48 hf
    refine V.iconst (pc := 48) (v := -1) dX8_readInto_48 (by decide) ?_
    exact V.iretE (pc := 49) hX kX8_readInto_r hQ dX8_readInto_49 (by cases hf; rfl) (by cases hf; rfl)
end
theorem oX8_readInto {l : Launch} {G : GT} {N : Nat} {q_a0 : Nat} {q_a0_letters : Nat} {q_a1 : Nat} {q_a1_slow : Nat} {q_a1_ways : Nat} {v_a0_length : Int32} {v_a0_place : Int32} {v_a0_at : Int32} {v_a0_token : Int32} {v_a0_number : Int32} {m_a0_letters : Nat → Int32} {v_a1_villages : Int32} {v_a1_deaf : Int32} {v_a1_reach : Int32} {v_a1_start : Int32} {v_a1_reachTold : Int32} {v_a1_startTold : Int32} {m_a1_slow : Nat → Int32} {m_a1_ways : Nat → Int32} {out : Int32 × Int32 × Int32 × Int32 × Int32 × Int32 × Int32 × Int32 × Int32 × Int32 × Int32 × (Nat → Int32) × (Nat → Int32)} (hf : fX8_readInto N v_a0_length v_a0_place v_a0_token v_a0_number m_a0_letters m_a1_slow m_a1_ways = some out) : Ct (l, G, kX8_readInto, wX8_readInto G q_a0 q_a0_letters q_a1 q_a1_slow q_a1_ways v_a0_length v_a0_place v_a0_at v_a0_token v_a0_number m_a0_letters v_a1_villages v_a1_deaf v_a1_reach v_a1_start v_a1_reachTold v_a1_startTold m_a1_slow m_a1_ways, [.ref q_a0, .ref q_a1], qE (some (.int out.1)) (wX8_readInto G q_a0 q_a0_letters q_a1 q_a1_slow q_a1_ways v_a0_length out.2.1 out.2.2.1 out.2.2.2.1 out.2.2.2.2.1 m_a0_letters out.2.2.2.2.2.1 out.2.2.2.2.2.2.1 out.2.2.2.2.2.2.2.1 out.2.2.2.2.2.2.2.2.1 out.2.2.2.2.2.2.2.2.2.1 out.2.2.2.2.2.2.2.2.2.2.1 out.2.2.2.2.2.2.2.2.2.2.2.1 out.2.2.2.2.2.2.2.2.2.2.2.2)) :=
  Ct.of [some (.ref q_a0), some (.ref q_a1), none] kX8_readInto_p rfl rfl rfl ((tX8_readInto_0 (X := (l, G, kX8_readInto, wX8_readInto G q_a0 q_a0_letters q_a1 q_a1_slow q_a1_ways v_a0_length v_a0_place v_a0_at v_a0_token v_a0_number m_a0_letters v_a1_villages v_a1_deaf v_a1_reach v_a1_start v_a1_reachTold v_a1_startTold m_a1_slow m_a1_ways, [.ref q_a0, .ref q_a1], qE (some (.int out.1)) (wX8_readInto G q_a0 q_a0_letters q_a1 q_a1_slow q_a1_ways v_a0_length out.2.1 out.2.2.1 out.2.2.2.1 out.2.2.2.2.1 m_a0_letters out.2.2.2.2.2.1 out.2.2.2.2.2.2.1 out.2.2.2.2.2.2.2.1 out.2.2.2.2.2.2.2.2.1 out.2.2.2.2.2.2.2.2.2.1 out.2.2.2.2.2.2.2.2.2.2.1 out.2.2.2.2.2.2.2.2.2.2.2.1 out.2.2.2.2.2.2.2.2.2.2.2.2))) rfl rfl hf))
