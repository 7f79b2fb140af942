def wX12_in (G : GT)  : va_W := []
def kX12_in : KT := (yX12_in, cX12_in, 3, (some .boolean), 0, 0, 0)
theorem kX12_in_r : kr kX12_in = (some .boolean) ∧ kmc kX12_in = 0 ∧ kms kX12_in = 0 := ⟨rfl, rfl, rfl⟩
theorem kX12_in_p : plainName (ky kX12_in).cls = true := by decide +kernel
def fX12_in_15 (s0 : Int32) : Option (Int32) :=
  bz s0 <| 
  some s0
def fX12_in_14 : Option (Int32) :=
  fX12_in_15 (0 : Int32)
def fX12_in (l0 : Int32) (l1 : Int32) (l2 : Int32) : Option (Int32) :=
  if l0 < l1 then (fX12_in_14)
  else (if l2 < l0 then (fX12_in_14)
  else (fX12_in_15 (1 : Int32)))
section
variable {X : XT} {N : Nat} {l0 : Int32} {l1 : Int32} {l2 : Int32} {s0 : Int32}
set_option maxRecDepth 20000 in
theorem tX12_in_15 {out : Int32} (hX : xk X = kX12_in) (hQ : xQ X = qE (some (.int out)) (wX12_in (xG X))) (hf : fX12_in_15 s0 = some out) : V X cX12_in "FarDrumModel" 0 0 (wX12_in (xG X)) [none, none, none] 15 [.int s0] := by
  unfold fX12_in_15 at hf
  obtain ⟨hz, hf⟩ := bz_ok hf
  exact V.zretE (pc := 15) hX kX12_in_r hQ hz dX12_in_15 (by cases hf; rfl) (by cases hf; rfl)
set_option maxRecDepth 20000 in
theorem tX12_in_14 {out : Int32} (hX : xk X = kX12_in) (hQ : xQ X = qE (some (.int out)) (wX12_in (xG X))) (hf : fX12_in_14 = some out) : V X cX12_in "FarDrumModel" 0 0 (wX12_in (xG X)) [none, none, none] 14 [] := by
  unfold fX12_in_14 at hf
  refine V.iconst (pc := 14) (v := 0) dX12_in_14 (by decide) ?_
  exact tX12_in_15 hX hQ hf
set_option maxRecDepth 20000 in
theorem tX12_in_0 {out : Int32} (hX : xk X = kX12_in) (hQ : xQ X = qE (some (.int out)) (wX12_in (xG X))) (hf : fX12_in l0 l1 l2 = some out) : V X cX12_in "FarDrumModel" 0 0 (wX12_in (xG X)) [some (.int l0), some (.int l1), some (.int l2)] 0 [] := by
  unfold fX12_in at hf
  refine V.iloadn (pc := 0) dX12_in_0 rfl ?_
  refine V.iloadn (pc := 1) dX12_in_1 rfl ?_
  refine V.icmp_lt (pc := 2) (tgt := 14) dX12_in_2 (by decide) hf (fun hf => ?_) (fun hf => ?_)
  · refine V.mask (pc := 14) [false, false, false] rfl rfl ?_
    exact tX12_in_14 hX hQ hf
  · refine V.iloadn (pc := 5) dX12_in_5 rfl ?_
    refine V.iloadn (pc := 6) dX12_in_6 rfl ?_
    refine V.icmp_gt (pc := 7) (tgt := 14) dX12_in_7 (by decide) hf (fun hf => ?_) (fun hf => ?_)
    · refine V.mask (pc := 14) [false, false, false] rfl rfl ?_
      exact tX12_in_14 hX hQ hf
    · refine V.iconst (pc := 10) (v := 1) dX12_in_10 (by decide) ?_
      refine V.goto (pc := 11) (tgt := 15) dX12_in_11 (by decide) ?_
      refine V.mask (pc := 15) [false, false, false] rfl rfl ?_
      exact tX12_in_15 hX hQ hf
end
theorem oX12_in {l : Launch} {G : GT}  {l0 : Int32} {l1 : Int32} {l2 : Int32} {out : Int32} (hf : fX12_in l0 l1 l2 = some out) : Ct (l, G, kX12_in, wX12_in G, [.int l0, .int l1, .int l2], qE (some (.int out)) (wX12_in G)) :=
  Ct.of [some (.int l0), some (.int l1), some (.int l2)] kX12_in_p rfl rfl rfl ((tX12_in_0 (X := (l, G, kX12_in, wX12_in G, [.int l0, .int l1, .int l2], qE (some (.int out)) (wX12_in G))) rfl rfl hf))

theorem inX12 : ∀ w ∈ u_ws RX12 TX12 29, w ∈ gt := lays_in (fun k hk => match k, hk with | 0, _ => kw_4_37 | 1, _ => kw_4_39 | 2, _ => kw_4_41 | 3, _ => kw_4_43 | 4, _ => kw_4_45 | 5, _ => kw_4_47 | 6, _ => kw_4_49 | 7, _ => kw_4_51 | 8, _ => kw_4_53 | 9, _ => kw_4_55 | 10, _ => kw_4_57 | 11, _ => kw_4_59 | 12, _ => kw_4_61 | 13, _ => kw_4_63 | 14, _ => kw_4_65 | 15, _ => kw_4_67 | 16, _ => kw_4_69 | 17, _ => kw_4_71 | 18, _ => kw_4_73 | 19, _ => kw_4_75 | 20, _ => kw_4_77 | 21, _ => kw_4_79 | 22, _ => kw_4_81 | 23, _ => kw_4_83 | 24, _ => kw_4_85 | 25, _ => kw_4_87 | 26, _ => kw_4_89 | 27, _ => kw_4_91 | 28, _ => kw_4_93 | k + 29, hk => absurd hk (by omega))
theorem fk_X12_22_12 : Fk "FarDrumModel" 22 12 12 := ⟨RX12, TX12, 29, "FarDrumModel", rfl, inX12, by decide, kw_4_20, Or.inl rfl⟩
theorem fk_X12_13_12 : Fk "FarDrumModel" 13 12 9 := ⟨RX12, TX12, 29, "FarDrumModel", rfl, inX12, by decide, kw_4_17, Or.inl rfl⟩
def wX12_hearsIn (G : GT) (q_a0 : Nat) (q_a0_lengths : Nat) (q_a0_many : Nat) (q_a1 : Nat) (u_a0_thrown : Value) (u_a0_trace : Value) (u_a0_text : Value) (u_a0_typed : Value) (u_a0_next : Value) (u_a0_token : Value) (u_a0_place : Value) (u_a0_value : Value) (u_a0_fault : Value) (u_a0_slow : Value) (u_a0_deaf : Value) (u_a0_told : Value) (u_a0_s : Value) (u_a0_w : Value) (u_a0_kept : Value) (u_a0_isKept : Value) (u_a0_undos : Value) (u_a0_undoMany : Value) (u_a0_heardBy : Value) (u_a0_heardAt : Value) (u_a0_heardMany : Value) (u_a0_tellsAt : Value) (u_a0_tellMany : Value) (u_a0_metAt : Value) (u_a0_metBeat : Value) (u_a0_round : Value) (u_a0_z : Value) (m_a0_lengths : Nat → Int32) (m_a0_many : Nat → Int32) (m_a1 : Nat → Int32) : va_W := [(q_a0, .inr (12, [u_a0_thrown, u_a0_trace, u_a0_text, u_a0_typed, u_a0_next, u_a0_token, u_a0_place, u_a0_value, u_a0_fault, .ref q_a0_many, u_a0_slow, u_a0_deaf, .ref q_a0_lengths, u_a0_told, u_a0_s, u_a0_w, u_a0_kept, u_a0_isKept, u_a0_undos, u_a0_undoMany, u_a0_heardBy, u_a0_heardAt, u_a0_heardMany, u_a0_tellsAt, u_a0_tellMany, u_a0_metAt, u_a0_metBeat, u_a0_round, u_a0_z])), (q_a0_lengths, .inl (G.2 0, 72, .inl m_a0_lengths)), (q_a0_many, .inl (G.2 0, 6, .inl m_a0_many)), (q_a1, .inl (G.2 0, 35, .inl m_a1))]
def kX12_hearsIn : KT := (yX12_hearsIn, cX12_hearsIn, 7, (some .int), 0, 0, 0)
theorem kX12_hearsIn_r : kr kX12_hearsIn = (some .int) ∧ kmc kX12_hearsIn = 0 ∧ kms kX12_hearsIn = 0 := ⟨rfl, rfl, rfl⟩
theorem kX12_hearsIn_p : plainName (ky kX12_hearsIn).cls = true := by decide +kernel
def fX12_hearsIn_15 : Option (Int32) :=
  some (-9 : Int32)
def fX12_hearsIn_132 (B65 : Int32 → Int32 → Option (Int32)) (l4 : Int32) (l5 : Int32) : Option (Int32) :=
  B65 l4 (l5 + (1 : Int32))
def fX12_hearsIn_130 (B65 : Int32 → Int32 → Option (Int32)) (l5 : Int32) (s0 : Int32) : Option (Int32) :=
  fX12_hearsIn_132 B65 s0 l5
def fX12_hearsIn_119 (B65 : Int32 → Int32 → Option (Int32)) (l5 : Int32) (l6 : Int32) (m_a1 : Nat → Int32) : Option (Int32) :=
  rdi 35 m_a1 (l6 + (2 : Int32)) fun x124 =>
  fX12_hearsIn_130 B65 l5 x124
def fX12_hearsIn_65 (B65 : Int32 → Int32 → Option (Int32)) (K65_138 : Int32 → Option (Int32)) (l2 : Int32) (l3 : Int32) (l4 : Int32) (l5 : Int32) (m_a1 : Nat → Int32) : Option (Int32) :=
  if (m_a1 16) ≤ l5 then (K65_138 l4)
  else (lti ((17 : Int32) + ((3 : Int32) * l5)) fun y81 =>
  rdi 35 m_a1 y81 fun x86 =>
  if x86 = l3 then (rdi 35 m_a1 (y81 + (1 : Int32)) fun x96 =>
  if x96 = l2 then (if l4 = (-9 : Int32) then (fX12_hearsIn_119 B65 l5 y81 m_a1)
  else (rdi 35 m_a1 (y81 + (2 : Int32)) fun x113 =>
  if l4 ≤ x113 then (fX12_hearsIn_130 B65 l5 l4)
  else (fX12_hearsIn_119 B65 l5 y81 m_a1)))
  else (fX12_hearsIn_132 B65 l4 l5))
  else (fX12_hearsIn_132 B65 l4 l5))
def fX12_hearsIn_L65 (l2 : Int32) (l3 : Int32) (m_a1 : Nat → Int32) (K65_138 : Int32 → Option (Int32)) : Nat → Int32 → Int32 → Option (Int32)
  | 0, _, _ => none
  | n + 1, l4, l5 => fX12_hearsIn_65 (fX12_hearsIn_L65 l2 l3 m_a1 K65_138 n) K65_138 l2 l3 l4 l5 m_a1
def fX12_hearsIn_60 (N : Nat) (l2 : Int32) (l3 : Int32) (s0 : Int32) (m_a1 : Nat → Int32) : Option (Int32) :=
  fX12_hearsIn_L65 l2 l3 m_a1
      (fun l4k65_138 => some l4k65_138) N s0 (0 : Int32)
def fX12_hearsIn_53 (N : Nat) (l2 : Int32) (l3 : Int32) (m_a1 : Nat → Int32) : Option (Int32) :=
  fX12_hearsIn_60 N l2 l3 (-9 : Int32) m_a1
def fX12_hearsIn (N : Nat) (l2 : Int32) (l3 : Int32) (m_a0_lengths : Nat → Int32) (m_a0_many : Nat → Int32) (m_a1 : Nat → Int32) : Option (Int32) :=
  if l2 = l3 then (fX12_hearsIn_15)
  else (rdi 35 m_a1 ((10 : Int32) + l2) fun x10 =>
  if x10 = (1 : Int32) then (fX12_hearsIn_15)
  else (rdi 72 m_a0_lengths (((6 : Int32) * l2) + l3) fun x28 =>
  lti (x28 * ((1 : Int32) + (m_a1 3))) fun y35 =>
  if y35 = 0 then (fX12_hearsIn_53 N l2 l3 m_a1)
  else (if y35 ≤ (m_a0_many 1) then (fX12_hearsIn_60 N l2 l3 y35 m_a1)
  else (fX12_hearsIn_53 N l2 l3 m_a1))))
section
variable {X : XT} {N : Nat} {q_a0 : Nat} {q_a0_lengths : Nat} {q_a0_many : Nat} {q_a1 : Nat} {u_a0_thrown : Value} {u_a0_trace : Value} {u_a0_text : Value} {u_a0_typed : Value} {u_a0_next : Value} {u_a0_token : Value} {u_a0_place : Value} {u_a0_value : Value} {u_a0_fault : Value} {u_a0_slow : Value} {u_a0_deaf : Value} {u_a0_told : Value} {u_a0_s : Value} {u_a0_w : Value} {u_a0_kept : Value} {u_a0_isKept : Value} {u_a0_undos : Value} {u_a0_undoMany : Value} {u_a0_heardBy : Value} {u_a0_heardAt : Value} {u_a0_heardMany : Value} {u_a0_tellsAt : Value} {u_a0_tellMany : Value} {u_a0_metAt : Value} {u_a0_metBeat : Value} {u_a0_round : Value} {u_a0_z : Value} {m_a0_lengths : Nat → Int32} {m_a0_many : Nat → Int32} {m_a1 : Nat → Int32} {l2 : Int32} {l3 : Int32} {s0 : Int32} {l4 : Int32} {l5 : Int32} {l6 : Int32}
set_option maxRecDepth 20000 in
theorem tX12_hearsIn_15 {out : Int32} (hX : xk X = kX12_hearsIn) (hQ : xQ X = qE (some (.int out)) (wX12_hearsIn (xG X) q_a0 q_a0_lengths q_a0_many q_a1 u_a0_thrown u_a0_trace u_a0_text u_a0_typed u_a0_next u_a0_token u_a0_place u_a0_value u_a0_fault u_a0_slow u_a0_deaf u_a0_told u_a0_s u_a0_w u_a0_kept u_a0_isKept u_a0_undos u_a0_undoMany u_a0_heardBy u_a0_heardAt u_a0_heardMany u_a0_tellsAt u_a0_tellMany u_a0_metAt u_a0_metBeat u_a0_round u_a0_z m_a0_lengths m_a0_many m_a1)) (hf : fX12_hearsIn_15 = some out) : V X cX12_hearsIn "FarDrumModel" 0 0 (wX12_hearsIn (xG X) q_a0 q_a0_lengths q_a0_many q_a1 u_a0_thrown u_a0_trace u_a0_text u_a0_typed u_a0_next u_a0_token u_a0_place u_a0_value u_a0_fault u_a0_slow u_a0_deaf u_a0_told u_a0_s u_a0_w u_a0_kept u_a0_isKept u_a0_undos u_a0_undoMany u_a0_heardBy u_a0_heardAt u_a0_heardMany u_a0_tellsAt u_a0_tellMany u_a0_metAt u_a0_metBeat u_a0_round u_a0_z m_a0_lengths m_a0_many m_a1) [none, none, none, none, none, none, none] 15 [] := by
  unfold fX12_hearsIn_15 at hf
  refine V.bipush (pc := 15) (v := -9) dX12_hearsIn_15 (by decide) ?_
  exact V.iretE (pc := 17) hX kX12_hearsIn_r hQ dX12_hearsIn_17 (by cases hf; rfl) (by cases hf; rfl)
set_option maxRecDepth 20000 in
theorem tX12_hearsIn_132 {out : Int32} (hX : xk X = kX12_hearsIn) (hQ : xQ X = qE (some (.int out)) (wX12_hearsIn (xG X) q_a0 q_a0_lengths q_a0_many q_a1 u_a0_thrown u_a0_trace u_a0_text u_a0_typed u_a0_next u_a0_token u_a0_place u_a0_value u_a0_fault u_a0_slow u_a0_deaf u_a0_told u_a0_s u_a0_w u_a0_kept u_a0_isKept u_a0_undos u_a0_undoMany u_a0_heardBy u_a0_heardAt u_a0_heardMany u_a0_tellsAt u_a0_tellMany u_a0_metAt u_a0_metBeat u_a0_round u_a0_z m_a0_lengths m_a0_many m_a1)) {B65 : Int32 → Int32 → Option (Int32)} (hB65 : ∀ (l4 : Int32) (l5 : Int32), B65 l4 l5 = some out → V X cX12_hearsIn "FarDrumModel" 0 0 (wX12_hearsIn (xG X) q_a0 q_a0_lengths q_a0_many q_a1 u_a0_thrown u_a0_trace u_a0_text u_a0_typed u_a0_next u_a0_token u_a0_place u_a0_value u_a0_fault u_a0_slow u_a0_deaf u_a0_told u_a0_s u_a0_w u_a0_kept u_a0_isKept u_a0_undos u_a0_undoMany u_a0_heardBy u_a0_heardAt u_a0_heardMany u_a0_tellsAt u_a0_tellMany u_a0_metAt u_a0_metBeat u_a0_round u_a0_z m_a0_lengths m_a0_many m_a1) [none, some (.ref q_a1), some (.int l2), some (.int l3), some (.int l4), some (.int l5), none] 65 []) (hf : fX12_hearsIn_132 B65 l4 l5 = some out) : V X cX12_hearsIn "FarDrumModel" 0 0 (wX12_hearsIn (xG X) q_a0 q_a0_lengths q_a0_many q_a1 u_a0_thrown u_a0_trace u_a0_text u_a0_typed u_a0_next u_a0_token u_a0_place u_a0_value u_a0_fault u_a0_slow u_a0_deaf u_a0_told u_a0_s u_a0_w u_a0_kept u_a0_isKept u_a0_undos u_a0_undoMany u_a0_heardBy u_a0_heardAt u_a0_heardMany u_a0_tellsAt u_a0_tellMany u_a0_metAt u_a0_metBeat u_a0_round u_a0_z m_a0_lengths m_a0_many m_a1) [none, some (.ref q_a1), some (.int l2), some (.int l3), some (.int l4), some (.int l5), none] 132 [] := by
  unfold fX12_hearsIn_132 at hf
  refine V.iinc (pc := 132) (v := 1) dX12_hearsIn_132 rfl rfl (by decide) rfl ?_
  refine V.goto (pc := 135) (tgt := 65) dX12_hearsIn_135 (by decide) ?_
  exact hB65 _ _ hf
set_option maxRecDepth 20000 in
theorem tX12_hearsIn_130 {out : Int32} (hX : xk X = kX12_hearsIn) (hQ : xQ X = qE (some (.int out)) (wX12_hearsIn (xG X) q_a0 q_a0_lengths q_a0_many q_a1 u_a0_thrown u_a0_trace u_a0_text u_a0_typed u_a0_next u_a0_token u_a0_place u_a0_value u_a0_fault u_a0_slow u_a0_deaf u_a0_told u_a0_s u_a0_w u_a0_kept u_a0_isKept u_a0_undos u_a0_undoMany u_a0_heardBy u_a0_heardAt u_a0_heardMany u_a0_tellsAt u_a0_tellMany u_a0_metAt u_a0_metBeat u_a0_round u_a0_z m_a0_lengths m_a0_many m_a1)) {B65 : Int32 → Int32 → Option (Int32)} (hB65 : ∀ (l4 : Int32) (l5 : Int32), B65 l4 l5 = some out → V X cX12_hearsIn "FarDrumModel" 0 0 (wX12_hearsIn (xG X) q_a0 q_a0_lengths q_a0_many q_a1 u_a0_thrown u_a0_trace u_a0_text u_a0_typed u_a0_next u_a0_token u_a0_place u_a0_value u_a0_fault u_a0_slow u_a0_deaf u_a0_told u_a0_s u_a0_w u_a0_kept u_a0_isKept u_a0_undos u_a0_undoMany u_a0_heardBy u_a0_heardAt u_a0_heardMany u_a0_tellsAt u_a0_tellMany u_a0_metAt u_a0_metBeat u_a0_round u_a0_z m_a0_lengths m_a0_many m_a1) [none, some (.ref q_a1), some (.int l2), some (.int l3), some (.int l4), some (.int l5), none] 65 []) (hf : fX12_hearsIn_130 B65 l5 s0 = some out) : V X cX12_hearsIn "FarDrumModel" 0 0 (wX12_hearsIn (xG X) q_a0 q_a0_lengths q_a0_many q_a1 u_a0_thrown u_a0_trace u_a0_text u_a0_typed u_a0_next u_a0_token u_a0_place u_a0_value u_a0_fault u_a0_slow u_a0_deaf u_a0_told u_a0_s u_a0_w u_a0_kept u_a0_isKept u_a0_undos u_a0_undoMany u_a0_heardBy u_a0_heardAt u_a0_heardMany u_a0_tellsAt u_a0_tellMany u_a0_metAt u_a0_metBeat u_a0_round u_a0_z m_a0_lengths m_a0_many m_a1) [none, some (.ref q_a1), some (.int l2), some (.int l3), none, some (.int l5), none] 130 [.int s0] := by
  unfold fX12_hearsIn_130 at hf
  refine V.istore (pc := 130) dX12_hearsIn_130 rfl rfl rfl ?_
  exact tX12_hearsIn_132 hX hQ hB65 hf
set_option maxRecDepth 20000 in
theorem tX12_hearsIn_119 {out : Int32} (hX : xk X = kX12_hearsIn) (hQ : xQ X = qE (some (.int out)) (wX12_hearsIn (xG X) q_a0 q_a0_lengths q_a0_many q_a1 u_a0_thrown u_a0_trace u_a0_text u_a0_typed u_a0_next u_a0_token u_a0_place u_a0_value u_a0_fault u_a0_slow u_a0_deaf u_a0_told u_a0_s u_a0_w u_a0_kept u_a0_isKept u_a0_undos u_a0_undoMany u_a0_heardBy u_a0_heardAt u_a0_heardMany u_a0_tellsAt u_a0_tellMany u_a0_metAt u_a0_metBeat u_a0_round u_a0_z m_a0_lengths m_a0_many m_a1)) {B65 : Int32 → Int32 → Option (Int32)} (hB65 : ∀ (l4 : Int32) (l5 : Int32), B65 l4 l5 = some out → V X cX12_hearsIn "FarDrumModel" 0 0 (wX12_hearsIn (xG X) q_a0 q_a0_lengths q_a0_many q_a1 u_a0_thrown u_a0_trace u_a0_text u_a0_typed u_a0_next u_a0_token u_a0_place u_a0_value u_a0_fault u_a0_slow u_a0_deaf u_a0_told u_a0_s u_a0_w u_a0_kept u_a0_isKept u_a0_undos u_a0_undoMany u_a0_heardBy u_a0_heardAt u_a0_heardMany u_a0_tellsAt u_a0_tellMany u_a0_metAt u_a0_metBeat u_a0_round u_a0_z m_a0_lengths m_a0_many m_a1) [none, some (.ref q_a1), some (.int l2), some (.int l3), some (.int l4), some (.int l5), none] 65 []) (hf : fX12_hearsIn_119 B65 l5 l6 m_a1 = some out) : V X cX12_hearsIn "FarDrumModel" 0 0 (wX12_hearsIn (xG X) q_a0 q_a0_lengths q_a0_many q_a1 u_a0_thrown u_a0_trace u_a0_text u_a0_typed u_a0_next u_a0_token u_a0_place u_a0_value u_a0_fault u_a0_slow u_a0_deaf u_a0_told u_a0_s u_a0_w u_a0_kept u_a0_isKept u_a0_undos u_a0_undoMany u_a0_heardBy u_a0_heardAt u_a0_heardMany u_a0_tellsAt u_a0_tellMany u_a0_metAt u_a0_metBeat u_a0_round u_a0_z m_a0_lengths m_a0_many m_a1) [none, some (.ref q_a1), some (.int l2), some (.int l3), none, some (.int l5), some (.int l6)] 119 [] := by
  unfold fX12_hearsIn_119 at hf
  refine V.aloadn (pc := 119) dX12_hearsIn_119 rfl ?_
  refine V.iload (pc := 120) dX12_hearsIn_120 rfl ?_
  refine V.iconst (pc := 122) (v := 2) dX12_hearsIn_122 (by decide) ?_
  refine V.iadd (pc := 123) dX12_hearsIn_123 ?_
  refine V.iald (pc := 124) (q := 3) dX12_hearsIn_124 rfl hf (fun x124 hf => ?_)
  refine V.goto (pc := 125) (tgt := 130) dX12_hearsIn_125 (by decide) ?_
  refine V.mask (pc := 130) [false, true, true, true, false, true, false] rfl rfl ?_
  exact tX12_hearsIn_130 hX hQ hB65 hf
set_option maxRecDepth 20000 in
theorem tX12_hearsIn_65 {out : Int32} (hX : xk X = kX12_hearsIn) (hQ : xQ X = qE (some (.int out)) (wX12_hearsIn (xG X) q_a0 q_a0_lengths q_a0_many q_a1 u_a0_thrown u_a0_trace u_a0_text u_a0_typed u_a0_next u_a0_token u_a0_place u_a0_value u_a0_fault u_a0_slow u_a0_deaf u_a0_told u_a0_s u_a0_w u_a0_kept u_a0_isKept u_a0_undos u_a0_undoMany u_a0_heardBy u_a0_heardAt u_a0_heardMany u_a0_tellsAt u_a0_tellMany u_a0_metAt u_a0_metBeat u_a0_round u_a0_z m_a0_lengths m_a0_many m_a1)) {B65 : Int32 → Int32 → Option (Int32)} {K65_138 : Int32 → Option (Int32)} (hB65 : ∀ (l4 : Int32) (l5 : Int32), B65 l4 l5 = some out → V X cX12_hearsIn "FarDrumModel" 0 0 (wX12_hearsIn (xG X) q_a0 q_a0_lengths q_a0_many q_a1 u_a0_thrown u_a0_trace u_a0_text u_a0_typed u_a0_next u_a0_token u_a0_place u_a0_value u_a0_fault u_a0_slow u_a0_deaf u_a0_told u_a0_s u_a0_w u_a0_kept u_a0_isKept u_a0_undos u_a0_undoMany u_a0_heardBy u_a0_heardAt u_a0_heardMany u_a0_tellsAt u_a0_tellMany u_a0_metAt u_a0_metBeat u_a0_round u_a0_z m_a0_lengths m_a0_many m_a1) [none, some (.ref q_a1), some (.int l2), some (.int l3), some (.int l4), some (.int l5), none] 65 []) (hK65_138 : ∀ (l4 : Int32), K65_138 l4 = some out → V X cX12_hearsIn "FarDrumModel" 0 0 (wX12_hearsIn (xG X) q_a0 q_a0_lengths q_a0_many q_a1 u_a0_thrown u_a0_trace u_a0_text u_a0_typed u_a0_next u_a0_token u_a0_place u_a0_value u_a0_fault u_a0_slow u_a0_deaf u_a0_told u_a0_s u_a0_w u_a0_kept u_a0_isKept u_a0_undos u_a0_undoMany u_a0_heardBy u_a0_heardAt u_a0_heardMany u_a0_tellsAt u_a0_tellMany u_a0_metAt u_a0_metBeat u_a0_round u_a0_z m_a0_lengths m_a0_many m_a1) [none, none, none, none, some (.int l4), none, none] 138 []) (hf : fX12_hearsIn_65 B65 K65_138 l2 l3 l4 l5 m_a1 = some out) : V X cX12_hearsIn "FarDrumModel" 0 0 (wX12_hearsIn (xG X) q_a0 q_a0_lengths q_a0_many q_a1 u_a0_thrown u_a0_trace u_a0_text u_a0_typed u_a0_next u_a0_token u_a0_place u_a0_value u_a0_fault u_a0_slow u_a0_deaf u_a0_told u_a0_s u_a0_w u_a0_kept u_a0_isKept u_a0_undos u_a0_undoMany u_a0_heardBy u_a0_heardAt u_a0_heardMany u_a0_tellsAt u_a0_tellMany u_a0_metAt u_a0_metBeat u_a0_round u_a0_z m_a0_lengths m_a0_many m_a1) [none, some (.ref q_a1), some (.int l2), some (.int l3), some (.int l4), some (.int l5), none] 65 [] := by
  unfold fX12_hearsIn_65 at hf
  refine V.iload (pc := 65) dX12_hearsIn_65 rfl ?_
  refine V.aloadn (pc := 67) dX12_hearsIn_67 rfl ?_
  refine V.bipush (pc := 68) (v := 16) dX12_hearsIn_68 (by decide) ?_
  refine V.ialdC (pc := 70) (q := 3) 16 dX12_hearsIn_70 rfl ⟨vp_c (by decide), by decide⟩ ?_
  refine V.icmp_ge (pc := 71) (tgt := 138) dX12_hearsIn_71 (by decide) hf (fun hf => ?_) (fun hf => ?_)
  · refine V.mask (pc := 138) [false, false, false, false, true, false, false] rfl rfl ?_
    exact hK65_138 _ hf
  · refine V.bipush (pc := 74) (v := 17) dX12_hearsIn_74 (by decide) ?_
    refine V.iconst (pc := 76) (v := 3) dX12_hearsIn_76 (by decide) ?_
    refine V.iload (pc := 77) dX12_hearsIn_77 rfl ?_
    refine V.imul (pc := 79) dX12_hearsIn_79 ?_
    refine V.iadd (pc := 80) dX12_hearsIn_80 ?_
    refine V.topi hf (fun y81 hf => ?_)
    refine V.istore (pc := 81) dX12_hearsIn_81 rfl rfl rfl ?_
    refine V.aloadn (pc := 83) dX12_hearsIn_83 rfl ?_
    refine V.iload (pc := 84) dX12_hearsIn_84 rfl ?_
    refine V.iald (pc := 86) (q := 3) dX12_hearsIn_86 rfl hf (fun x86 hf => ?_)
    refine V.iloadn (pc := 87) dX12_hearsIn_87 rfl ?_
    refine V.icmp_ne (pc := 88) (tgt := 132) dX12_hearsIn_88 (by decide) hf (fun hf => ?_) (fun hf => ?_)
    · refine V.mask (pc := 132) [false, true, true, true, true, true, false] rfl rfl ?_
      exact tX12_hearsIn_132 hX hQ hB65 hf
    · refine V.aloadn (pc := 91) dX12_hearsIn_91 rfl ?_
      refine V.iload (pc := 92) dX12_hearsIn_92 rfl ?_
      refine V.iconst (pc := 94) (v := 1) dX12_hearsIn_94 (by decide) ?_
      refine V.iadd (pc := 95) dX12_hearsIn_95 ?_
      refine V.iald (pc := 96) (q := 3) dX12_hearsIn_96 rfl hf (fun x96 hf => ?_)
      refine V.iloadn (pc := 97) dX12_hearsIn_97 rfl ?_
      refine V.icmp_ne (pc := 98) (tgt := 132) dX12_hearsIn_98 (by decide) hf (fun hf => ?_) (fun hf => ?_)
      · refine V.mask (pc := 132) [false, true, true, true, true, true, false] rfl rfl ?_
        exact tX12_hearsIn_132 hX hQ hB65 hf
      · refine V.iload (pc := 101) dX12_hearsIn_101 rfl ?_
        refine V.bipush (pc := 103) (v := -9) dX12_hearsIn_103 (by decide) ?_
        refine V.icmp_eq (pc := 105) (tgt := 119) dX12_hearsIn_105 (by decide) hf (fun hf => ?_) (fun hf => ?_)
        · refine V.mask (pc := 119) [false, true, true, true, false, true, true] rfl rfl ?_
          exact tX12_hearsIn_119 hX hQ hB65 hf
        · refine V.aloadn (pc := 108) dX12_hearsIn_108 rfl ?_
          refine V.iload (pc := 109) dX12_hearsIn_109 rfl ?_
          refine V.iconst (pc := 111) (v := 2) dX12_hearsIn_111 (by decide) ?_
          refine V.iadd (pc := 112) dX12_hearsIn_112 ?_
          refine V.iald (pc := 113) (q := 3) dX12_hearsIn_113 rfl hf (fun x113 hf => ?_)
          refine V.iload (pc := 114) dX12_hearsIn_114 rfl ?_
          refine V.icmp_ge (pc := 116) (tgt := 128) dX12_hearsIn_116 (by decide) hf (fun hf => ?_) (fun hf => ?_)
          · refine V.iload (pc := 128) dX12_hearsIn_128 rfl ?_
            refine V.mask (pc := 130) [false, true, true, true, false, true, false] rfl rfl ?_
            exact tX12_hearsIn_130 hX hQ hB65 hf
          · refine V.mask (pc := 119) [false, true, true, true, false, true, true] rfl rfl ?_
            exact tX12_hearsIn_119 hX hQ hB65 hf
theorem tX12_hearsIn_L65 {out : Int32} (hX : xk X = kX12_hearsIn) (hQ : xQ X = qE (some (.int out)) (wX12_hearsIn (xG X) q_a0 q_a0_lengths q_a0_many q_a1 u_a0_thrown u_a0_trace u_a0_text u_a0_typed u_a0_next u_a0_token u_a0_place u_a0_value u_a0_fault u_a0_slow u_a0_deaf u_a0_told u_a0_s u_a0_w u_a0_kept u_a0_isKept u_a0_undos u_a0_undoMany u_a0_heardBy u_a0_heardAt u_a0_heardMany u_a0_tellsAt u_a0_tellMany u_a0_metAt u_a0_metBeat u_a0_round u_a0_z m_a0_lengths m_a0_many m_a1)) {K65_138 : Int32 → Option (Int32)} (hK65_138 : ∀ (l4 : Int32), K65_138 l4 = some out → V X cX12_hearsIn "FarDrumModel" 0 0 (wX12_hearsIn (xG X) q_a0 q_a0_lengths q_a0_many q_a1 u_a0_thrown u_a0_trace u_a0_text u_a0_typed u_a0_next u_a0_token u_a0_place u_a0_value u_a0_fault u_a0_slow u_a0_deaf u_a0_told u_a0_s u_a0_w u_a0_kept u_a0_isKept u_a0_undos u_a0_undoMany u_a0_heardBy u_a0_heardAt u_a0_heardMany u_a0_tellsAt u_a0_tellMany u_a0_metAt u_a0_metBeat u_a0_round u_a0_z m_a0_lengths m_a0_many m_a1) [none, none, none, none, some (.int l4), none, none] 138 []) : ∀ (n : Nat) (l4 : Int32) (l5 : Int32), fX12_hearsIn_L65 l2 l3 m_a1 K65_138 n l4 l5 = some out → V X cX12_hearsIn "FarDrumModel" 0 0 (wX12_hearsIn (xG X) q_a0 q_a0_lengths q_a0_many q_a1 u_a0_thrown u_a0_trace u_a0_text u_a0_typed u_a0_next u_a0_token u_a0_place u_a0_value u_a0_fault u_a0_slow u_a0_deaf u_a0_told u_a0_s u_a0_w u_a0_kept u_a0_isKept u_a0_undos u_a0_undoMany u_a0_heardBy u_a0_heardAt u_a0_heardMany u_a0_tellsAt u_a0_tellMany u_a0_metAt u_a0_metBeat u_a0_round u_a0_z m_a0_lengths m_a0_many m_a1) [none, some (.ref q_a1), some (.int l2), some (.int l3), some (.int l4), some (.int l5), none] 65 [] := by
  intro n
  induction n with
  | zero => intro l4 l5 hf; cases hf
  | succ n ih => intro l4 l5 hf; exact tX12_hearsIn_65 hX hQ ih hK65_138 hf
set_option maxRecDepth 20000 in
theorem tX12_hearsIn_60 {out : Int32} (hX : xk X = kX12_hearsIn) (hQ : xQ X = qE (some (.int out)) (wX12_hearsIn (xG X) q_a0 q_a0_lengths q_a0_many q_a1 u_a0_thrown u_a0_trace u_a0_text u_a0_typed u_a0_next u_a0_token u_a0_place u_a0_value u_a0_fault u_a0_slow u_a0_deaf u_a0_told u_a0_s u_a0_w u_a0_kept u_a0_isKept u_a0_undos u_a0_undoMany u_a0_heardBy u_a0_heardAt u_a0_heardMany u_a0_tellsAt u_a0_tellMany u_a0_metAt u_a0_metBeat u_a0_round u_a0_z m_a0_lengths m_a0_many m_a1)) (hf : fX12_hearsIn_60 N l2 l3 s0 m_a1 = some out) : V X cX12_hearsIn "FarDrumModel" 0 0 (wX12_hearsIn (xG X) q_a0 q_a0_lengths q_a0_many q_a1 u_a0_thrown u_a0_trace u_a0_text u_a0_typed u_a0_next u_a0_token u_a0_place u_a0_value u_a0_fault u_a0_slow u_a0_deaf u_a0_told u_a0_s u_a0_w u_a0_kept u_a0_isKept u_a0_undos u_a0_undoMany u_a0_heardBy u_a0_heardAt u_a0_heardMany u_a0_tellsAt u_a0_tellMany u_a0_metAt u_a0_metBeat u_a0_round u_a0_z m_a0_lengths m_a0_many m_a1) [none, some (.ref q_a1), some (.int l2), some (.int l3), none, none, none] 60 [.int s0] := by
  unfold fX12_hearsIn_60 at hf
  refine V.istore (pc := 60) dX12_hearsIn_60 rfl rfl rfl ?_
  refine V.iconst (pc := 62) (v := 0) dX12_hearsIn_62 (by decide) ?_
  refine V.istore (pc := 63) dX12_hearsIn_63 rfl rfl rfl ?_
  refine tX12_hearsIn_L65 hX hQ ?_ _ _ _ hf
  · intro l4k65_138 hf
    refine V.iload (pc := 138) dX12_hearsIn_138 rfl ?_
    exact V.iretE (pc := 140) hX kX12_hearsIn_r hQ dX12_hearsIn_140 (by cases hf; rfl) (by cases hf; rfl)
set_option maxRecDepth 20000 in
theorem tX12_hearsIn_53 {out : Int32} (hX : xk X = kX12_hearsIn) (hQ : xQ X = qE (some (.int out)) (wX12_hearsIn (xG X) q_a0 q_a0_lengths q_a0_many q_a1 u_a0_thrown u_a0_trace u_a0_text u_a0_typed u_a0_next u_a0_token u_a0_place u_a0_value u_a0_fault u_a0_slow u_a0_deaf u_a0_told u_a0_s u_a0_w u_a0_kept u_a0_isKept u_a0_undos u_a0_undoMany u_a0_heardBy u_a0_heardAt u_a0_heardMany u_a0_tellsAt u_a0_tellMany u_a0_metAt u_a0_metBeat u_a0_round u_a0_z m_a0_lengths m_a0_many m_a1)) (hf : fX12_hearsIn_53 N l2 l3 m_a1 = some out) : V X cX12_hearsIn "FarDrumModel" 0 0 (wX12_hearsIn (xG X) q_a0 q_a0_lengths q_a0_many q_a1 u_a0_thrown u_a0_trace u_a0_text u_a0_typed u_a0_next u_a0_token u_a0_place u_a0_value u_a0_fault u_a0_slow u_a0_deaf u_a0_told u_a0_s u_a0_w u_a0_kept u_a0_isKept u_a0_undos u_a0_undoMany u_a0_heardBy u_a0_heardAt u_a0_heardMany u_a0_tellsAt u_a0_tellMany u_a0_metAt u_a0_metBeat u_a0_round u_a0_z m_a0_lengths m_a0_many m_a1) [none, some (.ref q_a1), some (.int l2), some (.int l3), none, none, none] 53 [] := by
  unfold fX12_hearsIn_53 at hf
  refine V.bipush (pc := 53) (v := -9) dX12_hearsIn_53 (by decide) ?_
  refine V.goto (pc := 55) (tgt := 60) dX12_hearsIn_55 (by decide) ?_
  exact tX12_hearsIn_60 hX hQ hf
set_option maxRecDepth 20000 in
theorem tX12_hearsIn_0 {out : Int32} (hX : xk X = kX12_hearsIn) (hQ : xQ X = qE (some (.int out)) (wX12_hearsIn (xG X) q_a0 q_a0_lengths q_a0_many q_a1 u_a0_thrown u_a0_trace u_a0_text u_a0_typed u_a0_next u_a0_token u_a0_place u_a0_value u_a0_fault u_a0_slow u_a0_deaf u_a0_told u_a0_s u_a0_w u_a0_kept u_a0_isKept u_a0_undos u_a0_undoMany u_a0_heardBy u_a0_heardAt u_a0_heardMany u_a0_tellsAt u_a0_tellMany u_a0_metAt u_a0_metBeat u_a0_round u_a0_z m_a0_lengths m_a0_many m_a1)) (hf : fX12_hearsIn N l2 l3 m_a0_lengths m_a0_many m_a1 = some out) : V X cX12_hearsIn "FarDrumModel" 0 0 (wX12_hearsIn (xG X) q_a0 q_a0_lengths q_a0_many q_a1 u_a0_thrown u_a0_trace u_a0_text u_a0_typed u_a0_next u_a0_token u_a0_place u_a0_value u_a0_fault u_a0_slow u_a0_deaf u_a0_told u_a0_s u_a0_w u_a0_kept u_a0_isKept u_a0_undos u_a0_undoMany u_a0_heardBy u_a0_heardAt u_a0_heardMany u_a0_tellsAt u_a0_tellMany u_a0_metAt u_a0_metBeat u_a0_round u_a0_z m_a0_lengths m_a0_many m_a1) [some (.ref q_a0), some (.ref q_a1), some (.int l2), some (.int l3), none, none, none] 0 [] := by
  unfold fX12_hearsIn at hf
  refine V.iloadn (pc := 0) dX12_hearsIn_0 rfl ?_
  refine V.iloadn (pc := 1) dX12_hearsIn_1 rfl ?_
  refine V.icmp_eq (pc := 2) (tgt := 15) dX12_hearsIn_2 (by decide) hf (fun hf => ?_) (fun hf => ?_)
  · refine V.mask (pc := 15) [false, false, false, false, false, false, false] rfl rfl ?_
    exact tX12_hearsIn_15 hX hQ hf
  · refine V.aloadn (pc := 5) dX12_hearsIn_5 rfl ?_
    refine V.bipush (pc := 6) (v := 10) dX12_hearsIn_6 (by decide) ?_
    refine V.iloadn (pc := 8) dX12_hearsIn_8 rfl ?_
    refine V.iadd (pc := 9) dX12_hearsIn_9 ?_
    refine V.iald (pc := 10) (q := 3) dX12_hearsIn_10 rfl hf (fun x10 hf => ?_)
    refine V.iconst (pc := 11) (v := 1) dX12_hearsIn_11 (by decide) ?_
    refine V.icmp_ne (pc := 12) (tgt := 18) dX12_hearsIn_12 (by decide) hf (fun hf => ?_) (fun hf => ?_)
    · refine V.aloadn (pc := 18) dX12_hearsIn_18 rfl ?_
      refine V.getf (q := 0) (pc := 19) dX12_hearsIn_19 fk_X12_22_12 rfl rfl ?_
      refine V.bipush (pc := 22) (v := 6) dX12_hearsIn_22 (by decide) ?_
      refine V.iloadn (pc := 24) dX12_hearsIn_24 rfl ?_
      refine V.imul (pc := 25) dX12_hearsIn_25 ?_
      refine V.iloadn (pc := 26) dX12_hearsIn_26 rfl ?_
      refine V.iadd (pc := 27) dX12_hearsIn_27 ?_
      refine V.iald (pc := 28) (q := 1) dX12_hearsIn_28 rfl hf (fun x28 hf => ?_)
      refine V.iconst (pc := 29) (v := 1) dX12_hearsIn_29 (by decide) ?_
      refine V.aloadn (pc := 30) dX12_hearsIn_30 rfl ?_
      refine V.iconst (pc := 31) (v := 3) dX12_hearsIn_31 (by decide) ?_
      refine V.ialdC (pc := 32) (q := 3) 3 dX12_hearsIn_32 rfl ⟨vp_c (by decide), by decide⟩ ?_
      refine V.iadd (pc := 33) dX12_hearsIn_33 ?_
      refine V.imul (pc := 34) dX12_hearsIn_34 ?_
      refine V.topi hf (fun y35 hf => ?_)
      refine V.istore (pc := 35) dX12_hearsIn_35 rfl rfl rfl ?_
      refine V.iload (pc := 37) dX12_hearsIn_37 rfl ?_
      refine V.if_eq (pc := 39) (tgt := 53) dX12_hearsIn_39 (by decide) hf (fun hf => ?_) (fun hf => ?_)
      · refine V.mask (pc := 53) [false, true, true, true, false, false, false] rfl rfl ?_
        exact tX12_hearsIn_53 hX hQ hf
      · refine V.iload (pc := 42) dX12_hearsIn_42 rfl ?_
        refine V.aloadn (pc := 44) dX12_hearsIn_44 rfl ?_
        refine V.getf (q := 0) (pc := 45) dX12_hearsIn_45 fk_X12_13_12 rfl rfl ?_
        refine V.iconst (pc := 48) (v := 1) dX12_hearsIn_48 (by decide) ?_
        refine V.ialdC (pc := 49) (q := 2) 1 dX12_hearsIn_49 rfl ⟨vp_c (by decide), by decide⟩ ?_
        refine V.icmp_le (pc := 50) (tgt := 58) dX12_hearsIn_50 (by decide) hf (fun hf => ?_) (fun hf => ?_)
        · refine V.iload (pc := 58) dX12_hearsIn_58 rfl ?_
          refine V.mask (pc := 60) [false, true, true, true, false, false, false] rfl rfl ?_
          exact tX12_hearsIn_60 hX hQ hf
        · refine V.mask (pc := 53) [false, true, true, true, false, false, false] rfl rfl ?_
          exact tX12_hearsIn_53 hX hQ hf
    · refine V.mask (pc := 15) [false, false, false, false, false, false, false] rfl rfl ?_
      exact tX12_hearsIn_15 hX hQ hf
end
theorem oX12_hearsIn {l : Launch} {G : GT} {N : Nat} {q_a0 : Nat} {q_a0_lengths : Nat} {q_a0_many : Nat} {q_a1 : Nat} {u_a0_thrown : Value} {u_a0_trace : Value} {u_a0_text : Value} {u_a0_typed : Value} {u_a0_next : Value} {u_a0_token : Value} {u_a0_place : Value} {u_a0_value : Value} {u_a0_fault : Value} {u_a0_slow : Value} {u_a0_deaf : Value} {u_a0_told : Value} {u_a0_s : Value} {u_a0_w : Value} {u_a0_kept : Value} {u_a0_isKept : Value} {u_a0_undos : Value} {u_a0_undoMany : Value} {u_a0_heardBy : Value} {u_a0_heardAt : Value} {u_a0_heardMany : Value} {u_a0_tellsAt : Value} {u_a0_tellMany : Value} {u_a0_metAt : Value} {u_a0_metBeat : Value} {u_a0_round : Value} {u_a0_z : Value} {m_a0_lengths : Nat → Int32} {m_a0_many : Nat → Int32} {m_a1 : Nat → Int32} {l2 : Int32} {l3 : Int32} {out : Int32} (hf : fX12_hearsIn N l2 l3 m_a0_lengths m_a0_many m_a1 = some out) : Ct (l, G, kX12_hearsIn, wX12_hearsIn G q_a0 q_a0_lengths q_a0_many q_a1 u_a0_thrown u_a0_trace u_a0_text u_a0_typed u_a0_next u_a0_token u_a0_place u_a0_value u_a0_fault u_a0_slow u_a0_deaf u_a0_told u_a0_s u_a0_w u_a0_kept u_a0_isKept u_a0_undos u_a0_undoMany u_a0_heardBy u_a0_heardAt u_a0_heardMany u_a0_tellsAt u_a0_tellMany u_a0_metAt u_a0_metBeat u_a0_round u_a0_z m_a0_lengths m_a0_many m_a1, [.ref q_a0, .ref q_a1, .int l2, .int l3], qE (some (.int out)) (wX12_hearsIn G q_a0 q_a0_lengths q_a0_many q_a1 u_a0_thrown u_a0_trace u_a0_text u_a0_typed u_a0_next u_a0_token u_a0_place u_a0_value u_a0_fault u_a0_slow u_a0_deaf u_a0_told u_a0_s u_a0_w u_a0_kept u_a0_isKept u_a0_undos u_a0_undoMany u_a0_heardBy u_a0_heardAt u_a0_heardMany u_a0_tellsAt u_a0_tellMany u_a0_metAt u_a0_metBeat u_a0_round u_a0_z m_a0_lengths m_a0_many m_a1)) :=
  Ct.of [some (.ref q_a0), some (.ref q_a1), some (.int l2), some (.int l3), none, none, none] kX12_hearsIn_p rfl rfl rfl ((tX12_hearsIn_0 (X := (l, G, kX12_hearsIn, wX12_hearsIn G q_a0 q_a0_lengths q_a0_many q_a1 u_a0_thrown u_a0_trace u_a0_text u_a0_typed u_a0_next u_a0_token u_a0_place u_a0_value u_a0_fault u_a0_slow u_a0_deaf u_a0_told u_a0_s u_a0_w u_a0_kept u_a0_isKept u_a0_undos u_a0_undoMany u_a0_heardBy u_a0_heardAt u_a0_heardMany u_a0_tellsAt u_a0_tellMany u_a0_metAt u_a0_metBeat u_a0_round u_a0_z m_a0_lengths m_a0_many m_a1, [.ref q_a0, .ref q_a1, .int l2, .int l3], qE (some (.int out)) (wX12_hearsIn G q_a0 q_a0_lengths q_a0_many q_a1 u_a0_thrown u_a0_trace u_a0_text u_a0_typed u_a0_next u_a0_token u_a0_place u_a0_value u_a0_fault u_a0_slow u_a0_deaf u_a0_told u_a0_s u_a0_w u_a0_kept u_a0_isKept u_a0_undos u_a0_undoMany u_a0_heardBy u_a0_heardAt u_a0_heardMany u_a0_tellsAt u_a0_tellMany u_a0_metAt u_a0_metBeat u_a0_round u_a0_z m_a0_lengths m_a0_many m_a1))) rfl rfl hf))

theorem lkb_X12_hearsIn : LkB kX12_hearsIn 3 := ⟨kw_4_170, kw_1_13, ⟨by decide, by decide⟩, by decide +kernel, by decide⟩
theorem lkV_X12_140 : LkV "FarDrumModel" 140 kX12_hearsIn 3 := ⟨lkb_X12_hearsIn, kw_4_167, kw_4_169, kp_36⟩
def wX12_lastOf (G : GT) (q_a0 : Nat) (q_a0_lengths : Nat) (q_a0_many : Nat) (q_a1 : Nat) (u_a0_thrown : Value) (u_a0_trace : Value) (u_a0_text : Value) (u_a0_typed : Value) (u_a0_next : Value) (u_a0_token : Value) (u_a0_place : Value) (u_a0_value : Value) (u_a0_fault : Value) (u_a0_slow : Value) (u_a0_deaf : Value) (u_a0_told : Value) (u_a0_s : Value) (u_a0_w : Value) (u_a0_kept : Value) (u_a0_isKept : Value) (u_a0_undos : Value) (u_a0_undoMany : Value) (u_a0_heardBy : Value) (u_a0_heardAt : Value) (u_a0_heardMany : Value) (u_a0_tellsAt : Value) (u_a0_tellMany : Value) (u_a0_metAt : Value) (u_a0_metBeat : Value) (u_a0_round : Value) (u_a0_z : Value) (m_a0_lengths : Nat → Int32) (m_a0_many : Nat → Int32) (m_a1 : Nat → Int32) : va_W := [(q_a0, .inr (12, [u_a0_thrown, u_a0_trace, u_a0_text, u_a0_typed, u_a0_next, u_a0_token, u_a0_place, u_a0_value, u_a0_fault, .ref q_a0_many, u_a0_slow, u_a0_deaf, .ref q_a0_lengths, u_a0_told, u_a0_s, u_a0_w, u_a0_kept, u_a0_isKept, u_a0_undos, u_a0_undoMany, u_a0_heardBy, u_a0_heardAt, u_a0_heardMany, u_a0_tellsAt, u_a0_tellMany, u_a0_metAt, u_a0_metBeat, u_a0_round, u_a0_z])), (q_a0_lengths, .inl (G.2 0, 72, .inl m_a0_lengths)), (q_a0_many, .inl (G.2 0, 6, .inl m_a0_many)), (q_a1, .inl (G.2 0, 35, .inl m_a1))]
def kX12_lastOf : KT := (yX12_lastOf, cX12_lastOf, 6, (some .int), 1, 0, 0)
theorem kX12_lastOf_r : kr kX12_lastOf = (some .int) ∧ kmc kX12_lastOf = 0 ∧ kms kX12_lastOf = 0 := ⟨rfl, rfl, rfl⟩
theorem kX12_lastOf_p : plainName (ky kX12_lastOf).cls = true := by decide +kernel
def fX12_lastOf_58 (B6 : Int32 → Int32 → Option (Int32)) (l4 : Int32) (s0 : Int32) : Option (Int32) :=
  B6 s0 (l4 + (1 : Int32))
def fX12_lastOf_57 (B6 : Int32 → Int32 → Option (Int32)) (l3 : Int32) (l4 : Int32) : Option (Int32) :=
  fX12_lastOf_58 B6 l4 l3
def fX12_lastOf_52 (B6 : Int32 → Int32 → Option (Int32)) (l4 : Int32) : Option (Int32) :=
  fX12_lastOf_58 B6 l4 l4
def fX12_lastOf_6 (B6 : Int32 → Int32 → Option (Int32)) (K6_65 : Int32 → Option (Int32)) (N : Nat) (l2 : Int32) (l3 : Int32) (l4 : Int32) (m_a0_lengths : Nat → Int32) (m_a0_many : Nat → Int32) (m_a1 : Nat → Int32) : Option (Int32) :=
  if (m_a0_many 0) ≤ l4 then (K6_65 l3)
  else (Option.bind (fX12_hearsIn N l4 l2 m_a0_lengths m_a0_many m_a1) fun o22 =>
  if o22 = (-9 : Int32) then (fX12_lastOf_57 B6 l3 l4)
  else (if l3 = (-9 : Int32) then (fX12_lastOf_52 B6 l4)
  else (Option.bind (fX12_hearsIn N l3 l2 m_a0_lengths m_a0_many m_a1) fun o46 =>
  if o22 ≤ o46 then (fX12_lastOf_57 B6 l3 l4)
  else (fX12_lastOf_52 B6 l4))))
def fX12_lastOf_L6 (N : Nat) (l2 : Int32) (m_a0_lengths : Nat → Int32) (m_a0_many : Nat → Int32) (m_a1 : Nat → Int32) (K6_65 : Int32 → Option (Int32)) : Nat → Int32 → Int32 → Option (Int32)
  | 0, _, _ => none
  | n + 1, l3, l4 => fX12_lastOf_6 (fX12_lastOf_L6 N l2 m_a0_lengths m_a0_many m_a1 K6_65 n) K6_65 N l2 l3 l4 m_a0_lengths m_a0_many m_a1
def fX12_lastOf (N : Nat) (l2 : Int32) (m_a0_lengths : Nat → Int32) (m_a0_many : Nat → Int32) (m_a1 : Nat → Int32) : Option (Int32) :=
  fX12_lastOf_L6 N l2 m_a0_lengths m_a0_many m_a1
      (fun l3k6_65 => some l3k6_65) N (-9 : Int32) (0 : Int32)
section
variable {X : XT} {N : Nat} {q_a0 : Nat} {q_a0_lengths : Nat} {q_a0_many : Nat} {q_a1 : Nat} {u_a0_thrown : Value} {u_a0_trace : Value} {u_a0_text : Value} {u_a0_typed : Value} {u_a0_next : Value} {u_a0_token : Value} {u_a0_place : Value} {u_a0_value : Value} {u_a0_fault : Value} {u_a0_slow : Value} {u_a0_deaf : Value} {u_a0_told : Value} {u_a0_s : Value} {u_a0_w : Value} {u_a0_kept : Value} {u_a0_isKept : Value} {u_a0_undos : Value} {u_a0_undoMany : Value} {u_a0_heardBy : Value} {u_a0_heardAt : Value} {u_a0_heardMany : Value} {u_a0_tellsAt : Value} {u_a0_tellMany : Value} {u_a0_metAt : Value} {u_a0_metBeat : Value} {u_a0_round : Value} {u_a0_z : Value} {m_a0_lengths : Nat → Int32} {m_a0_many : Nat → Int32} {m_a1 : Nat → Int32} {l2 : Int32} {l3 : Int32} {l4 : Int32} {s0 : Int32}
set_option maxRecDepth 20000 in
theorem tX12_lastOf_58 {out : Int32} (hX : xk X = kX12_lastOf) (hQ : xQ X = qE (some (.int out)) (wX12_lastOf (xG X) q_a0 q_a0_lengths q_a0_many q_a1 u_a0_thrown u_a0_trace u_a0_text u_a0_typed u_a0_next u_a0_token u_a0_place u_a0_value u_a0_fault u_a0_slow u_a0_deaf u_a0_told u_a0_s u_a0_w u_a0_kept u_a0_isKept u_a0_undos u_a0_undoMany u_a0_heardBy u_a0_heardAt u_a0_heardMany u_a0_tellsAt u_a0_tellMany u_a0_metAt u_a0_metBeat u_a0_round u_a0_z m_a0_lengths m_a0_many m_a1)) {B6 : Int32 → Int32 → Option (Int32)} (hB6 : ∀ (l3 : Int32) (l4 : Int32), B6 l3 l4 = some out → V X cX12_lastOf "FarDrumModel" 0 0 (wX12_lastOf (xG X) q_a0 q_a0_lengths q_a0_many q_a1 u_a0_thrown u_a0_trace u_a0_text u_a0_typed u_a0_next u_a0_token u_a0_place u_a0_value u_a0_fault u_a0_slow u_a0_deaf u_a0_told u_a0_s u_a0_w u_a0_kept u_a0_isKept u_a0_undos u_a0_undoMany u_a0_heardBy u_a0_heardAt u_a0_heardMany u_a0_tellsAt u_a0_tellMany u_a0_metAt u_a0_metBeat u_a0_round u_a0_z m_a0_lengths m_a0_many m_a1) [some (.ref q_a0), some (.ref q_a1), some (.int l2), some (.int l3), some (.int l4), none] 6 []) (hf : fX12_lastOf_58 B6 l4 s0 = some out) : V X cX12_lastOf "FarDrumModel" 0 0 (wX12_lastOf (xG X) q_a0 q_a0_lengths q_a0_many q_a1 u_a0_thrown u_a0_trace u_a0_text u_a0_typed u_a0_next u_a0_token u_a0_place u_a0_value u_a0_fault u_a0_slow u_a0_deaf u_a0_told u_a0_s u_a0_w u_a0_kept u_a0_isKept u_a0_undos u_a0_undoMany u_a0_heardBy u_a0_heardAt u_a0_heardMany u_a0_tellsAt u_a0_tellMany u_a0_metAt u_a0_metBeat u_a0_round u_a0_z m_a0_lengths m_a0_many m_a1) [some (.ref q_a0), some (.ref q_a1), some (.int l2), none, some (.int l4), none] 58 [.int s0] := by
  unfold fX12_lastOf_58 at hf
  refine V.istoren (pc := 58) dX12_lastOf_58 rfl rfl rfl ?_
  refine V.iinc (pc := 59) (v := 1) dX12_lastOf_59 rfl rfl (by decide) rfl ?_
  refine V.goto (pc := 62) (tgt := 6) dX12_lastOf_62 (by decide) ?_
  exact hB6 _ _ hf
set_option maxRecDepth 20000 in
theorem tX12_lastOf_57 {out : Int32} (hX : xk X = kX12_lastOf) (hQ : xQ X = qE (some (.int out)) (wX12_lastOf (xG X) q_a0 q_a0_lengths q_a0_many q_a1 u_a0_thrown u_a0_trace u_a0_text u_a0_typed u_a0_next u_a0_token u_a0_place u_a0_value u_a0_fault u_a0_slow u_a0_deaf u_a0_told u_a0_s u_a0_w u_a0_kept u_a0_isKept u_a0_undos u_a0_undoMany u_a0_heardBy u_a0_heardAt u_a0_heardMany u_a0_tellsAt u_a0_tellMany u_a0_metAt u_a0_metBeat u_a0_round u_a0_z m_a0_lengths m_a0_many m_a1)) {B6 : Int32 → Int32 → Option (Int32)} (hB6 : ∀ (l3 : Int32) (l4 : Int32), B6 l3 l4 = some out → V X cX12_lastOf "FarDrumModel" 0 0 (wX12_lastOf (xG X) q_a0 q_a0_lengths q_a0_many q_a1 u_a0_thrown u_a0_trace u_a0_text u_a0_typed u_a0_next u_a0_token u_a0_place u_a0_value u_a0_fault u_a0_slow u_a0_deaf u_a0_told u_a0_s u_a0_w u_a0_kept u_a0_isKept u_a0_undos u_a0_undoMany u_a0_heardBy u_a0_heardAt u_a0_heardMany u_a0_tellsAt u_a0_tellMany u_a0_metAt u_a0_metBeat u_a0_round u_a0_z m_a0_lengths m_a0_many m_a1) [some (.ref q_a0), some (.ref q_a1), some (.int l2), some (.int l3), some (.int l4), none] 6 []) (hf : fX12_lastOf_57 B6 l3 l4 = some out) : V X cX12_lastOf "FarDrumModel" 0 0 (wX12_lastOf (xG X) q_a0 q_a0_lengths q_a0_many q_a1 u_a0_thrown u_a0_trace u_a0_text u_a0_typed u_a0_next u_a0_token u_a0_place u_a0_value u_a0_fault u_a0_slow u_a0_deaf u_a0_told u_a0_s u_a0_w u_a0_kept u_a0_isKept u_a0_undos u_a0_undoMany u_a0_heardBy u_a0_heardAt u_a0_heardMany u_a0_tellsAt u_a0_tellMany u_a0_metAt u_a0_metBeat u_a0_round u_a0_z m_a0_lengths m_a0_many m_a1) [some (.ref q_a0), some (.ref q_a1), some (.int l2), some (.int l3), some (.int l4), none] 57 [] := by
  unfold fX12_lastOf_57 at hf
  refine V.iloadn (pc := 57) dX12_lastOf_57 rfl ?_
  refine V.mask (pc := 58) [true, true, true, false, true, false] rfl rfl ?_
  exact tX12_lastOf_58 hX hQ hB6 hf
set_option maxRecDepth 20000 in
theorem tX12_lastOf_52 {out : Int32} (hX : xk X = kX12_lastOf) (hQ : xQ X = qE (some (.int out)) (wX12_lastOf (xG X) q_a0 q_a0_lengths q_a0_many q_a1 u_a0_thrown u_a0_trace u_a0_text u_a0_typed u_a0_next u_a0_token u_a0_place u_a0_value u_a0_fault u_a0_slow u_a0_deaf u_a0_told u_a0_s u_a0_w u_a0_kept u_a0_isKept u_a0_undos u_a0_undoMany u_a0_heardBy u_a0_heardAt u_a0_heardMany u_a0_tellsAt u_a0_tellMany u_a0_metAt u_a0_metBeat u_a0_round u_a0_z m_a0_lengths m_a0_many m_a1)) {B6 : Int32 → Int32 → Option (Int32)} (hB6 : ∀ (l3 : Int32) (l4 : Int32), B6 l3 l4 = some out → V X cX12_lastOf "FarDrumModel" 0 0 (wX12_lastOf (xG X) q_a0 q_a0_lengths q_a0_many q_a1 u_a0_thrown u_a0_trace u_a0_text u_a0_typed u_a0_next u_a0_token u_a0_place u_a0_value u_a0_fault u_a0_slow u_a0_deaf u_a0_told u_a0_s u_a0_w u_a0_kept u_a0_isKept u_a0_undos u_a0_undoMany u_a0_heardBy u_a0_heardAt u_a0_heardMany u_a0_tellsAt u_a0_tellMany u_a0_metAt u_a0_metBeat u_a0_round u_a0_z m_a0_lengths m_a0_many m_a1) [some (.ref q_a0), some (.ref q_a1), some (.int l2), some (.int l3), some (.int l4), none] 6 []) (hf : fX12_lastOf_52 B6 l4 = some out) : V X cX12_lastOf "FarDrumModel" 0 0 (wX12_lastOf (xG X) q_a0 q_a0_lengths q_a0_many q_a1 u_a0_thrown u_a0_trace u_a0_text u_a0_typed u_a0_next u_a0_token u_a0_place u_a0_value u_a0_fault u_a0_slow u_a0_deaf u_a0_told u_a0_s u_a0_w u_a0_kept u_a0_isKept u_a0_undos u_a0_undoMany u_a0_heardBy u_a0_heardAt u_a0_heardMany u_a0_tellsAt u_a0_tellMany u_a0_metAt u_a0_metBeat u_a0_round u_a0_z m_a0_lengths m_a0_many m_a1) [some (.ref q_a0), some (.ref q_a1), some (.int l2), none, some (.int l4), none] 52 [] := by
  unfold fX12_lastOf_52 at hf
  refine V.iload (pc := 52) dX12_lastOf_52 rfl ?_
  refine V.goto (pc := 54) (tgt := 58) dX12_lastOf_54 (by decide) ?_
  exact tX12_lastOf_58 hX hQ hB6 hf
set_option maxRecDepth 20000 in
theorem tX12_lastOf_6 {out : Int32} (hX : xk X = kX12_lastOf) (hQ : xQ X = qE (some (.int out)) (wX12_lastOf (xG X) q_a0 q_a0_lengths q_a0_many q_a1 u_a0_thrown u_a0_trace u_a0_text u_a0_typed u_a0_next u_a0_token u_a0_place u_a0_value u_a0_fault u_a0_slow u_a0_deaf u_a0_told u_a0_s u_a0_w u_a0_kept u_a0_isKept u_a0_undos u_a0_undoMany u_a0_heardBy u_a0_heardAt u_a0_heardMany u_a0_tellsAt u_a0_tellMany u_a0_metAt u_a0_metBeat u_a0_round u_a0_z m_a0_lengths m_a0_many m_a1)) {B6 : Int32 → Int32 → Option (Int32)} {K6_65 : Int32 → Option (Int32)} (hB6 : ∀ (l3 : Int32) (l4 : Int32), B6 l3 l4 = some out → V X cX12_lastOf "FarDrumModel" 0 0 (wX12_lastOf (xG X) q_a0 q_a0_lengths q_a0_many q_a1 u_a0_thrown u_a0_trace u_a0_text u_a0_typed u_a0_next u_a0_token u_a0_place u_a0_value u_a0_fault u_a0_slow u_a0_deaf u_a0_told u_a0_s u_a0_w u_a0_kept u_a0_isKept u_a0_undos u_a0_undoMany u_a0_heardBy u_a0_heardAt u_a0_heardMany u_a0_tellsAt u_a0_tellMany u_a0_metAt u_a0_metBeat u_a0_round u_a0_z m_a0_lengths m_a0_many m_a1) [some (.ref q_a0), some (.ref q_a1), some (.int l2), some (.int l3), some (.int l4), none] 6 []) (hK6_65 : ∀ (l3 : Int32), K6_65 l3 = some out → V X cX12_lastOf "FarDrumModel" 0 0 (wX12_lastOf (xG X) q_a0 q_a0_lengths q_a0_many q_a1 u_a0_thrown u_a0_trace u_a0_text u_a0_typed u_a0_next u_a0_token u_a0_place u_a0_value u_a0_fault u_a0_slow u_a0_deaf u_a0_told u_a0_s u_a0_w u_a0_kept u_a0_isKept u_a0_undos u_a0_undoMany u_a0_heardBy u_a0_heardAt u_a0_heardMany u_a0_tellsAt u_a0_tellMany u_a0_metAt u_a0_metBeat u_a0_round u_a0_z m_a0_lengths m_a0_many m_a1) [none, none, none, some (.int l3), none, none] 65 []) (hf : fX12_lastOf_6 B6 K6_65 N l2 l3 l4 m_a0_lengths m_a0_many m_a1 = some out) : V X cX12_lastOf "FarDrumModel" 0 0 (wX12_lastOf (xG X) q_a0 q_a0_lengths q_a0_many q_a1 u_a0_thrown u_a0_trace u_a0_text u_a0_typed u_a0_next u_a0_token u_a0_place u_a0_value u_a0_fault u_a0_slow u_a0_deaf u_a0_told u_a0_s u_a0_w u_a0_kept u_a0_isKept u_a0_undos u_a0_undoMany u_a0_heardBy u_a0_heardAt u_a0_heardMany u_a0_tellsAt u_a0_tellMany u_a0_metAt u_a0_metBeat u_a0_round u_a0_z m_a0_lengths m_a0_many m_a1) [some (.ref q_a0), some (.ref q_a1), some (.int l2), some (.int l3), some (.int l4), none] 6 [] := by
  unfold fX12_lastOf_6 at hf
  refine V.iload (pc := 6) dX12_lastOf_6 rfl ?_
  refine V.aloadn (pc := 8) dX12_lastOf_8 rfl ?_
  refine V.getf (q := 0) (pc := 9) dX12_lastOf_9 fk_X12_13_12 rfl rfl ?_
  refine V.iconst (pc := 12) (v := 0) dX12_lastOf_12 (by decide) ?_
  refine V.ialdC (pc := 13) (q := 2) 0 dX12_lastOf_13 rfl ⟨vp_c (by decide), by decide⟩ ?_
  refine V.icmp_ge (pc := 14) (tgt := 65) dX12_lastOf_14 (by decide) hf (fun hf => ?_) (fun hf => ?_)
  · refine V.mask (pc := 65) [false, false, false, true, false, false] rfl rfl ?_
    exact hK6_65 _ hf
  · refine V.aloadn (pc := 17) dX12_lastOf_17 rfl ?_
    refine V.aloadn (pc := 18) dX12_lastOf_18 rfl ?_
    refine V.iload (pc := 19) dX12_lastOf_19 rfl ?_
    refine V.iloadn (pc := 21) dX12_lastOf_21 rfl ?_
    refine V.callVi (pc := 22) (q := 0) (wr := []) (wd' := fun o22 => wX12_lastOf (xG X) q_a0 q_a0_lengths q_a0_many q_a1 u_a0_thrown u_a0_trace u_a0_text u_a0_typed u_a0_next u_a0_token u_a0_place u_a0_value u_a0_fault u_a0_slow u_a0_deaf u_a0_told u_a0_s u_a0_w u_a0_kept u_a0_isKept u_a0_undos u_a0_undoMany u_a0_heardBy u_a0_heardAt u_a0_heardMany u_a0_tellsAt u_a0_tellMany u_a0_metAt u_a0_metBeat u_a0_round u_a0_z m_a0_lengths m_a0_many m_a1) [.ref q_a1, .int l4, .int l2] (st := []) hf (fun _ h => oX12_hearsIn (q_a0 := q_a0) (q_a0_lengths := q_a0_lengths) (q_a0_many := q_a0_many) (q_a1 := q_a1) (u_a0_thrown := u_a0_thrown) (u_a0_trace := u_a0_trace) (u_a0_text := u_a0_text) (u_a0_typed := u_a0_typed) (u_a0_next := u_a0_next) (u_a0_token := u_a0_token) (u_a0_place := u_a0_place) (u_a0_value := u_a0_value) (u_a0_fault := u_a0_fault) (u_a0_slow := u_a0_slow) (u_a0_deaf := u_a0_deaf) (u_a0_told := u_a0_told) (u_a0_s := u_a0_s) (u_a0_w := u_a0_w) (u_a0_kept := u_a0_kept) (u_a0_isKept := u_a0_isKept) (u_a0_undos := u_a0_undos) (u_a0_undoMany := u_a0_undoMany) (u_a0_heardBy := u_a0_heardBy) (u_a0_heardAt := u_a0_heardAt) (u_a0_heardMany := u_a0_heardMany) (u_a0_tellsAt := u_a0_tellsAt) (u_a0_tellMany := u_a0_tellMany) (u_a0_metAt := u_a0_metAt) (u_a0_metBeat := u_a0_metBeat) (u_a0_round := u_a0_round) (u_a0_z := u_a0_z) (m_a0_lengths := m_a0_lengths) (m_a0_many := m_a0_many) (m_a1 := m_a1) (l2 := l4) (l3 := l2) h) lkV_X12_140 dX12_lastOf_22 hX rfl ⟨rfl, rfl⟩ ⟨rfl, rfl⟩ rfl rfl rfl rfl rfl [0, 1, 2, 3] [] [0, 1, 2, 3] rfl rfl rfl rfl rfl (fun _ => rfl) rfl (fun o22 hf => ?_)
    refine V.istore (pc := 25) dX12_lastOf_25 rfl rfl rfl ?_
    refine V.iload (pc := 27) dX12_lastOf_27 rfl ?_
    refine V.bipush (pc := 29) (v := -9) dX12_lastOf_29 (by decide) ?_
    refine V.icmp_eq (pc := 31) (tgt := 57) dX12_lastOf_31 (by decide) hf (fun hf => ?_) (fun hf => ?_)
    · refine V.mask (pc := 57) [true, true, true, true, true, false] rfl rfl ?_
      exact tX12_lastOf_57 hX hQ hB6 hf
    · refine V.iloadn (pc := 34) dX12_lastOf_34 rfl ?_
      refine V.bipush (pc := 35) (v := -9) dX12_lastOf_35 (by decide) ?_
      refine V.icmp_eq (pc := 37) (tgt := 52) dX12_lastOf_37 (by decide) hf (fun hf => ?_) (fun hf => ?_)
      · refine V.mask (pc := 52) [true, true, true, false, true, false] rfl rfl ?_
        exact tX12_lastOf_52 hX hQ hB6 hf
      · refine V.iload (pc := 40) dX12_lastOf_40 rfl ?_
        refine V.aloadn (pc := 42) dX12_lastOf_42 rfl ?_
        refine V.aloadn (pc := 43) dX12_lastOf_43 rfl ?_
        refine V.iloadn (pc := 44) dX12_lastOf_44 rfl ?_
        refine V.iloadn (pc := 45) dX12_lastOf_45 rfl ?_
        refine V.callVi (pc := 46) (q := 0) (wr := []) (wd' := fun o46 => wX12_lastOf (xG X) q_a0 q_a0_lengths q_a0_many q_a1 u_a0_thrown u_a0_trace u_a0_text u_a0_typed u_a0_next u_a0_token u_a0_place u_a0_value u_a0_fault u_a0_slow u_a0_deaf u_a0_told u_a0_s u_a0_w u_a0_kept u_a0_isKept u_a0_undos u_a0_undoMany u_a0_heardBy u_a0_heardAt u_a0_heardMany u_a0_tellsAt u_a0_tellMany u_a0_metAt u_a0_metBeat u_a0_round u_a0_z m_a0_lengths m_a0_many m_a1) [.ref q_a1, .int l3, .int l2] (st := [.int o22]) hf (fun _ h => oX12_hearsIn (q_a0 := q_a0) (q_a0_lengths := q_a0_lengths) (q_a0_many := q_a0_many) (q_a1 := q_a1) (u_a0_thrown := u_a0_thrown) (u_a0_trace := u_a0_trace) (u_a0_text := u_a0_text) (u_a0_typed := u_a0_typed) (u_a0_next := u_a0_next) (u_a0_token := u_a0_token) (u_a0_place := u_a0_place) (u_a0_value := u_a0_value) (u_a0_fault := u_a0_fault) (u_a0_slow := u_a0_slow) (u_a0_deaf := u_a0_deaf) (u_a0_told := u_a0_told) (u_a0_s := u_a0_s) (u_a0_w := u_a0_w) (u_a0_kept := u_a0_kept) (u_a0_isKept := u_a0_isKept) (u_a0_undos := u_a0_undos) (u_a0_undoMany := u_a0_undoMany) (u_a0_heardBy := u_a0_heardBy) (u_a0_heardAt := u_a0_heardAt) (u_a0_heardMany := u_a0_heardMany) (u_a0_tellsAt := u_a0_tellsAt) (u_a0_tellMany := u_a0_tellMany) (u_a0_metAt := u_a0_metAt) (u_a0_metBeat := u_a0_metBeat) (u_a0_round := u_a0_round) (u_a0_z := u_a0_z) (m_a0_lengths := m_a0_lengths) (m_a0_many := m_a0_many) (m_a1 := m_a1) (l2 := l3) (l3 := l2) h) lkV_X12_140 dX12_lastOf_46 hX rfl ⟨rfl, rfl⟩ ⟨rfl, rfl⟩ rfl rfl rfl rfl rfl [0, 1, 2, 3] [] [0, 1, 2, 3] rfl rfl rfl rfl rfl (fun _ => rfl) rfl (fun o46 hf => ?_)
        refine V.icmp_le (pc := 49) (tgt := 57) dX12_lastOf_49 (by decide) hf (fun hf => ?_) (fun hf => ?_)
        · refine V.mask (pc := 57) [true, true, true, true, true, false] rfl rfl ?_
          exact tX12_lastOf_57 hX hQ hB6 hf
        · refine V.mask (pc := 52) [true, true, true, false, true, false] rfl rfl ?_
          exact tX12_lastOf_52 hX hQ hB6 hf
theorem tX12_lastOf_L6 {out : Int32} (hX : xk X = kX12_lastOf) (hQ : xQ X = qE (some (.int out)) (wX12_lastOf (xG X) q_a0 q_a0_lengths q_a0_many q_a1 u_a0_thrown u_a0_trace u_a0_text u_a0_typed u_a0_next u_a0_token u_a0_place u_a0_value u_a0_fault u_a0_slow u_a0_deaf u_a0_told u_a0_s u_a0_w u_a0_kept u_a0_isKept u_a0_undos u_a0_undoMany u_a0_heardBy u_a0_heardAt u_a0_heardMany u_a0_tellsAt u_a0_tellMany u_a0_metAt u_a0_metBeat u_a0_round u_a0_z m_a0_lengths m_a0_many m_a1)) {K6_65 : Int32 → Option (Int32)} (hK6_65 : ∀ (l3 : Int32), K6_65 l3 = some out → V X cX12_lastOf "FarDrumModel" 0 0 (wX12_lastOf (xG X) q_a0 q_a0_lengths q_a0_many q_a1 u_a0_thrown u_a0_trace u_a0_text u_a0_typed u_a0_next u_a0_token u_a0_place u_a0_value u_a0_fault u_a0_slow u_a0_deaf u_a0_told u_a0_s u_a0_w u_a0_kept u_a0_isKept u_a0_undos u_a0_undoMany u_a0_heardBy u_a0_heardAt u_a0_heardMany u_a0_tellsAt u_a0_tellMany u_a0_metAt u_a0_metBeat u_a0_round u_a0_z m_a0_lengths m_a0_many m_a1) [none, none, none, some (.int l3), none, none] 65 []) : ∀ (n : Nat) (l3 : Int32) (l4 : Int32), fX12_lastOf_L6 N l2 m_a0_lengths m_a0_many m_a1 K6_65 n l3 l4 = some out → V X cX12_lastOf "FarDrumModel" 0 0 (wX12_lastOf (xG X) q_a0 q_a0_lengths q_a0_many q_a1 u_a0_thrown u_a0_trace u_a0_text u_a0_typed u_a0_next u_a0_token u_a0_place u_a0_value u_a0_fault u_a0_slow u_a0_deaf u_a0_told u_a0_s u_a0_w u_a0_kept u_a0_isKept u_a0_undos u_a0_undoMany u_a0_heardBy u_a0_heardAt u_a0_heardMany u_a0_tellsAt u_a0_tellMany u_a0_metAt u_a0_metBeat u_a0_round u_a0_z m_a0_lengths m_a0_many m_a1) [some (.ref q_a0), some (.ref q_a1), some (.int l2), some (.int l3), some (.int l4), none] 6 [] := by
  intro n
  induction n with
  | zero => intro l3 l4 hf; cases hf
  | succ n ih => intro l3 l4 hf; exact tX12_lastOf_6 hX hQ ih hK6_65 hf
set_option maxRecDepth 20000 in
theorem tX12_lastOf_0 {out : Int32} (hX : xk X = kX12_lastOf) (hQ : xQ X = qE (some (.int out)) (wX12_lastOf (xG X) q_a0 q_a0_lengths q_a0_many q_a1 u_a0_thrown u_a0_trace u_a0_text u_a0_typed u_a0_next u_a0_token u_a0_place u_a0_value u_a0_fault u_a0_slow u_a0_deaf u_a0_told u_a0_s u_a0_w u_a0_kept u_a0_isKept u_a0_undos u_a0_undoMany u_a0_heardBy u_a0_heardAt u_a0_heardMany u_a0_tellsAt u_a0_tellMany u_a0_metAt u_a0_metBeat u_a0_round u_a0_z m_a0_lengths m_a0_many m_a1)) (hf : fX12_lastOf N l2 m_a0_lengths m_a0_many m_a1 = some out) : V X cX12_lastOf "FarDrumModel" 0 0 (wX12_lastOf (xG X) q_a0 q_a0_lengths q_a0_many q_a1 u_a0_thrown u_a0_trace u_a0_text u_a0_typed u_a0_next u_a0_token u_a0_place u_a0_value u_a0_fault u_a0_slow u_a0_deaf u_a0_told u_a0_s u_a0_w u_a0_kept u_a0_isKept u_a0_undos u_a0_undoMany u_a0_heardBy u_a0_heardAt u_a0_heardMany u_a0_tellsAt u_a0_tellMany u_a0_metAt u_a0_metBeat u_a0_round u_a0_z m_a0_lengths m_a0_many m_a1) [some (.ref q_a0), some (.ref q_a1), some (.int l2), none, none, none] 0 [] := by
  unfold fX12_lastOf at hf
  refine V.bipush (pc := 0) (v := -9) dX12_lastOf_0 (by decide) ?_
  refine V.istoren (pc := 2) dX12_lastOf_2 rfl rfl rfl ?_
  refine V.iconst (pc := 3) (v := 0) dX12_lastOf_3 (by decide) ?_
  refine V.istore (pc := 4) dX12_lastOf_4 rfl rfl rfl ?_
  refine tX12_lastOf_L6 hX hQ ?_ _ _ _ hf
  · intro l3k6_65 hf
    refine V.iloadn (pc := 65) dX12_lastOf_65 rfl ?_
    exact V.iretE (pc := 66) hX kX12_lastOf_r hQ dX12_lastOf_66 (by cases hf; rfl) (by cases hf; rfl)
end
theorem oX12_lastOf {l : Launch} {G : GT} {N : Nat} {q_a0 : Nat} {q_a0_lengths : Nat} {q_a0_many : Nat} {q_a1 : Nat} {u_a0_thrown : Value} {u_a0_trace : Value} {u_a0_text : Value} {u_a0_typed : Value} {u_a0_next : Value} {u_a0_token : Value} {u_a0_place : Value} {u_a0_value : Value} {u_a0_fault : Value} {u_a0_slow : Value} {u_a0_deaf : Value} {u_a0_told : Value} {u_a0_s : Value} {u_a0_w : Value} {u_a0_kept : Value} {u_a0_isKept : Value} {u_a0_undos : Value} {u_a0_undoMany : Value} {u_a0_heardBy : Value} {u_a0_heardAt : Value} {u_a0_heardMany : Value} {u_a0_tellsAt : Value} {u_a0_tellMany : Value} {u_a0_metAt : Value} {u_a0_metBeat : Value} {u_a0_round : Value} {u_a0_z : Value} {m_a0_lengths : Nat → Int32} {m_a0_many : Nat → Int32} {m_a1 : Nat → Int32} {l2 : Int32} {out : Int32} (hf : fX12_lastOf N l2 m_a0_lengths m_a0_many m_a1 = some out) : Ct (l, G, kX12_lastOf, wX12_lastOf G q_a0 q_a0_lengths q_a0_many q_a1 u_a0_thrown u_a0_trace u_a0_text u_a0_typed u_a0_next u_a0_token u_a0_place u_a0_value u_a0_fault u_a0_slow u_a0_deaf u_a0_told u_a0_s u_a0_w u_a0_kept u_a0_isKept u_a0_undos u_a0_undoMany u_a0_heardBy u_a0_heardAt u_a0_heardMany u_a0_tellsAt u_a0_tellMany u_a0_metAt u_a0_metBeat u_a0_round u_a0_z m_a0_lengths m_a0_many m_a1, [.ref q_a0, .ref q_a1, .int l2], qE (some (.int out)) (wX12_lastOf G q_a0 q_a0_lengths q_a0_many q_a1 u_a0_thrown u_a0_trace u_a0_text u_a0_typed u_a0_next u_a0_token u_a0_place u_a0_value u_a0_fault u_a0_slow u_a0_deaf u_a0_told u_a0_s u_a0_w u_a0_kept u_a0_isKept u_a0_undos u_a0_undoMany u_a0_heardBy u_a0_heardAt u_a0_heardMany u_a0_tellsAt u_a0_tellMany u_a0_metAt u_a0_metBeat u_a0_round u_a0_z m_a0_lengths m_a0_many m_a1)) :=
  Ct.of [some (.ref q_a0), some (.ref q_a1), some (.int l2), none, none, none] kX12_lastOf_p rfl rfl rfl ((tX12_lastOf_0 (X := (l, G, kX12_lastOf, wX12_lastOf G q_a0 q_a0_lengths q_a0_many q_a1 u_a0_thrown u_a0_trace u_a0_text u_a0_typed u_a0_next u_a0_token u_a0_place u_a0_value u_a0_fault u_a0_slow u_a0_deaf u_a0_told u_a0_s u_a0_w u_a0_kept u_a0_isKept u_a0_undos u_a0_undoMany u_a0_heardBy u_a0_heardAt u_a0_heardMany u_a0_tellsAt u_a0_tellMany u_a0_metAt u_a0_metBeat u_a0_round u_a0_z m_a0_lengths m_a0_many m_a1, [.ref q_a0, .ref q_a1, .int l2], qE (some (.int out)) (wX12_lastOf G q_a0 q_a0_lengths q_a0_many q_a1 u_a0_thrown u_a0_trace u_a0_text u_a0_typed u_a0_next u_a0_token u_a0_place u_a0_value u_a0_fault u_a0_slow u_a0_deaf u_a0_told u_a0_s u_a0_w u_a0_kept u_a0_isKept u_a0_undos u_a0_undoMany u_a0_heardBy u_a0_heardAt u_a0_heardMany u_a0_tellsAt u_a0_tellMany u_a0_metAt u_a0_metBeat u_a0_round u_a0_z m_a0_lengths m_a0_many m_a1))) rfl rfl hf))

theorem lkb_X12_lastOf : LkB kX12_lastOf 2 := ⟨kw_4_190, kw_1_13, ⟨by decide, by decide⟩, by decide +kernel, by decide⟩
theorem lkV_X12_144 : LkV "FarDrumModel" 144 kX12_lastOf 2 := ⟨lkb_X12_lastOf, kw_4_187, kw_4_189, kp_39⟩
def wX12_goes (G : GT) (q_a0 : Nat) (q_a0_lengths : Nat) (q_a0_many : Nat) (q_a1 : Nat) (u_a0_thrown : Value) (u_a0_trace : Value) (u_a0_text : Value) (u_a0_typed : Value) (u_a0_next : Value) (u_a0_token : Value) (u_a0_place : Value) (u_a0_value : Value) (u_a0_fault : Value) (u_a0_slow : Value) (u_a0_deaf : Value) (u_a0_told : Value) (u_a0_s : Value) (u_a0_w : Value) (u_a0_kept : Value) (u_a0_isKept : Value) (u_a0_undos : Value) (u_a0_undoMany : Value) (u_a0_heardBy : Value) (u_a0_heardAt : Value) (u_a0_heardMany : Value) (u_a0_tellsAt : Value) (u_a0_tellMany : Value) (u_a0_metAt : Value) (u_a0_metBeat : Value) (u_a0_round : Value) (u_a0_z : Value) (m_a0_lengths : Nat → Int32) (m_a0_many : Nat → Int32) (m_a1 : Nat → Int32) : va_W := [(q_a0, .inr (12, [u_a0_thrown, u_a0_trace, u_a0_text, u_a0_typed, u_a0_next, u_a0_token, u_a0_place, u_a0_value, u_a0_fault, .ref q_a0_many, u_a0_slow, u_a0_deaf, .ref q_a0_lengths, u_a0_told, u_a0_s, u_a0_w, u_a0_kept, u_a0_isKept, u_a0_undos, u_a0_undoMany, u_a0_heardBy, u_a0_heardAt, u_a0_heardMany, u_a0_tellsAt, u_a0_tellMany, u_a0_metAt, u_a0_metBeat, u_a0_round, u_a0_z])), (q_a0_lengths, .inl (G.2 0, 72, .inl m_a0_lengths)), (q_a0_many, .inl (G.2 0, 6, .inl m_a0_many)), (q_a1, .inl (G.2 0, 35, .inl m_a1))]
def kX12_goes : KT := (yX12_goes, cX12_goes, 3, (some .boolean), 2, 0, 0)
theorem kX12_goes_r : kr kX12_goes = (some .boolean) ∧ kmc kX12_goes = 0 ∧ kms kX12_goes = 0 := ⟨rfl, rfl, rfl⟩
theorem kX12_goes_p : plainName (ky kX12_goes).cls = true := by decide +kernel
def fX12_goes (N : Nat) (m_a0_lengths : Nat → Int32) (m_a0_many : Nat → Int32) (m_a1 : Nat → Int32) : Option (Int32 × (Nat → Int32)) :=
  if (m_a0_many 0) = 0 then (some ((0 : Int32), m_a1))
  else (Option.bind (fX12_lastOf N (m_a1 2) m_a0_lengths m_a0_many m_a1) fun o16 =>
  if o16 = (-9 : Int32) then (some ((0 : Int32), m_a1))
  else (Option.bind (fX12_hearsIn N o16 (m_a1 2) m_a0_lengths m_a0_many m_a1) fun o38 =>
  rdi 35 m_a1 ((4 : Int32) + o16) fun x45 =>
  lti (upd m_a1 1 ((m_a1 1) + (o38 + x45))) fun g48 =>
  lti (upd g48 2 o16) fun g52 =>
  lti (upd g52 0 ((g52 0) + (1 : Int32))) fun g59 =>
  rdi 35 g59 ((29 : Int32) + o16) fun x66 =>
  wri 35 g59 ((29 : Int32) + o16) (x66 + (1 : Int32)) fun g69 =>
  some ((1 : Int32), g69)))
section
variable {X : XT} {N : Nat} {q_a0 : Nat} {q_a0_lengths : Nat} {q_a0_many : Nat} {q_a1 : Nat} {u_a0_thrown : Value} {u_a0_trace : Value} {u_a0_text : Value} {u_a0_typed : Value} {u_a0_next : Value} {u_a0_token : Value} {u_a0_place : Value} {u_a0_value : Value} {u_a0_fault : Value} {u_a0_slow : Value} {u_a0_deaf : Value} {u_a0_told : Value} {u_a0_s : Value} {u_a0_w : Value} {u_a0_kept : Value} {u_a0_isKept : Value} {u_a0_undos : Value} {u_a0_undoMany : Value} {u_a0_heardBy : Value} {u_a0_heardAt : Value} {u_a0_heardMany : Value} {u_a0_tellsAt : Value} {u_a0_tellMany : Value} {u_a0_metAt : Value} {u_a0_metBeat : Value} {u_a0_round : Value} {u_a0_z : Value} {m_a0_lengths : Nat → Int32} {m_a0_many : Nat → Int32} {m_a1 : Nat → Int32}
set_option maxRecDepth 20000 in
theorem tX12_goes_0 {out : Int32 × (Nat → Int32)} (hX : xk X = kX12_goes) (hQ : xQ X = qE (some (.int out.1)) (wX12_goes (xG X) q_a0 q_a0_lengths q_a0_many q_a1 u_a0_thrown u_a0_trace u_a0_text u_a0_typed u_a0_next u_a0_token u_a0_place u_a0_value u_a0_fault u_a0_slow u_a0_deaf u_a0_told u_a0_s u_a0_w u_a0_kept u_a0_isKept u_a0_undos u_a0_undoMany u_a0_heardBy u_a0_heardAt u_a0_heardMany u_a0_tellsAt u_a0_tellMany u_a0_metAt u_a0_metBeat u_a0_round u_a0_z m_a0_lengths m_a0_many out.2)) (hf : fX12_goes N m_a0_lengths m_a0_many m_a1 = some out) : V X cX12_goes "FarDrumModel" 0 0 (wX12_goes (xG X) q_a0 q_a0_lengths q_a0_many q_a1 u_a0_thrown u_a0_trace u_a0_text u_a0_typed u_a0_next u_a0_token u_a0_place u_a0_value u_a0_fault u_a0_slow u_a0_deaf u_a0_told u_a0_s u_a0_w u_a0_kept u_a0_isKept u_a0_undos u_a0_undoMany u_a0_heardBy u_a0_heardAt u_a0_heardMany u_a0_tellsAt u_a0_tellMany u_a0_metAt u_a0_metBeat u_a0_round u_a0_z m_a0_lengths m_a0_many m_a1) [some (.ref q_a0), some (.ref q_a1), none] 0 [] := by
  unfold fX12_goes at hf
  refine V.aloadn (pc := 0) dX12_goes_0 rfl ?_
  refine V.getf (q := 0) (pc := 1) dX12_goes_1 fk_X12_13_12 rfl rfl ?_
  refine V.iconst (pc := 4) (v := 0) dX12_goes_4 (by decide) ?_
  refine V.ialdC (pc := 5) (q := 2) 0 dX12_goes_5 rfl ⟨vp_c (by decide), by decide⟩ ?_
  refine V.if_ne (pc := 6) (tgt := 11) dX12_goes_6 (by decide) hf (fun hf => ?_) (fun hf => ?_)
  · refine V.aloadn (pc := 11) dX12_goes_11 rfl ?_
    refine V.aloadn (pc := 12) dX12_goes_12 rfl ?_
    refine V.aloadn (pc := 13) dX12_goes_13 rfl ?_
    refine V.iconst (pc := 14) (v := 2) dX12_goes_14 (by decide) ?_
    refine V.ialdC (pc := 15) (q := 3) 2 dX12_goes_15 rfl ⟨vp_c (by decide), by decide⟩ ?_
    refine V.callVi (pc := 16) (q := 0) (wr := []) (wd' := fun o16 => wX12_goes (xG X) q_a0 q_a0_lengths q_a0_many q_a1 u_a0_thrown u_a0_trace u_a0_text u_a0_typed u_a0_next u_a0_token u_a0_place u_a0_value u_a0_fault u_a0_slow u_a0_deaf u_a0_told u_a0_s u_a0_w u_a0_kept u_a0_isKept u_a0_undos u_a0_undoMany u_a0_heardBy u_a0_heardAt u_a0_heardMany u_a0_tellsAt u_a0_tellMany u_a0_metAt u_a0_metBeat u_a0_round u_a0_z m_a0_lengths m_a0_many m_a1) [.ref q_a1, .int (m_a1 2)] (st := []) hf (fun _ h => oX12_lastOf (q_a0 := q_a0) (q_a0_lengths := q_a0_lengths) (q_a0_many := q_a0_many) (q_a1 := q_a1) (u_a0_thrown := u_a0_thrown) (u_a0_trace := u_a0_trace) (u_a0_text := u_a0_text) (u_a0_typed := u_a0_typed) (u_a0_next := u_a0_next) (u_a0_token := u_a0_token) (u_a0_place := u_a0_place) (u_a0_value := u_a0_value) (u_a0_fault := u_a0_fault) (u_a0_slow := u_a0_slow) (u_a0_deaf := u_a0_deaf) (u_a0_told := u_a0_told) (u_a0_s := u_a0_s) (u_a0_w := u_a0_w) (u_a0_kept := u_a0_kept) (u_a0_isKept := u_a0_isKept) (u_a0_undos := u_a0_undos) (u_a0_undoMany := u_a0_undoMany) (u_a0_heardBy := u_a0_heardBy) (u_a0_heardAt := u_a0_heardAt) (u_a0_heardMany := u_a0_heardMany) (u_a0_tellsAt := u_a0_tellsAt) (u_a0_tellMany := u_a0_tellMany) (u_a0_metAt := u_a0_metAt) (u_a0_metBeat := u_a0_metBeat) (u_a0_round := u_a0_round) (u_a0_z := u_a0_z) (m_a0_lengths := m_a0_lengths) (m_a0_many := m_a0_many) (m_a1 := m_a1) (l2 := (m_a1 2)) h) lkV_X12_144 dX12_goes_16 hX rfl ⟨rfl, rfl⟩ ⟨rfl, rfl⟩ rfl rfl rfl rfl rfl [0, 1, 2, 3] [] [0, 1, 2, 3] rfl rfl rfl rfl rfl (fun _ => rfl) rfl (fun o16 hf => ?_)
    refine V.istoren (pc := 19) dX12_goes_19 rfl rfl rfl ?_
    refine V.iloadn (pc := 20) dX12_goes_20 rfl ?_
    refine V.bipush (pc := 21) (v := -9) dX12_goes_21 (by decide) ?_
    refine V.icmp_ne (pc := 23) (tgt := 28) dX12_goes_23 (by decide) hf (fun hf => ?_) (fun hf => ?_)
    · refine V.aloadn (pc := 28) dX12_goes_28 rfl ?_
      refine V.iconst (pc := 29) (v := 1) dX12_goes_29 (by decide) ?_
      refine V.dup2 (pc := 30) dX12_goes_30 ⟨rfl, rfl⟩ ?_
      refine V.ialdC (pc := 31) (q := 3) 1 dX12_goes_31 rfl ⟨vp_c (by decide), by decide⟩ ?_
      refine V.aloadn (pc := 32) dX12_goes_32 rfl ?_
      refine V.aloadn (pc := 33) dX12_goes_33 rfl ?_
      refine V.iloadn (pc := 34) dX12_goes_34 rfl ?_
      refine V.aloadn (pc := 35) dX12_goes_35 rfl ?_
      refine V.iconst (pc := 36) (v := 2) dX12_goes_36 (by decide) ?_
      refine V.ialdC (pc := 37) (q := 3) 2 dX12_goes_37 rfl ⟨vp_c (by decide), by decide⟩ ?_
      refine V.callVi (pc := 38) (q := 0) (wr := []) (wd' := fun o38 => wX12_goes (xG X) q_a0 q_a0_lengths q_a0_many q_a1 u_a0_thrown u_a0_trace u_a0_text u_a0_typed u_a0_next u_a0_token u_a0_place u_a0_value u_a0_fault u_a0_slow u_a0_deaf u_a0_told u_a0_s u_a0_w u_a0_kept u_a0_isKept u_a0_undos u_a0_undoMany u_a0_heardBy u_a0_heardAt u_a0_heardMany u_a0_tellsAt u_a0_tellMany u_a0_metAt u_a0_metBeat u_a0_round u_a0_z m_a0_lengths m_a0_many m_a1) [.ref q_a1, .int o16, .int (m_a1 2)] (st := [.int (m_a1 1), .int (1 : Int32), .ref q_a1]) hf (fun _ h => oX12_hearsIn (q_a0 := q_a0) (q_a0_lengths := q_a0_lengths) (q_a0_many := q_a0_many) (q_a1 := q_a1) (u_a0_thrown := u_a0_thrown) (u_a0_trace := u_a0_trace) (u_a0_text := u_a0_text) (u_a0_typed := u_a0_typed) (u_a0_next := u_a0_next) (u_a0_token := u_a0_token) (u_a0_place := u_a0_place) (u_a0_value := u_a0_value) (u_a0_fault := u_a0_fault) (u_a0_slow := u_a0_slow) (u_a0_deaf := u_a0_deaf) (u_a0_told := u_a0_told) (u_a0_s := u_a0_s) (u_a0_w := u_a0_w) (u_a0_kept := u_a0_kept) (u_a0_isKept := u_a0_isKept) (u_a0_undos := u_a0_undos) (u_a0_undoMany := u_a0_undoMany) (u_a0_heardBy := u_a0_heardBy) (u_a0_heardAt := u_a0_heardAt) (u_a0_heardMany := u_a0_heardMany) (u_a0_tellsAt := u_a0_tellsAt) (u_a0_tellMany := u_a0_tellMany) (u_a0_metAt := u_a0_metAt) (u_a0_metBeat := u_a0_metBeat) (u_a0_round := u_a0_round) (u_a0_z := u_a0_z) (m_a0_lengths := m_a0_lengths) (m_a0_many := m_a0_many) (m_a1 := m_a1) (l2 := o16) (l3 := (m_a1 2)) h) lkV_X12_140 dX12_goes_38 hX rfl ⟨rfl, rfl⟩ ⟨rfl, rfl⟩ rfl rfl rfl rfl rfl [0, 1, 2, 3] [] [0, 1, 2, 3] rfl rfl rfl rfl rfl (fun _ => rfl) rfl (fun o38 hf => ?_)
      refine V.aloadn (pc := 41) dX12_goes_41 rfl ?_
      refine V.iconst (pc := 42) (v := 4) dX12_goes_42 (by decide) ?_
      refine V.iloadn (pc := 43) dX12_goes_43 rfl ?_
      refine V.iadd (pc := 44) dX12_goes_44 ?_
      refine V.iald (pc := 45) (q := 3) dX12_goes_45 rfl hf (fun x45 hf => ?_)
      refine V.iadd (pc := 46) dX12_goes_46 ?_
      refine V.iadd (pc := 47) dX12_goes_47 ?_
      refine V.iastC (pc := 48) (q := 3) (wd' := fun g48 => wX12_goes (xG X) q_a0 q_a0_lengths q_a0_many q_a1 u_a0_thrown u_a0_trace u_a0_text u_a0_typed u_a0_next u_a0_token u_a0_place u_a0_value u_a0_fault u_a0_slow u_a0_deaf u_a0_told u_a0_s u_a0_w u_a0_kept u_a0_isKept u_a0_undos u_a0_undoMany u_a0_heardBy u_a0_heardAt u_a0_heardMany u_a0_tellsAt u_a0_tellMany u_a0_metAt u_a0_metBeat u_a0_round u_a0_z m_a0_lengths m_a0_many g48) 1 dX12_goes_48 rfl ⟨vp_c (by decide), by decide⟩ hf (fun _ => rfl) (fun g48 hf => ?_)
      refine V.aloadn (pc := 49) dX12_goes_49 rfl ?_
      refine V.iconst (pc := 50) (v := 2) dX12_goes_50 (by decide) ?_
      refine V.iloadn (pc := 51) dX12_goes_51 rfl ?_
      refine V.iastC (pc := 52) (q := 3) (wd' := fun g52 => wX12_goes (xG X) q_a0 q_a0_lengths q_a0_many q_a1 u_a0_thrown u_a0_trace u_a0_text u_a0_typed u_a0_next u_a0_token u_a0_place u_a0_value u_a0_fault u_a0_slow u_a0_deaf u_a0_told u_a0_s u_a0_w u_a0_kept u_a0_isKept u_a0_undos u_a0_undoMany u_a0_heardBy u_a0_heardAt u_a0_heardMany u_a0_tellsAt u_a0_tellMany u_a0_metAt u_a0_metBeat u_a0_round u_a0_z m_a0_lengths m_a0_many g52) 2 dX12_goes_52 rfl ⟨vp_c (by decide), by decide⟩ hf (fun _ => rfl) (fun g52 hf => ?_)
      refine V.aloadn (pc := 53) dX12_goes_53 rfl ?_
      refine V.iconst (pc := 54) (v := 0) dX12_goes_54 (by decide) ?_
      refine V.dup2 (pc := 55) dX12_goes_55 ⟨rfl, rfl⟩ ?_
      refine V.ialdC (pc := 56) (q := 3) 0 dX12_goes_56 rfl ⟨vp_c (by decide), by decide⟩ ?_
      refine V.iconst (pc := 57) (v := 1) dX12_goes_57 (by decide) ?_
      refine V.iadd (pc := 58) dX12_goes_58 ?_
      refine V.iastC (pc := 59) (q := 3) (wd' := fun g59 => wX12_goes (xG X) q_a0 q_a0_lengths q_a0_many q_a1 u_a0_thrown u_a0_trace u_a0_text u_a0_typed u_a0_next u_a0_token u_a0_place u_a0_value u_a0_fault u_a0_slow u_a0_deaf u_a0_told u_a0_s u_a0_w u_a0_kept u_a0_isKept u_a0_undos u_a0_undoMany u_a0_heardBy u_a0_heardAt u_a0_heardMany u_a0_tellsAt u_a0_tellMany u_a0_metAt u_a0_metBeat u_a0_round u_a0_z m_a0_lengths m_a0_many g59) 0 dX12_goes_59 rfl ⟨vp_c (by decide), by decide⟩ hf (fun _ => rfl) (fun g59 hf => ?_)
      refine V.aloadn (pc := 60) dX12_goes_60 rfl ?_
      refine V.bipush (pc := 61) (v := 29) dX12_goes_61 (by decide) ?_
      refine V.iloadn (pc := 63) dX12_goes_63 rfl ?_
      refine V.iadd (pc := 64) dX12_goes_64 ?_
      refine V.dup2 (pc := 65) dX12_goes_65 ⟨rfl, rfl⟩ ?_
      refine V.iald (pc := 66) (q := 3) dX12_goes_66 rfl hf (fun x66 hf => ?_)
      refine V.iconst (pc := 67) (v := 1) dX12_goes_67 (by decide) ?_
      refine V.iadd (pc := 68) dX12_goes_68 ?_
      refine V.iast (pc := 69) (q := 3) (wd' := fun g69 => wX12_goes (xG X) q_a0 q_a0_lengths q_a0_many q_a1 u_a0_thrown u_a0_trace u_a0_text u_a0_typed u_a0_next u_a0_token u_a0_place u_a0_value u_a0_fault u_a0_slow u_a0_deaf u_a0_told u_a0_s u_a0_w u_a0_kept u_a0_isKept u_a0_undos u_a0_undoMany u_a0_heardBy u_a0_heardAt u_a0_heardMany u_a0_tellsAt u_a0_tellMany u_a0_metAt u_a0_metBeat u_a0_round u_a0_z m_a0_lengths m_a0_many g69) dX12_goes_69 rfl hf (fun _ => rfl) (fun g69 hf => ?_)
      refine V.iconst (pc := 70) (v := 1) dX12_goes_70 (by decide) ?_
      exact V.zretE (pc := 71) hX kX12_goes_r hQ rfl dX12_goes_71 (by cases hf; rfl) (by cases hf; rfl)
    · refine V.iconst (pc := 26) (v := 0) dX12_goes_26 (by decide) ?_
      exact V.zretE (pc := 27) hX kX12_goes_r hQ rfl dX12_goes_27 (by cases hf; rfl) (by cases hf; rfl)
  · refine V.iconst (pc := 9) (v := 0) dX12_goes_9 (by decide) ?_
    exact V.zretE (pc := 10) hX kX12_goes_r hQ rfl dX12_goes_10 (by cases hf; rfl) (by cases hf; rfl)
end
theorem oX12_goes {l : Launch} {G : GT} {N : Nat} {q_a0 : Nat} {q_a0_lengths : Nat} {q_a0_many : Nat} {q_a1 : Nat} {u_a0_thrown : Value} {u_a0_trace : Value} {u_a0_text : Value} {u_a0_typed : Value} {u_a0_next : Value} {u_a0_token : Value} {u_a0_place : Value} {u_a0_value : Value} {u_a0_fault : Value} {u_a0_slow : Value} {u_a0_deaf : Value} {u_a0_told : Value} {u_a0_s : Value} {u_a0_w : Value} {u_a0_kept : Value} {u_a0_isKept : Value} {u_a0_undos : Value} {u_a0_undoMany : Value} {u_a0_heardBy : Value} {u_a0_heardAt : Value} {u_a0_heardMany : Value} {u_a0_tellsAt : Value} {u_a0_tellMany : Value} {u_a0_metAt : Value} {u_a0_metBeat : Value} {u_a0_round : Value} {u_a0_z : Value} {m_a0_lengths : Nat → Int32} {m_a0_many : Nat → Int32} {m_a1 : Nat → Int32} {out : Int32 × (Nat → Int32)} (hf : fX12_goes N m_a0_lengths m_a0_many m_a1 = some out) : Ct (l, G, kX12_goes, wX12_goes G q_a0 q_a0_lengths q_a0_many q_a1 u_a0_thrown u_a0_trace u_a0_text u_a0_typed u_a0_next u_a0_token u_a0_place u_a0_value u_a0_fault u_a0_slow u_a0_deaf u_a0_told u_a0_s u_a0_w u_a0_kept u_a0_isKept u_a0_undos u_a0_undoMany u_a0_heardBy u_a0_heardAt u_a0_heardMany u_a0_tellsAt u_a0_tellMany u_a0_metAt u_a0_metBeat u_a0_round u_a0_z m_a0_lengths m_a0_many m_a1, [.ref q_a0, .ref q_a1], qE (some (.int out.1)) (wX12_goes G q_a0 q_a0_lengths q_a0_many q_a1 u_a0_thrown u_a0_trace u_a0_text u_a0_typed u_a0_next u_a0_token u_a0_place u_a0_value u_a0_fault u_a0_slow u_a0_deaf u_a0_told u_a0_s u_a0_w u_a0_kept u_a0_isKept u_a0_undos u_a0_undoMany u_a0_heardBy u_a0_heardAt u_a0_heardMany u_a0_tellsAt u_a0_tellMany u_a0_metAt u_a0_metBeat u_a0_round u_a0_z m_a0_lengths m_a0_many out.2)) :=
  Ct.of [some (.ref q_a0), some (.ref q_a1), none] kX12_goes_p rfl rfl rfl ((tX12_goes_0 (X := (l, G, kX12_goes, wX12_goes G q_a0 q_a0_lengths q_a0_many q_a1 u_a0_thrown u_a0_trace u_a0_text u_a0_typed u_a0_next u_a0_token u_a0_place u_a0_value u_a0_fault u_a0_slow u_a0_deaf u_a0_told u_a0_s u_a0_w u_a0_kept u_a0_isKept u_a0_undos u_a0_undoMany u_a0_heardBy u_a0_heardAt u_a0_heardMany u_a0_tellsAt u_a0_tellMany u_a0_metAt u_a0_metBeat u_a0_round u_a0_z m_a0_lengths m_a0_many m_a1, [.ref q_a0, .ref q_a1], qE (some (.int out.1)) (wX12_goes G q_a0 q_a0_lengths q_a0_many q_a1 u_a0_thrown u_a0_trace u_a0_text u_a0_typed u_a0_next u_a0_token u_a0_place u_a0_value u_a0_fault u_a0_slow u_a0_deaf u_a0_told u_a0_s u_a0_w u_a0_kept u_a0_isKept u_a0_undos u_a0_undoMany u_a0_heardBy u_a0_heardAt u_a0_heardMany u_a0_tellsAt u_a0_tellMany u_a0_metAt u_a0_metBeat u_a0_round u_a0_z m_a0_lengths m_a0_many out.2))) rfl rfl hf))

theorem fk_X12_28_12 : Fk "FarDrumModel" 28 12 15 := ⟨RX12, TX12, 29, "FarDrumModel", rfl, inX12, by decide, kw_4_23, Or.inl rfl⟩
theorem fk_X12_25_12 : Fk "FarDrumModel" 25 12 14 := ⟨RX12, TX12, 29, "FarDrumModel", rfl, inX12, by decide, kw_4_22, Or.inl rfl⟩
def wX12_asNow (G : GT) (q_a0 : Nat) (q_a0_s : Nat) (q_a0_w : Nat) (u_a0_thrown : Value) (u_a0_trace : Value) (u_a0_text : Value) (u_a0_typed : Value) (u_a0_next : Value) (u_a0_token : Value) (u_a0_place : Value) (u_a0_value : Value) (u_a0_fault : Value) (u_a0_many : Value) (u_a0_slow : Value) (u_a0_deaf : Value) (u_a0_lengths : Value) (u_a0_told : Value) (u_a0_kept : Value) (u_a0_isKept : Value) (u_a0_undos : Value) (u_a0_undoMany : Value) (u_a0_heardBy : Value) (u_a0_heardAt : Value) (u_a0_heardMany : Value) (u_a0_tellsAt : Value) (u_a0_tellMany : Value) (u_a0_metAt : Value) (u_a0_metBeat : Value) (u_a0_round : Value) (u_a0_z : Value) (m_a0_s : Nat → Int32) (m_a0_w : Nat → Int32) : va_W := [(q_a0, .inr (12, [u_a0_thrown, u_a0_trace, u_a0_text, u_a0_typed, u_a0_next, u_a0_token, u_a0_place, u_a0_value, u_a0_fault, u_a0_many, u_a0_slow, u_a0_deaf, u_a0_lengths, u_a0_told, .ref q_a0_s, .ref q_a0_w, u_a0_kept, u_a0_isKept, u_a0_undos, u_a0_undoMany, u_a0_heardBy, u_a0_heardAt, u_a0_heardMany, u_a0_tellsAt, u_a0_tellMany, u_a0_metAt, u_a0_metBeat, u_a0_round, u_a0_z])), (q_a0_s, .inl (G.2 0, 35, .inl m_a0_s)), (q_a0_w, .inl (G.2 0, 35, .inl m_a0_w))]
def kX12_asNow : KT := (yX12_asNow, cX12_asNow, 2, none, 0, 0, 0)
theorem kX12_asNow_r : kr kX12_asNow = none ∧ kmc kX12_asNow = 0 ∧ kms kX12_asNow = 0 := ⟨rfl, rfl, rfl⟩
theorem kX12_asNow_p : plainName (ky kX12_asNow).cls = true := by decide +kernel
def fX12_asNow_2 (B2 : Int32 → (Nat → Int32) → Option ((Nat → Int32))) (K2_26 : (Nat → Int32) → Option ((Nat → Int32))) (l1 : Int32) (m_a0_s : Nat → Int32) (m_a0_w : Nat → Int32) : Option ((Nat → Int32)) :=
  if (35 : Int32) ≤ l1 then (K2_26 m_a0_w)
  else (rdi 35 m_a0_s l1 fun x18 =>
  wri 35 m_a0_w l1 x18 fun g19 =>
  B2 (l1 + (1 : Int32)) g19)
def fX12_asNow_L2 (m_a0_s : Nat → Int32) (K2_26 : (Nat → Int32) → Option ((Nat → Int32))) : Nat → Int32 → (Nat → Int32) → Option ((Nat → Int32))
  | 0, _, _ => none
  | n + 1, l1, m_a0_w => fX12_asNow_2 (fX12_asNow_L2 m_a0_s K2_26 n) K2_26 l1 m_a0_s m_a0_w
def fX12_asNow (N : Nat) (m_a0_s : Nat → Int32) (m_a0_w : Nat → Int32) : Option ((Nat → Int32)) :=
  fX12_asNow_L2 m_a0_s
      (fun m_a0_wk2_26 => some m_a0_wk2_26) N (0 : Int32) m_a0_w
section
variable {X : XT} {N : Nat} {q_a0 : Nat} {q_a0_s : Nat} {q_a0_w : Nat} {u_a0_thrown : Value} {u_a0_trace : Value} {u_a0_text : Value} {u_a0_typed : Value} {u_a0_next : Value} {u_a0_token : Value} {u_a0_place : Value} {u_a0_value : Value} {u_a0_fault : Value} {u_a0_many : Value} {u_a0_slow : Value} {u_a0_deaf : Value} {u_a0_lengths : Value} {u_a0_told : Value} {u_a0_kept : Value} {u_a0_isKept : Value} {u_a0_undos : Value} {u_a0_undoMany : Value} {u_a0_heardBy : Value} {u_a0_heardAt : Value} {u_a0_heardMany : Value} {u_a0_tellsAt : Value} {u_a0_tellMany : Value} {u_a0_metAt : Value} {u_a0_metBeat : Value} {u_a0_round : Value} {u_a0_z : Value} {m_a0_s : Nat → Int32} {m_a0_w : Nat → Int32} {l1 : Int32}
set_option maxRecDepth 20000 in
theorem tX12_asNow_2 {out : (Nat → Int32)} (hX : xk X = kX12_asNow) (hQ : xQ X = qE none (wX12_asNow (xG X) q_a0 q_a0_s q_a0_w u_a0_thrown u_a0_trace u_a0_text u_a0_typed u_a0_next u_a0_token u_a0_place u_a0_value u_a0_fault u_a0_many u_a0_slow u_a0_deaf u_a0_lengths u_a0_told u_a0_kept u_a0_isKept u_a0_undos u_a0_undoMany u_a0_heardBy u_a0_heardAt u_a0_heardMany u_a0_tellsAt u_a0_tellMany u_a0_metAt u_a0_metBeat u_a0_round u_a0_z m_a0_s out)) {B2 : Int32 → (Nat → Int32) → Option ((Nat → Int32))} {K2_26 : (Nat → Int32) → Option ((Nat → Int32))} (hB2 : ∀ (l1 : Int32) (m_a0_w : Nat → Int32), B2 l1 m_a0_w = some out → V X cX12_asNow "FarDrumModel" 0 0 (wX12_asNow (xG X) q_a0 q_a0_s q_a0_w u_a0_thrown u_a0_trace u_a0_text u_a0_typed u_a0_next u_a0_token u_a0_place u_a0_value u_a0_fault u_a0_many u_a0_slow u_a0_deaf u_a0_lengths u_a0_told u_a0_kept u_a0_isKept u_a0_undos u_a0_undoMany u_a0_heardBy u_a0_heardAt u_a0_heardMany u_a0_tellsAt u_a0_tellMany u_a0_metAt u_a0_metBeat u_a0_round u_a0_z m_a0_s m_a0_w) [some (.ref q_a0), some (.int l1)] 2 []) (hK2_26 : ∀ (m_a0_w : Nat → Int32), K2_26 m_a0_w = some out → V X cX12_asNow "FarDrumModel" 0 0 (wX12_asNow (xG X) q_a0 q_a0_s q_a0_w u_a0_thrown u_a0_trace u_a0_text u_a0_typed u_a0_next u_a0_token u_a0_place u_a0_value u_a0_fault u_a0_many u_a0_slow u_a0_deaf u_a0_lengths u_a0_told u_a0_kept u_a0_isKept u_a0_undos u_a0_undoMany u_a0_heardBy u_a0_heardAt u_a0_heardMany u_a0_tellsAt u_a0_tellMany u_a0_metAt u_a0_metBeat u_a0_round u_a0_z m_a0_s m_a0_w) [none, none] 26 []) (hf : fX12_asNow_2 B2 K2_26 l1 m_a0_s m_a0_w = some out) : V X cX12_asNow "FarDrumModel" 0 0 (wX12_asNow (xG X) q_a0 q_a0_s q_a0_w u_a0_thrown u_a0_trace u_a0_text u_a0_typed u_a0_next u_a0_token u_a0_place u_a0_value u_a0_fault u_a0_many u_a0_slow u_a0_deaf u_a0_lengths u_a0_told u_a0_kept u_a0_isKept u_a0_undos u_a0_undoMany u_a0_heardBy u_a0_heardAt u_a0_heardMany u_a0_tellsAt u_a0_tellMany u_a0_metAt u_a0_metBeat u_a0_round u_a0_z m_a0_s m_a0_w) [some (.ref q_a0), some (.int l1)] 2 [] := by
  unfold fX12_asNow_2 at hf
  refine V.iloadn (pc := 2) dX12_asNow_2 rfl ?_
  refine V.bipush (pc := 3) (v := 35) dX12_asNow_3 (by decide) ?_
  refine V.icmp_ge (pc := 5) (tgt := 26) dX12_asNow_5 (by decide) hf (fun hf => ?_) (fun hf => ?_)
  · refine V.mask (pc := 26) [false, false] rfl rfl ?_
    exact hK2_26 _ hf
  · refine V.aloadn (pc := 8) dX12_asNow_8 rfl ?_
    refine V.getf (q := 0) (pc := 9) dX12_asNow_9 fk_X12_28_12 rfl rfl ?_
    refine V.iloadn (pc := 12) dX12_asNow_12 rfl ?_
    refine V.aloadn (pc := 13) dX12_asNow_13 rfl ?_
    refine V.getf (q := 0) (pc := 14) dX12_asNow_14 fk_X12_25_12 rfl rfl ?_
    refine V.iloadn (pc := 17) dX12_asNow_17 rfl ?_
    refine V.iald (pc := 18) (q := 1) dX12_asNow_18 rfl hf (fun x18 hf => ?_)
    refine V.iast (pc := 19) (q := 2) (wd' := fun g19 => wX12_asNow (xG X) q_a0 q_a0_s q_a0_w u_a0_thrown u_a0_trace u_a0_text u_a0_typed u_a0_next u_a0_token u_a0_place u_a0_value u_a0_fault u_a0_many u_a0_slow u_a0_deaf u_a0_lengths u_a0_told u_a0_kept u_a0_isKept u_a0_undos u_a0_undoMany u_a0_heardBy u_a0_heardAt u_a0_heardMany u_a0_tellsAt u_a0_tellMany u_a0_metAt u_a0_metBeat u_a0_round u_a0_z m_a0_s g19) dX12_asNow_19 rfl hf (fun _ => rfl) (fun g19 hf => ?_)
    refine V.iinc (pc := 20) (v := 1) dX12_asNow_20 rfl rfl (by decide) rfl ?_
    refine V.goto (pc := 23) (tgt := 2) dX12_asNow_23 (by decide) ?_
    exact hB2 _ _ hf
theorem tX12_asNow_L2 {out : (Nat → Int32)} (hX : xk X = kX12_asNow) (hQ : xQ X = qE none (wX12_asNow (xG X) q_a0 q_a0_s q_a0_w u_a0_thrown u_a0_trace u_a0_text u_a0_typed u_a0_next u_a0_token u_a0_place u_a0_value u_a0_fault u_a0_many u_a0_slow u_a0_deaf u_a0_lengths u_a0_told u_a0_kept u_a0_isKept u_a0_undos u_a0_undoMany u_a0_heardBy u_a0_heardAt u_a0_heardMany u_a0_tellsAt u_a0_tellMany u_a0_metAt u_a0_metBeat u_a0_round u_a0_z m_a0_s out)) {K2_26 : (Nat → Int32) → Option ((Nat → Int32))} (hK2_26 : ∀ (m_a0_w : Nat → Int32), K2_26 m_a0_w = some out → V X cX12_asNow "FarDrumModel" 0 0 (wX12_asNow (xG X) q_a0 q_a0_s q_a0_w u_a0_thrown u_a0_trace u_a0_text u_a0_typed u_a0_next u_a0_token u_a0_place u_a0_value u_a0_fault u_a0_many u_a0_slow u_a0_deaf u_a0_lengths u_a0_told u_a0_kept u_a0_isKept u_a0_undos u_a0_undoMany u_a0_heardBy u_a0_heardAt u_a0_heardMany u_a0_tellsAt u_a0_tellMany u_a0_metAt u_a0_metBeat u_a0_round u_a0_z m_a0_s m_a0_w) [none, none] 26 []) : ∀ (n : Nat) (l1 : Int32) (m_a0_w : Nat → Int32), fX12_asNow_L2 m_a0_s K2_26 n l1 m_a0_w = some out → V X cX12_asNow "FarDrumModel" 0 0 (wX12_asNow (xG X) q_a0 q_a0_s q_a0_w u_a0_thrown u_a0_trace u_a0_text u_a0_typed u_a0_next u_a0_token u_a0_place u_a0_value u_a0_fault u_a0_many u_a0_slow u_a0_deaf u_a0_lengths u_a0_told u_a0_kept u_a0_isKept u_a0_undos u_a0_undoMany u_a0_heardBy u_a0_heardAt u_a0_heardMany u_a0_tellsAt u_a0_tellMany u_a0_metAt u_a0_metBeat u_a0_round u_a0_z m_a0_s m_a0_w) [some (.ref q_a0), some (.int l1)] 2 [] := by
  intro n
  induction n with
  | zero => intro l1 m_a0_w hf; cases hf
  | succ n ih => intro l1 m_a0_w hf; exact tX12_asNow_2 hX hQ ih hK2_26 hf
set_option maxRecDepth 20000 in
theorem tX12_asNow_0 {out : (Nat → Int32)} (hX : xk X = kX12_asNow) (hQ : xQ X = qE none (wX12_asNow (xG X) q_a0 q_a0_s q_a0_w u_a0_thrown u_a0_trace u_a0_text u_a0_typed u_a0_next u_a0_token u_a0_place u_a0_value u_a0_fault u_a0_many u_a0_slow u_a0_deaf u_a0_lengths u_a0_told u_a0_kept u_a0_isKept u_a0_undos u_a0_undoMany u_a0_heardBy u_a0_heardAt u_a0_heardMany u_a0_tellsAt u_a0_tellMany u_a0_metAt u_a0_metBeat u_a0_round u_a0_z m_a0_s out)) (hf : fX12_asNow N m_a0_s m_a0_w = some out) : V X cX12_asNow "FarDrumModel" 0 0 (wX12_asNow (xG X) q_a0 q_a0_s q_a0_w u_a0_thrown u_a0_trace u_a0_text u_a0_typed u_a0_next u_a0_token u_a0_place u_a0_value u_a0_fault u_a0_many u_a0_slow u_a0_deaf u_a0_lengths u_a0_told u_a0_kept u_a0_isKept u_a0_undos u_a0_undoMany u_a0_heardBy u_a0_heardAt u_a0_heardMany u_a0_tellsAt u_a0_tellMany u_a0_metAt u_a0_metBeat u_a0_round u_a0_z m_a0_s m_a0_w) [some (.ref q_a0), none] 0 [] := by
  unfold fX12_asNow at hf
  refine V.iconst (pc := 0) (v := 0) dX12_asNow_0 (by decide) ?_
  refine V.istoren (pc := 1) dX12_asNow_1 rfl rfl rfl ?_
  refine tX12_asNow_L2 hX hQ ?_ _ _ _ hf
  · intro m_a0_wk2_26 hf
    exact V.vretE (pc := 26) hX kX12_asNow_r hQ dX12_asNow_26 (by cases hf; rfl) (by cases hf; rfl)
end
theorem oX12_asNow {l : Launch} {G : GT} {N : Nat} {q_a0 : Nat} {q_a0_s : Nat} {q_a0_w : Nat} {u_a0_thrown : Value} {u_a0_trace : Value} {u_a0_text : Value} {u_a0_typed : Value} {u_a0_next : Value} {u_a0_token : Value} {u_a0_place : Value} {u_a0_value : Value} {u_a0_fault : Value} {u_a0_many : Value} {u_a0_slow : Value} {u_a0_deaf : Value} {u_a0_lengths : Value} {u_a0_told : Value} {u_a0_kept : Value} {u_a0_isKept : Value} {u_a0_undos : Value} {u_a0_undoMany : Value} {u_a0_heardBy : Value} {u_a0_heardAt : Value} {u_a0_heardMany : Value} {u_a0_tellsAt : Value} {u_a0_tellMany : Value} {u_a0_metAt : Value} {u_a0_metBeat : Value} {u_a0_round : Value} {u_a0_z : Value} {m_a0_s : Nat → Int32} {m_a0_w : Nat → Int32} {out : (Nat → Int32)} (hf : fX12_asNow N m_a0_s m_a0_w = some out) : Ct (l, G, kX12_asNow, wX12_asNow G q_a0 q_a0_s q_a0_w u_a0_thrown u_a0_trace u_a0_text u_a0_typed u_a0_next u_a0_token u_a0_place u_a0_value u_a0_fault u_a0_many u_a0_slow u_a0_deaf u_a0_lengths u_a0_told u_a0_kept u_a0_isKept u_a0_undos u_a0_undoMany u_a0_heardBy u_a0_heardAt u_a0_heardMany u_a0_tellsAt u_a0_tellMany u_a0_metAt u_a0_metBeat u_a0_round u_a0_z m_a0_s m_a0_w, [.ref q_a0], qE none (wX12_asNow G q_a0 q_a0_s q_a0_w u_a0_thrown u_a0_trace u_a0_text u_a0_typed u_a0_next u_a0_token u_a0_place u_a0_value u_a0_fault u_a0_many u_a0_slow u_a0_deaf u_a0_lengths u_a0_told u_a0_kept u_a0_isKept u_a0_undos u_a0_undoMany u_a0_heardBy u_a0_heardAt u_a0_heardMany u_a0_tellsAt u_a0_tellMany u_a0_metAt u_a0_metBeat u_a0_round u_a0_z m_a0_s out)) :=
  Ct.of [some (.ref q_a0), none] kX12_asNow_p rfl rfl rfl ((tX12_asNow_0 (X := (l, G, kX12_asNow, wX12_asNow G q_a0 q_a0_s q_a0_w u_a0_thrown u_a0_trace u_a0_text u_a0_typed u_a0_next u_a0_token u_a0_place u_a0_value u_a0_fault u_a0_many u_a0_slow u_a0_deaf u_a0_lengths u_a0_told u_a0_kept u_a0_isKept u_a0_undos u_a0_undoMany u_a0_heardBy u_a0_heardAt u_a0_heardMany u_a0_tellsAt u_a0_tellMany u_a0_metAt u_a0_metBeat u_a0_round u_a0_z m_a0_s m_a0_w, [.ref q_a0], qE none (wX12_asNow G q_a0 q_a0_s q_a0_w u_a0_thrown u_a0_trace u_a0_text u_a0_typed u_a0_next u_a0_token u_a0_place u_a0_value u_a0_fault u_a0_many u_a0_slow u_a0_deaf u_a0_lengths u_a0_told u_a0_kept u_a0_isKept u_a0_undos u_a0_undoMany u_a0_heardBy u_a0_heardAt u_a0_heardMany u_a0_tellsAt u_a0_tellMany u_a0_metAt u_a0_metBeat u_a0_round u_a0_z m_a0_s out))) rfl rfl hf))

theorem lkb_X12_goes : LkB kX12_goes 1 := ⟨kw_4_186, kw_1_13, ⟨by decide, by decide⟩, by decide +kernel, by decide⟩
theorem lkV_X12_151 : LkV "FarDrumModel" 151 kX12_goes 1 := ⟨lkb_X12_goes, kw_4_183, kw_4_185, kp_38⟩
def wX12_endsIn (G : GT) (q_a0 : Nat) (q_a0_lengths : Nat) (q_a0_many : Nat) (q_a1 : Nat) (u_a0_thrown : Value) (u_a0_trace : Value) (u_a0_text : Value) (u_a0_typed : Value) (u_a0_next : Value) (u_a0_token : Value) (u_a0_place : Value) (u_a0_value : Value) (u_a0_fault : Value) (u_a0_slow : Value) (u_a0_deaf : Value) (u_a0_told : Value) (u_a0_s : Value) (u_a0_w : Value) (u_a0_kept : Value) (u_a0_isKept : Value) (u_a0_undos : Value) (u_a0_undoMany : Value) (u_a0_heardBy : Value) (u_a0_heardAt : Value) (u_a0_heardMany : Value) (u_a0_tellsAt : Value) (u_a0_tellMany : Value) (u_a0_metAt : Value) (u_a0_metBeat : Value) (u_a0_round : Value) (u_a0_z : Value) (m_a0_lengths : Nat → Int32) (m_a0_many : Nat → Int32) (m_a1 : Nat → Int32) : va_W := [(q_a0, .inr (12, [u_a0_thrown, u_a0_trace, u_a0_text, u_a0_typed, u_a0_next, u_a0_token, u_a0_place, u_a0_value, u_a0_fault, .ref q_a0_many, u_a0_slow, u_a0_deaf, .ref q_a0_lengths, u_a0_told, u_a0_s, u_a0_w, u_a0_kept, u_a0_isKept, u_a0_undos, u_a0_undoMany, u_a0_heardBy, u_a0_heardAt, u_a0_heardMany, u_a0_tellsAt, u_a0_tellMany, u_a0_metAt, u_a0_metBeat, u_a0_round, u_a0_z])), (q_a0_lengths, .inl (G.2 0, 72, .inl m_a0_lengths)), (q_a0_many, .inl (G.2 0, 6, .inl m_a0_many)), (q_a1, .inl (G.2 0, 35, .inl m_a1))]
def kX12_endsIn : KT := (yX12_endsIn, cX12_endsIn, 3, (some .int), 3, 0, 0)
theorem kX12_endsIn_r : kr kX12_endsIn = (some .int) ∧ kmc kX12_endsIn = 0 ∧ kms kX12_endsIn = 0 := ⟨rfl, rfl, rfl⟩
theorem kX12_endsIn_p : plainName (ky kX12_endsIn).cls = true := by decide +kernel
def fX12_endsIn_2 (B2 : Int32 → (Nat → Int32) → Option (Int32 × (Nat → Int32))) (K2_16 : Int32 → (Nat → Int32) → Option (Int32 × (Nat → Int32))) (K2_24 : (Nat → Int32) → Option (Int32 × (Nat → Int32))) (N : Nat) (l2 : Int32) (m_a0_lengths : Nat → Int32) (m_a0_many : Nat → Int32) (m_a1 : Nat → Int32) : Option (Int32 × (Nat → Int32)) :=
  if (8 : Int32) ≤ l2 then (K2_24 m_a1)
  else (Option.bind (fX12_goes N m_a0_lengths m_a0_many m_a1) fun o10 =>
  if o10.1 = 0 then (K2_16 l2 o10.2)
  else (B2 (l2 + (1 : Int32)) o10.2))
def fX12_endsIn_L2 (N : Nat) (m_a0_lengths : Nat → Int32) (m_a0_many : Nat → Int32) (K2_16 : Int32 → (Nat → Int32) → Option (Int32 × (Nat → Int32))) (K2_24 : (Nat → Int32) → Option (Int32 × (Nat → Int32))) : Nat → Int32 → (Nat → Int32) → Option (Int32 × (Nat → Int32))
  | 0, _, _ => none
  | n + 1, l2, m_a1 => fX12_endsIn_2 (fX12_endsIn_L2 N m_a0_lengths m_a0_many K2_16 K2_24 n) K2_16 K2_24 N l2 m_a0_lengths m_a0_many m_a1
def fX12_endsIn (N : Nat) (m_a0_lengths : Nat → Int32) (m_a0_many : Nat → Int32) (m_a1 : Nat → Int32) : Option (Int32 × (Nat → Int32)) :=
  fX12_endsIn_L2 N m_a0_lengths m_a0_many
      (fun l2k2_16 m_a1k2_16 => some (l2k2_16, m_a1k2_16))
      (fun m_a1k2_24 => some ((-9 : Int32), m_a1k2_24)) N (0 : Int32) m_a1
section
variable {X : XT} {N : Nat} {q_a0 : Nat} {q_a0_lengths : Nat} {q_a0_many : Nat} {q_a1 : Nat} {u_a0_thrown : Value} {u_a0_trace : Value} {u_a0_text : Value} {u_a0_typed : Value} {u_a0_next : Value} {u_a0_token : Value} {u_a0_place : Value} {u_a0_value : Value} {u_a0_fault : Value} {u_a0_slow : Value} {u_a0_deaf : Value} {u_a0_told : Value} {u_a0_s : Value} {u_a0_w : Value} {u_a0_kept : Value} {u_a0_isKept : Value} {u_a0_undos : Value} {u_a0_undoMany : Value} {u_a0_heardBy : Value} {u_a0_heardAt : Value} {u_a0_heardMany : Value} {u_a0_tellsAt : Value} {u_a0_tellMany : Value} {u_a0_metAt : Value} {u_a0_metBeat : Value} {u_a0_round : Value} {u_a0_z : Value} {m_a0_lengths : Nat → Int32} {m_a0_many : Nat → Int32} {m_a1 : Nat → Int32} {l2 : Int32}
set_option maxRecDepth 20000 in
theorem tX12_endsIn_2 {out : Int32 × (Nat → Int32)} (hX : xk X = kX12_endsIn) (hQ : xQ X = qE (some (.int out.1)) (wX12_endsIn (xG X) q_a0 q_a0_lengths q_a0_many q_a1 u_a0_thrown u_a0_trace u_a0_text u_a0_typed u_a0_next u_a0_token u_a0_place u_a0_value u_a0_fault u_a0_slow u_a0_deaf u_a0_told u_a0_s u_a0_w u_a0_kept u_a0_isKept u_a0_undos u_a0_undoMany u_a0_heardBy u_a0_heardAt u_a0_heardMany u_a0_tellsAt u_a0_tellMany u_a0_metAt u_a0_metBeat u_a0_round u_a0_z m_a0_lengths m_a0_many out.2)) {B2 : Int32 → (Nat → Int32) → Option (Int32 × (Nat → Int32))} {K2_16 : Int32 → (Nat → Int32) → Option (Int32 × (Nat → Int32))} {K2_24 : (Nat → Int32) → Option (Int32 × (Nat → Int32))} (hB2 : ∀ (l2 : Int32) (m_a1 : Nat → Int32), B2 l2 m_a1 = some out → V X cX12_endsIn "FarDrumModel" 0 0 (wX12_endsIn (xG X) q_a0 q_a0_lengths q_a0_many q_a1 u_a0_thrown u_a0_trace u_a0_text u_a0_typed u_a0_next u_a0_token u_a0_place u_a0_value u_a0_fault u_a0_slow u_a0_deaf u_a0_told u_a0_s u_a0_w u_a0_kept u_a0_isKept u_a0_undos u_a0_undoMany u_a0_heardBy u_a0_heardAt u_a0_heardMany u_a0_tellsAt u_a0_tellMany u_a0_metAt u_a0_metBeat u_a0_round u_a0_z m_a0_lengths m_a0_many m_a1) [some (.ref q_a0), some (.ref q_a1), some (.int l2)] 2 []) (hK2_16 : ∀ (l2 : Int32) (m_a1 : Nat → Int32), K2_16 l2 m_a1 = some out → V X cX12_endsIn "FarDrumModel" 0 0 (wX12_endsIn (xG X) q_a0 q_a0_lengths q_a0_many q_a1 u_a0_thrown u_a0_trace u_a0_text u_a0_typed u_a0_next u_a0_token u_a0_place u_a0_value u_a0_fault u_a0_slow u_a0_deaf u_a0_told u_a0_s u_a0_w u_a0_kept u_a0_isKept u_a0_undos u_a0_undoMany u_a0_heardBy u_a0_heardAt u_a0_heardMany u_a0_tellsAt u_a0_tellMany u_a0_metAt u_a0_metBeat u_a0_round u_a0_z m_a0_lengths m_a0_many m_a1) [none, none, some (.int l2)] 16 []) (hK2_24 : ∀ (m_a1 : Nat → Int32), K2_24 m_a1 = some out → V X cX12_endsIn "FarDrumModel" 0 0 (wX12_endsIn (xG X) q_a0 q_a0_lengths q_a0_many q_a1 u_a0_thrown u_a0_trace u_a0_text u_a0_typed u_a0_next u_a0_token u_a0_place u_a0_value u_a0_fault u_a0_slow u_a0_deaf u_a0_told u_a0_s u_a0_w u_a0_kept u_a0_isKept u_a0_undos u_a0_undoMany u_a0_heardBy u_a0_heardAt u_a0_heardMany u_a0_tellsAt u_a0_tellMany u_a0_metAt u_a0_metBeat u_a0_round u_a0_z m_a0_lengths m_a0_many m_a1) [none, none, none] 24 []) (hf : fX12_endsIn_2 B2 K2_16 K2_24 N l2 m_a0_lengths m_a0_many m_a1 = some out) : V X cX12_endsIn "FarDrumModel" 0 0 (wX12_endsIn (xG X) q_a0 q_a0_lengths q_a0_many q_a1 u_a0_thrown u_a0_trace u_a0_text u_a0_typed u_a0_next u_a0_token u_a0_place u_a0_value u_a0_fault u_a0_slow u_a0_deaf u_a0_told u_a0_s u_a0_w u_a0_kept u_a0_isKept u_a0_undos u_a0_undoMany u_a0_heardBy u_a0_heardAt u_a0_heardMany u_a0_tellsAt u_a0_tellMany u_a0_metAt u_a0_metBeat u_a0_round u_a0_z m_a0_lengths m_a0_many m_a1) [some (.ref q_a0), some (.ref q_a1), some (.int l2)] 2 [] := by
  unfold fX12_endsIn_2 at hf
  refine V.iloadn (pc := 2) dX12_endsIn_2 rfl ?_
  refine V.bipush (pc := 3) (v := 8) dX12_endsIn_3 (by decide) ?_
  refine V.icmp_ge (pc := 5) (tgt := 24) dX12_endsIn_5 (by decide) hf (fun hf => ?_) (fun hf => ?_)
  · refine V.mask (pc := 24) [false, false, false] rfl rfl ?_
    exact hK2_24 _ hf
  · refine V.aloadn (pc := 8) dX12_endsIn_8 rfl ?_
    refine V.aloadn (pc := 9) dX12_endsIn_9 rfl ?_
    refine V.callVi (pc := 10) (q := 0) (wr := []) (wd' := fun o10 => wX12_endsIn (xG X) q_a0 q_a0_lengths q_a0_many q_a1 u_a0_thrown u_a0_trace u_a0_text u_a0_typed u_a0_next u_a0_token u_a0_place u_a0_value u_a0_fault u_a0_slow u_a0_deaf u_a0_told u_a0_s u_a0_w u_a0_kept u_a0_isKept u_a0_undos u_a0_undoMany u_a0_heardBy u_a0_heardAt u_a0_heardMany u_a0_tellsAt u_a0_tellMany u_a0_metAt u_a0_metBeat u_a0_round u_a0_z m_a0_lengths m_a0_many o10.2) [.ref q_a1] (st := []) hf (fun _ h => oX12_goes (q_a0 := q_a0) (q_a0_lengths := q_a0_lengths) (q_a0_many := q_a0_many) (q_a1 := q_a1) (u_a0_thrown := u_a0_thrown) (u_a0_trace := u_a0_trace) (u_a0_text := u_a0_text) (u_a0_typed := u_a0_typed) (u_a0_next := u_a0_next) (u_a0_token := u_a0_token) (u_a0_place := u_a0_place) (u_a0_value := u_a0_value) (u_a0_fault := u_a0_fault) (u_a0_slow := u_a0_slow) (u_a0_deaf := u_a0_deaf) (u_a0_told := u_a0_told) (u_a0_s := u_a0_s) (u_a0_w := u_a0_w) (u_a0_kept := u_a0_kept) (u_a0_isKept := u_a0_isKept) (u_a0_undos := u_a0_undos) (u_a0_undoMany := u_a0_undoMany) (u_a0_heardBy := u_a0_heardBy) (u_a0_heardAt := u_a0_heardAt) (u_a0_heardMany := u_a0_heardMany) (u_a0_tellsAt := u_a0_tellsAt) (u_a0_tellMany := u_a0_tellMany) (u_a0_metAt := u_a0_metAt) (u_a0_metBeat := u_a0_metBeat) (u_a0_round := u_a0_round) (u_a0_z := u_a0_z) (m_a0_lengths := m_a0_lengths) (m_a0_many := m_a0_many) (m_a1 := m_a1) h) lkV_X12_151 dX12_endsIn_10 hX rfl ⟨rfl, rfl⟩ ⟨rfl, rfl⟩ rfl rfl rfl rfl rfl [0, 1, 2, 3] [] [0, 1, 2, 3] rfl rfl rfl rfl rfl (fun _ => rfl) rfl (fun o10 hf => ?_)
    refine V.if_ne (pc := 13) (tgt := 18) dX12_endsIn_13 (by decide) hf (fun hf => ?_) (fun hf => ?_)
    · refine V.iinc (pc := 18) (v := 1) dX12_endsIn_18 rfl rfl (by decide) rfl ?_
      refine V.goto (pc := 21) (tgt := 2) dX12_endsIn_21 (by decide) ?_
      exact hB2 _ _ hf
    · refine V.mask (pc := 16) [false, false, true] rfl rfl ?_
      exact hK2_16 _ _ hf
theorem tX12_endsIn_L2 {out : Int32 × (Nat → Int32)} (hX : xk X = kX12_endsIn) (hQ : xQ X = qE (some (.int out.1)) (wX12_endsIn (xG X) q_a0 q_a0_lengths q_a0_many q_a1 u_a0_thrown u_a0_trace u_a0_text u_a0_typed u_a0_next u_a0_token u_a0_place u_a0_value u_a0_fault u_a0_slow u_a0_deaf u_a0_told u_a0_s u_a0_w u_a0_kept u_a0_isKept u_a0_undos u_a0_undoMany u_a0_heardBy u_a0_heardAt u_a0_heardMany u_a0_tellsAt u_a0_tellMany u_a0_metAt u_a0_metBeat u_a0_round u_a0_z m_a0_lengths m_a0_many out.2)) {K2_16 : Int32 → (Nat → Int32) → Option (Int32 × (Nat → Int32))} {K2_24 : (Nat → Int32) → Option (Int32 × (Nat → Int32))} (hK2_16 : ∀ (l2 : Int32) (m_a1 : Nat → Int32), K2_16 l2 m_a1 = some out → V X cX12_endsIn "FarDrumModel" 0 0 (wX12_endsIn (xG X) q_a0 q_a0_lengths q_a0_many q_a1 u_a0_thrown u_a0_trace u_a0_text u_a0_typed u_a0_next u_a0_token u_a0_place u_a0_value u_a0_fault u_a0_slow u_a0_deaf u_a0_told u_a0_s u_a0_w u_a0_kept u_a0_isKept u_a0_undos u_a0_undoMany u_a0_heardBy u_a0_heardAt u_a0_heardMany u_a0_tellsAt u_a0_tellMany u_a0_metAt u_a0_metBeat u_a0_round u_a0_z m_a0_lengths m_a0_many m_a1) [none, none, some (.int l2)] 16 []) (hK2_24 : ∀ (m_a1 : Nat → Int32), K2_24 m_a1 = some out → V X cX12_endsIn "FarDrumModel" 0 0 (wX12_endsIn (xG X) q_a0 q_a0_lengths q_a0_many q_a1 u_a0_thrown u_a0_trace u_a0_text u_a0_typed u_a0_next u_a0_token u_a0_place u_a0_value u_a0_fault u_a0_slow u_a0_deaf u_a0_told u_a0_s u_a0_w u_a0_kept u_a0_isKept u_a0_undos u_a0_undoMany u_a0_heardBy u_a0_heardAt u_a0_heardMany u_a0_tellsAt u_a0_tellMany u_a0_metAt u_a0_metBeat u_a0_round u_a0_z m_a0_lengths m_a0_many m_a1) [none, none, none] 24 []) : ∀ (n : Nat) (l2 : Int32) (m_a1 : Nat → Int32), fX12_endsIn_L2 N m_a0_lengths m_a0_many K2_16 K2_24 n l2 m_a1 = some out → V X cX12_endsIn "FarDrumModel" 0 0 (wX12_endsIn (xG X) q_a0 q_a0_lengths q_a0_many q_a1 u_a0_thrown u_a0_trace u_a0_text u_a0_typed u_a0_next u_a0_token u_a0_place u_a0_value u_a0_fault u_a0_slow u_a0_deaf u_a0_told u_a0_s u_a0_w u_a0_kept u_a0_isKept u_a0_undos u_a0_undoMany u_a0_heardBy u_a0_heardAt u_a0_heardMany u_a0_tellsAt u_a0_tellMany u_a0_metAt u_a0_metBeat u_a0_round u_a0_z m_a0_lengths m_a0_many m_a1) [some (.ref q_a0), some (.ref q_a1), some (.int l2)] 2 [] := by
  intro n
  induction n with
  | zero => intro l2 m_a1 hf; cases hf
  | succ n ih => intro l2 m_a1 hf; exact tX12_endsIn_2 hX hQ ih hK2_16 hK2_24 hf
set_option maxRecDepth 20000 in
theorem tX12_endsIn_0 {out : Int32 × (Nat → Int32)} (hX : xk X = kX12_endsIn) (hQ : xQ X = qE (some (.int out.1)) (wX12_endsIn (xG X) q_a0 q_a0_lengths q_a0_many q_a1 u_a0_thrown u_a0_trace u_a0_text u_a0_typed u_a0_next u_a0_token u_a0_place u_a0_value u_a0_fault u_a0_slow u_a0_deaf u_a0_told u_a0_s u_a0_w u_a0_kept u_a0_isKept u_a0_undos u_a0_undoMany u_a0_heardBy u_a0_heardAt u_a0_heardMany u_a0_tellsAt u_a0_tellMany u_a0_metAt u_a0_metBeat u_a0_round u_a0_z m_a0_lengths m_a0_many out.2)) (hf : fX12_endsIn N m_a0_lengths m_a0_many m_a1 = some out) : V X cX12_endsIn "FarDrumModel" 0 0 (wX12_endsIn (xG X) q_a0 q_a0_lengths q_a0_many q_a1 u_a0_thrown u_a0_trace u_a0_text u_a0_typed u_a0_next u_a0_token u_a0_place u_a0_value u_a0_fault u_a0_slow u_a0_deaf u_a0_told u_a0_s u_a0_w u_a0_kept u_a0_isKept u_a0_undos u_a0_undoMany u_a0_heardBy u_a0_heardAt u_a0_heardMany u_a0_tellsAt u_a0_tellMany u_a0_metAt u_a0_metBeat u_a0_round u_a0_z m_a0_lengths m_a0_many m_a1) [some (.ref q_a0), some (.ref q_a1), none] 0 [] := by
  unfold fX12_endsIn at hf
  refine V.iconst (pc := 0) (v := 0) dX12_endsIn_0 (by decide) ?_
  refine V.istoren (pc := 1) dX12_endsIn_1 rfl rfl rfl ?_
  refine tX12_endsIn_L2 hX hQ ?_ ?_ _ _ _ hf
  · intro l2k2_16 m_a1k2_16 hf
    refine V.iloadn (pc := 16) dX12_endsIn_16 rfl ?_
    exact V.iretE (pc := 17) hX kX12_endsIn_r hQ dX12_endsIn_17 (by cases hf; rfl) (by cases hf; rfl)
  · intro m_a1k2_24 hf
    refine V.bipush (pc := 24) (v := -9) dX12_endsIn_24 (by decide) ?_
    exact V.iretE (pc := 26) hX kX12_endsIn_r hQ dX12_endsIn_26 (by cases hf; rfl) (by cases hf; rfl)
end
theorem oX12_endsIn {l : Launch} {G : GT} {N : Nat} {q_a0 : Nat} {q_a0_lengths : Nat} {q_a0_many : Nat} {q_a1 : Nat} {u_a0_thrown : Value} {u_a0_trace : Value} {u_a0_text : Value} {u_a0_typed : Value} {u_a0_next : Value} {u_a0_token : Value} {u_a0_place : Value} {u_a0_value : Value} {u_a0_fault : Value} {u_a0_slow : Value} {u_a0_deaf : Value} {u_a0_told : Value} {u_a0_s : Value} {u_a0_w : Value} {u_a0_kept : Value} {u_a0_isKept : Value} {u_a0_undos : Value} {u_a0_undoMany : Value} {u_a0_heardBy : Value} {u_a0_heardAt : Value} {u_a0_heardMany : Value} {u_a0_tellsAt : Value} {u_a0_tellMany : Value} {u_a0_metAt : Value} {u_a0_metBeat : Value} {u_a0_round : Value} {u_a0_z : Value} {m_a0_lengths : Nat → Int32} {m_a0_many : Nat → Int32} {m_a1 : Nat → Int32} {out : Int32 × (Nat → Int32)} (hf : fX12_endsIn N m_a0_lengths m_a0_many m_a1 = some out) : Ct (l, G, kX12_endsIn, wX12_endsIn G q_a0 q_a0_lengths q_a0_many q_a1 u_a0_thrown u_a0_trace u_a0_text u_a0_typed u_a0_next u_a0_token u_a0_place u_a0_value u_a0_fault u_a0_slow u_a0_deaf u_a0_told u_a0_s u_a0_w u_a0_kept u_a0_isKept u_a0_undos u_a0_undoMany u_a0_heardBy u_a0_heardAt u_a0_heardMany u_a0_tellsAt u_a0_tellMany u_a0_metAt u_a0_metBeat u_a0_round u_a0_z m_a0_lengths m_a0_many m_a1, [.ref q_a0, .ref q_a1], qE (some (.int out.1)) (wX12_endsIn G q_a0 q_a0_lengths q_a0_many q_a1 u_a0_thrown u_a0_trace u_a0_text u_a0_typed u_a0_next u_a0_token u_a0_place u_a0_value u_a0_fault u_a0_slow u_a0_deaf u_a0_told u_a0_s u_a0_w u_a0_kept u_a0_isKept u_a0_undos u_a0_undoMany u_a0_heardBy u_a0_heardAt u_a0_heardMany u_a0_tellsAt u_a0_tellMany u_a0_metAt u_a0_metBeat u_a0_round u_a0_z m_a0_lengths m_a0_many out.2)) :=
  Ct.of [some (.ref q_a0), some (.ref q_a1), none] kX12_endsIn_p rfl rfl rfl ((tX12_endsIn_0 (X := (l, G, kX12_endsIn, wX12_endsIn G q_a0 q_a0_lengths q_a0_many q_a1 u_a0_thrown u_a0_trace u_a0_text u_a0_typed u_a0_next u_a0_token u_a0_place u_a0_value u_a0_fault u_a0_slow u_a0_deaf u_a0_told u_a0_s u_a0_w u_a0_kept u_a0_isKept u_a0_undos u_a0_undoMany u_a0_heardBy u_a0_heardAt u_a0_heardMany u_a0_tellsAt u_a0_tellMany u_a0_metAt u_a0_metBeat u_a0_round u_a0_z m_a0_lengths m_a0_many m_a1, [.ref q_a0, .ref q_a1], qE (some (.int out.1)) (wX12_endsIn G q_a0 q_a0_lengths q_a0_many q_a1 u_a0_thrown u_a0_trace u_a0_text u_a0_typed u_a0_next u_a0_token u_a0_place u_a0_value u_a0_fault u_a0_slow u_a0_deaf u_a0_told u_a0_s u_a0_w u_a0_kept u_a0_isKept u_a0_undos u_a0_undoMany u_a0_heardBy u_a0_heardAt u_a0_heardMany u_a0_tellsAt u_a0_tellMany u_a0_metAt u_a0_metBeat u_a0_round u_a0_z m_a0_lengths m_a0_many out.2))) rfl rfl hf))

theorem fk_X12_50_12 : Fk "FarDrumModel" 50 12 25 := ⟨RX12, TX12, 29, "FarDrumModel", rfl, inX12, by decide, kw_4_33, Or.inl rfl⟩
theorem fk_X12_53_12 : Fk "FarDrumModel" 53 12 26 := ⟨RX12, TX12, 29, "FarDrumModel", rfl, inX12, by decide, kw_4_34, Or.inl rfl⟩
def wX12_isRound (G : GT) (q_a0 : Nat) (q_a0_lengths : Nat) (q_a0_many : Nat) (q_a0_metAt : Nat) (q_a0_metBeat : Nat) (q_a1 : Nat) (q_a2 : Nat) (u_a0_thrown : Value) (u_a0_trace : Value) (u_a0_text : Value) (u_a0_typed : Value) (u_a0_next : Value) (u_a0_token : Value) (u_a0_place : Value) (u_a0_value : Value) (u_a0_fault : Value) (u_a0_slow : Value) (u_a0_deaf : Value) (u_a0_told : Value) (u_a0_s : Value) (u_a0_w : Value) (u_a0_kept : Value) (u_a0_isKept : Value) (u_a0_undos : Value) (u_a0_undoMany : Value) (u_a0_heardBy : Value) (u_a0_heardAt : Value) (u_a0_heardMany : Value) (u_a0_tellsAt : Value) (u_a0_tellMany : Value) (u_a0_round : Value) (u_a0_z : Value) (m_a0_lengths : Nat → Int32) (m_a0_many : Nat → Int32) (m_a0_metAt : Nat → Int32) (m_a0_metBeat : Nat → Int32) (m_a1 : Nat → Int32) (m_a2 : Nat → Int32) : va_W := [(q_a0, .inr (12, [u_a0_thrown, u_a0_trace, u_a0_text, u_a0_typed, u_a0_next, u_a0_token, u_a0_place, u_a0_value, u_a0_fault, .ref q_a0_many, u_a0_slow, u_a0_deaf, .ref q_a0_lengths, u_a0_told, u_a0_s, u_a0_w, u_a0_kept, u_a0_isKept, u_a0_undos, u_a0_undoMany, u_a0_heardBy, u_a0_heardAt, u_a0_heardMany, u_a0_tellsAt, u_a0_tellMany, .ref q_a0_metAt, .ref q_a0_metBeat, u_a0_round, u_a0_z])), (q_a0_lengths, .inl (G.2 0, 72, .inl m_a0_lengths)), (q_a0_many, .inl (G.2 0, 6, .inl m_a0_many)), (q_a0_metAt, .inl (G.2 0, 6, .inl m_a0_metAt)), (q_a0_metBeat, .inl (G.2 0, 6, .inl m_a0_metBeat)), (q_a1, .inl (G.2 0, 35, .inl m_a1)), (q_a2, .inl (G.2 0, 3, .inl m_a2))]
def kX12_isRound : KT := (yX12_isRound, cX12_isRound, 5, (some .boolean), 3, 0, 0)
theorem kX12_isRound_r : kr kX12_isRound = (some .boolean) ∧ kmc kX12_isRound = 0 ∧ kms kX12_isRound = 0 := ⟨rfl, rfl, rfl⟩
theorem kX12_isRound_p : plainName (ky kX12_isRound).cls = true := by decide +kernel
def fX12_isRound_2 (B2 : Int32 → (Nat → Int32) → Option (Int32 × (Nat → Int32) × (Nat → Int32) × (Nat → Int32) × (Nat → Int32))) (K2_22 : (Nat → Int32) → Option (Int32 × (Nat → Int32) × (Nat → Int32) × (Nat → Int32) × (Nat → Int32))) (l3 : Int32) (m_a0_metAt : Nat → Int32) : Option (Int32 × (Nat → Int32) × (Nat → Int32) × (Nat → Int32) × (Nat → Int32)) :=
  if (6 : Int32) ≤ l3 then (K2_22 m_a0_metAt)
  else (wri 6 m_a0_metAt l3 (-9 : Int32) fun g15 =>
  B2 (l3 + (1 : Int32)) g15)
def fX12_isRound_L2 (K2_22 : (Nat → Int32) → Option (Int32 × (Nat → Int32) × (Nat → Int32) × (Nat → Int32) × (Nat → Int32))) : Nat → Int32 → (Nat → Int32) → Option (Int32 × (Nat → Int32) × (Nat → Int32) × (Nat → Int32) × (Nat → Int32))
  | 0, _, _ => none
  | n + 1, l3, m_a0_metAt => fX12_isRound_2 (fX12_isRound_L2 K2_22 n) K2_22 l3 m_a0_metAt
def fX12_isRound_40 (B40 : Int32 → Int32 → (Nat → Int32) → (Nat → Int32) → (Nat → Int32) → Option (Int32 × (Nat → Int32) × (Nat → Int32) × (Nat → Int32) × (Nat → Int32))) (K40_91 : Int32 → Int32 → (Nat → Int32) → (Nat → Int32) → (Nat → Int32) → Option (Int32 × (Nat → Int32) × (Nat → Int32) × (Nat → Int32) × (Nat → Int32))) (N : Nat) (l3 : Int32) (l4 : Int32) (m_a0_lengths : Nat → Int32) (m_a0_many : Nat → Int32) (m_a0_metAt : Nat → Int32) (m_a0_metBeat : Nat → Int32) (m_a1 : Nat → Int32) : Option (Int32 × (Nat → Int32) × (Nat → Int32) × (Nat → Int32) × (Nat → Int32)) :=
  if l4 = 0 then (K40_91 l3 l4 m_a0_metAt m_a0_metBeat m_a1)
  else (rdi 6 m_a0_metAt (m_a1 2) fun x52 =>
  if x52 = (-9 : Int32) then (wri 6 m_a0_metAt (m_a1 2) l3 fun g66 =>
  wri 6 m_a0_metBeat (m_a1 2) (m_a1 1) fun g77 =>
  Option.bind (fX12_goes N m_a0_lengths m_a0_many m_a1) fun o83 =>
  B40 (l3 + (1 : Int32)) o83.1 g66 g77 o83.2)
  else (K40_91 l3 l4 m_a0_metAt m_a0_metBeat m_a1))
def fX12_isRound_L40 (N : Nat) (m_a0_lengths : Nat → Int32) (m_a0_many : Nat → Int32) (K40_91 : Int32 → Int32 → (Nat → Int32) → (Nat → Int32) → (Nat → Int32) → Option (Int32 × (Nat → Int32) × (Nat → Int32) × (Nat → Int32) × (Nat → Int32))) : Nat → Int32 → Int32 → (Nat → Int32) → (Nat → Int32) → (Nat → Int32) → Option (Int32 × (Nat → Int32) × (Nat → Int32) × (Nat → Int32) × (Nat → Int32))
  | 0, _, _, _, _, _ => none
  | n + 1, l3, l4, m_a0_metAt, m_a0_metBeat, m_a1 => fX12_isRound_40 (fX12_isRound_L40 N m_a0_lengths m_a0_many K40_91 n) K40_91 N l3 l4 m_a0_lengths m_a0_many m_a0_metAt m_a0_metBeat m_a1
def fX12_isRound_135 (l4 : Int32) (m_a0_metAt : Nat → Int32) (m_a0_metBeat : Nat → Int32) (m_a1 : Nat → Int32) (m_a2 : Nat → Int32) : Option (Int32 × (Nat → Int32) × (Nat → Int32) × (Nat → Int32) × (Nat → Int32)) :=
  bz l4 <| 
  some (l4, m_a0_metAt, m_a0_metBeat, m_a1, m_a2)
def fX12_isRound_38 (N : Nat) (l3 : Int32) (s0 : Int32) (m_a0_lengths : Nat → Int32) (m_a0_many : Nat → Int32) (m_a0_metAt : Nat → Int32) (m_a0_metBeat : Nat → Int32) (m_a1 : Nat → Int32) (m_a2 : Nat → Int32) : Option (Int32 × (Nat → Int32) × (Nat → Int32) × (Nat → Int32) × (Nat → Int32)) :=
  fX12_isRound_L40 N m_a0_lengths m_a0_many
      (fun l3k40_91 l4k40_91 m_a0_metAtk40_91 m_a0_metBeatk40_91 m_a1k40_91 => if l4k40_91 = 0 then (fX12_isRound_135 l4k40_91 m_a0_metAtk40_91 m_a0_metBeatk40_91 m_a1k40_91 m_a2)
  else (rdi 6 m_a0_metAtk40_91 (m_a1k40_91 2) fun x105 =>
  lti (upd m_a2 0 x105) fun g106 =>
  rdi 6 m_a0_metAtk40_91 (m_a1k40_91 2) fun x117 =>
  lti (upd g106 1 (l3k40_91 - x117)) fun g119 =>
  rdi 6 m_a0_metBeatk40_91 (m_a1k40_91 2) fun x132 =>
  lti (upd g119 2 ((m_a1k40_91 1) - x132)) fun g134 =>
  fX12_isRound_135 l4k40_91 m_a0_metAtk40_91 m_a0_metBeatk40_91 m_a1k40_91 g134)) N l3 s0 m_a0_metAt m_a0_metBeat m_a1
def fX12_isRound (N : Nat) (m_a0_lengths : Nat → Int32) (m_a0_many : Nat → Int32) (m_a0_metAt : Nat → Int32) (m_a0_metBeat : Nat → Int32) (m_a1 : Nat → Int32) (m_a2 : Nat → Int32) : Option (Int32 × (Nat → Int32) × (Nat → Int32) × (Nat → Int32) × (Nat → Int32)) :=
  fX12_isRound_L2
      (fun m_a0_metAtk2_22 => if (m_a0_many 0) ≤ 0 then (fX12_isRound_38 N (0 : Int32) (0 : Int32) m_a0_lengths m_a0_many m_a0_metAtk2_22 m_a0_metBeat m_a1 m_a2)
  else (fX12_isRound_38 N (0 : Int32) (1 : Int32) m_a0_lengths m_a0_many m_a0_metAtk2_22 m_a0_metBeat m_a1 m_a2)) N (0 : Int32) m_a0_metAt
section
variable {X : XT} {N : Nat} {q_a0 : Nat} {q_a0_lengths : Nat} {q_a0_many : Nat} {q_a0_metAt : Nat} {q_a0_metBeat : Nat} {q_a1 : Nat} {q_a2 : Nat} {u_a0_thrown : Value} {u_a0_trace : Value} {u_a0_text : Value} {u_a0_typed : Value} {u_a0_next : Value} {u_a0_token : Value} {u_a0_place : Value} {u_a0_value : Value} {u_a0_fault : Value} {u_a0_slow : Value} {u_a0_deaf : Value} {u_a0_told : Value} {u_a0_s : Value} {u_a0_w : Value} {u_a0_kept : Value} {u_a0_isKept : Value} {u_a0_undos : Value} {u_a0_undoMany : Value} {u_a0_heardBy : Value} {u_a0_heardAt : Value} {u_a0_heardMany : Value} {u_a0_tellsAt : Value} {u_a0_tellMany : Value} {u_a0_round : Value} {u_a0_z : Value} {m_a0_lengths : Nat → Int32} {m_a0_many : Nat → Int32} {m_a0_metAt : Nat → Int32} {m_a0_metBeat : Nat → Int32} {m_a1 : Nat → Int32} {m_a2 : Nat → Int32} {l3 : Int32} {s0 : Int32} {l4 : Int32}
set_option maxRecDepth 20000 in
theorem tX12_isRound_2 {out : Int32 × (Nat → Int32) × (Nat → Int32) × (Nat → Int32) × (Nat → Int32)} (hX : xk X = kX12_isRound) (hQ : xQ X = qE (some (.int out.1)) (wX12_isRound (xG X) q_a0 q_a0_lengths q_a0_many q_a0_metAt q_a0_metBeat q_a1 q_a2 u_a0_thrown u_a0_trace u_a0_text u_a0_typed u_a0_next u_a0_token u_a0_place u_a0_value u_a0_fault u_a0_slow u_a0_deaf u_a0_told u_a0_s u_a0_w u_a0_kept u_a0_isKept u_a0_undos u_a0_undoMany u_a0_heardBy u_a0_heardAt u_a0_heardMany u_a0_tellsAt u_a0_tellMany u_a0_round u_a0_z m_a0_lengths m_a0_many out.2.1 out.2.2.1 out.2.2.2.1 out.2.2.2.2)) {B2 : Int32 → (Nat → Int32) → Option (Int32 × (Nat → Int32) × (Nat → Int32) × (Nat → Int32) × (Nat → Int32))} {K2_22 : (Nat → Int32) → Option (Int32 × (Nat → Int32) × (Nat → Int32) × (Nat → Int32) × (Nat → Int32))} (hB2 : ∀ (l3 : Int32) (m_a0_metAt : Nat → Int32), B2 l3 m_a0_metAt = some out → V X cX12_isRound "FarDrumModel" 0 0 (wX12_isRound (xG X) q_a0 q_a0_lengths q_a0_many q_a0_metAt q_a0_metBeat q_a1 q_a2 u_a0_thrown u_a0_trace u_a0_text u_a0_typed u_a0_next u_a0_token u_a0_place u_a0_value u_a0_fault u_a0_slow u_a0_deaf u_a0_told u_a0_s u_a0_w u_a0_kept u_a0_isKept u_a0_undos u_a0_undoMany u_a0_heardBy u_a0_heardAt u_a0_heardMany u_a0_tellsAt u_a0_tellMany u_a0_round u_a0_z m_a0_lengths m_a0_many m_a0_metAt m_a0_metBeat m_a1 m_a2) [some (.ref q_a0), some (.ref q_a1), some (.ref q_a2), some (.int l3), none] 2 []) (hK2_22 : ∀ (m_a0_metAt : Nat → Int32), K2_22 m_a0_metAt = some out → V X cX12_isRound "FarDrumModel" 0 0 (wX12_isRound (xG X) q_a0 q_a0_lengths q_a0_many q_a0_metAt q_a0_metBeat q_a1 q_a2 u_a0_thrown u_a0_trace u_a0_text u_a0_typed u_a0_next u_a0_token u_a0_place u_a0_value u_a0_fault u_a0_slow u_a0_deaf u_a0_told u_a0_s u_a0_w u_a0_kept u_a0_isKept u_a0_undos u_a0_undoMany u_a0_heardBy u_a0_heardAt u_a0_heardMany u_a0_tellsAt u_a0_tellMany u_a0_round u_a0_z m_a0_lengths m_a0_many m_a0_metAt m_a0_metBeat m_a1 m_a2) [some (.ref q_a0), some (.ref q_a1), some (.ref q_a2), none, none] 22 []) (hf : fX12_isRound_2 B2 K2_22 l3 m_a0_metAt = some out) : V X cX12_isRound "FarDrumModel" 0 0 (wX12_isRound (xG X) q_a0 q_a0_lengths q_a0_many q_a0_metAt q_a0_metBeat q_a1 q_a2 u_a0_thrown u_a0_trace u_a0_text u_a0_typed u_a0_next u_a0_token u_a0_place u_a0_value u_a0_fault u_a0_slow u_a0_deaf u_a0_told u_a0_s u_a0_w u_a0_kept u_a0_isKept u_a0_undos u_a0_undoMany u_a0_heardBy u_a0_heardAt u_a0_heardMany u_a0_tellsAt u_a0_tellMany u_a0_round u_a0_z m_a0_lengths m_a0_many m_a0_metAt m_a0_metBeat m_a1 m_a2) [some (.ref q_a0), some (.ref q_a1), some (.ref q_a2), some (.int l3), none] 2 [] := by
  unfold fX12_isRound_2 at hf
  refine V.iloadn (pc := 2) dX12_isRound_2 rfl ?_
  refine V.bipush (pc := 3) (v := 6) dX12_isRound_3 (by decide) ?_
  refine V.icmp_ge (pc := 5) (tgt := 22) dX12_isRound_5 (by decide) hf (fun hf => ?_) (fun hf => ?_)
  · refine V.mask (pc := 22) [true, true, true, false, false] rfl rfl ?_
    exact hK2_22 _ hf
  · refine V.aloadn (pc := 8) dX12_isRound_8 rfl ?_
    refine V.getf (q := 0) (pc := 9) dX12_isRound_9 fk_X12_50_12 rfl rfl ?_
    refine V.iloadn (pc := 12) dX12_isRound_12 rfl ?_
    refine V.bipush (pc := 13) (v := -9) dX12_isRound_13 (by decide) ?_
    refine V.iast (pc := 15) (q := 3) (wd' := fun g15 => wX12_isRound (xG X) q_a0 q_a0_lengths q_a0_many q_a0_metAt q_a0_metBeat q_a1 q_a2 u_a0_thrown u_a0_trace u_a0_text u_a0_typed u_a0_next u_a0_token u_a0_place u_a0_value u_a0_fault u_a0_slow u_a0_deaf u_a0_told u_a0_s u_a0_w u_a0_kept u_a0_isKept u_a0_undos u_a0_undoMany u_a0_heardBy u_a0_heardAt u_a0_heardMany u_a0_tellsAt u_a0_tellMany u_a0_round u_a0_z m_a0_lengths m_a0_many g15 m_a0_metBeat m_a1 m_a2) dX12_isRound_15 rfl hf (fun _ => rfl) (fun g15 hf => ?_)
    refine V.iinc (pc := 16) (v := 1) dX12_isRound_16 rfl rfl (by decide) rfl ?_
    refine V.goto (pc := 19) (tgt := 2) dX12_isRound_19 (by decide) ?_
    exact hB2 _ _ hf
theorem tX12_isRound_L2 {out : Int32 × (Nat → Int32) × (Nat → Int32) × (Nat → Int32) × (Nat → Int32)} (hX : xk X = kX12_isRound) (hQ : xQ X = qE (some (.int out.1)) (wX12_isRound (xG X) q_a0 q_a0_lengths q_a0_many q_a0_metAt q_a0_metBeat q_a1 q_a2 u_a0_thrown u_a0_trace u_a0_text u_a0_typed u_a0_next u_a0_token u_a0_place u_a0_value u_a0_fault u_a0_slow u_a0_deaf u_a0_told u_a0_s u_a0_w u_a0_kept u_a0_isKept u_a0_undos u_a0_undoMany u_a0_heardBy u_a0_heardAt u_a0_heardMany u_a0_tellsAt u_a0_tellMany u_a0_round u_a0_z m_a0_lengths m_a0_many out.2.1 out.2.2.1 out.2.2.2.1 out.2.2.2.2)) {K2_22 : (Nat → Int32) → Option (Int32 × (Nat → Int32) × (Nat → Int32) × (Nat → Int32) × (Nat → Int32))} (hK2_22 : ∀ (m_a0_metAt : Nat → Int32), K2_22 m_a0_metAt = some out → V X cX12_isRound "FarDrumModel" 0 0 (wX12_isRound (xG X) q_a0 q_a0_lengths q_a0_many q_a0_metAt q_a0_metBeat q_a1 q_a2 u_a0_thrown u_a0_trace u_a0_text u_a0_typed u_a0_next u_a0_token u_a0_place u_a0_value u_a0_fault u_a0_slow u_a0_deaf u_a0_told u_a0_s u_a0_w u_a0_kept u_a0_isKept u_a0_undos u_a0_undoMany u_a0_heardBy u_a0_heardAt u_a0_heardMany u_a0_tellsAt u_a0_tellMany u_a0_round u_a0_z m_a0_lengths m_a0_many m_a0_metAt m_a0_metBeat m_a1 m_a2) [some (.ref q_a0), some (.ref q_a1), some (.ref q_a2), none, none] 22 []) : ∀ (n : Nat) (l3 : Int32) (m_a0_metAt : Nat → Int32), fX12_isRound_L2 K2_22 n l3 m_a0_metAt = some out → V X cX12_isRound "FarDrumModel" 0 0 (wX12_isRound (xG X) q_a0 q_a0_lengths q_a0_many q_a0_metAt q_a0_metBeat q_a1 q_a2 u_a0_thrown u_a0_trace u_a0_text u_a0_typed u_a0_next u_a0_token u_a0_place u_a0_value u_a0_fault u_a0_slow u_a0_deaf u_a0_told u_a0_s u_a0_w u_a0_kept u_a0_isKept u_a0_undos u_a0_undoMany u_a0_heardBy u_a0_heardAt u_a0_heardMany u_a0_tellsAt u_a0_tellMany u_a0_round u_a0_z m_a0_lengths m_a0_many m_a0_metAt m_a0_metBeat m_a1 m_a2) [some (.ref q_a0), some (.ref q_a1), some (.ref q_a2), some (.int l3), none] 2 [] := by
  intro n
  induction n with
  | zero => intro l3 m_a0_metAt hf; cases hf
  | succ n ih => intro l3 m_a0_metAt hf; exact tX12_isRound_2 hX hQ ih hK2_22 hf
set_option maxRecDepth 20000 in
theorem tX12_isRound_40 {out : Int32 × (Nat → Int32) × (Nat → Int32) × (Nat → Int32) × (Nat → Int32)} (hX : xk X = kX12_isRound) (hQ : xQ X = qE (some (.int out.1)) (wX12_isRound (xG X) q_a0 q_a0_lengths q_a0_many q_a0_metAt q_a0_metBeat q_a1 q_a2 u_a0_thrown u_a0_trace u_a0_text u_a0_typed u_a0_next u_a0_token u_a0_place u_a0_value u_a0_fault u_a0_slow u_a0_deaf u_a0_told u_a0_s u_a0_w u_a0_kept u_a0_isKept u_a0_undos u_a0_undoMany u_a0_heardBy u_a0_heardAt u_a0_heardMany u_a0_tellsAt u_a0_tellMany u_a0_round u_a0_z m_a0_lengths m_a0_many out.2.1 out.2.2.1 out.2.2.2.1 out.2.2.2.2)) {B40 : Int32 → Int32 → (Nat → Int32) → (Nat → Int32) → (Nat → Int32) → Option (Int32 × (Nat → Int32) × (Nat → Int32) × (Nat → Int32) × (Nat → Int32))} {K40_91 : Int32 → Int32 → (Nat → Int32) → (Nat → Int32) → (Nat → Int32) → Option (Int32 × (Nat → Int32) × (Nat → Int32) × (Nat → Int32) × (Nat → Int32))} (hB40 : ∀ (l3 : Int32) (l4 : Int32) (m_a0_metAt : Nat → Int32) (m_a0_metBeat : Nat → Int32) (m_a1 : Nat → Int32), B40 l3 l4 m_a0_metAt m_a0_metBeat m_a1 = some out → V X cX12_isRound "FarDrumModel" 0 0 (wX12_isRound (xG X) q_a0 q_a0_lengths q_a0_many q_a0_metAt q_a0_metBeat q_a1 q_a2 u_a0_thrown u_a0_trace u_a0_text u_a0_typed u_a0_next u_a0_token u_a0_place u_a0_value u_a0_fault u_a0_slow u_a0_deaf u_a0_told u_a0_s u_a0_w u_a0_kept u_a0_isKept u_a0_undos u_a0_undoMany u_a0_heardBy u_a0_heardAt u_a0_heardMany u_a0_tellsAt u_a0_tellMany u_a0_round u_a0_z m_a0_lengths m_a0_many m_a0_metAt m_a0_metBeat m_a1 m_a2) [some (.ref q_a0), some (.ref q_a1), some (.ref q_a2), some (.int l3), some (.int l4)] 40 []) (hK40_91 : ∀ (l3 : Int32) (l4 : Int32) (m_a0_metAt : Nat → Int32) (m_a0_metBeat : Nat → Int32) (m_a1 : Nat → Int32), K40_91 l3 l4 m_a0_metAt m_a0_metBeat m_a1 = some out → V X cX12_isRound "FarDrumModel" 0 0 (wX12_isRound (xG X) q_a0 q_a0_lengths q_a0_many q_a0_metAt q_a0_metBeat q_a1 q_a2 u_a0_thrown u_a0_trace u_a0_text u_a0_typed u_a0_next u_a0_token u_a0_place u_a0_value u_a0_fault u_a0_slow u_a0_deaf u_a0_told u_a0_s u_a0_w u_a0_kept u_a0_isKept u_a0_undos u_a0_undoMany u_a0_heardBy u_a0_heardAt u_a0_heardMany u_a0_tellsAt u_a0_tellMany u_a0_round u_a0_z m_a0_lengths m_a0_many m_a0_metAt m_a0_metBeat m_a1 m_a2) [some (.ref q_a0), some (.ref q_a1), some (.ref q_a2), some (.int l3), some (.int l4)] 91 []) (hf : fX12_isRound_40 B40 K40_91 N l3 l4 m_a0_lengths m_a0_many m_a0_metAt m_a0_metBeat m_a1 = some out) : V X cX12_isRound "FarDrumModel" 0 0 (wX12_isRound (xG X) q_a0 q_a0_lengths q_a0_many q_a0_metAt q_a0_metBeat q_a1 q_a2 u_a0_thrown u_a0_trace u_a0_text u_a0_typed u_a0_next u_a0_token u_a0_place u_a0_value u_a0_fault u_a0_slow u_a0_deaf u_a0_told u_a0_s u_a0_w u_a0_kept u_a0_isKept u_a0_undos u_a0_undoMany u_a0_heardBy u_a0_heardAt u_a0_heardMany u_a0_tellsAt u_a0_tellMany u_a0_round u_a0_z m_a0_lengths m_a0_many m_a0_metAt m_a0_metBeat m_a1 m_a2) [some (.ref q_a0), some (.ref q_a1), some (.ref q_a2), some (.int l3), some (.int l4)] 40 [] := by
  unfold fX12_isRound_40 at hf
  refine V.iload (pc := 40) dX12_isRound_40 rfl ?_
  refine V.if_eq (pc := 42) (tgt := 91) dX12_isRound_42 (by decide) hf (fun hf => ?_) (fun hf => ?_)
  · exact hK40_91 _ _ _ _ _ hf
  · refine V.aloadn (pc := 45) dX12_isRound_45 rfl ?_
    refine V.getf (q := 0) (pc := 46) dX12_isRound_46 fk_X12_50_12 rfl rfl ?_
    refine V.aloadn (pc := 49) dX12_isRound_49 rfl ?_
    refine V.iconst (pc := 50) (v := 2) dX12_isRound_50 (by decide) ?_
    refine V.ialdC (pc := 51) (q := 5) 2 dX12_isRound_51 rfl ⟨vp_c (by decide), by decide⟩ ?_
    refine V.iald (pc := 52) (q := 3) dX12_isRound_52 rfl hf (fun x52 hf => ?_)
    refine V.bipush (pc := 53) (v := -9) dX12_isRound_53 (by decide) ?_
    refine V.icmp_ne (pc := 55) (tgt := 91) dX12_isRound_55 (by decide) hf (fun hf => ?_) (fun hf => ?_)
    · exact hK40_91 _ _ _ _ _ hf
    · refine V.aloadn (pc := 58) dX12_isRound_58 rfl ?_
      refine V.getf (q := 0) (pc := 59) dX12_isRound_59 fk_X12_50_12 rfl rfl ?_
      refine V.aloadn (pc := 62) dX12_isRound_62 rfl ?_
      refine V.iconst (pc := 63) (v := 2) dX12_isRound_63 (by decide) ?_
      refine V.ialdC (pc := 64) (q := 5) 2 dX12_isRound_64 rfl ⟨vp_c (by decide), by decide⟩ ?_
      refine V.iloadn (pc := 65) dX12_isRound_65 rfl ?_
      refine V.iast (pc := 66) (q := 3) (wd' := fun g66 => wX12_isRound (xG X) q_a0 q_a0_lengths q_a0_many q_a0_metAt q_a0_metBeat q_a1 q_a2 u_a0_thrown u_a0_trace u_a0_text u_a0_typed u_a0_next u_a0_token u_a0_place u_a0_value u_a0_fault u_a0_slow u_a0_deaf u_a0_told u_a0_s u_a0_w u_a0_kept u_a0_isKept u_a0_undos u_a0_undoMany u_a0_heardBy u_a0_heardAt u_a0_heardMany u_a0_tellsAt u_a0_tellMany u_a0_round u_a0_z m_a0_lengths m_a0_many g66 m_a0_metBeat m_a1 m_a2) dX12_isRound_66 rfl hf (fun _ => rfl) (fun g66 hf => ?_)
      refine V.aloadn (pc := 67) dX12_isRound_67 rfl ?_
      refine V.getf (q := 0) (pc := 68) dX12_isRound_68 fk_X12_53_12 rfl rfl ?_
      refine V.aloadn (pc := 71) dX12_isRound_71 rfl ?_
      refine V.iconst (pc := 72) (v := 2) dX12_isRound_72 (by decide) ?_
      refine V.ialdC (pc := 73) (q := 5) 2 dX12_isRound_73 rfl ⟨vp_c (by decide), by decide⟩ ?_
      refine V.aloadn (pc := 74) dX12_isRound_74 rfl ?_
      refine V.iconst (pc := 75) (v := 1) dX12_isRound_75 (by decide) ?_
      refine V.ialdC (pc := 76) (q := 5) 1 dX12_isRound_76 rfl ⟨vp_c (by decide), by decide⟩ ?_
      refine V.iast (pc := 77) (q := 4) (wd' := fun g77 => wX12_isRound (xG X) q_a0 q_a0_lengths q_a0_many q_a0_metAt q_a0_metBeat q_a1 q_a2 u_a0_thrown u_a0_trace u_a0_text u_a0_typed u_a0_next u_a0_token u_a0_place u_a0_value u_a0_fault u_a0_slow u_a0_deaf u_a0_told u_a0_s u_a0_w u_a0_kept u_a0_isKept u_a0_undos u_a0_undoMany u_a0_heardBy u_a0_heardAt u_a0_heardMany u_a0_tellsAt u_a0_tellMany u_a0_round u_a0_z m_a0_lengths m_a0_many g66 g77 m_a1 m_a2) dX12_isRound_77 rfl hf (fun _ => rfl) (fun g77 hf => ?_)
      refine V.iinc (pc := 78) (v := 1) dX12_isRound_78 rfl rfl (by decide) rfl ?_
      refine V.aloadn (pc := 81) dX12_isRound_81 rfl ?_
      refine V.aloadn (pc := 82) dX12_isRound_82 rfl ?_
      refine V.callVi (pc := 83) (q := 0) (wr := [(q_a0_metAt, .inl ((xG X).2 0, 6, .inl g66)), (q_a0_metBeat, .inl ((xG X).2 0, 6, .inl g77)), (q_a2, .inl ((xG X).2 0, 3, .inl m_a2))]) (wd' := fun o83 => wX12_isRound (xG X) q_a0 q_a0_lengths q_a0_many q_a0_metAt q_a0_metBeat q_a1 q_a2 u_a0_thrown u_a0_trace u_a0_text u_a0_typed u_a0_next u_a0_token u_a0_place u_a0_value u_a0_fault u_a0_slow u_a0_deaf u_a0_told u_a0_s u_a0_w u_a0_kept u_a0_isKept u_a0_undos u_a0_undoMany u_a0_heardBy u_a0_heardAt u_a0_heardMany u_a0_tellsAt u_a0_tellMany u_a0_round u_a0_z m_a0_lengths m_a0_many g66 g77 o83.2 m_a2) [.ref q_a1] (st := []) hf (fun _ h => oX12_goes (q_a0 := q_a0) (q_a0_lengths := q_a0_lengths) (q_a0_many := q_a0_many) (q_a1 := q_a1) (u_a0_thrown := u_a0_thrown) (u_a0_trace := u_a0_trace) (u_a0_text := u_a0_text) (u_a0_typed := u_a0_typed) (u_a0_next := u_a0_next) (u_a0_token := u_a0_token) (u_a0_place := u_a0_place) (u_a0_value := u_a0_value) (u_a0_fault := u_a0_fault) (u_a0_slow := u_a0_slow) (u_a0_deaf := u_a0_deaf) (u_a0_told := u_a0_told) (u_a0_s := u_a0_s) (u_a0_w := u_a0_w) (u_a0_kept := u_a0_kept) (u_a0_isKept := u_a0_isKept) (u_a0_undos := u_a0_undos) (u_a0_undoMany := u_a0_undoMany) (u_a0_heardBy := u_a0_heardBy) (u_a0_heardAt := u_a0_heardAt) (u_a0_heardMany := u_a0_heardMany) (u_a0_tellsAt := u_a0_tellsAt) (u_a0_tellMany := u_a0_tellMany) (u_a0_metAt := ((.ref q_a0_metAt))) (u_a0_metBeat := ((.ref q_a0_metBeat))) (u_a0_round := u_a0_round) (u_a0_z := u_a0_z) (m_a0_lengths := m_a0_lengths) (m_a0_many := m_a0_many) (m_a1 := m_a1) h) lkV_X12_151 dX12_isRound_83 hX rfl ⟨rfl, rfl⟩ ⟨rfl, rfl⟩ rfl rfl rfl rfl rfl [0, 1, 2, 5] [3, 4, 6] [3, 4, 5, 0, 1, 6, 2] rfl rfl rfl rfl rfl (fun _ => rfl) rfl (fun o83 hf => ?_)
      refine V.istore (pc := 86) dX12_isRound_86 rfl rfl rfl ?_
      refine V.goto (pc := 88) (tgt := 40) dX12_isRound_88 (by decide) ?_
      exact hB40 _ _ _ _ _ hf
theorem tX12_isRound_L40 {out : Int32 × (Nat → Int32) × (Nat → Int32) × (Nat → Int32) × (Nat → Int32)} (hX : xk X = kX12_isRound) (hQ : xQ X = qE (some (.int out.1)) (wX12_isRound (xG X) q_a0 q_a0_lengths q_a0_many q_a0_metAt q_a0_metBeat q_a1 q_a2 u_a0_thrown u_a0_trace u_a0_text u_a0_typed u_a0_next u_a0_token u_a0_place u_a0_value u_a0_fault u_a0_slow u_a0_deaf u_a0_told u_a0_s u_a0_w u_a0_kept u_a0_isKept u_a0_undos u_a0_undoMany u_a0_heardBy u_a0_heardAt u_a0_heardMany u_a0_tellsAt u_a0_tellMany u_a0_round u_a0_z m_a0_lengths m_a0_many out.2.1 out.2.2.1 out.2.2.2.1 out.2.2.2.2)) {K40_91 : Int32 → Int32 → (Nat → Int32) → (Nat → Int32) → (Nat → Int32) → Option (Int32 × (Nat → Int32) × (Nat → Int32) × (Nat → Int32) × (Nat → Int32))} (hK40_91 : ∀ (l3 : Int32) (l4 : Int32) (m_a0_metAt : Nat → Int32) (m_a0_metBeat : Nat → Int32) (m_a1 : Nat → Int32), K40_91 l3 l4 m_a0_metAt m_a0_metBeat m_a1 = some out → V X cX12_isRound "FarDrumModel" 0 0 (wX12_isRound (xG X) q_a0 q_a0_lengths q_a0_many q_a0_metAt q_a0_metBeat q_a1 q_a2 u_a0_thrown u_a0_trace u_a0_text u_a0_typed u_a0_next u_a0_token u_a0_place u_a0_value u_a0_fault u_a0_slow u_a0_deaf u_a0_told u_a0_s u_a0_w u_a0_kept u_a0_isKept u_a0_undos u_a0_undoMany u_a0_heardBy u_a0_heardAt u_a0_heardMany u_a0_tellsAt u_a0_tellMany u_a0_round u_a0_z m_a0_lengths m_a0_many m_a0_metAt m_a0_metBeat m_a1 m_a2) [some (.ref q_a0), some (.ref q_a1), some (.ref q_a2), some (.int l3), some (.int l4)] 91 []) : ∀ (n : Nat) (l3 : Int32) (l4 : Int32) (m_a0_metAt : Nat → Int32) (m_a0_metBeat : Nat → Int32) (m_a1 : Nat → Int32), fX12_isRound_L40 N m_a0_lengths m_a0_many K40_91 n l3 l4 m_a0_metAt m_a0_metBeat m_a1 = some out → V X cX12_isRound "FarDrumModel" 0 0 (wX12_isRound (xG X) q_a0 q_a0_lengths q_a0_many q_a0_metAt q_a0_metBeat q_a1 q_a2 u_a0_thrown u_a0_trace u_a0_text u_a0_typed u_a0_next u_a0_token u_a0_place u_a0_value u_a0_fault u_a0_slow u_a0_deaf u_a0_told u_a0_s u_a0_w u_a0_kept u_a0_isKept u_a0_undos u_a0_undoMany u_a0_heardBy u_a0_heardAt u_a0_heardMany u_a0_tellsAt u_a0_tellMany u_a0_round u_a0_z m_a0_lengths m_a0_many m_a0_metAt m_a0_metBeat m_a1 m_a2) [some (.ref q_a0), some (.ref q_a1), some (.ref q_a2), some (.int l3), some (.int l4)] 40 [] := by
  intro n
  induction n with
  | zero => intro l3 l4 m_a0_metAt m_a0_metBeat m_a1 hf; cases hf
  | succ n ih => intro l3 l4 m_a0_metAt m_a0_metBeat m_a1 hf; exact tX12_isRound_40 hX hQ ih hK40_91 hf
set_option maxRecDepth 20000 in
theorem tX12_isRound_135 {out : Int32 × (Nat → Int32) × (Nat → Int32) × (Nat → Int32) × (Nat → Int32)} (hX : xk X = kX12_isRound) (hQ : xQ X = qE (some (.int out.1)) (wX12_isRound (xG X) q_a0 q_a0_lengths q_a0_many q_a0_metAt q_a0_metBeat q_a1 q_a2 u_a0_thrown u_a0_trace u_a0_text u_a0_typed u_a0_next u_a0_token u_a0_place u_a0_value u_a0_fault u_a0_slow u_a0_deaf u_a0_told u_a0_s u_a0_w u_a0_kept u_a0_isKept u_a0_undos u_a0_undoMany u_a0_heardBy u_a0_heardAt u_a0_heardMany u_a0_tellsAt u_a0_tellMany u_a0_round u_a0_z m_a0_lengths m_a0_many out.2.1 out.2.2.1 out.2.2.2.1 out.2.2.2.2)) (hf : fX12_isRound_135 l4 m_a0_metAt m_a0_metBeat m_a1 m_a2 = some out) : V X cX12_isRound "FarDrumModel" 0 0 (wX12_isRound (xG X) q_a0 q_a0_lengths q_a0_many q_a0_metAt q_a0_metBeat q_a1 q_a2 u_a0_thrown u_a0_trace u_a0_text u_a0_typed u_a0_next u_a0_token u_a0_place u_a0_value u_a0_fault u_a0_slow u_a0_deaf u_a0_told u_a0_s u_a0_w u_a0_kept u_a0_isKept u_a0_undos u_a0_undoMany u_a0_heardBy u_a0_heardAt u_a0_heardMany u_a0_tellsAt u_a0_tellMany u_a0_round u_a0_z m_a0_lengths m_a0_many m_a0_metAt m_a0_metBeat m_a1 m_a2) [none, none, none, none, some (.int l4)] 135 [] := by
  unfold fX12_isRound_135 at hf
  refine V.iload (pc := 135) dX12_isRound_135 rfl ?_
  obtain ⟨hz, hf⟩ := bz_ok hf
  exact V.zretE (pc := 137) hX kX12_isRound_r hQ hz dX12_isRound_137 (by cases hf; rfl) (by cases hf; rfl)
set_option maxRecDepth 20000 in
theorem tX12_isRound_38 {out : Int32 × (Nat → Int32) × (Nat → Int32) × (Nat → Int32) × (Nat → Int32)} (hX : xk X = kX12_isRound) (hQ : xQ X = qE (some (.int out.1)) (wX12_isRound (xG X) q_a0 q_a0_lengths q_a0_many q_a0_metAt q_a0_metBeat q_a1 q_a2 u_a0_thrown u_a0_trace u_a0_text u_a0_typed u_a0_next u_a0_token u_a0_place u_a0_value u_a0_fault u_a0_slow u_a0_deaf u_a0_told u_a0_s u_a0_w u_a0_kept u_a0_isKept u_a0_undos u_a0_undoMany u_a0_heardBy u_a0_heardAt u_a0_heardMany u_a0_tellsAt u_a0_tellMany u_a0_round u_a0_z m_a0_lengths m_a0_many out.2.1 out.2.2.1 out.2.2.2.1 out.2.2.2.2)) (hf : fX12_isRound_38 N l3 s0 m_a0_lengths m_a0_many m_a0_metAt m_a0_metBeat m_a1 m_a2 = some out) : V X cX12_isRound "FarDrumModel" 0 0 (wX12_isRound (xG X) q_a0 q_a0_lengths q_a0_many q_a0_metAt q_a0_metBeat q_a1 q_a2 u_a0_thrown u_a0_trace u_a0_text u_a0_typed u_a0_next u_a0_token u_a0_place u_a0_value u_a0_fault u_a0_slow u_a0_deaf u_a0_told u_a0_s u_a0_w u_a0_kept u_a0_isKept u_a0_undos u_a0_undoMany u_a0_heardBy u_a0_heardAt u_a0_heardMany u_a0_tellsAt u_a0_tellMany u_a0_round u_a0_z m_a0_lengths m_a0_many m_a0_metAt m_a0_metBeat m_a1 m_a2) [some (.ref q_a0), some (.ref q_a1), some (.ref q_a2), some (.int l3), none] 38 [.int s0] := by
  unfold fX12_isRound_38 at hf
  refine V.istore (pc := 38) dX12_isRound_38 rfl rfl rfl ?_
  refine tX12_isRound_L40 hX hQ ?_ _ _ _ _ _ _ hf
  · intro l3k40_91 l4k40_91 m_a0_metAtk40_91 m_a0_metBeatk40_91 m_a1k40_91 hf
    refine V.iload (pc := 91) dX12_isRound_91 rfl ?_
    refine V.if_eq (pc := 93) (tgt := 135) dX12_isRound_93 (by decide) hf (fun hf => ?_) (fun hf => ?_)
    · refine V.mask (pc := 135) [false, false, false, false, true] rfl rfl ?_
      exact tX12_isRound_135 hX hQ hf
    · refine V.aloadn (pc := 96) dX12_isRound_96 rfl ?_
      refine V.iconst (pc := 97) (v := 0) dX12_isRound_97 (by decide) ?_
      refine V.aloadn (pc := 98) dX12_isRound_98 rfl ?_
      refine V.getf (q := 0) (pc := 99) dX12_isRound_99 fk_X12_50_12 rfl rfl ?_
      refine V.aloadn (pc := 102) dX12_isRound_102 rfl ?_
      refine V.iconst (pc := 103) (v := 2) dX12_isRound_103 (by decide) ?_
      refine V.ialdC (pc := 104) (q := 5) 2 dX12_isRound_104 rfl ⟨vp_c (by decide), by decide⟩ ?_
      refine V.iald (pc := 105) (q := 3) dX12_isRound_105 rfl hf (fun x105 hf => ?_)
      refine V.iastC (pc := 106) (q := 6) (wd' := fun g106 => wX12_isRound (xG X) q_a0 q_a0_lengths q_a0_many q_a0_metAt q_a0_metBeat q_a1 q_a2 u_a0_thrown u_a0_trace u_a0_text u_a0_typed u_a0_next u_a0_token u_a0_place u_a0_value u_a0_fault u_a0_slow u_a0_deaf u_a0_told u_a0_s u_a0_w u_a0_kept u_a0_isKept u_a0_undos u_a0_undoMany u_a0_heardBy u_a0_heardAt u_a0_heardMany u_a0_tellsAt u_a0_tellMany u_a0_round u_a0_z m_a0_lengths m_a0_many m_a0_metAtk40_91 m_a0_metBeatk40_91 m_a1k40_91 g106) 0 dX12_isRound_106 rfl ⟨vp_c (by decide), by decide⟩ hf (fun _ => rfl) (fun g106 hf => ?_)
      refine V.aloadn (pc := 107) dX12_isRound_107 rfl ?_
      refine V.iconst (pc := 108) (v := 1) dX12_isRound_108 (by decide) ?_
      refine V.iloadn (pc := 109) dX12_isRound_109 rfl ?_
      refine V.aloadn (pc := 110) dX12_isRound_110 rfl ?_
      refine V.getf (q := 0) (pc := 111) dX12_isRound_111 fk_X12_50_12 rfl rfl ?_
      refine V.aloadn (pc := 114) dX12_isRound_114 rfl ?_
      refine V.iconst (pc := 115) (v := 2) dX12_isRound_115 (by decide) ?_
      refine V.ialdC (pc := 116) (q := 5) 2 dX12_isRound_116 rfl ⟨vp_c (by decide), by decide⟩ ?_
      refine V.iald (pc := 117) (q := 3) dX12_isRound_117 rfl hf (fun x117 hf => ?_)
      refine V.isub (pc := 118) dX12_isRound_118 ?_
      refine V.iastC (pc := 119) (q := 6) (wd' := fun g119 => wX12_isRound (xG X) q_a0 q_a0_lengths q_a0_many q_a0_metAt q_a0_metBeat q_a1 q_a2 u_a0_thrown u_a0_trace u_a0_text u_a0_typed u_a0_next u_a0_token u_a0_place u_a0_value u_a0_fault u_a0_slow u_a0_deaf u_a0_told u_a0_s u_a0_w u_a0_kept u_a0_isKept u_a0_undos u_a0_undoMany u_a0_heardBy u_a0_heardAt u_a0_heardMany u_a0_tellsAt u_a0_tellMany u_a0_round u_a0_z m_a0_lengths m_a0_many m_a0_metAtk40_91 m_a0_metBeatk40_91 m_a1k40_91 g119) 1 dX12_isRound_119 rfl ⟨vp_c (by decide), by decide⟩ hf (fun _ => rfl) (fun g119 hf => ?_)
      refine V.aloadn (pc := 120) dX12_isRound_120 rfl ?_
      refine V.iconst (pc := 121) (v := 2) dX12_isRound_121 (by decide) ?_
      refine V.aloadn (pc := 122) dX12_isRound_122 rfl ?_
      refine V.iconst (pc := 123) (v := 1) dX12_isRound_123 (by decide) ?_
      refine V.ialdC (pc := 124) (q := 5) 1 dX12_isRound_124 rfl ⟨vp_c (by decide), by decide⟩ ?_
      refine V.aloadn (pc := 125) dX12_isRound_125 rfl ?_
      refine V.getf (q := 0) (pc := 126) dX12_isRound_126 fk_X12_53_12 rfl rfl ?_
      refine V.aloadn (pc := 129) dX12_isRound_129 rfl ?_
      refine V.iconst (pc := 130) (v := 2) dX12_isRound_130 (by decide) ?_
      refine V.ialdC (pc := 131) (q := 5) 2 dX12_isRound_131 rfl ⟨vp_c (by decide), by decide⟩ ?_
      refine V.iald (pc := 132) (q := 4) dX12_isRound_132 rfl hf (fun x132 hf => ?_)
      refine V.isub (pc := 133) dX12_isRound_133 ?_
      refine V.iastC (pc := 134) (q := 6) (wd' := fun g134 => wX12_isRound (xG X) q_a0 q_a0_lengths q_a0_many q_a0_metAt q_a0_metBeat q_a1 q_a2 u_a0_thrown u_a0_trace u_a0_text u_a0_typed u_a0_next u_a0_token u_a0_place u_a0_value u_a0_fault u_a0_slow u_a0_deaf u_a0_told u_a0_s u_a0_w u_a0_kept u_a0_isKept u_a0_undos u_a0_undoMany u_a0_heardBy u_a0_heardAt u_a0_heardMany u_a0_tellsAt u_a0_tellMany u_a0_round u_a0_z m_a0_lengths m_a0_many m_a0_metAtk40_91 m_a0_metBeatk40_91 m_a1k40_91 g134) 2 dX12_isRound_134 rfl ⟨vp_c (by decide), by decide⟩ hf (fun _ => rfl) (fun g134 hf => ?_)
      refine V.mask (pc := 135) [false, false, false, false, true] rfl rfl ?_
      exact tX12_isRound_135 hX hQ hf
set_option maxRecDepth 20000 in
theorem tX12_isRound_0 {out : Int32 × (Nat → Int32) × (Nat → Int32) × (Nat → Int32) × (Nat → Int32)} (hX : xk X = kX12_isRound) (hQ : xQ X = qE (some (.int out.1)) (wX12_isRound (xG X) q_a0 q_a0_lengths q_a0_many q_a0_metAt q_a0_metBeat q_a1 q_a2 u_a0_thrown u_a0_trace u_a0_text u_a0_typed u_a0_next u_a0_token u_a0_place u_a0_value u_a0_fault u_a0_slow u_a0_deaf u_a0_told u_a0_s u_a0_w u_a0_kept u_a0_isKept u_a0_undos u_a0_undoMany u_a0_heardBy u_a0_heardAt u_a0_heardMany u_a0_tellsAt u_a0_tellMany u_a0_round u_a0_z m_a0_lengths m_a0_many out.2.1 out.2.2.1 out.2.2.2.1 out.2.2.2.2)) (hf : fX12_isRound N m_a0_lengths m_a0_many m_a0_metAt m_a0_metBeat m_a1 m_a2 = some out) : V X cX12_isRound "FarDrumModel" 0 0 (wX12_isRound (xG X) q_a0 q_a0_lengths q_a0_many q_a0_metAt q_a0_metBeat q_a1 q_a2 u_a0_thrown u_a0_trace u_a0_text u_a0_typed u_a0_next u_a0_token u_a0_place u_a0_value u_a0_fault u_a0_slow u_a0_deaf u_a0_told u_a0_s u_a0_w u_a0_kept u_a0_isKept u_a0_undos u_a0_undoMany u_a0_heardBy u_a0_heardAt u_a0_heardMany u_a0_tellsAt u_a0_tellMany u_a0_round u_a0_z m_a0_lengths m_a0_many m_a0_metAt m_a0_metBeat m_a1 m_a2) [some (.ref q_a0), some (.ref q_a1), some (.ref q_a2), none, none] 0 [] := by
  unfold fX12_isRound at hf
  refine V.iconst (pc := 0) (v := 0) dX12_isRound_0 (by decide) ?_
  refine V.istoren (pc := 1) dX12_isRound_1 rfl rfl rfl ?_
  refine tX12_isRound_L2 hX hQ ?_ _ _ _ hf
  · intro m_a0_metAtk2_22 hf
    refine V.iconst (pc := 22) (v := 0) dX12_isRound_22 (by decide) ?_
    refine V.istoren (pc := 23) dX12_isRound_23 rfl rfl rfl ?_
    refine V.aloadn (pc := 24) dX12_isRound_24 rfl ?_
    refine V.getf (q := 0) (pc := 25) dX12_isRound_25 fk_X12_13_12 rfl rfl ?_
    refine V.iconst (pc := 28) (v := 0) dX12_isRound_28 (by decide) ?_
    refine V.ialdC (pc := 29) (q := 2) 0 dX12_isRound_29 rfl ⟨vp_c (by decide), by decide⟩ ?_
    refine V.if_le (pc := 30) (tgt := 37) dX12_isRound_30 (by decide) hf (fun hf => ?_) (fun hf => ?_)
    · refine V.iconst (pc := 37) (v := 0) dX12_isRound_37 (by decide) ?_
      exact tX12_isRound_38 hX hQ hf
    · refine V.iconst (pc := 33) (v := 1) dX12_isRound_33 (by decide) ?_
      refine V.goto (pc := 34) (tgt := 38) dX12_isRound_34 (by decide) ?_
      exact tX12_isRound_38 hX hQ hf
end
theorem oX12_isRound {l : Launch} {G : GT} {N : Nat} {q_a0 : Nat} {q_a0_lengths : Nat} {q_a0_many : Nat} {q_a0_metAt : Nat} {q_a0_metBeat : Nat} {q_a1 : Nat} {q_a2 : Nat} {u_a0_thrown : Value} {u_a0_trace : Value} {u_a0_text : Value} {u_a0_typed : Value} {u_a0_next : Value} {u_a0_token : Value} {u_a0_place : Value} {u_a0_value : Value} {u_a0_fault : Value} {u_a0_slow : Value} {u_a0_deaf : Value} {u_a0_told : Value} {u_a0_s : Value} {u_a0_w : Value} {u_a0_kept : Value} {u_a0_isKept : Value} {u_a0_undos : Value} {u_a0_undoMany : Value} {u_a0_heardBy : Value} {u_a0_heardAt : Value} {u_a0_heardMany : Value} {u_a0_tellsAt : Value} {u_a0_tellMany : Value} {u_a0_round : Value} {u_a0_z : Value} {m_a0_lengths : Nat → Int32} {m_a0_many : Nat → Int32} {m_a0_metAt : Nat → Int32} {m_a0_metBeat : Nat → Int32} {m_a1 : Nat → Int32} {m_a2 : Nat → Int32} {out : Int32 × (Nat → Int32) × (Nat → Int32) × (Nat → Int32) × (Nat → Int32)} (hf : fX12_isRound N m_a0_lengths m_a0_many m_a0_metAt m_a0_metBeat m_a1 m_a2 = some out) : Ct (l, G, kX12_isRound, wX12_isRound G q_a0 q_a0_lengths q_a0_many q_a0_metAt q_a0_metBeat q_a1 q_a2 u_a0_thrown u_a0_trace u_a0_text u_a0_typed u_a0_next u_a0_token u_a0_place u_a0_value u_a0_fault u_a0_slow u_a0_deaf u_a0_told u_a0_s u_a0_w u_a0_kept u_a0_isKept u_a0_undos u_a0_undoMany u_a0_heardBy u_a0_heardAt u_a0_heardMany u_a0_tellsAt u_a0_tellMany u_a0_round u_a0_z m_a0_lengths m_a0_many m_a0_metAt m_a0_metBeat m_a1 m_a2, [.ref q_a0, .ref q_a1, .ref q_a2], qE (some (.int out.1)) (wX12_isRound G q_a0 q_a0_lengths q_a0_many q_a0_metAt q_a0_metBeat q_a1 q_a2 u_a0_thrown u_a0_trace u_a0_text u_a0_typed u_a0_next u_a0_token u_a0_place u_a0_value u_a0_fault u_a0_slow u_a0_deaf u_a0_told u_a0_s u_a0_w u_a0_kept u_a0_isKept u_a0_undos u_a0_undoMany u_a0_heardBy u_a0_heardAt u_a0_heardMany u_a0_tellsAt u_a0_tellMany u_a0_round u_a0_z m_a0_lengths m_a0_many out.2.1 out.2.2.1 out.2.2.2.1 out.2.2.2.2)) :=
  Ct.of [some (.ref q_a0), some (.ref q_a1), some (.ref q_a2), none, none] kX12_isRound_p rfl rfl rfl ((tX12_isRound_0 (X := (l, G, kX12_isRound, wX12_isRound G q_a0 q_a0_lengths q_a0_many q_a0_metAt q_a0_metBeat q_a1 q_a2 u_a0_thrown u_a0_trace u_a0_text u_a0_typed u_a0_next u_a0_token u_a0_place u_a0_value u_a0_fault u_a0_slow u_a0_deaf u_a0_told u_a0_s u_a0_w u_a0_kept u_a0_isKept u_a0_undos u_a0_undoMany u_a0_heardBy u_a0_heardAt u_a0_heardMany u_a0_tellsAt u_a0_tellMany u_a0_round u_a0_z m_a0_lengths m_a0_many m_a0_metAt m_a0_metBeat m_a1 m_a2, [.ref q_a0, .ref q_a1, .ref q_a2], qE (some (.int out.1)) (wX12_isRound G q_a0 q_a0_lengths q_a0_many q_a0_metAt q_a0_metBeat q_a1 q_a2 u_a0_thrown u_a0_trace u_a0_text u_a0_typed u_a0_next u_a0_token u_a0_place u_a0_value u_a0_fault u_a0_slow u_a0_deaf u_a0_told u_a0_s u_a0_w u_a0_kept u_a0_isKept u_a0_undos u_a0_undoMany u_a0_heardBy u_a0_heardAt u_a0_heardMany u_a0_tellsAt u_a0_tellMany u_a0_round u_a0_z m_a0_lengths m_a0_many out.2.1 out.2.2.1 out.2.2.2.1 out.2.2.2.2))) rfl rfl hf))
