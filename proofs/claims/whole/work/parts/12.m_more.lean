def wX12_isEndless (G : GT) (q_a0 : Nat) (q_a0_lengths : Nat) (q_a0_many : Nat) (q_a0_s : Nat) (q_a0_w : Nat) (u_a0_thrown : Value) (u_a0_trace : Value) (u_a0_text : Value) (u_a0_typed : Value) (u_a0_next : Value) (u_a0_token : Value) (u_a0_place : Value) (u_a0_value : Value) (u_a0_fault : Value) (u_a0_slow : Value) (u_a0_deaf : Value) (u_a0_told : Value) (u_a0_kept : Value) (u_a0_isKept : Value) (u_a0_undos : Value) (u_a0_undoMany : Value) (u_a0_heardBy : Value) (u_a0_heardAt : Value) (u_a0_heardMany : Value) (u_a0_tellsAt : Value) (u_a0_tellMany : Value) (u_a0_metAt : Value) (u_a0_metBeat : Value) (u_a0_round : Value) (u_a0_z : Value) (m_a0_lengths : Nat → Int32) (m_a0_many : Nat → Int32) (m_a0_s : Nat → Int32) (m_a0_w : Nat → Int32) : va_W := [(q_a0, .inr (12, [u_a0_thrown, u_a0_trace, u_a0_text, u_a0_typed, u_a0_next, u_a0_token, u_a0_place, u_a0_value, u_a0_fault, .ref q_a0_many, u_a0_slow, u_a0_deaf, .ref q_a0_lengths, u_a0_told, .ref q_a0_s, .ref q_a0_w, u_a0_kept, u_a0_isKept, u_a0_undos, u_a0_undoMany, u_a0_heardBy, u_a0_heardAt, u_a0_heardMany, u_a0_tellsAt, u_a0_tellMany, u_a0_metAt, u_a0_metBeat, u_a0_round, u_a0_z])), (q_a0_lengths, .inl (G.2 0, 72, .inl m_a0_lengths)), (q_a0_many, .inl (G.2 0, 6, .inl m_a0_many)), (q_a0_s, .inl (G.2 0, 35, .inl m_a0_s)), (q_a0_w, .inl (G.2 0, 35, .inl m_a0_w))]
def kX12_isEndless : KT := (yX12_isEndless, cX12_isEndless, 4, (some .boolean), 4, 0, 0)
theorem kX12_isEndless_r : kr kX12_isEndless = (some .boolean) ∧ kmc kX12_isEndless = 0 ∧ kms kX12_isEndless = 0 := ⟨rfl, rfl, rfl⟩
theorem kX12_isEndless_p : plainName (ky kX12_isEndless).cls = true := by decide +kernel
def fX12_isEndless_64 (s0 : Int32) (m_a0_w : Nat → Int32) : Option (Int32 × (Nat → Int32)) :=
  bz s0 <| 
  some (s0, m_a0_w)
def fX12_isEndless_46 (N : Nat) (m_a0_lengths : Nat → Int32) (m_a0_many : Nat → Int32) (m_a0_w : Nat → Int32) : Option (Int32 × (Nat → Int32)) :=
  Option.bind (fX12_endsIn N m_a0_lengths m_a0_many m_a0_w) fun o51 =>
  if o51.1 = (-9 : Int32) then (fX12_isEndless_64 (1 : Int32) o51.2)
  else (fX12_isEndless_64 (0 : Int32) o51.2)
def fX12_isEndless_25 (N : Nat) (l2 : Int32) (l3 : Int32) (m_a0_lengths : Nat → Int32) (m_a0_many : Nat → Int32) (m_a0_w : Nat → Int32) : Option (Int32 × (Nat → Int32)) :=
  if l2 < 0 then (fX12_isEndless_46 N m_a0_lengths m_a0_many m_a0_w)
  else (Option.bind (fX12_sent (l2 / (6 : Int32)) (l2 - l2 / (6 : Int32) * (6 : Int32)) l3 m_a0_w) fun o43 =>
  fX12_isEndless_46 N m_a0_lengths m_a0_many o43)
def fX12_isEndless (N : Nat) (l1 : Int32) (l2 : Int32) (l3 : Int32) (m_a0_lengths : Nat → Int32) (m_a0_many : Nat → Int32) (m_a0_s : Nat → Int32) (m_a0_w : Nat → Int32) : Option (Int32 × (Nat → Int32)) :=
  Option.bind (fX12_asNow N m_a0_s m_a0_w) fun o1 =>
  if l1 < 0 then (fX12_isEndless_25 N l2 l3 m_a0_lengths m_a0_many o1)
  else (Option.bind (fX12_sent (l1 / (6 : Int32)) (l1 - l1 / (6 : Int32) * (6 : Int32)) l3 o1) fun o22 =>
  fX12_isEndless_25 N l2 l3 m_a0_lengths m_a0_many o22)
section
variable {X : XT} {N : Nat} {q_a0 : Nat} {q_a0_lengths : Nat} {q_a0_many : Nat} {q_a0_s : Nat} {q_a0_w : Nat} {u_a0_thrown : Value} {u_a0_trace : Value} {u_a0_text : Value} {u_a0_typed : Value} {u_a0_next : Value} {u_a0_token : Value} {u_a0_place : Value} {u_a0_value : Value} {u_a0_fault : Value} {u_a0_slow : Value} {u_a0_deaf : Value} {u_a0_told : Value} {u_a0_kept : Value} {u_a0_isKept : Value} {u_a0_undos : Value} {u_a0_undoMany : Value} {u_a0_heardBy : Value} {u_a0_heardAt : Value} {u_a0_heardMany : Value} {u_a0_tellsAt : Value} {u_a0_tellMany : Value} {u_a0_metAt : Value} {u_a0_metBeat : Value} {u_a0_round : Value} {u_a0_z : Value} {m_a0_lengths : Nat → Int32} {m_a0_many : Nat → Int32} {m_a0_s : Nat → Int32} {m_a0_w : Nat → Int32} {l1 : Int32} {l2 : Int32} {l3 : Int32} {s0 : Int32}
set_option maxRecDepth 20000 in
theorem tX12_isEndless_64 {out : Int32 × (Nat → Int32)} (hX : xk X = kX12_isEndless) (hQ : xQ X = qE (some (.int out.1)) (wX12_isEndless (xG X) q_a0 q_a0_lengths q_a0_many q_a0_s q_a0_w u_a0_thrown u_a0_trace u_a0_text u_a0_typed u_a0_next u_a0_token u_a0_place u_a0_value u_a0_fault u_a0_slow u_a0_deaf u_a0_told u_a0_kept u_a0_isKept u_a0_undos u_a0_undoMany u_a0_heardBy u_a0_heardAt u_a0_heardMany u_a0_tellsAt u_a0_tellMany u_a0_metAt u_a0_metBeat u_a0_round u_a0_z m_a0_lengths m_a0_many m_a0_s out.2)) (hf : fX12_isEndless_64 s0 m_a0_w = some out) : V X cX12_isEndless "FarDrumModel" 0 0 (wX12_isEndless (xG X) q_a0 q_a0_lengths q_a0_many q_a0_s q_a0_w u_a0_thrown u_a0_trace u_a0_text u_a0_typed u_a0_next u_a0_token u_a0_place u_a0_value u_a0_fault u_a0_slow u_a0_deaf u_a0_told u_a0_kept u_a0_isKept u_a0_undos u_a0_undoMany u_a0_heardBy u_a0_heardAt u_a0_heardMany u_a0_tellsAt u_a0_tellMany u_a0_metAt u_a0_metBeat u_a0_round u_a0_z m_a0_lengths m_a0_many m_a0_s m_a0_w) [none, none, none, none] 64 [.int s0] := by
  unfold fX12_isEndless_64 at hf
  obtain ⟨hz, hf⟩ := bz_ok hf
  exact V.zretE (pc := 64) hX kX12_isEndless_r hQ hz dX12_isEndless_64 (by cases hf; rfl) (by cases hf; rfl)
set_option maxRecDepth 20000 in
theorem tX12_isEndless_46 {out : Int32 × (Nat → Int32)} (hX : xk X = kX12_isEndless) (hQ : xQ X = qE (some (.int out.1)) (wX12_isEndless (xG X) q_a0 q_a0_lengths q_a0_many q_a0_s q_a0_w u_a0_thrown u_a0_trace u_a0_text u_a0_typed u_a0_next u_a0_token u_a0_place u_a0_value u_a0_fault u_a0_slow u_a0_deaf u_a0_told u_a0_kept u_a0_isKept u_a0_undos u_a0_undoMany u_a0_heardBy u_a0_heardAt u_a0_heardMany u_a0_tellsAt u_a0_tellMany u_a0_metAt u_a0_metBeat u_a0_round u_a0_z m_a0_lengths m_a0_many m_a0_s out.2)) (hf : fX12_isEndless_46 N m_a0_lengths m_a0_many m_a0_w = some out) : V X cX12_isEndless "FarDrumModel" 0 0 (wX12_isEndless (xG X) q_a0 q_a0_lengths q_a0_many q_a0_s q_a0_w u_a0_thrown u_a0_trace u_a0_text u_a0_typed u_a0_next u_a0_token u_a0_place u_a0_value u_a0_fault u_a0_slow u_a0_deaf u_a0_told u_a0_kept u_a0_isKept u_a0_undos u_a0_undoMany u_a0_heardBy u_a0_heardAt u_a0_heardMany u_a0_tellsAt u_a0_tellMany u_a0_metAt u_a0_metBeat u_a0_round u_a0_z m_a0_lengths m_a0_many m_a0_s m_a0_w) [some (.ref q_a0), none, none, none] 46 [] := by
  unfold fX12_isEndless_46 at hf
  refine V.aloadn (pc := 46) dX12_isEndless_46 rfl ?_
  refine V.aloadn (pc := 47) dX12_isEndless_47 rfl ?_
  refine V.getf (q := 0) (pc := 48) dX12_isEndless_48 fk_X12_28_12 rfl rfl ?_
  refine V.callVi (pc := 51) (q := 0) (wr := [(q_a0_s, .inl ((xG X).2 0, 35, .inl m_a0_s))]) (wd' := fun o51 => wX12_isEndless (xG X) q_a0 q_a0_lengths q_a0_many q_a0_s q_a0_w u_a0_thrown u_a0_trace u_a0_text u_a0_typed u_a0_next u_a0_token u_a0_place u_a0_value u_a0_fault u_a0_slow u_a0_deaf u_a0_told u_a0_kept u_a0_isKept u_a0_undos u_a0_undoMany u_a0_heardBy u_a0_heardAt u_a0_heardMany u_a0_tellsAt u_a0_tellMany u_a0_metAt u_a0_metBeat u_a0_round u_a0_z m_a0_lengths m_a0_many m_a0_s o51.2) [.ref q_a0_w] (st := []) hf (fun _ h => oX12_endsIn (q_a0 := q_a0) (q_a0_lengths := q_a0_lengths) (q_a0_many := q_a0_many) (q_a1 := q_a0_w) (u_a0_thrown := u_a0_thrown) (u_a0_trace := u_a0_trace) (u_a0_text := u_a0_text) (u_a0_typed := u_a0_typed) (u_a0_next := u_a0_next) (u_a0_token := u_a0_token) (u_a0_place := u_a0_place) (u_a0_value := u_a0_value) (u_a0_fault := u_a0_fault) (u_a0_slow := u_a0_slow) (u_a0_deaf := u_a0_deaf) (u_a0_told := u_a0_told) (u_a0_s := ((.ref q_a0_s))) (u_a0_w := ((.ref q_a0_w))) (u_a0_kept := u_a0_kept) (u_a0_isKept := u_a0_isKept) (u_a0_undos := u_a0_undos) (u_a0_undoMany := u_a0_undoMany) (u_a0_heardBy := u_a0_heardBy) (u_a0_heardAt := u_a0_heardAt) (u_a0_heardMany := u_a0_heardMany) (u_a0_tellsAt := u_a0_tellsAt) (u_a0_tellMany := u_a0_tellMany) (u_a0_metAt := u_a0_metAt) (u_a0_metBeat := u_a0_metBeat) (u_a0_round := u_a0_round) (u_a0_z := u_a0_z) (m_a0_lengths := m_a0_lengths) (m_a0_many := m_a0_many) (m_a1 := m_a0_w) h) lkV_X12_162 dX12_isEndless_51 hX rfl ⟨rfl, rfl⟩ ⟨rfl, rfl⟩ rfl rfl rfl rfl rfl [0, 1, 2, 4] [3] [1, 2, 3, 0, 4] rfl rfl rfl rfl rfl (fun _ => rfl) rfl (fun o51 hf => ?_)
  refine V.bipush (pc := 54) (v := -9) dX12_isEndless_54 (by decide) ?_
  refine V.icmp_ne (pc := 56) (tgt := 63) dX12_isEndless_56 (by decide) hf (fun hf => ?_) (fun hf => ?_)
  · refine V.iconst (pc := 63) (v := 0) dX12_isEndless_63 (by decide) ?_
    refine V.mask (pc := 64) [false, false, false, false] rfl rfl ?_
    exact tX12_isEndless_64 hX hQ hf
  · refine V.iconst (pc := 59) (v := 1) dX12_isEndless_59 (by decide) ?_
    refine V.goto (pc := 60) (tgt := 64) dX12_isEndless_60 (by decide) ?_
    refine V.mask (pc := 64) [false, false, false, false] rfl rfl ?_
    exact tX12_isEndless_64 hX hQ hf
set_option maxRecDepth 20000 in
theorem tX12_isEndless_25 {out : Int32 × (Nat → Int32)} (hX : xk X = kX12_isEndless) (hQ : xQ X = qE (some (.int out.1)) (wX12_isEndless (xG X) q_a0 q_a0_lengths q_a0_many q_a0_s q_a0_w u_a0_thrown u_a0_trace u_a0_text u_a0_typed u_a0_next u_a0_token u_a0_place u_a0_value u_a0_fault u_a0_slow u_a0_deaf u_a0_told u_a0_kept u_a0_isKept u_a0_undos u_a0_undoMany u_a0_heardBy u_a0_heardAt u_a0_heardMany u_a0_tellsAt u_a0_tellMany u_a0_metAt u_a0_metBeat u_a0_round u_a0_z m_a0_lengths m_a0_many m_a0_s out.2)) (hf : fX12_isEndless_25 N l2 l3 m_a0_lengths m_a0_many m_a0_w = some out) : V X cX12_isEndless "FarDrumModel" 0 0 (wX12_isEndless (xG X) q_a0 q_a0_lengths q_a0_many q_a0_s q_a0_w u_a0_thrown u_a0_trace u_a0_text u_a0_typed u_a0_next u_a0_token u_a0_place u_a0_value u_a0_fault u_a0_slow u_a0_deaf u_a0_told u_a0_kept u_a0_isKept u_a0_undos u_a0_undoMany u_a0_heardBy u_a0_heardAt u_a0_heardMany u_a0_tellsAt u_a0_tellMany u_a0_metAt u_a0_metBeat u_a0_round u_a0_z m_a0_lengths m_a0_many m_a0_s m_a0_w) [some (.ref q_a0), none, some (.int l2), some (.int l3)] 25 [] := by
  unfold fX12_isEndless_25 at hf
  refine V.iloadn (pc := 25) dX12_isEndless_25 rfl ?_
  refine V.if_lt (pc := 26) (tgt := 46) dX12_isEndless_26 (by decide) hf (fun hf => ?_) (fun hf => ?_)
  · refine V.mask (pc := 46) [true, false, false, false] rfl rfl ?_
    exact tX12_isEndless_46 hX hQ hf
  · refine V.aloadn (pc := 29) dX12_isEndless_29 rfl ?_
    refine V.aloadn (pc := 30) dX12_isEndless_30 rfl ?_
    refine V.getf (q := 0) (pc := 31) dX12_isEndless_31 fk_X12_28_12 rfl rfl ?_
    refine V.iloadn (pc := 34) dX12_isEndless_34 rfl ?_
    refine V.bipush (pc := 35) (v := 6) dX12_isEndless_35 (by decide) ?_
    refine V.idivC (pc := 37) dX12_isEndless_37 (by decide) ?_
    refine V.iloadn (pc := 38) dX12_isEndless_38 rfl ?_
    refine V.bipush (pc := 39) (v := 6) dX12_isEndless_39 (by decide) ?_
    refine V.iremC (pc := 41) dX12_isEndless_41 (by decide) ?_
    refine V.iloadn (pc := 42) dX12_isEndless_42 rfl ?_
    refine V.callVv (pc := 43) (q := 0) (wr := [(q_a0, .inr (12, [u_a0_thrown, u_a0_trace, u_a0_text, u_a0_typed, u_a0_next, u_a0_token, u_a0_place, u_a0_value, u_a0_fault, .ref q_a0_many, u_a0_slow, u_a0_deaf, .ref q_a0_lengths, u_a0_told, .ref q_a0_s, .ref q_a0_w, u_a0_kept, u_a0_isKept, u_a0_undos, u_a0_undoMany, u_a0_heardBy, u_a0_heardAt, u_a0_heardMany, u_a0_tellsAt, u_a0_tellMany, u_a0_metAt, u_a0_metBeat, u_a0_round, u_a0_z])), (q_a0_lengths, .inl ((xG X).2 0, 72, .inl m_a0_lengths)), (q_a0_many, .inl ((xG X).2 0, 6, .inl m_a0_many)), (q_a0_s, .inl ((xG X).2 0, 35, .inl m_a0_s))]) (wd' := fun o43 => wX12_isEndless (xG X) q_a0 q_a0_lengths q_a0_many q_a0_s q_a0_w u_a0_thrown u_a0_trace u_a0_text u_a0_typed u_a0_next u_a0_token u_a0_place u_a0_value u_a0_fault u_a0_slow u_a0_deaf u_a0_told u_a0_kept u_a0_isKept u_a0_undos u_a0_undoMany u_a0_heardBy u_a0_heardAt u_a0_heardMany u_a0_tellsAt u_a0_tellMany u_a0_metAt u_a0_metBeat u_a0_round u_a0_z m_a0_lengths m_a0_many m_a0_s o43) [.ref q_a0_w, .int (l2 / (6 : Int32)), .int (l2 - l2 / (6 : Int32) * (6 : Int32)), .int l3] (st := []) hf (fun _ h => oX12_sent (q_a1 := q_a0_w) (m_a1 := m_a0_w) (q_a0 := q_a0) (l2 := (l2 / (6 : Int32))) (l3 := (l2 - l2 / (6 : Int32) * (6 : Int32))) (l4 := l3) h) lkV_X12_158 dX12_isEndless_43 hX rfl ⟨rfl, rfl⟩ ⟨rfl, rfl⟩ rfl rfl rfl rfl rfl [4] [0, 1, 2, 3] [0, 1, 2, 3, 4] rfl rfl rfl rfl rfl (fun _ => rfl) rfl (fun o43 hf => ?_)
    refine V.mask (pc := 46) [true, false, false, false] rfl rfl ?_
    exact tX12_isEndless_46 hX hQ hf
set_option maxRecDepth 20000 in
theorem tX12_isEndless_0 {out : Int32 × (Nat → Int32)} (hX : xk X = kX12_isEndless) (hQ : xQ X = qE (some (.int out.1)) (wX12_isEndless (xG X) q_a0 q_a0_lengths q_a0_many q_a0_s q_a0_w u_a0_thrown u_a0_trace u_a0_text u_a0_typed u_a0_next u_a0_token u_a0_place u_a0_value u_a0_fault u_a0_slow u_a0_deaf u_a0_told u_a0_kept u_a0_isKept u_a0_undos u_a0_undoMany u_a0_heardBy u_a0_heardAt u_a0_heardMany u_a0_tellsAt u_a0_tellMany u_a0_metAt u_a0_metBeat u_a0_round u_a0_z m_a0_lengths m_a0_many m_a0_s out.2)) (hf : fX12_isEndless N l1 l2 l3 m_a0_lengths m_a0_many m_a0_s m_a0_w = some out) : V X cX12_isEndless "FarDrumModel" 0 0 (wX12_isEndless (xG X) q_a0 q_a0_lengths q_a0_many q_a0_s q_a0_w u_a0_thrown u_a0_trace u_a0_text u_a0_typed u_a0_next u_a0_token u_a0_place u_a0_value u_a0_fault u_a0_slow u_a0_deaf u_a0_told u_a0_kept u_a0_isKept u_a0_undos u_a0_undoMany u_a0_heardBy u_a0_heardAt u_a0_heardMany u_a0_tellsAt u_a0_tellMany u_a0_metAt u_a0_metBeat u_a0_round u_a0_z m_a0_lengths m_a0_many m_a0_s m_a0_w) [some (.ref q_a0), some (.int l1), some (.int l2), some (.int l3)] 0 [] := by
  unfold fX12_isEndless at hf
  refine V.aloadn (pc := 0) dX12_isEndless_0 rfl ?_
  refine V.callVv (pc := 1) (q := 0) (wr := [(q_a0_lengths, .inl ((xG X).2 0, 72, .inl m_a0_lengths)), (q_a0_many, .inl ((xG X).2 0, 6, .inl m_a0_many))]) (wd' := fun o1 => wX12_isEndless (xG X) q_a0 q_a0_lengths q_a0_many q_a0_s q_a0_w u_a0_thrown u_a0_trace u_a0_text u_a0_typed u_a0_next u_a0_token u_a0_place u_a0_value u_a0_fault u_a0_slow u_a0_deaf u_a0_told u_a0_kept u_a0_isKept u_a0_undos u_a0_undoMany u_a0_heardBy u_a0_heardAt u_a0_heardMany u_a0_tellsAt u_a0_tellMany u_a0_metAt u_a0_metBeat u_a0_round u_a0_z m_a0_lengths m_a0_many m_a0_s o1) [] (st := []) hf (fun _ h => oX12_asNow (q_a0 := q_a0) (q_a0_s := q_a0_s) (q_a0_w := q_a0_w) (u_a0_thrown := u_a0_thrown) (u_a0_trace := u_a0_trace) (u_a0_text := u_a0_text) (u_a0_typed := u_a0_typed) (u_a0_next := u_a0_next) (u_a0_token := u_a0_token) (u_a0_place := u_a0_place) (u_a0_value := u_a0_value) (u_a0_fault := u_a0_fault) (u_a0_many := ((.ref q_a0_many))) (u_a0_slow := u_a0_slow) (u_a0_deaf := u_a0_deaf) (u_a0_lengths := ((.ref q_a0_lengths))) (u_a0_told := u_a0_told) (u_a0_kept := u_a0_kept) (u_a0_isKept := u_a0_isKept) (u_a0_undos := u_a0_undos) (u_a0_undoMany := u_a0_undoMany) (u_a0_heardBy := u_a0_heardBy) (u_a0_heardAt := u_a0_heardAt) (u_a0_heardMany := u_a0_heardMany) (u_a0_tellsAt := u_a0_tellsAt) (u_a0_tellMany := u_a0_tellMany) (u_a0_metAt := u_a0_metAt) (u_a0_metBeat := u_a0_metBeat) (u_a0_round := u_a0_round) (u_a0_z := u_a0_z) (m_a0_s := m_a0_s) (m_a0_w := m_a0_w) h) lkV_X12_148 dX12_isEndless_1 hX rfl ⟨rfl, rfl⟩ ⟨rfl, rfl⟩ rfl rfl rfl rfl rfl [0, 3, 4] [1, 2] [2, 0, 1, 3, 4] rfl rfl rfl rfl rfl (fun _ => rfl) rfl (fun o1 hf => ?_)
  refine V.iloadn (pc := 4) dX12_isEndless_4 rfl ?_
  refine V.if_lt (pc := 5) (tgt := 25) dX12_isEndless_5 (by decide) hf (fun hf => ?_) (fun hf => ?_)
  · refine V.mask (pc := 25) [true, false, true, true] rfl rfl ?_
    exact tX12_isEndless_25 hX hQ hf
  · refine V.aloadn (pc := 8) dX12_isEndless_8 rfl ?_
    refine V.aloadn (pc := 9) dX12_isEndless_9 rfl ?_
    refine V.getf (q := 0) (pc := 10) dX12_isEndless_10 fk_X12_28_12 rfl rfl ?_
    refine V.iloadn (pc := 13) dX12_isEndless_13 rfl ?_
    refine V.bipush (pc := 14) (v := 6) dX12_isEndless_14 (by decide) ?_
    refine V.idivC (pc := 16) dX12_isEndless_16 (by decide) ?_
    refine V.iloadn (pc := 17) dX12_isEndless_17 rfl ?_
    refine V.bipush (pc := 18) (v := 6) dX12_isEndless_18 (by decide) ?_
    refine V.iremC (pc := 20) dX12_isEndless_20 (by decide) ?_
    refine V.iloadn (pc := 21) dX12_isEndless_21 rfl ?_
    refine V.callVv (pc := 22) (q := 0) (wr := [(q_a0, .inr (12, [u_a0_thrown, u_a0_trace, u_a0_text, u_a0_typed, u_a0_next, u_a0_token, u_a0_place, u_a0_value, u_a0_fault, .ref q_a0_many, u_a0_slow, u_a0_deaf, .ref q_a0_lengths, u_a0_told, .ref q_a0_s, .ref q_a0_w, u_a0_kept, u_a0_isKept, u_a0_undos, u_a0_undoMany, u_a0_heardBy, u_a0_heardAt, u_a0_heardMany, u_a0_tellsAt, u_a0_tellMany, u_a0_metAt, u_a0_metBeat, u_a0_round, u_a0_z])), (q_a0_lengths, .inl ((xG X).2 0, 72, .inl m_a0_lengths)), (q_a0_many, .inl ((xG X).2 0, 6, .inl m_a0_many)), (q_a0_s, .inl ((xG X).2 0, 35, .inl m_a0_s))]) (wd' := fun o22 => wX12_isEndless (xG X) q_a0 q_a0_lengths q_a0_many q_a0_s q_a0_w u_a0_thrown u_a0_trace u_a0_text u_a0_typed u_a0_next u_a0_token u_a0_place u_a0_value u_a0_fault u_a0_slow u_a0_deaf u_a0_told u_a0_kept u_a0_isKept u_a0_undos u_a0_undoMany u_a0_heardBy u_a0_heardAt u_a0_heardMany u_a0_tellsAt u_a0_tellMany u_a0_metAt u_a0_metBeat u_a0_round u_a0_z m_a0_lengths m_a0_many m_a0_s o22) [.ref q_a0_w, .int (l1 / (6 : Int32)), .int (l1 - l1 / (6 : Int32) * (6 : Int32)), .int l3] (st := []) hf (fun _ h => oX12_sent (q_a1 := q_a0_w) (m_a1 := o1) (q_a0 := q_a0) (l2 := (l1 / (6 : Int32))) (l3 := (l1 - l1 / (6 : Int32) * (6 : Int32))) (l4 := l3) h) lkV_X12_158 dX12_isEndless_22 hX rfl ⟨rfl, rfl⟩ ⟨rfl, rfl⟩ rfl rfl rfl rfl rfl [4] [0, 1, 2, 3] [0, 1, 2, 3, 4] rfl rfl rfl rfl rfl (fun _ => rfl) rfl (fun o22 hf => ?_)
    refine V.mask (pc := 25) [true, false, true, true] rfl rfl ?_
    exact tX12_isEndless_25 hX hQ hf
end
theorem oX12_isEndless {l : Launch} {G : GT} {N : Nat} {q_a0 : Nat} {q_a0_lengths : Nat} {q_a0_many : Nat} {q_a0_s : Nat} {q_a0_w : Nat} {u_a0_thrown : Value} {u_a0_trace : Value} {u_a0_text : Value} {u_a0_typed : Value} {u_a0_next : Value} {u_a0_token : Value} {u_a0_place : Value} {u_a0_value : Value} {u_a0_fault : Value} {u_a0_slow : Value} {u_a0_deaf : Value} {u_a0_told : Value} {u_a0_kept : Value} {u_a0_isKept : Value} {u_a0_undos : Value} {u_a0_undoMany : Value} {u_a0_heardBy : Value} {u_a0_heardAt : Value} {u_a0_heardMany : Value} {u_a0_tellsAt : Value} {u_a0_tellMany : Value} {u_a0_metAt : Value} {u_a0_metBeat : Value} {u_a0_round : Value} {u_a0_z : Value} {m_a0_lengths : Nat → Int32} {m_a0_many : Nat → Int32} {m_a0_s : Nat → Int32} {m_a0_w : Nat → Int32} {l1 : Int32} {l2 : Int32} {l3 : Int32} {out : Int32 × (Nat → Int32)} (hf : fX12_isEndless N l1 l2 l3 m_a0_lengths m_a0_many m_a0_s m_a0_w = some out) : Ct (l, G, kX12_isEndless, wX12_isEndless G q_a0 q_a0_lengths q_a0_many q_a0_s q_a0_w u_a0_thrown u_a0_trace u_a0_text u_a0_typed u_a0_next u_a0_token u_a0_place u_a0_value u_a0_fault u_a0_slow u_a0_deaf u_a0_told u_a0_kept u_a0_isKept u_a0_undos u_a0_undoMany u_a0_heardBy u_a0_heardAt u_a0_heardMany u_a0_tellsAt u_a0_tellMany u_a0_metAt u_a0_metBeat u_a0_round u_a0_z m_a0_lengths m_a0_many m_a0_s m_a0_w, [.ref q_a0, .int l1, .int l2, .int l3], qE (some (.int out.1)) (wX12_isEndless G q_a0 q_a0_lengths q_a0_many q_a0_s q_a0_w u_a0_thrown u_a0_trace u_a0_text u_a0_typed u_a0_next u_a0_token u_a0_place u_a0_value u_a0_fault u_a0_slow u_a0_deaf u_a0_told u_a0_kept u_a0_isKept u_a0_undos u_a0_undoMany u_a0_heardBy u_a0_heardAt u_a0_heardMany u_a0_tellsAt u_a0_tellMany u_a0_metAt u_a0_metBeat u_a0_round u_a0_z m_a0_lengths m_a0_many m_a0_s out.2)) :=
  Ct.of [some (.ref q_a0), some (.int l1), some (.int l2), some (.int l3)] kX12_isEndless_p rfl rfl rfl ((tX12_isEndless_0 (X := (l, G, kX12_isEndless, wX12_isEndless G q_a0 q_a0_lengths q_a0_many q_a0_s q_a0_w u_a0_thrown u_a0_trace u_a0_text u_a0_typed u_a0_next u_a0_token u_a0_place u_a0_value u_a0_fault u_a0_slow u_a0_deaf u_a0_told u_a0_kept u_a0_isKept u_a0_undos u_a0_undoMany u_a0_heardBy u_a0_heardAt u_a0_heardMany u_a0_tellsAt u_a0_tellMany u_a0_metAt u_a0_metBeat u_a0_round u_a0_z m_a0_lengths m_a0_many m_a0_s m_a0_w, [.ref q_a0, .int l1, .int l2, .int l3], qE (some (.int out.1)) (wX12_isEndless G q_a0 q_a0_lengths q_a0_many q_a0_s q_a0_w u_a0_thrown u_a0_trace u_a0_text u_a0_typed u_a0_next u_a0_token u_a0_place u_a0_value u_a0_fault u_a0_slow u_a0_deaf u_a0_told u_a0_kept u_a0_isKept u_a0_undos u_a0_undoMany u_a0_heardBy u_a0_heardAt u_a0_heardMany u_a0_tellsAt u_a0_tellMany u_a0_metAt u_a0_metBeat u_a0_round u_a0_z m_a0_lengths m_a0_many m_a0_s out.2))) rfl rfl hf))

def wX12_isTwo (G : GT) (q_a0 : Nat) (q_a0_many : Nat) (u_a0_thrown : Value) (u_a0_trace : Value) (u_a0_text : Value) (u_a0_typed : Value) (u_a0_next : Value) (u_a0_token : Value) (u_a0_place : Value) (u_a0_value : Value) (u_a0_fault : Value) (u_a0_slow : Value) (u_a0_deaf : Value) (u_a0_lengths : Value) (u_a0_told : Value) (u_a0_s : Value) (u_a0_w : Value) (u_a0_kept : Value) (u_a0_isKept : Value) (u_a0_undos : Value) (u_a0_undoMany : Value) (u_a0_heardBy : Value) (u_a0_heardAt : Value) (u_a0_heardMany : Value) (u_a0_tellsAt : Value) (u_a0_tellMany : Value) (u_a0_metAt : Value) (u_a0_metBeat : Value) (u_a0_round : Value) (u_a0_z : Value) (m_a0_many : Nat → Int32) : va_W := [(q_a0, .inr (12, [u_a0_thrown, u_a0_trace, u_a0_text, u_a0_typed, u_a0_next, u_a0_token, u_a0_place, u_a0_value, u_a0_fault, .ref q_a0_many, u_a0_slow, u_a0_deaf, u_a0_lengths, u_a0_told, u_a0_s, u_a0_w, u_a0_kept, u_a0_isKept, u_a0_undos, u_a0_undoMany, u_a0_heardBy, u_a0_heardAt, u_a0_heardMany, u_a0_tellsAt, u_a0_tellMany, u_a0_metAt, u_a0_metBeat, u_a0_round, u_a0_z])), (q_a0_many, .inl (G.2 0, 6, .inl m_a0_many))]
def kX12_isTwo : KT := (yX12_isTwo, cX12_isTwo, 2, (some .boolean), 0, 0, 0)
theorem kX12_isTwo_r : kr kX12_isTwo = (some .boolean) ∧ kmc kX12_isTwo = 0 ∧ kms kX12_isTwo = 0 := ⟨rfl, rfl, rfl⟩
theorem kX12_isTwo_p : plainName (ky kX12_isTwo).cls = true := by decide +kernel
def fX12_isTwo_42 (s0 : Int32) : Option (Int32) :=
  bz s0 <| 
  some s0
def fX12_isTwo_41 : Option (Int32) :=
  fX12_isTwo_42 (0 : Int32)
def fX12_isTwo (l1 : Int32) (m_a0_many : Nat → Int32) : Option (Int32) :=
  if (l1 / (6 : Int32)) = (l1 - l1 / (6 : Int32) * (6 : Int32)) then (fX12_isTwo_41)
  else (if (m_a0_many 0) ≤ (l1 / (6 : Int32)) then (fX12_isTwo_41)
  else (if (m_a0_many 0) ≤ (l1 - l1 / (6 : Int32) * (6 : Int32)) then (fX12_isTwo_41)
  else (fX12_isTwo_42 (1 : Int32))))
section
variable {X : XT} {N : Nat} {q_a0 : Nat} {q_a0_many : Nat} {u_a0_thrown : Value} {u_a0_trace : Value} {u_a0_text : Value} {u_a0_typed : Value} {u_a0_next : Value} {u_a0_token : Value} {u_a0_place : Value} {u_a0_value : Value} {u_a0_fault : Value} {u_a0_slow : Value} {u_a0_deaf : Value} {u_a0_lengths : Value} {u_a0_told : Value} {u_a0_s : Value} {u_a0_w : Value} {u_a0_kept : Value} {u_a0_isKept : Value} {u_a0_undos : Value} {u_a0_undoMany : Value} {u_a0_heardBy : Value} {u_a0_heardAt : Value} {u_a0_heardMany : Value} {u_a0_tellsAt : Value} {u_a0_tellMany : Value} {u_a0_metAt : Value} {u_a0_metBeat : Value} {u_a0_round : Value} {u_a0_z : Value} {m_a0_many : Nat → Int32} {l1 : Int32} {s0 : Int32}
set_option maxRecDepth 20000 in
theorem tX12_isTwo_42 {out : Int32} (hX : xk X = kX12_isTwo) (hQ : xQ X = qE (some (.int out)) (wX12_isTwo (xG X) q_a0 q_a0_many u_a0_thrown u_a0_trace u_a0_text u_a0_typed u_a0_next u_a0_token u_a0_place u_a0_value u_a0_fault u_a0_slow u_a0_deaf u_a0_lengths u_a0_told u_a0_s u_a0_w u_a0_kept u_a0_isKept u_a0_undos u_a0_undoMany u_a0_heardBy u_a0_heardAt u_a0_heardMany u_a0_tellsAt u_a0_tellMany u_a0_metAt u_a0_metBeat u_a0_round u_a0_z m_a0_many)) (hf : fX12_isTwo_42 s0 = some out) : V X cX12_isTwo "FarDrumModel" 0 0 (wX12_isTwo (xG X) q_a0 q_a0_many u_a0_thrown u_a0_trace u_a0_text u_a0_typed u_a0_next u_a0_token u_a0_place u_a0_value u_a0_fault u_a0_slow u_a0_deaf u_a0_lengths u_a0_told u_a0_s u_a0_w u_a0_kept u_a0_isKept u_a0_undos u_a0_undoMany u_a0_heardBy u_a0_heardAt u_a0_heardMany u_a0_tellsAt u_a0_tellMany u_a0_metAt u_a0_metBeat u_a0_round u_a0_z m_a0_many) [none, none] 42 [.int s0] := by
  unfold fX12_isTwo_42 at hf
  obtain ⟨hz, hf⟩ := bz_ok hf
  exact V.zretE (pc := 42) hX kX12_isTwo_r hQ hz dX12_isTwo_42 (by cases hf; rfl) (by cases hf; rfl)
set_option maxRecDepth 20000 in
theorem tX12_isTwo_41 {out : Int32} (hX : xk X = kX12_isTwo) (hQ : xQ X = qE (some (.int out)) (wX12_isTwo (xG X) q_a0 q_a0_many u_a0_thrown u_a0_trace u_a0_text u_a0_typed u_a0_next u_a0_token u_a0_place u_a0_value u_a0_fault u_a0_slow u_a0_deaf u_a0_lengths u_a0_told u_a0_s u_a0_w u_a0_kept u_a0_isKept u_a0_undos u_a0_undoMany u_a0_heardBy u_a0_heardAt u_a0_heardMany u_a0_tellsAt u_a0_tellMany u_a0_metAt u_a0_metBeat u_a0_round u_a0_z m_a0_many)) (hf : fX12_isTwo_41 = some out) : V X cX12_isTwo "FarDrumModel" 0 0 (wX12_isTwo (xG X) q_a0 q_a0_many u_a0_thrown u_a0_trace u_a0_text u_a0_typed u_a0_next u_a0_token u_a0_place u_a0_value u_a0_fault u_a0_slow u_a0_deaf u_a0_lengths u_a0_told u_a0_s u_a0_w u_a0_kept u_a0_isKept u_a0_undos u_a0_undoMany u_a0_heardBy u_a0_heardAt u_a0_heardMany u_a0_tellsAt u_a0_tellMany u_a0_metAt u_a0_metBeat u_a0_round u_a0_z m_a0_many) [none, none] 41 [] := by
  unfold fX12_isTwo_41 at hf
  refine V.iconst (pc := 41) (v := 0) dX12_isTwo_41 (by decide) ?_
  exact tX12_isTwo_42 hX hQ hf
set_option maxRecDepth 20000 in
theorem tX12_isTwo_0 {out : Int32} (hX : xk X = kX12_isTwo) (hQ : xQ X = qE (some (.int out)) (wX12_isTwo (xG X) q_a0 q_a0_many u_a0_thrown u_a0_trace u_a0_text u_a0_typed u_a0_next u_a0_token u_a0_place u_a0_value u_a0_fault u_a0_slow u_a0_deaf u_a0_lengths u_a0_told u_a0_s u_a0_w u_a0_kept u_a0_isKept u_a0_undos u_a0_undoMany u_a0_heardBy u_a0_heardAt u_a0_heardMany u_a0_tellsAt u_a0_tellMany u_a0_metAt u_a0_metBeat u_a0_round u_a0_z m_a0_many)) (hf : fX12_isTwo l1 m_a0_many = some out) : V X cX12_isTwo "FarDrumModel" 0 0 (wX12_isTwo (xG X) q_a0 q_a0_many u_a0_thrown u_a0_trace u_a0_text u_a0_typed u_a0_next u_a0_token u_a0_place u_a0_value u_a0_fault u_a0_slow u_a0_deaf u_a0_lengths u_a0_told u_a0_s u_a0_w u_a0_kept u_a0_isKept u_a0_undos u_a0_undoMany u_a0_heardBy u_a0_heardAt u_a0_heardMany u_a0_tellsAt u_a0_tellMany u_a0_metAt u_a0_metBeat u_a0_round u_a0_z m_a0_many) [some (.ref q_a0), some (.int l1)] 0 [] := by
  unfold fX12_isTwo at hf
  refine V.iloadn (pc := 0) dX12_isTwo_0 rfl ?_
  refine V.bipush (pc := 1) (v := 6) dX12_isTwo_1 (by decide) ?_
  refine V.idivC (pc := 3) dX12_isTwo_3 (by decide) ?_
  refine V.iloadn (pc := 4) dX12_isTwo_4 rfl ?_
  refine V.bipush (pc := 5) (v := 6) dX12_isTwo_5 (by decide) ?_
  refine V.iremC (pc := 7) dX12_isTwo_7 (by decide) ?_
  refine V.icmp_eq (pc := 8) (tgt := 41) dX12_isTwo_8 (by decide) hf (fun hf => ?_) (fun hf => ?_)
  · refine V.mask (pc := 41) [false, false] rfl rfl ?_
    exact tX12_isTwo_41 hX hQ hf
  · refine V.iloadn (pc := 11) dX12_isTwo_11 rfl ?_
    refine V.bipush (pc := 12) (v := 6) dX12_isTwo_12 (by decide) ?_
    refine V.idivC (pc := 14) dX12_isTwo_14 (by decide) ?_
    refine V.aloadn (pc := 15) dX12_isTwo_15 rfl ?_
    refine V.getf (q := 0) (pc := 16) dX12_isTwo_16 fk_X12_13_12 rfl rfl ?_
    refine V.iconst (pc := 19) (v := 0) dX12_isTwo_19 (by decide) ?_
    refine V.ialdC (pc := 20) (q := 1) 0 dX12_isTwo_20 rfl ⟨vp_c (by decide), by decide⟩ ?_
    refine V.icmp_ge (pc := 21) (tgt := 41) dX12_isTwo_21 (by decide) hf (fun hf => ?_) (fun hf => ?_)
    · refine V.mask (pc := 41) [false, false] rfl rfl ?_
      exact tX12_isTwo_41 hX hQ hf
    · refine V.iloadn (pc := 24) dX12_isTwo_24 rfl ?_
      refine V.bipush (pc := 25) (v := 6) dX12_isTwo_25 (by decide) ?_
      refine V.iremC (pc := 27) dX12_isTwo_27 (by decide) ?_
      refine V.aloadn (pc := 28) dX12_isTwo_28 rfl ?_
      refine V.getf (q := 0) (pc := 29) dX12_isTwo_29 fk_X12_13_12 rfl rfl ?_
      refine V.iconst (pc := 32) (v := 0) dX12_isTwo_32 (by decide) ?_
      refine V.ialdC (pc := 33) (q := 1) 0 dX12_isTwo_33 rfl ⟨vp_c (by decide), by decide⟩ ?_
      refine V.icmp_ge (pc := 34) (tgt := 41) dX12_isTwo_34 (by decide) hf (fun hf => ?_) (fun hf => ?_)
      · refine V.mask (pc := 41) [false, false] rfl rfl ?_
        exact tX12_isTwo_41 hX hQ hf
      · refine V.iconst (pc := 37) (v := 1) dX12_isTwo_37 (by decide) ?_
        refine V.goto (pc := 38) (tgt := 42) dX12_isTwo_38 (by decide) ?_
        refine V.mask (pc := 42) [false, false] rfl rfl ?_
        exact tX12_isTwo_42 hX hQ hf
end
theorem oX12_isTwo {l : Launch} {G : GT} {q_a0 : Nat} {q_a0_many : Nat} {u_a0_thrown : Value} {u_a0_trace : Value} {u_a0_text : Value} {u_a0_typed : Value} {u_a0_next : Value} {u_a0_token : Value} {u_a0_place : Value} {u_a0_value : Value} {u_a0_fault : Value} {u_a0_slow : Value} {u_a0_deaf : Value} {u_a0_lengths : Value} {u_a0_told : Value} {u_a0_s : Value} {u_a0_w : Value} {u_a0_kept : Value} {u_a0_isKept : Value} {u_a0_undos : Value} {u_a0_undoMany : Value} {u_a0_heardBy : Value} {u_a0_heardAt : Value} {u_a0_heardMany : Value} {u_a0_tellsAt : Value} {u_a0_tellMany : Value} {u_a0_metAt : Value} {u_a0_metBeat : Value} {u_a0_round : Value} {u_a0_z : Value} {m_a0_many : Nat → Int32} {l1 : Int32} {out : Int32} (hf : fX12_isTwo l1 m_a0_many = some out) : Ct (l, G, kX12_isTwo, wX12_isTwo G q_a0 q_a0_many u_a0_thrown u_a0_trace u_a0_text u_a0_typed u_a0_next u_a0_token u_a0_place u_a0_value u_a0_fault u_a0_slow u_a0_deaf u_a0_lengths u_a0_told u_a0_s u_a0_w u_a0_kept u_a0_isKept u_a0_undos u_a0_undoMany u_a0_heardBy u_a0_heardAt u_a0_heardMany u_a0_tellsAt u_a0_tellMany u_a0_metAt u_a0_metBeat u_a0_round u_a0_z m_a0_many, [.ref q_a0, .int l1], qE (some (.int out)) (wX12_isTwo G q_a0 q_a0_many u_a0_thrown u_a0_trace u_a0_text u_a0_typed u_a0_next u_a0_token u_a0_place u_a0_value u_a0_fault u_a0_slow u_a0_deaf u_a0_lengths u_a0_told u_a0_s u_a0_w u_a0_kept u_a0_isKept u_a0_undos u_a0_undoMany u_a0_heardBy u_a0_heardAt u_a0_heardMany u_a0_tellsAt u_a0_tellMany u_a0_metAt u_a0_metBeat u_a0_round u_a0_z m_a0_many)) :=
  Ct.of [some (.ref q_a0), some (.int l1)] kX12_isTwo_p rfl rfl rfl ((tX12_isTwo_0 (X := (l, G, kX12_isTwo, wX12_isTwo G q_a0 q_a0_many u_a0_thrown u_a0_trace u_a0_text u_a0_typed u_a0_next u_a0_token u_a0_place u_a0_value u_a0_fault u_a0_slow u_a0_deaf u_a0_lengths u_a0_told u_a0_s u_a0_w u_a0_kept u_a0_isKept u_a0_undos u_a0_undoMany u_a0_heardBy u_a0_heardAt u_a0_heardMany u_a0_tellsAt u_a0_tellMany u_a0_metAt u_a0_metBeat u_a0_round u_a0_z m_a0_many, [.ref q_a0, .int l1], qE (some (.int out)) (wX12_isTwo G q_a0 q_a0_many u_a0_thrown u_a0_trace u_a0_text u_a0_typed u_a0_next u_a0_token u_a0_place u_a0_value u_a0_fault u_a0_slow u_a0_deaf u_a0_lengths u_a0_told u_a0_s u_a0_w u_a0_kept u_a0_isKept u_a0_undos u_a0_undoMany u_a0_heardBy u_a0_heardAt u_a0_heardMany u_a0_tellsAt u_a0_tellMany u_a0_metAt u_a0_metBeat u_a0_round u_a0_z m_a0_many))) rfl rfl hf))

def wX12_asCode (G : GT)  : va_W := []
def kX12_asCode : KT := (yX12_asCode, cX12_asCode, 1, (some .int), 0, 0, 0)
theorem kX12_asCode_r : kr kX12_asCode = (some .int) ∧ kmc kX12_asCode = 0 ∧ kms kX12_asCode = 0 := ⟨rfl, rfl, rfl⟩
theorem kX12_asCode_p : plainName (ky kX12_asCode).cls = true := by decide +kernel
def fX12_asCode_21 (s0 : Int32) : Option (Int32) :=
  some s0
def fX12_asCode (l0 : Int32) : Option (Int32) :=
  if 0 ≤ l0 then (fX12_asCode_21 (((10 : Int32) * (l0 / (6 : Int32))) + (l0 - l0 / (6 : Int32) * (6 : Int32))))
  else (fX12_asCode_21 (-9 : Int32))
section
variable {X : XT} {N : Nat} {l0 : Int32} {s0 : Int32}
set_option maxRecDepth 20000 in
theorem tX12_asCode_21 {out : Int32} (hX : xk X = kX12_asCode) (hQ : xQ X = qE (some (.int out)) (wX12_asCode (xG X))) (hf : fX12_asCode_21 s0 = some out) : V X cX12_asCode "FarDrumModel" 0 0 (wX12_asCode (xG X)) [none] 21 [.int s0] := by
  unfold fX12_asCode_21 at hf
  exact V.iretE (pc := 21) hX kX12_asCode_r hQ dX12_asCode_21 (by cases hf; rfl) (by cases hf; rfl)
set_option maxRecDepth 20000 in
theorem tX12_asCode_0 {out : Int32} (hX : xk X = kX12_asCode) (hQ : xQ X = qE (some (.int out)) (wX12_asCode (xG X))) (hf : fX12_asCode l0 = some out) : V X cX12_asCode "FarDrumModel" 0 0 (wX12_asCode (xG X)) [some (.int l0)] 0 [] := by
  unfold fX12_asCode at hf
  refine V.iloadn (pc := 0) dX12_asCode_0 rfl ?_
  refine V.if_ge (pc := 1) (tgt := 9) dX12_asCode_1 (by decide) hf (fun hf => ?_) (fun hf => ?_)
  · refine V.bipush (pc := 9) (v := 10) dX12_asCode_9 (by decide) ?_
    refine V.iloadn (pc := 11) dX12_asCode_11 rfl ?_
    refine V.bipush (pc := 12) (v := 6) dX12_asCode_12 (by decide) ?_
    refine V.idivC (pc := 14) dX12_asCode_14 (by decide) ?_
    refine V.imul (pc := 15) dX12_asCode_15 ?_
    refine V.iloadn (pc := 16) dX12_asCode_16 rfl ?_
    refine V.bipush (pc := 17) (v := 6) dX12_asCode_17 (by decide) ?_
    refine V.iremC (pc := 19) dX12_asCode_19 (by decide) ?_
    refine V.iadd (pc := 20) dX12_asCode_20 ?_
    refine V.mask (pc := 21) [false] rfl rfl ?_
    exact tX12_asCode_21 hX hQ hf
  · refine V.bipush (pc := 4) (v := -9) dX12_asCode_4 (by decide) ?_
    refine V.goto (pc := 6) (tgt := 21) dX12_asCode_6 (by decide) ?_
    refine V.mask (pc := 21) [false] rfl rfl ?_
    exact tX12_asCode_21 hX hQ hf
end
theorem oX12_asCode {l : Launch} {G : GT}  {l0 : Int32} {out : Int32} (hf : fX12_asCode l0 = some out) : Ct (l, G, kX12_asCode, wX12_asCode G, [.int l0], qE (some (.int out)) (wX12_asCode G)) :=
  Ct.of [some (.int l0)] kX12_asCode_p rfl rfl rfl ((tX12_asCode_0 (X := (l, G, kX12_asCode, wX12_asCode G, [.int l0], qE (some (.int out)) (wX12_asCode G))) rfl rfl hf))

theorem lkb_X12_isEndless : LkB kX12_isEndless 3 := ⟨kw_5_14, kw_1_13, ⟨by decide, by decide⟩, by decide +kernel, by decide⟩
theorem lkV_X12_170 : LkV "FarDrumModel" 170 kX12_isEndless 3 := ⟨lkb_X12_isEndless, kw_5_11, kw_5_13, kp_44⟩
theorem lkb_X12_isTwo : LkB kX12_isTwo 1 := ⟨kw_5_18, kw_1_13, ⟨by decide, by decide⟩, by decide +kernel, by decide⟩
theorem lkV_X12_173 : LkV "FarDrumModel" 173 kX12_isTwo 1 := ⟨lkb_X12_isTwo, kw_5_15, kw_5_17, kp_45⟩
theorem lkb_X12_asCode : LkB kX12_asCode 1 := ⟨kw_5_21, kw_1_13, ⟨by decide, by decide⟩, by decide +kernel, by decide⟩
theorem lkS_X12_176 : LkS "FarDrumModel" 176 kX12_asCode 1 := ⟨lkb_X12_asCode, kw_5_19, kw_5_20⟩
def wX12_mules (G : GT) (q_a0 : Nat) (q_a0_lengths : Nat) (q_a0_many : Nat) (q_a0_s : Nat) (q_a0_w : Nat) (v_a0_thrown : Int32) (u_a0_trace : Value) (u_a0_text : Value) (u_a0_typed : Value) (u_a0_next : Value) (u_a0_token : Value) (u_a0_place : Value) (u_a0_value : Value) (u_a0_fault : Value) (u_a0_slow : Value) (u_a0_deaf : Value) (u_a0_told : Value) (u_a0_kept : Value) (u_a0_isKept : Value) (u_a0_undos : Value) (u_a0_undoMany : Value) (u_a0_heardBy : Value) (u_a0_heardAt : Value) (u_a0_heardMany : Value) (u_a0_tellsAt : Value) (u_a0_tellMany : Value) (u_a0_metAt : Value) (u_a0_metBeat : Value) (u_a0_round : Value) (u_a0_z : Value) (m_a0_lengths : Nat → Int32) (m_a0_many : Nat → Int32) (m_a0_s : Nat → Int32) (m_a0_w : Nat → Int32) : va_W := [(q_a0, .inr (12, [.int v_a0_thrown, u_a0_trace, u_a0_text, u_a0_typed, u_a0_next, u_a0_token, u_a0_place, u_a0_value, u_a0_fault, .ref q_a0_many, u_a0_slow, u_a0_deaf, .ref q_a0_lengths, u_a0_told, .ref q_a0_s, .ref q_a0_w, u_a0_kept, u_a0_isKept, u_a0_undos, u_a0_undoMany, u_a0_heardBy, u_a0_heardAt, u_a0_heardMany, u_a0_tellsAt, u_a0_tellMany, u_a0_metAt, u_a0_metBeat, u_a0_round, u_a0_z])), (q_a0_lengths, .inl (G.2 0, 72, .inl m_a0_lengths)), (q_a0_many, .inl (G.2 0, 6, .inl m_a0_many)), (q_a0_s, .inl (G.2 0, 35, .inl m_a0_s)), (q_a0_w, .inl (G.2 0, 35, .inl m_a0_w))]
def kX12_mules : KT := (yX12_mules, cX12_mules, 5, (some .int), 5, 0, 0)
theorem kX12_mules_r : kr kX12_mules = (some .int) ∧ kmc kX12_mules = 0 ∧ kms kX12_mules = 0 := ⟨rfl, rfl, rfl⟩
theorem kX12_mules_p : plainName (ky kX12_mules).cls = true := by decide +kernel
def fX12_mules_24 (v_a0_thrown : Int32) (m_a0_w : Nat → Int32) : Option (Int32 × Int32 × (Nat → Int32)) :=
  some ((-1 : Int32), v_a0_thrown, m_a0_w)
def fX12_mules_108 (B61 : Int32 → (Nat → Int32) → Option (Int32 × Int32 × (Nat → Int32))) (l3 : Int32) (m_a0_w : Nat → Int32) : Option (Int32 × Int32 × (Nat → Int32)) :=
  B61 (l3 + (1 : Int32)) m_a0_w
def fX12_mules_61 (B61 : Int32 → (Nat → Int32) → Option (Int32 × Int32 × (Nat → Int32))) (K61_85 : Int32 → (Nat → Int32) → Option (Int32 × Int32 × (Nat → Int32))) (K61_114 : (Nat → Int32) → Option (Int32 × Int32 × (Nat → Int32))) (N : Nat) (l1 : Int32) (l3 : Int32) (m_a0_lengths : Nat → Int32) (m_a0_many : Nat → Int32) (m_a0_s : Nat → Int32) (m_a0_w : Nat → Int32) : Option (Int32 × Int32 × (Nat → Int32)) :=
  if (36 : Int32) ≤ l3 then (K61_114 m_a0_w)
  else (Option.bind (fX12_isTwo l3 m_a0_many) fun o69 =>
  if o69 = 0 then (fX12_mules_108 B61 l3 m_a0_w)
  else (Option.bind (fX12_isEndless N l3 (-1 : Int32) l1 m_a0_lengths m_a0_many m_a0_s m_a0_w) fun o79 =>
  if o79.1 = 0 then (fX12_mules_108 B61 l3 o79.2)
  else (K61_85 l3 o79.2)))
def fX12_mules_L61 (N : Nat) (l1 : Int32) (m_a0_lengths : Nat → Int32) (m_a0_many : Nat → Int32) (m_a0_s : Nat → Int32) (K61_85 : Int32 → (Nat → Int32) → Option (Int32 × Int32 × (Nat → Int32))) (K61_114 : (Nat → Int32) → Option (Int32 × Int32 × (Nat → Int32))) : Nat → Int32 → (Nat → Int32) → Option (Int32 × Int32 × (Nat → Int32))
  | 0, _, _ => none
  | n + 1, l3, m_a0_w => fX12_mules_61 (fX12_mules_L61 N l1 m_a0_lengths m_a0_many m_a0_s K61_85 K61_114 n) K61_85 K61_114 N l1 l3 m_a0_lengths m_a0_many m_a0_s m_a0_w
def fX12_mules_107 (s0 : Int32) (v_a0_thrown : Int32) (m_a0_w : Nat → Int32) : Option (Int32 × Int32 × (Nat → Int32)) :=
  some (s0, v_a0_thrown, m_a0_w)
def fX12_mules_185 (B127 : Int32 → (Nat → Int32) → Option (Int32 × Int32 × (Nat → Int32))) (l4 : Int32) (m_a0_w : Nat → Int32) : Option (Int32 × Int32 × (Nat → Int32)) :=
  B127 (l4 + (1 : Int32)) m_a0_w
def fX12_mules_127 (B127 : Int32 → (Nat → Int32) → Option (Int32 × Int32 × (Nat → Int32))) (K127_162 : Int32 → (Nat → Int32) → Option (Int32 × Int32 × (Nat → Int32))) (K127_191 : (Nat → Int32) → Option (Int32 × Int32 × (Nat → Int32))) (N : Nat) (l1 : Int32) (l3 : Int32) (l4 : Int32) (m_a0_lengths : Nat → Int32) (m_a0_many : Nat → Int32) (m_a0_s : Nat → Int32) (m_a0_w : Nat → Int32) : Option (Int32 × Int32 × (Nat → Int32)) :=
  if (36 : Int32) ≤ l4 then (K127_191 m_a0_w)
  else (Option.bind (fX12_isTwo l3 m_a0_many) fun o136 =>
  if o136 = 0 then (fX12_mules_185 B127 l4 m_a0_w)
  else (Option.bind (fX12_isTwo l4 m_a0_many) fun o145 =>
  if o145 = 0 then (fX12_mules_185 B127 l4 m_a0_w)
  else (Option.bind (fX12_isEndless N l3 l4 l1 m_a0_lengths m_a0_many m_a0_s m_a0_w) fun o156 =>
  if o156.1 = 0 then (fX12_mules_185 B127 l4 o156.2)
  else (K127_162 l4 o156.2))))
def fX12_mules_L127 (N : Nat) (l1 : Int32) (l3 : Int32) (m_a0_lengths : Nat → Int32) (m_a0_many : Nat → Int32) (m_a0_s : Nat → Int32) (K127_162 : Int32 → (Nat → Int32) → Option (Int32 × Int32 × (Nat → Int32))) (K127_191 : (Nat → Int32) → Option (Int32 × Int32 × (Nat → Int32))) : Nat → Int32 → (Nat → Int32) → Option (Int32 × Int32 × (Nat → Int32))
  | 0, _, _ => none
  | n + 1, l4, m_a0_w => fX12_mules_127 (fX12_mules_L127 N l1 l3 m_a0_lengths m_a0_many m_a0_s K127_162 K127_191 n) K127_162 K127_191 N l1 l3 l4 m_a0_lengths m_a0_many m_a0_s m_a0_w
def fX12_mules_116 (B116 : Int32 → (Nat → Int32) → Option (Int32 × Int32 × (Nat → Int32))) (K116_162 : Int32 → Int32 → (Nat → Int32) → Option (Int32 × Int32 × (Nat → Int32))) (K116_197 : (Nat → Int32) → Option (Int32 × Int32 × (Nat → Int32))) (N : Nat) (l1 : Int32) (l3 : Int32) (m_a0_lengths : Nat → Int32) (m_a0_many : Nat → Int32) (m_a0_s : Nat → Int32) (m_a0_w : Nat → Int32) : Option (Int32 × Int32 × (Nat → Int32)) :=
  if (36 : Int32) ≤ l3 then (K116_197 m_a0_w)
  else (lti (l3 + (1 : Int32)) fun y125 =>
  fX12_mules_L127 N l1 l3 m_a0_lengths m_a0_many m_a0_s
      (fun l4k127_162 m_a0_wk127_162 => K116_162 l3 l4k127_162 m_a0_wk127_162)
      (fun m_a0_wk127_191 => B116 (l3 + (1 : Int32)) m_a0_wk127_191) N y125 m_a0_w)
def fX12_mules_L116 (N : Nat) (l1 : Int32) (m_a0_lengths : Nat → Int32) (m_a0_many : Nat → Int32) (m_a0_s : Nat → Int32) (K116_162 : Int32 → Int32 → (Nat → Int32) → Option (Int32 × Int32 × (Nat → Int32))) (K116_197 : (Nat → Int32) → Option (Int32 × Int32 × (Nat → Int32))) : Nat → Int32 → (Nat → Int32) → Option (Int32 × Int32 × (Nat → Int32))
  | 0, _, _ => none
  | n + 1, l3, m_a0_w => fX12_mules_116 (fX12_mules_L116 N l1 m_a0_lengths m_a0_many m_a0_s K116_162 K116_197 n) K116_162 K116_197 N l1 l3 m_a0_lengths m_a0_many m_a0_s m_a0_w
def fX12_mules_184 (s0 : Int32) (v_a0_thrown : Int32) (m_a0_w : Nat → Int32) : Option (Int32 × Int32 × (Nat → Int32)) :=
  some (s0, v_a0_thrown, m_a0_w)
def fX12_mules_181 (s0 : Int32) (v_a0_thrown : Int32) (m_a0_w : Nat → Int32) : Option (Int32 × Int32 × (Nat → Int32)) :=
  Option.bind (fX12_asCode s0) fun o181 =>
  fX12_mules_184 o181 v_a0_thrown m_a0_w
def fX12_mules_58 (s0 : Int32) (v_a0_thrown : Int32) (m_a0_w : Nat → Int32) : Option (Int32 × Int32 × (Nat → Int32)) :=
  some (s0, v_a0_thrown, m_a0_w)
def fX12_mules (N : Nat) (l1 : Int32) (l2 : Int32) (m_a0_lengths : Nat → Int32) (m_a0_many : Nat → Int32) (m_a0_s : Nat → Int32) (m_a0_w : Nat → Int32) : Option (Int32 × Int32 × (Nat → Int32)) :=
  Option.bind (fX12_in l1 (1 : Int32) (20 : Int32)) fun o9 =>
  if o9 = 0 then (fX12_mules_24 (0 : Int32) m_a0_w)
  else (Option.bind (fX12_in l2 (0 : Int32) (2 : Int32)) fun o18 =>
  if o18 = 0 then (fX12_mules_24 (0 : Int32) m_a0_w)
  else (if (m_a0_many 0) = 0 then (some ((-9 : Int32), (0 : Int32), m_a0_w))
  else (Option.bind (fX12_isEndless N (-1 : Int32) (-1 : Int32) l1 m_a0_lengths m_a0_many m_a0_s m_a0_w) fun o42 =>
  if o42.1 = 0 then (fX12_mules_L61 N l1 m_a0_lengths m_a0_many m_a0_s
      (fun l3k61_85 m_a0_wk61_85 => if l2 = 0 then (fX12_mules_107 (1 : Int32) (0 : Int32) m_a0_wk61_85)
  else (if l2 = (1 : Int32) then (Option.bind (fX12_asCode l3k61_85) fun o99 =>
  fX12_mules_107 o99 (0 : Int32) m_a0_wk61_85)
  else (fX12_mules_107 (-9 : Int32) (0 : Int32) m_a0_wk61_85)))
      (fun m_a0_wk61_114 => fX12_mules_L116 N l1 m_a0_lengths m_a0_many m_a0_s
      (fun l3k116_162 l4k116_162 m_a0_wk116_162 => if l2 = 0 then (fX12_mules_184 (2 : Int32) (0 : Int32) m_a0_wk116_162)
  else (if l2 = (1 : Int32) then (fX12_mules_181 l3k116_162 (0 : Int32) m_a0_wk116_162)
  else (fX12_mules_181 l4k116_162 (0 : Int32) m_a0_wk116_162)))
      (fun m_a0_wk116_197 => some ((-9 : Int32), (0 : Int32), m_a0_wk116_197)) N (0 : Int32) m_a0_wk61_114) N (0 : Int32) o42.2)
  else (if l2 = 0 then (fX12_mules_58 (0 : Int32) (0 : Int32) o42.2)
  else (fX12_mules_58 (-9 : Int32) (0 : Int32) o42.2)))))
section
variable {X : XT} {N : Nat} {q_a0 : Nat} {q_a0_lengths : Nat} {q_a0_many : Nat} {q_a0_s : Nat} {q_a0_w : Nat} {v_a0_thrown : Int32} {u_a0_trace : Value} {u_a0_text : Value} {u_a0_typed : Value} {u_a0_next : Value} {u_a0_token : Value} {u_a0_place : Value} {u_a0_value : Value} {u_a0_fault : Value} {u_a0_slow : Value} {u_a0_deaf : Value} {u_a0_told : Value} {u_a0_kept : Value} {u_a0_isKept : Value} {u_a0_undos : Value} {u_a0_undoMany : Value} {u_a0_heardBy : Value} {u_a0_heardAt : Value} {u_a0_heardMany : Value} {u_a0_tellsAt : Value} {u_a0_tellMany : Value} {u_a0_metAt : Value} {u_a0_metBeat : Value} {u_a0_round : Value} {u_a0_z : Value} {m_a0_lengths : Nat → Int32} {m_a0_many : Nat → Int32} {m_a0_s : Nat → Int32} {m_a0_w : Nat → Int32} {l1 : Int32} {l2 : Int32} {l3 : Int32} {s0 : Int32} {l4 : Int32}
set_option maxRecDepth 20000 in
theorem tX12_mules_24 {out : Int32 × Int32 × (Nat → Int32)} (hX : xk X = kX12_mules) (hQ : xQ X = qE (some (.int out.1)) (wX12_mules (xG X) q_a0 q_a0_lengths q_a0_many q_a0_s q_a0_w out.2.1 u_a0_trace u_a0_text u_a0_typed u_a0_next u_a0_token u_a0_place u_a0_value u_a0_fault u_a0_slow u_a0_deaf u_a0_told u_a0_kept u_a0_isKept u_a0_undos u_a0_undoMany u_a0_heardBy u_a0_heardAt u_a0_heardMany u_a0_tellsAt u_a0_tellMany u_a0_metAt u_a0_metBeat u_a0_round u_a0_z m_a0_lengths m_a0_many m_a0_s out.2.2)) (hf : fX12_mules_24 v_a0_thrown m_a0_w = some out) : V X cX12_mules "FarDrumModel" 0 0 (wX12_mules (xG X) q_a0 q_a0_lengths q_a0_many q_a0_s q_a0_w v_a0_thrown u_a0_trace u_a0_text u_a0_typed u_a0_next u_a0_token u_a0_place u_a0_value u_a0_fault u_a0_slow u_a0_deaf u_a0_told u_a0_kept u_a0_isKept u_a0_undos u_a0_undoMany u_a0_heardBy u_a0_heardAt u_a0_heardMany u_a0_tellsAt u_a0_tellMany u_a0_metAt u_a0_metBeat u_a0_round u_a0_z m_a0_lengths m_a0_many m_a0_s m_a0_w) [none, none, none, none, none] 24 [] := by
  unfold fX12_mules_24 at hf
  refine V.iconst (pc := 24) (v := -1) dX12_mules_24 (by decide) ?_
  exact V.iretE (pc := 25) hX kX12_mules_r hQ dX12_mules_25 (by cases hf; rfl) (by cases hf; rfl)
set_option maxRecDepth 20000 in
theorem tX12_mules_108 {out : Int32 × Int32 × (Nat → Int32)} (hX : xk X = kX12_mules) (hQ : xQ X = qE (some (.int out.1)) (wX12_mules (xG X) q_a0 q_a0_lengths q_a0_many q_a0_s q_a0_w out.2.1 u_a0_trace u_a0_text u_a0_typed u_a0_next u_a0_token u_a0_place u_a0_value u_a0_fault u_a0_slow u_a0_deaf u_a0_told u_a0_kept u_a0_isKept u_a0_undos u_a0_undoMany u_a0_heardBy u_a0_heardAt u_a0_heardMany u_a0_tellsAt u_a0_tellMany u_a0_metAt u_a0_metBeat u_a0_round u_a0_z m_a0_lengths m_a0_many m_a0_s out.2.2)) {B61 : Int32 → (Nat → Int32) → Option (Int32 × Int32 × (Nat → Int32))} (hB61 : ∀ (l3 : Int32) (m_a0_w : Nat → Int32), B61 l3 m_a0_w = some out → V X cX12_mules "FarDrumModel" 0 0 (wX12_mules (xG X) q_a0 q_a0_lengths q_a0_many q_a0_s q_a0_w v_a0_thrown u_a0_trace u_a0_text u_a0_typed u_a0_next u_a0_token u_a0_place u_a0_value u_a0_fault u_a0_slow u_a0_deaf u_a0_told u_a0_kept u_a0_isKept u_a0_undos u_a0_undoMany u_a0_heardBy u_a0_heardAt u_a0_heardMany u_a0_tellsAt u_a0_tellMany u_a0_metAt u_a0_metBeat u_a0_round u_a0_z m_a0_lengths m_a0_many m_a0_s m_a0_w) [some (.ref q_a0), some (.int l1), some (.int l2), some (.int l3), none] 61 []) (hf : fX12_mules_108 B61 l3 m_a0_w = some out) : V X cX12_mules "FarDrumModel" 0 0 (wX12_mules (xG X) q_a0 q_a0_lengths q_a0_many q_a0_s q_a0_w v_a0_thrown u_a0_trace u_a0_text u_a0_typed u_a0_next u_a0_token u_a0_place u_a0_value u_a0_fault u_a0_slow u_a0_deaf u_a0_told u_a0_kept u_a0_isKept u_a0_undos u_a0_undoMany u_a0_heardBy u_a0_heardAt u_a0_heardMany u_a0_tellsAt u_a0_tellMany u_a0_metAt u_a0_metBeat u_a0_round u_a0_z m_a0_lengths m_a0_many m_a0_s m_a0_w) [some (.ref q_a0), some (.int l1), some (.int l2), some (.int l3), none] 108 [] := by
  unfold fX12_mules_108 at hf
  refine V.iinc (pc := 108) (v := 1) dX12_mules_108 rfl rfl (by decide) rfl ?_
  refine V.goto (pc := 111) (tgt := 61) dX12_mules_111 (by decide) ?_
  exact hB61 _ _ hf
set_option maxRecDepth 20000 in
theorem tX12_mules_61 {out : Int32 × Int32 × (Nat → Int32)} (hX : xk X = kX12_mules) (hQ : xQ X = qE (some (.int out.1)) (wX12_mules (xG X) q_a0 q_a0_lengths q_a0_many q_a0_s q_a0_w out.2.1 u_a0_trace u_a0_text u_a0_typed u_a0_next u_a0_token u_a0_place u_a0_value u_a0_fault u_a0_slow u_a0_deaf u_a0_told u_a0_kept u_a0_isKept u_a0_undos u_a0_undoMany u_a0_heardBy u_a0_heardAt u_a0_heardMany u_a0_tellsAt u_a0_tellMany u_a0_metAt u_a0_metBeat u_a0_round u_a0_z m_a0_lengths m_a0_many m_a0_s out.2.2)) {B61 : Int32 → (Nat → Int32) → Option (Int32 × Int32 × (Nat → Int32))} {K61_85 : Int32 → (Nat → Int32) → Option (Int32 × Int32 × (Nat → Int32))} {K61_114 : (Nat → Int32) → Option (Int32 × Int32 × (Nat → Int32))} (hB61 : ∀ (l3 : Int32) (m_a0_w : Nat → Int32), B61 l3 m_a0_w = some out → V X cX12_mules "FarDrumModel" 0 0 (wX12_mules (xG X) q_a0 q_a0_lengths q_a0_many q_a0_s q_a0_w v_a0_thrown u_a0_trace u_a0_text u_a0_typed u_a0_next u_a0_token u_a0_place u_a0_value u_a0_fault u_a0_slow u_a0_deaf u_a0_told u_a0_kept u_a0_isKept u_a0_undos u_a0_undoMany u_a0_heardBy u_a0_heardAt u_a0_heardMany u_a0_tellsAt u_a0_tellMany u_a0_metAt u_a0_metBeat u_a0_round u_a0_z m_a0_lengths m_a0_many m_a0_s m_a0_w) [some (.ref q_a0), some (.int l1), some (.int l2), some (.int l3), none] 61 []) (hK61_85 : ∀ (l3 : Int32) (m_a0_w : Nat → Int32), K61_85 l3 m_a0_w = some out → V X cX12_mules "FarDrumModel" 0 0 (wX12_mules (xG X) q_a0 q_a0_lengths q_a0_many q_a0_s q_a0_w v_a0_thrown u_a0_trace u_a0_text u_a0_typed u_a0_next u_a0_token u_a0_place u_a0_value u_a0_fault u_a0_slow u_a0_deaf u_a0_told u_a0_kept u_a0_isKept u_a0_undos u_a0_undoMany u_a0_heardBy u_a0_heardAt u_a0_heardMany u_a0_tellsAt u_a0_tellMany u_a0_metAt u_a0_metBeat u_a0_round u_a0_z m_a0_lengths m_a0_many m_a0_s m_a0_w) [none, none, some (.int l2), some (.int l3), none] 85 []) (hK61_114 : ∀ (m_a0_w : Nat → Int32), K61_114 m_a0_w = some out → V X cX12_mules "FarDrumModel" 0 0 (wX12_mules (xG X) q_a0 q_a0_lengths q_a0_many q_a0_s q_a0_w v_a0_thrown u_a0_trace u_a0_text u_a0_typed u_a0_next u_a0_token u_a0_place u_a0_value u_a0_fault u_a0_slow u_a0_deaf u_a0_told u_a0_kept u_a0_isKept u_a0_undos u_a0_undoMany u_a0_heardBy u_a0_heardAt u_a0_heardMany u_a0_tellsAt u_a0_tellMany u_a0_metAt u_a0_metBeat u_a0_round u_a0_z m_a0_lengths m_a0_many m_a0_s m_a0_w) [some (.ref q_a0), some (.int l1), some (.int l2), none, none] 114 []) (hf : fX12_mules_61 B61 K61_85 K61_114 N l1 l3 m_a0_lengths m_a0_many m_a0_s m_a0_w = some out) : V X cX12_mules "FarDrumModel" 0 0 (wX12_mules (xG X) q_a0 q_a0_lengths q_a0_many q_a0_s q_a0_w v_a0_thrown u_a0_trace u_a0_text u_a0_typed u_a0_next u_a0_token u_a0_place u_a0_value u_a0_fault u_a0_slow u_a0_deaf u_a0_told u_a0_kept u_a0_isKept u_a0_undos u_a0_undoMany u_a0_heardBy u_a0_heardAt u_a0_heardMany u_a0_tellsAt u_a0_tellMany u_a0_metAt u_a0_metBeat u_a0_round u_a0_z m_a0_lengths m_a0_many m_a0_s m_a0_w) [some (.ref q_a0), some (.int l1), some (.int l2), some (.int l3), none] 61 [] := by
  unfold fX12_mules_61 at hf
  refine V.iloadn (pc := 61) dX12_mules_61 rfl ?_
  refine V.bipush (pc := 62) (v := 36) dX12_mules_62 (by decide) ?_
  refine V.icmp_ge (pc := 64) (tgt := 114) dX12_mules_64 (by decide) hf (fun hf => ?_) (fun hf => ?_)
  · refine V.mask (pc := 114) [true, true, true, false, false] rfl rfl ?_
    exact hK61_114 _ hf
  · refine V.aloadn (pc := 67) dX12_mules_67 rfl ?_
    refine V.iloadn (pc := 68) dX12_mules_68 rfl ?_
    refine V.callVi (pc := 69) (q := 0) (wr := [(q_a0_lengths, .inl ((xG X).2 0, 72, .inl m_a0_lengths)), (q_a0_s, .inl ((xG X).2 0, 35, .inl m_a0_s)), (q_a0_w, .inl ((xG X).2 0, 35, .inl m_a0_w))]) (wd' := fun o69 => wX12_mules (xG X) q_a0 q_a0_lengths q_a0_many q_a0_s q_a0_w v_a0_thrown u_a0_trace u_a0_text u_a0_typed u_a0_next u_a0_token u_a0_place u_a0_value u_a0_fault u_a0_slow u_a0_deaf u_a0_told u_a0_kept u_a0_isKept u_a0_undos u_a0_undoMany u_a0_heardBy u_a0_heardAt u_a0_heardMany u_a0_tellsAt u_a0_tellMany u_a0_metAt u_a0_metBeat u_a0_round u_a0_z m_a0_lengths m_a0_many m_a0_s m_a0_w) [.int l3] (st := []) hf (fun _ h => oX12_isTwo (q_a0 := q_a0) (q_a0_many := q_a0_many) (u_a0_thrown := ((.int v_a0_thrown))) (u_a0_trace := u_a0_trace) (u_a0_text := u_a0_text) (u_a0_typed := u_a0_typed) (u_a0_next := u_a0_next) (u_a0_token := u_a0_token) (u_a0_place := u_a0_place) (u_a0_value := u_a0_value) (u_a0_fault := u_a0_fault) (u_a0_slow := u_a0_slow) (u_a0_deaf := u_a0_deaf) (u_a0_lengths := ((.ref q_a0_lengths))) (u_a0_told := u_a0_told) (u_a0_s := ((.ref q_a0_s))) (u_a0_w := ((.ref q_a0_w))) (u_a0_kept := u_a0_kept) (u_a0_isKept := u_a0_isKept) (u_a0_undos := u_a0_undos) (u_a0_undoMany := u_a0_undoMany) (u_a0_heardBy := u_a0_heardBy) (u_a0_heardAt := u_a0_heardAt) (u_a0_heardMany := u_a0_heardMany) (u_a0_tellsAt := u_a0_tellsAt) (u_a0_tellMany := u_a0_tellMany) (u_a0_metAt := u_a0_metAt) (u_a0_metBeat := u_a0_metBeat) (u_a0_round := u_a0_round) (u_a0_z := u_a0_z) (m_a0_many := m_a0_many) (l1 := l3) h) lkV_X12_173 dX12_mules_69 hX rfl ⟨rfl, rfl⟩ ⟨rfl, rfl⟩ rfl rfl rfl rfl rfl [0, 2] [1, 3, 4] [3, 0, 4, 1, 2] rfl rfl rfl rfl rfl (fun _ => rfl) rfl (fun o69 hf => ?_)
    refine V.if_eq (pc := 72) (tgt := 108) dX12_mules_72 (by decide) hf (fun hf => ?_) (fun hf => ?_)
    · exact tX12_mules_108 hX hQ hB61 hf
    · refine V.aloadn (pc := 75) dX12_mules_75 rfl ?_
      refine V.iloadn (pc := 76) dX12_mules_76 rfl ?_
      refine V.iconst (pc := 77) (v := -1) dX12_mules_77 (by decide) ?_
      refine V.iloadn (pc := 78) dX12_mules_78 rfl ?_
      refine V.callVi (pc := 79) (q := 0) (wr := []) (wd' := fun o79 => wX12_mules (xG X) q_a0 q_a0_lengths q_a0_many q_a0_s q_a0_w v_a0_thrown u_a0_trace u_a0_text u_a0_typed u_a0_next u_a0_token u_a0_place u_a0_value u_a0_fault u_a0_slow u_a0_deaf u_a0_told u_a0_kept u_a0_isKept u_a0_undos u_a0_undoMany u_a0_heardBy u_a0_heardAt u_a0_heardMany u_a0_tellsAt u_a0_tellMany u_a0_metAt u_a0_metBeat u_a0_round u_a0_z m_a0_lengths m_a0_many m_a0_s o79.2) [.int l3, .int (-1 : Int32), .int l1] (st := []) hf (fun _ h => oX12_isEndless (q_a0 := q_a0) (q_a0_lengths := q_a0_lengths) (q_a0_many := q_a0_many) (q_a0_s := q_a0_s) (q_a0_w := q_a0_w) (u_a0_thrown := ((.int v_a0_thrown))) (u_a0_trace := u_a0_trace) (u_a0_text := u_a0_text) (u_a0_typed := u_a0_typed) (u_a0_next := u_a0_next) (u_a0_token := u_a0_token) (u_a0_place := u_a0_place) (u_a0_value := u_a0_value) (u_a0_fault := u_a0_fault) (u_a0_slow := u_a0_slow) (u_a0_deaf := u_a0_deaf) (u_a0_told := u_a0_told) (u_a0_kept := u_a0_kept) (u_a0_isKept := u_a0_isKept) (u_a0_undos := u_a0_undos) (u_a0_undoMany := u_a0_undoMany) (u_a0_heardBy := u_a0_heardBy) (u_a0_heardAt := u_a0_heardAt) (u_a0_heardMany := u_a0_heardMany) (u_a0_tellsAt := u_a0_tellsAt) (u_a0_tellMany := u_a0_tellMany) (u_a0_metAt := u_a0_metAt) (u_a0_metBeat := u_a0_metBeat) (u_a0_round := u_a0_round) (u_a0_z := u_a0_z) (m_a0_lengths := m_a0_lengths) (m_a0_many := m_a0_many) (m_a0_s := m_a0_s) (m_a0_w := m_a0_w) (l1 := l3) (l2 := (-1 : Int32)) (l3 := l1) h) lkV_X12_170 dX12_mules_79 hX rfl ⟨rfl, rfl⟩ ⟨rfl, rfl⟩ rfl rfl rfl rfl rfl [0, 1, 2, 3, 4] [] [0, 1, 2, 3, 4] rfl rfl rfl rfl rfl (fun _ => rfl) rfl (fun o79 hf => ?_)
      refine V.if_eq (pc := 82) (tgt := 108) dX12_mules_82 (by decide) hf (fun hf => ?_) (fun hf => ?_)
      · exact tX12_mules_108 hX hQ hB61 hf
      · refine V.mask (pc := 85) [false, false, true, true, false] rfl rfl ?_
        exact hK61_85 _ _ hf
theorem tX12_mules_L61 {out : Int32 × Int32 × (Nat → Int32)} (hX : xk X = kX12_mules) (hQ : xQ X = qE (some (.int out.1)) (wX12_mules (xG X) q_a0 q_a0_lengths q_a0_many q_a0_s q_a0_w out.2.1 u_a0_trace u_a0_text u_a0_typed u_a0_next u_a0_token u_a0_place u_a0_value u_a0_fault u_a0_slow u_a0_deaf u_a0_told u_a0_kept u_a0_isKept u_a0_undos u_a0_undoMany u_a0_heardBy u_a0_heardAt u_a0_heardMany u_a0_tellsAt u_a0_tellMany u_a0_metAt u_a0_metBeat u_a0_round u_a0_z m_a0_lengths m_a0_many m_a0_s out.2.2)) {K61_85 : Int32 → (Nat → Int32) → Option (Int32 × Int32 × (Nat → Int32))} {K61_114 : (Nat → Int32) → Option (Int32 × Int32 × (Nat → Int32))} (hK61_85 : ∀ (l3 : Int32) (m_a0_w : Nat → Int32), K61_85 l3 m_a0_w = some out → V X cX12_mules "FarDrumModel" 0 0 (wX12_mules (xG X) q_a0 q_a0_lengths q_a0_many q_a0_s q_a0_w v_a0_thrown u_a0_trace u_a0_text u_a0_typed u_a0_next u_a0_token u_a0_place u_a0_value u_a0_fault u_a0_slow u_a0_deaf u_a0_told u_a0_kept u_a0_isKept u_a0_undos u_a0_undoMany u_a0_heardBy u_a0_heardAt u_a0_heardMany u_a0_tellsAt u_a0_tellMany u_a0_metAt u_a0_metBeat u_a0_round u_a0_z m_a0_lengths m_a0_many m_a0_s m_a0_w) [none, none, some (.int l2), some (.int l3), none] 85 []) (hK61_114 : ∀ (m_a0_w : Nat → Int32), K61_114 m_a0_w = some out → V X cX12_mules "FarDrumModel" 0 0 (wX12_mules (xG X) q_a0 q_a0_lengths q_a0_many q_a0_s q_a0_w v_a0_thrown u_a0_trace u_a0_text u_a0_typed u_a0_next u_a0_token u_a0_place u_a0_value u_a0_fault u_a0_slow u_a0_deaf u_a0_told u_a0_kept u_a0_isKept u_a0_undos u_a0_undoMany u_a0_heardBy u_a0_heardAt u_a0_heardMany u_a0_tellsAt u_a0_tellMany u_a0_metAt u_a0_metBeat u_a0_round u_a0_z m_a0_lengths m_a0_many m_a0_s m_a0_w) [some (.ref q_a0), some (.int l1), some (.int l2), none, none] 114 []) : ∀ (n : Nat) (l3 : Int32) (m_a0_w : Nat → Int32), fX12_mules_L61 N l1 m_a0_lengths m_a0_many m_a0_s K61_85 K61_114 n l3 m_a0_w = some out → V X cX12_mules "FarDrumModel" 0 0 (wX12_mules (xG X) q_a0 q_a0_lengths q_a0_many q_a0_s q_a0_w v_a0_thrown u_a0_trace u_a0_text u_a0_typed u_a0_next u_a0_token u_a0_place u_a0_value u_a0_fault u_a0_slow u_a0_deaf u_a0_told u_a0_kept u_a0_isKept u_a0_undos u_a0_undoMany u_a0_heardBy u_a0_heardAt u_a0_heardMany u_a0_tellsAt u_a0_tellMany u_a0_metAt u_a0_metBeat u_a0_round u_a0_z m_a0_lengths m_a0_many m_a0_s m_a0_w) [some (.ref q_a0), some (.int l1), some (.int l2), some (.int l3), none] 61 [] := by
  intro n
  induction n with
  | zero => intro l3 m_a0_w hf; cases hf
  | succ n ih => intro l3 m_a0_w hf; exact tX12_mules_61 hX hQ ih hK61_85 hK61_114 hf
set_option maxRecDepth 20000 in
theorem tX12_mules_107 {out : Int32 × Int32 × (Nat → Int32)} (hX : xk X = kX12_mules) (hQ : xQ X = qE (some (.int out.1)) (wX12_mules (xG X) q_a0 q_a0_lengths q_a0_many q_a0_s q_a0_w out.2.1 u_a0_trace u_a0_text u_a0_typed u_a0_next u_a0_token u_a0_place u_a0_value u_a0_fault u_a0_slow u_a0_deaf u_a0_told u_a0_kept u_a0_isKept u_a0_undos u_a0_undoMany u_a0_heardBy u_a0_heardAt u_a0_heardMany u_a0_tellsAt u_a0_tellMany u_a0_metAt u_a0_metBeat u_a0_round u_a0_z m_a0_lengths m_a0_many m_a0_s out.2.2)) (hf : fX12_mules_107 s0 v_a0_thrown m_a0_w = some out) : V X cX12_mules "FarDrumModel" 0 0 (wX12_mules (xG X) q_a0 q_a0_lengths q_a0_many q_a0_s q_a0_w v_a0_thrown u_a0_trace u_a0_text u_a0_typed u_a0_next u_a0_token u_a0_place u_a0_value u_a0_fault u_a0_slow u_a0_deaf u_a0_told u_a0_kept u_a0_isKept u_a0_undos u_a0_undoMany u_a0_heardBy u_a0_heardAt u_a0_heardMany u_a0_tellsAt u_a0_tellMany u_a0_metAt u_a0_metBeat u_a0_round u_a0_z m_a0_lengths m_a0_many m_a0_s m_a0_w) [none, none, none, none, none] 107 [.int s0] := by
  unfold fX12_mules_107 at hf
  exact V.iretE (pc := 107) hX kX12_mules_r hQ dX12_mules_107 (by cases hf; rfl) (by cases hf; rfl)
set_option maxRecDepth 20000 in
theorem tX12_mules_185 {out : Int32 × Int32 × (Nat → Int32)} (hX : xk X = kX12_mules) (hQ : xQ X = qE (some (.int out.1)) (wX12_mules (xG X) q_a0 q_a0_lengths q_a0_many q_a0_s q_a0_w out.2.1 u_a0_trace u_a0_text u_a0_typed u_a0_next u_a0_token u_a0_place u_a0_value u_a0_fault u_a0_slow u_a0_deaf u_a0_told u_a0_kept u_a0_isKept u_a0_undos u_a0_undoMany u_a0_heardBy u_a0_heardAt u_a0_heardMany u_a0_tellsAt u_a0_tellMany u_a0_metAt u_a0_metBeat u_a0_round u_a0_z m_a0_lengths m_a0_many m_a0_s out.2.2)) {B127 : Int32 → (Nat → Int32) → Option (Int32 × Int32 × (Nat → Int32))} (hB127 : ∀ (l4 : Int32) (m_a0_w : Nat → Int32), B127 l4 m_a0_w = some out → V X cX12_mules "FarDrumModel" 0 0 (wX12_mules (xG X) q_a0 q_a0_lengths q_a0_many q_a0_s q_a0_w v_a0_thrown u_a0_trace u_a0_text u_a0_typed u_a0_next u_a0_token u_a0_place u_a0_value u_a0_fault u_a0_slow u_a0_deaf u_a0_told u_a0_kept u_a0_isKept u_a0_undos u_a0_undoMany u_a0_heardBy u_a0_heardAt u_a0_heardMany u_a0_tellsAt u_a0_tellMany u_a0_metAt u_a0_metBeat u_a0_round u_a0_z m_a0_lengths m_a0_many m_a0_s m_a0_w) [some (.ref q_a0), some (.int l1), some (.int l2), some (.int l3), some (.int l4)] 127 []) (hf : fX12_mules_185 B127 l4 m_a0_w = some out) : V X cX12_mules "FarDrumModel" 0 0 (wX12_mules (xG X) q_a0 q_a0_lengths q_a0_many q_a0_s q_a0_w v_a0_thrown u_a0_trace u_a0_text u_a0_typed u_a0_next u_a0_token u_a0_place u_a0_value u_a0_fault u_a0_slow u_a0_deaf u_a0_told u_a0_kept u_a0_isKept u_a0_undos u_a0_undoMany u_a0_heardBy u_a0_heardAt u_a0_heardMany u_a0_tellsAt u_a0_tellMany u_a0_metAt u_a0_metBeat u_a0_round u_a0_z m_a0_lengths m_a0_many m_a0_s m_a0_w) [some (.ref q_a0), some (.int l1), some (.int l2), some (.int l3), some (.int l4)] 185 [] := by
  unfold fX12_mules_185 at hf
  refine V.iinc (pc := 185) (v := 1) dX12_mules_185 rfl rfl (by decide) rfl ?_
  refine V.goto (pc := 188) (tgt := 127) dX12_mules_188 (by decide) ?_
  exact hB127 _ _ hf
set_option maxRecDepth 20000 in
theorem tX12_mules_127 {out : Int32 × Int32 × (Nat → Int32)} (hX : xk X = kX12_mules) (hQ : xQ X = qE (some (.int out.1)) (wX12_mules (xG X) q_a0 q_a0_lengths q_a0_many q_a0_s q_a0_w out.2.1 u_a0_trace u_a0_text u_a0_typed u_a0_next u_a0_token u_a0_place u_a0_value u_a0_fault u_a0_slow u_a0_deaf u_a0_told u_a0_kept u_a0_isKept u_a0_undos u_a0_undoMany u_a0_heardBy u_a0_heardAt u_a0_heardMany u_a0_tellsAt u_a0_tellMany u_a0_metAt u_a0_metBeat u_a0_round u_a0_z m_a0_lengths m_a0_many m_a0_s out.2.2)) {B127 : Int32 → (Nat → Int32) → Option (Int32 × Int32 × (Nat → Int32))} {K127_162 : Int32 → (Nat → Int32) → Option (Int32 × Int32 × (Nat → Int32))} {K127_191 : (Nat → Int32) → Option (Int32 × Int32 × (Nat → Int32))} (hB127 : ∀ (l4 : Int32) (m_a0_w : Nat → Int32), B127 l4 m_a0_w = some out → V X cX12_mules "FarDrumModel" 0 0 (wX12_mules (xG X) q_a0 q_a0_lengths q_a0_many q_a0_s q_a0_w v_a0_thrown u_a0_trace u_a0_text u_a0_typed u_a0_next u_a0_token u_a0_place u_a0_value u_a0_fault u_a0_slow u_a0_deaf u_a0_told u_a0_kept u_a0_isKept u_a0_undos u_a0_undoMany u_a0_heardBy u_a0_heardAt u_a0_heardMany u_a0_tellsAt u_a0_tellMany u_a0_metAt u_a0_metBeat u_a0_round u_a0_z m_a0_lengths m_a0_many m_a0_s m_a0_w) [some (.ref q_a0), some (.int l1), some (.int l2), some (.int l3), some (.int l4)] 127 []) (hK127_162 : ∀ (l4 : Int32) (m_a0_w : Nat → Int32), K127_162 l4 m_a0_w = some out → V X cX12_mules "FarDrumModel" 0 0 (wX12_mules (xG X) q_a0 q_a0_lengths q_a0_many q_a0_s q_a0_w v_a0_thrown u_a0_trace u_a0_text u_a0_typed u_a0_next u_a0_token u_a0_place u_a0_value u_a0_fault u_a0_slow u_a0_deaf u_a0_told u_a0_kept u_a0_isKept u_a0_undos u_a0_undoMany u_a0_heardBy u_a0_heardAt u_a0_heardMany u_a0_tellsAt u_a0_tellMany u_a0_metAt u_a0_metBeat u_a0_round u_a0_z m_a0_lengths m_a0_many m_a0_s m_a0_w) [none, none, some (.int l2), some (.int l3), some (.int l4)] 162 []) (hK127_191 : ∀ (m_a0_w : Nat → Int32), K127_191 m_a0_w = some out → V X cX12_mules "FarDrumModel" 0 0 (wX12_mules (xG X) q_a0 q_a0_lengths q_a0_many q_a0_s q_a0_w v_a0_thrown u_a0_trace u_a0_text u_a0_typed u_a0_next u_a0_token u_a0_place u_a0_value u_a0_fault u_a0_slow u_a0_deaf u_a0_told u_a0_kept u_a0_isKept u_a0_undos u_a0_undoMany u_a0_heardBy u_a0_heardAt u_a0_heardMany u_a0_tellsAt u_a0_tellMany u_a0_metAt u_a0_metBeat u_a0_round u_a0_z m_a0_lengths m_a0_many m_a0_s m_a0_w) [some (.ref q_a0), some (.int l1), some (.int l2), some (.int l3), none] 191 []) (hf : fX12_mules_127 B127 K127_162 K127_191 N l1 l3 l4 m_a0_lengths m_a0_many m_a0_s m_a0_w = some out) : V X cX12_mules "FarDrumModel" 0 0 (wX12_mules (xG X) q_a0 q_a0_lengths q_a0_many q_a0_s q_a0_w v_a0_thrown u_a0_trace u_a0_text u_a0_typed u_a0_next u_a0_token u_a0_place u_a0_value u_a0_fault u_a0_slow u_a0_deaf u_a0_told u_a0_kept u_a0_isKept u_a0_undos u_a0_undoMany u_a0_heardBy u_a0_heardAt u_a0_heardMany u_a0_tellsAt u_a0_tellMany u_a0_metAt u_a0_metBeat u_a0_round u_a0_z m_a0_lengths m_a0_many m_a0_s m_a0_w) [some (.ref q_a0), some (.int l1), some (.int l2), some (.int l3), some (.int l4)] 127 [] := by
  unfold fX12_mules_127 at hf
  refine V.iload (pc := 127) dX12_mules_127 rfl ?_
  refine V.bipush (pc := 129) (v := 36) dX12_mules_129 (by decide) ?_
  refine V.icmp_ge (pc := 131) (tgt := 191) dX12_mules_131 (by decide) hf (fun hf => ?_) (fun hf => ?_)
  · refine V.mask (pc := 191) [true, true, true, true, false] rfl rfl ?_
    exact hK127_191 _ hf
  · refine V.aloadn (pc := 134) dX12_mules_134 rfl ?_
    refine V.iloadn (pc := 135) dX12_mules_135 rfl ?_
    refine V.callVi (pc := 136) (q := 0) (wr := [(q_a0_lengths, .inl ((xG X).2 0, 72, .inl m_a0_lengths)), (q_a0_s, .inl ((xG X).2 0, 35, .inl m_a0_s)), (q_a0_w, .inl ((xG X).2 0, 35, .inl m_a0_w))]) (wd' := fun o136 => wX12_mules (xG X) q_a0 q_a0_lengths q_a0_many q_a0_s q_a0_w v_a0_thrown u_a0_trace u_a0_text u_a0_typed u_a0_next u_a0_token u_a0_place u_a0_value u_a0_fault u_a0_slow u_a0_deaf u_a0_told u_a0_kept u_a0_isKept u_a0_undos u_a0_undoMany u_a0_heardBy u_a0_heardAt u_a0_heardMany u_a0_tellsAt u_a0_tellMany u_a0_metAt u_a0_metBeat u_a0_round u_a0_z m_a0_lengths m_a0_many m_a0_s m_a0_w) [.int l3] (st := []) hf (fun _ h => oX12_isTwo (q_a0 := q_a0) (q_a0_many := q_a0_many) (u_a0_thrown := ((.int v_a0_thrown))) (u_a0_trace := u_a0_trace) (u_a0_text := u_a0_text) (u_a0_typed := u_a0_typed) (u_a0_next := u_a0_next) (u_a0_token := u_a0_token) (u_a0_place := u_a0_place) (u_a0_value := u_a0_value) (u_a0_fault := u_a0_fault) (u_a0_slow := u_a0_slow) (u_a0_deaf := u_a0_deaf) (u_a0_lengths := ((.ref q_a0_lengths))) (u_a0_told := u_a0_told) (u_a0_s := ((.ref q_a0_s))) (u_a0_w := ((.ref q_a0_w))) (u_a0_kept := u_a0_kept) (u_a0_isKept := u_a0_isKept) (u_a0_undos := u_a0_undos) (u_a0_undoMany := u_a0_undoMany) (u_a0_heardBy := u_a0_heardBy) (u_a0_heardAt := u_a0_heardAt) (u_a0_heardMany := u_a0_heardMany) (u_a0_tellsAt := u_a0_tellsAt) (u_a0_tellMany := u_a0_tellMany) (u_a0_metAt := u_a0_metAt) (u_a0_metBeat := u_a0_metBeat) (u_a0_round := u_a0_round) (u_a0_z := u_a0_z) (m_a0_many := m_a0_many) (l1 := l3) h) lkV_X12_173 dX12_mules_136 hX rfl ⟨rfl, rfl⟩ ⟨rfl, rfl⟩ rfl rfl rfl rfl rfl [0, 2] [1, 3, 4] [3, 0, 4, 1, 2] rfl rfl rfl rfl rfl (fun _ => rfl) rfl (fun o136 hf => ?_)
    refine V.if_eq (pc := 139) (tgt := 185) dX12_mules_139 (by decide) hf (fun hf => ?_) (fun hf => ?_)
    · exact tX12_mules_185 hX hQ hB127 hf
    · refine V.aloadn (pc := 142) dX12_mules_142 rfl ?_
      refine V.iload (pc := 143) dX12_mules_143 rfl ?_
      refine V.callVi (pc := 145) (q := 0) (wr := [(q_a0_lengths, .inl ((xG X).2 0, 72, .inl m_a0_lengths)), (q_a0_s, .inl ((xG X).2 0, 35, .inl m_a0_s)), (q_a0_w, .inl ((xG X).2 0, 35, .inl m_a0_w))]) (wd' := fun o145 => wX12_mules (xG X) q_a0 q_a0_lengths q_a0_many q_a0_s q_a0_w v_a0_thrown u_a0_trace u_a0_text u_a0_typed u_a0_next u_a0_token u_a0_place u_a0_value u_a0_fault u_a0_slow u_a0_deaf u_a0_told u_a0_kept u_a0_isKept u_a0_undos u_a0_undoMany u_a0_heardBy u_a0_heardAt u_a0_heardMany u_a0_tellsAt u_a0_tellMany u_a0_metAt u_a0_metBeat u_a0_round u_a0_z m_a0_lengths m_a0_many m_a0_s m_a0_w) [.int l4] (st := []) hf (fun _ h => oX12_isTwo (q_a0 := q_a0) (q_a0_many := q_a0_many) (u_a0_thrown := ((.int v_a0_thrown))) (u_a0_trace := u_a0_trace) (u_a0_text := u_a0_text) (u_a0_typed := u_a0_typed) (u_a0_next := u_a0_next) (u_a0_token := u_a0_token) (u_a0_place := u_a0_place) (u_a0_value := u_a0_value) (u_a0_fault := u_a0_fault) (u_a0_slow := u_a0_slow) (u_a0_deaf := u_a0_deaf) (u_a0_lengths := ((.ref q_a0_lengths))) (u_a0_told := u_a0_told) (u_a0_s := ((.ref q_a0_s))) (u_a0_w := ((.ref q_a0_w))) (u_a0_kept := u_a0_kept) (u_a0_isKept := u_a0_isKept) (u_a0_undos := u_a0_undos) (u_a0_undoMany := u_a0_undoMany) (u_a0_heardBy := u_a0_heardBy) (u_a0_heardAt := u_a0_heardAt) (u_a0_heardMany := u_a0_heardMany) (u_a0_tellsAt := u_a0_tellsAt) (u_a0_tellMany := u_a0_tellMany) (u_a0_metAt := u_a0_metAt) (u_a0_metBeat := u_a0_metBeat) (u_a0_round := u_a0_round) (u_a0_z := u_a0_z) (m_a0_many := m_a0_many) (l1 := l4) h) lkV_X12_173 dX12_mules_145 hX rfl ⟨rfl, rfl⟩ ⟨rfl, rfl⟩ rfl rfl rfl rfl rfl [0, 2] [1, 3, 4] [3, 0, 4, 1, 2] rfl rfl rfl rfl rfl (fun _ => rfl) rfl (fun o145 hf => ?_)
      refine V.if_eq (pc := 148) (tgt := 185) dX12_mules_148 (by decide) hf (fun hf => ?_) (fun hf => ?_)
      · exact tX12_mules_185 hX hQ hB127 hf
      · refine V.aloadn (pc := 151) dX12_mules_151 rfl ?_
        refine V.iloadn (pc := 152) dX12_mules_152 rfl ?_
        refine V.iload (pc := 153) dX12_mules_153 rfl ?_
        refine V.iloadn (pc := 155) dX12_mules_155 rfl ?_
        refine V.callVi (pc := 156) (q := 0) (wr := []) (wd' := fun o156 => wX12_mules (xG X) q_a0 q_a0_lengths q_a0_many q_a0_s q_a0_w v_a0_thrown u_a0_trace u_a0_text u_a0_typed u_a0_next u_a0_token u_a0_place u_a0_value u_a0_fault u_a0_slow u_a0_deaf u_a0_told u_a0_kept u_a0_isKept u_a0_undos u_a0_undoMany u_a0_heardBy u_a0_heardAt u_a0_heardMany u_a0_tellsAt u_a0_tellMany u_a0_metAt u_a0_metBeat u_a0_round u_a0_z m_a0_lengths m_a0_many m_a0_s o156.2) [.int l3, .int l4, .int l1] (st := []) hf (fun _ h => oX12_isEndless (q_a0 := q_a0) (q_a0_lengths := q_a0_lengths) (q_a0_many := q_a0_many) (q_a0_s := q_a0_s) (q_a0_w := q_a0_w) (u_a0_thrown := ((.int v_a0_thrown))) (u_a0_trace := u_a0_trace) (u_a0_text := u_a0_text) (u_a0_typed := u_a0_typed) (u_a0_next := u_a0_next) (u_a0_token := u_a0_token) (u_a0_place := u_a0_place) (u_a0_value := u_a0_value) (u_a0_fault := u_a0_fault) (u_a0_slow := u_a0_slow) (u_a0_deaf := u_a0_deaf) (u_a0_told := u_a0_told) (u_a0_kept := u_a0_kept) (u_a0_isKept := u_a0_isKept) (u_a0_undos := u_a0_undos) (u_a0_undoMany := u_a0_undoMany) (u_a0_heardBy := u_a0_heardBy) (u_a0_heardAt := u_a0_heardAt) (u_a0_heardMany := u_a0_heardMany) (u_a0_tellsAt := u_a0_tellsAt) (u_a0_tellMany := u_a0_tellMany) (u_a0_metAt := u_a0_metAt) (u_a0_metBeat := u_a0_metBeat) (u_a0_round := u_a0_round) (u_a0_z := u_a0_z) (m_a0_lengths := m_a0_lengths) (m_a0_many := m_a0_many) (m_a0_s := m_a0_s) (m_a0_w := m_a0_w) (l1 := l3) (l2 := l4) (l3 := l1) h) lkV_X12_170 dX12_mules_156 hX rfl ⟨rfl, rfl⟩ ⟨rfl, rfl⟩ rfl rfl rfl rfl rfl [0, 1, 2, 3, 4] [] [0, 1, 2, 3, 4] rfl rfl rfl rfl rfl (fun _ => rfl) rfl (fun o156 hf => ?_)
        refine V.if_eq (pc := 159) (tgt := 185) dX12_mules_159 (by decide) hf (fun hf => ?_) (fun hf => ?_)
        · exact tX12_mules_185 hX hQ hB127 hf
        · refine V.mask (pc := 162) [false, false, true, true, true] rfl rfl ?_
          exact hK127_162 _ _ hf
theorem tX12_mules_L127 {out : Int32 × Int32 × (Nat → Int32)} (hX : xk X = kX12_mules) (hQ : xQ X = qE (some (.int out.1)) (wX12_mules (xG X) q_a0 q_a0_lengths q_a0_many q_a0_s q_a0_w out.2.1 u_a0_trace u_a0_text u_a0_typed u_a0_next u_a0_token u_a0_place u_a0_value u_a0_fault u_a0_slow u_a0_deaf u_a0_told u_a0_kept u_a0_isKept u_a0_undos u_a0_undoMany u_a0_heardBy u_a0_heardAt u_a0_heardMany u_a0_tellsAt u_a0_tellMany u_a0_metAt u_a0_metBeat u_a0_round u_a0_z m_a0_lengths m_a0_many m_a0_s out.2.2)) {K127_162 : Int32 → (Nat → Int32) → Option (Int32 × Int32 × (Nat → Int32))} {K127_191 : (Nat → Int32) → Option (Int32 × Int32 × (Nat → Int32))} (hK127_162 : ∀ (l4 : Int32) (m_a0_w : Nat → Int32), K127_162 l4 m_a0_w = some out → V X cX12_mules "FarDrumModel" 0 0 (wX12_mules (xG X) q_a0 q_a0_lengths q_a0_many q_a0_s q_a0_w v_a0_thrown u_a0_trace u_a0_text u_a0_typed u_a0_next u_a0_token u_a0_place u_a0_value u_a0_fault u_a0_slow u_a0_deaf u_a0_told u_a0_kept u_a0_isKept u_a0_undos u_a0_undoMany u_a0_heardBy u_a0_heardAt u_a0_heardMany u_a0_tellsAt u_a0_tellMany u_a0_metAt u_a0_metBeat u_a0_round u_a0_z m_a0_lengths m_a0_many m_a0_s m_a0_w) [none, none, some (.int l2), some (.int l3), some (.int l4)] 162 []) (hK127_191 : ∀ (m_a0_w : Nat → Int32), K127_191 m_a0_w = some out → V X cX12_mules "FarDrumModel" 0 0 (wX12_mules (xG X) q_a0 q_a0_lengths q_a0_many q_a0_s q_a0_w v_a0_thrown u_a0_trace u_a0_text u_a0_typed u_a0_next u_a0_token u_a0_place u_a0_value u_a0_fault u_a0_slow u_a0_deaf u_a0_told u_a0_kept u_a0_isKept u_a0_undos u_a0_undoMany u_a0_heardBy u_a0_heardAt u_a0_heardMany u_a0_tellsAt u_a0_tellMany u_a0_metAt u_a0_metBeat u_a0_round u_a0_z m_a0_lengths m_a0_many m_a0_s m_a0_w) [some (.ref q_a0), some (.int l1), some (.int l2), some (.int l3), none] 191 []) : ∀ (n : Nat) (l4 : Int32) (m_a0_w : Nat → Int32), fX12_mules_L127 N l1 l3 m_a0_lengths m_a0_many m_a0_s K127_162 K127_191 n l4 m_a0_w = some out → V X cX12_mules "FarDrumModel" 0 0 (wX12_mules (xG X) q_a0 q_a0_lengths q_a0_many q_a0_s q_a0_w v_a0_thrown u_a0_trace u_a0_text u_a0_typed u_a0_next u_a0_token u_a0_place u_a0_value u_a0_fault u_a0_slow u_a0_deaf u_a0_told u_a0_kept u_a0_isKept u_a0_undos u_a0_undoMany u_a0_heardBy u_a0_heardAt u_a0_heardMany u_a0_tellsAt u_a0_tellMany u_a0_metAt u_a0_metBeat u_a0_round u_a0_z m_a0_lengths m_a0_many m_a0_s m_a0_w) [some (.ref q_a0), some (.int l1), some (.int l2), some (.int l3), some (.int l4)] 127 [] := by
  intro n
  induction n with
  | zero => intro l4 m_a0_w hf; cases hf
  | succ n ih => intro l4 m_a0_w hf; exact tX12_mules_127 hX hQ ih hK127_162 hK127_191 hf
set_option maxRecDepth 20000 in
theorem tX12_mules_116 {out : Int32 × Int32 × (Nat → Int32)} (hX : xk X = kX12_mules) (hQ : xQ X = qE (some (.int out.1)) (wX12_mules (xG X) q_a0 q_a0_lengths q_a0_many q_a0_s q_a0_w out.2.1 u_a0_trace u_a0_text u_a0_typed u_a0_next u_a0_token u_a0_place u_a0_value u_a0_fault u_a0_slow u_a0_deaf u_a0_told u_a0_kept u_a0_isKept u_a0_undos u_a0_undoMany u_a0_heardBy u_a0_heardAt u_a0_heardMany u_a0_tellsAt u_a0_tellMany u_a0_metAt u_a0_metBeat u_a0_round u_a0_z m_a0_lengths m_a0_many m_a0_s out.2.2)) {B116 : Int32 → (Nat → Int32) → Option (Int32 × Int32 × (Nat → Int32))} {K116_162 : Int32 → Int32 → (Nat → Int32) → Option (Int32 × Int32 × (Nat → Int32))} {K116_197 : (Nat → Int32) → Option (Int32 × Int32 × (Nat → Int32))} (hB116 : ∀ (l3 : Int32) (m_a0_w : Nat → Int32), B116 l3 m_a0_w = some out → V X cX12_mules "FarDrumModel" 0 0 (wX12_mules (xG X) q_a0 q_a0_lengths q_a0_many q_a0_s q_a0_w v_a0_thrown u_a0_trace u_a0_text u_a0_typed u_a0_next u_a0_token u_a0_place u_a0_value u_a0_fault u_a0_slow u_a0_deaf u_a0_told u_a0_kept u_a0_isKept u_a0_undos u_a0_undoMany u_a0_heardBy u_a0_heardAt u_a0_heardMany u_a0_tellsAt u_a0_tellMany u_a0_metAt u_a0_metBeat u_a0_round u_a0_z m_a0_lengths m_a0_many m_a0_s m_a0_w) [some (.ref q_a0), some (.int l1), some (.int l2), some (.int l3), none] 116 []) (hK116_162 : ∀ (l3 : Int32) (l4 : Int32) (m_a0_w : Nat → Int32), K116_162 l3 l4 m_a0_w = some out → V X cX12_mules "FarDrumModel" 0 0 (wX12_mules (xG X) q_a0 q_a0_lengths q_a0_many q_a0_s q_a0_w v_a0_thrown u_a0_trace u_a0_text u_a0_typed u_a0_next u_a0_token u_a0_place u_a0_value u_a0_fault u_a0_slow u_a0_deaf u_a0_told u_a0_kept u_a0_isKept u_a0_undos u_a0_undoMany u_a0_heardBy u_a0_heardAt u_a0_heardMany u_a0_tellsAt u_a0_tellMany u_a0_metAt u_a0_metBeat u_a0_round u_a0_z m_a0_lengths m_a0_many m_a0_s m_a0_w) [none, none, some (.int l2), some (.int l3), some (.int l4)] 162 []) (hK116_197 : ∀ (m_a0_w : Nat → Int32), K116_197 m_a0_w = some out → V X cX12_mules "FarDrumModel" 0 0 (wX12_mules (xG X) q_a0 q_a0_lengths q_a0_many q_a0_s q_a0_w v_a0_thrown u_a0_trace u_a0_text u_a0_typed u_a0_next u_a0_token u_a0_place u_a0_value u_a0_fault u_a0_slow u_a0_deaf u_a0_told u_a0_kept u_a0_isKept u_a0_undos u_a0_undoMany u_a0_heardBy u_a0_heardAt u_a0_heardMany u_a0_tellsAt u_a0_tellMany u_a0_metAt u_a0_metBeat u_a0_round u_a0_z m_a0_lengths m_a0_many m_a0_s m_a0_w) [none, none, none, none, none] 197 []) (hf : fX12_mules_116 B116 K116_162 K116_197 N l1 l3 m_a0_lengths m_a0_many m_a0_s m_a0_w = some out) : V X cX12_mules "FarDrumModel" 0 0 (wX12_mules (xG X) q_a0 q_a0_lengths q_a0_many q_a0_s q_a0_w v_a0_thrown u_a0_trace u_a0_text u_a0_typed u_a0_next u_a0_token u_a0_place u_a0_value u_a0_fault u_a0_slow u_a0_deaf u_a0_told u_a0_kept u_a0_isKept u_a0_undos u_a0_undoMany u_a0_heardBy u_a0_heardAt u_a0_heardMany u_a0_tellsAt u_a0_tellMany u_a0_metAt u_a0_metBeat u_a0_round u_a0_z m_a0_lengths m_a0_many m_a0_s m_a0_w) [some (.ref q_a0), some (.int l1), some (.int l2), some (.int l3), none] 116 [] := by
  unfold fX12_mules_116 at hf
  refine V.iloadn (pc := 116) dX12_mules_116 rfl ?_
  refine V.bipush (pc := 117) (v := 36) dX12_mules_117 (by decide) ?_
  refine V.icmp_ge (pc := 119) (tgt := 197) dX12_mules_119 (by decide) hf (fun hf => ?_) (fun hf => ?_)
  · refine V.mask (pc := 197) [false, false, false, false, false] rfl rfl ?_
    exact hK116_197 _ hf
  · refine V.iloadn (pc := 122) dX12_mules_122 rfl ?_
    refine V.iconst (pc := 123) (v := 1) dX12_mules_123 (by decide) ?_
    refine V.iadd (pc := 124) dX12_mules_124 ?_
    refine V.topi hf (fun y125 hf => ?_)
    refine V.istore (pc := 125) dX12_mules_125 rfl rfl rfl ?_
    refine tX12_mules_L127 hX hQ ?_ ?_ _ _ _ hf
    · intro l4k127_162 m_a0_wk127_162 hf
      exact hK116_162 _ _ _ hf
    · intro m_a0_wk127_191 hf
      refine V.iinc (pc := 191) (v := 1) dX12_mules_191 rfl rfl (by decide) rfl ?_
      refine V.goto (pc := 194) (tgt := 116) dX12_mules_194 (by decide) ?_
      exact hB116 _ _ hf
theorem tX12_mules_L116 {out : Int32 × Int32 × (Nat → Int32)} (hX : xk X = kX12_mules) (hQ : xQ X = qE (some (.int out.1)) (wX12_mules (xG X) q_a0 q_a0_lengths q_a0_many q_a0_s q_a0_w out.2.1 u_a0_trace u_a0_text u_a0_typed u_a0_next u_a0_token u_a0_place u_a0_value u_a0_fault u_a0_slow u_a0_deaf u_a0_told u_a0_kept u_a0_isKept u_a0_undos u_a0_undoMany u_a0_heardBy u_a0_heardAt u_a0_heardMany u_a0_tellsAt u_a0_tellMany u_a0_metAt u_a0_metBeat u_a0_round u_a0_z m_a0_lengths m_a0_many m_a0_s out.2.2)) {K116_162 : Int32 → Int32 → (Nat → Int32) → Option (Int32 × Int32 × (Nat → Int32))} {K116_197 : (Nat → Int32) → Option (Int32 × Int32 × (Nat → Int32))} (hK116_162 : ∀ (l3 : Int32) (l4 : Int32) (m_a0_w : Nat → Int32), K116_162 l3 l4 m_a0_w = some out → V X cX12_mules "FarDrumModel" 0 0 (wX12_mules (xG X) q_a0 q_a0_lengths q_a0_many q_a0_s q_a0_w v_a0_thrown u_a0_trace u_a0_text u_a0_typed u_a0_next u_a0_token u_a0_place u_a0_value u_a0_fault u_a0_slow u_a0_deaf u_a0_told u_a0_kept u_a0_isKept u_a0_undos u_a0_undoMany u_a0_heardBy u_a0_heardAt u_a0_heardMany u_a0_tellsAt u_a0_tellMany u_a0_metAt u_a0_metBeat u_a0_round u_a0_z m_a0_lengths m_a0_many m_a0_s m_a0_w) [none, none, some (.int l2), some (.int l3), some (.int l4)] 162 []) (hK116_197 : ∀ (m_a0_w : Nat → Int32), K116_197 m_a0_w = some out → V X cX12_mules "FarDrumModel" 0 0 (wX12_mules (xG X) q_a0 q_a0_lengths q_a0_many q_a0_s q_a0_w v_a0_thrown u_a0_trace u_a0_text u_a0_typed u_a0_next u_a0_token u_a0_place u_a0_value u_a0_fault u_a0_slow u_a0_deaf u_a0_told u_a0_kept u_a0_isKept u_a0_undos u_a0_undoMany u_a0_heardBy u_a0_heardAt u_a0_heardMany u_a0_tellsAt u_a0_tellMany u_a0_metAt u_a0_metBeat u_a0_round u_a0_z m_a0_lengths m_a0_many m_a0_s m_a0_w) [none, none, none, none, none] 197 []) : ∀ (n : Nat) (l3 : Int32) (m_a0_w : Nat → Int32), fX12_mules_L116 N l1 m_a0_lengths m_a0_many m_a0_s K116_162 K116_197 n l3 m_a0_w = some out → V X cX12_mules "FarDrumModel" 0 0 (wX12_mules (xG X) q_a0 q_a0_lengths q_a0_many q_a0_s q_a0_w v_a0_thrown u_a0_trace u_a0_text u_a0_typed u_a0_next u_a0_token u_a0_place u_a0_value u_a0_fault u_a0_slow u_a0_deaf u_a0_told u_a0_kept u_a0_isKept u_a0_undos u_a0_undoMany u_a0_heardBy u_a0_heardAt u_a0_heardMany u_a0_tellsAt u_a0_tellMany u_a0_metAt u_a0_metBeat u_a0_round u_a0_z m_a0_lengths m_a0_many m_a0_s m_a0_w) [some (.ref q_a0), some (.int l1), some (.int l2), some (.int l3), none] 116 [] := by
  intro n
  induction n with
  | zero => intro l3 m_a0_w hf; cases hf
  | succ n ih => intro l3 m_a0_w hf; exact tX12_mules_116 hX hQ ih hK116_162 hK116_197 hf
set_option maxRecDepth 20000 in
theorem tX12_mules_184 {out : Int32 × Int32 × (Nat → Int32)} (hX : xk X = kX12_mules) (hQ : xQ X = qE (some (.int out.1)) (wX12_mules (xG X) q_a0 q_a0_lengths q_a0_many q_a0_s q_a0_w out.2.1 u_a0_trace u_a0_text u_a0_typed u_a0_next u_a0_token u_a0_place u_a0_value u_a0_fault u_a0_slow u_a0_deaf u_a0_told u_a0_kept u_a0_isKept u_a0_undos u_a0_undoMany u_a0_heardBy u_a0_heardAt u_a0_heardMany u_a0_tellsAt u_a0_tellMany u_a0_metAt u_a0_metBeat u_a0_round u_a0_z m_a0_lengths m_a0_many m_a0_s out.2.2)) (hf : fX12_mules_184 s0 v_a0_thrown m_a0_w = some out) : V X cX12_mules "FarDrumModel" 0 0 (wX12_mules (xG X) q_a0 q_a0_lengths q_a0_many q_a0_s q_a0_w v_a0_thrown u_a0_trace u_a0_text u_a0_typed u_a0_next u_a0_token u_a0_place u_a0_value u_a0_fault u_a0_slow u_a0_deaf u_a0_told u_a0_kept u_a0_isKept u_a0_undos u_a0_undoMany u_a0_heardBy u_a0_heardAt u_a0_heardMany u_a0_tellsAt u_a0_tellMany u_a0_metAt u_a0_metBeat u_a0_round u_a0_z m_a0_lengths m_a0_many m_a0_s m_a0_w) [none, none, none, none, none] 184 [.int s0] := by
  unfold fX12_mules_184 at hf
  exact V.iretE (pc := 184) hX kX12_mules_r hQ dX12_mules_184 (by cases hf; rfl) (by cases hf; rfl)
set_option maxRecDepth 20000 in
theorem tX12_mules_181 {out : Int32 × Int32 × (Nat → Int32)} (hX : xk X = kX12_mules) (hQ : xQ X = qE (some (.int out.1)) (wX12_mules (xG X) q_a0 q_a0_lengths q_a0_many q_a0_s q_a0_w out.2.1 u_a0_trace u_a0_text u_a0_typed u_a0_next u_a0_token u_a0_place u_a0_value u_a0_fault u_a0_slow u_a0_deaf u_a0_told u_a0_kept u_a0_isKept u_a0_undos u_a0_undoMany u_a0_heardBy u_a0_heardAt u_a0_heardMany u_a0_tellsAt u_a0_tellMany u_a0_metAt u_a0_metBeat u_a0_round u_a0_z m_a0_lengths m_a0_many m_a0_s out.2.2)) (hf : fX12_mules_181 s0 v_a0_thrown m_a0_w = some out) : V X cX12_mules "FarDrumModel" 0 0 (wX12_mules (xG X) q_a0 q_a0_lengths q_a0_many q_a0_s q_a0_w v_a0_thrown u_a0_trace u_a0_text u_a0_typed u_a0_next u_a0_token u_a0_place u_a0_value u_a0_fault u_a0_slow u_a0_deaf u_a0_told u_a0_kept u_a0_isKept u_a0_undos u_a0_undoMany u_a0_heardBy u_a0_heardAt u_a0_heardMany u_a0_tellsAt u_a0_tellMany u_a0_metAt u_a0_metBeat u_a0_round u_a0_z m_a0_lengths m_a0_many m_a0_s m_a0_w) [none, none, none, none, none] 181 [.int s0] := by
  unfold fX12_mules_181 at hf
  refine V.callSi (pc := 181) [.int s0] (st := []) hf (fun _ h => oX12_asCode  (l0 := s0) h) lkS_X12_176 dX12_mules_181 hX rfl ⟨rfl, rfl⟩ ⟨rfl, rfl⟩ rfl rfl rfl (fun o181 hf => ?_)
  exact tX12_mules_184 hX hQ hf
set_option maxRecDepth 20000 in
theorem tX12_mules_58 {out : Int32 × Int32 × (Nat → Int32)} (hX : xk X = kX12_mules) (hQ : xQ X = qE (some (.int out.1)) (wX12_mules (xG X) q_a0 q_a0_lengths q_a0_many q_a0_s q_a0_w out.2.1 u_a0_trace u_a0_text u_a0_typed u_a0_next u_a0_token u_a0_place u_a0_value u_a0_fault u_a0_slow u_a0_deaf u_a0_told u_a0_kept u_a0_isKept u_a0_undos u_a0_undoMany u_a0_heardBy u_a0_heardAt u_a0_heardMany u_a0_tellsAt u_a0_tellMany u_a0_metAt u_a0_metBeat u_a0_round u_a0_z m_a0_lengths m_a0_many m_a0_s out.2.2)) (hf : fX12_mules_58 s0 v_a0_thrown m_a0_w = some out) : V X cX12_mules "FarDrumModel" 0 0 (wX12_mules (xG X) q_a0 q_a0_lengths q_a0_many q_a0_s q_a0_w v_a0_thrown u_a0_trace u_a0_text u_a0_typed u_a0_next u_a0_token u_a0_place u_a0_value u_a0_fault u_a0_slow u_a0_deaf u_a0_told u_a0_kept u_a0_isKept u_a0_undos u_a0_undoMany u_a0_heardBy u_a0_heardAt u_a0_heardMany u_a0_tellsAt u_a0_tellMany u_a0_metAt u_a0_metBeat u_a0_round u_a0_z m_a0_lengths m_a0_many m_a0_s m_a0_w) [none, none, none, none, none] 58 [.int s0] := by
  unfold fX12_mules_58 at hf
  exact V.iretE (pc := 58) hX kX12_mules_r hQ dX12_mules_58 (by cases hf; rfl) (by cases hf; rfl)
set_option maxRecDepth 20000 in
theorem tX12_mules_0 {out : Int32 × Int32 × (Nat → Int32)} (hX : xk X = kX12_mules) (hQ : xQ X = qE (some (.int out.1)) (wX12_mules (xG X) q_a0 q_a0_lengths q_a0_many q_a0_s q_a0_w out.2.1 u_a0_trace u_a0_text u_a0_typed u_a0_next u_a0_token u_a0_place u_a0_value u_a0_fault u_a0_slow u_a0_deaf u_a0_told u_a0_kept u_a0_isKept u_a0_undos u_a0_undoMany u_a0_heardBy u_a0_heardAt u_a0_heardMany u_a0_tellsAt u_a0_tellMany u_a0_metAt u_a0_metBeat u_a0_round u_a0_z m_a0_lengths m_a0_many m_a0_s out.2.2)) (hf : fX12_mules N l1 l2 m_a0_lengths m_a0_many m_a0_s m_a0_w = some out) : V X cX12_mules "FarDrumModel" 0 0 (wX12_mules (xG X) q_a0 q_a0_lengths q_a0_many q_a0_s q_a0_w v_a0_thrown u_a0_trace u_a0_text u_a0_typed u_a0_next u_a0_token u_a0_place u_a0_value u_a0_fault u_a0_slow u_a0_deaf u_a0_told u_a0_kept u_a0_isKept u_a0_undos u_a0_undoMany u_a0_heardBy u_a0_heardAt u_a0_heardMany u_a0_tellsAt u_a0_tellMany u_a0_metAt u_a0_metBeat u_a0_round u_a0_z m_a0_lengths m_a0_many m_a0_s m_a0_w) [some (.ref q_a0), some (.int l1), some (.int l2), none, none] 0 [] := by
  unfold fX12_mules at hf
  refine V.aloadn (pc := 0) dX12_mules_0 rfl ?_
  refine V.iconst (pc := 1) (v := 0) dX12_mules_1 (by decide) ?_
  refine V.putf (q := 0) (wd' := wX12_mules (xG X) q_a0 q_a0_lengths q_a0_many q_a0_s q_a0_w (0 : Int32) u_a0_trace u_a0_text u_a0_typed u_a0_next u_a0_token u_a0_place u_a0_value u_a0_fault u_a0_slow u_a0_deaf u_a0_told u_a0_kept u_a0_isKept u_a0_undos u_a0_undoMany u_a0_heardBy u_a0_heardAt u_a0_heardMany u_a0_tellsAt u_a0_tellMany u_a0_metAt u_a0_metBeat u_a0_round u_a0_z m_a0_lengths m_a0_many m_a0_s m_a0_w) (pc := 2) dX12_mules_2 pk_X12_62_12 rfl rfl rfl rfl rfl ?_
  refine V.iloadn (pc := 5) dX12_mules_5 rfl ?_
  refine V.iconst (pc := 6) (v := 1) dX12_mules_6 (by decide) ?_
  refine V.bipush (pc := 7) (v := 20) dX12_mules_7 (by decide) ?_
  refine V.callSi (pc := 9) [.int l1, .int (1 : Int32), .int (20 : Int32)] (st := []) hf (fun _ h => oX12_in  (l0 := l1) (l1 := (1 : Int32)) (l2 := (20 : Int32)) h) lkS_X12_66 dX12_mules_9 hX rfl ⟨rfl, rfl⟩ ⟨rfl, rfl⟩ rfl rfl rfl (fun o9 hf => ?_)
  refine V.if_eq (pc := 12) (tgt := 24) dX12_mules_12 (by decide) hf (fun hf => ?_) (fun hf => ?_)
  · refine V.mask (pc := 24) [false, false, false, false, false] rfl rfl ?_
    exact tX12_mules_24 hX hQ hf
  · refine V.iloadn (pc := 15) dX12_mules_15 rfl ?_
    refine V.iconst (pc := 16) (v := 0) dX12_mules_16 (by decide) ?_
    refine V.iconst (pc := 17) (v := 2) dX12_mules_17 (by decide) ?_
    refine V.callSi (pc := 18) [.int l2, .int (0 : Int32), .int (2 : Int32)] (st := []) hf (fun _ h => oX12_in  (l0 := l2) (l1 := (0 : Int32)) (l2 := (2 : Int32)) h) lkS_X12_66 dX12_mules_18 hX rfl ⟨rfl, rfl⟩ ⟨rfl, rfl⟩ rfl rfl rfl (fun o18 hf => ?_)
    refine V.if_ne (pc := 21) (tgt := 26) dX12_mules_21 (by decide) hf (fun hf => ?_) (fun hf => ?_)
    · refine V.aloadn (pc := 26) dX12_mules_26 rfl ?_
      refine V.getf (q := 0) (pc := 27) dX12_mules_27 fk_X12_13_12 rfl rfl ?_
      refine V.iconst (pc := 30) (v := 0) dX12_mules_30 (by decide) ?_
      refine V.ialdC (pc := 31) (q := 2) 0 dX12_mules_31 rfl ⟨vp_c (by decide), by decide⟩ ?_
      refine V.if_ne (pc := 32) (tgt := 38) dX12_mules_32 (by decide) hf (fun hf => ?_) (fun hf => ?_)
      · refine V.aloadn (pc := 38) dX12_mules_38 rfl ?_
        refine V.iconst (pc := 39) (v := -1) dX12_mules_39 (by decide) ?_
        refine V.iconst (pc := 40) (v := -1) dX12_mules_40 (by decide) ?_
        refine V.iloadn (pc := 41) dX12_mules_41 rfl ?_
        refine V.callVi (pc := 42) (q := 0) (wr := []) (wd' := fun o42 => wX12_mules (xG X) q_a0 q_a0_lengths q_a0_many q_a0_s q_a0_w (0 : Int32) u_a0_trace u_a0_text u_a0_typed u_a0_next u_a0_token u_a0_place u_a0_value u_a0_fault u_a0_slow u_a0_deaf u_a0_told u_a0_kept u_a0_isKept u_a0_undos u_a0_undoMany u_a0_heardBy u_a0_heardAt u_a0_heardMany u_a0_tellsAt u_a0_tellMany u_a0_metAt u_a0_metBeat u_a0_round u_a0_z m_a0_lengths m_a0_many m_a0_s o42.2) [.int (-1 : Int32), .int (-1 : Int32), .int l1] (st := []) hf (fun _ h => oX12_isEndless (q_a0 := q_a0) (q_a0_lengths := q_a0_lengths) (q_a0_many := q_a0_many) (q_a0_s := q_a0_s) (q_a0_w := q_a0_w) (u_a0_thrown := ((.int (0 : Int32)))) (u_a0_trace := u_a0_trace) (u_a0_text := u_a0_text) (u_a0_typed := u_a0_typed) (u_a0_next := u_a0_next) (u_a0_token := u_a0_token) (u_a0_place := u_a0_place) (u_a0_value := u_a0_value) (u_a0_fault := u_a0_fault) (u_a0_slow := u_a0_slow) (u_a0_deaf := u_a0_deaf) (u_a0_told := u_a0_told) (u_a0_kept := u_a0_kept) (u_a0_isKept := u_a0_isKept) (u_a0_undos := u_a0_undos) (u_a0_undoMany := u_a0_undoMany) (u_a0_heardBy := u_a0_heardBy) (u_a0_heardAt := u_a0_heardAt) (u_a0_heardMany := u_a0_heardMany) (u_a0_tellsAt := u_a0_tellsAt) (u_a0_tellMany := u_a0_tellMany) (u_a0_metAt := u_a0_metAt) (u_a0_metBeat := u_a0_metBeat) (u_a0_round := u_a0_round) (u_a0_z := u_a0_z) (m_a0_lengths := m_a0_lengths) (m_a0_many := m_a0_many) (m_a0_s := m_a0_s) (m_a0_w := m_a0_w) (l1 := (-1 : Int32)) (l2 := (-1 : Int32)) (l3 := l1) h) lkV_X12_170 dX12_mules_42 hX rfl ⟨rfl, rfl⟩ ⟨rfl, rfl⟩ rfl rfl rfl rfl rfl [0, 1, 2, 3, 4] [] [0, 1, 2, 3, 4] rfl rfl rfl rfl rfl (fun _ => rfl) rfl (fun o42 hf => ?_)
        refine V.if_eq (pc := 45) (tgt := 59) dX12_mules_45 (by decide) hf (fun hf => ?_) (fun hf => ?_)
        · refine V.iconst (pc := 59) (v := 0) dX12_mules_59 (by decide) ?_
          refine V.istoren (pc := 60) dX12_mules_60 rfl rfl rfl ?_
          refine tX12_mules_L61 hX hQ ?_ ?_ _ _ _ hf
          · intro l3k61_85 m_a0_wk61_85 hf
            refine V.iloadn (pc := 85) dX12_mules_85 rfl ?_
            refine V.if_ne (pc := 86) (tgt := 93) dX12_mules_86 (by decide) hf (fun hf => ?_) (fun hf => ?_)
            · refine V.iloadn (pc := 93) dX12_mules_93 rfl ?_
              refine V.iconst (pc := 94) (v := 1) dX12_mules_94 (by decide) ?_
              refine V.icmp_ne (pc := 95) (tgt := 105) dX12_mules_95 (by decide) hf (fun hf => ?_) (fun hf => ?_)
              · refine V.bipush (pc := 105) (v := -9) dX12_mules_105 (by decide) ?_
                refine V.mask (pc := 107) [false, false, false, false, false] rfl rfl ?_
                exact tX12_mules_107 hX hQ hf
              · refine V.iloadn (pc := 98) dX12_mules_98 rfl ?_
                refine V.callSi (pc := 99) [.int l3k61_85] (st := []) hf (fun _ h => oX12_asCode  (l0 := l3k61_85) h) lkS_X12_176 dX12_mules_99 hX rfl ⟨rfl, rfl⟩ ⟨rfl, rfl⟩ rfl rfl rfl (fun o99 hf => ?_)
                refine V.goto (pc := 102) (tgt := 107) dX12_mules_102 (by decide) ?_
                refine V.mask (pc := 107) [false, false, false, false, false] rfl rfl ?_
                exact tX12_mules_107 hX hQ hf
            · refine V.iconst (pc := 89) (v := 1) dX12_mules_89 (by decide) ?_
              refine V.goto (pc := 90) (tgt := 107) dX12_mules_90 (by decide) ?_
              refine V.mask (pc := 107) [false, false, false, false, false] rfl rfl ?_
              exact tX12_mules_107 hX hQ hf
          · intro m_a0_wk61_114 hf
            refine V.iconst (pc := 114) (v := 0) dX12_mules_114 (by decide) ?_
            refine V.istoren (pc := 115) dX12_mules_115 rfl rfl rfl ?_
            refine tX12_mules_L116 hX hQ ?_ ?_ _ _ _ hf
            · intro l3k116_162 l4k116_162 m_a0_wk116_162 hf
              refine V.iloadn (pc := 162) dX12_mules_162 rfl ?_
              refine V.if_ne (pc := 163) (tgt := 170) dX12_mules_163 (by decide) hf (fun hf => ?_) (fun hf => ?_)
              · refine V.iloadn (pc := 170) dX12_mules_170 rfl ?_
                refine V.iconst (pc := 171) (v := 1) dX12_mules_171 (by decide) ?_
                refine V.icmp_ne (pc := 172) (tgt := 179) dX12_mules_172 (by decide) hf (fun hf => ?_) (fun hf => ?_)
                · refine V.iload (pc := 179) dX12_mules_179 rfl ?_
                  refine V.mask (pc := 181) [false, false, false, false, false] rfl rfl ?_
                  exact tX12_mules_181 hX hQ hf
                · refine V.iloadn (pc := 175) dX12_mules_175 rfl ?_
                  refine V.goto (pc := 176) (tgt := 181) dX12_mules_176 (by decide) ?_
                  refine V.mask (pc := 181) [false, false, false, false, false] rfl rfl ?_
                  exact tX12_mules_181 hX hQ hf
              · refine V.iconst (pc := 166) (v := 2) dX12_mules_166 (by decide) ?_
                refine V.goto (pc := 167) (tgt := 184) dX12_mules_167 (by decide) ?_
                refine V.mask (pc := 184) [false, false, false, false, false] rfl rfl ?_
                exact tX12_mules_184 hX hQ hf
            · intro m_a0_wk116_197 hf
              refine V.bipush (pc := 197) (v := -9) dX12_mules_197 (by decide) ?_
              exact V.iretE (pc := 199) hX kX12_mules_r hQ dX12_mules_199 (by cases hf; rfl) (by cases hf; rfl)
        · refine V.iloadn (pc := 48) dX12_mules_48 rfl ?_
          refine V.if_ne (pc := 49) (tgt := 56) dX12_mules_49 (by decide) hf (fun hf => ?_) (fun hf => ?_)
          · refine V.bipush (pc := 56) (v := -9) dX12_mules_56 (by decide) ?_
            refine V.mask (pc := 58) [false, false, false, false, false] rfl rfl ?_
            exact tX12_mules_58 hX hQ hf
          · refine V.iconst (pc := 52) (v := 0) dX12_mules_52 (by decide) ?_
            refine V.goto (pc := 53) (tgt := 58) dX12_mules_53 (by decide) ?_
            refine V.mask (pc := 58) [false, false, false, false, false] rfl rfl ?_
            exact tX12_mules_58 hX hQ hf
      · refine V.bipush (pc := 35) (v := -9) dX12_mules_35 (by decide) ?_
        exact V.iretE (pc := 37) hX kX12_mules_r hQ dX12_mules_37 (by cases hf; rfl) (by cases hf; rfl)
    · refine V.mask (pc := 24) [false, false, false, false, false] rfl rfl ?_
      exact tX12_mules_24 hX hQ hf
end
theorem oX12_mules {l : Launch} {G : GT} {N : Nat} {q_a0 : Nat} {q_a0_lengths : Nat} {q_a0_many : Nat} {q_a0_s : Nat} {q_a0_w : Nat} {v_a0_thrown : Int32} {u_a0_trace : Value} {u_a0_text : Value} {u_a0_typed : Value} {u_a0_next : Value} {u_a0_token : Value} {u_a0_place : Value} {u_a0_value : Value} {u_a0_fault : Value} {u_a0_slow : Value} {u_a0_deaf : Value} {u_a0_told : Value} {u_a0_kept : Value} {u_a0_isKept : Value} {u_a0_undos : Value} {u_a0_undoMany : Value} {u_a0_heardBy : Value} {u_a0_heardAt : Value} {u_a0_heardMany : Value} {u_a0_tellsAt : Value} {u_a0_tellMany : Value} {u_a0_metAt : Value} {u_a0_metBeat : Value} {u_a0_round : Value} {u_a0_z : Value} {m_a0_lengths : Nat → Int32} {m_a0_many : Nat → Int32} {m_a0_s : Nat → Int32} {m_a0_w : Nat → Int32} {l1 : Int32} {l2 : Int32} {out : Int32 × Int32 × (Nat → Int32)} (hf : fX12_mules N l1 l2 m_a0_lengths m_a0_many m_a0_s m_a0_w = some out) : Ct (l, G, kX12_mules, wX12_mules G q_a0 q_a0_lengths q_a0_many q_a0_s q_a0_w v_a0_thrown u_a0_trace u_a0_text u_a0_typed u_a0_next u_a0_token u_a0_place u_a0_value u_a0_fault u_a0_slow u_a0_deaf u_a0_told u_a0_kept u_a0_isKept u_a0_undos u_a0_undoMany u_a0_heardBy u_a0_heardAt u_a0_heardMany u_a0_tellsAt u_a0_tellMany u_a0_metAt u_a0_metBeat u_a0_round u_a0_z m_a0_lengths m_a0_many m_a0_s m_a0_w, [.ref q_a0, .int l1, .int l2], qE (some (.int out.1)) (wX12_mules G q_a0 q_a0_lengths q_a0_many q_a0_s q_a0_w out.2.1 u_a0_trace u_a0_text u_a0_typed u_a0_next u_a0_token u_a0_place u_a0_value u_a0_fault u_a0_slow u_a0_deaf u_a0_told u_a0_kept u_a0_isKept u_a0_undos u_a0_undoMany u_a0_heardBy u_a0_heardAt u_a0_heardMany u_a0_tellsAt u_a0_tellMany u_a0_metAt u_a0_metBeat u_a0_round u_a0_z m_a0_lengths m_a0_many m_a0_s out.2.2)) :=
  Ct.of [some (.ref q_a0), some (.int l1), some (.int l2), none, none] kX12_mules_p rfl rfl rfl ((tX12_mules_0 (X := (l, G, kX12_mules, wX12_mules G q_a0 q_a0_lengths q_a0_many q_a0_s q_a0_w v_a0_thrown u_a0_trace u_a0_text u_a0_typed u_a0_next u_a0_token u_a0_place u_a0_value u_a0_fault u_a0_slow u_a0_deaf u_a0_told u_a0_kept u_a0_isKept u_a0_undos u_a0_undoMany u_a0_heardBy u_a0_heardAt u_a0_heardMany u_a0_tellsAt u_a0_tellMany u_a0_metAt u_a0_metBeat u_a0_round u_a0_z m_a0_lengths m_a0_many m_a0_s m_a0_w, [.ref q_a0, .int l1, .int l2], qE (some (.int out.1)) (wX12_mules G q_a0 q_a0_lengths q_a0_many q_a0_s q_a0_w out.2.1 u_a0_trace u_a0_text u_a0_typed u_a0_next u_a0_token u_a0_place u_a0_value u_a0_fault u_a0_slow u_a0_deaf u_a0_told u_a0_kept u_a0_isKept u_a0_undos u_a0_undoMany u_a0_heardBy u_a0_heardAt u_a0_heardMany u_a0_tellsAt u_a0_tellMany u_a0_metAt u_a0_metBeat u_a0_round u_a0_z m_a0_lengths m_a0_many m_a0_s out.2.2))) rfl rfl hf))

def wX12_fastest (G : GT) (q_a0 : Nat) (q_a0_lengths : Nat) (q_a0_many : Nat) (q_a0_metAt : Nat) (q_a0_metBeat : Nat) (q_a0_round : Nat) (q_a0_s : Nat) (q_a0_w : Nat) (v_a0_thrown : Int32) (u_a0_trace : Value) (u_a0_text : Value) (u_a0_typed : Value) (u_a0_next : Value) (u_a0_token : Value) (u_a0_place : Value) (u_a0_value : Value) (u_a0_fault : Value) (u_a0_slow : Value) (u_a0_deaf : Value) (u_a0_told : Value) (u_a0_kept : Value) (u_a0_isKept : Value) (u_a0_undos : Value) (u_a0_undoMany : Value) (u_a0_heardBy : Value) (u_a0_heardAt : Value) (u_a0_heardMany : Value) (u_a0_tellsAt : Value) (u_a0_tellMany : Value) (u_a0_z : Value) (m_a0_lengths : Nat → Int32) (m_a0_many : Nat → Int32) (m_a0_metAt : Nat → Int32) (m_a0_metBeat : Nat → Int32) (m_a0_round : Nat → Int32) (m_a0_s : Nat → Int32) (m_a0_w : Nat → Int32) : va_W := [(q_a0, .inr (12, [.int v_a0_thrown, u_a0_trace, u_a0_text, u_a0_typed, u_a0_next, u_a0_token, u_a0_place, u_a0_value, u_a0_fault, .ref q_a0_many, u_a0_slow, u_a0_deaf, .ref q_a0_lengths, u_a0_told, .ref q_a0_s, .ref q_a0_w, u_a0_kept, u_a0_isKept, u_a0_undos, u_a0_undoMany, u_a0_heardBy, u_a0_heardAt, u_a0_heardMany, u_a0_tellsAt, u_a0_tellMany, .ref q_a0_metAt, .ref q_a0_metBeat, .ref q_a0_round, u_a0_z])), (q_a0_lengths, .inl (G.2 0, 72, .inl m_a0_lengths)), (q_a0_many, .inl (G.2 0, 6, .inl m_a0_many)), (q_a0_metAt, .inl (G.2 0, 6, .inl m_a0_metAt)), (q_a0_metBeat, .inl (G.2 0, 6, .inl m_a0_metBeat)), (q_a0_round, .inl (G.2 0, 3, .inl m_a0_round)), (q_a0_s, .inl (G.2 0, 35, .inl m_a0_s)), (q_a0_w, .inl (G.2 0, 35, .inl m_a0_w))]
def kX12_fastest : KT := (yX12_fastest, cX12_fastest, 5, (some .int), 4, 0, 0)
theorem kX12_fastest_r : kr kX12_fastest = (some .int) ∧ kmc kX12_fastest = 0 ∧ kms kX12_fastest = 0 := ⟨rfl, rfl, rfl⟩
theorem kX12_fastest_p : plainName (ky kX12_fastest).cls = true := by decide +kernel
def fX12_fastest_95 (B15 : Int32 → Int32 → Int32 → Int32 → (Nat → Int32) → (Nat → Int32) → (Nat → Int32) → (Nat → Int32) → Option (Int32 × Int32 × (Nat → Int32) × (Nat → Int32) × (Nat → Int32) × (Nat → Int32))) (l1 : Int32) (l2 : Int32) (l3 : Int32) (l4 : Int32) (m_a0_metAt : Nat → Int32) (m_a0_metBeat : Nat → Int32) (m_a0_round : Nat → Int32) (m_a0_w : Nat → Int32) : Option (Int32 × Int32 × (Nat → Int32) × (Nat → Int32) × (Nat → Int32) × (Nat → Int32)) :=
  B15 l1 l2 l3 (l4 + (1 : Int32)) m_a0_metAt m_a0_metBeat m_a0_round m_a0_w
def fX12_fastest_78 (B15 : Int32 → Int32 → Int32 → Int32 → (Nat → Int32) → (Nat → Int32) → (Nat → Int32) → (Nat → Int32) → Option (Int32 × Int32 × (Nat → Int32) × (Nat → Int32) × (Nat → Int32) × (Nat → Int32))) (l4 : Int32) (m_a0_metAt : Nat → Int32) (m_a0_metBeat : Nat → Int32) (m_a0_round : Nat → Int32) (m_a0_w : Nat → Int32) : Option (Int32 × Int32 × (Nat → Int32) × (Nat → Int32) × (Nat → Int32) × (Nat → Int32)) :=
  lti (m_a0_round 2) fun y87 =>
  lti (m_a0_round 1) fun y94 =>
  fX12_fastest_95 B15 l4 y87 y94 l4 m_a0_metAt m_a0_metBeat m_a0_round m_a0_w
def fX12_fastest_15 (B15 : Int32 → Int32 → Int32 → Int32 → (Nat → Int32) → (Nat → Int32) → (Nat → Int32) → (Nat → Int32) → Option (Int32 × Int32 × (Nat → Int32) × (Nat → Int32) × (Nat → Int32) × (Nat → Int32))) (K15_101 : Int32 → (Nat → Int32) → (Nat → Int32) → (Nat → Int32) → (Nat → Int32) → Option (Int32 × Int32 × (Nat → Int32) × (Nat → Int32) × (Nat → Int32) × (Nat → Int32))) (N : Nat) (l1 : Int32) (l2 : Int32) (l3 : Int32) (l4 : Int32) (m_a0_lengths : Nat → Int32) (m_a0_many : Nat → Int32) (m_a0_metAt : Nat → Int32) (m_a0_metBeat : Nat → Int32) (m_a0_round : Nat → Int32) (m_a0_s : Nat → Int32) (m_a0_w : Nat → Int32) : Option (Int32 × Int32 × (Nat → Int32) × (Nat → Int32) × (Nat → Int32) × (Nat → Int32)) :=
  if (m_a0_many 0) ≤ l4 then (K15_101 l1 m_a0_metAt m_a0_metBeat m_a0_round m_a0_w)
  else (Option.bind (fX12_asNow N m_a0_s m_a0_w) fun o27 =>
  lti (upd o27 2 l4) fun g37 =>
  Option.bind (fX12_isRound N m_a0_lengths m_a0_many m_a0_metAt m_a0_metBeat g37 m_a0_round) fun o47 =>
  if o47.1 = 0 then (fX12_fastest_95 B15 l1 l2 l3 l4 o47.2.1 o47.2.2.1 o47.2.2.2.2 o47.2.2.2.1)
  else (if l1 = (-9 : Int32) then (fX12_fastest_78 B15 l4 o47.2.1 o47.2.2.1 o47.2.2.2.2 o47.2.2.2.1)
  else (if (l2 * (o47.2.2.2.2 1)) ≤ ((o47.2.2.2.2 2) * l3) then (fX12_fastest_95 B15 l1 l2 l3 l4 o47.2.1 o47.2.2.1 o47.2.2.2.2 o47.2.2.2.1)
  else (fX12_fastest_78 B15 l4 o47.2.1 o47.2.2.1 o47.2.2.2.2 o47.2.2.2.1))))
def fX12_fastest_L15 (N : Nat) (m_a0_lengths : Nat → Int32) (m_a0_many : Nat → Int32) (m_a0_s : Nat → Int32) (K15_101 : Int32 → (Nat → Int32) → (Nat → Int32) → (Nat → Int32) → (Nat → Int32) → Option (Int32 × Int32 × (Nat → Int32) × (Nat → Int32) × (Nat → Int32) × (Nat → Int32))) : Nat → Int32 → Int32 → Int32 → Int32 → (Nat → Int32) → (Nat → Int32) → (Nat → Int32) → (Nat → Int32) → Option (Int32 × Int32 × (Nat → Int32) × (Nat → Int32) × (Nat → Int32) × (Nat → Int32))
  | 0, _, _, _, _, _, _, _, _ => none
  | n + 1, l1, l2, l3, l4, m_a0_metAt, m_a0_metBeat, m_a0_round, m_a0_w => fX12_fastest_15 (fX12_fastest_L15 N m_a0_lengths m_a0_many m_a0_s K15_101 n) K15_101 N l1 l2 l3 l4 m_a0_lengths m_a0_many m_a0_metAt m_a0_metBeat m_a0_round m_a0_s m_a0_w
def fX12_fastest (N : Nat) (m_a0_lengths : Nat → Int32) (m_a0_many : Nat → Int32) (m_a0_metAt : Nat → Int32) (m_a0_metBeat : Nat → Int32) (m_a0_round : Nat → Int32) (m_a0_s : Nat → Int32) (m_a0_w : Nat → Int32) : Option (Int32 × Int32 × (Nat → Int32) × (Nat → Int32) × (Nat → Int32) × (Nat → Int32)) :=
  fX12_fastest_L15 N m_a0_lengths m_a0_many m_a0_s
      (fun l1k15_101 m_a0_metAtk15_101 m_a0_metBeatk15_101 m_a0_roundk15_101 m_a0_wk15_101 => some (l1k15_101, (0 : Int32), m_a0_metAtk15_101, m_a0_metBeatk15_101, m_a0_roundk15_101, m_a0_wk15_101)) N (-9 : Int32) (0 : Int32) (1 : Int32) (0 : Int32) m_a0_metAt m_a0_metBeat m_a0_round m_a0_w
section
variable {X : XT} {N : Nat} {q_a0 : Nat} {q_a0_lengths : Nat} {q_a0_many : Nat} {q_a0_metAt : Nat} {q_a0_metBeat : Nat} {q_a0_round : Nat} {q_a0_s : Nat} {q_a0_w : Nat} {v_a0_thrown : Int32} {u_a0_trace : Value} {u_a0_text : Value} {u_a0_typed : Value} {u_a0_next : Value} {u_a0_token : Value} {u_a0_place : Value} {u_a0_value : Value} {u_a0_fault : Value} {u_a0_slow : Value} {u_a0_deaf : Value} {u_a0_told : Value} {u_a0_kept : Value} {u_a0_isKept : Value} {u_a0_undos : Value} {u_a0_undoMany : Value} {u_a0_heardBy : Value} {u_a0_heardAt : Value} {u_a0_heardMany : Value} {u_a0_tellsAt : Value} {u_a0_tellMany : Value} {u_a0_z : Value} {m_a0_lengths : Nat → Int32} {m_a0_many : Nat → Int32} {m_a0_metAt : Nat → Int32} {m_a0_metBeat : Nat → Int32} {m_a0_round : Nat → Int32} {m_a0_s : Nat → Int32} {m_a0_w : Nat → Int32} {l1 : Int32} {l2 : Int32} {l3 : Int32} {l4 : Int32}
set_option maxRecDepth 20000 in
theorem tX12_fastest_95 {out : Int32 × Int32 × (Nat → Int32) × (Nat → Int32) × (Nat → Int32) × (Nat → Int32)} (hX : xk X = kX12_fastest) (hQ : xQ X = qE (some (.int out.1)) (wX12_fastest (xG X) q_a0 q_a0_lengths q_a0_many q_a0_metAt q_a0_metBeat q_a0_round q_a0_s q_a0_w out.2.1 u_a0_trace u_a0_text u_a0_typed u_a0_next u_a0_token u_a0_place u_a0_value u_a0_fault u_a0_slow u_a0_deaf u_a0_told u_a0_kept u_a0_isKept u_a0_undos u_a0_undoMany u_a0_heardBy u_a0_heardAt u_a0_heardMany u_a0_tellsAt u_a0_tellMany u_a0_z m_a0_lengths m_a0_many out.2.2.1 out.2.2.2.1 out.2.2.2.2.1 m_a0_s out.2.2.2.2.2)) {B15 : Int32 → Int32 → Int32 → Int32 → (Nat → Int32) → (Nat → Int32) → (Nat → Int32) → (Nat → Int32) → Option (Int32 × Int32 × (Nat → Int32) × (Nat → Int32) × (Nat → Int32) × (Nat → Int32))} (hB15 : ∀ (l1 : Int32) (l2 : Int32) (l3 : Int32) (l4 : Int32) (m_a0_metAt : Nat → Int32) (m_a0_metBeat : Nat → Int32) (m_a0_round : Nat → Int32) (m_a0_w : Nat → Int32), B15 l1 l2 l3 l4 m_a0_metAt m_a0_metBeat m_a0_round m_a0_w = some out → V X cX12_fastest "FarDrumModel" 0 0 (wX12_fastest (xG X) q_a0 q_a0_lengths q_a0_many q_a0_metAt q_a0_metBeat q_a0_round q_a0_s q_a0_w v_a0_thrown u_a0_trace u_a0_text u_a0_typed u_a0_next u_a0_token u_a0_place u_a0_value u_a0_fault u_a0_slow u_a0_deaf u_a0_told u_a0_kept u_a0_isKept u_a0_undos u_a0_undoMany u_a0_heardBy u_a0_heardAt u_a0_heardMany u_a0_tellsAt u_a0_tellMany u_a0_z m_a0_lengths m_a0_many m_a0_metAt m_a0_metBeat m_a0_round m_a0_s m_a0_w) [some (.ref q_a0), some (.int l1), some (.int l2), some (.int l3), some (.int l4)] 15 []) (hf : fX12_fastest_95 B15 l1 l2 l3 l4 m_a0_metAt m_a0_metBeat m_a0_round m_a0_w = some out) : V X cX12_fastest "FarDrumModel" 0 0 (wX12_fastest (xG X) q_a0 q_a0_lengths q_a0_many q_a0_metAt q_a0_metBeat q_a0_round q_a0_s q_a0_w v_a0_thrown u_a0_trace u_a0_text u_a0_typed u_a0_next u_a0_token u_a0_place u_a0_value u_a0_fault u_a0_slow u_a0_deaf u_a0_told u_a0_kept u_a0_isKept u_a0_undos u_a0_undoMany u_a0_heardBy u_a0_heardAt u_a0_heardMany u_a0_tellsAt u_a0_tellMany u_a0_z m_a0_lengths m_a0_many m_a0_metAt m_a0_metBeat m_a0_round m_a0_s m_a0_w) [some (.ref q_a0), some (.int l1), some (.int l2), some (.int l3), some (.int l4)] 95 [] := by
  unfold fX12_fastest_95 at hf
  refine V.iinc (pc := 95) (v := 1) dX12_fastest_95 rfl rfl (by decide) rfl ?_
  refine V.goto (pc := 98) (tgt := 15) dX12_fastest_98 (by decide) ?_
  exact hB15 _ _ _ _ _ _ _ _ hf
set_option maxRecDepth 20000 in
theorem tX12_fastest_78 {out : Int32 × Int32 × (Nat → Int32) × (Nat → Int32) × (Nat → Int32) × (Nat → Int32)} (hX : xk X = kX12_fastest) (hQ : xQ X = qE (some (.int out.1)) (wX12_fastest (xG X) q_a0 q_a0_lengths q_a0_many q_a0_metAt q_a0_metBeat q_a0_round q_a0_s q_a0_w out.2.1 u_a0_trace u_a0_text u_a0_typed u_a0_next u_a0_token u_a0_place u_a0_value u_a0_fault u_a0_slow u_a0_deaf u_a0_told u_a0_kept u_a0_isKept u_a0_undos u_a0_undoMany u_a0_heardBy u_a0_heardAt u_a0_heardMany u_a0_tellsAt u_a0_tellMany u_a0_z m_a0_lengths m_a0_many out.2.2.1 out.2.2.2.1 out.2.2.2.2.1 m_a0_s out.2.2.2.2.2)) {B15 : Int32 → Int32 → Int32 → Int32 → (Nat → Int32) → (Nat → Int32) → (Nat → Int32) → (Nat → Int32) → Option (Int32 × Int32 × (Nat → Int32) × (Nat → Int32) × (Nat → Int32) × (Nat → Int32))} (hB15 : ∀ (l1 : Int32) (l2 : Int32) (l3 : Int32) (l4 : Int32) (m_a0_metAt : Nat → Int32) (m_a0_metBeat : Nat → Int32) (m_a0_round : Nat → Int32) (m_a0_w : Nat → Int32), B15 l1 l2 l3 l4 m_a0_metAt m_a0_metBeat m_a0_round m_a0_w = some out → V X cX12_fastest "FarDrumModel" 0 0 (wX12_fastest (xG X) q_a0 q_a0_lengths q_a0_many q_a0_metAt q_a0_metBeat q_a0_round q_a0_s q_a0_w v_a0_thrown u_a0_trace u_a0_text u_a0_typed u_a0_next u_a0_token u_a0_place u_a0_value u_a0_fault u_a0_slow u_a0_deaf u_a0_told u_a0_kept u_a0_isKept u_a0_undos u_a0_undoMany u_a0_heardBy u_a0_heardAt u_a0_heardMany u_a0_tellsAt u_a0_tellMany u_a0_z m_a0_lengths m_a0_many m_a0_metAt m_a0_metBeat m_a0_round m_a0_s m_a0_w) [some (.ref q_a0), some (.int l1), some (.int l2), some (.int l3), some (.int l4)] 15 []) (hf : fX12_fastest_78 B15 l4 m_a0_metAt m_a0_metBeat m_a0_round m_a0_w = some out) : V X cX12_fastest "FarDrumModel" 0 0 (wX12_fastest (xG X) q_a0 q_a0_lengths q_a0_many q_a0_metAt q_a0_metBeat q_a0_round q_a0_s q_a0_w v_a0_thrown u_a0_trace u_a0_text u_a0_typed u_a0_next u_a0_token u_a0_place u_a0_value u_a0_fault u_a0_slow u_a0_deaf u_a0_told u_a0_kept u_a0_isKept u_a0_undos u_a0_undoMany u_a0_heardBy u_a0_heardAt u_a0_heardMany u_a0_tellsAt u_a0_tellMany u_a0_z m_a0_lengths m_a0_many m_a0_metAt m_a0_metBeat m_a0_round m_a0_s m_a0_w) [some (.ref q_a0), none, none, none, some (.int l4)] 78 [] := by
  unfold fX12_fastest_78 at hf
  refine V.iload (pc := 78) dX12_fastest_78 rfl ?_
  refine V.istoren (pc := 80) dX12_fastest_80 rfl rfl rfl ?_
  refine V.aloadn (pc := 81) dX12_fastest_81 rfl ?_
  refine V.getf (q := 0) (pc := 82) dX12_fastest_82 fk_X12_56_12 rfl rfl ?_
  refine V.iconst (pc := 85) (v := 2) dX12_fastest_85 (by decide) ?_
  refine V.ialdC (pc := 86) (q := 5) 2 dX12_fastest_86 rfl ⟨vp_c (by decide), by decide⟩ ?_
  refine V.topi hf (fun y87 hf => ?_)
  refine V.istoren (pc := 87) dX12_fastest_87 rfl rfl rfl ?_
  refine V.aloadn (pc := 88) dX12_fastest_88 rfl ?_
  refine V.getf (q := 0) (pc := 89) dX12_fastest_89 fk_X12_56_12 rfl rfl ?_
  refine V.iconst (pc := 92) (v := 1) dX12_fastest_92 (by decide) ?_
  refine V.ialdC (pc := 93) (q := 5) 1 dX12_fastest_93 rfl ⟨vp_c (by decide), by decide⟩ ?_
  refine V.topi hf (fun y94 hf => ?_)
  refine V.istoren (pc := 94) dX12_fastest_94 rfl rfl rfl ?_
  exact tX12_fastest_95 hX hQ hB15 hf
set_option maxRecDepth 20000 in
theorem tX12_fastest_15 {out : Int32 × Int32 × (Nat → Int32) × (Nat → Int32) × (Nat → Int32) × (Nat → Int32)} (hX : xk X = kX12_fastest) (hQ : xQ X = qE (some (.int out.1)) (wX12_fastest (xG X) q_a0 q_a0_lengths q_a0_many q_a0_metAt q_a0_metBeat q_a0_round q_a0_s q_a0_w out.2.1 u_a0_trace u_a0_text u_a0_typed u_a0_next u_a0_token u_a0_place u_a0_value u_a0_fault u_a0_slow u_a0_deaf u_a0_told u_a0_kept u_a0_isKept u_a0_undos u_a0_undoMany u_a0_heardBy u_a0_heardAt u_a0_heardMany u_a0_tellsAt u_a0_tellMany u_a0_z m_a0_lengths m_a0_many out.2.2.1 out.2.2.2.1 out.2.2.2.2.1 m_a0_s out.2.2.2.2.2)) {B15 : Int32 → Int32 → Int32 → Int32 → (Nat → Int32) → (Nat → Int32) → (Nat → Int32) → (Nat → Int32) → Option (Int32 × Int32 × (Nat → Int32) × (Nat → Int32) × (Nat → Int32) × (Nat → Int32))} {K15_101 : Int32 → (Nat → Int32) → (Nat → Int32) → (Nat → Int32) → (Nat → Int32) → Option (Int32 × Int32 × (Nat → Int32) × (Nat → Int32) × (Nat → Int32) × (Nat → Int32))} (hB15 : ∀ (l1 : Int32) (l2 : Int32) (l3 : Int32) (l4 : Int32) (m_a0_metAt : Nat → Int32) (m_a0_metBeat : Nat → Int32) (m_a0_round : Nat → Int32) (m_a0_w : Nat → Int32), B15 l1 l2 l3 l4 m_a0_metAt m_a0_metBeat m_a0_round m_a0_w = some out → V X cX12_fastest "FarDrumModel" 0 0 (wX12_fastest (xG X) q_a0 q_a0_lengths q_a0_many q_a0_metAt q_a0_metBeat q_a0_round q_a0_s q_a0_w v_a0_thrown u_a0_trace u_a0_text u_a0_typed u_a0_next u_a0_token u_a0_place u_a0_value u_a0_fault u_a0_slow u_a0_deaf u_a0_told u_a0_kept u_a0_isKept u_a0_undos u_a0_undoMany u_a0_heardBy u_a0_heardAt u_a0_heardMany u_a0_tellsAt u_a0_tellMany u_a0_z m_a0_lengths m_a0_many m_a0_metAt m_a0_metBeat m_a0_round m_a0_s m_a0_w) [some (.ref q_a0), some (.int l1), some (.int l2), some (.int l3), some (.int l4)] 15 []) (hK15_101 : ∀ (l1 : Int32) (m_a0_metAt : Nat → Int32) (m_a0_metBeat : Nat → Int32) (m_a0_round : Nat → Int32) (m_a0_w : Nat → Int32), K15_101 l1 m_a0_metAt m_a0_metBeat m_a0_round m_a0_w = some out → V X cX12_fastest "FarDrumModel" 0 0 (wX12_fastest (xG X) q_a0 q_a0_lengths q_a0_many q_a0_metAt q_a0_metBeat q_a0_round q_a0_s q_a0_w v_a0_thrown u_a0_trace u_a0_text u_a0_typed u_a0_next u_a0_token u_a0_place u_a0_value u_a0_fault u_a0_slow u_a0_deaf u_a0_told u_a0_kept u_a0_isKept u_a0_undos u_a0_undoMany u_a0_heardBy u_a0_heardAt u_a0_heardMany u_a0_tellsAt u_a0_tellMany u_a0_z m_a0_lengths m_a0_many m_a0_metAt m_a0_metBeat m_a0_round m_a0_s m_a0_w) [none, some (.int l1), none, none, none] 101 []) (hf : fX12_fastest_15 B15 K15_101 N l1 l2 l3 l4 m_a0_lengths m_a0_many m_a0_metAt m_a0_metBeat m_a0_round m_a0_s m_a0_w = some out) : V X cX12_fastest "FarDrumModel" 0 0 (wX12_fastest (xG X) q_a0 q_a0_lengths q_a0_many q_a0_metAt q_a0_metBeat q_a0_round q_a0_s q_a0_w v_a0_thrown u_a0_trace u_a0_text u_a0_typed u_a0_next u_a0_token u_a0_place u_a0_value u_a0_fault u_a0_slow u_a0_deaf u_a0_told u_a0_kept u_a0_isKept u_a0_undos u_a0_undoMany u_a0_heardBy u_a0_heardAt u_a0_heardMany u_a0_tellsAt u_a0_tellMany u_a0_z m_a0_lengths m_a0_many m_a0_metAt m_a0_metBeat m_a0_round m_a0_s m_a0_w) [some (.ref q_a0), some (.int l1), some (.int l2), some (.int l3), some (.int l4)] 15 [] := by
  unfold fX12_fastest_15 at hf
  refine V.iload (pc := 15) dX12_fastest_15 rfl ?_
  refine V.aloadn (pc := 17) dX12_fastest_17 rfl ?_
  refine V.getf (q := 0) (pc := 18) dX12_fastest_18 fk_X12_13_12 rfl rfl ?_
  refine V.iconst (pc := 21) (v := 0) dX12_fastest_21 (by decide) ?_
  refine V.ialdC (pc := 22) (q := 2) 0 dX12_fastest_22 rfl ⟨vp_c (by decide), by decide⟩ ?_
  refine V.icmp_ge (pc := 23) (tgt := 101) dX12_fastest_23 (by decide) hf (fun hf => ?_) (fun hf => ?_)
  · refine V.mask (pc := 101) [false, true, false, false, false] rfl rfl ?_
    exact hK15_101 _ _ _ _ _ hf
  · refine V.aloadn (pc := 26) dX12_fastest_26 rfl ?_
    refine V.callVv (pc := 27) (q := 0) (wr := [(q_a0_lengths, .inl ((xG X).2 0, 72, .inl m_a0_lengths)), (q_a0_many, .inl ((xG X).2 0, 6, .inl m_a0_many)), (q_a0_metAt, .inl ((xG X).2 0, 6, .inl m_a0_metAt)), (q_a0_metBeat, .inl ((xG X).2 0, 6, .inl m_a0_metBeat)), (q_a0_round, .inl ((xG X).2 0, 3, .inl m_a0_round))]) (wd' := fun o27 => wX12_fastest (xG X) q_a0 q_a0_lengths q_a0_many q_a0_metAt q_a0_metBeat q_a0_round q_a0_s q_a0_w v_a0_thrown u_a0_trace u_a0_text u_a0_typed u_a0_next u_a0_token u_a0_place u_a0_value u_a0_fault u_a0_slow u_a0_deaf u_a0_told u_a0_kept u_a0_isKept u_a0_undos u_a0_undoMany u_a0_heardBy u_a0_heardAt u_a0_heardMany u_a0_tellsAt u_a0_tellMany u_a0_z m_a0_lengths m_a0_many m_a0_metAt m_a0_metBeat m_a0_round m_a0_s o27) [] (st := []) hf (fun _ h => oX12_asNow (q_a0 := q_a0) (q_a0_s := q_a0_s) (q_a0_w := q_a0_w) (u_a0_thrown := ((.int v_a0_thrown))) (u_a0_trace := u_a0_trace) (u_a0_text := u_a0_text) (u_a0_typed := u_a0_typed) (u_a0_next := u_a0_next) (u_a0_token := u_a0_token) (u_a0_place := u_a0_place) (u_a0_value := u_a0_value) (u_a0_fault := u_a0_fault) (u_a0_many := ((.ref q_a0_many))) (u_a0_slow := u_a0_slow) (u_a0_deaf := u_a0_deaf) (u_a0_lengths := ((.ref q_a0_lengths))) (u_a0_told := u_a0_told) (u_a0_kept := u_a0_kept) (u_a0_isKept := u_a0_isKept) (u_a0_undos := u_a0_undos) (u_a0_undoMany := u_a0_undoMany) (u_a0_heardBy := u_a0_heardBy) (u_a0_heardAt := u_a0_heardAt) (u_a0_heardMany := u_a0_heardMany) (u_a0_tellsAt := u_a0_tellsAt) (u_a0_tellMany := u_a0_tellMany) (u_a0_metAt := ((.ref q_a0_metAt))) (u_a0_metBeat := ((.ref q_a0_metBeat))) (u_a0_round := ((.ref q_a0_round))) (u_a0_z := u_a0_z) (m_a0_s := m_a0_s) (m_a0_w := m_a0_w) h) lkV_X12_148 dX12_fastest_27 hX rfl ⟨rfl, rfl⟩ ⟨rfl, rfl⟩ rfl rfl rfl rfl rfl [0, 6, 7] [1, 2, 3, 4, 5] [5, 0, 1, 2, 3, 4, 6, 7] rfl rfl rfl rfl rfl (fun _ => rfl) rfl (fun o27 hf => ?_)
    refine V.aloadn (pc := 30) dX12_fastest_30 rfl ?_
    refine V.getf (q := 0) (pc := 31) dX12_fastest_31 fk_X12_28_12 rfl rfl ?_
    refine V.iconst (pc := 34) (v := 2) dX12_fastest_34 (by decide) ?_
    refine V.iload (pc := 35) dX12_fastest_35 rfl ?_
    refine V.iastC (pc := 37) (q := 7) (wd' := fun g37 => wX12_fastest (xG X) q_a0 q_a0_lengths q_a0_many q_a0_metAt q_a0_metBeat q_a0_round q_a0_s q_a0_w v_a0_thrown u_a0_trace u_a0_text u_a0_typed u_a0_next u_a0_token u_a0_place u_a0_value u_a0_fault u_a0_slow u_a0_deaf u_a0_told u_a0_kept u_a0_isKept u_a0_undos u_a0_undoMany u_a0_heardBy u_a0_heardAt u_a0_heardMany u_a0_tellsAt u_a0_tellMany u_a0_z m_a0_lengths m_a0_many m_a0_metAt m_a0_metBeat m_a0_round m_a0_s g37) 2 dX12_fastest_37 rfl ⟨vp_c (by decide), by decide⟩ hf (fun _ => rfl) (fun g37 hf => ?_)
    refine V.aloadn (pc := 38) dX12_fastest_38 rfl ?_
    refine V.aloadn (pc := 39) dX12_fastest_39 rfl ?_
    refine V.getf (q := 0) (pc := 40) dX12_fastest_40 fk_X12_28_12 rfl rfl ?_
    refine V.aloadn (pc := 43) dX12_fastest_43 rfl ?_
    refine V.getf (q := 0) (pc := 44) dX12_fastest_44 fk_X12_56_12 rfl rfl ?_
    refine V.callVi (pc := 47) (q := 0) (wr := [(q_a0_s, .inl ((xG X).2 0, 35, .inl m_a0_s))]) (wd' := fun o47 => wX12_fastest (xG X) q_a0 q_a0_lengths q_a0_many q_a0_metAt q_a0_metBeat q_a0_round q_a0_s q_a0_w v_a0_thrown u_a0_trace u_a0_text u_a0_typed u_a0_next u_a0_token u_a0_place u_a0_value u_a0_fault u_a0_slow u_a0_deaf u_a0_told u_a0_kept u_a0_isKept u_a0_undos u_a0_undoMany u_a0_heardBy u_a0_heardAt u_a0_heardMany u_a0_tellsAt u_a0_tellMany u_a0_z m_a0_lengths m_a0_many o47.2.1 o47.2.2.1 o47.2.2.2.2 m_a0_s o47.2.2.2.1) [.ref q_a0_w, .ref q_a0_round] (st := []) hf (fun _ h => oX12_isRound (q_a0 := q_a0) (q_a0_lengths := q_a0_lengths) (q_a0_many := q_a0_many) (q_a0_metAt := q_a0_metAt) (q_a0_metBeat := q_a0_metBeat) (q_a1 := q_a0_w) (q_a2 := q_a0_round) (u_a0_thrown := ((.int v_a0_thrown))) (u_a0_trace := u_a0_trace) (u_a0_text := u_a0_text) (u_a0_typed := u_a0_typed) (u_a0_next := u_a0_next) (u_a0_token := u_a0_token) (u_a0_place := u_a0_place) (u_a0_value := u_a0_value) (u_a0_fault := u_a0_fault) (u_a0_slow := u_a0_slow) (u_a0_deaf := u_a0_deaf) (u_a0_told := u_a0_told) (u_a0_s := ((.ref q_a0_s))) (u_a0_w := ((.ref q_a0_w))) (u_a0_kept := u_a0_kept) (u_a0_isKept := u_a0_isKept) (u_a0_undos := u_a0_undos) (u_a0_undoMany := u_a0_undoMany) (u_a0_heardBy := u_a0_heardBy) (u_a0_heardAt := u_a0_heardAt) (u_a0_heardMany := u_a0_heardMany) (u_a0_tellsAt := u_a0_tellsAt) (u_a0_tellMany := u_a0_tellMany) (u_a0_round := ((.ref q_a0_round))) (u_a0_z := u_a0_z) (m_a0_lengths := m_a0_lengths) (m_a0_many := m_a0_many) (m_a0_metAt := m_a0_metAt) (m_a0_metBeat := m_a0_metBeat) (m_a1 := g37) (m_a2 := m_a0_round) h) lkV_X12_166 dX12_fastest_47 hX rfl ⟨rfl, rfl⟩ ⟨rfl, rfl⟩ rfl rfl rfl rfl rfl [0, 1, 2, 3, 4, 7, 5] [6] [1, 2, 3, 4, 5, 7, 0, 6] rfl rfl rfl rfl rfl (fun _ => rfl) rfl (fun o47 hf => ?_)
    refine V.if_eq (pc := 50) (tgt := 95) dX12_fastest_50 (by decide) hf (fun hf => ?_) (fun hf => ?_)
    · exact tX12_fastest_95 hX hQ hB15 hf
    · refine V.iloadn (pc := 53) dX12_fastest_53 rfl ?_
      refine V.bipush (pc := 54) (v := -9) dX12_fastest_54 (by decide) ?_
      refine V.icmp_eq (pc := 56) (tgt := 78) dX12_fastest_56 (by decide) hf (fun hf => ?_) (fun hf => ?_)
      · refine V.mask (pc := 78) [true, false, false, false, true] rfl rfl ?_
        exact tX12_fastest_78 hX hQ hB15 hf
      · refine V.aloadn (pc := 59) dX12_fastest_59 rfl ?_
        refine V.getf (q := 0) (pc := 60) dX12_fastest_60 fk_X12_56_12 rfl rfl ?_
        refine V.iconst (pc := 63) (v := 2) dX12_fastest_63 (by decide) ?_
        refine V.ialdC (pc := 64) (q := 5) 2 dX12_fastest_64 rfl ⟨vp_c (by decide), by decide⟩ ?_
        refine V.iloadn (pc := 65) dX12_fastest_65 rfl ?_
        refine V.imul (pc := 66) dX12_fastest_66 ?_
        refine V.iloadn (pc := 67) dX12_fastest_67 rfl ?_
        refine V.aloadn (pc := 68) dX12_fastest_68 rfl ?_
        refine V.getf (q := 0) (pc := 69) dX12_fastest_69 fk_X12_56_12 rfl rfl ?_
        refine V.iconst (pc := 72) (v := 1) dX12_fastest_72 (by decide) ?_
        refine V.ialdC (pc := 73) (q := 5) 1 dX12_fastest_73 rfl ⟨vp_c (by decide), by decide⟩ ?_
        refine V.imul (pc := 74) dX12_fastest_74 ?_
        refine V.icmp_ge (pc := 75) (tgt := 95) dX12_fastest_75 (by decide) hf (fun hf => ?_) (fun hf => ?_)
        · exact tX12_fastest_95 hX hQ hB15 hf
        · refine V.mask (pc := 78) [true, false, false, false, true] rfl rfl ?_
          exact tX12_fastest_78 hX hQ hB15 hf
theorem tX12_fastest_L15 {out : Int32 × Int32 × (Nat → Int32) × (Nat → Int32) × (Nat → Int32) × (Nat → Int32)} (hX : xk X = kX12_fastest) (hQ : xQ X = qE (some (.int out.1)) (wX12_fastest (xG X) q_a0 q_a0_lengths q_a0_many q_a0_metAt q_a0_metBeat q_a0_round q_a0_s q_a0_w out.2.1 u_a0_trace u_a0_text u_a0_typed u_a0_next u_a0_token u_a0_place u_a0_value u_a0_fault u_a0_slow u_a0_deaf u_a0_told u_a0_kept u_a0_isKept u_a0_undos u_a0_undoMany u_a0_heardBy u_a0_heardAt u_a0_heardMany u_a0_tellsAt u_a0_tellMany u_a0_z m_a0_lengths m_a0_many out.2.2.1 out.2.2.2.1 out.2.2.2.2.1 m_a0_s out.2.2.2.2.2)) {K15_101 : Int32 → (Nat → Int32) → (Nat → Int32) → (Nat → Int32) → (Nat → Int32) → Option (Int32 × Int32 × (Nat → Int32) × (Nat → Int32) × (Nat → Int32) × (Nat → Int32))} (hK15_101 : ∀ (l1 : Int32) (m_a0_metAt : Nat → Int32) (m_a0_metBeat : Nat → Int32) (m_a0_round : Nat → Int32) (m_a0_w : Nat → Int32), K15_101 l1 m_a0_metAt m_a0_metBeat m_a0_round m_a0_w = some out → V X cX12_fastest "FarDrumModel" 0 0 (wX12_fastest (xG X) q_a0 q_a0_lengths q_a0_many q_a0_metAt q_a0_metBeat q_a0_round q_a0_s q_a0_w v_a0_thrown u_a0_trace u_a0_text u_a0_typed u_a0_next u_a0_token u_a0_place u_a0_value u_a0_fault u_a0_slow u_a0_deaf u_a0_told u_a0_kept u_a0_isKept u_a0_undos u_a0_undoMany u_a0_heardBy u_a0_heardAt u_a0_heardMany u_a0_tellsAt u_a0_tellMany u_a0_z m_a0_lengths m_a0_many m_a0_metAt m_a0_metBeat m_a0_round m_a0_s m_a0_w) [none, some (.int l1), none, none, none] 101 []) : ∀ (n : Nat) (l1 : Int32) (l2 : Int32) (l3 : Int32) (l4 : Int32) (m_a0_metAt : Nat → Int32) (m_a0_metBeat : Nat → Int32) (m_a0_round : Nat → Int32) (m_a0_w : Nat → Int32), fX12_fastest_L15 N m_a0_lengths m_a0_many m_a0_s K15_101 n l1 l2 l3 l4 m_a0_metAt m_a0_metBeat m_a0_round m_a0_w = some out → V X cX12_fastest "FarDrumModel" 0 0 (wX12_fastest (xG X) q_a0 q_a0_lengths q_a0_many q_a0_metAt q_a0_metBeat q_a0_round q_a0_s q_a0_w v_a0_thrown u_a0_trace u_a0_text u_a0_typed u_a0_next u_a0_token u_a0_place u_a0_value u_a0_fault u_a0_slow u_a0_deaf u_a0_told u_a0_kept u_a0_isKept u_a0_undos u_a0_undoMany u_a0_heardBy u_a0_heardAt u_a0_heardMany u_a0_tellsAt u_a0_tellMany u_a0_z m_a0_lengths m_a0_many m_a0_metAt m_a0_metBeat m_a0_round m_a0_s m_a0_w) [some (.ref q_a0), some (.int l1), some (.int l2), some (.int l3), some (.int l4)] 15 [] := by
  intro n
  induction n with
  | zero => intro l1 l2 l3 l4 m_a0_metAt m_a0_metBeat m_a0_round m_a0_w hf; cases hf
  | succ n ih => intro l1 l2 l3 l4 m_a0_metAt m_a0_metBeat m_a0_round m_a0_w hf; exact tX12_fastest_15 hX hQ ih hK15_101 hf
set_option maxRecDepth 20000 in
theorem tX12_fastest_0 {out : Int32 × Int32 × (Nat → Int32) × (Nat → Int32) × (Nat → Int32) × (Nat → Int32)} (hX : xk X = kX12_fastest) (hQ : xQ X = qE (some (.int out.1)) (wX12_fastest (xG X) q_a0 q_a0_lengths q_a0_many q_a0_metAt q_a0_metBeat q_a0_round q_a0_s q_a0_w out.2.1 u_a0_trace u_a0_text u_a0_typed u_a0_next u_a0_token u_a0_place u_a0_value u_a0_fault u_a0_slow u_a0_deaf u_a0_told u_a0_kept u_a0_isKept u_a0_undos u_a0_undoMany u_a0_heardBy u_a0_heardAt u_a0_heardMany u_a0_tellsAt u_a0_tellMany u_a0_z m_a0_lengths m_a0_many out.2.2.1 out.2.2.2.1 out.2.2.2.2.1 m_a0_s out.2.2.2.2.2)) (hf : fX12_fastest N m_a0_lengths m_a0_many m_a0_metAt m_a0_metBeat m_a0_round m_a0_s m_a0_w = some out) : V X cX12_fastest "FarDrumModel" 0 0 (wX12_fastest (xG X) q_a0 q_a0_lengths q_a0_many q_a0_metAt q_a0_metBeat q_a0_round q_a0_s q_a0_w v_a0_thrown u_a0_trace u_a0_text u_a0_typed u_a0_next u_a0_token u_a0_place u_a0_value u_a0_fault u_a0_slow u_a0_deaf u_a0_told u_a0_kept u_a0_isKept u_a0_undos u_a0_undoMany u_a0_heardBy u_a0_heardAt u_a0_heardMany u_a0_tellsAt u_a0_tellMany u_a0_z m_a0_lengths m_a0_many m_a0_metAt m_a0_metBeat m_a0_round m_a0_s m_a0_w) [some (.ref q_a0), none, none, none, none] 0 [] := by
  unfold fX12_fastest at hf
  refine V.aloadn (pc := 0) dX12_fastest_0 rfl ?_
  refine V.iconst (pc := 1) (v := 0) dX12_fastest_1 (by decide) ?_
  refine V.putf (q := 0) (wd' := wX12_fastest (xG X) q_a0 q_a0_lengths q_a0_many q_a0_metAt q_a0_metBeat q_a0_round q_a0_s q_a0_w (0 : Int32) u_a0_trace u_a0_text u_a0_typed u_a0_next u_a0_token u_a0_place u_a0_value u_a0_fault u_a0_slow u_a0_deaf u_a0_told u_a0_kept u_a0_isKept u_a0_undos u_a0_undoMany u_a0_heardBy u_a0_heardAt u_a0_heardMany u_a0_tellsAt u_a0_tellMany u_a0_z m_a0_lengths m_a0_many m_a0_metAt m_a0_metBeat m_a0_round m_a0_s m_a0_w) (pc := 2) dX12_fastest_2 pk_X12_62_12 rfl rfl rfl rfl rfl ?_
  refine V.bipush (pc := 5) (v := -9) dX12_fastest_5 (by decide) ?_
  refine V.istoren (pc := 7) dX12_fastest_7 rfl rfl rfl ?_
  refine V.iconst (pc := 8) (v := 0) dX12_fastest_8 (by decide) ?_
  refine V.istoren (pc := 9) dX12_fastest_9 rfl rfl rfl ?_
  refine V.iconst (pc := 10) (v := 1) dX12_fastest_10 (by decide) ?_
  refine V.istoren (pc := 11) dX12_fastest_11 rfl rfl rfl ?_
  refine V.iconst (pc := 12) (v := 0) dX12_fastest_12 (by decide) ?_
  refine V.istore (pc := 13) dX12_fastest_13 rfl rfl rfl ?_
  refine tX12_fastest_L15 hX hQ ?_ _ _ _ _ _ _ _ _ _ hf
  · intro l1k15_101 m_a0_metAtk15_101 m_a0_metBeatk15_101 m_a0_roundk15_101 m_a0_wk15_101 hf
    refine V.iloadn (pc := 101) dX12_fastest_101 rfl ?_
    exact V.iretE (pc := 102) hX kX12_fastest_r hQ dX12_fastest_102 (by cases hf; rfl) (by cases hf; rfl)
end
theorem oX12_fastest {l : Launch} {G : GT} {N : Nat} {q_a0 : Nat} {q_a0_lengths : Nat} {q_a0_many : Nat} {q_a0_metAt : Nat} {q_a0_metBeat : Nat} {q_a0_round : Nat} {q_a0_s : Nat} {q_a0_w : Nat} {v_a0_thrown : Int32} {u_a0_trace : Value} {u_a0_text : Value} {u_a0_typed : Value} {u_a0_next : Value} {u_a0_token : Value} {u_a0_place : Value} {u_a0_value : Value} {u_a0_fault : Value} {u_a0_slow : Value} {u_a0_deaf : Value} {u_a0_told : Value} {u_a0_kept : Value} {u_a0_isKept : Value} {u_a0_undos : Value} {u_a0_undoMany : Value} {u_a0_heardBy : Value} {u_a0_heardAt : Value} {u_a0_heardMany : Value} {u_a0_tellsAt : Value} {u_a0_tellMany : Value} {u_a0_z : Value} {m_a0_lengths : Nat → Int32} {m_a0_many : Nat → Int32} {m_a0_metAt : Nat → Int32} {m_a0_metBeat : Nat → Int32} {m_a0_round : Nat → Int32} {m_a0_s : Nat → Int32} {m_a0_w : Nat → Int32} {out : Int32 × Int32 × (Nat → Int32) × (Nat → Int32) × (Nat → Int32) × (Nat → Int32)} (hf : fX12_fastest N m_a0_lengths m_a0_many m_a0_metAt m_a0_metBeat m_a0_round m_a0_s m_a0_w = some out) : Ct (l, G, kX12_fastest, wX12_fastest G q_a0 q_a0_lengths q_a0_many q_a0_metAt q_a0_metBeat q_a0_round q_a0_s q_a0_w v_a0_thrown u_a0_trace u_a0_text u_a0_typed u_a0_next u_a0_token u_a0_place u_a0_value u_a0_fault u_a0_slow u_a0_deaf u_a0_told u_a0_kept u_a0_isKept u_a0_undos u_a0_undoMany u_a0_heardBy u_a0_heardAt u_a0_heardMany u_a0_tellsAt u_a0_tellMany u_a0_z m_a0_lengths m_a0_many m_a0_metAt m_a0_metBeat m_a0_round m_a0_s m_a0_w, [.ref q_a0], qE (some (.int out.1)) (wX12_fastest G q_a0 q_a0_lengths q_a0_many q_a0_metAt q_a0_metBeat q_a0_round q_a0_s q_a0_w out.2.1 u_a0_trace u_a0_text u_a0_typed u_a0_next u_a0_token u_a0_place u_a0_value u_a0_fault u_a0_slow u_a0_deaf u_a0_told u_a0_kept u_a0_isKept u_a0_undos u_a0_undoMany u_a0_heardBy u_a0_heardAt u_a0_heardMany u_a0_tellsAt u_a0_tellMany u_a0_z m_a0_lengths m_a0_many out.2.2.1 out.2.2.2.1 out.2.2.2.2.1 m_a0_s out.2.2.2.2.2)) :=
  Ct.of [some (.ref q_a0), none, none, none, none] kX12_fastest_p rfl rfl rfl ((tX12_fastest_0 (X := (l, G, kX12_fastest, wX12_fastest G q_a0 q_a0_lengths q_a0_many q_a0_metAt q_a0_metBeat q_a0_round q_a0_s q_a0_w v_a0_thrown u_a0_trace u_a0_text u_a0_typed u_a0_next u_a0_token u_a0_place u_a0_value u_a0_fault u_a0_slow u_a0_deaf u_a0_told u_a0_kept u_a0_isKept u_a0_undos u_a0_undoMany u_a0_heardBy u_a0_heardAt u_a0_heardMany u_a0_tellsAt u_a0_tellMany u_a0_z m_a0_lengths m_a0_many m_a0_metAt m_a0_metBeat m_a0_round m_a0_s m_a0_w, [.ref q_a0], qE (some (.int out.1)) (wX12_fastest G q_a0 q_a0_lengths q_a0_many q_a0_metAt q_a0_metBeat q_a0_round q_a0_s q_a0_w out.2.1 u_a0_trace u_a0_text u_a0_typed u_a0_next u_a0_token u_a0_place u_a0_value u_a0_fault u_a0_slow u_a0_deaf u_a0_told u_a0_kept u_a0_isKept u_a0_undos u_a0_undoMany u_a0_heardBy u_a0_heardAt u_a0_heardMany u_a0_tellsAt u_a0_tellMany u_a0_z m_a0_lengths m_a0_many out.2.2.1 out.2.2.2.1 out.2.2.2.2.1 m_a0_s out.2.2.2.2.2))) rfl rfl hf))

theorem fk_X12_124_12 : Fk "FarDrumModel" 124 12 22 := ⟨RX12, TX12, 29, "FarDrumModel", rfl, inX12, by decide, kw_4_30, Or.inl rfl⟩
theorem fk_X12_41_12 : Fk "FarDrumModel" 41 12 20 := ⟨RX12, TX12, 29, "FarDrumModel", rfl, inX12, by decide, kw_4_28, Or.inl rfl⟩
theorem fk_X12_44_12 : Fk "FarDrumModel" 44 12 21 := ⟨RX12, TX12, 29, "FarDrumModel", rfl, inX12, by decide, kw_4_29, Or.inl rfl⟩
theorem pk_X12_124_12 : Pk "FarDrumModel" 124 12 22 .int false := ⟨RX12, TX12, 29, "FarDrumModel", tyX12, rfl, inX12, by decide, kw_4_30, Or.inl rfl, tyX12_ok, nmX12, rfl, by decide +kernel, fun h => by cases h⟩
def wX12_heard (G : GT) (q_a0 : Nat) (q_a0_heardAt : Nat) (q_a0_heardBy : Nat) (q_a0_many : Nat) (v_a0_thrown : Int32) (u_a0_trace : Value) (u_a0_text : Value) (u_a0_typed : Value) (u_a0_next : Value) (u_a0_token : Value) (u_a0_place : Value) (u_a0_value : Value) (u_a0_fault : Value) (u_a0_slow : Value) (u_a0_deaf : Value) (u_a0_lengths : Value) (u_a0_told : Value) (u_a0_s : Value) (u_a0_w : Value) (u_a0_kept : Value) (u_a0_isKept : Value) (u_a0_undos : Value) (u_a0_undoMany : Value) (v_a0_heardMany : Int32) (u_a0_tellsAt : Value) (u_a0_tellMany : Value) (u_a0_metAt : Value) (u_a0_metBeat : Value) (u_a0_round : Value) (u_a0_z : Value) (m_a0_heardAt : Nat → Int32) (m_a0_heardBy : Nat → Int32) (m_a0_many : Nat → Int32) : va_W := [(q_a0, .inr (12, [.int v_a0_thrown, u_a0_trace, u_a0_text, u_a0_typed, u_a0_next, u_a0_token, u_a0_place, u_a0_value, u_a0_fault, .ref q_a0_many, u_a0_slow, u_a0_deaf, u_a0_lengths, u_a0_told, u_a0_s, u_a0_w, u_a0_kept, u_a0_isKept, u_a0_undos, u_a0_undoMany, .ref q_a0_heardBy, .ref q_a0_heardAt, .int v_a0_heardMany, u_a0_tellsAt, u_a0_tellMany, u_a0_metAt, u_a0_metBeat, u_a0_round, u_a0_z])), (q_a0_heardAt, .inl (G.2 0, 5, .inl m_a0_heardAt)), (q_a0_heardBy, .inl (G.2 0, 5, .inl m_a0_heardBy)), (q_a0_many, .inl (G.2 0, 6, .inl m_a0_many))]
def kX12_heard : KT := (yX12_heard, cX12_heard, 3, (some .int), 2, 0, 0)
theorem kX12_heard_r : kr kX12_heard = (some .int) ∧ kmc kX12_heard = 0 ∧ kms kX12_heard = 0 := ⟨rfl, rfl, rfl⟩
theorem kX12_heard_p : plainName (ky kX12_heard).cls = true := by decide +kernel
def fX12_heard_24 (v_a0_thrown : Int32) (v_a0_heardMany : Int32) (m_a0_heardAt : Nat → Int32) (m_a0_heardBy : Nat → Int32) : Option (Int32 × Int32 × Int32 × (Nat → Int32) × (Nat → Int32)) :=
  some ((-1 : Int32), v_a0_thrown, v_a0_heardMany, m_a0_heardAt, m_a0_heardBy)
def fX12_heard (l1 : Int32) (l2 : Int32) (v_a0_heardMany : Int32) (m_a0_heardAt : Nat → Int32) (m_a0_heardBy : Nat → Int32) (m_a0_many : Nat → Int32) : Option (Int32 × Int32 × Int32 × (Nat → Int32) × (Nat → Int32)) :=
  Option.bind (fX12_isVillage l1 m_a0_many) fun o7 =>
  if o7 = 0 then (fX12_heard_24 (0 : Int32) v_a0_heardMany m_a0_heardAt m_a0_heardBy)
  else (Option.bind (fX12_in l2 (0 : Int32) (200 : Int32)) fun o18 =>
  if o18 = 0 then (fX12_heard_24 (0 : Int32) v_a0_heardMany m_a0_heardAt m_a0_heardBy)
  else (if v_a0_heardMany = (5 : Int32) then (some ((-3 : Int32), (0 : Int32), v_a0_heardMany, m_a0_heardAt, m_a0_heardBy))
  else (wri 5 m_a0_heardBy v_a0_heardMany l1 fun g46 =>
  wri 5 m_a0_heardAt v_a0_heardMany l2 fun g56 =>
  lti (v_a0_heardMany + (1 : Int32)) fun y64 =>
  some (y64, (0 : Int32), y64, g56, g46))))
section
variable {X : XT} {N : Nat} {q_a0 : Nat} {q_a0_heardAt : Nat} {q_a0_heardBy : Nat} {q_a0_many : Nat} {v_a0_thrown : Int32} {u_a0_trace : Value} {u_a0_text : Value} {u_a0_typed : Value} {u_a0_next : Value} {u_a0_token : Value} {u_a0_place : Value} {u_a0_value : Value} {u_a0_fault : Value} {u_a0_slow : Value} {u_a0_deaf : Value} {u_a0_lengths : Value} {u_a0_told : Value} {u_a0_s : Value} {u_a0_w : Value} {u_a0_kept : Value} {u_a0_isKept : Value} {u_a0_undos : Value} {u_a0_undoMany : Value} {v_a0_heardMany : Int32} {u_a0_tellsAt : Value} {u_a0_tellMany : Value} {u_a0_metAt : Value} {u_a0_metBeat : Value} {u_a0_round : Value} {u_a0_z : Value} {m_a0_heardAt : Nat → Int32} {m_a0_heardBy : Nat → Int32} {m_a0_many : Nat → Int32} {l1 : Int32} {l2 : Int32}
set_option maxRecDepth 20000 in
theorem tX12_heard_24 {out : Int32 × Int32 × Int32 × (Nat → Int32) × (Nat → Int32)} (hX : xk X = kX12_heard) (hQ : xQ X = qE (some (.int out.1)) (wX12_heard (xG X) q_a0 q_a0_heardAt q_a0_heardBy q_a0_many out.2.1 u_a0_trace u_a0_text u_a0_typed u_a0_next u_a0_token u_a0_place u_a0_value u_a0_fault u_a0_slow u_a0_deaf u_a0_lengths u_a0_told u_a0_s u_a0_w u_a0_kept u_a0_isKept u_a0_undos u_a0_undoMany out.2.2.1 u_a0_tellsAt u_a0_tellMany u_a0_metAt u_a0_metBeat u_a0_round u_a0_z out.2.2.2.1 out.2.2.2.2 m_a0_many)) (hf : fX12_heard_24 v_a0_thrown v_a0_heardMany m_a0_heardAt m_a0_heardBy = some out) : V X cX12_heard "FarDrumModel" 0 0 (wX12_heard (xG X) q_a0 q_a0_heardAt q_a0_heardBy q_a0_many v_a0_thrown u_a0_trace u_a0_text u_a0_typed u_a0_next u_a0_token u_a0_place u_a0_value u_a0_fault u_a0_slow u_a0_deaf u_a0_lengths u_a0_told u_a0_s u_a0_w u_a0_kept u_a0_isKept u_a0_undos u_a0_undoMany v_a0_heardMany u_a0_tellsAt u_a0_tellMany u_a0_metAt u_a0_metBeat u_a0_round u_a0_z m_a0_heardAt m_a0_heardBy m_a0_many) [none, none, none] 24 [] := by
  unfold fX12_heard_24 at hf
  refine V.iconst (pc := 24) (v := -1) dX12_heard_24 (by decide) ?_
  exact V.iretE (pc := 25) hX kX12_heard_r hQ dX12_heard_25 (by cases hf; rfl) (by cases hf; rfl)
set_option maxRecDepth 20000 in
theorem tX12_heard_0 {out : Int32 × Int32 × Int32 × (Nat → Int32) × (Nat → Int32)} (hX : xk X = kX12_heard) (hQ : xQ X = qE (some (.int out.1)) (wX12_heard (xG X) q_a0 q_a0_heardAt q_a0_heardBy q_a0_many out.2.1 u_a0_trace u_a0_text u_a0_typed u_a0_next u_a0_token u_a0_place u_a0_value u_a0_fault u_a0_slow u_a0_deaf u_a0_lengths u_a0_told u_a0_s u_a0_w u_a0_kept u_a0_isKept u_a0_undos u_a0_undoMany out.2.2.1 u_a0_tellsAt u_a0_tellMany u_a0_metAt u_a0_metBeat u_a0_round u_a0_z out.2.2.2.1 out.2.2.2.2 m_a0_many)) (hf : fX12_heard l1 l2 v_a0_heardMany m_a0_heardAt m_a0_heardBy m_a0_many = some out) : V X cX12_heard "FarDrumModel" 0 0 (wX12_heard (xG X) q_a0 q_a0_heardAt q_a0_heardBy q_a0_many v_a0_thrown u_a0_trace u_a0_text u_a0_typed u_a0_next u_a0_token u_a0_place u_a0_value u_a0_fault u_a0_slow u_a0_deaf u_a0_lengths u_a0_told u_a0_s u_a0_w u_a0_kept u_a0_isKept u_a0_undos u_a0_undoMany v_a0_heardMany u_a0_tellsAt u_a0_tellMany u_a0_metAt u_a0_metBeat u_a0_round u_a0_z m_a0_heardAt m_a0_heardBy m_a0_many) [some (.ref q_a0), some (.int l1), some (.int l2)] 0 [] := by
  unfold fX12_heard at hf
  refine V.aloadn (pc := 0) dX12_heard_0 rfl ?_
  refine V.iconst (pc := 1) (v := 0) dX12_heard_1 (by decide) ?_
  refine V.putf (q := 0) (wd' := wX12_heard (xG X) q_a0 q_a0_heardAt q_a0_heardBy q_a0_many (0 : Int32) u_a0_trace u_a0_text u_a0_typed u_a0_next u_a0_token u_a0_place u_a0_value u_a0_fault u_a0_slow u_a0_deaf u_a0_lengths u_a0_told u_a0_s u_a0_w u_a0_kept u_a0_isKept u_a0_undos u_a0_undoMany v_a0_heardMany u_a0_tellsAt u_a0_tellMany u_a0_metAt u_a0_metBeat u_a0_round u_a0_z m_a0_heardAt m_a0_heardBy m_a0_many) (pc := 2) dX12_heard_2 pk_X12_62_12 rfl rfl rfl rfl rfl ?_
  refine V.aloadn (pc := 5) dX12_heard_5 rfl ?_
  refine V.iloadn (pc := 6) dX12_heard_6 rfl ?_
  refine V.callVi (pc := 7) (q := 0) (wr := [(q_a0_heardAt, .inl ((xG X).2 0, 5, .inl m_a0_heardAt)), (q_a0_heardBy, .inl ((xG X).2 0, 5, .inl m_a0_heardBy))]) (wd' := fun o7 => wX12_heard (xG X) q_a0 q_a0_heardAt q_a0_heardBy q_a0_many (0 : Int32) u_a0_trace u_a0_text u_a0_typed u_a0_next u_a0_token u_a0_place u_a0_value u_a0_fault u_a0_slow u_a0_deaf u_a0_lengths u_a0_told u_a0_s u_a0_w u_a0_kept u_a0_isKept u_a0_undos u_a0_undoMany v_a0_heardMany u_a0_tellsAt u_a0_tellMany u_a0_metAt u_a0_metBeat u_a0_round u_a0_z m_a0_heardAt m_a0_heardBy m_a0_many) [.int l1] (st := []) hf (fun _ h => oX12_isVillage (q_a0 := q_a0) (q_a0_many := q_a0_many) (u_a0_thrown := ((.int (0 : Int32)))) (u_a0_trace := u_a0_trace) (u_a0_text := u_a0_text) (u_a0_typed := u_a0_typed) (u_a0_next := u_a0_next) (u_a0_token := u_a0_token) (u_a0_place := u_a0_place) (u_a0_value := u_a0_value) (u_a0_fault := u_a0_fault) (u_a0_slow := u_a0_slow) (u_a0_deaf := u_a0_deaf) (u_a0_lengths := u_a0_lengths) (u_a0_told := u_a0_told) (u_a0_s := u_a0_s) (u_a0_w := u_a0_w) (u_a0_kept := u_a0_kept) (u_a0_isKept := u_a0_isKept) (u_a0_undos := u_a0_undos) (u_a0_undoMany := u_a0_undoMany) (u_a0_heardBy := ((.ref q_a0_heardBy))) (u_a0_heardAt := ((.ref q_a0_heardAt))) (u_a0_heardMany := ((.int v_a0_heardMany))) (u_a0_tellsAt := u_a0_tellsAt) (u_a0_tellMany := u_a0_tellMany) (u_a0_metAt := u_a0_metAt) (u_a0_metBeat := u_a0_metBeat) (u_a0_round := u_a0_round) (u_a0_z := u_a0_z) (m_a0_many := m_a0_many) (l1 := l1) h) lkV_X12_133 dX12_heard_7 hX rfl ⟨rfl, rfl⟩ ⟨rfl, rfl⟩ rfl rfl rfl rfl rfl [0, 3] [1, 2] [2, 0, 1, 3] rfl rfl rfl rfl rfl (fun _ => rfl) rfl (fun o7 hf => ?_)
  refine V.if_eq (pc := 10) (tgt := 24) dX12_heard_10 (by decide) hf (fun hf => ?_) (fun hf => ?_)
  · refine V.mask (pc := 24) [false, false, false] rfl rfl ?_
    exact tX12_heard_24 hX hQ hf
  · refine V.iloadn (pc := 13) dX12_heard_13 rfl ?_
    refine V.iconst (pc := 14) (v := 0) dX12_heard_14 (by decide) ?_
    refine V.sipush (pc := 15) (v := 200) dX12_heard_15 (by decide) ?_
    refine V.callSi (pc := 18) [.int l2, .int (0 : Int32), .int (200 : Int32)] (st := []) hf (fun _ h => oX12_in  (l0 := l2) (l1 := (0 : Int32)) (l2 := (200 : Int32)) h) lkS_X12_66 dX12_heard_18 hX rfl ⟨rfl, rfl⟩ ⟨rfl, rfl⟩ rfl rfl rfl (fun o18 hf => ?_)
    refine V.if_ne (pc := 21) (tgt := 26) dX12_heard_21 (by decide) hf (fun hf => ?_) (fun hf => ?_)
    · refine V.aloadn (pc := 26) dX12_heard_26 rfl ?_
      refine V.getf (q := 0) (pc := 27) dX12_heard_27 fk_X12_124_12 rfl rfl ?_
      refine V.iconst (pc := 30) (v := 5) dX12_heard_30 (by decide) ?_
      refine V.icmp_ne (pc := 31) (tgt := 37) dX12_heard_31 (by decide) hf (fun hf => ?_) (fun hf => ?_)
      · refine V.aloadn (pc := 37) dX12_heard_37 rfl ?_
        refine V.getf (q := 0) (pc := 38) dX12_heard_38 fk_X12_41_12 rfl rfl ?_
        refine V.aloadn (pc := 41) dX12_heard_41 rfl ?_
        refine V.getf (q := 0) (pc := 42) dX12_heard_42 fk_X12_124_12 rfl rfl ?_
        refine V.iloadn (pc := 45) dX12_heard_45 rfl ?_
        refine V.iast (pc := 46) (q := 2) (wd' := fun g46 => wX12_heard (xG X) q_a0 q_a0_heardAt q_a0_heardBy q_a0_many (0 : Int32) u_a0_trace u_a0_text u_a0_typed u_a0_next u_a0_token u_a0_place u_a0_value u_a0_fault u_a0_slow u_a0_deaf u_a0_lengths u_a0_told u_a0_s u_a0_w u_a0_kept u_a0_isKept u_a0_undos u_a0_undoMany v_a0_heardMany u_a0_tellsAt u_a0_tellMany u_a0_metAt u_a0_metBeat u_a0_round u_a0_z m_a0_heardAt g46 m_a0_many) dX12_heard_46 rfl hf (fun _ => rfl) (fun g46 hf => ?_)
        refine V.aloadn (pc := 47) dX12_heard_47 rfl ?_
        refine V.getf (q := 0) (pc := 48) dX12_heard_48 fk_X12_44_12 rfl rfl ?_
        refine V.aloadn (pc := 51) dX12_heard_51 rfl ?_
        refine V.getf (q := 0) (pc := 52) dX12_heard_52 fk_X12_124_12 rfl rfl ?_
        refine V.iloadn (pc := 55) dX12_heard_55 rfl ?_
        refine V.iast (pc := 56) (q := 1) (wd' := fun g56 => wX12_heard (xG X) q_a0 q_a0_heardAt q_a0_heardBy q_a0_many (0 : Int32) u_a0_trace u_a0_text u_a0_typed u_a0_next u_a0_token u_a0_place u_a0_value u_a0_fault u_a0_slow u_a0_deaf u_a0_lengths u_a0_told u_a0_s u_a0_w u_a0_kept u_a0_isKept u_a0_undos u_a0_undoMany v_a0_heardMany u_a0_tellsAt u_a0_tellMany u_a0_metAt u_a0_metBeat u_a0_round u_a0_z g56 g46 m_a0_many) dX12_heard_56 rfl hf (fun _ => rfl) (fun g56 hf => ?_)
        refine V.aloadn (pc := 57) dX12_heard_57 rfl ?_
        refine V.dup (pc := 58) dX12_heard_58 rfl ?_
        refine V.getf (q := 0) (pc := 59) dX12_heard_59 fk_X12_124_12 rfl rfl ?_
        refine V.iconst (pc := 62) (v := 1) dX12_heard_62 (by decide) ?_
        refine V.iadd (pc := 63) dX12_heard_63 ?_
        refine V.topi hf (fun y64 hf => ?_)
        refine V.putf (q := 0) (wd' := wX12_heard (xG X) q_a0 q_a0_heardAt q_a0_heardBy q_a0_many (0 : Int32) u_a0_trace u_a0_text u_a0_typed u_a0_next u_a0_token u_a0_place u_a0_value u_a0_fault u_a0_slow u_a0_deaf u_a0_lengths u_a0_told u_a0_s u_a0_w u_a0_kept u_a0_isKept u_a0_undos u_a0_undoMany y64 u_a0_tellsAt u_a0_tellMany u_a0_metAt u_a0_metBeat u_a0_round u_a0_z g56 g46 m_a0_many) (pc := 64) dX12_heard_64 pk_X12_124_12 rfl rfl rfl rfl rfl ?_
        refine V.aloadn (pc := 67) dX12_heard_67 rfl ?_
        refine V.getf (q := 0) (pc := 68) dX12_heard_68 fk_X12_124_12 rfl rfl ?_
        exact V.iretE (pc := 71) hX kX12_heard_r hQ dX12_heard_71 (by cases hf; rfl) (by cases hf; rfl)
      · refine V.bipush (pc := 34) (v := -3) dX12_heard_34 (by decide) ?_
        exact V.iretE (pc := 36) hX kX12_heard_r hQ dX12_heard_36 (by cases hf; rfl) (by cases hf; rfl)
    · refine V.mask (pc := 24) [false, false, false] rfl rfl ?_
      exact tX12_heard_24 hX hQ hf
end
theorem oX12_heard {l : Launch} {G : GT} {q_a0 : Nat} {q_a0_heardAt : Nat} {q_a0_heardBy : Nat} {q_a0_many : Nat} {v_a0_thrown : Int32} {u_a0_trace : Value} {u_a0_text : Value} {u_a0_typed : Value} {u_a0_next : Value} {u_a0_token : Value} {u_a0_place : Value} {u_a0_value : Value} {u_a0_fault : Value} {u_a0_slow : Value} {u_a0_deaf : Value} {u_a0_lengths : Value} {u_a0_told : Value} {u_a0_s : Value} {u_a0_w : Value} {u_a0_kept : Value} {u_a0_isKept : Value} {u_a0_undos : Value} {u_a0_undoMany : Value} {v_a0_heardMany : Int32} {u_a0_tellsAt : Value} {u_a0_tellMany : Value} {u_a0_metAt : Value} {u_a0_metBeat : Value} {u_a0_round : Value} {u_a0_z : Value} {m_a0_heardAt : Nat → Int32} {m_a0_heardBy : Nat → Int32} {m_a0_many : Nat → Int32} {l1 : Int32} {l2 : Int32} {out : Int32 × Int32 × Int32 × (Nat → Int32) × (Nat → Int32)} (hf : fX12_heard l1 l2 v_a0_heardMany m_a0_heardAt m_a0_heardBy m_a0_many = some out) : Ct (l, G, kX12_heard, wX12_heard G q_a0 q_a0_heardAt q_a0_heardBy q_a0_many v_a0_thrown u_a0_trace u_a0_text u_a0_typed u_a0_next u_a0_token u_a0_place u_a0_value u_a0_fault u_a0_slow u_a0_deaf u_a0_lengths u_a0_told u_a0_s u_a0_w u_a0_kept u_a0_isKept u_a0_undos u_a0_undoMany v_a0_heardMany u_a0_tellsAt u_a0_tellMany u_a0_metAt u_a0_metBeat u_a0_round u_a0_z m_a0_heardAt m_a0_heardBy m_a0_many, [.ref q_a0, .int l1, .int l2], qE (some (.int out.1)) (wX12_heard G q_a0 q_a0_heardAt q_a0_heardBy q_a0_many out.2.1 u_a0_trace u_a0_text u_a0_typed u_a0_next u_a0_token u_a0_place u_a0_value u_a0_fault u_a0_slow u_a0_deaf u_a0_lengths u_a0_told u_a0_s u_a0_w u_a0_kept u_a0_isKept u_a0_undos u_a0_undoMany out.2.2.1 u_a0_tellsAt u_a0_tellMany u_a0_metAt u_a0_metBeat u_a0_round u_a0_z out.2.2.2.1 out.2.2.2.2 m_a0_many)) :=
  Ct.of [some (.ref q_a0), some (.int l1), some (.int l2)] kX12_heard_p rfl rfl rfl ((tX12_heard_0 (X := (l, G, kX12_heard, wX12_heard G q_a0 q_a0_heardAt q_a0_heardBy q_a0_many v_a0_thrown u_a0_trace u_a0_text u_a0_typed u_a0_next u_a0_token u_a0_place u_a0_value u_a0_fault u_a0_slow u_a0_deaf u_a0_lengths u_a0_told u_a0_s u_a0_w u_a0_kept u_a0_isKept u_a0_undos u_a0_undoMany v_a0_heardMany u_a0_tellsAt u_a0_tellMany u_a0_metAt u_a0_metBeat u_a0_round u_a0_z m_a0_heardAt m_a0_heardBy m_a0_many, [.ref q_a0, .int l1, .int l2], qE (some (.int out.1)) (wX12_heard G q_a0 q_a0_heardAt q_a0_heardBy q_a0_many out.2.1 u_a0_trace u_a0_text u_a0_typed u_a0_next u_a0_token u_a0_place u_a0_value u_a0_fault u_a0_slow u_a0_deaf u_a0_lengths u_a0_told u_a0_s u_a0_w u_a0_kept u_a0_isKept u_a0_undos u_a0_undoMany out.2.2.1 u_a0_tellsAt u_a0_tellMany u_a0_metAt u_a0_metBeat u_a0_round u_a0_z out.2.2.2.1 out.2.2.2.2 m_a0_many))) rfl rfl hf))

def wX12_forget (G : GT) (q_a0 : Nat) (v_a0_thrown : Int32) (u_a0_trace : Value) (u_a0_text : Value) (u_a0_typed : Value) (u_a0_next : Value) (u_a0_token : Value) (u_a0_place : Value) (u_a0_value : Value) (u_a0_fault : Value) (u_a0_many : Value) (u_a0_slow : Value) (u_a0_deaf : Value) (u_a0_lengths : Value) (u_a0_told : Value) (u_a0_s : Value) (u_a0_w : Value) (u_a0_kept : Value) (u_a0_isKept : Value) (u_a0_undos : Value) (u_a0_undoMany : Value) (u_a0_heardBy : Value) (u_a0_heardAt : Value) (v_a0_heardMany : Int32) (u_a0_tellsAt : Value) (u_a0_tellMany : Value) (u_a0_metAt : Value) (u_a0_metBeat : Value) (u_a0_round : Value) (u_a0_z : Value) : va_W := [(q_a0, .inr (12, [.int v_a0_thrown, u_a0_trace, u_a0_text, u_a0_typed, u_a0_next, u_a0_token, u_a0_place, u_a0_value, u_a0_fault, u_a0_many, u_a0_slow, u_a0_deaf, u_a0_lengths, u_a0_told, u_a0_s, u_a0_w, u_a0_kept, u_a0_isKept, u_a0_undos, u_a0_undoMany, u_a0_heardBy, u_a0_heardAt, .int v_a0_heardMany, u_a0_tellsAt, u_a0_tellMany, u_a0_metAt, u_a0_metBeat, u_a0_round, u_a0_z]))]
def kX12_forget : KT := (yX12_forget, cX12_forget, 2, (some .int), 0, 0, 0)
theorem kX12_forget_r : kr kX12_forget = (some .int) ∧ kmc kX12_forget = 0 ∧ kms kX12_forget = 0 := ⟨rfl, rfl, rfl⟩
theorem kX12_forget_p : plainName (ky kX12_forget).cls = true := by decide +kernel
def fX12_forget (v_a0_heardMany : Int32) : Option (Int32 × Int32 × Int32) :=
  some (v_a0_heardMany, (0 : Int32), (0 : Int32))
section
variable {X : XT} {N : Nat} {q_a0 : Nat} {v_a0_thrown : Int32} {u_a0_trace : Value} {u_a0_text : Value} {u_a0_typed : Value} {u_a0_next : Value} {u_a0_token : Value} {u_a0_place : Value} {u_a0_value : Value} {u_a0_fault : Value} {u_a0_many : Value} {u_a0_slow : Value} {u_a0_deaf : Value} {u_a0_lengths : Value} {u_a0_told : Value} {u_a0_s : Value} {u_a0_w : Value} {u_a0_kept : Value} {u_a0_isKept : Value} {u_a0_undos : Value} {u_a0_undoMany : Value} {u_a0_heardBy : Value} {u_a0_heardAt : Value} {v_a0_heardMany : Int32} {u_a0_tellsAt : Value} {u_a0_tellMany : Value} {u_a0_metAt : Value} {u_a0_metBeat : Value} {u_a0_round : Value} {u_a0_z : Value}
set_option maxRecDepth 20000 in
theorem tX12_forget_0 {out : Int32 × Int32 × Int32} (hX : xk X = kX12_forget) (hQ : xQ X = qE (some (.int out.1)) (wX12_forget (xG X) q_a0 out.2.1 u_a0_trace u_a0_text u_a0_typed u_a0_next u_a0_token u_a0_place u_a0_value u_a0_fault u_a0_many u_a0_slow u_a0_deaf u_a0_lengths u_a0_told u_a0_s u_a0_w u_a0_kept u_a0_isKept u_a0_undos u_a0_undoMany u_a0_heardBy u_a0_heardAt out.2.2 u_a0_tellsAt u_a0_tellMany u_a0_metAt u_a0_metBeat u_a0_round u_a0_z)) (hf : fX12_forget v_a0_heardMany = some out) : V X cX12_forget "FarDrumModel" 0 0 (wX12_forget (xG X) q_a0 v_a0_thrown u_a0_trace u_a0_text u_a0_typed u_a0_next u_a0_token u_a0_place u_a0_value u_a0_fault u_a0_many u_a0_slow u_a0_deaf u_a0_lengths u_a0_told u_a0_s u_a0_w u_a0_kept u_a0_isKept u_a0_undos u_a0_undoMany u_a0_heardBy u_a0_heardAt v_a0_heardMany u_a0_tellsAt u_a0_tellMany u_a0_metAt u_a0_metBeat u_a0_round u_a0_z) [some (.ref q_a0), none] 0 [] := by
  unfold fX12_forget at hf
  refine V.aloadn (pc := 0) dX12_forget_0 rfl ?_
  refine V.iconst (pc := 1) (v := 0) dX12_forget_1 (by decide) ?_
  refine V.putf (q := 0) (wd' := wX12_forget (xG X) q_a0 (0 : Int32) u_a0_trace u_a0_text u_a0_typed u_a0_next u_a0_token u_a0_place u_a0_value u_a0_fault u_a0_many u_a0_slow u_a0_deaf u_a0_lengths u_a0_told u_a0_s u_a0_w u_a0_kept u_a0_isKept u_a0_undos u_a0_undoMany u_a0_heardBy u_a0_heardAt v_a0_heardMany u_a0_tellsAt u_a0_tellMany u_a0_metAt u_a0_metBeat u_a0_round u_a0_z) (pc := 2) dX12_forget_2 pk_X12_62_12 rfl rfl rfl rfl rfl ?_
  refine V.aloadn (pc := 5) dX12_forget_5 rfl ?_
  refine V.getf (q := 0) (pc := 6) dX12_forget_6 fk_X12_124_12 rfl rfl ?_
  refine V.istoren (pc := 9) dX12_forget_9 rfl rfl rfl ?_
  refine V.aloadn (pc := 10) dX12_forget_10 rfl ?_
  refine V.iconst (pc := 11) (v := 0) dX12_forget_11 (by decide) ?_
  refine V.putf (q := 0) (wd' := wX12_forget (xG X) q_a0 (0 : Int32) u_a0_trace u_a0_text u_a0_typed u_a0_next u_a0_token u_a0_place u_a0_value u_a0_fault u_a0_many u_a0_slow u_a0_deaf u_a0_lengths u_a0_told u_a0_s u_a0_w u_a0_kept u_a0_isKept u_a0_undos u_a0_undoMany u_a0_heardBy u_a0_heardAt (0 : Int32) u_a0_tellsAt u_a0_tellMany u_a0_metAt u_a0_metBeat u_a0_round u_a0_z) (pc := 12) dX12_forget_12 pk_X12_124_12 rfl rfl rfl rfl rfl ?_
  refine V.iloadn (pc := 15) dX12_forget_15 rfl ?_
  exact V.iretE (pc := 16) hX kX12_forget_r hQ dX12_forget_16 (by cases hf; rfl) (by cases hf; rfl)
end
theorem oX12_forget {l : Launch} {G : GT} {q_a0 : Nat} {v_a0_thrown : Int32} {u_a0_trace : Value} {u_a0_text : Value} {u_a0_typed : Value} {u_a0_next : Value} {u_a0_token : Value} {u_a0_place : Value} {u_a0_value : Value} {u_a0_fault : Value} {u_a0_many : Value} {u_a0_slow : Value} {u_a0_deaf : Value} {u_a0_lengths : Value} {u_a0_told : Value} {u_a0_s : Value} {u_a0_w : Value} {u_a0_kept : Value} {u_a0_isKept : Value} {u_a0_undos : Value} {u_a0_undoMany : Value} {u_a0_heardBy : Value} {u_a0_heardAt : Value} {v_a0_heardMany : Int32} {u_a0_tellsAt : Value} {u_a0_tellMany : Value} {u_a0_metAt : Value} {u_a0_metBeat : Value} {u_a0_round : Value} {u_a0_z : Value} {out : Int32 × Int32 × Int32} (hf : fX12_forget v_a0_heardMany = some out) : Ct (l, G, kX12_forget, wX12_forget G q_a0 v_a0_thrown u_a0_trace u_a0_text u_a0_typed u_a0_next u_a0_token u_a0_place u_a0_value u_a0_fault u_a0_many u_a0_slow u_a0_deaf u_a0_lengths u_a0_told u_a0_s u_a0_w u_a0_kept u_a0_isKept u_a0_undos u_a0_undoMany u_a0_heardBy u_a0_heardAt v_a0_heardMany u_a0_tellsAt u_a0_tellMany u_a0_metAt u_a0_metBeat u_a0_round u_a0_z, [.ref q_a0], qE (some (.int out.1)) (wX12_forget G q_a0 out.2.1 u_a0_trace u_a0_text u_a0_typed u_a0_next u_a0_token u_a0_place u_a0_value u_a0_fault u_a0_many u_a0_slow u_a0_deaf u_a0_lengths u_a0_told u_a0_s u_a0_w u_a0_kept u_a0_isKept u_a0_undos u_a0_undoMany u_a0_heardBy u_a0_heardAt out.2.2 u_a0_tellsAt u_a0_tellMany u_a0_metAt u_a0_metBeat u_a0_round u_a0_z)) :=
  Ct.of [some (.ref q_a0), none] kX12_forget_p rfl rfl rfl ((tX12_forget_0 (X := (l, G, kX12_forget, wX12_forget G q_a0 v_a0_thrown u_a0_trace u_a0_text u_a0_typed u_a0_next u_a0_token u_a0_place u_a0_value u_a0_fault u_a0_many u_a0_slow u_a0_deaf u_a0_lengths u_a0_told u_a0_s u_a0_w u_a0_kept u_a0_isKept u_a0_undos u_a0_undoMany u_a0_heardBy u_a0_heardAt v_a0_heardMany u_a0_tellsAt u_a0_tellMany u_a0_metAt u_a0_metBeat u_a0_round u_a0_z, [.ref q_a0], qE (some (.int out.1)) (wX12_forget G q_a0 out.2.1 u_a0_trace u_a0_text u_a0_typed u_a0_next u_a0_token u_a0_place u_a0_value u_a0_fault u_a0_many u_a0_slow u_a0_deaf u_a0_lengths u_a0_told u_a0_s u_a0_w u_a0_kept u_a0_isKept u_a0_undos u_a0_undoMany u_a0_heardBy u_a0_heardAt out.2.2 u_a0_tellsAt u_a0_tellMany u_a0_metAt u_a0_metBeat u_a0_round u_a0_z))) rfl rfl hf))

theorem fk_X12_16_12 : Fk "FarDrumModel" 16 12 10 := ⟨RX12, TX12, 29, "FarDrumModel", rfl, inX12, by decide, kw_4_18, Or.inl rfl⟩
theorem fk_X12_19_12 : Fk "FarDrumModel" 19 12 11 := ⟨RX12, TX12, 29, "FarDrumModel", rfl, inX12, by decide, kw_4_19, Or.inl rfl⟩
def wX12_asTold (G : GT) (q_a0 : Nat) (q_a0_deaf : Nat) (q_a0_many : Nat) (q_a0_slow : Nat) (q_a1 : Nat) (u_a0_thrown : Value) (u_a0_trace : Value) (u_a0_text : Value) (u_a0_typed : Value) (u_a0_next : Value) (u_a0_token : Value) (u_a0_place : Value) (u_a0_value : Value) (u_a0_fault : Value) (u_a0_lengths : Value) (u_a0_told : Value) (u_a0_s : Value) (u_a0_w : Value) (u_a0_kept : Value) (u_a0_isKept : Value) (u_a0_undos : Value) (u_a0_undoMany : Value) (u_a0_heardBy : Value) (u_a0_heardAt : Value) (u_a0_heardMany : Value) (u_a0_tellsAt : Value) (u_a0_tellMany : Value) (u_a0_metAt : Value) (u_a0_metBeat : Value) (u_a0_round : Value) (u_a0_z : Value) (m_a0_deaf : Nat → Int32) (m_a0_many : Nat → Int32) (m_a0_slow : Nat → Int32) (m_a1 : Nat → Int32) : va_W := [(q_a0, .inr (12, [u_a0_thrown, u_a0_trace, u_a0_text, u_a0_typed, u_a0_next, u_a0_token, u_a0_place, u_a0_value, u_a0_fault, .ref q_a0_many, .ref q_a0_slow, .ref q_a0_deaf, u_a0_lengths, u_a0_told, u_a0_s, u_a0_w, u_a0_kept, u_a0_isKept, u_a0_undos, u_a0_undoMany, u_a0_heardBy, u_a0_heardAt, u_a0_heardMany, u_a0_tellsAt, u_a0_tellMany, u_a0_metAt, u_a0_metBeat, u_a0_round, u_a0_z])), (q_a0_deaf, .inl (G.2 0, 12, .inl m_a0_deaf)), (q_a0_many, .inl (G.2 0, 6, .inl m_a0_many)), (q_a0_slow, .inl (G.2 0, 12, .inl m_a0_slow)), (q_a1, .inl (G.2 0, 35, .inl m_a1))]
def kX12_asTold : KT := (yX12_asTold, cX12_asTold, 4, none, 0, 0, 0)
theorem kX12_asTold_r : kr kX12_asTold = none ∧ kmc kX12_asTold = 0 ∧ kms kX12_asTold = 0 := ⟨rfl, rfl, rfl⟩
theorem kX12_asTold_p : plainName (ky kX12_asTold).cls = true := by decide +kernel
def fX12_asTold_2 (B2 : Int32 → (Nat → Int32) → Option ((Nat → Int32))) (K2_18 : (Nat → Int32) → Option ((Nat → Int32))) (l3 : Int32) (m_a1 : Nat → Int32) : Option ((Nat → Int32)) :=
  if (35 : Int32) ≤ l3 then (K2_18 m_a1)
  else (wri 35 m_a1 l3 (0 : Int32) fun g11 =>
  B2 (l3 + (1 : Int32)) g11)
def fX12_asTold_L2 (K2_18 : (Nat → Int32) → Option ((Nat → Int32))) : Nat → Int32 → (Nat → Int32) → Option ((Nat → Int32))
  | 0, _, _ => none
  | n + 1, l3, m_a1 => fX12_asTold_2 (fX12_asTold_L2 K2_18 n) K2_18 l3 m_a1
def fX12_asTold_20 (B20 : Int32 → (Nat → Int32) → Option ((Nat → Int32))) (K20_59 : (Nat → Int32) → Option ((Nat → Int32))) (l3 : Int32) (m_a0_deaf : Nat → Int32) (m_a0_many : Nat → Int32) (m_a0_slow : Nat → Int32) (m_a1 : Nat → Int32) : Option ((Nat → Int32)) :=
  if (m_a0_many 0) ≤ l3 then (K20_59 m_a1)
  else (rdi 12 m_a0_slow l3 fun x39 =>
  wri 35 m_a1 ((4 : Int32) + l3) x39 fun g40 =>
  rdi 12 m_a0_deaf l3 fun x51 =>
  wri 35 g40 ((10 : Int32) + l3) x51 fun g52 =>
  B20 (l3 + (1 : Int32)) g52)
def fX12_asTold_L20 (m_a0_deaf : Nat → Int32) (m_a0_many : Nat → Int32) (m_a0_slow : Nat → Int32) (K20_59 : (Nat → Int32) → Option ((Nat → Int32))) : Nat → Int32 → (Nat → Int32) → Option ((Nat → Int32))
  | 0, _, _ => none
  | n + 1, l3, m_a1 => fX12_asTold_20 (fX12_asTold_L20 m_a0_deaf m_a0_many m_a0_slow K20_59 n) K20_59 l3 m_a0_deaf m_a0_many m_a0_slow m_a1
def fX12_asTold_83 (m_a1 : Nat → Int32) : Option ((Nat → Int32)) :=
  some m_a1
def fX12_asTold (N : Nat) (l2 : Int32) (m_a0_deaf : Nat → Int32) (m_a0_many : Nat → Int32) (m_a0_slow : Nat → Int32) (m_a1 : Nat → Int32) : Option ((Nat → Int32)) :=
  fX12_asTold_L2
      (fun m_a1k2_18 => fX12_asTold_L20 m_a0_deaf m_a0_many m_a0_slow
      (fun m_a1k20_59 => if (m_a0_many 0) ≤ 0 then (fX12_asTold_83 m_a1k20_59)
  else (lti (upd m_a1k20_59 0 (1 : Int32)) fun g71 =>
  lti (upd g71 2 l2) fun g75 =>
  wri 35 g75 ((29 : Int32) + l2) (1 : Int32) fun g82 =>
  fX12_asTold_83 g82)) N (0 : Int32) m_a1k2_18) N (0 : Int32) m_a1
section
variable {X : XT} {N : Nat} {q_a0 : Nat} {q_a0_deaf : Nat} {q_a0_many : Nat} {q_a0_slow : Nat} {q_a1 : Nat} {u_a0_thrown : Value} {u_a0_trace : Value} {u_a0_text : Value} {u_a0_typed : Value} {u_a0_next : Value} {u_a0_token : Value} {u_a0_place : Value} {u_a0_value : Value} {u_a0_fault : Value} {u_a0_lengths : Value} {u_a0_told : Value} {u_a0_s : Value} {u_a0_w : Value} {u_a0_kept : Value} {u_a0_isKept : Value} {u_a0_undos : Value} {u_a0_undoMany : Value} {u_a0_heardBy : Value} {u_a0_heardAt : Value} {u_a0_heardMany : Value} {u_a0_tellsAt : Value} {u_a0_tellMany : Value} {u_a0_metAt : Value} {u_a0_metBeat : Value} {u_a0_round : Value} {u_a0_z : Value} {m_a0_deaf : Nat → Int32} {m_a0_many : Nat → Int32} {m_a0_slow : Nat → Int32} {m_a1 : Nat → Int32} {l2 : Int32} {l3 : Int32}
set_option maxRecDepth 20000 in
theorem tX12_asTold_2 {out : (Nat → Int32)} (hX : xk X = kX12_asTold) (hQ : xQ X = qE none (wX12_asTold (xG X) q_a0 q_a0_deaf q_a0_many q_a0_slow q_a1 u_a0_thrown u_a0_trace u_a0_text u_a0_typed u_a0_next u_a0_token u_a0_place u_a0_value u_a0_fault u_a0_lengths u_a0_told u_a0_s u_a0_w u_a0_kept u_a0_isKept u_a0_undos u_a0_undoMany u_a0_heardBy u_a0_heardAt u_a0_heardMany u_a0_tellsAt u_a0_tellMany u_a0_metAt u_a0_metBeat u_a0_round u_a0_z m_a0_deaf m_a0_many m_a0_slow out)) {B2 : Int32 → (Nat → Int32) → Option ((Nat → Int32))} {K2_18 : (Nat → Int32) → Option ((Nat → Int32))} (hB2 : ∀ (l3 : Int32) (m_a1 : Nat → Int32), B2 l3 m_a1 = some out → V X cX12_asTold "FarDrumModel" 0 0 (wX12_asTold (xG X) q_a0 q_a0_deaf q_a0_many q_a0_slow q_a1 u_a0_thrown u_a0_trace u_a0_text u_a0_typed u_a0_next u_a0_token u_a0_place u_a0_value u_a0_fault u_a0_lengths u_a0_told u_a0_s u_a0_w u_a0_kept u_a0_isKept u_a0_undos u_a0_undoMany u_a0_heardBy u_a0_heardAt u_a0_heardMany u_a0_tellsAt u_a0_tellMany u_a0_metAt u_a0_metBeat u_a0_round u_a0_z m_a0_deaf m_a0_many m_a0_slow m_a1) [some (.ref q_a0), some (.ref q_a1), some (.int l2), some (.int l3)] 2 []) (hK2_18 : ∀ (m_a1 : Nat → Int32), K2_18 m_a1 = some out → V X cX12_asTold "FarDrumModel" 0 0 (wX12_asTold (xG X) q_a0 q_a0_deaf q_a0_many q_a0_slow q_a1 u_a0_thrown u_a0_trace u_a0_text u_a0_typed u_a0_next u_a0_token u_a0_place u_a0_value u_a0_fault u_a0_lengths u_a0_told u_a0_s u_a0_w u_a0_kept u_a0_isKept u_a0_undos u_a0_undoMany u_a0_heardBy u_a0_heardAt u_a0_heardMany u_a0_tellsAt u_a0_tellMany u_a0_metAt u_a0_metBeat u_a0_round u_a0_z m_a0_deaf m_a0_many m_a0_slow m_a1) [some (.ref q_a0), some (.ref q_a1), some (.int l2), none] 18 []) (hf : fX12_asTold_2 B2 K2_18 l3 m_a1 = some out) : V X cX12_asTold "FarDrumModel" 0 0 (wX12_asTold (xG X) q_a0 q_a0_deaf q_a0_many q_a0_slow q_a1 u_a0_thrown u_a0_trace u_a0_text u_a0_typed u_a0_next u_a0_token u_a0_place u_a0_value u_a0_fault u_a0_lengths u_a0_told u_a0_s u_a0_w u_a0_kept u_a0_isKept u_a0_undos u_a0_undoMany u_a0_heardBy u_a0_heardAt u_a0_heardMany u_a0_tellsAt u_a0_tellMany u_a0_metAt u_a0_metBeat u_a0_round u_a0_z m_a0_deaf m_a0_many m_a0_slow m_a1) [some (.ref q_a0), some (.ref q_a1), some (.int l2), some (.int l3)] 2 [] := by
  unfold fX12_asTold_2 at hf
  refine V.iloadn (pc := 2) dX12_asTold_2 rfl ?_
  refine V.bipush (pc := 3) (v := 35) dX12_asTold_3 (by decide) ?_
  refine V.icmp_ge (pc := 5) (tgt := 18) dX12_asTold_5 (by decide) hf (fun hf => ?_) (fun hf => ?_)
  · refine V.mask (pc := 18) [true, true, true, false] rfl rfl ?_
    exact hK2_18 _ hf
  · refine V.aloadn (pc := 8) dX12_asTold_8 rfl ?_
    refine V.iloadn (pc := 9) dX12_asTold_9 rfl ?_
    refine V.iconst (pc := 10) (v := 0) dX12_asTold_10 (by decide) ?_
    refine V.iast (pc := 11) (q := 4) (wd' := fun g11 => wX12_asTold (xG X) q_a0 q_a0_deaf q_a0_many q_a0_slow q_a1 u_a0_thrown u_a0_trace u_a0_text u_a0_typed u_a0_next u_a0_token u_a0_place u_a0_value u_a0_fault u_a0_lengths u_a0_told u_a0_s u_a0_w u_a0_kept u_a0_isKept u_a0_undos u_a0_undoMany u_a0_heardBy u_a0_heardAt u_a0_heardMany u_a0_tellsAt u_a0_tellMany u_a0_metAt u_a0_metBeat u_a0_round u_a0_z m_a0_deaf m_a0_many m_a0_slow g11) dX12_asTold_11 rfl hf (fun _ => rfl) (fun g11 hf => ?_)
    refine V.iinc (pc := 12) (v := 1) dX12_asTold_12 rfl rfl (by decide) rfl ?_
    refine V.goto (pc := 15) (tgt := 2) dX12_asTold_15 (by decide) ?_
    exact hB2 _ _ hf
theorem tX12_asTold_L2 {out : (Nat → Int32)} (hX : xk X = kX12_asTold) (hQ : xQ X = qE none (wX12_asTold (xG X) q_a0 q_a0_deaf q_a0_many q_a0_slow q_a1 u_a0_thrown u_a0_trace u_a0_text u_a0_typed u_a0_next u_a0_token u_a0_place u_a0_value u_a0_fault u_a0_lengths u_a0_told u_a0_s u_a0_w u_a0_kept u_a0_isKept u_a0_undos u_a0_undoMany u_a0_heardBy u_a0_heardAt u_a0_heardMany u_a0_tellsAt u_a0_tellMany u_a0_metAt u_a0_metBeat u_a0_round u_a0_z m_a0_deaf m_a0_many m_a0_slow out)) {K2_18 : (Nat → Int32) → Option ((Nat → Int32))} (hK2_18 : ∀ (m_a1 : Nat → Int32), K2_18 m_a1 = some out → V X cX12_asTold "FarDrumModel" 0 0 (wX12_asTold (xG X) q_a0 q_a0_deaf q_a0_many q_a0_slow q_a1 u_a0_thrown u_a0_trace u_a0_text u_a0_typed u_a0_next u_a0_token u_a0_place u_a0_value u_a0_fault u_a0_lengths u_a0_told u_a0_s u_a0_w u_a0_kept u_a0_isKept u_a0_undos u_a0_undoMany u_a0_heardBy u_a0_heardAt u_a0_heardMany u_a0_tellsAt u_a0_tellMany u_a0_metAt u_a0_metBeat u_a0_round u_a0_z m_a0_deaf m_a0_many m_a0_slow m_a1) [some (.ref q_a0), some (.ref q_a1), some (.int l2), none] 18 []) : ∀ (n : Nat) (l3 : Int32) (m_a1 : Nat → Int32), fX12_asTold_L2 K2_18 n l3 m_a1 = some out → V X cX12_asTold "FarDrumModel" 0 0 (wX12_asTold (xG X) q_a0 q_a0_deaf q_a0_many q_a0_slow q_a1 u_a0_thrown u_a0_trace u_a0_text u_a0_typed u_a0_next u_a0_token u_a0_place u_a0_value u_a0_fault u_a0_lengths u_a0_told u_a0_s u_a0_w u_a0_kept u_a0_isKept u_a0_undos u_a0_undoMany u_a0_heardBy u_a0_heardAt u_a0_heardMany u_a0_tellsAt u_a0_tellMany u_a0_metAt u_a0_metBeat u_a0_round u_a0_z m_a0_deaf m_a0_many m_a0_slow m_a1) [some (.ref q_a0), some (.ref q_a1), some (.int l2), some (.int l3)] 2 [] := by
  intro n
  induction n with
  | zero => intro l3 m_a1 hf; cases hf
  | succ n ih => intro l3 m_a1 hf; exact tX12_asTold_2 hX hQ ih hK2_18 hf
set_option maxRecDepth 20000 in
theorem tX12_asTold_20 {out : (Nat → Int32)} (hX : xk X = kX12_asTold) (hQ : xQ X = qE none (wX12_asTold (xG X) q_a0 q_a0_deaf q_a0_many q_a0_slow q_a1 u_a0_thrown u_a0_trace u_a0_text u_a0_typed u_a0_next u_a0_token u_a0_place u_a0_value u_a0_fault u_a0_lengths u_a0_told u_a0_s u_a0_w u_a0_kept u_a0_isKept u_a0_undos u_a0_undoMany u_a0_heardBy u_a0_heardAt u_a0_heardMany u_a0_tellsAt u_a0_tellMany u_a0_metAt u_a0_metBeat u_a0_round u_a0_z m_a0_deaf m_a0_many m_a0_slow out)) {B20 : Int32 → (Nat → Int32) → Option ((Nat → Int32))} {K20_59 : (Nat → Int32) → Option ((Nat → Int32))} (hB20 : ∀ (l3 : Int32) (m_a1 : Nat → Int32), B20 l3 m_a1 = some out → V X cX12_asTold "FarDrumModel" 0 0 (wX12_asTold (xG X) q_a0 q_a0_deaf q_a0_many q_a0_slow q_a1 u_a0_thrown u_a0_trace u_a0_text u_a0_typed u_a0_next u_a0_token u_a0_place u_a0_value u_a0_fault u_a0_lengths u_a0_told u_a0_s u_a0_w u_a0_kept u_a0_isKept u_a0_undos u_a0_undoMany u_a0_heardBy u_a0_heardAt u_a0_heardMany u_a0_tellsAt u_a0_tellMany u_a0_metAt u_a0_metBeat u_a0_round u_a0_z m_a0_deaf m_a0_many m_a0_slow m_a1) [some (.ref q_a0), some (.ref q_a1), some (.int l2), some (.int l3)] 20 []) (hK20_59 : ∀ (m_a1 : Nat → Int32), K20_59 m_a1 = some out → V X cX12_asTold "FarDrumModel" 0 0 (wX12_asTold (xG X) q_a0 q_a0_deaf q_a0_many q_a0_slow q_a1 u_a0_thrown u_a0_trace u_a0_text u_a0_typed u_a0_next u_a0_token u_a0_place u_a0_value u_a0_fault u_a0_lengths u_a0_told u_a0_s u_a0_w u_a0_kept u_a0_isKept u_a0_undos u_a0_undoMany u_a0_heardBy u_a0_heardAt u_a0_heardMany u_a0_tellsAt u_a0_tellMany u_a0_metAt u_a0_metBeat u_a0_round u_a0_z m_a0_deaf m_a0_many m_a0_slow m_a1) [some (.ref q_a0), some (.ref q_a1), some (.int l2), none] 59 []) (hf : fX12_asTold_20 B20 K20_59 l3 m_a0_deaf m_a0_many m_a0_slow m_a1 = some out) : V X cX12_asTold "FarDrumModel" 0 0 (wX12_asTold (xG X) q_a0 q_a0_deaf q_a0_many q_a0_slow q_a1 u_a0_thrown u_a0_trace u_a0_text u_a0_typed u_a0_next u_a0_token u_a0_place u_a0_value u_a0_fault u_a0_lengths u_a0_told u_a0_s u_a0_w u_a0_kept u_a0_isKept u_a0_undos u_a0_undoMany u_a0_heardBy u_a0_heardAt u_a0_heardMany u_a0_tellsAt u_a0_tellMany u_a0_metAt u_a0_metBeat u_a0_round u_a0_z m_a0_deaf m_a0_many m_a0_slow m_a1) [some (.ref q_a0), some (.ref q_a1), some (.int l2), some (.int l3)] 20 [] := by
  unfold fX12_asTold_20 at hf
  refine V.iloadn (pc := 20) dX12_asTold_20 rfl ?_
  refine V.aloadn (pc := 21) dX12_asTold_21 rfl ?_
  refine V.getf (q := 0) (pc := 22) dX12_asTold_22 fk_X12_13_12 rfl rfl ?_
  refine V.iconst (pc := 25) (v := 0) dX12_asTold_25 (by decide) ?_
  refine V.ialdC (pc := 26) (q := 2) 0 dX12_asTold_26 rfl ⟨vp_c (by decide), by decide⟩ ?_
  refine V.icmp_ge (pc := 27) (tgt := 59) dX12_asTold_27 (by decide) hf (fun hf => ?_) (fun hf => ?_)
  · refine V.mask (pc := 59) [true, true, true, false] rfl rfl ?_
    exact hK20_59 _ hf
  · refine V.aloadn (pc := 30) dX12_asTold_30 rfl ?_
    refine V.iconst (pc := 31) (v := 4) dX12_asTold_31 (by decide) ?_
    refine V.iloadn (pc := 32) dX12_asTold_32 rfl ?_
    refine V.iadd (pc := 33) dX12_asTold_33 ?_
    refine V.aloadn (pc := 34) dX12_asTold_34 rfl ?_
    refine V.getf (q := 0) (pc := 35) dX12_asTold_35 fk_X12_16_12 rfl rfl ?_
    refine V.iloadn (pc := 38) dX12_asTold_38 rfl ?_
    refine V.iald (pc := 39) (q := 3) dX12_asTold_39 rfl hf (fun x39 hf => ?_)
    refine V.iast (pc := 40) (q := 4) (wd' := fun g40 => wX12_asTold (xG X) q_a0 q_a0_deaf q_a0_many q_a0_slow q_a1 u_a0_thrown u_a0_trace u_a0_text u_a0_typed u_a0_next u_a0_token u_a0_place u_a0_value u_a0_fault u_a0_lengths u_a0_told u_a0_s u_a0_w u_a0_kept u_a0_isKept u_a0_undos u_a0_undoMany u_a0_heardBy u_a0_heardAt u_a0_heardMany u_a0_tellsAt u_a0_tellMany u_a0_metAt u_a0_metBeat u_a0_round u_a0_z m_a0_deaf m_a0_many m_a0_slow g40) dX12_asTold_40 rfl hf (fun _ => rfl) (fun g40 hf => ?_)
    refine V.aloadn (pc := 41) dX12_asTold_41 rfl ?_
    refine V.bipush (pc := 42) (v := 10) dX12_asTold_42 (by decide) ?_
    refine V.iloadn (pc := 44) dX12_asTold_44 rfl ?_
    refine V.iadd (pc := 45) dX12_asTold_45 ?_
    refine V.aloadn (pc := 46) dX12_asTold_46 rfl ?_
    refine V.getf (q := 0) (pc := 47) dX12_asTold_47 fk_X12_19_12 rfl rfl ?_
    refine V.iloadn (pc := 50) dX12_asTold_50 rfl ?_
    refine V.iald (pc := 51) (q := 1) dX12_asTold_51 rfl hf (fun x51 hf => ?_)
    refine V.iast (pc := 52) (q := 4) (wd' := fun g52 => wX12_asTold (xG X) q_a0 q_a0_deaf q_a0_many q_a0_slow q_a1 u_a0_thrown u_a0_trace u_a0_text u_a0_typed u_a0_next u_a0_token u_a0_place u_a0_value u_a0_fault u_a0_lengths u_a0_told u_a0_s u_a0_w u_a0_kept u_a0_isKept u_a0_undos u_a0_undoMany u_a0_heardBy u_a0_heardAt u_a0_heardMany u_a0_tellsAt u_a0_tellMany u_a0_metAt u_a0_metBeat u_a0_round u_a0_z m_a0_deaf m_a0_many m_a0_slow g52) dX12_asTold_52 rfl hf (fun _ => rfl) (fun g52 hf => ?_)
    refine V.iinc (pc := 53) (v := 1) dX12_asTold_53 rfl rfl (by decide) rfl ?_
    refine V.goto (pc := 56) (tgt := 20) dX12_asTold_56 (by decide) ?_
    exact hB20 _ _ hf
theorem tX12_asTold_L20 {out : (Nat → Int32)} (hX : xk X = kX12_asTold) (hQ : xQ X = qE none (wX12_asTold (xG X) q_a0 q_a0_deaf q_a0_many q_a0_slow q_a1 u_a0_thrown u_a0_trace u_a0_text u_a0_typed u_a0_next u_a0_token u_a0_place u_a0_value u_a0_fault u_a0_lengths u_a0_told u_a0_s u_a0_w u_a0_kept u_a0_isKept u_a0_undos u_a0_undoMany u_a0_heardBy u_a0_heardAt u_a0_heardMany u_a0_tellsAt u_a0_tellMany u_a0_metAt u_a0_metBeat u_a0_round u_a0_z m_a0_deaf m_a0_many m_a0_slow out)) {K20_59 : (Nat → Int32) → Option ((Nat → Int32))} (hK20_59 : ∀ (m_a1 : Nat → Int32), K20_59 m_a1 = some out → V X cX12_asTold "FarDrumModel" 0 0 (wX12_asTold (xG X) q_a0 q_a0_deaf q_a0_many q_a0_slow q_a1 u_a0_thrown u_a0_trace u_a0_text u_a0_typed u_a0_next u_a0_token u_a0_place u_a0_value u_a0_fault u_a0_lengths u_a0_told u_a0_s u_a0_w u_a0_kept u_a0_isKept u_a0_undos u_a0_undoMany u_a0_heardBy u_a0_heardAt u_a0_heardMany u_a0_tellsAt u_a0_tellMany u_a0_metAt u_a0_metBeat u_a0_round u_a0_z m_a0_deaf m_a0_many m_a0_slow m_a1) [some (.ref q_a0), some (.ref q_a1), some (.int l2), none] 59 []) : ∀ (n : Nat) (l3 : Int32) (m_a1 : Nat → Int32), fX12_asTold_L20 m_a0_deaf m_a0_many m_a0_slow K20_59 n l3 m_a1 = some out → V X cX12_asTold "FarDrumModel" 0 0 (wX12_asTold (xG X) q_a0 q_a0_deaf q_a0_many q_a0_slow q_a1 u_a0_thrown u_a0_trace u_a0_text u_a0_typed u_a0_next u_a0_token u_a0_place u_a0_value u_a0_fault u_a0_lengths u_a0_told u_a0_s u_a0_w u_a0_kept u_a0_isKept u_a0_undos u_a0_undoMany u_a0_heardBy u_a0_heardAt u_a0_heardMany u_a0_tellsAt u_a0_tellMany u_a0_metAt u_a0_metBeat u_a0_round u_a0_z m_a0_deaf m_a0_many m_a0_slow m_a1) [some (.ref q_a0), some (.ref q_a1), some (.int l2), some (.int l3)] 20 [] := by
  intro n
  induction n with
  | zero => intro l3 m_a1 hf; cases hf
  | succ n ih => intro l3 m_a1 hf; exact tX12_asTold_20 hX hQ ih hK20_59 hf
set_option maxRecDepth 20000 in
theorem tX12_asTold_83 {out : (Nat → Int32)} (hX : xk X = kX12_asTold) (hQ : xQ X = qE none (wX12_asTold (xG X) q_a0 q_a0_deaf q_a0_many q_a0_slow q_a1 u_a0_thrown u_a0_trace u_a0_text u_a0_typed u_a0_next u_a0_token u_a0_place u_a0_value u_a0_fault u_a0_lengths u_a0_told u_a0_s u_a0_w u_a0_kept u_a0_isKept u_a0_undos u_a0_undoMany u_a0_heardBy u_a0_heardAt u_a0_heardMany u_a0_tellsAt u_a0_tellMany u_a0_metAt u_a0_metBeat u_a0_round u_a0_z m_a0_deaf m_a0_many m_a0_slow out)) (hf : fX12_asTold_83 m_a1 = some out) : V X cX12_asTold "FarDrumModel" 0 0 (wX12_asTold (xG X) q_a0 q_a0_deaf q_a0_many q_a0_slow q_a1 u_a0_thrown u_a0_trace u_a0_text u_a0_typed u_a0_next u_a0_token u_a0_place u_a0_value u_a0_fault u_a0_lengths u_a0_told u_a0_s u_a0_w u_a0_kept u_a0_isKept u_a0_undos u_a0_undoMany u_a0_heardBy u_a0_heardAt u_a0_heardMany u_a0_tellsAt u_a0_tellMany u_a0_metAt u_a0_metBeat u_a0_round u_a0_z m_a0_deaf m_a0_many m_a0_slow m_a1) [none, none, none, none] 83 [] := by
  unfold fX12_asTold_83 at hf
  exact V.vretE (pc := 83) hX kX12_asTold_r hQ dX12_asTold_83 (by cases hf; rfl) (by cases hf; rfl)
set_option maxRecDepth 20000 in
theorem tX12_asTold_0 {out : (Nat → Int32)} (hX : xk X = kX12_asTold) (hQ : xQ X = qE none (wX12_asTold (xG X) q_a0 q_a0_deaf q_a0_many q_a0_slow q_a1 u_a0_thrown u_a0_trace u_a0_text u_a0_typed u_a0_next u_a0_token u_a0_place u_a0_value u_a0_fault u_a0_lengths u_a0_told u_a0_s u_a0_w u_a0_kept u_a0_isKept u_a0_undos u_a0_undoMany u_a0_heardBy u_a0_heardAt u_a0_heardMany u_a0_tellsAt u_a0_tellMany u_a0_metAt u_a0_metBeat u_a0_round u_a0_z m_a0_deaf m_a0_many m_a0_slow out)) (hf : fX12_asTold N l2 m_a0_deaf m_a0_many m_a0_slow m_a1 = some out) : V X cX12_asTold "FarDrumModel" 0 0 (wX12_asTold (xG X) q_a0 q_a0_deaf q_a0_many q_a0_slow q_a1 u_a0_thrown u_a0_trace u_a0_text u_a0_typed u_a0_next u_a0_token u_a0_place u_a0_value u_a0_fault u_a0_lengths u_a0_told u_a0_s u_a0_w u_a0_kept u_a0_isKept u_a0_undos u_a0_undoMany u_a0_heardBy u_a0_heardAt u_a0_heardMany u_a0_tellsAt u_a0_tellMany u_a0_metAt u_a0_metBeat u_a0_round u_a0_z m_a0_deaf m_a0_many m_a0_slow m_a1) [some (.ref q_a0), some (.ref q_a1), some (.int l2), none] 0 [] := by
  unfold fX12_asTold at hf
  refine V.iconst (pc := 0) (v := 0) dX12_asTold_0 (by decide) ?_
  refine V.istoren (pc := 1) dX12_asTold_1 rfl rfl rfl ?_
  refine tX12_asTold_L2 hX hQ ?_ _ _ _ hf
  · intro m_a1k2_18 hf
    refine V.iconst (pc := 18) (v := 0) dX12_asTold_18 (by decide) ?_
    refine V.istoren (pc := 19) dX12_asTold_19 rfl rfl rfl ?_
    refine tX12_asTold_L20 hX hQ ?_ _ _ _ hf
    · intro m_a1k20_59 hf
      refine V.aloadn (pc := 59) dX12_asTold_59 rfl ?_
      refine V.getf (q := 0) (pc := 60) dX12_asTold_60 fk_X12_13_12 rfl rfl ?_
      refine V.iconst (pc := 63) (v := 0) dX12_asTold_63 (by decide) ?_
      refine V.ialdC (pc := 64) (q := 2) 0 dX12_asTold_64 rfl ⟨vp_c (by decide), by decide⟩ ?_
      refine V.if_le (pc := 65) (tgt := 83) dX12_asTold_65 (by decide) hf (fun hf => ?_) (fun hf => ?_)
      · refine V.mask (pc := 83) [false, false, false, false] rfl rfl ?_
        exact tX12_asTold_83 hX hQ hf
      · refine V.aloadn (pc := 68) dX12_asTold_68 rfl ?_
        refine V.iconst (pc := 69) (v := 0) dX12_asTold_69 (by decide) ?_
        refine V.iconst (pc := 70) (v := 1) dX12_asTold_70 (by decide) ?_
        refine V.iastC (pc := 71) (q := 4) (wd' := fun g71 => wX12_asTold (xG X) q_a0 q_a0_deaf q_a0_many q_a0_slow q_a1 u_a0_thrown u_a0_trace u_a0_text u_a0_typed u_a0_next u_a0_token u_a0_place u_a0_value u_a0_fault u_a0_lengths u_a0_told u_a0_s u_a0_w u_a0_kept u_a0_isKept u_a0_undos u_a0_undoMany u_a0_heardBy u_a0_heardAt u_a0_heardMany u_a0_tellsAt u_a0_tellMany u_a0_metAt u_a0_metBeat u_a0_round u_a0_z m_a0_deaf m_a0_many m_a0_slow g71) 0 dX12_asTold_71 rfl ⟨vp_c (by decide), by decide⟩ hf (fun _ => rfl) (fun g71 hf => ?_)
        refine V.aloadn (pc := 72) dX12_asTold_72 rfl ?_
        refine V.iconst (pc := 73) (v := 2) dX12_asTold_73 (by decide) ?_
        refine V.iloadn (pc := 74) dX12_asTold_74 rfl ?_
        refine V.iastC (pc := 75) (q := 4) (wd' := fun g75 => wX12_asTold (xG X) q_a0 q_a0_deaf q_a0_many q_a0_slow q_a1 u_a0_thrown u_a0_trace u_a0_text u_a0_typed u_a0_next u_a0_token u_a0_place u_a0_value u_a0_fault u_a0_lengths u_a0_told u_a0_s u_a0_w u_a0_kept u_a0_isKept u_a0_undos u_a0_undoMany u_a0_heardBy u_a0_heardAt u_a0_heardMany u_a0_tellsAt u_a0_tellMany u_a0_metAt u_a0_metBeat u_a0_round u_a0_z m_a0_deaf m_a0_many m_a0_slow g75) 2 dX12_asTold_75 rfl ⟨vp_c (by decide), by decide⟩ hf (fun _ => rfl) (fun g75 hf => ?_)
        refine V.aloadn (pc := 76) dX12_asTold_76 rfl ?_
        refine V.bipush (pc := 77) (v := 29) dX12_asTold_77 (by decide) ?_
        refine V.iloadn (pc := 79) dX12_asTold_79 rfl ?_
        refine V.iadd (pc := 80) dX12_asTold_80 ?_
        refine V.iconst (pc := 81) (v := 1) dX12_asTold_81 (by decide) ?_
        refine V.iast (pc := 82) (q := 4) (wd' := fun g82 => wX12_asTold (xG X) q_a0 q_a0_deaf q_a0_many q_a0_slow q_a1 u_a0_thrown u_a0_trace u_a0_text u_a0_typed u_a0_next u_a0_token u_a0_place u_a0_value u_a0_fault u_a0_lengths u_a0_told u_a0_s u_a0_w u_a0_kept u_a0_isKept u_a0_undos u_a0_undoMany u_a0_heardBy u_a0_heardAt u_a0_heardMany u_a0_tellsAt u_a0_tellMany u_a0_metAt u_a0_metBeat u_a0_round u_a0_z m_a0_deaf m_a0_many m_a0_slow g82) dX12_asTold_82 rfl hf (fun _ => rfl) (fun g82 hf => ?_)
        refine V.mask (pc := 83) [false, false, false, false] rfl rfl ?_
        exact tX12_asTold_83 hX hQ hf
end
theorem oX12_asTold {l : Launch} {G : GT} {N : Nat} {q_a0 : Nat} {q_a0_deaf : Nat} {q_a0_many : Nat} {q_a0_slow : Nat} {q_a1 : Nat} {u_a0_thrown : Value} {u_a0_trace : Value} {u_a0_text : Value} {u_a0_typed : Value} {u_a0_next : Value} {u_a0_token : Value} {u_a0_place : Value} {u_a0_value : Value} {u_a0_fault : Value} {u_a0_lengths : Value} {u_a0_told : Value} {u_a0_s : Value} {u_a0_w : Value} {u_a0_kept : Value} {u_a0_isKept : Value} {u_a0_undos : Value} {u_a0_undoMany : Value} {u_a0_heardBy : Value} {u_a0_heardAt : Value} {u_a0_heardMany : Value} {u_a0_tellsAt : Value} {u_a0_tellMany : Value} {u_a0_metAt : Value} {u_a0_metBeat : Value} {u_a0_round : Value} {u_a0_z : Value} {m_a0_deaf : Nat → Int32} {m_a0_many : Nat → Int32} {m_a0_slow : Nat → Int32} {m_a1 : Nat → Int32} {l2 : Int32} {out : (Nat → Int32)} (hf : fX12_asTold N l2 m_a0_deaf m_a0_many m_a0_slow m_a1 = some out) : Ct (l, G, kX12_asTold, wX12_asTold G q_a0 q_a0_deaf q_a0_many q_a0_slow q_a1 u_a0_thrown u_a0_trace u_a0_text u_a0_typed u_a0_next u_a0_token u_a0_place u_a0_value u_a0_fault u_a0_lengths u_a0_told u_a0_s u_a0_w u_a0_kept u_a0_isKept u_a0_undos u_a0_undoMany u_a0_heardBy u_a0_heardAt u_a0_heardMany u_a0_tellsAt u_a0_tellMany u_a0_metAt u_a0_metBeat u_a0_round u_a0_z m_a0_deaf m_a0_many m_a0_slow m_a1, [.ref q_a0, .ref q_a1, .int l2], qE none (wX12_asTold G q_a0 q_a0_deaf q_a0_many q_a0_slow q_a1 u_a0_thrown u_a0_trace u_a0_text u_a0_typed u_a0_next u_a0_token u_a0_place u_a0_value u_a0_fault u_a0_lengths u_a0_told u_a0_s u_a0_w u_a0_kept u_a0_isKept u_a0_undos u_a0_undoMany u_a0_heardBy u_a0_heardAt u_a0_heardMany u_a0_tellsAt u_a0_tellMany u_a0_metAt u_a0_metBeat u_a0_round u_a0_z m_a0_deaf m_a0_many m_a0_slow out)) :=
  Ct.of [some (.ref q_a0), some (.ref q_a1), some (.int l2), none] kX12_asTold_p rfl rfl rfl ((tX12_asTold_0 (X := (l, G, kX12_asTold, wX12_asTold G q_a0 q_a0_deaf q_a0_many q_a0_slow q_a1 u_a0_thrown u_a0_trace u_a0_text u_a0_typed u_a0_next u_a0_token u_a0_place u_a0_value u_a0_fault u_a0_lengths u_a0_told u_a0_s u_a0_w u_a0_kept u_a0_isKept u_a0_undos u_a0_undoMany u_a0_heardBy u_a0_heardAt u_a0_heardMany u_a0_tellsAt u_a0_tellMany u_a0_metAt u_a0_metBeat u_a0_round u_a0_z m_a0_deaf m_a0_many m_a0_slow m_a1, [.ref q_a0, .ref q_a1, .int l2], qE none (wX12_asTold G q_a0 q_a0_deaf q_a0_many q_a0_slow q_a1 u_a0_thrown u_a0_trace u_a0_text u_a0_typed u_a0_next u_a0_token u_a0_place u_a0_value u_a0_fault u_a0_lengths u_a0_told u_a0_s u_a0_w u_a0_kept u_a0_isKept u_a0_undos u_a0_undoMany u_a0_heardBy u_a0_heardAt u_a0_heardMany u_a0_tellsAt u_a0_tellMany u_a0_metAt u_a0_metBeat u_a0_round u_a0_z m_a0_deaf m_a0_many m_a0_slow out))) rfl rfl hf))

theorem lkb_X12_asTold : LkB kX12_asTold 2 := ⟨kw_4_146, kw_1_13, ⟨by decide, by decide⟩, by decide +kernel, by decide⟩
theorem lkV_X12_120 : LkV "FarDrumModel" 120 kX12_asTold 2 := ⟨lkb_X12_asTold, kw_4_143, kw_4_145, kp_33⟩
def wX12_isHeard (G : GT) (q_a0 : Nat) (q_a0_deaf : Nat) (q_a0_lengths : Nat) (q_a0_many : Nat) (q_a0_slow : Nat) (q_a0_w : Nat) (u_a0_thrown : Value) (u_a0_trace : Value) (u_a0_text : Value) (u_a0_typed : Value) (u_a0_next : Value) (u_a0_token : Value) (u_a0_place : Value) (u_a0_value : Value) (u_a0_fault : Value) (u_a0_told : Value) (u_a0_s : Value) (u_a0_kept : Value) (u_a0_isKept : Value) (u_a0_undos : Value) (u_a0_undoMany : Value) (u_a0_heardBy : Value) (u_a0_heardAt : Value) (u_a0_heardMany : Value) (u_a0_tellsAt : Value) (u_a0_tellMany : Value) (u_a0_metAt : Value) (u_a0_metBeat : Value) (u_a0_round : Value) (u_a0_z : Value) (m_a0_deaf : Nat → Int32) (m_a0_lengths : Nat → Int32) (m_a0_many : Nat → Int32) (m_a0_slow : Nat → Int32) (m_a0_w : Nat → Int32) : va_W := [(q_a0, .inr (12, [u_a0_thrown, u_a0_trace, u_a0_text, u_a0_typed, u_a0_next, u_a0_token, u_a0_place, u_a0_value, u_a0_fault, .ref q_a0_many, .ref q_a0_slow, .ref q_a0_deaf, .ref q_a0_lengths, u_a0_told, u_a0_s, .ref q_a0_w, u_a0_kept, u_a0_isKept, u_a0_undos, u_a0_undoMany, u_a0_heardBy, u_a0_heardAt, u_a0_heardMany, u_a0_tellsAt, u_a0_tellMany, u_a0_metAt, u_a0_metBeat, u_a0_round, u_a0_z])), (q_a0_deaf, .inl (G.2 0, 12, .inl m_a0_deaf)), (q_a0_lengths, .inl (G.2 0, 72, .inl m_a0_lengths)), (q_a0_many, .inl (G.2 0, 6, .inl m_a0_many)), (q_a0_slow, .inl (G.2 0, 12, .inl m_a0_slow)), (q_a0_w, .inl (G.2 0, 35, .inl m_a0_w))]
def kX12_isHeard : KT := (yX12_isHeard, cX12_isHeard, 7, (some .boolean), 3, 0, 0)
theorem kX12_isHeard_r : kr kX12_isHeard = (some .boolean) ∧ kmc kX12_isHeard = 0 ∧ kms kX12_isHeard = 0 := ⟨rfl, rfl, rfl⟩
theorem kX12_isHeard_p : plainName (ky kX12_isHeard).cls = true := by decide +kernel
def fX12_isHeard_77 (B15 : Int32 → Int32 → (Nat → Int32) → Option (Int32 × (Nat → Int32))) (N : Nat) (s0 : Int32) (m_a0_lengths : Nat → Int32) (m_a0_many : Nat → Int32) (m_a0_w : Nat → Int32) : Option (Int32 × (Nat → Int32)) :=
  Option.bind (fX12_goes N m_a0_lengths m_a0_many m_a0_w) fun o84 =>
  B15 s0 o84.1 o84.2
def fX12_isHeard_72 (B15 : Int32 → Int32 → (Nat → Int32) → Option (Int32 × (Nat → Int32))) (N : Nat) (m_a0_lengths : Nat → Int32) (m_a0_many : Nat → Int32) (m_a0_w : Nat → Int32) : Option (Int32 × (Nat → Int32)) :=
  fX12_isHeard_77 B15 N (1 : Int32) m_a0_lengths m_a0_many m_a0_w
def fX12_isHeard_76 (B15 : Int32 → Int32 → (Nat → Int32) → Option (Int32 × (Nat → Int32))) (N : Nat) (m_a0_lengths : Nat → Int32) (m_a0_many : Nat → Int32) (m_a0_w : Nat → Int32) : Option (Int32 × (Nat → Int32)) :=
  fX12_isHeard_77 B15 N (0 : Int32) m_a0_lengths m_a0_many m_a0_w
def fX12_isHeard_15 (B15 : Int32 → Int32 → (Nat → Int32) → Option (Int32 × (Nat → Int32))) (K15_92 : Int32 → (Nat → Int32) → Option (Int32 × (Nat → Int32))) (N : Nat) (l2 : Int32) (l3 : Int32) (l4 : Int32) (l5 : Int32) (m_a0_lengths : Nat → Int32) (m_a0_many : Nat → Int32) (m_a0_w : Nat → Int32) : Option (Int32 × (Nat → Int32)) :=
  if l5 = 0 then (K15_92 l4 m_a0_w)
  else (if l3 < (m_a0_w 1) then (K15_92 l4 m_a0_w)
  else (Option.bind (fX12_hearsIn N l2 (m_a0_w 2) m_a0_lengths m_a0_many m_a0_w) fun o42 =>
  if l4 = 0 then (if o42 = (-9 : Int32) then (fX12_isHeard_76 B15 N m_a0_lengths m_a0_many m_a0_w)
  else (if ((m_a0_w 1) + o42) = l3 then (fX12_isHeard_72 B15 N m_a0_lengths m_a0_many m_a0_w)
  else (fX12_isHeard_76 B15 N m_a0_lengths m_a0_many m_a0_w)))
  else (fX12_isHeard_72 B15 N m_a0_lengths m_a0_many m_a0_w)))
def fX12_isHeard_L15 (N : Nat) (l2 : Int32) (l3 : Int32) (m_a0_lengths : Nat → Int32) (m_a0_many : Nat → Int32) (K15_92 : Int32 → (Nat → Int32) → Option (Int32 × (Nat → Int32))) : Nat → Int32 → Int32 → (Nat → Int32) → Option (Int32 × (Nat → Int32))
  | 0, _, _, _ => none
  | n + 1, l4, l5, m_a0_w => fX12_isHeard_15 (fX12_isHeard_L15 N l2 l3 m_a0_lengths m_a0_many K15_92 n) K15_92 N l2 l3 l4 l5 m_a0_lengths m_a0_many m_a0_w
def fX12_isHeard (N : Nat) (l1 : Int32) (l2 : Int32) (l3 : Int32) (m_a0_deaf : Nat → Int32) (m_a0_lengths : Nat → Int32) (m_a0_many : Nat → Int32) (m_a0_slow : Nat → Int32) (m_a0_w : Nat → Int32) : Option (Int32 × (Nat → Int32)) :=
  Option.bind (fX12_asTold N l1 m_a0_deaf m_a0_many m_a0_slow m_a0_w) fun o6 =>
  fX12_isHeard_L15 N l2 l3 m_a0_lengths m_a0_many
      (fun l4k15_92 m_a0_wk15_92 => bz l4k15_92 <| 
  some (l4k15_92, m_a0_wk15_92)) N (0 : Int32) (1 : Int32) o6
section
variable {X : XT} {N : Nat} {q_a0 : Nat} {q_a0_deaf : Nat} {q_a0_lengths : Nat} {q_a0_many : Nat} {q_a0_slow : Nat} {q_a0_w : Nat} {u_a0_thrown : Value} {u_a0_trace : Value} {u_a0_text : Value} {u_a0_typed : Value} {u_a0_next : Value} {u_a0_token : Value} {u_a0_place : Value} {u_a0_value : Value} {u_a0_fault : Value} {u_a0_told : Value} {u_a0_s : Value} {u_a0_kept : Value} {u_a0_isKept : Value} {u_a0_undos : Value} {u_a0_undoMany : Value} {u_a0_heardBy : Value} {u_a0_heardAt : Value} {u_a0_heardMany : Value} {u_a0_tellsAt : Value} {u_a0_tellMany : Value} {u_a0_metAt : Value} {u_a0_metBeat : Value} {u_a0_round : Value} {u_a0_z : Value} {m_a0_deaf : Nat → Int32} {m_a0_lengths : Nat → Int32} {m_a0_many : Nat → Int32} {m_a0_slow : Nat → Int32} {m_a0_w : Nat → Int32} {l1 : Int32} {l2 : Int32} {l3 : Int32} {l4 : Int32} {l5 : Int32} {s0 : Int32}
set_option maxRecDepth 20000 in
theorem tX12_isHeard_77 {out : Int32 × (Nat → Int32)} (hX : xk X = kX12_isHeard) (hQ : xQ X = qE (some (.int out.1)) (wX12_isHeard (xG X) q_a0 q_a0_deaf q_a0_lengths q_a0_many q_a0_slow q_a0_w u_a0_thrown u_a0_trace u_a0_text u_a0_typed u_a0_next u_a0_token u_a0_place u_a0_value u_a0_fault u_a0_told u_a0_s u_a0_kept u_a0_isKept u_a0_undos u_a0_undoMany u_a0_heardBy u_a0_heardAt u_a0_heardMany u_a0_tellsAt u_a0_tellMany u_a0_metAt u_a0_metBeat u_a0_round u_a0_z m_a0_deaf m_a0_lengths m_a0_many m_a0_slow out.2)) {B15 : Int32 → Int32 → (Nat → Int32) → Option (Int32 × (Nat → Int32))} (hB15 : ∀ (l4 : Int32) (l5 : Int32) (m_a0_w : Nat → Int32), B15 l4 l5 m_a0_w = some out → V X cX12_isHeard "FarDrumModel" 0 0 (wX12_isHeard (xG X) q_a0 q_a0_deaf q_a0_lengths q_a0_many q_a0_slow q_a0_w u_a0_thrown u_a0_trace u_a0_text u_a0_typed u_a0_next u_a0_token u_a0_place u_a0_value u_a0_fault u_a0_told u_a0_s u_a0_kept u_a0_isKept u_a0_undos u_a0_undoMany u_a0_heardBy u_a0_heardAt u_a0_heardMany u_a0_tellsAt u_a0_tellMany u_a0_metAt u_a0_metBeat u_a0_round u_a0_z m_a0_deaf m_a0_lengths m_a0_many m_a0_slow m_a0_w) [some (.ref q_a0), none, some (.int l2), some (.int l3), some (.int l4), some (.int l5), none] 15 []) (hf : fX12_isHeard_77 B15 N s0 m_a0_lengths m_a0_many m_a0_w = some out) : V X cX12_isHeard "FarDrumModel" 0 0 (wX12_isHeard (xG X) q_a0 q_a0_deaf q_a0_lengths q_a0_many q_a0_slow q_a0_w u_a0_thrown u_a0_trace u_a0_text u_a0_typed u_a0_next u_a0_token u_a0_place u_a0_value u_a0_fault u_a0_told u_a0_s u_a0_kept u_a0_isKept u_a0_undos u_a0_undoMany u_a0_heardBy u_a0_heardAt u_a0_heardMany u_a0_tellsAt u_a0_tellMany u_a0_metAt u_a0_metBeat u_a0_round u_a0_z m_a0_deaf m_a0_lengths m_a0_many m_a0_slow m_a0_w) [some (.ref q_a0), none, some (.int l2), some (.int l3), none, none, none] 77 [.int s0] := by
  unfold fX12_isHeard_77 at hf
  refine V.istore (pc := 77) dX12_isHeard_77 rfl rfl rfl ?_
  refine V.aloadn (pc := 79) dX12_isHeard_79 rfl ?_
  refine V.aloadn (pc := 80) dX12_isHeard_80 rfl ?_
  refine V.getf (q := 0) (pc := 81) dX12_isHeard_81 fk_X12_28_12 rfl rfl ?_
  refine V.callVi (pc := 84) (q := 0) (wr := [(q_a0_deaf, .inl ((xG X).2 0, 12, .inl m_a0_deaf)), (q_a0_slow, .inl ((xG X).2 0, 12, .inl m_a0_slow))]) (wd' := fun o84 => wX12_isHeard (xG X) q_a0 q_a0_deaf q_a0_lengths q_a0_many q_a0_slow q_a0_w u_a0_thrown u_a0_trace u_a0_text u_a0_typed u_a0_next u_a0_token u_a0_place u_a0_value u_a0_fault u_a0_told u_a0_s u_a0_kept u_a0_isKept u_a0_undos u_a0_undoMany u_a0_heardBy u_a0_heardAt u_a0_heardMany u_a0_tellsAt u_a0_tellMany u_a0_metAt u_a0_metBeat u_a0_round u_a0_z m_a0_deaf m_a0_lengths m_a0_many m_a0_slow o84.2) [.ref q_a0_w] (st := []) hf (fun _ h => oX12_goes (q_a0 := q_a0) (q_a0_lengths := q_a0_lengths) (q_a0_many := q_a0_many) (q_a1 := q_a0_w) (u_a0_thrown := u_a0_thrown) (u_a0_trace := u_a0_trace) (u_a0_text := u_a0_text) (u_a0_typed := u_a0_typed) (u_a0_next := u_a0_next) (u_a0_token := u_a0_token) (u_a0_place := u_a0_place) (u_a0_value := u_a0_value) (u_a0_fault := u_a0_fault) (u_a0_slow := ((.ref q_a0_slow))) (u_a0_deaf := ((.ref q_a0_deaf))) (u_a0_told := u_a0_told) (u_a0_s := u_a0_s) (u_a0_w := ((.ref q_a0_w))) (u_a0_kept := u_a0_kept) (u_a0_isKept := u_a0_isKept) (u_a0_undos := u_a0_undos) (u_a0_undoMany := u_a0_undoMany) (u_a0_heardBy := u_a0_heardBy) (u_a0_heardAt := u_a0_heardAt) (u_a0_heardMany := u_a0_heardMany) (u_a0_tellsAt := u_a0_tellsAt) (u_a0_tellMany := u_a0_tellMany) (u_a0_metAt := u_a0_metAt) (u_a0_metBeat := u_a0_metBeat) (u_a0_round := u_a0_round) (u_a0_z := u_a0_z) (m_a0_lengths := m_a0_lengths) (m_a0_many := m_a0_many) (m_a1 := m_a0_w) h) lkV_X12_151 dX12_isHeard_84 hX rfl ⟨rfl, rfl⟩ ⟨rfl, rfl⟩ rfl rfl rfl rfl rfl [0, 2, 3, 5] [1, 4] [2, 0, 3, 4, 1, 5] rfl rfl rfl rfl rfl (fun _ => rfl) rfl (fun o84 hf => ?_)
  refine V.istore (pc := 87) dX12_isHeard_87 rfl rfl rfl ?_
  refine V.goto (pc := 89) (tgt := 15) dX12_isHeard_89 (by decide) ?_
  exact hB15 _ _ _ hf
set_option maxRecDepth 20000 in
theorem tX12_isHeard_72 {out : Int32 × (Nat → Int32)} (hX : xk X = kX12_isHeard) (hQ : xQ X = qE (some (.int out.1)) (wX12_isHeard (xG X) q_a0 q_a0_deaf q_a0_lengths q_a0_many q_a0_slow q_a0_w u_a0_thrown u_a0_trace u_a0_text u_a0_typed u_a0_next u_a0_token u_a0_place u_a0_value u_a0_fault u_a0_told u_a0_s u_a0_kept u_a0_isKept u_a0_undos u_a0_undoMany u_a0_heardBy u_a0_heardAt u_a0_heardMany u_a0_tellsAt u_a0_tellMany u_a0_metAt u_a0_metBeat u_a0_round u_a0_z m_a0_deaf m_a0_lengths m_a0_many m_a0_slow out.2)) {B15 : Int32 → Int32 → (Nat → Int32) → Option (Int32 × (Nat → Int32))} (hB15 : ∀ (l4 : Int32) (l5 : Int32) (m_a0_w : Nat → Int32), B15 l4 l5 m_a0_w = some out → V X cX12_isHeard "FarDrumModel" 0 0 (wX12_isHeard (xG X) q_a0 q_a0_deaf q_a0_lengths q_a0_many q_a0_slow q_a0_w u_a0_thrown u_a0_trace u_a0_text u_a0_typed u_a0_next u_a0_token u_a0_place u_a0_value u_a0_fault u_a0_told u_a0_s u_a0_kept u_a0_isKept u_a0_undos u_a0_undoMany u_a0_heardBy u_a0_heardAt u_a0_heardMany u_a0_tellsAt u_a0_tellMany u_a0_metAt u_a0_metBeat u_a0_round u_a0_z m_a0_deaf m_a0_lengths m_a0_many m_a0_slow m_a0_w) [some (.ref q_a0), none, some (.int l2), some (.int l3), some (.int l4), some (.int l5), none] 15 []) (hf : fX12_isHeard_72 B15 N m_a0_lengths m_a0_many m_a0_w = some out) : V X cX12_isHeard "FarDrumModel" 0 0 (wX12_isHeard (xG X) q_a0 q_a0_deaf q_a0_lengths q_a0_many q_a0_slow q_a0_w u_a0_thrown u_a0_trace u_a0_text u_a0_typed u_a0_next u_a0_token u_a0_place u_a0_value u_a0_fault u_a0_told u_a0_s u_a0_kept u_a0_isKept u_a0_undos u_a0_undoMany u_a0_heardBy u_a0_heardAt u_a0_heardMany u_a0_tellsAt u_a0_tellMany u_a0_metAt u_a0_metBeat u_a0_round u_a0_z m_a0_deaf m_a0_lengths m_a0_many m_a0_slow m_a0_w) [some (.ref q_a0), none, some (.int l2), some (.int l3), none, none, none] 72 [] := by
  unfold fX12_isHeard_72 at hf
  refine V.iconst (pc := 72) (v := 1) dX12_isHeard_72 (by decide) ?_
  refine V.goto (pc := 73) (tgt := 77) dX12_isHeard_73 (by decide) ?_
  exact tX12_isHeard_77 hX hQ hB15 hf
set_option maxRecDepth 20000 in
theorem tX12_isHeard_76 {out : Int32 × (Nat → Int32)} (hX : xk X = kX12_isHeard) (hQ : xQ X = qE (some (.int out.1)) (wX12_isHeard (xG X) q_a0 q_a0_deaf q_a0_lengths q_a0_many q_a0_slow q_a0_w u_a0_thrown u_a0_trace u_a0_text u_a0_typed u_a0_next u_a0_token u_a0_place u_a0_value u_a0_fault u_a0_told u_a0_s u_a0_kept u_a0_isKept u_a0_undos u_a0_undoMany u_a0_heardBy u_a0_heardAt u_a0_heardMany u_a0_tellsAt u_a0_tellMany u_a0_metAt u_a0_metBeat u_a0_round u_a0_z m_a0_deaf m_a0_lengths m_a0_many m_a0_slow out.2)) {B15 : Int32 → Int32 → (Nat → Int32) → Option (Int32 × (Nat → Int32))} (hB15 : ∀ (l4 : Int32) (l5 : Int32) (m_a0_w : Nat → Int32), B15 l4 l5 m_a0_w = some out → V X cX12_isHeard "FarDrumModel" 0 0 (wX12_isHeard (xG X) q_a0 q_a0_deaf q_a0_lengths q_a0_many q_a0_slow q_a0_w u_a0_thrown u_a0_trace u_a0_text u_a0_typed u_a0_next u_a0_token u_a0_place u_a0_value u_a0_fault u_a0_told u_a0_s u_a0_kept u_a0_isKept u_a0_undos u_a0_undoMany u_a0_heardBy u_a0_heardAt u_a0_heardMany u_a0_tellsAt u_a0_tellMany u_a0_metAt u_a0_metBeat u_a0_round u_a0_z m_a0_deaf m_a0_lengths m_a0_many m_a0_slow m_a0_w) [some (.ref q_a0), none, some (.int l2), some (.int l3), some (.int l4), some (.int l5), none] 15 []) (hf : fX12_isHeard_76 B15 N m_a0_lengths m_a0_many m_a0_w = some out) : V X cX12_isHeard "FarDrumModel" 0 0 (wX12_isHeard (xG X) q_a0 q_a0_deaf q_a0_lengths q_a0_many q_a0_slow q_a0_w u_a0_thrown u_a0_trace u_a0_text u_a0_typed u_a0_next u_a0_token u_a0_place u_a0_value u_a0_fault u_a0_told u_a0_s u_a0_kept u_a0_isKept u_a0_undos u_a0_undoMany u_a0_heardBy u_a0_heardAt u_a0_heardMany u_a0_tellsAt u_a0_tellMany u_a0_metAt u_a0_metBeat u_a0_round u_a0_z m_a0_deaf m_a0_lengths m_a0_many m_a0_slow m_a0_w) [some (.ref q_a0), none, some (.int l2), some (.int l3), none, none, none] 76 [] := by
  unfold fX12_isHeard_76 at hf
  refine V.iconst (pc := 76) (v := 0) dX12_isHeard_76 (by decide) ?_
  exact tX12_isHeard_77 hX hQ hB15 hf
set_option maxRecDepth 20000 in
theorem tX12_isHeard_15 {out : Int32 × (Nat → Int32)} (hX : xk X = kX12_isHeard) (hQ : xQ X = qE (some (.int out.1)) (wX12_isHeard (xG X) q_a0 q_a0_deaf q_a0_lengths q_a0_many q_a0_slow q_a0_w u_a0_thrown u_a0_trace u_a0_text u_a0_typed u_a0_next u_a0_token u_a0_place u_a0_value u_a0_fault u_a0_told u_a0_s u_a0_kept u_a0_isKept u_a0_undos u_a0_undoMany u_a0_heardBy u_a0_heardAt u_a0_heardMany u_a0_tellsAt u_a0_tellMany u_a0_metAt u_a0_metBeat u_a0_round u_a0_z m_a0_deaf m_a0_lengths m_a0_many m_a0_slow out.2)) {B15 : Int32 → Int32 → (Nat → Int32) → Option (Int32 × (Nat → Int32))} {K15_92 : Int32 → (Nat → Int32) → Option (Int32 × (Nat → Int32))} (hB15 : ∀ (l4 : Int32) (l5 : Int32) (m_a0_w : Nat → Int32), B15 l4 l5 m_a0_w = some out → V X cX12_isHeard "FarDrumModel" 0 0 (wX12_isHeard (xG X) q_a0 q_a0_deaf q_a0_lengths q_a0_many q_a0_slow q_a0_w u_a0_thrown u_a0_trace u_a0_text u_a0_typed u_a0_next u_a0_token u_a0_place u_a0_value u_a0_fault u_a0_told u_a0_s u_a0_kept u_a0_isKept u_a0_undos u_a0_undoMany u_a0_heardBy u_a0_heardAt u_a0_heardMany u_a0_tellsAt u_a0_tellMany u_a0_metAt u_a0_metBeat u_a0_round u_a0_z m_a0_deaf m_a0_lengths m_a0_many m_a0_slow m_a0_w) [some (.ref q_a0), none, some (.int l2), some (.int l3), some (.int l4), some (.int l5), none] 15 []) (hK15_92 : ∀ (l4 : Int32) (m_a0_w : Nat → Int32), K15_92 l4 m_a0_w = some out → V X cX12_isHeard "FarDrumModel" 0 0 (wX12_isHeard (xG X) q_a0 q_a0_deaf q_a0_lengths q_a0_many q_a0_slow q_a0_w u_a0_thrown u_a0_trace u_a0_text u_a0_typed u_a0_next u_a0_token u_a0_place u_a0_value u_a0_fault u_a0_told u_a0_s u_a0_kept u_a0_isKept u_a0_undos u_a0_undoMany u_a0_heardBy u_a0_heardAt u_a0_heardMany u_a0_tellsAt u_a0_tellMany u_a0_metAt u_a0_metBeat u_a0_round u_a0_z m_a0_deaf m_a0_lengths m_a0_many m_a0_slow m_a0_w) [none, none, none, none, some (.int l4), none, none] 92 []) (hf : fX12_isHeard_15 B15 K15_92 N l2 l3 l4 l5 m_a0_lengths m_a0_many m_a0_w = some out) : V X cX12_isHeard "FarDrumModel" 0 0 (wX12_isHeard (xG X) q_a0 q_a0_deaf q_a0_lengths q_a0_many q_a0_slow q_a0_w u_a0_thrown u_a0_trace u_a0_text u_a0_typed u_a0_next u_a0_token u_a0_place u_a0_value u_a0_fault u_a0_told u_a0_s u_a0_kept u_a0_isKept u_a0_undos u_a0_undoMany u_a0_heardBy u_a0_heardAt u_a0_heardMany u_a0_tellsAt u_a0_tellMany u_a0_metAt u_a0_metBeat u_a0_round u_a0_z m_a0_deaf m_a0_lengths m_a0_many m_a0_slow m_a0_w) [some (.ref q_a0), none, some (.int l2), some (.int l3), some (.int l4), some (.int l5), none] 15 [] := by
  unfold fX12_isHeard_15 at hf
  refine V.iload (pc := 15) dX12_isHeard_15 rfl ?_
  refine V.if_eq (pc := 17) (tgt := 92) dX12_isHeard_17 (by decide) hf (fun hf => ?_) (fun hf => ?_)
  · refine V.mask (pc := 92) [false, false, false, false, true, false, false] rfl rfl ?_
    exact hK15_92 _ _ hf
  · refine V.aloadn (pc := 20) dX12_isHeard_20 rfl ?_
    refine V.getf (q := 0) (pc := 21) dX12_isHeard_21 fk_X12_28_12 rfl rfl ?_
    refine V.iconst (pc := 24) (v := 1) dX12_isHeard_24 (by decide) ?_
    refine V.ialdC (pc := 25) (q := 5) 1 dX12_isHeard_25 rfl ⟨vp_c (by decide), by decide⟩ ?_
    refine V.iloadn (pc := 26) dX12_isHeard_26 rfl ?_
    refine V.icmp_gt (pc := 27) (tgt := 92) dX12_isHeard_27 (by decide) hf (fun hf => ?_) (fun hf => ?_)
    · refine V.mask (pc := 92) [false, false, false, false, true, false, false] rfl rfl ?_
      exact hK15_92 _ _ hf
    · refine V.aloadn (pc := 30) dX12_isHeard_30 rfl ?_
      refine V.aloadn (pc := 31) dX12_isHeard_31 rfl ?_
      refine V.getf (q := 0) (pc := 32) dX12_isHeard_32 fk_X12_28_12 rfl rfl ?_
      refine V.iloadn (pc := 35) dX12_isHeard_35 rfl ?_
      refine V.aloadn (pc := 36) dX12_isHeard_36 rfl ?_
      refine V.getf (q := 0) (pc := 37) dX12_isHeard_37 fk_X12_28_12 rfl rfl ?_
      refine V.iconst (pc := 40) (v := 2) dX12_isHeard_40 (by decide) ?_
      refine V.ialdC (pc := 41) (q := 5) 2 dX12_isHeard_41 rfl ⟨vp_c (by decide), by decide⟩ ?_
      refine V.callVi (pc := 42) (q := 0) (wr := [(q_a0_deaf, .inl ((xG X).2 0, 12, .inl m_a0_deaf)), (q_a0_slow, .inl ((xG X).2 0, 12, .inl m_a0_slow))]) (wd' := fun o42 => wX12_isHeard (xG X) q_a0 q_a0_deaf q_a0_lengths q_a0_many q_a0_slow q_a0_w u_a0_thrown u_a0_trace u_a0_text u_a0_typed u_a0_next u_a0_token u_a0_place u_a0_value u_a0_fault u_a0_told u_a0_s u_a0_kept u_a0_isKept u_a0_undos u_a0_undoMany u_a0_heardBy u_a0_heardAt u_a0_heardMany u_a0_tellsAt u_a0_tellMany u_a0_metAt u_a0_metBeat u_a0_round u_a0_z m_a0_deaf m_a0_lengths m_a0_many m_a0_slow m_a0_w) [.ref q_a0_w, .int l2, .int (m_a0_w 2)] (st := []) hf (fun _ h => oX12_hearsIn (q_a0 := q_a0) (q_a0_lengths := q_a0_lengths) (q_a0_many := q_a0_many) (q_a1 := q_a0_w) (u_a0_thrown := u_a0_thrown) (u_a0_trace := u_a0_trace) (u_a0_text := u_a0_text) (u_a0_typed := u_a0_typed) (u_a0_next := u_a0_next) (u_a0_token := u_a0_token) (u_a0_place := u_a0_place) (u_a0_value := u_a0_value) (u_a0_fault := u_a0_fault) (u_a0_slow := ((.ref q_a0_slow))) (u_a0_deaf := ((.ref q_a0_deaf))) (u_a0_told := u_a0_told) (u_a0_s := u_a0_s) (u_a0_w := ((.ref q_a0_w))) (u_a0_kept := u_a0_kept) (u_a0_isKept := u_a0_isKept) (u_a0_undos := u_a0_undos) (u_a0_undoMany := u_a0_undoMany) (u_a0_heardBy := u_a0_heardBy) (u_a0_heardAt := u_a0_heardAt) (u_a0_heardMany := u_a0_heardMany) (u_a0_tellsAt := u_a0_tellsAt) (u_a0_tellMany := u_a0_tellMany) (u_a0_metAt := u_a0_metAt) (u_a0_metBeat := u_a0_metBeat) (u_a0_round := u_a0_round) (u_a0_z := u_a0_z) (m_a0_lengths := m_a0_lengths) (m_a0_many := m_a0_many) (m_a1 := m_a0_w) (l2 := l2) (l3 := (m_a0_w 2)) h) lkV_X12_140 dX12_isHeard_42 hX rfl ⟨rfl, rfl⟩ ⟨rfl, rfl⟩ rfl rfl rfl rfl rfl [0, 2, 3, 5] [1, 4] [2, 0, 3, 4, 1, 5] rfl rfl rfl rfl rfl (fun _ => rfl) rfl (fun o42 hf => ?_)
      refine V.istore (pc := 45) dX12_isHeard_45 rfl rfl rfl ?_
      refine V.iload (pc := 47) dX12_isHeard_47 rfl ?_
      refine V.if_ne (pc := 49) (tgt := 72) dX12_isHeard_49 (by decide) hf (fun hf => ?_) (fun hf => ?_)
      · refine V.mask (pc := 72) [true, false, true, true, false, false, false] rfl rfl ?_
        exact tX12_isHeard_72 hX hQ hB15 hf
      · refine V.iload (pc := 52) dX12_isHeard_52 rfl ?_
        refine V.bipush (pc := 54) (v := -9) dX12_isHeard_54 (by decide) ?_
        refine V.icmp_eq (pc := 56) (tgt := 76) dX12_isHeard_56 (by decide) hf (fun hf => ?_) (fun hf => ?_)
        · refine V.mask (pc := 76) [true, false, true, true, false, false, false] rfl rfl ?_
          exact tX12_isHeard_76 hX hQ hB15 hf
        · refine V.aloadn (pc := 59) dX12_isHeard_59 rfl ?_
          refine V.getf (q := 0) (pc := 60) dX12_isHeard_60 fk_X12_28_12 rfl rfl ?_
          refine V.iconst (pc := 63) (v := 1) dX12_isHeard_63 (by decide) ?_
          refine V.ialdC (pc := 64) (q := 5) 1 dX12_isHeard_64 rfl ⟨vp_c (by decide), by decide⟩ ?_
          refine V.iload (pc := 65) dX12_isHeard_65 rfl ?_
          refine V.iadd (pc := 67) dX12_isHeard_67 ?_
          refine V.iloadn (pc := 68) dX12_isHeard_68 rfl ?_
          refine V.icmp_ne (pc := 69) (tgt := 76) dX12_isHeard_69 (by decide) hf (fun hf => ?_) (fun hf => ?_)
          · refine V.mask (pc := 76) [true, false, true, true, false, false, false] rfl rfl ?_
            exact tX12_isHeard_76 hX hQ hB15 hf
          · refine V.mask (pc := 72) [true, false, true, true, false, false, false] rfl rfl ?_
            exact tX12_isHeard_72 hX hQ hB15 hf
theorem tX12_isHeard_L15 {out : Int32 × (Nat → Int32)} (hX : xk X = kX12_isHeard) (hQ : xQ X = qE (some (.int out.1)) (wX12_isHeard (xG X) q_a0 q_a0_deaf q_a0_lengths q_a0_many q_a0_slow q_a0_w u_a0_thrown u_a0_trace u_a0_text u_a0_typed u_a0_next u_a0_token u_a0_place u_a0_value u_a0_fault u_a0_told u_a0_s u_a0_kept u_a0_isKept u_a0_undos u_a0_undoMany u_a0_heardBy u_a0_heardAt u_a0_heardMany u_a0_tellsAt u_a0_tellMany u_a0_metAt u_a0_metBeat u_a0_round u_a0_z m_a0_deaf m_a0_lengths m_a0_many m_a0_slow out.2)) {K15_92 : Int32 → (Nat → Int32) → Option (Int32 × (Nat → Int32))} (hK15_92 : ∀ (l4 : Int32) (m_a0_w : Nat → Int32), K15_92 l4 m_a0_w = some out → V X cX12_isHeard "FarDrumModel" 0 0 (wX12_isHeard (xG X) q_a0 q_a0_deaf q_a0_lengths q_a0_many q_a0_slow q_a0_w u_a0_thrown u_a0_trace u_a0_text u_a0_typed u_a0_next u_a0_token u_a0_place u_a0_value u_a0_fault u_a0_told u_a0_s u_a0_kept u_a0_isKept u_a0_undos u_a0_undoMany u_a0_heardBy u_a0_heardAt u_a0_heardMany u_a0_tellsAt u_a0_tellMany u_a0_metAt u_a0_metBeat u_a0_round u_a0_z m_a0_deaf m_a0_lengths m_a0_many m_a0_slow m_a0_w) [none, none, none, none, some (.int l4), none, none] 92 []) : ∀ (n : Nat) (l4 : Int32) (l5 : Int32) (m_a0_w : Nat → Int32), fX12_isHeard_L15 N l2 l3 m_a0_lengths m_a0_many K15_92 n l4 l5 m_a0_w = some out → V X cX12_isHeard "FarDrumModel" 0 0 (wX12_isHeard (xG X) q_a0 q_a0_deaf q_a0_lengths q_a0_many q_a0_slow q_a0_w u_a0_thrown u_a0_trace u_a0_text u_a0_typed u_a0_next u_a0_token u_a0_place u_a0_value u_a0_fault u_a0_told u_a0_s u_a0_kept u_a0_isKept u_a0_undos u_a0_undoMany u_a0_heardBy u_a0_heardAt u_a0_heardMany u_a0_tellsAt u_a0_tellMany u_a0_metAt u_a0_metBeat u_a0_round u_a0_z m_a0_deaf m_a0_lengths m_a0_many m_a0_slow m_a0_w) [some (.ref q_a0), none, some (.int l2), some (.int l3), some (.int l4), some (.int l5), none] 15 [] := by
  intro n
  induction n with
  | zero => intro l4 l5 m_a0_w hf; cases hf
  | succ n ih => intro l4 l5 m_a0_w hf; exact tX12_isHeard_15 hX hQ ih hK15_92 hf
set_option maxRecDepth 20000 in
theorem tX12_isHeard_0 {out : Int32 × (Nat → Int32)} (hX : xk X = kX12_isHeard) (hQ : xQ X = qE (some (.int out.1)) (wX12_isHeard (xG X) q_a0 q_a0_deaf q_a0_lengths q_a0_many q_a0_slow q_a0_w u_a0_thrown u_a0_trace u_a0_text u_a0_typed u_a0_next u_a0_token u_a0_place u_a0_value u_a0_fault u_a0_told u_a0_s u_a0_kept u_a0_isKept u_a0_undos u_a0_undoMany u_a0_heardBy u_a0_heardAt u_a0_heardMany u_a0_tellsAt u_a0_tellMany u_a0_metAt u_a0_metBeat u_a0_round u_a0_z m_a0_deaf m_a0_lengths m_a0_many m_a0_slow out.2)) (hf : fX12_isHeard N l1 l2 l3 m_a0_deaf m_a0_lengths m_a0_many m_a0_slow m_a0_w = some out) : V X cX12_isHeard "FarDrumModel" 0 0 (wX12_isHeard (xG X) q_a0 q_a0_deaf q_a0_lengths q_a0_many q_a0_slow q_a0_w u_a0_thrown u_a0_trace u_a0_text u_a0_typed u_a0_next u_a0_token u_a0_place u_a0_value u_a0_fault u_a0_told u_a0_s u_a0_kept u_a0_isKept u_a0_undos u_a0_undoMany u_a0_heardBy u_a0_heardAt u_a0_heardMany u_a0_tellsAt u_a0_tellMany u_a0_metAt u_a0_metBeat u_a0_round u_a0_z m_a0_deaf m_a0_lengths m_a0_many m_a0_slow m_a0_w) [some (.ref q_a0), some (.int l1), some (.int l2), some (.int l3), none, none, none] 0 [] := by
  unfold fX12_isHeard at hf
  refine V.aloadn (pc := 0) dX12_isHeard_0 rfl ?_
  refine V.aloadn (pc := 1) dX12_isHeard_1 rfl ?_
  refine V.getf (q := 0) (pc := 2) dX12_isHeard_2 fk_X12_28_12 rfl rfl ?_
  refine V.iloadn (pc := 5) dX12_isHeard_5 rfl ?_
  refine V.callVv (pc := 6) (q := 0) (wr := [(q_a0_lengths, .inl ((xG X).2 0, 72, .inl m_a0_lengths))]) (wd' := fun o6 => wX12_isHeard (xG X) q_a0 q_a0_deaf q_a0_lengths q_a0_many q_a0_slow q_a0_w u_a0_thrown u_a0_trace u_a0_text u_a0_typed u_a0_next u_a0_token u_a0_place u_a0_value u_a0_fault u_a0_told u_a0_s u_a0_kept u_a0_isKept u_a0_undos u_a0_undoMany u_a0_heardBy u_a0_heardAt u_a0_heardMany u_a0_tellsAt u_a0_tellMany u_a0_metAt u_a0_metBeat u_a0_round u_a0_z m_a0_deaf m_a0_lengths m_a0_many m_a0_slow o6) [.ref q_a0_w, .int l1] (st := []) hf (fun _ h => oX12_asTold (q_a0 := q_a0) (q_a0_deaf := q_a0_deaf) (q_a0_many := q_a0_many) (q_a0_slow := q_a0_slow) (q_a1 := q_a0_w) (u_a0_thrown := u_a0_thrown) (u_a0_trace := u_a0_trace) (u_a0_text := u_a0_text) (u_a0_typed := u_a0_typed) (u_a0_next := u_a0_next) (u_a0_token := u_a0_token) (u_a0_place := u_a0_place) (u_a0_value := u_a0_value) (u_a0_fault := u_a0_fault) (u_a0_lengths := ((.ref q_a0_lengths))) (u_a0_told := u_a0_told) (u_a0_s := u_a0_s) (u_a0_w := ((.ref q_a0_w))) (u_a0_kept := u_a0_kept) (u_a0_isKept := u_a0_isKept) (u_a0_undos := u_a0_undos) (u_a0_undoMany := u_a0_undoMany) (u_a0_heardBy := u_a0_heardBy) (u_a0_heardAt := u_a0_heardAt) (u_a0_heardMany := u_a0_heardMany) (u_a0_tellsAt := u_a0_tellsAt) (u_a0_tellMany := u_a0_tellMany) (u_a0_metAt := u_a0_metAt) (u_a0_metBeat := u_a0_metBeat) (u_a0_round := u_a0_round) (u_a0_z := u_a0_z) (m_a0_deaf := m_a0_deaf) (m_a0_many := m_a0_many) (m_a0_slow := m_a0_slow) (m_a1 := m_a0_w) (l2 := l1) h) lkV_X12_120 dX12_isHeard_6 hX rfl ⟨rfl, rfl⟩ ⟨rfl, rfl⟩ rfl rfl rfl rfl rfl [0, 1, 3, 4, 5] [2] [1, 2, 0, 3, 4, 5] rfl rfl rfl rfl rfl (fun _ => rfl) rfl (fun o6 hf => ?_)
  refine V.iconst (pc := 9) (v := 0) dX12_isHeard_9 (by decide) ?_
  refine V.istore (pc := 10) dX12_isHeard_10 rfl rfl rfl ?_
  refine V.iconst (pc := 12) (v := 1) dX12_isHeard_12 (by decide) ?_
  refine V.istore (pc := 13) dX12_isHeard_13 rfl rfl rfl ?_
  refine V.mask (pc := 15) [true, false, true, true, true, true, false] rfl rfl ?_
  refine tX12_isHeard_L15 hX hQ ?_ _ _ _ _ hf
  · intro l4k15_92 m_a0_wk15_92 hf
    refine V.iload (pc := 92) dX12_isHeard_92 rfl ?_
    obtain ⟨hz, hf⟩ := bz_ok hf
    exact V.zretE (pc := 94) hX kX12_isHeard_r hQ hz dX12_isHeard_94 (by cases hf; rfl) (by cases hf; rfl)
end
theorem oX12_isHeard {l : Launch} {G : GT} {N : Nat} {q_a0 : Nat} {q_a0_deaf : Nat} {q_a0_lengths : Nat} {q_a0_many : Nat} {q_a0_slow : Nat} {q_a0_w : Nat} {u_a0_thrown : Value} {u_a0_trace : Value} {u_a0_text : Value} {u_a0_typed : Value} {u_a0_next : Value} {u_a0_token : Value} {u_a0_place : Value} {u_a0_value : Value} {u_a0_fault : Value} {u_a0_told : Value} {u_a0_s : Value} {u_a0_kept : Value} {u_a0_isKept : Value} {u_a0_undos : Value} {u_a0_undoMany : Value} {u_a0_heardBy : Value} {u_a0_heardAt : Value} {u_a0_heardMany : Value} {u_a0_tellsAt : Value} {u_a0_tellMany : Value} {u_a0_metAt : Value} {u_a0_metBeat : Value} {u_a0_round : Value} {u_a0_z : Value} {m_a0_deaf : Nat → Int32} {m_a0_lengths : Nat → Int32} {m_a0_many : Nat → Int32} {m_a0_slow : Nat → Int32} {m_a0_w : Nat → Int32} {l1 : Int32} {l2 : Int32} {l3 : Int32} {out : Int32 × (Nat → Int32)} (hf : fX12_isHeard N l1 l2 l3 m_a0_deaf m_a0_lengths m_a0_many m_a0_slow m_a0_w = some out) : Ct (l, G, kX12_isHeard, wX12_isHeard G q_a0 q_a0_deaf q_a0_lengths q_a0_many q_a0_slow q_a0_w u_a0_thrown u_a0_trace u_a0_text u_a0_typed u_a0_next u_a0_token u_a0_place u_a0_value u_a0_fault u_a0_told u_a0_s u_a0_kept u_a0_isKept u_a0_undos u_a0_undoMany u_a0_heardBy u_a0_heardAt u_a0_heardMany u_a0_tellsAt u_a0_tellMany u_a0_metAt u_a0_metBeat u_a0_round u_a0_z m_a0_deaf m_a0_lengths m_a0_many m_a0_slow m_a0_w, [.ref q_a0, .int l1, .int l2, .int l3], qE (some (.int out.1)) (wX12_isHeard G q_a0 q_a0_deaf q_a0_lengths q_a0_many q_a0_slow q_a0_w u_a0_thrown u_a0_trace u_a0_text u_a0_typed u_a0_next u_a0_token u_a0_place u_a0_value u_a0_fault u_a0_told u_a0_s u_a0_kept u_a0_isKept u_a0_undos u_a0_undoMany u_a0_heardBy u_a0_heardAt u_a0_heardMany u_a0_tellsAt u_a0_tellMany u_a0_metAt u_a0_metBeat u_a0_round u_a0_z m_a0_deaf m_a0_lengths m_a0_many m_a0_slow out.2)) :=
  Ct.of [some (.ref q_a0), some (.int l1), some (.int l2), some (.int l3), none, none, none] kX12_isHeard_p rfl rfl rfl ((tX12_isHeard_0 (X := (l, G, kX12_isHeard, wX12_isHeard G q_a0 q_a0_deaf q_a0_lengths q_a0_many q_a0_slow q_a0_w u_a0_thrown u_a0_trace u_a0_text u_a0_typed u_a0_next u_a0_token u_a0_place u_a0_value u_a0_fault u_a0_told u_a0_s u_a0_kept u_a0_isKept u_a0_undos u_a0_undoMany u_a0_heardBy u_a0_heardAt u_a0_heardMany u_a0_tellsAt u_a0_tellMany u_a0_metAt u_a0_metBeat u_a0_round u_a0_z m_a0_deaf m_a0_lengths m_a0_many m_a0_slow m_a0_w, [.ref q_a0, .int l1, .int l2, .int l3], qE (some (.int out.1)) (wX12_isHeard G q_a0 q_a0_deaf q_a0_lengths q_a0_many q_a0_slow q_a0_w u_a0_thrown u_a0_trace u_a0_text u_a0_typed u_a0_next u_a0_token u_a0_place u_a0_value u_a0_fault u_a0_told u_a0_s u_a0_kept u_a0_isKept u_a0_undos u_a0_undoMany u_a0_heardBy u_a0_heardAt u_a0_heardMany u_a0_tellsAt u_a0_tellMany u_a0_metAt u_a0_metBeat u_a0_round u_a0_z m_a0_deaf m_a0_lengths m_a0_many m_a0_slow out.2))) rfl rfl hf))

theorem lkb_X12_isHeard : LkB kX12_isHeard 3 := ⟨kw_5_41, kw_1_13, ⟨by decide, by decide⟩, by decide +kernel, by decide⟩
theorem lkV_X12_179 : LkV "FarDrumModel" 179 kX12_isHeard 3 := ⟨lkb_X12_isHeard, kw_5_38, kw_5_40, kp_46⟩
def wX12_mayBe (G : GT) (q_a0 : Nat) (q_a0_deaf : Nat) (q_a0_heardAt : Nat) (q_a0_heardBy : Nat) (q_a0_lengths : Nat) (q_a0_many : Nat) (q_a0_slow : Nat) (q_a0_w : Nat) (v_a0_thrown : Int32) (u_a0_trace : Value) (u_a0_text : Value) (u_a0_typed : Value) (u_a0_next : Value) (u_a0_token : Value) (u_a0_place : Value) (u_a0_value : Value) (u_a0_fault : Value) (u_a0_told : Value) (u_a0_s : Value) (u_a0_kept : Value) (u_a0_isKept : Value) (u_a0_undos : Value) (u_a0_undoMany : Value) (v_a0_heardMany : Int32) (u_a0_tellsAt : Value) (u_a0_tellMany : Value) (u_a0_metAt : Value) (u_a0_metBeat : Value) (u_a0_round : Value) (u_a0_z : Value) (m_a0_deaf : Nat → Int32) (m_a0_heardAt : Nat → Int32) (m_a0_heardBy : Nat → Int32) (m_a0_lengths : Nat → Int32) (m_a0_many : Nat → Int32) (m_a0_slow : Nat → Int32) (m_a0_w : Nat → Int32) : va_W := [(q_a0, .inr (12, [.int v_a0_thrown, u_a0_trace, u_a0_text, u_a0_typed, u_a0_next, u_a0_token, u_a0_place, u_a0_value, u_a0_fault, .ref q_a0_many, .ref q_a0_slow, .ref q_a0_deaf, .ref q_a0_lengths, u_a0_told, u_a0_s, .ref q_a0_w, u_a0_kept, u_a0_isKept, u_a0_undos, u_a0_undoMany, .ref q_a0_heardBy, .ref q_a0_heardAt, .int v_a0_heardMany, u_a0_tellsAt, u_a0_tellMany, u_a0_metAt, u_a0_metBeat, u_a0_round, u_a0_z])), (q_a0_deaf, .inl (G.2 0, 12, .inl m_a0_deaf)), (q_a0_heardAt, .inl (G.2 0, 5, .inl m_a0_heardAt)), (q_a0_heardBy, .inl (G.2 0, 5, .inl m_a0_heardBy)), (q_a0_lengths, .inl (G.2 0, 72, .inl m_a0_lengths)), (q_a0_many, .inl (G.2 0, 6, .inl m_a0_many)), (q_a0_slow, .inl (G.2 0, 12, .inl m_a0_slow)), (q_a0_w, .inl (G.2 0, 35, .inl m_a0_w))]
def kX12_mayBe : KT := (yX12_mayBe, cX12_mayBe, 5, (some .int), 4, 0, 0)
theorem kX12_mayBe_r : kr kX12_mayBe = (some .int) ∧ kmc kX12_mayBe = 0 ∧ kms kX12_mayBe = 0 := ⟨rfl, rfl, rfl⟩
theorem kX12_mayBe_p : plainName (ky kX12_mayBe).cls = true := by decide +kernel
def fX12_mayBe_64 (B24 : Int32 → Int32 → (Nat → Int32) → Option (Int32 × Int32 × (Nat → Int32))) (l4 : Int32) (s0 : Int32) (m_a0_w : Nat → Int32) : Option (Int32 × Int32 × (Nat → Int32)) :=
  B24 s0 (l4 + (1 : Int32)) m_a0_w
def fX12_mayBe_63 (B24 : Int32 → Int32 → (Nat → Int32) → Option (Int32 × Int32 × (Nat → Int32))) (l4 : Int32) (m_a0_w : Nat → Int32) : Option (Int32 × Int32 × (Nat → Int32)) :=
  fX12_mayBe_64 B24 l4 (0 : Int32) m_a0_w
def fX12_mayBe_24 (B24 : Int32 → Int32 → (Nat → Int32) → Option (Int32 × Int32 × (Nat → Int32))) (K24_71 : Int32 → (Nat → Int32) → Option (Int32 × Int32 × (Nat → Int32))) (N : Nat) (l2 : Int32) (l3 : Int32) (l4 : Int32) (v_a0_heardMany : Int32) (m_a0_deaf : Nat → Int32) (m_a0_heardAt : Nat → Int32) (m_a0_heardBy : Nat → Int32) (m_a0_lengths : Nat → Int32) (m_a0_many : Nat → Int32) (m_a0_slow : Nat → Int32) (m_a0_w : Nat → Int32) : Option (Int32 × Int32 × (Nat → Int32)) :=
  if v_a0_heardMany ≤ l4 then (K24_71 l3 m_a0_w)
  else (if l3 = 0 then (fX12_mayBe_63 B24 l4 m_a0_w)
  else (rdi 5 m_a0_heardBy l4 fun x45 =>
  rdi 5 m_a0_heardAt l4 fun x52 =>
  Option.bind (fX12_isHeard N l2 x45 x52 m_a0_deaf m_a0_lengths m_a0_many m_a0_slow m_a0_w) fun o53 =>
  if o53.1 = 0 then (fX12_mayBe_63 B24 l4 o53.2)
  else (fX12_mayBe_64 B24 l4 (1 : Int32) o53.2)))
def fX12_mayBe_L24 (N : Nat) (l2 : Int32) (v_a0_heardMany : Int32) (m_a0_deaf : Nat → Int32) (m_a0_heardAt : Nat → Int32) (m_a0_heardBy : Nat → Int32) (m_a0_lengths : Nat → Int32) (m_a0_many : Nat → Int32) (m_a0_slow : Nat → Int32) (K24_71 : Int32 → (Nat → Int32) → Option (Int32 × Int32 × (Nat → Int32))) : Nat → Int32 → Int32 → (Nat → Int32) → Option (Int32 × Int32 × (Nat → Int32))
  | 0, _, _, _ => none
  | n + 1, l3, l4, m_a0_w => fX12_mayBe_24 (fX12_mayBe_L24 N l2 v_a0_heardMany m_a0_deaf m_a0_heardAt m_a0_heardBy m_a0_lengths m_a0_many m_a0_slow K24_71 n) K24_71 N l2 l3 l4 v_a0_heardMany m_a0_deaf m_a0_heardAt m_a0_heardBy m_a0_lengths m_a0_many m_a0_slow m_a0_w
def fX12_mayBe_83 (B9 : Int32 → Int32 → (Nat → Int32) → Option (Int32 × Int32 × (Nat → Int32))) (l2 : Int32) (s0 : Int32) (s1 : Int32) (m_a0_w : Nat → Int32) : Option (Int32 × Int32 × (Nat → Int32)) :=
  lti (s0 ||| s1) fun y84 =>
  B9 y84 (l2 + (1 : Int32)) m_a0_w
def fX12_mayBe_9 (B9 : Int32 → Int32 → (Nat → Int32) → Option (Int32 × Int32 × (Nat → Int32))) (K9_91 : Int32 → (Nat → Int32) → Option (Int32 × Int32 × (Nat → Int32))) (N : Nat) (l1 : Int32) (l2 : Int32) (v_a0_heardMany : Int32) (m_a0_deaf : Nat → Int32) (m_a0_heardAt : Nat → Int32) (m_a0_heardBy : Nat → Int32) (m_a0_lengths : Nat → Int32) (m_a0_many : Nat → Int32) (m_a0_slow : Nat → Int32) (m_a0_w : Nat → Int32) : Option (Int32 × Int32 × (Nat → Int32)) :=
  if (m_a0_many 0) ≤ l2 then (K9_91 l1 m_a0_w)
  else (fX12_mayBe_L24 N l2 v_a0_heardMany m_a0_deaf m_a0_heardAt m_a0_heardBy m_a0_lengths m_a0_many m_a0_slow
      (fun l3k24_71 m_a0_wk24_71 => if l3k24_71 = 0 then (fX12_mayBe_83 B9 l2 l1 (0 : Int32) m_a0_wk24_71)
  else (fX12_mayBe_83 B9 l2 l1 ((1 : Int32) <<< (l2 &&& 31)) m_a0_wk24_71)) N (1 : Int32) (0 : Int32) m_a0_w)
def fX12_mayBe_L9 (N : Nat) (v_a0_heardMany : Int32) (m_a0_deaf : Nat → Int32) (m_a0_heardAt : Nat → Int32) (m_a0_heardBy : Nat → Int32) (m_a0_lengths : Nat → Int32) (m_a0_many : Nat → Int32) (m_a0_slow : Nat → Int32) (K9_91 : Int32 → (Nat → Int32) → Option (Int32 × Int32 × (Nat → Int32))) : Nat → Int32 → Int32 → (Nat → Int32) → Option (Int32 × Int32 × (Nat → Int32))
  | 0, _, _, _ => none
  | n + 1, l1, l2, m_a0_w => fX12_mayBe_9 (fX12_mayBe_L9 N v_a0_heardMany m_a0_deaf m_a0_heardAt m_a0_heardBy m_a0_lengths m_a0_many m_a0_slow K9_91 n) K9_91 N l1 l2 v_a0_heardMany m_a0_deaf m_a0_heardAt m_a0_heardBy m_a0_lengths m_a0_many m_a0_slow m_a0_w
def fX12_mayBe (N : Nat) (v_a0_heardMany : Int32) (m_a0_deaf : Nat → Int32) (m_a0_heardAt : Nat → Int32) (m_a0_heardBy : Nat → Int32) (m_a0_lengths : Nat → Int32) (m_a0_many : Nat → Int32) (m_a0_slow : Nat → Int32) (m_a0_w : Nat → Int32) : Option (Int32 × Int32 × (Nat → Int32)) :=
  fX12_mayBe_L9 N v_a0_heardMany m_a0_deaf m_a0_heardAt m_a0_heardBy m_a0_lengths m_a0_many m_a0_slow
      (fun l1k9_91 m_a0_wk9_91 => some (l1k9_91, (0 : Int32), m_a0_wk9_91)) N (0 : Int32) (0 : Int32) m_a0_w
section
variable {X : XT} {N : Nat} {q_a0 : Nat} {q_a0_deaf : Nat} {q_a0_heardAt : Nat} {q_a0_heardBy : Nat} {q_a0_lengths : Nat} {q_a0_many : Nat} {q_a0_slow : Nat} {q_a0_w : Nat} {v_a0_thrown : Int32} {u_a0_trace : Value} {u_a0_text : Value} {u_a0_typed : Value} {u_a0_next : Value} {u_a0_token : Value} {u_a0_place : Value} {u_a0_value : Value} {u_a0_fault : Value} {u_a0_told : Value} {u_a0_s : Value} {u_a0_kept : Value} {u_a0_isKept : Value} {u_a0_undos : Value} {u_a0_undoMany : Value} {v_a0_heardMany : Int32} {u_a0_tellsAt : Value} {u_a0_tellMany : Value} {u_a0_metAt : Value} {u_a0_metBeat : Value} {u_a0_round : Value} {u_a0_z : Value} {m_a0_deaf : Nat → Int32} {m_a0_heardAt : Nat → Int32} {m_a0_heardBy : Nat → Int32} {m_a0_lengths : Nat → Int32} {m_a0_many : Nat → Int32} {m_a0_slow : Nat → Int32} {m_a0_w : Nat → Int32} {l1 : Int32} {l2 : Int32} {l3 : Int32} {l4 : Int32} {s0 : Int32} {s1 : Int32}
set_option maxRecDepth 20000 in
theorem tX12_mayBe_64 {out : Int32 × Int32 × (Nat → Int32)} (hX : xk X = kX12_mayBe) (hQ : xQ X = qE (some (.int out.1)) (wX12_mayBe (xG X) q_a0 q_a0_deaf q_a0_heardAt q_a0_heardBy q_a0_lengths q_a0_many q_a0_slow q_a0_w out.2.1 u_a0_trace u_a0_text u_a0_typed u_a0_next u_a0_token u_a0_place u_a0_value u_a0_fault u_a0_told u_a0_s u_a0_kept u_a0_isKept u_a0_undos u_a0_undoMany v_a0_heardMany u_a0_tellsAt u_a0_tellMany u_a0_metAt u_a0_metBeat u_a0_round u_a0_z m_a0_deaf m_a0_heardAt m_a0_heardBy m_a0_lengths m_a0_many m_a0_slow out.2.2)) {B24 : Int32 → Int32 → (Nat → Int32) → Option (Int32 × Int32 × (Nat → Int32))} (hB24 : ∀ (l3 : Int32) (l4 : Int32) (m_a0_w : Nat → Int32), B24 l3 l4 m_a0_w = some out → V X cX12_mayBe "FarDrumModel" 0 0 (wX12_mayBe (xG X) q_a0 q_a0_deaf q_a0_heardAt q_a0_heardBy q_a0_lengths q_a0_many q_a0_slow q_a0_w v_a0_thrown u_a0_trace u_a0_text u_a0_typed u_a0_next u_a0_token u_a0_place u_a0_value u_a0_fault u_a0_told u_a0_s u_a0_kept u_a0_isKept u_a0_undos u_a0_undoMany v_a0_heardMany u_a0_tellsAt u_a0_tellMany u_a0_metAt u_a0_metBeat u_a0_round u_a0_z m_a0_deaf m_a0_heardAt m_a0_heardBy m_a0_lengths m_a0_many m_a0_slow m_a0_w) [some (.ref q_a0), some (.int l1), some (.int l2), some (.int l3), some (.int l4)] 24 []) (hf : fX12_mayBe_64 B24 l4 s0 m_a0_w = some out) : V X cX12_mayBe "FarDrumModel" 0 0 (wX12_mayBe (xG X) q_a0 q_a0_deaf q_a0_heardAt q_a0_heardBy q_a0_lengths q_a0_many q_a0_slow q_a0_w v_a0_thrown u_a0_trace u_a0_text u_a0_typed u_a0_next u_a0_token u_a0_place u_a0_value u_a0_fault u_a0_told u_a0_s u_a0_kept u_a0_isKept u_a0_undos u_a0_undoMany v_a0_heardMany u_a0_tellsAt u_a0_tellMany u_a0_metAt u_a0_metBeat u_a0_round u_a0_z m_a0_deaf m_a0_heardAt m_a0_heardBy m_a0_lengths m_a0_many m_a0_slow m_a0_w) [some (.ref q_a0), some (.int l1), some (.int l2), none, some (.int l4)] 64 [.int s0] := by
  unfold fX12_mayBe_64 at hf
  refine V.istoren (pc := 64) dX12_mayBe_64 rfl rfl rfl ?_
  refine V.iinc (pc := 65) (v := 1) dX12_mayBe_65 rfl rfl (by decide) rfl ?_
  refine V.goto (pc := 68) (tgt := 24) dX12_mayBe_68 (by decide) ?_
  exact hB24 _ _ _ hf
set_option maxRecDepth 20000 in
theorem tX12_mayBe_63 {out : Int32 × Int32 × (Nat → Int32)} (hX : xk X = kX12_mayBe) (hQ : xQ X = qE (some (.int out.1)) (wX12_mayBe (xG X) q_a0 q_a0_deaf q_a0_heardAt q_a0_heardBy q_a0_lengths q_a0_many q_a0_slow q_a0_w out.2.1 u_a0_trace u_a0_text u_a0_typed u_a0_next u_a0_token u_a0_place u_a0_value u_a0_fault u_a0_told u_a0_s u_a0_kept u_a0_isKept u_a0_undos u_a0_undoMany v_a0_heardMany u_a0_tellsAt u_a0_tellMany u_a0_metAt u_a0_metBeat u_a0_round u_a0_z m_a0_deaf m_a0_heardAt m_a0_heardBy m_a0_lengths m_a0_many m_a0_slow out.2.2)) {B24 : Int32 → Int32 → (Nat → Int32) → Option (Int32 × Int32 × (Nat → Int32))} (hB24 : ∀ (l3 : Int32) (l4 : Int32) (m_a0_w : Nat → Int32), B24 l3 l4 m_a0_w = some out → V X cX12_mayBe "FarDrumModel" 0 0 (wX12_mayBe (xG X) q_a0 q_a0_deaf q_a0_heardAt q_a0_heardBy q_a0_lengths q_a0_many q_a0_slow q_a0_w v_a0_thrown u_a0_trace u_a0_text u_a0_typed u_a0_next u_a0_token u_a0_place u_a0_value u_a0_fault u_a0_told u_a0_s u_a0_kept u_a0_isKept u_a0_undos u_a0_undoMany v_a0_heardMany u_a0_tellsAt u_a0_tellMany u_a0_metAt u_a0_metBeat u_a0_round u_a0_z m_a0_deaf m_a0_heardAt m_a0_heardBy m_a0_lengths m_a0_many m_a0_slow m_a0_w) [some (.ref q_a0), some (.int l1), some (.int l2), some (.int l3), some (.int l4)] 24 []) (hf : fX12_mayBe_63 B24 l4 m_a0_w = some out) : V X cX12_mayBe "FarDrumModel" 0 0 (wX12_mayBe (xG X) q_a0 q_a0_deaf q_a0_heardAt q_a0_heardBy q_a0_lengths q_a0_many q_a0_slow q_a0_w v_a0_thrown u_a0_trace u_a0_text u_a0_typed u_a0_next u_a0_token u_a0_place u_a0_value u_a0_fault u_a0_told u_a0_s u_a0_kept u_a0_isKept u_a0_undos u_a0_undoMany v_a0_heardMany u_a0_tellsAt u_a0_tellMany u_a0_metAt u_a0_metBeat u_a0_round u_a0_z m_a0_deaf m_a0_heardAt m_a0_heardBy m_a0_lengths m_a0_many m_a0_slow m_a0_w) [some (.ref q_a0), some (.int l1), some (.int l2), none, some (.int l4)] 63 [] := by
  unfold fX12_mayBe_63 at hf
  refine V.iconst (pc := 63) (v := 0) dX12_mayBe_63 (by decide) ?_
  exact tX12_mayBe_64 hX hQ hB24 hf
set_option maxRecDepth 20000 in
theorem tX12_mayBe_24 {out : Int32 × Int32 × (Nat → Int32)} (hX : xk X = kX12_mayBe) (hQ : xQ X = qE (some (.int out.1)) (wX12_mayBe (xG X) q_a0 q_a0_deaf q_a0_heardAt q_a0_heardBy q_a0_lengths q_a0_many q_a0_slow q_a0_w out.2.1 u_a0_trace u_a0_text u_a0_typed u_a0_next u_a0_token u_a0_place u_a0_value u_a0_fault u_a0_told u_a0_s u_a0_kept u_a0_isKept u_a0_undos u_a0_undoMany v_a0_heardMany u_a0_tellsAt u_a0_tellMany u_a0_metAt u_a0_metBeat u_a0_round u_a0_z m_a0_deaf m_a0_heardAt m_a0_heardBy m_a0_lengths m_a0_many m_a0_slow out.2.2)) {B24 : Int32 → Int32 → (Nat → Int32) → Option (Int32 × Int32 × (Nat → Int32))} {K24_71 : Int32 → (Nat → Int32) → Option (Int32 × Int32 × (Nat → Int32))} (hB24 : ∀ (l3 : Int32) (l4 : Int32) (m_a0_w : Nat → Int32), B24 l3 l4 m_a0_w = some out → V X cX12_mayBe "FarDrumModel" 0 0 (wX12_mayBe (xG X) q_a0 q_a0_deaf q_a0_heardAt q_a0_heardBy q_a0_lengths q_a0_many q_a0_slow q_a0_w v_a0_thrown u_a0_trace u_a0_text u_a0_typed u_a0_next u_a0_token u_a0_place u_a0_value u_a0_fault u_a0_told u_a0_s u_a0_kept u_a0_isKept u_a0_undos u_a0_undoMany v_a0_heardMany u_a0_tellsAt u_a0_tellMany u_a0_metAt u_a0_metBeat u_a0_round u_a0_z m_a0_deaf m_a0_heardAt m_a0_heardBy m_a0_lengths m_a0_many m_a0_slow m_a0_w) [some (.ref q_a0), some (.int l1), some (.int l2), some (.int l3), some (.int l4)] 24 []) (hK24_71 : ∀ (l3 : Int32) (m_a0_w : Nat → Int32), K24_71 l3 m_a0_w = some out → V X cX12_mayBe "FarDrumModel" 0 0 (wX12_mayBe (xG X) q_a0 q_a0_deaf q_a0_heardAt q_a0_heardBy q_a0_lengths q_a0_many q_a0_slow q_a0_w v_a0_thrown u_a0_trace u_a0_text u_a0_typed u_a0_next u_a0_token u_a0_place u_a0_value u_a0_fault u_a0_told u_a0_s u_a0_kept u_a0_isKept u_a0_undos u_a0_undoMany v_a0_heardMany u_a0_tellsAt u_a0_tellMany u_a0_metAt u_a0_metBeat u_a0_round u_a0_z m_a0_deaf m_a0_heardAt m_a0_heardBy m_a0_lengths m_a0_many m_a0_slow m_a0_w) [some (.ref q_a0), some (.int l1), some (.int l2), some (.int l3), none] 71 []) (hf : fX12_mayBe_24 B24 K24_71 N l2 l3 l4 v_a0_heardMany m_a0_deaf m_a0_heardAt m_a0_heardBy m_a0_lengths m_a0_many m_a0_slow m_a0_w = some out) : V X cX12_mayBe "FarDrumModel" 0 0 (wX12_mayBe (xG X) q_a0 q_a0_deaf q_a0_heardAt q_a0_heardBy q_a0_lengths q_a0_many q_a0_slow q_a0_w v_a0_thrown u_a0_trace u_a0_text u_a0_typed u_a0_next u_a0_token u_a0_place u_a0_value u_a0_fault u_a0_told u_a0_s u_a0_kept u_a0_isKept u_a0_undos u_a0_undoMany v_a0_heardMany u_a0_tellsAt u_a0_tellMany u_a0_metAt u_a0_metBeat u_a0_round u_a0_z m_a0_deaf m_a0_heardAt m_a0_heardBy m_a0_lengths m_a0_many m_a0_slow m_a0_w) [some (.ref q_a0), some (.int l1), some (.int l2), some (.int l3), some (.int l4)] 24 [] := by
  unfold fX12_mayBe_24 at hf
  refine V.iload (pc := 24) dX12_mayBe_24 rfl ?_
  refine V.aloadn (pc := 26) dX12_mayBe_26 rfl ?_
  refine V.getf (q := 0) (pc := 27) dX12_mayBe_27 fk_X12_124_12 rfl rfl ?_
  refine V.icmp_ge (pc := 30) (tgt := 71) dX12_mayBe_30 (by decide) hf (fun hf => ?_) (fun hf => ?_)
  · refine V.mask (pc := 71) [true, true, true, true, false] rfl rfl ?_
    exact hK24_71 _ _ hf
  · refine V.iloadn (pc := 33) dX12_mayBe_33 rfl ?_
    refine V.if_eq (pc := 34) (tgt := 63) dX12_mayBe_34 (by decide) hf (fun hf => ?_) (fun hf => ?_)
    · refine V.mask (pc := 63) [true, true, true, false, true] rfl rfl ?_
      exact tX12_mayBe_63 hX hQ hB24 hf
    · refine V.aloadn (pc := 37) dX12_mayBe_37 rfl ?_
      refine V.iloadn (pc := 38) dX12_mayBe_38 rfl ?_
      refine V.aloadn (pc := 39) dX12_mayBe_39 rfl ?_
      refine V.getf (q := 0) (pc := 40) dX12_mayBe_40 fk_X12_41_12 rfl rfl ?_
      refine V.iload (pc := 43) dX12_mayBe_43 rfl ?_
      refine V.iald (pc := 45) (q := 3) dX12_mayBe_45 rfl hf (fun x45 hf => ?_)
      refine V.aloadn (pc := 46) dX12_mayBe_46 rfl ?_
      refine V.getf (q := 0) (pc := 47) dX12_mayBe_47 fk_X12_44_12 rfl rfl ?_
      refine V.iload (pc := 50) dX12_mayBe_50 rfl ?_
      refine V.iald (pc := 52) (q := 2) dX12_mayBe_52 rfl hf (fun x52 hf => ?_)
      refine V.callVi (pc := 53) (q := 0) (wr := [(q_a0_heardAt, .inl ((xG X).2 0, 5, .inl m_a0_heardAt)), (q_a0_heardBy, .inl ((xG X).2 0, 5, .inl m_a0_heardBy))]) (wd' := fun o53 => wX12_mayBe (xG X) q_a0 q_a0_deaf q_a0_heardAt q_a0_heardBy q_a0_lengths q_a0_many q_a0_slow q_a0_w v_a0_thrown u_a0_trace u_a0_text u_a0_typed u_a0_next u_a0_token u_a0_place u_a0_value u_a0_fault u_a0_told u_a0_s u_a0_kept u_a0_isKept u_a0_undos u_a0_undoMany v_a0_heardMany u_a0_tellsAt u_a0_tellMany u_a0_metAt u_a0_metBeat u_a0_round u_a0_z m_a0_deaf m_a0_heardAt m_a0_heardBy m_a0_lengths m_a0_many m_a0_slow o53.2) [.int l2, .int x45, .int x52] (st := []) hf (fun _ h => oX12_isHeard (q_a0 := q_a0) (q_a0_deaf := q_a0_deaf) (q_a0_lengths := q_a0_lengths) (q_a0_many := q_a0_many) (q_a0_slow := q_a0_slow) (q_a0_w := q_a0_w) (u_a0_thrown := ((.int v_a0_thrown))) (u_a0_trace := u_a0_trace) (u_a0_text := u_a0_text) (u_a0_typed := u_a0_typed) (u_a0_next := u_a0_next) (u_a0_token := u_a0_token) (u_a0_place := u_a0_place) (u_a0_value := u_a0_value) (u_a0_fault := u_a0_fault) (u_a0_told := u_a0_told) (u_a0_s := u_a0_s) (u_a0_kept := u_a0_kept) (u_a0_isKept := u_a0_isKept) (u_a0_undos := u_a0_undos) (u_a0_undoMany := u_a0_undoMany) (u_a0_heardBy := ((.ref q_a0_heardBy))) (u_a0_heardAt := ((.ref q_a0_heardAt))) (u_a0_heardMany := ((.int v_a0_heardMany))) (u_a0_tellsAt := u_a0_tellsAt) (u_a0_tellMany := u_a0_tellMany) (u_a0_metAt := u_a0_metAt) (u_a0_metBeat := u_a0_metBeat) (u_a0_round := u_a0_round) (u_a0_z := u_a0_z) (m_a0_deaf := m_a0_deaf) (m_a0_lengths := m_a0_lengths) (m_a0_many := m_a0_many) (m_a0_slow := m_a0_slow) (m_a0_w := m_a0_w) (l1 := l2) (l2 := x45) (l3 := x52) h) lkV_X12_179 dX12_mayBe_53 hX rfl ⟨rfl, rfl⟩ ⟨rfl, rfl⟩ rfl rfl rfl rfl rfl [0, 1, 4, 5, 6, 7] [2, 3] [2, 3, 0, 1, 4, 5, 6, 7] rfl rfl rfl rfl rfl (fun _ => rfl) rfl (fun o53 hf => ?_)
      refine V.if_eq (pc := 56) (tgt := 63) dX12_mayBe_56 (by decide) hf (fun hf => ?_) (fun hf => ?_)
      · refine V.mask (pc := 63) [true, true, true, false, true] rfl rfl ?_
        exact tX12_mayBe_63 hX hQ hB24 hf
      · refine V.iconst (pc := 59) (v := 1) dX12_mayBe_59 (by decide) ?_
        refine V.goto (pc := 60) (tgt := 64) dX12_mayBe_60 (by decide) ?_
        refine V.mask (pc := 64) [true, true, true, false, true] rfl rfl ?_
        exact tX12_mayBe_64 hX hQ hB24 hf
theorem tX12_mayBe_L24 {out : Int32 × Int32 × (Nat → Int32)} (hX : xk X = kX12_mayBe) (hQ : xQ X = qE (some (.int out.1)) (wX12_mayBe (xG X) q_a0 q_a0_deaf q_a0_heardAt q_a0_heardBy q_a0_lengths q_a0_many q_a0_slow q_a0_w out.2.1 u_a0_trace u_a0_text u_a0_typed u_a0_next u_a0_token u_a0_place u_a0_value u_a0_fault u_a0_told u_a0_s u_a0_kept u_a0_isKept u_a0_undos u_a0_undoMany v_a0_heardMany u_a0_tellsAt u_a0_tellMany u_a0_metAt u_a0_metBeat u_a0_round u_a0_z m_a0_deaf m_a0_heardAt m_a0_heardBy m_a0_lengths m_a0_many m_a0_slow out.2.2)) {K24_71 : Int32 → (Nat → Int32) → Option (Int32 × Int32 × (Nat → Int32))} (hK24_71 : ∀ (l3 : Int32) (m_a0_w : Nat → Int32), K24_71 l3 m_a0_w = some out → V X cX12_mayBe "FarDrumModel" 0 0 (wX12_mayBe (xG X) q_a0 q_a0_deaf q_a0_heardAt q_a0_heardBy q_a0_lengths q_a0_many q_a0_slow q_a0_w v_a0_thrown u_a0_trace u_a0_text u_a0_typed u_a0_next u_a0_token u_a0_place u_a0_value u_a0_fault u_a0_told u_a0_s u_a0_kept u_a0_isKept u_a0_undos u_a0_undoMany v_a0_heardMany u_a0_tellsAt u_a0_tellMany u_a0_metAt u_a0_metBeat u_a0_round u_a0_z m_a0_deaf m_a0_heardAt m_a0_heardBy m_a0_lengths m_a0_many m_a0_slow m_a0_w) [some (.ref q_a0), some (.int l1), some (.int l2), some (.int l3), none] 71 []) : ∀ (n : Nat) (l3 : Int32) (l4 : Int32) (m_a0_w : Nat → Int32), fX12_mayBe_L24 N l2 v_a0_heardMany m_a0_deaf m_a0_heardAt m_a0_heardBy m_a0_lengths m_a0_many m_a0_slow K24_71 n l3 l4 m_a0_w = some out → V X cX12_mayBe "FarDrumModel" 0 0 (wX12_mayBe (xG X) q_a0 q_a0_deaf q_a0_heardAt q_a0_heardBy q_a0_lengths q_a0_many q_a0_slow q_a0_w v_a0_thrown u_a0_trace u_a0_text u_a0_typed u_a0_next u_a0_token u_a0_place u_a0_value u_a0_fault u_a0_told u_a0_s u_a0_kept u_a0_isKept u_a0_undos u_a0_undoMany v_a0_heardMany u_a0_tellsAt u_a0_tellMany u_a0_metAt u_a0_metBeat u_a0_round u_a0_z m_a0_deaf m_a0_heardAt m_a0_heardBy m_a0_lengths m_a0_many m_a0_slow m_a0_w) [some (.ref q_a0), some (.int l1), some (.int l2), some (.int l3), some (.int l4)] 24 [] := by
  intro n
  induction n with
  | zero => intro l3 l4 m_a0_w hf; cases hf
  | succ n ih => intro l3 l4 m_a0_w hf; exact tX12_mayBe_24 hX hQ ih hK24_71 hf
set_option maxRecDepth 20000 in
theorem tX12_mayBe_83 {out : Int32 × Int32 × (Nat → Int32)} (hX : xk X = kX12_mayBe) (hQ : xQ X = qE (some (.int out.1)) (wX12_mayBe (xG X) q_a0 q_a0_deaf q_a0_heardAt q_a0_heardBy q_a0_lengths q_a0_many q_a0_slow q_a0_w out.2.1 u_a0_trace u_a0_text u_a0_typed u_a0_next u_a0_token u_a0_place u_a0_value u_a0_fault u_a0_told u_a0_s u_a0_kept u_a0_isKept u_a0_undos u_a0_undoMany v_a0_heardMany u_a0_tellsAt u_a0_tellMany u_a0_metAt u_a0_metBeat u_a0_round u_a0_z m_a0_deaf m_a0_heardAt m_a0_heardBy m_a0_lengths m_a0_many m_a0_slow out.2.2)) {B9 : Int32 → Int32 → (Nat → Int32) → Option (Int32 × Int32 × (Nat → Int32))} (hB9 : ∀ (l1 : Int32) (l2 : Int32) (m_a0_w : Nat → Int32), B9 l1 l2 m_a0_w = some out → V X cX12_mayBe "FarDrumModel" 0 0 (wX12_mayBe (xG X) q_a0 q_a0_deaf q_a0_heardAt q_a0_heardBy q_a0_lengths q_a0_many q_a0_slow q_a0_w v_a0_thrown u_a0_trace u_a0_text u_a0_typed u_a0_next u_a0_token u_a0_place u_a0_value u_a0_fault u_a0_told u_a0_s u_a0_kept u_a0_isKept u_a0_undos u_a0_undoMany v_a0_heardMany u_a0_tellsAt u_a0_tellMany u_a0_metAt u_a0_metBeat u_a0_round u_a0_z m_a0_deaf m_a0_heardAt m_a0_heardBy m_a0_lengths m_a0_many m_a0_slow m_a0_w) [some (.ref q_a0), some (.int l1), some (.int l2), none, none] 9 []) (hf : fX12_mayBe_83 B9 l2 s0 s1 m_a0_w = some out) : V X cX12_mayBe "FarDrumModel" 0 0 (wX12_mayBe (xG X) q_a0 q_a0_deaf q_a0_heardAt q_a0_heardBy q_a0_lengths q_a0_many q_a0_slow q_a0_w v_a0_thrown u_a0_trace u_a0_text u_a0_typed u_a0_next u_a0_token u_a0_place u_a0_value u_a0_fault u_a0_told u_a0_s u_a0_kept u_a0_isKept u_a0_undos u_a0_undoMany v_a0_heardMany u_a0_tellsAt u_a0_tellMany u_a0_metAt u_a0_metBeat u_a0_round u_a0_z m_a0_deaf m_a0_heardAt m_a0_heardBy m_a0_lengths m_a0_many m_a0_slow m_a0_w) [some (.ref q_a0), none, some (.int l2), none, none] 83 [.int s1, .int s0] := by
  unfold fX12_mayBe_83 at hf
  refine V.ior (pc := 83) dX12_mayBe_83 ?_
  refine V.topi hf (fun y84 hf => ?_)
  refine V.istoren (pc := 84) dX12_mayBe_84 rfl rfl rfl ?_
  refine V.iinc (pc := 85) (v := 1) dX12_mayBe_85 rfl rfl (by decide) rfl ?_
  refine V.goto (pc := 88) (tgt := 9) dX12_mayBe_88 (by decide) ?_
  exact hB9 _ _ _ hf
set_option maxRecDepth 20000 in
theorem tX12_mayBe_9 {out : Int32 × Int32 × (Nat → Int32)} (hX : xk X = kX12_mayBe) (hQ : xQ X = qE (some (.int out.1)) (wX12_mayBe (xG X) q_a0 q_a0_deaf q_a0_heardAt q_a0_heardBy q_a0_lengths q_a0_many q_a0_slow q_a0_w out.2.1 u_a0_trace u_a0_text u_a0_typed u_a0_next u_a0_token u_a0_place u_a0_value u_a0_fault u_a0_told u_a0_s u_a0_kept u_a0_isKept u_a0_undos u_a0_undoMany v_a0_heardMany u_a0_tellsAt u_a0_tellMany u_a0_metAt u_a0_metBeat u_a0_round u_a0_z m_a0_deaf m_a0_heardAt m_a0_heardBy m_a0_lengths m_a0_many m_a0_slow out.2.2)) {B9 : Int32 → Int32 → (Nat → Int32) → Option (Int32 × Int32 × (Nat → Int32))} {K9_91 : Int32 → (Nat → Int32) → Option (Int32 × Int32 × (Nat → Int32))} (hB9 : ∀ (l1 : Int32) (l2 : Int32) (m_a0_w : Nat → Int32), B9 l1 l2 m_a0_w = some out → V X cX12_mayBe "FarDrumModel" 0 0 (wX12_mayBe (xG X) q_a0 q_a0_deaf q_a0_heardAt q_a0_heardBy q_a0_lengths q_a0_many q_a0_slow q_a0_w v_a0_thrown u_a0_trace u_a0_text u_a0_typed u_a0_next u_a0_token u_a0_place u_a0_value u_a0_fault u_a0_told u_a0_s u_a0_kept u_a0_isKept u_a0_undos u_a0_undoMany v_a0_heardMany u_a0_tellsAt u_a0_tellMany u_a0_metAt u_a0_metBeat u_a0_round u_a0_z m_a0_deaf m_a0_heardAt m_a0_heardBy m_a0_lengths m_a0_many m_a0_slow m_a0_w) [some (.ref q_a0), some (.int l1), some (.int l2), none, none] 9 []) (hK9_91 : ∀ (l1 : Int32) (m_a0_w : Nat → Int32), K9_91 l1 m_a0_w = some out → V X cX12_mayBe "FarDrumModel" 0 0 (wX12_mayBe (xG X) q_a0 q_a0_deaf q_a0_heardAt q_a0_heardBy q_a0_lengths q_a0_many q_a0_slow q_a0_w v_a0_thrown u_a0_trace u_a0_text u_a0_typed u_a0_next u_a0_token u_a0_place u_a0_value u_a0_fault u_a0_told u_a0_s u_a0_kept u_a0_isKept u_a0_undos u_a0_undoMany v_a0_heardMany u_a0_tellsAt u_a0_tellMany u_a0_metAt u_a0_metBeat u_a0_round u_a0_z m_a0_deaf m_a0_heardAt m_a0_heardBy m_a0_lengths m_a0_many m_a0_slow m_a0_w) [none, some (.int l1), none, none, none] 91 []) (hf : fX12_mayBe_9 B9 K9_91 N l1 l2 v_a0_heardMany m_a0_deaf m_a0_heardAt m_a0_heardBy m_a0_lengths m_a0_many m_a0_slow m_a0_w = some out) : V X cX12_mayBe "FarDrumModel" 0 0 (wX12_mayBe (xG X) q_a0 q_a0_deaf q_a0_heardAt q_a0_heardBy q_a0_lengths q_a0_many q_a0_slow q_a0_w v_a0_thrown u_a0_trace u_a0_text u_a0_typed u_a0_next u_a0_token u_a0_place u_a0_value u_a0_fault u_a0_told u_a0_s u_a0_kept u_a0_isKept u_a0_undos u_a0_undoMany v_a0_heardMany u_a0_tellsAt u_a0_tellMany u_a0_metAt u_a0_metBeat u_a0_round u_a0_z m_a0_deaf m_a0_heardAt m_a0_heardBy m_a0_lengths m_a0_many m_a0_slow m_a0_w) [some (.ref q_a0), some (.int l1), some (.int l2), none, none] 9 [] := by
  unfold fX12_mayBe_9 at hf
  refine V.iloadn (pc := 9) dX12_mayBe_9 rfl ?_
  refine V.aloadn (pc := 10) dX12_mayBe_10 rfl ?_
  refine V.getf (q := 0) (pc := 11) dX12_mayBe_11 fk_X12_13_12 rfl rfl ?_
  refine V.iconst (pc := 14) (v := 0) dX12_mayBe_14 (by decide) ?_
  refine V.ialdC (pc := 15) (q := 5) 0 dX12_mayBe_15 rfl ⟨vp_c (by decide), by decide⟩ ?_
  refine V.icmp_ge (pc := 16) (tgt := 91) dX12_mayBe_16 (by decide) hf (fun hf => ?_) (fun hf => ?_)
  · refine V.mask (pc := 91) [false, true, false, false, false] rfl rfl ?_
    exact hK9_91 _ _ hf
  · refine V.iconst (pc := 19) (v := 1) dX12_mayBe_19 (by decide) ?_
    refine V.istoren (pc := 20) dX12_mayBe_20 rfl rfl rfl ?_
    refine V.iconst (pc := 21) (v := 0) dX12_mayBe_21 (by decide) ?_
    refine V.istore (pc := 22) dX12_mayBe_22 rfl rfl rfl ?_
    refine tX12_mayBe_L24 hX hQ ?_ _ _ _ _ hf
    · intro l3k24_71 m_a0_wk24_71 hf
      refine V.iloadn (pc := 71) dX12_mayBe_71 rfl ?_
      refine V.iloadn (pc := 72) dX12_mayBe_72 rfl ?_
      refine V.if_eq (pc := 73) (tgt := 82) dX12_mayBe_73 (by decide) hf (fun hf => ?_) (fun hf => ?_)
      · refine V.iconst (pc := 82) (v := 0) dX12_mayBe_82 (by decide) ?_
        refine V.mask (pc := 83) [true, false, true, false, false] rfl rfl ?_
        exact tX12_mayBe_83 hX hQ hB9 hf
      · refine V.iconst (pc := 76) (v := 1) dX12_mayBe_76 (by decide) ?_
        refine V.iloadn (pc := 77) dX12_mayBe_77 rfl ?_
        refine V.ishl (pc := 78) dX12_mayBe_78 ?_
        refine V.goto (pc := 79) (tgt := 83) dX12_mayBe_79 (by decide) ?_
        refine V.mask (pc := 83) [true, false, true, false, false] rfl rfl ?_
        exact tX12_mayBe_83 hX hQ hB9 hf
theorem tX12_mayBe_L9 {out : Int32 × Int32 × (Nat → Int32)} (hX : xk X = kX12_mayBe) (hQ : xQ X = qE (some (.int out.1)) (wX12_mayBe (xG X) q_a0 q_a0_deaf q_a0_heardAt q_a0_heardBy q_a0_lengths q_a0_many q_a0_slow q_a0_w out.2.1 u_a0_trace u_a0_text u_a0_typed u_a0_next u_a0_token u_a0_place u_a0_value u_a0_fault u_a0_told u_a0_s u_a0_kept u_a0_isKept u_a0_undos u_a0_undoMany v_a0_heardMany u_a0_tellsAt u_a0_tellMany u_a0_metAt u_a0_metBeat u_a0_round u_a0_z m_a0_deaf m_a0_heardAt m_a0_heardBy m_a0_lengths m_a0_many m_a0_slow out.2.2)) {K9_91 : Int32 → (Nat → Int32) → Option (Int32 × Int32 × (Nat → Int32))} (hK9_91 : ∀ (l1 : Int32) (m_a0_w : Nat → Int32), K9_91 l1 m_a0_w = some out → V X cX12_mayBe "FarDrumModel" 0 0 (wX12_mayBe (xG X) q_a0 q_a0_deaf q_a0_heardAt q_a0_heardBy q_a0_lengths q_a0_many q_a0_slow q_a0_w v_a0_thrown u_a0_trace u_a0_text u_a0_typed u_a0_next u_a0_token u_a0_place u_a0_value u_a0_fault u_a0_told u_a0_s u_a0_kept u_a0_isKept u_a0_undos u_a0_undoMany v_a0_heardMany u_a0_tellsAt u_a0_tellMany u_a0_metAt u_a0_metBeat u_a0_round u_a0_z m_a0_deaf m_a0_heardAt m_a0_heardBy m_a0_lengths m_a0_many m_a0_slow m_a0_w) [none, some (.int l1), none, none, none] 91 []) : ∀ (n : Nat) (l1 : Int32) (l2 : Int32) (m_a0_w : Nat → Int32), fX12_mayBe_L9 N v_a0_heardMany m_a0_deaf m_a0_heardAt m_a0_heardBy m_a0_lengths m_a0_many m_a0_slow K9_91 n l1 l2 m_a0_w = some out → V X cX12_mayBe "FarDrumModel" 0 0 (wX12_mayBe (xG X) q_a0 q_a0_deaf q_a0_heardAt q_a0_heardBy q_a0_lengths q_a0_many q_a0_slow q_a0_w v_a0_thrown u_a0_trace u_a0_text u_a0_typed u_a0_next u_a0_token u_a0_place u_a0_value u_a0_fault u_a0_told u_a0_s u_a0_kept u_a0_isKept u_a0_undos u_a0_undoMany v_a0_heardMany u_a0_tellsAt u_a0_tellMany u_a0_metAt u_a0_metBeat u_a0_round u_a0_z m_a0_deaf m_a0_heardAt m_a0_heardBy m_a0_lengths m_a0_many m_a0_slow m_a0_w) [some (.ref q_a0), some (.int l1), some (.int l2), none, none] 9 [] := by
  intro n
  induction n with
  | zero => intro l1 l2 m_a0_w hf; cases hf
  | succ n ih => intro l1 l2 m_a0_w hf; exact tX12_mayBe_9 hX hQ ih hK9_91 hf
set_option maxRecDepth 20000 in
theorem tX12_mayBe_0 {out : Int32 × Int32 × (Nat → Int32)} (hX : xk X = kX12_mayBe) (hQ : xQ X = qE (some (.int out.1)) (wX12_mayBe (xG X) q_a0 q_a0_deaf q_a0_heardAt q_a0_heardBy q_a0_lengths q_a0_many q_a0_slow q_a0_w out.2.1 u_a0_trace u_a0_text u_a0_typed u_a0_next u_a0_token u_a0_place u_a0_value u_a0_fault u_a0_told u_a0_s u_a0_kept u_a0_isKept u_a0_undos u_a0_undoMany v_a0_heardMany u_a0_tellsAt u_a0_tellMany u_a0_metAt u_a0_metBeat u_a0_round u_a0_z m_a0_deaf m_a0_heardAt m_a0_heardBy m_a0_lengths m_a0_many m_a0_slow out.2.2)) (hf : fX12_mayBe N v_a0_heardMany m_a0_deaf m_a0_heardAt m_a0_heardBy m_a0_lengths m_a0_many m_a0_slow m_a0_w = some out) : V X cX12_mayBe "FarDrumModel" 0 0 (wX12_mayBe (xG X) q_a0 q_a0_deaf q_a0_heardAt q_a0_heardBy q_a0_lengths q_a0_many q_a0_slow q_a0_w v_a0_thrown u_a0_trace u_a0_text u_a0_typed u_a0_next u_a0_token u_a0_place u_a0_value u_a0_fault u_a0_told u_a0_s u_a0_kept u_a0_isKept u_a0_undos u_a0_undoMany v_a0_heardMany u_a0_tellsAt u_a0_tellMany u_a0_metAt u_a0_metBeat u_a0_round u_a0_z m_a0_deaf m_a0_heardAt m_a0_heardBy m_a0_lengths m_a0_many m_a0_slow m_a0_w) [some (.ref q_a0), none, none, none, none] 0 [] := by
  unfold fX12_mayBe at hf
  refine V.aloadn (pc := 0) dX12_mayBe_0 rfl ?_
  refine V.iconst (pc := 1) (v := 0) dX12_mayBe_1 (by decide) ?_
  refine V.putf (q := 0) (wd' := wX12_mayBe (xG X) q_a0 q_a0_deaf q_a0_heardAt q_a0_heardBy q_a0_lengths q_a0_many q_a0_slow q_a0_w (0 : Int32) u_a0_trace u_a0_text u_a0_typed u_a0_next u_a0_token u_a0_place u_a0_value u_a0_fault u_a0_told u_a0_s u_a0_kept u_a0_isKept u_a0_undos u_a0_undoMany v_a0_heardMany u_a0_tellsAt u_a0_tellMany u_a0_metAt u_a0_metBeat u_a0_round u_a0_z m_a0_deaf m_a0_heardAt m_a0_heardBy m_a0_lengths m_a0_many m_a0_slow m_a0_w) (pc := 2) dX12_mayBe_2 pk_X12_62_12 rfl rfl rfl rfl rfl ?_
  refine V.iconst (pc := 5) (v := 0) dX12_mayBe_5 (by decide) ?_
  refine V.istoren (pc := 6) dX12_mayBe_6 rfl rfl rfl ?_
  refine V.iconst (pc := 7) (v := 0) dX12_mayBe_7 (by decide) ?_
  refine V.istoren (pc := 8) dX12_mayBe_8 rfl rfl rfl ?_
  refine tX12_mayBe_L9 hX hQ ?_ _ _ _ _ hf
  · intro l1k9_91 m_a0_wk9_91 hf
    refine V.iloadn (pc := 91) dX12_mayBe_91 rfl ?_
    exact V.iretE (pc := 92) hX kX12_mayBe_r hQ dX12_mayBe_92 (by cases hf; rfl) (by cases hf; rfl)
end
theorem oX12_mayBe {l : Launch} {G : GT} {N : Nat} {q_a0 : Nat} {q_a0_deaf : Nat} {q_a0_heardAt : Nat} {q_a0_heardBy : Nat} {q_a0_lengths : Nat} {q_a0_many : Nat} {q_a0_slow : Nat} {q_a0_w : Nat} {v_a0_thrown : Int32} {u_a0_trace : Value} {u_a0_text : Value} {u_a0_typed : Value} {u_a0_next : Value} {u_a0_token : Value} {u_a0_place : Value} {u_a0_value : Value} {u_a0_fault : Value} {u_a0_told : Value} {u_a0_s : Value} {u_a0_kept : Value} {u_a0_isKept : Value} {u_a0_undos : Value} {u_a0_undoMany : Value} {v_a0_heardMany : Int32} {u_a0_tellsAt : Value} {u_a0_tellMany : Value} {u_a0_metAt : Value} {u_a0_metBeat : Value} {u_a0_round : Value} {u_a0_z : Value} {m_a0_deaf : Nat → Int32} {m_a0_heardAt : Nat → Int32} {m_a0_heardBy : Nat → Int32} {m_a0_lengths : Nat → Int32} {m_a0_many : Nat → Int32} {m_a0_slow : Nat → Int32} {m_a0_w : Nat → Int32} {out : Int32 × Int32 × (Nat → Int32)} (hf : fX12_mayBe N v_a0_heardMany m_a0_deaf m_a0_heardAt m_a0_heardBy m_a0_lengths m_a0_many m_a0_slow m_a0_w = some out) : Ct (l, G, kX12_mayBe, wX12_mayBe G q_a0 q_a0_deaf q_a0_heardAt q_a0_heardBy q_a0_lengths q_a0_many q_a0_slow q_a0_w v_a0_thrown u_a0_trace u_a0_text u_a0_typed u_a0_next u_a0_token u_a0_place u_a0_value u_a0_fault u_a0_told u_a0_s u_a0_kept u_a0_isKept u_a0_undos u_a0_undoMany v_a0_heardMany u_a0_tellsAt u_a0_tellMany u_a0_metAt u_a0_metBeat u_a0_round u_a0_z m_a0_deaf m_a0_heardAt m_a0_heardBy m_a0_lengths m_a0_many m_a0_slow m_a0_w, [.ref q_a0], qE (some (.int out.1)) (wX12_mayBe G q_a0 q_a0_deaf q_a0_heardAt q_a0_heardBy q_a0_lengths q_a0_many q_a0_slow q_a0_w out.2.1 u_a0_trace u_a0_text u_a0_typed u_a0_next u_a0_token u_a0_place u_a0_value u_a0_fault u_a0_told u_a0_s u_a0_kept u_a0_isKept u_a0_undos u_a0_undoMany v_a0_heardMany u_a0_tellsAt u_a0_tellMany u_a0_metAt u_a0_metBeat u_a0_round u_a0_z m_a0_deaf m_a0_heardAt m_a0_heardBy m_a0_lengths m_a0_many m_a0_slow out.2.2)) :=
  Ct.of [some (.ref q_a0), none, none, none, none] kX12_mayBe_p rfl rfl rfl ((tX12_mayBe_0 (X := (l, G, kX12_mayBe, wX12_mayBe G q_a0 q_a0_deaf q_a0_heardAt q_a0_heardBy q_a0_lengths q_a0_many q_a0_slow q_a0_w v_a0_thrown u_a0_trace u_a0_text u_a0_typed u_a0_next u_a0_token u_a0_place u_a0_value u_a0_fault u_a0_told u_a0_s u_a0_kept u_a0_isKept u_a0_undos u_a0_undoMany v_a0_heardMany u_a0_tellsAt u_a0_tellMany u_a0_metAt u_a0_metBeat u_a0_round u_a0_z m_a0_deaf m_a0_heardAt m_a0_heardBy m_a0_lengths m_a0_many m_a0_slow m_a0_w, [.ref q_a0], qE (some (.int out.1)) (wX12_mayBe G q_a0 q_a0_deaf q_a0_heardAt q_a0_heardBy q_a0_lengths q_a0_many q_a0_slow q_a0_w out.2.1 u_a0_trace u_a0_text u_a0_typed u_a0_next u_a0_token u_a0_place u_a0_value u_a0_fault u_a0_told u_a0_s u_a0_kept u_a0_isKept u_a0_undos u_a0_undoMany v_a0_heardMany u_a0_tellsAt u_a0_tellMany u_a0_metAt u_a0_metBeat u_a0_round u_a0_z m_a0_deaf m_a0_heardAt m_a0_heardBy m_a0_lengths m_a0_many m_a0_slow out.2.2))) rfl rfl hf))

theorem fk_X12_127_12 : Fk "FarDrumModel" 127 12 24 := ⟨RX12, TX12, 29, "FarDrumModel", rfl, inX12, by decide, kw_4_32, Or.inl rfl⟩
theorem fk_X12_47_12 : Fk "FarDrumModel" 47 12 23 := ⟨RX12, TX12, 29, "FarDrumModel", rfl, inX12, by decide, kw_4_31, Or.inl rfl⟩
theorem pk_X12_127_12 : Pk "FarDrumModel" 127 12 24 .int false := ⟨RX12, TX12, 29, "FarDrumModel", tyX12, rfl, inX12, by decide, kw_4_32, Or.inl rfl, tyX12_ok, nmX12, rfl, by decide +kernel, fun h => by cases h⟩
def wX12_tells (G : GT) (q_a0 : Nat) (q_a0_tellsAt : Nat) (v_a0_thrown : Int32) (u_a0_trace : Value) (u_a0_text : Value) (u_a0_typed : Value) (u_a0_next : Value) (u_a0_token : Value) (u_a0_place : Value) (u_a0_value : Value) (u_a0_fault : Value) (u_a0_many : Value) (u_a0_slow : Value) (u_a0_deaf : Value) (u_a0_lengths : Value) (u_a0_told : Value) (u_a0_s : Value) (u_a0_w : Value) (u_a0_kept : Value) (u_a0_isKept : Value) (u_a0_undos : Value) (u_a0_undoMany : Value) (u_a0_heardBy : Value) (u_a0_heardAt : Value) (u_a0_heardMany : Value) (v_a0_tellMany : Int32) (u_a0_metAt : Value) (u_a0_metBeat : Value) (u_a0_round : Value) (u_a0_z : Value) (m_a0_tellsAt : Nat → Int32) : va_W := [(q_a0, .inr (12, [.int v_a0_thrown, u_a0_trace, u_a0_text, u_a0_typed, u_a0_next, u_a0_token, u_a0_place, u_a0_value, u_a0_fault, u_a0_many, u_a0_slow, u_a0_deaf, u_a0_lengths, u_a0_told, u_a0_s, u_a0_w, u_a0_kept, u_a0_isKept, u_a0_undos, u_a0_undoMany, u_a0_heardBy, u_a0_heardAt, u_a0_heardMany, .ref q_a0_tellsAt, .int v_a0_tellMany, u_a0_metAt, u_a0_metBeat, u_a0_round, u_a0_z])), (q_a0_tellsAt, .inl (G.2 0, 6, .inl m_a0_tellsAt))]
def kX12_tells : KT := (yX12_tells, cX12_tells, 2, (some .int), 1, 0, 0)
theorem kX12_tells_r : kr kX12_tells = (some .int) ∧ kmc kX12_tells = 0 ∧ kms kX12_tells = 0 := ⟨rfl, rfl, rfl⟩
theorem kX12_tells_p : plainName (ky kX12_tells).cls = true := by decide +kernel
def fX12_tells (l1 : Int32) (v_a0_tellMany : Int32) (m_a0_tellsAt : Nat → Int32) : Option (Int32 × Int32 × Int32 × (Nat → Int32)) :=
  Option.bind (fX12_in l1 (0 : Int32) (400 : Int32)) fun o10 =>
  if o10 = 0 then (some ((-1 : Int32), (0 : Int32), v_a0_tellMany, m_a0_tellsAt))
  else (if v_a0_tellMany = (6 : Int32) then (some ((-3 : Int32), (0 : Int32), v_a0_tellMany, m_a0_tellsAt))
  else (wri 6 m_a0_tellsAt v_a0_tellMany l1 fun g39 =>
  lti (v_a0_tellMany + (1 : Int32)) fun y47 =>
  some (y47, (0 : Int32), y47, g39)))
section
variable {X : XT} {N : Nat} {q_a0 : Nat} {q_a0_tellsAt : Nat} {v_a0_thrown : Int32} {u_a0_trace : Value} {u_a0_text : Value} {u_a0_typed : Value} {u_a0_next : Value} {u_a0_token : Value} {u_a0_place : Value} {u_a0_value : Value} {u_a0_fault : Value} {u_a0_many : Value} {u_a0_slow : Value} {u_a0_deaf : Value} {u_a0_lengths : Value} {u_a0_told : Value} {u_a0_s : Value} {u_a0_w : Value} {u_a0_kept : Value} {u_a0_isKept : Value} {u_a0_undos : Value} {u_a0_undoMany : Value} {u_a0_heardBy : Value} {u_a0_heardAt : Value} {u_a0_heardMany : Value} {v_a0_tellMany : Int32} {u_a0_metAt : Value} {u_a0_metBeat : Value} {u_a0_round : Value} {u_a0_z : Value} {m_a0_tellsAt : Nat → Int32} {l1 : Int32}
set_option maxRecDepth 20000 in
theorem tX12_tells_0 {out : Int32 × Int32 × Int32 × (Nat → Int32)} (hX : xk X = kX12_tells) (hQ : xQ X = qE (some (.int out.1)) (wX12_tells (xG X) q_a0 q_a0_tellsAt out.2.1 u_a0_trace u_a0_text u_a0_typed u_a0_next u_a0_token u_a0_place u_a0_value u_a0_fault u_a0_many u_a0_slow u_a0_deaf u_a0_lengths u_a0_told u_a0_s u_a0_w u_a0_kept u_a0_isKept u_a0_undos u_a0_undoMany u_a0_heardBy u_a0_heardAt u_a0_heardMany out.2.2.1 u_a0_metAt u_a0_metBeat u_a0_round u_a0_z out.2.2.2)) (hf : fX12_tells l1 v_a0_tellMany m_a0_tellsAt = some out) : V X cX12_tells "FarDrumModel" 0 0 (wX12_tells (xG X) q_a0 q_a0_tellsAt v_a0_thrown u_a0_trace u_a0_text u_a0_typed u_a0_next u_a0_token u_a0_place u_a0_value u_a0_fault u_a0_many u_a0_slow u_a0_deaf u_a0_lengths u_a0_told u_a0_s u_a0_w u_a0_kept u_a0_isKept u_a0_undos u_a0_undoMany u_a0_heardBy u_a0_heardAt u_a0_heardMany v_a0_tellMany u_a0_metAt u_a0_metBeat u_a0_round u_a0_z m_a0_tellsAt) [some (.ref q_a0), some (.int l1)] 0 [] := by
  unfold fX12_tells at hf
  refine V.aloadn (pc := 0) dX12_tells_0 rfl ?_
  refine V.iconst (pc := 1) (v := 0) dX12_tells_1 (by decide) ?_
  refine V.putf (q := 0) (wd' := wX12_tells (xG X) q_a0 q_a0_tellsAt (0 : Int32) u_a0_trace u_a0_text u_a0_typed u_a0_next u_a0_token u_a0_place u_a0_value u_a0_fault u_a0_many u_a0_slow u_a0_deaf u_a0_lengths u_a0_told u_a0_s u_a0_w u_a0_kept u_a0_isKept u_a0_undos u_a0_undoMany u_a0_heardBy u_a0_heardAt u_a0_heardMany v_a0_tellMany u_a0_metAt u_a0_metBeat u_a0_round u_a0_z m_a0_tellsAt) (pc := 2) dX12_tells_2 pk_X12_62_12 rfl rfl rfl rfl rfl ?_
  refine V.iloadn (pc := 5) dX12_tells_5 rfl ?_
  refine V.iconst (pc := 6) (v := 0) dX12_tells_6 (by decide) ?_
  refine V.sipush (pc := 7) (v := 400) dX12_tells_7 (by decide) ?_
  refine V.callSi (pc := 10) [.int l1, .int (0 : Int32), .int (400 : Int32)] (st := []) hf (fun _ h => oX12_in  (l0 := l1) (l1 := (0 : Int32)) (l2 := (400 : Int32)) h) lkS_X12_66 dX12_tells_10 hX rfl ⟨rfl, rfl⟩ ⟨rfl, rfl⟩ rfl rfl rfl (fun o10 hf => ?_)
  refine V.if_ne (pc := 13) (tgt := 18) dX12_tells_13 (by decide) hf (fun hf => ?_) (fun hf => ?_)
  · refine V.aloadn (pc := 18) dX12_tells_18 rfl ?_
    refine V.getf (q := 0) (pc := 19) dX12_tells_19 fk_X12_127_12 rfl rfl ?_
    refine V.bipush (pc := 22) (v := 6) dX12_tells_22 (by decide) ?_
    refine V.icmp_ne (pc := 24) (tgt := 30) dX12_tells_24 (by decide) hf (fun hf => ?_) (fun hf => ?_)
    · refine V.aloadn (pc := 30) dX12_tells_30 rfl ?_
      refine V.getf (q := 0) (pc := 31) dX12_tells_31 fk_X12_47_12 rfl rfl ?_
      refine V.aloadn (pc := 34) dX12_tells_34 rfl ?_
      refine V.getf (q := 0) (pc := 35) dX12_tells_35 fk_X12_127_12 rfl rfl ?_
      refine V.iloadn (pc := 38) dX12_tells_38 rfl ?_
      refine V.iast (pc := 39) (q := 1) (wd' := fun g39 => wX12_tells (xG X) q_a0 q_a0_tellsAt (0 : Int32) u_a0_trace u_a0_text u_a0_typed u_a0_next u_a0_token u_a0_place u_a0_value u_a0_fault u_a0_many u_a0_slow u_a0_deaf u_a0_lengths u_a0_told u_a0_s u_a0_w u_a0_kept u_a0_isKept u_a0_undos u_a0_undoMany u_a0_heardBy u_a0_heardAt u_a0_heardMany v_a0_tellMany u_a0_metAt u_a0_metBeat u_a0_round u_a0_z g39) dX12_tells_39 rfl hf (fun _ => rfl) (fun g39 hf => ?_)
      refine V.aloadn (pc := 40) dX12_tells_40 rfl ?_
      refine V.dup (pc := 41) dX12_tells_41 rfl ?_
      refine V.getf (q := 0) (pc := 42) dX12_tells_42 fk_X12_127_12 rfl rfl ?_
      refine V.iconst (pc := 45) (v := 1) dX12_tells_45 (by decide) ?_
      refine V.iadd (pc := 46) dX12_tells_46 ?_
      refine V.topi hf (fun y47 hf => ?_)
      refine V.putf (q := 0) (wd' := wX12_tells (xG X) q_a0 q_a0_tellsAt (0 : Int32) u_a0_trace u_a0_text u_a0_typed u_a0_next u_a0_token u_a0_place u_a0_value u_a0_fault u_a0_many u_a0_slow u_a0_deaf u_a0_lengths u_a0_told u_a0_s u_a0_w u_a0_kept u_a0_isKept u_a0_undos u_a0_undoMany u_a0_heardBy u_a0_heardAt u_a0_heardMany y47 u_a0_metAt u_a0_metBeat u_a0_round u_a0_z g39) (pc := 47) dX12_tells_47 pk_X12_127_12 rfl rfl rfl rfl rfl ?_
      refine V.aloadn (pc := 50) dX12_tells_50 rfl ?_
      refine V.getf (q := 0) (pc := 51) dX12_tells_51 fk_X12_127_12 rfl rfl ?_
      exact V.iretE (pc := 54) hX kX12_tells_r hQ dX12_tells_54 (by cases hf; rfl) (by cases hf; rfl)
    · refine V.bipush (pc := 27) (v := -3) dX12_tells_27 (by decide) ?_
      exact V.iretE (pc := 29) hX kX12_tells_r hQ dX12_tells_29 (by cases hf; rfl) (by cases hf; rfl)
  · refine V.iconst (pc := 16) (v := -1) dX12_tells_16 (by decide) ?_
    exact V.iretE (pc := 17) hX kX12_tells_r hQ dX12_tells_17 (by cases hf; rfl) (by cases hf; rfl)
end
theorem oX12_tells {l : Launch} {G : GT} {q_a0 : Nat} {q_a0_tellsAt : Nat} {v_a0_thrown : Int32} {u_a0_trace : Value} {u_a0_text : Value} {u_a0_typed : Value} {u_a0_next : Value} {u_a0_token : Value} {u_a0_place : Value} {u_a0_value : Value} {u_a0_fault : Value} {u_a0_many : Value} {u_a0_slow : Value} {u_a0_deaf : Value} {u_a0_lengths : Value} {u_a0_told : Value} {u_a0_s : Value} {u_a0_w : Value} {u_a0_kept : Value} {u_a0_isKept : Value} {u_a0_undos : Value} {u_a0_undoMany : Value} {u_a0_heardBy : Value} {u_a0_heardAt : Value} {u_a0_heardMany : Value} {v_a0_tellMany : Int32} {u_a0_metAt : Value} {u_a0_metBeat : Value} {u_a0_round : Value} {u_a0_z : Value} {m_a0_tellsAt : Nat → Int32} {l1 : Int32} {out : Int32 × Int32 × Int32 × (Nat → Int32)} (hf : fX12_tells l1 v_a0_tellMany m_a0_tellsAt = some out) : Ct (l, G, kX12_tells, wX12_tells G q_a0 q_a0_tellsAt v_a0_thrown u_a0_trace u_a0_text u_a0_typed u_a0_next u_a0_token u_a0_place u_a0_value u_a0_fault u_a0_many u_a0_slow u_a0_deaf u_a0_lengths u_a0_told u_a0_s u_a0_w u_a0_kept u_a0_isKept u_a0_undos u_a0_undoMany u_a0_heardBy u_a0_heardAt u_a0_heardMany v_a0_tellMany u_a0_metAt u_a0_metBeat u_a0_round u_a0_z m_a0_tellsAt, [.ref q_a0, .int l1], qE (some (.int out.1)) (wX12_tells G q_a0 q_a0_tellsAt out.2.1 u_a0_trace u_a0_text u_a0_typed u_a0_next u_a0_token u_a0_place u_a0_value u_a0_fault u_a0_many u_a0_slow u_a0_deaf u_a0_lengths u_a0_told u_a0_s u_a0_w u_a0_kept u_a0_isKept u_a0_undos u_a0_undoMany u_a0_heardBy u_a0_heardAt u_a0_heardMany out.2.2.1 u_a0_metAt u_a0_metBeat u_a0_round u_a0_z out.2.2.2)) :=
  Ct.of [some (.ref q_a0), some (.int l1)] kX12_tells_p rfl rfl rfl ((tX12_tells_0 (X := (l, G, kX12_tells, wX12_tells G q_a0 q_a0_tellsAt v_a0_thrown u_a0_trace u_a0_text u_a0_typed u_a0_next u_a0_token u_a0_place u_a0_value u_a0_fault u_a0_many u_a0_slow u_a0_deaf u_a0_lengths u_a0_told u_a0_s u_a0_w u_a0_kept u_a0_isKept u_a0_undos u_a0_undoMany u_a0_heardBy u_a0_heardAt u_a0_heardMany v_a0_tellMany u_a0_metAt u_a0_metBeat u_a0_round u_a0_z m_a0_tellsAt, [.ref q_a0, .int l1], qE (some (.int out.1)) (wX12_tells G q_a0 q_a0_tellsAt out.2.1 u_a0_trace u_a0_text u_a0_typed u_a0_next u_a0_token u_a0_place u_a0_value u_a0_fault u_a0_many u_a0_slow u_a0_deaf u_a0_lengths u_a0_told u_a0_s u_a0_w u_a0_kept u_a0_isKept u_a0_undos u_a0_undoMany u_a0_heardBy u_a0_heardAt u_a0_heardMany out.2.2.1 u_a0_metAt u_a0_metBeat u_a0_round u_a0_z out.2.2.2))) rfl rfl hf))

def wX12_unsay (G : GT) (q_a0 : Nat) (v_a0_thrown : Int32) (u_a0_trace : Value) (u_a0_text : Value) (u_a0_typed : Value) (u_a0_next : Value) (u_a0_token : Value) (u_a0_place : Value) (u_a0_value : Value) (u_a0_fault : Value) (u_a0_many : Value) (u_a0_slow : Value) (u_a0_deaf : Value) (u_a0_lengths : Value) (u_a0_told : Value) (u_a0_s : Value) (u_a0_w : Value) (u_a0_kept : Value) (u_a0_isKept : Value) (u_a0_undos : Value) (u_a0_undoMany : Value) (u_a0_heardBy : Value) (u_a0_heardAt : Value) (u_a0_heardMany : Value) (u_a0_tellsAt : Value) (v_a0_tellMany : Int32) (u_a0_metAt : Value) (u_a0_metBeat : Value) (u_a0_round : Value) (u_a0_z : Value) : va_W := [(q_a0, .inr (12, [.int v_a0_thrown, u_a0_trace, u_a0_text, u_a0_typed, u_a0_next, u_a0_token, u_a0_place, u_a0_value, u_a0_fault, u_a0_many, u_a0_slow, u_a0_deaf, u_a0_lengths, u_a0_told, u_a0_s, u_a0_w, u_a0_kept, u_a0_isKept, u_a0_undos, u_a0_undoMany, u_a0_heardBy, u_a0_heardAt, u_a0_heardMany, u_a0_tellsAt, .int v_a0_tellMany, u_a0_metAt, u_a0_metBeat, u_a0_round, u_a0_z]))]
def kX12_unsay : KT := (yX12_unsay, cX12_unsay, 2, (some .int), 0, 0, 0)
theorem kX12_unsay_r : kr kX12_unsay = (some .int) ∧ kmc kX12_unsay = 0 ∧ kms kX12_unsay = 0 := ⟨rfl, rfl, rfl⟩
theorem kX12_unsay_p : plainName (ky kX12_unsay).cls = true := by decide +kernel
def fX12_unsay (v_a0_tellMany : Int32) : Option (Int32 × Int32 × Int32) :=
  some (v_a0_tellMany, (0 : Int32), (0 : Int32))
section
variable {X : XT} {N : Nat} {q_a0 : Nat} {v_a0_thrown : Int32} {u_a0_trace : Value} {u_a0_text : Value} {u_a0_typed : Value} {u_a0_next : Value} {u_a0_token : Value} {u_a0_place : Value} {u_a0_value : Value} {u_a0_fault : Value} {u_a0_many : Value} {u_a0_slow : Value} {u_a0_deaf : Value} {u_a0_lengths : Value} {u_a0_told : Value} {u_a0_s : Value} {u_a0_w : Value} {u_a0_kept : Value} {u_a0_isKept : Value} {u_a0_undos : Value} {u_a0_undoMany : Value} {u_a0_heardBy : Value} {u_a0_heardAt : Value} {u_a0_heardMany : Value} {u_a0_tellsAt : Value} {v_a0_tellMany : Int32} {u_a0_metAt : Value} {u_a0_metBeat : Value} {u_a0_round : Value} {u_a0_z : Value}
set_option maxRecDepth 20000 in
theorem tX12_unsay_0 {out : Int32 × Int32 × Int32} (hX : xk X = kX12_unsay) (hQ : xQ X = qE (some (.int out.1)) (wX12_unsay (xG X) q_a0 out.2.1 u_a0_trace u_a0_text u_a0_typed u_a0_next u_a0_token u_a0_place u_a0_value u_a0_fault u_a0_many u_a0_slow u_a0_deaf u_a0_lengths u_a0_told u_a0_s u_a0_w u_a0_kept u_a0_isKept u_a0_undos u_a0_undoMany u_a0_heardBy u_a0_heardAt u_a0_heardMany u_a0_tellsAt out.2.2 u_a0_metAt u_a0_metBeat u_a0_round u_a0_z)) (hf : fX12_unsay v_a0_tellMany = some out) : V X cX12_unsay "FarDrumModel" 0 0 (wX12_unsay (xG X) q_a0 v_a0_thrown u_a0_trace u_a0_text u_a0_typed u_a0_next u_a0_token u_a0_place u_a0_value u_a0_fault u_a0_many u_a0_slow u_a0_deaf u_a0_lengths u_a0_told u_a0_s u_a0_w u_a0_kept u_a0_isKept u_a0_undos u_a0_undoMany u_a0_heardBy u_a0_heardAt u_a0_heardMany u_a0_tellsAt v_a0_tellMany u_a0_metAt u_a0_metBeat u_a0_round u_a0_z) [some (.ref q_a0), none] 0 [] := by
  unfold fX12_unsay at hf
  refine V.aloadn (pc := 0) dX12_unsay_0 rfl ?_
  refine V.iconst (pc := 1) (v := 0) dX12_unsay_1 (by decide) ?_
  refine V.putf (q := 0) (wd' := wX12_unsay (xG X) q_a0 (0 : Int32) u_a0_trace u_a0_text u_a0_typed u_a0_next u_a0_token u_a0_place u_a0_value u_a0_fault u_a0_many u_a0_slow u_a0_deaf u_a0_lengths u_a0_told u_a0_s u_a0_w u_a0_kept u_a0_isKept u_a0_undos u_a0_undoMany u_a0_heardBy u_a0_heardAt u_a0_heardMany u_a0_tellsAt v_a0_tellMany u_a0_metAt u_a0_metBeat u_a0_round u_a0_z) (pc := 2) dX12_unsay_2 pk_X12_62_12 rfl rfl rfl rfl rfl ?_
  refine V.aloadn (pc := 5) dX12_unsay_5 rfl ?_
  refine V.getf (q := 0) (pc := 6) dX12_unsay_6 fk_X12_127_12 rfl rfl ?_
  refine V.istoren (pc := 9) dX12_unsay_9 rfl rfl rfl ?_
  refine V.aloadn (pc := 10) dX12_unsay_10 rfl ?_
  refine V.iconst (pc := 11) (v := 0) dX12_unsay_11 (by decide) ?_
  refine V.putf (q := 0) (wd' := wX12_unsay (xG X) q_a0 (0 : Int32) u_a0_trace u_a0_text u_a0_typed u_a0_next u_a0_token u_a0_place u_a0_value u_a0_fault u_a0_many u_a0_slow u_a0_deaf u_a0_lengths u_a0_told u_a0_s u_a0_w u_a0_kept u_a0_isKept u_a0_undos u_a0_undoMany u_a0_heardBy u_a0_heardAt u_a0_heardMany u_a0_tellsAt (0 : Int32) u_a0_metAt u_a0_metBeat u_a0_round u_a0_z) (pc := 12) dX12_unsay_12 pk_X12_127_12 rfl rfl rfl rfl rfl ?_
  refine V.iloadn (pc := 15) dX12_unsay_15 rfl ?_
  exact V.iretE (pc := 16) hX kX12_unsay_r hQ dX12_unsay_16 (by cases hf; rfl) (by cases hf; rfl)
end
theorem oX12_unsay {l : Launch} {G : GT} {q_a0 : Nat} {v_a0_thrown : Int32} {u_a0_trace : Value} {u_a0_text : Value} {u_a0_typed : Value} {u_a0_next : Value} {u_a0_token : Value} {u_a0_place : Value} {u_a0_value : Value} {u_a0_fault : Value} {u_a0_many : Value} {u_a0_slow : Value} {u_a0_deaf : Value} {u_a0_lengths : Value} {u_a0_told : Value} {u_a0_s : Value} {u_a0_w : Value} {u_a0_kept : Value} {u_a0_isKept : Value} {u_a0_undos : Value} {u_a0_undoMany : Value} {u_a0_heardBy : Value} {u_a0_heardAt : Value} {u_a0_heardMany : Value} {u_a0_tellsAt : Value} {v_a0_tellMany : Int32} {u_a0_metAt : Value} {u_a0_metBeat : Value} {u_a0_round : Value} {u_a0_z : Value} {out : Int32 × Int32 × Int32} (hf : fX12_unsay v_a0_tellMany = some out) : Ct (l, G, kX12_unsay, wX12_unsay G q_a0 v_a0_thrown u_a0_trace u_a0_text u_a0_typed u_a0_next u_a0_token u_a0_place u_a0_value u_a0_fault u_a0_many u_a0_slow u_a0_deaf u_a0_lengths u_a0_told u_a0_s u_a0_w u_a0_kept u_a0_isKept u_a0_undos u_a0_undoMany u_a0_heardBy u_a0_heardAt u_a0_heardMany u_a0_tellsAt v_a0_tellMany u_a0_metAt u_a0_metBeat u_a0_round u_a0_z, [.ref q_a0], qE (some (.int out.1)) (wX12_unsay G q_a0 out.2.1 u_a0_trace u_a0_text u_a0_typed u_a0_next u_a0_token u_a0_place u_a0_value u_a0_fault u_a0_many u_a0_slow u_a0_deaf u_a0_lengths u_a0_told u_a0_s u_a0_w u_a0_kept u_a0_isKept u_a0_undos u_a0_undoMany u_a0_heardBy u_a0_heardAt u_a0_heardMany u_a0_tellsAt out.2.2 u_a0_metAt u_a0_metBeat u_a0_round u_a0_z)) :=
  Ct.of [some (.ref q_a0), none] kX12_unsay_p rfl rfl rfl ((tX12_unsay_0 (X := (l, G, kX12_unsay, wX12_unsay G q_a0 v_a0_thrown u_a0_trace u_a0_text u_a0_typed u_a0_next u_a0_token u_a0_place u_a0_value u_a0_fault u_a0_many u_a0_slow u_a0_deaf u_a0_lengths u_a0_told u_a0_s u_a0_w u_a0_kept u_a0_isKept u_a0_undos u_a0_undoMany u_a0_heardBy u_a0_heardAt u_a0_heardMany u_a0_tellsAt v_a0_tellMany u_a0_metAt u_a0_metBeat u_a0_round u_a0_z, [.ref q_a0], qE (some (.int out.1)) (wX12_unsay G q_a0 out.2.1 u_a0_trace u_a0_text u_a0_typed u_a0_next u_a0_token u_a0_place u_a0_value u_a0_fault u_a0_many u_a0_slow u_a0_deaf u_a0_lengths u_a0_told u_a0_s u_a0_w u_a0_kept u_a0_isKept u_a0_undos u_a0_undoMany u_a0_heardBy u_a0_heardAt u_a0_heardMany u_a0_tellsAt out.2.2 u_a0_metAt u_a0_metBeat u_a0_round u_a0_z))) rfl rfl hf))

def wX12_isStroke (G : GT) (q_a0 : Nat) (q_a0_deaf : Nat) (q_a0_lengths : Nat) (q_a0_many : Nat) (q_a0_slow : Nat) (q_a0_w : Nat) (u_a0_thrown : Value) (u_a0_trace : Value) (u_a0_text : Value) (u_a0_typed : Value) (u_a0_next : Value) (u_a0_token : Value) (u_a0_place : Value) (u_a0_value : Value) (u_a0_fault : Value) (u_a0_told : Value) (u_a0_s : Value) (u_a0_kept : Value) (u_a0_isKept : Value) (u_a0_undos : Value) (u_a0_undoMany : Value) (u_a0_heardBy : Value) (u_a0_heardAt : Value) (u_a0_heardMany : Value) (u_a0_tellsAt : Value) (u_a0_tellMany : Value) (u_a0_metAt : Value) (u_a0_metBeat : Value) (u_a0_round : Value) (u_a0_z : Value) (m_a0_deaf : Nat → Int32) (m_a0_lengths : Nat → Int32) (m_a0_many : Nat → Int32) (m_a0_slow : Nat → Int32) (m_a0_w : Nat → Int32) : va_W := [(q_a0, .inr (12, [u_a0_thrown, u_a0_trace, u_a0_text, u_a0_typed, u_a0_next, u_a0_token, u_a0_place, u_a0_value, u_a0_fault, .ref q_a0_many, .ref q_a0_slow, .ref q_a0_deaf, .ref q_a0_lengths, u_a0_told, u_a0_s, .ref q_a0_w, u_a0_kept, u_a0_isKept, u_a0_undos, u_a0_undoMany, u_a0_heardBy, u_a0_heardAt, u_a0_heardMany, u_a0_tellsAt, u_a0_tellMany, u_a0_metAt, u_a0_metBeat, u_a0_round, u_a0_z])), (q_a0_deaf, .inl (G.2 0, 12, .inl m_a0_deaf)), (q_a0_lengths, .inl (G.2 0, 72, .inl m_a0_lengths)), (q_a0_many, .inl (G.2 0, 6, .inl m_a0_many)), (q_a0_slow, .inl (G.2 0, 12, .inl m_a0_slow)), (q_a0_w, .inl (G.2 0, 35, .inl m_a0_w))]
def kX12_isStroke : KT := (yX12_isStroke, cX12_isStroke, 3, (some .boolean), 3, 0, 0)
theorem kX12_isStroke_r : kr kX12_isStroke = (some .boolean) ∧ kmc kX12_isStroke = 0 ∧ kms kX12_isStroke = 0 := ⟨rfl, rfl, rfl⟩
theorem kX12_isStroke_p : plainName (ky kX12_isStroke).cls = true := by decide +kernel
def fX12_isStroke_29 (B29 : Int32 → (Nat → Int32) → Option (Int32 × (Nat → Int32))) (K29_55 : Int32 → (Nat → Int32) → Option (Int32 × (Nat → Int32))) (N : Nat) (l1 : Int32) (l2 : Int32) (m_a0_lengths : Nat → Int32) (m_a0_many : Nat → Int32) (m_a0_w : Nat → Int32) : Option (Int32 × (Nat → Int32)) :=
  if l2 = 0 then (K29_55 l2 m_a0_w)
  else (if l1 ≤ (m_a0_w 1) then (K29_55 l2 m_a0_w)
  else (Option.bind (fX12_goes N m_a0_lengths m_a0_many m_a0_w) fun o48 =>
  B29 o48.1 o48.2))
def fX12_isStroke_L29 (N : Nat) (l1 : Int32) (m_a0_lengths : Nat → Int32) (m_a0_many : Nat → Int32) (K29_55 : Int32 → (Nat → Int32) → Option (Int32 × (Nat → Int32))) : Nat → Int32 → (Nat → Int32) → Option (Int32 × (Nat → Int32))
  | 0, _, _ => none
  | n + 1, l2, m_a0_w => fX12_isStroke_29 (fX12_isStroke_L29 N l1 m_a0_lengths m_a0_many K29_55 n) K29_55 N l1 l2 m_a0_lengths m_a0_many m_a0_w
def fX12_isStroke_74 (s0 : Int32) (m_a0_w : Nat → Int32) : Option (Int32 × (Nat → Int32)) :=
  bz s0 <| 
  some (s0, m_a0_w)
def fX12_isStroke_73 (m_a0_w : Nat → Int32) : Option (Int32 × (Nat → Int32)) :=
  fX12_isStroke_74 (0 : Int32) m_a0_w
def fX12_isStroke_28 (N : Nat) (l1 : Int32) (s0 : Int32) (m_a0_lengths : Nat → Int32) (m_a0_many : Nat → Int32) (m_a0_w : Nat → Int32) : Option (Int32 × (Nat → Int32)) :=
  fX12_isStroke_L29 N l1 m_a0_lengths m_a0_many
      (fun l2k29_55 m_a0_wk29_55 => if l2k29_55 = 0 then (fX12_isStroke_73 m_a0_wk29_55)
  else (if (m_a0_wk29_55 1) = l1 then (fX12_isStroke_74 (1 : Int32) m_a0_wk29_55)
  else (fX12_isStroke_73 m_a0_wk29_55))) N s0 m_a0_w
def fX12_isStroke (N : Nat) (l1 : Int32) (m_a0_deaf : Nat → Int32) (m_a0_lengths : Nat → Int32) (m_a0_many : Nat → Int32) (m_a0_slow : Nat → Int32) (m_a0_w : Nat → Int32) : Option (Int32 × (Nat → Int32)) :=
  Option.bind (fX12_asTold N (m_a0_many 2) m_a0_deaf m_a0_many m_a0_slow m_a0_w) fun o11 =>
  if (m_a0_many 0) ≤ 0 then (fX12_isStroke_28 N l1 (0 : Int32) m_a0_lengths m_a0_many o11)
  else (fX12_isStroke_28 N l1 (1 : Int32) m_a0_lengths m_a0_many o11)
section
variable {X : XT} {N : Nat} {q_a0 : Nat} {q_a0_deaf : Nat} {q_a0_lengths : Nat} {q_a0_many : Nat} {q_a0_slow : Nat} {q_a0_w : Nat} {u_a0_thrown : Value} {u_a0_trace : Value} {u_a0_text : Value} {u_a0_typed : Value} {u_a0_next : Value} {u_a0_token : Value} {u_a0_place : Value} {u_a0_value : Value} {u_a0_fault : Value} {u_a0_told : Value} {u_a0_s : Value} {u_a0_kept : Value} {u_a0_isKept : Value} {u_a0_undos : Value} {u_a0_undoMany : Value} {u_a0_heardBy : Value} {u_a0_heardAt : Value} {u_a0_heardMany : Value} {u_a0_tellsAt : Value} {u_a0_tellMany : Value} {u_a0_metAt : Value} {u_a0_metBeat : Value} {u_a0_round : Value} {u_a0_z : Value} {m_a0_deaf : Nat → Int32} {m_a0_lengths : Nat → Int32} {m_a0_many : Nat → Int32} {m_a0_slow : Nat → Int32} {m_a0_w : Nat → Int32} {l1 : Int32} {s0 : Int32} {l2 : Int32}
set_option maxRecDepth 20000 in
theorem tX12_isStroke_29 {out : Int32 × (Nat → Int32)} (hX : xk X = kX12_isStroke) (hQ : xQ X = qE (some (.int out.1)) (wX12_isStroke (xG X) q_a0 q_a0_deaf q_a0_lengths q_a0_many q_a0_slow q_a0_w u_a0_thrown u_a0_trace u_a0_text u_a0_typed u_a0_next u_a0_token u_a0_place u_a0_value u_a0_fault u_a0_told u_a0_s u_a0_kept u_a0_isKept u_a0_undos u_a0_undoMany u_a0_heardBy u_a0_heardAt u_a0_heardMany u_a0_tellsAt u_a0_tellMany u_a0_metAt u_a0_metBeat u_a0_round u_a0_z m_a0_deaf m_a0_lengths m_a0_many m_a0_slow out.2)) {B29 : Int32 → (Nat → Int32) → Option (Int32 × (Nat → Int32))} {K29_55 : Int32 → (Nat → Int32) → Option (Int32 × (Nat → Int32))} (hB29 : ∀ (l2 : Int32) (m_a0_w : Nat → Int32), B29 l2 m_a0_w = some out → V X cX12_isStroke "FarDrumModel" 0 0 (wX12_isStroke (xG X) q_a0 q_a0_deaf q_a0_lengths q_a0_many q_a0_slow q_a0_w u_a0_thrown u_a0_trace u_a0_text u_a0_typed u_a0_next u_a0_token u_a0_place u_a0_value u_a0_fault u_a0_told u_a0_s u_a0_kept u_a0_isKept u_a0_undos u_a0_undoMany u_a0_heardBy u_a0_heardAt u_a0_heardMany u_a0_tellsAt u_a0_tellMany u_a0_metAt u_a0_metBeat u_a0_round u_a0_z m_a0_deaf m_a0_lengths m_a0_many m_a0_slow m_a0_w) [some (.ref q_a0), some (.int l1), some (.int l2)] 29 []) (hK29_55 : ∀ (l2 : Int32) (m_a0_w : Nat → Int32), K29_55 l2 m_a0_w = some out → V X cX12_isStroke "FarDrumModel" 0 0 (wX12_isStroke (xG X) q_a0 q_a0_deaf q_a0_lengths q_a0_many q_a0_slow q_a0_w u_a0_thrown u_a0_trace u_a0_text u_a0_typed u_a0_next u_a0_token u_a0_place u_a0_value u_a0_fault u_a0_told u_a0_s u_a0_kept u_a0_isKept u_a0_undos u_a0_undoMany u_a0_heardBy u_a0_heardAt u_a0_heardMany u_a0_tellsAt u_a0_tellMany u_a0_metAt u_a0_metBeat u_a0_round u_a0_z m_a0_deaf m_a0_lengths m_a0_many m_a0_slow m_a0_w) [some (.ref q_a0), some (.int l1), some (.int l2)] 55 []) (hf : fX12_isStroke_29 B29 K29_55 N l1 l2 m_a0_lengths m_a0_many m_a0_w = some out) : V X cX12_isStroke "FarDrumModel" 0 0 (wX12_isStroke (xG X) q_a0 q_a0_deaf q_a0_lengths q_a0_many q_a0_slow q_a0_w u_a0_thrown u_a0_trace u_a0_text u_a0_typed u_a0_next u_a0_token u_a0_place u_a0_value u_a0_fault u_a0_told u_a0_s u_a0_kept u_a0_isKept u_a0_undos u_a0_undoMany u_a0_heardBy u_a0_heardAt u_a0_heardMany u_a0_tellsAt u_a0_tellMany u_a0_metAt u_a0_metBeat u_a0_round u_a0_z m_a0_deaf m_a0_lengths m_a0_many m_a0_slow m_a0_w) [some (.ref q_a0), some (.int l1), some (.int l2)] 29 [] := by
  unfold fX12_isStroke_29 at hf
  refine V.iloadn (pc := 29) dX12_isStroke_29 rfl ?_
  refine V.if_eq (pc := 30) (tgt := 55) dX12_isStroke_30 (by decide) hf (fun hf => ?_) (fun hf => ?_)
  · exact hK29_55 _ _ hf
  · refine V.aloadn (pc := 33) dX12_isStroke_33 rfl ?_
    refine V.getf (q := 0) (pc := 34) dX12_isStroke_34 fk_X12_28_12 rfl rfl ?_
    refine V.iconst (pc := 37) (v := 1) dX12_isStroke_37 (by decide) ?_
    refine V.ialdC (pc := 38) (q := 5) 1 dX12_isStroke_38 rfl ⟨vp_c (by decide), by decide⟩ ?_
    refine V.iloadn (pc := 39) dX12_isStroke_39 rfl ?_
    refine V.icmp_ge (pc := 40) (tgt := 55) dX12_isStroke_40 (by decide) hf (fun hf => ?_) (fun hf => ?_)
    · exact hK29_55 _ _ hf
    · refine V.aloadn (pc := 43) dX12_isStroke_43 rfl ?_
      refine V.aloadn (pc := 44) dX12_isStroke_44 rfl ?_
      refine V.getf (q := 0) (pc := 45) dX12_isStroke_45 fk_X12_28_12 rfl rfl ?_
      refine V.callVi (pc := 48) (q := 0) (wr := [(q_a0_deaf, .inl ((xG X).2 0, 12, .inl m_a0_deaf)), (q_a0_slow, .inl ((xG X).2 0, 12, .inl m_a0_slow))]) (wd' := fun o48 => wX12_isStroke (xG X) q_a0 q_a0_deaf q_a0_lengths q_a0_many q_a0_slow q_a0_w u_a0_thrown u_a0_trace u_a0_text u_a0_typed u_a0_next u_a0_token u_a0_place u_a0_value u_a0_fault u_a0_told u_a0_s u_a0_kept u_a0_isKept u_a0_undos u_a0_undoMany u_a0_heardBy u_a0_heardAt u_a0_heardMany u_a0_tellsAt u_a0_tellMany u_a0_metAt u_a0_metBeat u_a0_round u_a0_z m_a0_deaf m_a0_lengths m_a0_many m_a0_slow o48.2) [.ref q_a0_w] (st := []) hf (fun _ h => oX12_goes (q_a0 := q_a0) (q_a0_lengths := q_a0_lengths) (q_a0_many := q_a0_many) (q_a1 := q_a0_w) (u_a0_thrown := u_a0_thrown) (u_a0_trace := u_a0_trace) (u_a0_text := u_a0_text) (u_a0_typed := u_a0_typed) (u_a0_next := u_a0_next) (u_a0_token := u_a0_token) (u_a0_place := u_a0_place) (u_a0_value := u_a0_value) (u_a0_fault := u_a0_fault) (u_a0_slow := ((.ref q_a0_slow))) (u_a0_deaf := ((.ref q_a0_deaf))) (u_a0_told := u_a0_told) (u_a0_s := u_a0_s) (u_a0_w := ((.ref q_a0_w))) (u_a0_kept := u_a0_kept) (u_a0_isKept := u_a0_isKept) (u_a0_undos := u_a0_undos) (u_a0_undoMany := u_a0_undoMany) (u_a0_heardBy := u_a0_heardBy) (u_a0_heardAt := u_a0_heardAt) (u_a0_heardMany := u_a0_heardMany) (u_a0_tellsAt := u_a0_tellsAt) (u_a0_tellMany := u_a0_tellMany) (u_a0_metAt := u_a0_metAt) (u_a0_metBeat := u_a0_metBeat) (u_a0_round := u_a0_round) (u_a0_z := u_a0_z) (m_a0_lengths := m_a0_lengths) (m_a0_many := m_a0_many) (m_a1 := m_a0_w) h) lkV_X12_151 dX12_isStroke_48 hX rfl ⟨rfl, rfl⟩ ⟨rfl, rfl⟩ rfl rfl rfl rfl rfl [0, 2, 3, 5] [1, 4] [2, 0, 3, 4, 1, 5] rfl rfl rfl rfl rfl (fun _ => rfl) rfl (fun o48 hf => ?_)
      refine V.istoren (pc := 51) dX12_isStroke_51 rfl rfl rfl ?_
      refine V.goto (pc := 52) (tgt := 29) dX12_isStroke_52 (by decide) ?_
      exact hB29 _ _ hf
theorem tX12_isStroke_L29 {out : Int32 × (Nat → Int32)} (hX : xk X = kX12_isStroke) (hQ : xQ X = qE (some (.int out.1)) (wX12_isStroke (xG X) q_a0 q_a0_deaf q_a0_lengths q_a0_many q_a0_slow q_a0_w u_a0_thrown u_a0_trace u_a0_text u_a0_typed u_a0_next u_a0_token u_a0_place u_a0_value u_a0_fault u_a0_told u_a0_s u_a0_kept u_a0_isKept u_a0_undos u_a0_undoMany u_a0_heardBy u_a0_heardAt u_a0_heardMany u_a0_tellsAt u_a0_tellMany u_a0_metAt u_a0_metBeat u_a0_round u_a0_z m_a0_deaf m_a0_lengths m_a0_many m_a0_slow out.2)) {K29_55 : Int32 → (Nat → Int32) → Option (Int32 × (Nat → Int32))} (hK29_55 : ∀ (l2 : Int32) (m_a0_w : Nat → Int32), K29_55 l2 m_a0_w = some out → V X cX12_isStroke "FarDrumModel" 0 0 (wX12_isStroke (xG X) q_a0 q_a0_deaf q_a0_lengths q_a0_many q_a0_slow q_a0_w u_a0_thrown u_a0_trace u_a0_text u_a0_typed u_a0_next u_a0_token u_a0_place u_a0_value u_a0_fault u_a0_told u_a0_s u_a0_kept u_a0_isKept u_a0_undos u_a0_undoMany u_a0_heardBy u_a0_heardAt u_a0_heardMany u_a0_tellsAt u_a0_tellMany u_a0_metAt u_a0_metBeat u_a0_round u_a0_z m_a0_deaf m_a0_lengths m_a0_many m_a0_slow m_a0_w) [some (.ref q_a0), some (.int l1), some (.int l2)] 55 []) : ∀ (n : Nat) (l2 : Int32) (m_a0_w : Nat → Int32), fX12_isStroke_L29 N l1 m_a0_lengths m_a0_many K29_55 n l2 m_a0_w = some out → V X cX12_isStroke "FarDrumModel" 0 0 (wX12_isStroke (xG X) q_a0 q_a0_deaf q_a0_lengths q_a0_many q_a0_slow q_a0_w u_a0_thrown u_a0_trace u_a0_text u_a0_typed u_a0_next u_a0_token u_a0_place u_a0_value u_a0_fault u_a0_told u_a0_s u_a0_kept u_a0_isKept u_a0_undos u_a0_undoMany u_a0_heardBy u_a0_heardAt u_a0_heardMany u_a0_tellsAt u_a0_tellMany u_a0_metAt u_a0_metBeat u_a0_round u_a0_z m_a0_deaf m_a0_lengths m_a0_many m_a0_slow m_a0_w) [some (.ref q_a0), some (.int l1), some (.int l2)] 29 [] := by
  intro n
  induction n with
  | zero => intro l2 m_a0_w hf; cases hf
  | succ n ih => intro l2 m_a0_w hf; exact tX12_isStroke_29 hX hQ ih hK29_55 hf
set_option maxRecDepth 20000 in
theorem tX12_isStroke_74 {out : Int32 × (Nat → Int32)} (hX : xk X = kX12_isStroke) (hQ : xQ X = qE (some (.int out.1)) (wX12_isStroke (xG X) q_a0 q_a0_deaf q_a0_lengths q_a0_many q_a0_slow q_a0_w u_a0_thrown u_a0_trace u_a0_text u_a0_typed u_a0_next u_a0_token u_a0_place u_a0_value u_a0_fault u_a0_told u_a0_s u_a0_kept u_a0_isKept u_a0_undos u_a0_undoMany u_a0_heardBy u_a0_heardAt u_a0_heardMany u_a0_tellsAt u_a0_tellMany u_a0_metAt u_a0_metBeat u_a0_round u_a0_z m_a0_deaf m_a0_lengths m_a0_many m_a0_slow out.2)) (hf : fX12_isStroke_74 s0 m_a0_w = some out) : V X cX12_isStroke "FarDrumModel" 0 0 (wX12_isStroke (xG X) q_a0 q_a0_deaf q_a0_lengths q_a0_many q_a0_slow q_a0_w u_a0_thrown u_a0_trace u_a0_text u_a0_typed u_a0_next u_a0_token u_a0_place u_a0_value u_a0_fault u_a0_told u_a0_s u_a0_kept u_a0_isKept u_a0_undos u_a0_undoMany u_a0_heardBy u_a0_heardAt u_a0_heardMany u_a0_tellsAt u_a0_tellMany u_a0_metAt u_a0_metBeat u_a0_round u_a0_z m_a0_deaf m_a0_lengths m_a0_many m_a0_slow m_a0_w) [none, none, none] 74 [.int s0] := by
  unfold fX12_isStroke_74 at hf
  obtain ⟨hz, hf⟩ := bz_ok hf
  exact V.zretE (pc := 74) hX kX12_isStroke_r hQ hz dX12_isStroke_74 (by cases hf; rfl) (by cases hf; rfl)
set_option maxRecDepth 20000 in
theorem tX12_isStroke_73 {out : Int32 × (Nat → Int32)} (hX : xk X = kX12_isStroke) (hQ : xQ X = qE (some (.int out.1)) (wX12_isStroke (xG X) q_a0 q_a0_deaf q_a0_lengths q_a0_many q_a0_slow q_a0_w u_a0_thrown u_a0_trace u_a0_text u_a0_typed u_a0_next u_a0_token u_a0_place u_a0_value u_a0_fault u_a0_told u_a0_s u_a0_kept u_a0_isKept u_a0_undos u_a0_undoMany u_a0_heardBy u_a0_heardAt u_a0_heardMany u_a0_tellsAt u_a0_tellMany u_a0_metAt u_a0_metBeat u_a0_round u_a0_z m_a0_deaf m_a0_lengths m_a0_many m_a0_slow out.2)) (hf : fX12_isStroke_73 m_a0_w = some out) : V X cX12_isStroke "FarDrumModel" 0 0 (wX12_isStroke (xG X) q_a0 q_a0_deaf q_a0_lengths q_a0_many q_a0_slow q_a0_w u_a0_thrown u_a0_trace u_a0_text u_a0_typed u_a0_next u_a0_token u_a0_place u_a0_value u_a0_fault u_a0_told u_a0_s u_a0_kept u_a0_isKept u_a0_undos u_a0_undoMany u_a0_heardBy u_a0_heardAt u_a0_heardMany u_a0_tellsAt u_a0_tellMany u_a0_metAt u_a0_metBeat u_a0_round u_a0_z m_a0_deaf m_a0_lengths m_a0_many m_a0_slow m_a0_w) [none, none, none] 73 [] := by
  unfold fX12_isStroke_73 at hf
  refine V.iconst (pc := 73) (v := 0) dX12_isStroke_73 (by decide) ?_
  exact tX12_isStroke_74 hX hQ hf
set_option maxRecDepth 20000 in
theorem tX12_isStroke_28 {out : Int32 × (Nat → Int32)} (hX : xk X = kX12_isStroke) (hQ : xQ X = qE (some (.int out.1)) (wX12_isStroke (xG X) q_a0 q_a0_deaf q_a0_lengths q_a0_many q_a0_slow q_a0_w u_a0_thrown u_a0_trace u_a0_text u_a0_typed u_a0_next u_a0_token u_a0_place u_a0_value u_a0_fault u_a0_told u_a0_s u_a0_kept u_a0_isKept u_a0_undos u_a0_undoMany u_a0_heardBy u_a0_heardAt u_a0_heardMany u_a0_tellsAt u_a0_tellMany u_a0_metAt u_a0_metBeat u_a0_round u_a0_z m_a0_deaf m_a0_lengths m_a0_many m_a0_slow out.2)) (hf : fX12_isStroke_28 N l1 s0 m_a0_lengths m_a0_many m_a0_w = some out) : V X cX12_isStroke "FarDrumModel" 0 0 (wX12_isStroke (xG X) q_a0 q_a0_deaf q_a0_lengths q_a0_many q_a0_slow q_a0_w u_a0_thrown u_a0_trace u_a0_text u_a0_typed u_a0_next u_a0_token u_a0_place u_a0_value u_a0_fault u_a0_told u_a0_s u_a0_kept u_a0_isKept u_a0_undos u_a0_undoMany u_a0_heardBy u_a0_heardAt u_a0_heardMany u_a0_tellsAt u_a0_tellMany u_a0_metAt u_a0_metBeat u_a0_round u_a0_z m_a0_deaf m_a0_lengths m_a0_many m_a0_slow m_a0_w) [some (.ref q_a0), some (.int l1), none] 28 [.int s0] := by
  unfold fX12_isStroke_28 at hf
  refine V.istoren (pc := 28) dX12_isStroke_28 rfl rfl rfl ?_
  refine tX12_isStroke_L29 hX hQ ?_ _ _ _ hf
  · intro l2k29_55 m_a0_wk29_55 hf
    refine V.iloadn (pc := 55) dX12_isStroke_55 rfl ?_
    refine V.if_eq (pc := 56) (tgt := 73) dX12_isStroke_56 (by decide) hf (fun hf => ?_) (fun hf => ?_)
    · refine V.mask (pc := 73) [false, false, false] rfl rfl ?_
      exact tX12_isStroke_73 hX hQ hf
    · refine V.aloadn (pc := 59) dX12_isStroke_59 rfl ?_
      refine V.getf (q := 0) (pc := 60) dX12_isStroke_60 fk_X12_28_12 rfl rfl ?_
      refine V.iconst (pc := 63) (v := 1) dX12_isStroke_63 (by decide) ?_
      refine V.ialdC (pc := 64) (q := 5) 1 dX12_isStroke_64 rfl ⟨vp_c (by decide), by decide⟩ ?_
      refine V.iloadn (pc := 65) dX12_isStroke_65 rfl ?_
      refine V.icmp_ne (pc := 66) (tgt := 73) dX12_isStroke_66 (by decide) hf (fun hf => ?_) (fun hf => ?_)
      · refine V.mask (pc := 73) [false, false, false] rfl rfl ?_
        exact tX12_isStroke_73 hX hQ hf
      · refine V.iconst (pc := 69) (v := 1) dX12_isStroke_69 (by decide) ?_
        refine V.goto (pc := 70) (tgt := 74) dX12_isStroke_70 (by decide) ?_
        refine V.mask (pc := 74) [false, false, false] rfl rfl ?_
        exact tX12_isStroke_74 hX hQ hf
set_option maxRecDepth 20000 in
theorem tX12_isStroke_0 {out : Int32 × (Nat → Int32)} (hX : xk X = kX12_isStroke) (hQ : xQ X = qE (some (.int out.1)) (wX12_isStroke (xG X) q_a0 q_a0_deaf q_a0_lengths q_a0_many q_a0_slow q_a0_w u_a0_thrown u_a0_trace u_a0_text u_a0_typed u_a0_next u_a0_token u_a0_place u_a0_value u_a0_fault u_a0_told u_a0_s u_a0_kept u_a0_isKept u_a0_undos u_a0_undoMany u_a0_heardBy u_a0_heardAt u_a0_heardMany u_a0_tellsAt u_a0_tellMany u_a0_metAt u_a0_metBeat u_a0_round u_a0_z m_a0_deaf m_a0_lengths m_a0_many m_a0_slow out.2)) (hf : fX12_isStroke N l1 m_a0_deaf m_a0_lengths m_a0_many m_a0_slow m_a0_w = some out) : V X cX12_isStroke "FarDrumModel" 0 0 (wX12_isStroke (xG X) q_a0 q_a0_deaf q_a0_lengths q_a0_many q_a0_slow q_a0_w u_a0_thrown u_a0_trace u_a0_text u_a0_typed u_a0_next u_a0_token u_a0_place u_a0_value u_a0_fault u_a0_told u_a0_s u_a0_kept u_a0_isKept u_a0_undos u_a0_undoMany u_a0_heardBy u_a0_heardAt u_a0_heardMany u_a0_tellsAt u_a0_tellMany u_a0_metAt u_a0_metBeat u_a0_round u_a0_z m_a0_deaf m_a0_lengths m_a0_many m_a0_slow m_a0_w) [some (.ref q_a0), some (.int l1), none] 0 [] := by
  unfold fX12_isStroke at hf
  refine V.aloadn (pc := 0) dX12_isStroke_0 rfl ?_
  refine V.aloadn (pc := 1) dX12_isStroke_1 rfl ?_
  refine V.getf (q := 0) (pc := 2) dX12_isStroke_2 fk_X12_28_12 rfl rfl ?_
  refine V.aloadn (pc := 5) dX12_isStroke_5 rfl ?_
  refine V.getf (q := 0) (pc := 6) dX12_isStroke_6 fk_X12_13_12 rfl rfl ?_
  refine V.iconst (pc := 9) (v := 2) dX12_isStroke_9 (by decide) ?_
  refine V.ialdC (pc := 10) (q := 3) 2 dX12_isStroke_10 rfl ⟨vp_c (by decide), by decide⟩ ?_
  refine V.callVv (pc := 11) (q := 0) (wr := [(q_a0_lengths, .inl ((xG X).2 0, 72, .inl m_a0_lengths))]) (wd' := fun o11 => wX12_isStroke (xG X) q_a0 q_a0_deaf q_a0_lengths q_a0_many q_a0_slow q_a0_w u_a0_thrown u_a0_trace u_a0_text u_a0_typed u_a0_next u_a0_token u_a0_place u_a0_value u_a0_fault u_a0_told u_a0_s u_a0_kept u_a0_isKept u_a0_undos u_a0_undoMany u_a0_heardBy u_a0_heardAt u_a0_heardMany u_a0_tellsAt u_a0_tellMany u_a0_metAt u_a0_metBeat u_a0_round u_a0_z m_a0_deaf m_a0_lengths m_a0_many m_a0_slow o11) [.ref q_a0_w, .int (m_a0_many 2)] (st := []) hf (fun _ h => oX12_asTold (q_a0 := q_a0) (q_a0_deaf := q_a0_deaf) (q_a0_many := q_a0_many) (q_a0_slow := q_a0_slow) (q_a1 := q_a0_w) (u_a0_thrown := u_a0_thrown) (u_a0_trace := u_a0_trace) (u_a0_text := u_a0_text) (u_a0_typed := u_a0_typed) (u_a0_next := u_a0_next) (u_a0_token := u_a0_token) (u_a0_place := u_a0_place) (u_a0_value := u_a0_value) (u_a0_fault := u_a0_fault) (u_a0_lengths := ((.ref q_a0_lengths))) (u_a0_told := u_a0_told) (u_a0_s := u_a0_s) (u_a0_w := ((.ref q_a0_w))) (u_a0_kept := u_a0_kept) (u_a0_isKept := u_a0_isKept) (u_a0_undos := u_a0_undos) (u_a0_undoMany := u_a0_undoMany) (u_a0_heardBy := u_a0_heardBy) (u_a0_heardAt := u_a0_heardAt) (u_a0_heardMany := u_a0_heardMany) (u_a0_tellsAt := u_a0_tellsAt) (u_a0_tellMany := u_a0_tellMany) (u_a0_metAt := u_a0_metAt) (u_a0_metBeat := u_a0_metBeat) (u_a0_round := u_a0_round) (u_a0_z := u_a0_z) (m_a0_deaf := m_a0_deaf) (m_a0_many := m_a0_many) (m_a0_slow := m_a0_slow) (m_a1 := m_a0_w) (l2 := (m_a0_many 2)) h) lkV_X12_120 dX12_isStroke_11 hX rfl ⟨rfl, rfl⟩ ⟨rfl, rfl⟩ rfl rfl rfl rfl rfl [0, 1, 3, 4, 5] [2] [1, 2, 0, 3, 4, 5] rfl rfl rfl rfl rfl (fun _ => rfl) rfl (fun o11 hf => ?_)
  refine V.aloadn (pc := 14) dX12_isStroke_14 rfl ?_
  refine V.getf (q := 0) (pc := 15) dX12_isStroke_15 fk_X12_13_12 rfl rfl ?_
  refine V.iconst (pc := 18) (v := 0) dX12_isStroke_18 (by decide) ?_
  refine V.ialdC (pc := 19) (q := 3) 0 dX12_isStroke_19 rfl ⟨vp_c (by decide), by decide⟩ ?_
  refine V.if_le (pc := 20) (tgt := 27) dX12_isStroke_20 (by decide) hf (fun hf => ?_) (fun hf => ?_)
  · refine V.iconst (pc := 27) (v := 0) dX12_isStroke_27 (by decide) ?_
    exact tX12_isStroke_28 hX hQ hf
  · refine V.iconst (pc := 23) (v := 1) dX12_isStroke_23 (by decide) ?_
    refine V.goto (pc := 24) (tgt := 28) dX12_isStroke_24 (by decide) ?_
    exact tX12_isStroke_28 hX hQ hf
end
theorem oX12_isStroke {l : Launch} {G : GT} {N : Nat} {q_a0 : Nat} {q_a0_deaf : Nat} {q_a0_lengths : Nat} {q_a0_many : Nat} {q_a0_slow : Nat} {q_a0_w : Nat} {u_a0_thrown : Value} {u_a0_trace : Value} {u_a0_text : Value} {u_a0_typed : Value} {u_a0_next : Value} {u_a0_token : Value} {u_a0_place : Value} {u_a0_value : Value} {u_a0_fault : Value} {u_a0_told : Value} {u_a0_s : Value} {u_a0_kept : Value} {u_a0_isKept : Value} {u_a0_undos : Value} {u_a0_undoMany : Value} {u_a0_heardBy : Value} {u_a0_heardAt : Value} {u_a0_heardMany : Value} {u_a0_tellsAt : Value} {u_a0_tellMany : Value} {u_a0_metAt : Value} {u_a0_metBeat : Value} {u_a0_round : Value} {u_a0_z : Value} {m_a0_deaf : Nat → Int32} {m_a0_lengths : Nat → Int32} {m_a0_many : Nat → Int32} {m_a0_slow : Nat → Int32} {m_a0_w : Nat → Int32} {l1 : Int32} {out : Int32 × (Nat → Int32)} (hf : fX12_isStroke N l1 m_a0_deaf m_a0_lengths m_a0_many m_a0_slow m_a0_w = some out) : Ct (l, G, kX12_isStroke, wX12_isStroke G q_a0 q_a0_deaf q_a0_lengths q_a0_many q_a0_slow q_a0_w u_a0_thrown u_a0_trace u_a0_text u_a0_typed u_a0_next u_a0_token u_a0_place u_a0_value u_a0_fault u_a0_told u_a0_s u_a0_kept u_a0_isKept u_a0_undos u_a0_undoMany u_a0_heardBy u_a0_heardAt u_a0_heardMany u_a0_tellsAt u_a0_tellMany u_a0_metAt u_a0_metBeat u_a0_round u_a0_z m_a0_deaf m_a0_lengths m_a0_many m_a0_slow m_a0_w, [.ref q_a0, .int l1], qE (some (.int out.1)) (wX12_isStroke G q_a0 q_a0_deaf q_a0_lengths q_a0_many q_a0_slow q_a0_w u_a0_thrown u_a0_trace u_a0_text u_a0_typed u_a0_next u_a0_token u_a0_place u_a0_value u_a0_fault u_a0_told u_a0_s u_a0_kept u_a0_isKept u_a0_undos u_a0_undoMany u_a0_heardBy u_a0_heardAt u_a0_heardMany u_a0_tellsAt u_a0_tellMany u_a0_metAt u_a0_metBeat u_a0_round u_a0_z m_a0_deaf m_a0_lengths m_a0_many m_a0_slow out.2)) :=
  Ct.of [some (.ref q_a0), some (.int l1), none] kX12_isStroke_p rfl rfl rfl ((tX12_isStroke_0 (X := (l, G, kX12_isStroke, wX12_isStroke G q_a0 q_a0_deaf q_a0_lengths q_a0_many q_a0_slow q_a0_w u_a0_thrown u_a0_trace u_a0_text u_a0_typed u_a0_next u_a0_token u_a0_place u_a0_value u_a0_fault u_a0_told u_a0_s u_a0_kept u_a0_isKept u_a0_undos u_a0_undoMany u_a0_heardBy u_a0_heardAt u_a0_heardMany u_a0_tellsAt u_a0_tellMany u_a0_metAt u_a0_metBeat u_a0_round u_a0_z m_a0_deaf m_a0_lengths m_a0_many m_a0_slow m_a0_w, [.ref q_a0, .int l1], qE (some (.int out.1)) (wX12_isStroke G q_a0 q_a0_deaf q_a0_lengths q_a0_many q_a0_slow q_a0_w u_a0_thrown u_a0_trace u_a0_text u_a0_typed u_a0_next u_a0_token u_a0_place u_a0_value u_a0_fault u_a0_told u_a0_s u_a0_kept u_a0_isKept u_a0_undos u_a0_undoMany u_a0_heardBy u_a0_heardAt u_a0_heardMany u_a0_tellsAt u_a0_tellMany u_a0_metAt u_a0_metBeat u_a0_round u_a0_z m_a0_deaf m_a0_lengths m_a0_many m_a0_slow out.2))) rfl rfl hf))

theorem lkb_X12_isStroke : LkB kX12_isStroke 1 := ⟨kw_5_57, kw_1_13, ⟨by decide, by decide⟩, by decide +kernel, by decide⟩
theorem lkV_X12_182 : LkV "FarDrumModel" 182 kX12_isStroke 1 := ⟨lkb_X12_isStroke, kw_5_54, kw_5_56, kp_47⟩
def wX12_tooMany (G : GT) (q_a0 : Nat) (q_a0_deaf : Nat) (q_a0_lengths : Nat) (q_a0_many : Nat) (q_a0_slow : Nat) (q_a0_tellsAt : Nat) (q_a0_w : Nat) (v_a0_thrown : Int32) (u_a0_trace : Value) (u_a0_text : Value) (u_a0_typed : Value) (u_a0_next : Value) (u_a0_token : Value) (u_a0_place : Value) (u_a0_value : Value) (u_a0_fault : Value) (u_a0_told : Value) (u_a0_s : Value) (u_a0_kept : Value) (u_a0_isKept : Value) (u_a0_undos : Value) (u_a0_undoMany : Value) (u_a0_heardBy : Value) (u_a0_heardAt : Value) (u_a0_heardMany : Value) (v_a0_tellMany : Int32) (u_a0_metAt : Value) (u_a0_metBeat : Value) (u_a0_round : Value) (u_a0_z : Value) (m_a0_deaf : Nat → Int32) (m_a0_lengths : Nat → Int32) (m_a0_many : Nat → Int32) (m_a0_slow : Nat → Int32) (m_a0_tellsAt : Nat → Int32) (m_a0_w : Nat → Int32) : va_W := [(q_a0, .inr (12, [.int v_a0_thrown, u_a0_trace, u_a0_text, u_a0_typed, u_a0_next, u_a0_token, u_a0_place, u_a0_value, u_a0_fault, .ref q_a0_many, .ref q_a0_slow, .ref q_a0_deaf, .ref q_a0_lengths, u_a0_told, u_a0_s, .ref q_a0_w, u_a0_kept, u_a0_isKept, u_a0_undos, u_a0_undoMany, u_a0_heardBy, u_a0_heardAt, u_a0_heardMany, .ref q_a0_tellsAt, .int v_a0_tellMany, u_a0_metAt, u_a0_metBeat, u_a0_round, u_a0_z])), (q_a0_deaf, .inl (G.2 0, 12, .inl m_a0_deaf)), (q_a0_lengths, .inl (G.2 0, 72, .inl m_a0_lengths)), (q_a0_many, .inl (G.2 0, 6, .inl m_a0_many)), (q_a0_slow, .inl (G.2 0, 12, .inl m_a0_slow)), (q_a0_tellsAt, .inl (G.2 0, 6, .inl m_a0_tellsAt)), (q_a0_w, .inl (G.2 0, 35, .inl m_a0_w))]
def kX12_tooMany : KT := (yX12_tooMany, cX12_tooMany, 4, (some .int), 4, 0, 0)
theorem kX12_tooMany_r : kr kX12_tooMany = (some .int) ∧ kmc kX12_tooMany = 0 ∧ kms kX12_tooMany = 0 := ⟨rfl, rfl, rfl⟩
theorem kX12_tooMany_p : plainName (ky kX12_tooMany).cls = true := by decide +kernel
def fX12_tooMany_39 (B11 : Int32 → Int32 → Int32 → (Nat → Int32) → Option (Int32 × Int32 × (Nat → Int32))) (l1 : Int32) (l2 : Int32) (l3 : Int32) (m_a0_w : Nat → Int32) : Option (Int32 × Int32 × (Nat → Int32)) :=
  B11 l1 l2 (l3 + (1 : Int32)) m_a0_w
def fX12_tooMany_11 (B11 : Int32 → Int32 → Int32 → (Nat → Int32) → Option (Int32 × Int32 × (Nat → Int32))) (K11_45 : Int32 → Int32 → (Nat → Int32) → Option (Int32 × Int32 × (Nat → Int32))) (N : Nat) (l1 : Int32) (l2 : Int32) (l3 : Int32) (v_a0_tellMany : Int32) (m_a0_deaf : Nat → Int32) (m_a0_lengths : Nat → Int32) (m_a0_many : Nat → Int32) (m_a0_slow : Nat → Int32) (m_a0_tellsAt : Nat → Int32) (m_a0_w : Nat → Int32) : Option (Int32 × Int32 × (Nat → Int32)) :=
  if v_a0_tellMany ≤ l3 then (K11_45 l1 l2 m_a0_w)
  else (rdi 6 m_a0_tellsAt l3 fun x25 =>
  Option.bind (fX12_isStroke N x25 m_a0_deaf m_a0_lengths m_a0_many m_a0_slow m_a0_w) fun o26 =>
  if o26.1 = 0 then (lti ((1 : Int32) <<< (l3 &&& 31)) fun y35 =>
  fX12_tooMany_39 B11 y35 (l2 + (1 : Int32)) l3 o26.2)
  else (fX12_tooMany_39 B11 l1 l2 l3 o26.2))
def fX12_tooMany_L11 (N : Nat) (v_a0_tellMany : Int32) (m_a0_deaf : Nat → Int32) (m_a0_lengths : Nat → Int32) (m_a0_many : Nat → Int32) (m_a0_slow : Nat → Int32) (m_a0_tellsAt : Nat → Int32) (K11_45 : Int32 → Int32 → (Nat → Int32) → Option (Int32 × Int32 × (Nat → Int32))) : Nat → Int32 → Int32 → Int32 → (Nat → Int32) → Option (Int32 × Int32 × (Nat → Int32))
  | 0, _, _, _, _ => none
  | n + 1, l1, l2, l3, m_a0_w => fX12_tooMany_11 (fX12_tooMany_L11 N v_a0_tellMany m_a0_deaf m_a0_lengths m_a0_many m_a0_slow m_a0_tellsAt K11_45 n) K11_45 N l1 l2 l3 v_a0_tellMany m_a0_deaf m_a0_lengths m_a0_many m_a0_slow m_a0_tellsAt m_a0_w
def fX12_tooMany_56 (s0 : Int32) (v_a0_thrown : Int32) (m_a0_w : Nat → Int32) : Option (Int32 × Int32 × (Nat → Int32)) :=
  some (s0, v_a0_thrown, m_a0_w)
def fX12_tooMany (N : Nat) (v_a0_tellMany : Int32) (m_a0_deaf : Nat → Int32) (m_a0_lengths : Nat → Int32) (m_a0_many : Nat → Int32) (m_a0_slow : Nat → Int32) (m_a0_tellsAt : Nat → Int32) (m_a0_w : Nat → Int32) : Option (Int32 × Int32 × (Nat → Int32)) :=
  fX12_tooMany_L11 N v_a0_tellMany m_a0_deaf m_a0_lengths m_a0_many m_a0_slow m_a0_tellsAt
      (fun l1k11_45 l2k11_45 m_a0_wk11_45 => if l2k11_45 ≤ (1 : Int32) then (fX12_tooMany_56 l1k11_45 (0 : Int32) m_a0_wk11_45)
  else (fX12_tooMany_56 (-9 : Int32) (0 : Int32) m_a0_wk11_45)) N (0 : Int32) (0 : Int32) (0 : Int32) m_a0_w
section
variable {X : XT} {N : Nat} {q_a0 : Nat} {q_a0_deaf : Nat} {q_a0_lengths : Nat} {q_a0_many : Nat} {q_a0_slow : Nat} {q_a0_tellsAt : Nat} {q_a0_w : Nat} {v_a0_thrown : Int32} {u_a0_trace : Value} {u_a0_text : Value} {u_a0_typed : Value} {u_a0_next : Value} {u_a0_token : Value} {u_a0_place : Value} {u_a0_value : Value} {u_a0_fault : Value} {u_a0_told : Value} {u_a0_s : Value} {u_a0_kept : Value} {u_a0_isKept : Value} {u_a0_undos : Value} {u_a0_undoMany : Value} {u_a0_heardBy : Value} {u_a0_heardAt : Value} {u_a0_heardMany : Value} {v_a0_tellMany : Int32} {u_a0_metAt : Value} {u_a0_metBeat : Value} {u_a0_round : Value} {u_a0_z : Value} {m_a0_deaf : Nat → Int32} {m_a0_lengths : Nat → Int32} {m_a0_many : Nat → Int32} {m_a0_slow : Nat → Int32} {m_a0_tellsAt : Nat → Int32} {m_a0_w : Nat → Int32} {l1 : Int32} {l2 : Int32} {l3 : Int32} {s0 : Int32}
set_option maxRecDepth 20000 in
theorem tX12_tooMany_39 {out : Int32 × Int32 × (Nat → Int32)} (hX : xk X = kX12_tooMany) (hQ : xQ X = qE (some (.int out.1)) (wX12_tooMany (xG X) q_a0 q_a0_deaf q_a0_lengths q_a0_many q_a0_slow q_a0_tellsAt q_a0_w out.2.1 u_a0_trace u_a0_text u_a0_typed u_a0_next u_a0_token u_a0_place u_a0_value u_a0_fault u_a0_told u_a0_s u_a0_kept u_a0_isKept u_a0_undos u_a0_undoMany u_a0_heardBy u_a0_heardAt u_a0_heardMany v_a0_tellMany u_a0_metAt u_a0_metBeat u_a0_round u_a0_z m_a0_deaf m_a0_lengths m_a0_many m_a0_slow m_a0_tellsAt out.2.2)) {B11 : Int32 → Int32 → Int32 → (Nat → Int32) → Option (Int32 × Int32 × (Nat → Int32))} (hB11 : ∀ (l1 : Int32) (l2 : Int32) (l3 : Int32) (m_a0_w : Nat → Int32), B11 l1 l2 l3 m_a0_w = some out → V X cX12_tooMany "FarDrumModel" 0 0 (wX12_tooMany (xG X) q_a0 q_a0_deaf q_a0_lengths q_a0_many q_a0_slow q_a0_tellsAt q_a0_w v_a0_thrown u_a0_trace u_a0_text u_a0_typed u_a0_next u_a0_token u_a0_place u_a0_value u_a0_fault u_a0_told u_a0_s u_a0_kept u_a0_isKept u_a0_undos u_a0_undoMany u_a0_heardBy u_a0_heardAt u_a0_heardMany v_a0_tellMany u_a0_metAt u_a0_metBeat u_a0_round u_a0_z m_a0_deaf m_a0_lengths m_a0_many m_a0_slow m_a0_tellsAt m_a0_w) [some (.ref q_a0), some (.int l1), some (.int l2), some (.int l3)] 11 []) (hf : fX12_tooMany_39 B11 l1 l2 l3 m_a0_w = some out) : V X cX12_tooMany "FarDrumModel" 0 0 (wX12_tooMany (xG X) q_a0 q_a0_deaf q_a0_lengths q_a0_many q_a0_slow q_a0_tellsAt q_a0_w v_a0_thrown u_a0_trace u_a0_text u_a0_typed u_a0_next u_a0_token u_a0_place u_a0_value u_a0_fault u_a0_told u_a0_s u_a0_kept u_a0_isKept u_a0_undos u_a0_undoMany u_a0_heardBy u_a0_heardAt u_a0_heardMany v_a0_tellMany u_a0_metAt u_a0_metBeat u_a0_round u_a0_z m_a0_deaf m_a0_lengths m_a0_many m_a0_slow m_a0_tellsAt m_a0_w) [some (.ref q_a0), some (.int l1), some (.int l2), some (.int l3)] 39 [] := by
  unfold fX12_tooMany_39 at hf
  refine V.iinc (pc := 39) (v := 1) dX12_tooMany_39 rfl rfl (by decide) rfl ?_
  refine V.goto (pc := 42) (tgt := 11) dX12_tooMany_42 (by decide) ?_
  exact hB11 _ _ _ _ hf
set_option maxRecDepth 20000 in
theorem tX12_tooMany_11 {out : Int32 × Int32 × (Nat → Int32)} (hX : xk X = kX12_tooMany) (hQ : xQ X = qE (some (.int out.1)) (wX12_tooMany (xG X) q_a0 q_a0_deaf q_a0_lengths q_a0_many q_a0_slow q_a0_tellsAt q_a0_w out.2.1 u_a0_trace u_a0_text u_a0_typed u_a0_next u_a0_token u_a0_place u_a0_value u_a0_fault u_a0_told u_a0_s u_a0_kept u_a0_isKept u_a0_undos u_a0_undoMany u_a0_heardBy u_a0_heardAt u_a0_heardMany v_a0_tellMany u_a0_metAt u_a0_metBeat u_a0_round u_a0_z m_a0_deaf m_a0_lengths m_a0_many m_a0_slow m_a0_tellsAt out.2.2)) {B11 : Int32 → Int32 → Int32 → (Nat → Int32) → Option (Int32 × Int32 × (Nat → Int32))} {K11_45 : Int32 → Int32 → (Nat → Int32) → Option (Int32 × Int32 × (Nat → Int32))} (hB11 : ∀ (l1 : Int32) (l2 : Int32) (l3 : Int32) (m_a0_w : Nat → Int32), B11 l1 l2 l3 m_a0_w = some out → V X cX12_tooMany "FarDrumModel" 0 0 (wX12_tooMany (xG X) q_a0 q_a0_deaf q_a0_lengths q_a0_many q_a0_slow q_a0_tellsAt q_a0_w v_a0_thrown u_a0_trace u_a0_text u_a0_typed u_a0_next u_a0_token u_a0_place u_a0_value u_a0_fault u_a0_told u_a0_s u_a0_kept u_a0_isKept u_a0_undos u_a0_undoMany u_a0_heardBy u_a0_heardAt u_a0_heardMany v_a0_tellMany u_a0_metAt u_a0_metBeat u_a0_round u_a0_z m_a0_deaf m_a0_lengths m_a0_many m_a0_slow m_a0_tellsAt m_a0_w) [some (.ref q_a0), some (.int l1), some (.int l2), some (.int l3)] 11 []) (hK11_45 : ∀ (l1 : Int32) (l2 : Int32) (m_a0_w : Nat → Int32), K11_45 l1 l2 m_a0_w = some out → V X cX12_tooMany "FarDrumModel" 0 0 (wX12_tooMany (xG X) q_a0 q_a0_deaf q_a0_lengths q_a0_many q_a0_slow q_a0_tellsAt q_a0_w v_a0_thrown u_a0_trace u_a0_text u_a0_typed u_a0_next u_a0_token u_a0_place u_a0_value u_a0_fault u_a0_told u_a0_s u_a0_kept u_a0_isKept u_a0_undos u_a0_undoMany u_a0_heardBy u_a0_heardAt u_a0_heardMany v_a0_tellMany u_a0_metAt u_a0_metBeat u_a0_round u_a0_z m_a0_deaf m_a0_lengths m_a0_many m_a0_slow m_a0_tellsAt m_a0_w) [none, some (.int l1), some (.int l2), none] 45 []) (hf : fX12_tooMany_11 B11 K11_45 N l1 l2 l3 v_a0_tellMany m_a0_deaf m_a0_lengths m_a0_many m_a0_slow m_a0_tellsAt m_a0_w = some out) : V X cX12_tooMany "FarDrumModel" 0 0 (wX12_tooMany (xG X) q_a0 q_a0_deaf q_a0_lengths q_a0_many q_a0_slow q_a0_tellsAt q_a0_w v_a0_thrown u_a0_trace u_a0_text u_a0_typed u_a0_next u_a0_token u_a0_place u_a0_value u_a0_fault u_a0_told u_a0_s u_a0_kept u_a0_isKept u_a0_undos u_a0_undoMany u_a0_heardBy u_a0_heardAt u_a0_heardMany v_a0_tellMany u_a0_metAt u_a0_metBeat u_a0_round u_a0_z m_a0_deaf m_a0_lengths m_a0_many m_a0_slow m_a0_tellsAt m_a0_w) [some (.ref q_a0), some (.int l1), some (.int l2), some (.int l3)] 11 [] := by
  unfold fX12_tooMany_11 at hf
  refine V.iloadn (pc := 11) dX12_tooMany_11 rfl ?_
  refine V.aloadn (pc := 12) dX12_tooMany_12 rfl ?_
  refine V.getf (q := 0) (pc := 13) dX12_tooMany_13 fk_X12_127_12 rfl rfl ?_
  refine V.icmp_ge (pc := 16) (tgt := 45) dX12_tooMany_16 (by decide) hf (fun hf => ?_) (fun hf => ?_)
  · refine V.mask (pc := 45) [false, true, true, false] rfl rfl ?_
    exact hK11_45 _ _ _ hf
  · refine V.aloadn (pc := 19) dX12_tooMany_19 rfl ?_
    refine V.aloadn (pc := 20) dX12_tooMany_20 rfl ?_
    refine V.getf (q := 0) (pc := 21) dX12_tooMany_21 fk_X12_47_12 rfl rfl ?_
    refine V.iloadn (pc := 24) dX12_tooMany_24 rfl ?_
    refine V.iald (pc := 25) (q := 5) dX12_tooMany_25 rfl hf (fun x25 hf => ?_)
    refine V.callVi (pc := 26) (q := 0) (wr := [(q_a0_tellsAt, .inl ((xG X).2 0, 6, .inl m_a0_tellsAt))]) (wd' := fun o26 => wX12_tooMany (xG X) q_a0 q_a0_deaf q_a0_lengths q_a0_many q_a0_slow q_a0_tellsAt q_a0_w v_a0_thrown u_a0_trace u_a0_text u_a0_typed u_a0_next u_a0_token u_a0_place u_a0_value u_a0_fault u_a0_told u_a0_s u_a0_kept u_a0_isKept u_a0_undos u_a0_undoMany u_a0_heardBy u_a0_heardAt u_a0_heardMany v_a0_tellMany u_a0_metAt u_a0_metBeat u_a0_round u_a0_z m_a0_deaf m_a0_lengths m_a0_many m_a0_slow m_a0_tellsAt o26.2) [.int x25] (st := []) hf (fun _ h => oX12_isStroke (q_a0 := q_a0) (q_a0_deaf := q_a0_deaf) (q_a0_lengths := q_a0_lengths) (q_a0_many := q_a0_many) (q_a0_slow := q_a0_slow) (q_a0_w := q_a0_w) (u_a0_thrown := ((.int v_a0_thrown))) (u_a0_trace := u_a0_trace) (u_a0_text := u_a0_text) (u_a0_typed := u_a0_typed) (u_a0_next := u_a0_next) (u_a0_token := u_a0_token) (u_a0_place := u_a0_place) (u_a0_value := u_a0_value) (u_a0_fault := u_a0_fault) (u_a0_told := u_a0_told) (u_a0_s := u_a0_s) (u_a0_kept := u_a0_kept) (u_a0_isKept := u_a0_isKept) (u_a0_undos := u_a0_undos) (u_a0_undoMany := u_a0_undoMany) (u_a0_heardBy := u_a0_heardBy) (u_a0_heardAt := u_a0_heardAt) (u_a0_heardMany := u_a0_heardMany) (u_a0_tellsAt := ((.ref q_a0_tellsAt))) (u_a0_tellMany := ((.int v_a0_tellMany))) (u_a0_metAt := u_a0_metAt) (u_a0_metBeat := u_a0_metBeat) (u_a0_round := u_a0_round) (u_a0_z := u_a0_z) (m_a0_deaf := m_a0_deaf) (m_a0_lengths := m_a0_lengths) (m_a0_many := m_a0_many) (m_a0_slow := m_a0_slow) (m_a0_w := m_a0_w) (l1 := x25) h) lkV_X12_182 dX12_tooMany_26 hX rfl ⟨rfl, rfl⟩ ⟨rfl, rfl⟩ rfl rfl rfl rfl rfl [0, 1, 2, 3, 4, 6] [5] [1, 2, 3, 4, 5, 0, 6] rfl rfl rfl rfl rfl (fun _ => rfl) rfl (fun o26 hf => ?_)
    refine V.if_ne (pc := 29) (tgt := 39) dX12_tooMany_29 (by decide) hf (fun hf => ?_) (fun hf => ?_)
    · exact tX12_tooMany_39 hX hQ hB11 hf
    · refine V.iconst (pc := 32) (v := 1) dX12_tooMany_32 (by decide) ?_
      refine V.iloadn (pc := 33) dX12_tooMany_33 rfl ?_
      refine V.ishl (pc := 34) dX12_tooMany_34 ?_
      refine V.topi hf (fun y35 hf => ?_)
      refine V.istoren (pc := 35) dX12_tooMany_35 rfl rfl rfl ?_
      refine V.iinc (pc := 36) (v := 1) dX12_tooMany_36 rfl rfl (by decide) rfl ?_
      exact tX12_tooMany_39 hX hQ hB11 hf
theorem tX12_tooMany_L11 {out : Int32 × Int32 × (Nat → Int32)} (hX : xk X = kX12_tooMany) (hQ : xQ X = qE (some (.int out.1)) (wX12_tooMany (xG X) q_a0 q_a0_deaf q_a0_lengths q_a0_many q_a0_slow q_a0_tellsAt q_a0_w out.2.1 u_a0_trace u_a0_text u_a0_typed u_a0_next u_a0_token u_a0_place u_a0_value u_a0_fault u_a0_told u_a0_s u_a0_kept u_a0_isKept u_a0_undos u_a0_undoMany u_a0_heardBy u_a0_heardAt u_a0_heardMany v_a0_tellMany u_a0_metAt u_a0_metBeat u_a0_round u_a0_z m_a0_deaf m_a0_lengths m_a0_many m_a0_slow m_a0_tellsAt out.2.2)) {K11_45 : Int32 → Int32 → (Nat → Int32) → Option (Int32 × Int32 × (Nat → Int32))} (hK11_45 : ∀ (l1 : Int32) (l2 : Int32) (m_a0_w : Nat → Int32), K11_45 l1 l2 m_a0_w = some out → V X cX12_tooMany "FarDrumModel" 0 0 (wX12_tooMany (xG X) q_a0 q_a0_deaf q_a0_lengths q_a0_many q_a0_slow q_a0_tellsAt q_a0_w v_a0_thrown u_a0_trace u_a0_text u_a0_typed u_a0_next u_a0_token u_a0_place u_a0_value u_a0_fault u_a0_told u_a0_s u_a0_kept u_a0_isKept u_a0_undos u_a0_undoMany u_a0_heardBy u_a0_heardAt u_a0_heardMany v_a0_tellMany u_a0_metAt u_a0_metBeat u_a0_round u_a0_z m_a0_deaf m_a0_lengths m_a0_many m_a0_slow m_a0_tellsAt m_a0_w) [none, some (.int l1), some (.int l2), none] 45 []) : ∀ (n : Nat) (l1 : Int32) (l2 : Int32) (l3 : Int32) (m_a0_w : Nat → Int32), fX12_tooMany_L11 N v_a0_tellMany m_a0_deaf m_a0_lengths m_a0_many m_a0_slow m_a0_tellsAt K11_45 n l1 l2 l3 m_a0_w = some out → V X cX12_tooMany "FarDrumModel" 0 0 (wX12_tooMany (xG X) q_a0 q_a0_deaf q_a0_lengths q_a0_many q_a0_slow q_a0_tellsAt q_a0_w v_a0_thrown u_a0_trace u_a0_text u_a0_typed u_a0_next u_a0_token u_a0_place u_a0_value u_a0_fault u_a0_told u_a0_s u_a0_kept u_a0_isKept u_a0_undos u_a0_undoMany u_a0_heardBy u_a0_heardAt u_a0_heardMany v_a0_tellMany u_a0_metAt u_a0_metBeat u_a0_round u_a0_z m_a0_deaf m_a0_lengths m_a0_many m_a0_slow m_a0_tellsAt m_a0_w) [some (.ref q_a0), some (.int l1), some (.int l2), some (.int l3)] 11 [] := by
  intro n
  induction n with
  | zero => intro l1 l2 l3 m_a0_w hf; cases hf
  | succ n ih => intro l1 l2 l3 m_a0_w hf; exact tX12_tooMany_11 hX hQ ih hK11_45 hf
set_option maxRecDepth 20000 in
theorem tX12_tooMany_56 {out : Int32 × Int32 × (Nat → Int32)} (hX : xk X = kX12_tooMany) (hQ : xQ X = qE (some (.int out.1)) (wX12_tooMany (xG X) q_a0 q_a0_deaf q_a0_lengths q_a0_many q_a0_slow q_a0_tellsAt q_a0_w out.2.1 u_a0_trace u_a0_text u_a0_typed u_a0_next u_a0_token u_a0_place u_a0_value u_a0_fault u_a0_told u_a0_s u_a0_kept u_a0_isKept u_a0_undos u_a0_undoMany u_a0_heardBy u_a0_heardAt u_a0_heardMany v_a0_tellMany u_a0_metAt u_a0_metBeat u_a0_round u_a0_z m_a0_deaf m_a0_lengths m_a0_many m_a0_slow m_a0_tellsAt out.2.2)) (hf : fX12_tooMany_56 s0 v_a0_thrown m_a0_w = some out) : V X cX12_tooMany "FarDrumModel" 0 0 (wX12_tooMany (xG X) q_a0 q_a0_deaf q_a0_lengths q_a0_many q_a0_slow q_a0_tellsAt q_a0_w v_a0_thrown u_a0_trace u_a0_text u_a0_typed u_a0_next u_a0_token u_a0_place u_a0_value u_a0_fault u_a0_told u_a0_s u_a0_kept u_a0_isKept u_a0_undos u_a0_undoMany u_a0_heardBy u_a0_heardAt u_a0_heardMany v_a0_tellMany u_a0_metAt u_a0_metBeat u_a0_round u_a0_z m_a0_deaf m_a0_lengths m_a0_many m_a0_slow m_a0_tellsAt m_a0_w) [none, none, none, none] 56 [.int s0] := by
  unfold fX12_tooMany_56 at hf
  exact V.iretE (pc := 56) hX kX12_tooMany_r hQ dX12_tooMany_56 (by cases hf; rfl) (by cases hf; rfl)
set_option maxRecDepth 20000 in
theorem tX12_tooMany_0 {out : Int32 × Int32 × (Nat → Int32)} (hX : xk X = kX12_tooMany) (hQ : xQ X = qE (some (.int out.1)) (wX12_tooMany (xG X) q_a0 q_a0_deaf q_a0_lengths q_a0_many q_a0_slow q_a0_tellsAt q_a0_w out.2.1 u_a0_trace u_a0_text u_a0_typed u_a0_next u_a0_token u_a0_place u_a0_value u_a0_fault u_a0_told u_a0_s u_a0_kept u_a0_isKept u_a0_undos u_a0_undoMany u_a0_heardBy u_a0_heardAt u_a0_heardMany v_a0_tellMany u_a0_metAt u_a0_metBeat u_a0_round u_a0_z m_a0_deaf m_a0_lengths m_a0_many m_a0_slow m_a0_tellsAt out.2.2)) (hf : fX12_tooMany N v_a0_tellMany m_a0_deaf m_a0_lengths m_a0_many m_a0_slow m_a0_tellsAt m_a0_w = some out) : V X cX12_tooMany "FarDrumModel" 0 0 (wX12_tooMany (xG X) q_a0 q_a0_deaf q_a0_lengths q_a0_many q_a0_slow q_a0_tellsAt q_a0_w v_a0_thrown u_a0_trace u_a0_text u_a0_typed u_a0_next u_a0_token u_a0_place u_a0_value u_a0_fault u_a0_told u_a0_s u_a0_kept u_a0_isKept u_a0_undos u_a0_undoMany u_a0_heardBy u_a0_heardAt u_a0_heardMany v_a0_tellMany u_a0_metAt u_a0_metBeat u_a0_round u_a0_z m_a0_deaf m_a0_lengths m_a0_many m_a0_slow m_a0_tellsAt m_a0_w) [some (.ref q_a0), none, none, none] 0 [] := by
  unfold fX12_tooMany at hf
  refine V.aloadn (pc := 0) dX12_tooMany_0 rfl ?_
  refine V.iconst (pc := 1) (v := 0) dX12_tooMany_1 (by decide) ?_
  refine V.putf (q := 0) (wd' := wX12_tooMany (xG X) q_a0 q_a0_deaf q_a0_lengths q_a0_many q_a0_slow q_a0_tellsAt q_a0_w (0 : Int32) u_a0_trace u_a0_text u_a0_typed u_a0_next u_a0_token u_a0_place u_a0_value u_a0_fault u_a0_told u_a0_s u_a0_kept u_a0_isKept u_a0_undos u_a0_undoMany u_a0_heardBy u_a0_heardAt u_a0_heardMany v_a0_tellMany u_a0_metAt u_a0_metBeat u_a0_round u_a0_z m_a0_deaf m_a0_lengths m_a0_many m_a0_slow m_a0_tellsAt m_a0_w) (pc := 2) dX12_tooMany_2 pk_X12_62_12 rfl rfl rfl rfl rfl ?_
  refine V.iconst (pc := 5) (v := 0) dX12_tooMany_5 (by decide) ?_
  refine V.istoren (pc := 6) dX12_tooMany_6 rfl rfl rfl ?_
  refine V.iconst (pc := 7) (v := 0) dX12_tooMany_7 (by decide) ?_
  refine V.istoren (pc := 8) dX12_tooMany_8 rfl rfl rfl ?_
  refine V.iconst (pc := 9) (v := 0) dX12_tooMany_9 (by decide) ?_
  refine V.istoren (pc := 10) dX12_tooMany_10 rfl rfl rfl ?_
  refine tX12_tooMany_L11 hX hQ ?_ _ _ _ _ _ hf
  · intro l1k11_45 l2k11_45 m_a0_wk11_45 hf
    refine V.iloadn (pc := 45) dX12_tooMany_45 rfl ?_
    refine V.iconst (pc := 46) (v := 1) dX12_tooMany_46 (by decide) ?_
    refine V.icmp_le (pc := 47) (tgt := 55) dX12_tooMany_47 (by decide) hf (fun hf => ?_) (fun hf => ?_)
    · refine V.iloadn (pc := 55) dX12_tooMany_55 rfl ?_
      refine V.mask (pc := 56) [false, false, false, false] rfl rfl ?_
      exact tX12_tooMany_56 hX hQ hf
    · refine V.bipush (pc := 50) (v := -9) dX12_tooMany_50 (by decide) ?_
      refine V.goto (pc := 52) (tgt := 56) dX12_tooMany_52 (by decide) ?_
      refine V.mask (pc := 56) [false, false, false, false] rfl rfl ?_
      exact tX12_tooMany_56 hX hQ hf
end
theorem oX12_tooMany {l : Launch} {G : GT} {N : Nat} {q_a0 : Nat} {q_a0_deaf : Nat} {q_a0_lengths : Nat} {q_a0_many : Nat} {q_a0_slow : Nat} {q_a0_tellsAt : Nat} {q_a0_w : Nat} {v_a0_thrown : Int32} {u_a0_trace : Value} {u_a0_text : Value} {u_a0_typed : Value} {u_a0_next : Value} {u_a0_token : Value} {u_a0_place : Value} {u_a0_value : Value} {u_a0_fault : Value} {u_a0_told : Value} {u_a0_s : Value} {u_a0_kept : Value} {u_a0_isKept : Value} {u_a0_undos : Value} {u_a0_undoMany : Value} {u_a0_heardBy : Value} {u_a0_heardAt : Value} {u_a0_heardMany : Value} {v_a0_tellMany : Int32} {u_a0_metAt : Value} {u_a0_metBeat : Value} {u_a0_round : Value} {u_a0_z : Value} {m_a0_deaf : Nat → Int32} {m_a0_lengths : Nat → Int32} {m_a0_many : Nat → Int32} {m_a0_slow : Nat → Int32} {m_a0_tellsAt : Nat → Int32} {m_a0_w : Nat → Int32} {out : Int32 × Int32 × (Nat → Int32)} (hf : fX12_tooMany N v_a0_tellMany m_a0_deaf m_a0_lengths m_a0_many m_a0_slow m_a0_tellsAt m_a0_w = some out) : Ct (l, G, kX12_tooMany, wX12_tooMany G q_a0 q_a0_deaf q_a0_lengths q_a0_many q_a0_slow q_a0_tellsAt q_a0_w v_a0_thrown u_a0_trace u_a0_text u_a0_typed u_a0_next u_a0_token u_a0_place u_a0_value u_a0_fault u_a0_told u_a0_s u_a0_kept u_a0_isKept u_a0_undos u_a0_undoMany u_a0_heardBy u_a0_heardAt u_a0_heardMany v_a0_tellMany u_a0_metAt u_a0_metBeat u_a0_round u_a0_z m_a0_deaf m_a0_lengths m_a0_many m_a0_slow m_a0_tellsAt m_a0_w, [.ref q_a0], qE (some (.int out.1)) (wX12_tooMany G q_a0 q_a0_deaf q_a0_lengths q_a0_many q_a0_slow q_a0_tellsAt q_a0_w out.2.1 u_a0_trace u_a0_text u_a0_typed u_a0_next u_a0_token u_a0_place u_a0_value u_a0_fault u_a0_told u_a0_s u_a0_kept u_a0_isKept u_a0_undos u_a0_undoMany u_a0_heardBy u_a0_heardAt u_a0_heardMany v_a0_tellMany u_a0_metAt u_a0_metBeat u_a0_round u_a0_z m_a0_deaf m_a0_lengths m_a0_many m_a0_slow m_a0_tellsAt out.2.2)) :=
  Ct.of [some (.ref q_a0), none, none, none] kX12_tooMany_p rfl rfl rfl ((tX12_tooMany_0 (X := (l, G, kX12_tooMany, wX12_tooMany G q_a0 q_a0_deaf q_a0_lengths q_a0_many q_a0_slow q_a0_tellsAt q_a0_w v_a0_thrown u_a0_trace u_a0_text u_a0_typed u_a0_next u_a0_token u_a0_place u_a0_value u_a0_fault u_a0_told u_a0_s u_a0_kept u_a0_isKept u_a0_undos u_a0_undoMany u_a0_heardBy u_a0_heardAt u_a0_heardMany v_a0_tellMany u_a0_metAt u_a0_metBeat u_a0_round u_a0_z m_a0_deaf m_a0_lengths m_a0_many m_a0_slow m_a0_tellsAt m_a0_w, [.ref q_a0], qE (some (.int out.1)) (wX12_tooMany G q_a0 q_a0_deaf q_a0_lengths q_a0_many q_a0_slow q_a0_tellsAt q_a0_w out.2.1 u_a0_trace u_a0_text u_a0_typed u_a0_next u_a0_token u_a0_place u_a0_value u_a0_fault u_a0_told u_a0_s u_a0_kept u_a0_isKept u_a0_undos u_a0_undoMany u_a0_heardBy u_a0_heardAt u_a0_heardMany v_a0_tellMany u_a0_metAt u_a0_metBeat u_a0_round u_a0_z m_a0_deaf m_a0_lengths m_a0_many m_a0_slow m_a0_tellsAt out.2.2))) rfl rfl hf))

theorem fk_X12_59_12 : Fk "FarDrumModel" 59 12 28 := ⟨RX12, TX12, 29, "FarDrumModel", rfl, inX12, by decide, kw_4_36, Or.inl rfl⟩
def wX12_meet (G : GT) (q_a0 : Nat) (q_a0_lengths : Nat) (q_a0_many : Nat) (q_a0_s : Nat) (q_a0_w : Nat) (q_a0_z : Nat) (v_a0_thrown : Int32) (u_a0_trace : Value) (u_a0_text : Value) (u_a0_typed : Value) (u_a0_next : Value) (u_a0_token : Value) (u_a0_place : Value) (u_a0_value : Value) (u_a0_fault : Value) (u_a0_slow : Value) (u_a0_deaf : Value) (u_a0_told : Value) (u_a0_kept : Value) (u_a0_isKept : Value) (u_a0_undos : Value) (u_a0_undoMany : Value) (u_a0_heardBy : Value) (u_a0_heardAt : Value) (u_a0_heardMany : Value) (u_a0_tellsAt : Value) (u_a0_tellMany : Value) (u_a0_metAt : Value) (u_a0_metBeat : Value) (u_a0_round : Value) (m_a0_lengths : Nat → Int32) (m_a0_many : Nat → Int32) (m_a0_s : Nat → Int32) (m_a0_w : Nat → Int32) (m_a0_z : Nat → Int32) : va_W := [(q_a0, .inr (12, [.int v_a0_thrown, u_a0_trace, u_a0_text, u_a0_typed, u_a0_next, u_a0_token, u_a0_place, u_a0_value, u_a0_fault, .ref q_a0_many, u_a0_slow, u_a0_deaf, .ref q_a0_lengths, u_a0_told, .ref q_a0_s, .ref q_a0_w, u_a0_kept, u_a0_isKept, u_a0_undos, u_a0_undoMany, u_a0_heardBy, u_a0_heardAt, u_a0_heardMany, u_a0_tellsAt, u_a0_tellMany, u_a0_metAt, u_a0_metBeat, u_a0_round, .ref q_a0_z])), (q_a0_lengths, .inl (G.2 0, 72, .inl m_a0_lengths)), (q_a0_many, .inl (G.2 0, 6, .inl m_a0_many)), (q_a0_s, .inl (G.2 0, 35, .inl m_a0_s)), (q_a0_w, .inl (G.2 0, 35, .inl m_a0_w)), (q_a0_z, .inl (G.2 0, 35, .inl m_a0_z))]
def kX12_meet : KT := (yX12_meet, cX12_meet, 5, (some .int), 3, 0, 0)
theorem kX12_meet_r : kr kX12_meet = (some .int) ∧ kmc kX12_meet = 0 ∧ kms kX12_meet = 0 := ⟨rfl, rfl, rfl⟩
theorem kX12_meet_p : plainName (ky kX12_meet).cls = true := by decide +kernel
def fX12_meet_22 (v_a0_thrown : Int32) (m_a0_w : Nat → Int32) (m_a0_z : Nat → Int32) : Option (Int32 × Int32 × (Nat → Int32) × (Nat → Int32)) :=
  some ((-1 : Int32), v_a0_thrown, m_a0_w, m_a0_z)
def fX12_meet_30 (B30 : Int32 → (Nat → Int32) → Option (Int32 × Int32 × (Nat → Int32) × (Nat → Int32))) (K30_54 : (Nat → Int32) → Option (Int32 × Int32 × (Nat → Int32) × (Nat → Int32))) (l3 : Int32) (m_a0_s : Nat → Int32) (m_a0_z : Nat → Int32) : Option (Int32 × Int32 × (Nat → Int32) × (Nat → Int32)) :=
  if (35 : Int32) ≤ l3 then (K30_54 m_a0_z)
  else (rdi 35 m_a0_s l3 fun x46 =>
  wri 35 m_a0_z l3 x46 fun g47 =>
  B30 (l3 + (1 : Int32)) g47)
def fX12_meet_L30 (m_a0_s : Nat → Int32) (K30_54 : (Nat → Int32) → Option (Int32 × Int32 × (Nat → Int32) × (Nat → Int32))) : Nat → Int32 → (Nat → Int32) → Option (Int32 × Int32 × (Nat → Int32) × (Nat → Int32))
  | 0, _, _ => none
  | n + 1, l3, m_a0_z => fX12_meet_30 (fX12_meet_L30 m_a0_s K30_54 n) K30_54 l3 m_a0_s m_a0_z
def fX12_meet_191 (B75 : Int32 → (Nat → Int32) → (Nat → Int32) → Option (Int32 × Int32 × (Nat → Int32) × (Nat → Int32))) (s0 : Int32) (m_a0_w : Nat → Int32) (m_a0_z : Nat → Int32) : Option (Int32 × Int32 × (Nat → Int32) × (Nat → Int32)) :=
  B75 s0 m_a0_w m_a0_z
def fX12_meet_157 (B75 : Int32 → (Nat → Int32) → (Nat → Int32) → Option (Int32 × Int32 × (Nat → Int32) × (Nat → Int32))) (N : Nat) (m_a0_lengths : Nat → Int32) (m_a0_many : Nat → Int32) (m_a0_w : Nat → Int32) (m_a0_z : Nat → Int32) : Option (Int32 × Int32 × (Nat → Int32) × (Nat → Int32)) :=
  if (m_a0_z 1) < (m_a0_w 1) then (Option.bind (fX12_goes N m_a0_lengths m_a0_many m_a0_z) fun o188 =>
  fX12_meet_191 B75 o188.1 m_a0_w o188.2)
  else (Option.bind (fX12_goes N m_a0_lengths m_a0_many m_a0_w) fun o177 =>
  fX12_meet_191 B75 o177.1 o177.2 m_a0_z)
def fX12_meet_75 (B75 : Int32 → (Nat → Int32) → (Nat → Int32) → Option (Int32 × Int32 × (Nat → Int32) × (Nat → Int32))) (K75_130 : (Nat → Int32) → (Nat → Int32) → Option (Int32 × Int32 × (Nat → Int32) × (Nat → Int32))) (K75_196 : (Nat → Int32) → (Nat → Int32) → Option (Int32 × Int32 × (Nat → Int32) × (Nat → Int32))) (N : Nat) (l3 : Int32) (l4 : Int32) (m_a0_lengths : Nat → Int32) (m_a0_many : Nat → Int32) (m_a0_w : Nat → Int32) (m_a0_z : Nat → Int32) : Option (Int32 × Int32 × (Nat → Int32) × (Nat → Int32)) :=
  if l4 = 0 then (K75_196 m_a0_w m_a0_z)
  else (if l3 < (m_a0_w 1) then (K75_196 m_a0_w m_a0_z)
  else (if l3 < (m_a0_z 1) then (K75_196 m_a0_w m_a0_z)
  else (if (m_a0_w 1) = (m_a0_z 1) then (if (m_a0_w 2) = (m_a0_z 2) then (K75_130 m_a0_w m_a0_z)
  else (fX12_meet_157 B75 N m_a0_lengths m_a0_many m_a0_w m_a0_z))
  else (fX12_meet_157 B75 N m_a0_lengths m_a0_many m_a0_w m_a0_z))))
def fX12_meet_L75 (N : Nat) (l3 : Int32) (m_a0_lengths : Nat → Int32) (m_a0_many : Nat → Int32) (K75_130 : (Nat → Int32) → (Nat → Int32) → Option (Int32 × Int32 × (Nat → Int32) × (Nat → Int32))) (K75_196 : (Nat → Int32) → (Nat → Int32) → Option (Int32 × Int32 × (Nat → Int32) × (Nat → Int32))) : Nat → Int32 → (Nat → Int32) → (Nat → Int32) → Option (Int32 × Int32 × (Nat → Int32) × (Nat → Int32))
  | 0, _, _, _ => none
  | n + 1, l4, m_a0_w, m_a0_z => fX12_meet_75 (fX12_meet_L75 N l3 m_a0_lengths m_a0_many K75_130 K75_196 n) K75_130 K75_196 N l3 l4 m_a0_lengths m_a0_many m_a0_w m_a0_z
def fX12_meet_156 (s0 : Int32) (v_a0_thrown : Int32) (m_a0_w : Nat → Int32) (m_a0_z : Nat → Int32) : Option (Int32 × Int32 × (Nat → Int32) × (Nat → Int32)) :=
  some (s0, v_a0_thrown, m_a0_w, m_a0_z)
def fX12_meet (N : Nat) (l1 : Int32) (l2 : Int32) (m_a0_lengths : Nat → Int32) (m_a0_many : Nat → Int32) (m_a0_s : Nat → Int32) (m_a0_w : Nat → Int32) (m_a0_z : Nat → Int32) : Option (Int32 × Int32 × (Nat → Int32) × (Nat → Int32)) :=
  Option.bind (fX12_isVillage l1 m_a0_many) fun o7 =>
  if o7 = 0 then (fX12_meet_22 (0 : Int32) m_a0_w m_a0_z)
  else (Option.bind (fX12_in l2 (0 : Int32) (1 : Int32)) fun o16 =>
  if o16 = 0 then (fX12_meet_22 (0 : Int32) m_a0_w m_a0_z)
  else (Option.bind (fX12_asNow N m_a0_s m_a0_w) fun o25 =>
  fX12_meet_L30 m_a0_s
      (fun m_a0_zk30_54 => lti (upd m_a0_zk30_54 2 l1) fun g60 =>
  lti ((m_a0_s 1) + (400 : Int32)) fun y71 =>
  fX12_meet_L75 N y71 m_a0_lengths m_a0_many
      (fun m_a0_wk75_130 m_a0_zk75_130 => if l2 = 0 then (fX12_meet_156 ((m_a0_wk75_130 1) - (m_a0_s 1)) (0 : Int32) m_a0_wk75_130 m_a0_zk75_130)
  else (fX12_meet_156 (m_a0_wk75_130 2) (0 : Int32) m_a0_wk75_130 m_a0_zk75_130))
      (fun m_a0_wk75_196 m_a0_zk75_196 => some ((-9 : Int32), (0 : Int32), m_a0_wk75_196, m_a0_zk75_196)) N (1 : Int32) o25 g60) N (0 : Int32) m_a0_z))
section
variable {X : XT} {N : Nat} {q_a0 : Nat} {q_a0_lengths : Nat} {q_a0_many : Nat} {q_a0_s : Nat} {q_a0_w : Nat} {q_a0_z : Nat} {v_a0_thrown : Int32} {u_a0_trace : Value} {u_a0_text : Value} {u_a0_typed : Value} {u_a0_next : Value} {u_a0_token : Value} {u_a0_place : Value} {u_a0_value : Value} {u_a0_fault : Value} {u_a0_slow : Value} {u_a0_deaf : Value} {u_a0_told : Value} {u_a0_kept : Value} {u_a0_isKept : Value} {u_a0_undos : Value} {u_a0_undoMany : Value} {u_a0_heardBy : Value} {u_a0_heardAt : Value} {u_a0_heardMany : Value} {u_a0_tellsAt : Value} {u_a0_tellMany : Value} {u_a0_metAt : Value} {u_a0_metBeat : Value} {u_a0_round : Value} {m_a0_lengths : Nat → Int32} {m_a0_many : Nat → Int32} {m_a0_s : Nat → Int32} {m_a0_w : Nat → Int32} {m_a0_z : Nat → Int32} {l1 : Int32} {l2 : Int32} {l3 : Int32} {l4 : Int32} {s0 : Int32}
set_option maxRecDepth 20000 in
theorem tX12_meet_22 {out : Int32 × Int32 × (Nat → Int32) × (Nat → Int32)} (hX : xk X = kX12_meet) (hQ : xQ X = qE (some (.int out.1)) (wX12_meet (xG X) q_a0 q_a0_lengths q_a0_many q_a0_s q_a0_w q_a0_z out.2.1 u_a0_trace u_a0_text u_a0_typed u_a0_next u_a0_token u_a0_place u_a0_value u_a0_fault u_a0_slow u_a0_deaf u_a0_told u_a0_kept u_a0_isKept u_a0_undos u_a0_undoMany u_a0_heardBy u_a0_heardAt u_a0_heardMany u_a0_tellsAt u_a0_tellMany u_a0_metAt u_a0_metBeat u_a0_round m_a0_lengths m_a0_many m_a0_s out.2.2.1 out.2.2.2)) (hf : fX12_meet_22 v_a0_thrown m_a0_w m_a0_z = some out) : V X cX12_meet "FarDrumModel" 0 0 (wX12_meet (xG X) q_a0 q_a0_lengths q_a0_many q_a0_s q_a0_w q_a0_z v_a0_thrown u_a0_trace u_a0_text u_a0_typed u_a0_next u_a0_token u_a0_place u_a0_value u_a0_fault u_a0_slow u_a0_deaf u_a0_told u_a0_kept u_a0_isKept u_a0_undos u_a0_undoMany u_a0_heardBy u_a0_heardAt u_a0_heardMany u_a0_tellsAt u_a0_tellMany u_a0_metAt u_a0_metBeat u_a0_round m_a0_lengths m_a0_many m_a0_s m_a0_w m_a0_z) [none, none, none, none, none] 22 [] := by
  unfold fX12_meet_22 at hf
  refine V.iconst (pc := 22) (v := -1) dX12_meet_22 (by decide) ?_
  exact V.iretE (pc := 23) hX kX12_meet_r hQ dX12_meet_23 (by cases hf; rfl) (by cases hf; rfl)
set_option maxRecDepth 20000 in
theorem tX12_meet_30 {out : Int32 × Int32 × (Nat → Int32) × (Nat → Int32)} (hX : xk X = kX12_meet) (hQ : xQ X = qE (some (.int out.1)) (wX12_meet (xG X) q_a0 q_a0_lengths q_a0_many q_a0_s q_a0_w q_a0_z out.2.1 u_a0_trace u_a0_text u_a0_typed u_a0_next u_a0_token u_a0_place u_a0_value u_a0_fault u_a0_slow u_a0_deaf u_a0_told u_a0_kept u_a0_isKept u_a0_undos u_a0_undoMany u_a0_heardBy u_a0_heardAt u_a0_heardMany u_a0_tellsAt u_a0_tellMany u_a0_metAt u_a0_metBeat u_a0_round m_a0_lengths m_a0_many m_a0_s out.2.2.1 out.2.2.2)) {B30 : Int32 → (Nat → Int32) → Option (Int32 × Int32 × (Nat → Int32) × (Nat → Int32))} {K30_54 : (Nat → Int32) → Option (Int32 × Int32 × (Nat → Int32) × (Nat → Int32))} (hB30 : ∀ (l3 : Int32) (m_a0_z : Nat → Int32), B30 l3 m_a0_z = some out → V X cX12_meet "FarDrumModel" 0 0 (wX12_meet (xG X) q_a0 q_a0_lengths q_a0_many q_a0_s q_a0_w q_a0_z v_a0_thrown u_a0_trace u_a0_text u_a0_typed u_a0_next u_a0_token u_a0_place u_a0_value u_a0_fault u_a0_slow u_a0_deaf u_a0_told u_a0_kept u_a0_isKept u_a0_undos u_a0_undoMany u_a0_heardBy u_a0_heardAt u_a0_heardMany u_a0_tellsAt u_a0_tellMany u_a0_metAt u_a0_metBeat u_a0_round m_a0_lengths m_a0_many m_a0_s m_a0_w m_a0_z) [some (.ref q_a0), some (.int l1), some (.int l2), some (.int l3), none] 30 []) (hK30_54 : ∀ (m_a0_z : Nat → Int32), K30_54 m_a0_z = some out → V X cX12_meet "FarDrumModel" 0 0 (wX12_meet (xG X) q_a0 q_a0_lengths q_a0_many q_a0_s q_a0_w q_a0_z v_a0_thrown u_a0_trace u_a0_text u_a0_typed u_a0_next u_a0_token u_a0_place u_a0_value u_a0_fault u_a0_slow u_a0_deaf u_a0_told u_a0_kept u_a0_isKept u_a0_undos u_a0_undoMany u_a0_heardBy u_a0_heardAt u_a0_heardMany u_a0_tellsAt u_a0_tellMany u_a0_metAt u_a0_metBeat u_a0_round m_a0_lengths m_a0_many m_a0_s m_a0_w m_a0_z) [some (.ref q_a0), some (.int l1), some (.int l2), none, none] 54 []) (hf : fX12_meet_30 B30 K30_54 l3 m_a0_s m_a0_z = some out) : V X cX12_meet "FarDrumModel" 0 0 (wX12_meet (xG X) q_a0 q_a0_lengths q_a0_many q_a0_s q_a0_w q_a0_z v_a0_thrown u_a0_trace u_a0_text u_a0_typed u_a0_next u_a0_token u_a0_place u_a0_value u_a0_fault u_a0_slow u_a0_deaf u_a0_told u_a0_kept u_a0_isKept u_a0_undos u_a0_undoMany u_a0_heardBy u_a0_heardAt u_a0_heardMany u_a0_tellsAt u_a0_tellMany u_a0_metAt u_a0_metBeat u_a0_round m_a0_lengths m_a0_many m_a0_s m_a0_w m_a0_z) [some (.ref q_a0), some (.int l1), some (.int l2), some (.int l3), none] 30 [] := by
  unfold fX12_meet_30 at hf
  refine V.iloadn (pc := 30) dX12_meet_30 rfl ?_
  refine V.bipush (pc := 31) (v := 35) dX12_meet_31 (by decide) ?_
  refine V.icmp_ge (pc := 33) (tgt := 54) dX12_meet_33 (by decide) hf (fun hf => ?_) (fun hf => ?_)
  · refine V.mask (pc := 54) [true, true, true, false, false] rfl rfl ?_
    exact hK30_54 _ hf
  · refine V.aloadn (pc := 36) dX12_meet_36 rfl ?_
    refine V.getf (q := 0) (pc := 37) dX12_meet_37 fk_X12_59_12 rfl rfl ?_
    refine V.iloadn (pc := 40) dX12_meet_40 rfl ?_
    refine V.aloadn (pc := 41) dX12_meet_41 rfl ?_
    refine V.getf (q := 0) (pc := 42) dX12_meet_42 fk_X12_25_12 rfl rfl ?_
    refine V.iloadn (pc := 45) dX12_meet_45 rfl ?_
    refine V.iald (pc := 46) (q := 3) dX12_meet_46 rfl hf (fun x46 hf => ?_)
    refine V.iast (pc := 47) (q := 5) (wd' := fun g47 => wX12_meet (xG X) q_a0 q_a0_lengths q_a0_many q_a0_s q_a0_w q_a0_z v_a0_thrown u_a0_trace u_a0_text u_a0_typed u_a0_next u_a0_token u_a0_place u_a0_value u_a0_fault u_a0_slow u_a0_deaf u_a0_told u_a0_kept u_a0_isKept u_a0_undos u_a0_undoMany u_a0_heardBy u_a0_heardAt u_a0_heardMany u_a0_tellsAt u_a0_tellMany u_a0_metAt u_a0_metBeat u_a0_round m_a0_lengths m_a0_many m_a0_s m_a0_w g47) dX12_meet_47 rfl hf (fun _ => rfl) (fun g47 hf => ?_)
    refine V.iinc (pc := 48) (v := 1) dX12_meet_48 rfl rfl (by decide) rfl ?_
    refine V.goto (pc := 51) (tgt := 30) dX12_meet_51 (by decide) ?_
    exact hB30 _ _ hf
theorem tX12_meet_L30 {out : Int32 × Int32 × (Nat → Int32) × (Nat → Int32)} (hX : xk X = kX12_meet) (hQ : xQ X = qE (some (.int out.1)) (wX12_meet (xG X) q_a0 q_a0_lengths q_a0_many q_a0_s q_a0_w q_a0_z out.2.1 u_a0_trace u_a0_text u_a0_typed u_a0_next u_a0_token u_a0_place u_a0_value u_a0_fault u_a0_slow u_a0_deaf u_a0_told u_a0_kept u_a0_isKept u_a0_undos u_a0_undoMany u_a0_heardBy u_a0_heardAt u_a0_heardMany u_a0_tellsAt u_a0_tellMany u_a0_metAt u_a0_metBeat u_a0_round m_a0_lengths m_a0_many m_a0_s out.2.2.1 out.2.2.2)) {K30_54 : (Nat → Int32) → Option (Int32 × Int32 × (Nat → Int32) × (Nat → Int32))} (hK30_54 : ∀ (m_a0_z : Nat → Int32), K30_54 m_a0_z = some out → V X cX12_meet "FarDrumModel" 0 0 (wX12_meet (xG X) q_a0 q_a0_lengths q_a0_many q_a0_s q_a0_w q_a0_z v_a0_thrown u_a0_trace u_a0_text u_a0_typed u_a0_next u_a0_token u_a0_place u_a0_value u_a0_fault u_a0_slow u_a0_deaf u_a0_told u_a0_kept u_a0_isKept u_a0_undos u_a0_undoMany u_a0_heardBy u_a0_heardAt u_a0_heardMany u_a0_tellsAt u_a0_tellMany u_a0_metAt u_a0_metBeat u_a0_round m_a0_lengths m_a0_many m_a0_s m_a0_w m_a0_z) [some (.ref q_a0), some (.int l1), some (.int l2), none, none] 54 []) : ∀ (n : Nat) (l3 : Int32) (m_a0_z : Nat → Int32), fX12_meet_L30 m_a0_s K30_54 n l3 m_a0_z = some out → V X cX12_meet "FarDrumModel" 0 0 (wX12_meet (xG X) q_a0 q_a0_lengths q_a0_many q_a0_s q_a0_w q_a0_z v_a0_thrown u_a0_trace u_a0_text u_a0_typed u_a0_next u_a0_token u_a0_place u_a0_value u_a0_fault u_a0_slow u_a0_deaf u_a0_told u_a0_kept u_a0_isKept u_a0_undos u_a0_undoMany u_a0_heardBy u_a0_heardAt u_a0_heardMany u_a0_tellsAt u_a0_tellMany u_a0_metAt u_a0_metBeat u_a0_round m_a0_lengths m_a0_many m_a0_s m_a0_w m_a0_z) [some (.ref q_a0), some (.int l1), some (.int l2), some (.int l3), none] 30 [] := by
  intro n
  induction n with
  | zero => intro l3 m_a0_z hf; cases hf
  | succ n ih => intro l3 m_a0_z hf; exact tX12_meet_30 hX hQ ih hK30_54 hf
set_option maxRecDepth 20000 in
theorem tX12_meet_191 {out : Int32 × Int32 × (Nat → Int32) × (Nat → Int32)} (hX : xk X = kX12_meet) (hQ : xQ X = qE (some (.int out.1)) (wX12_meet (xG X) q_a0 q_a0_lengths q_a0_many q_a0_s q_a0_w q_a0_z out.2.1 u_a0_trace u_a0_text u_a0_typed u_a0_next u_a0_token u_a0_place u_a0_value u_a0_fault u_a0_slow u_a0_deaf u_a0_told u_a0_kept u_a0_isKept u_a0_undos u_a0_undoMany u_a0_heardBy u_a0_heardAt u_a0_heardMany u_a0_tellsAt u_a0_tellMany u_a0_metAt u_a0_metBeat u_a0_round m_a0_lengths m_a0_many m_a0_s out.2.2.1 out.2.2.2)) {B75 : Int32 → (Nat → Int32) → (Nat → Int32) → Option (Int32 × Int32 × (Nat → Int32) × (Nat → Int32))} (hB75 : ∀ (l4 : Int32) (m_a0_w : Nat → Int32) (m_a0_z : Nat → Int32), B75 l4 m_a0_w m_a0_z = some out → V X cX12_meet "FarDrumModel" 0 0 (wX12_meet (xG X) q_a0 q_a0_lengths q_a0_many q_a0_s q_a0_w q_a0_z v_a0_thrown u_a0_trace u_a0_text u_a0_typed u_a0_next u_a0_token u_a0_place u_a0_value u_a0_fault u_a0_slow u_a0_deaf u_a0_told u_a0_kept u_a0_isKept u_a0_undos u_a0_undoMany u_a0_heardBy u_a0_heardAt u_a0_heardMany u_a0_tellsAt u_a0_tellMany u_a0_metAt u_a0_metBeat u_a0_round m_a0_lengths m_a0_many m_a0_s m_a0_w m_a0_z) [some (.ref q_a0), none, some (.int l2), some (.int l3), some (.int l4)] 75 []) (hf : fX12_meet_191 B75 s0 m_a0_w m_a0_z = some out) : V X cX12_meet "FarDrumModel" 0 0 (wX12_meet (xG X) q_a0 q_a0_lengths q_a0_many q_a0_s q_a0_w q_a0_z v_a0_thrown u_a0_trace u_a0_text u_a0_typed u_a0_next u_a0_token u_a0_place u_a0_value u_a0_fault u_a0_slow u_a0_deaf u_a0_told u_a0_kept u_a0_isKept u_a0_undos u_a0_undoMany u_a0_heardBy u_a0_heardAt u_a0_heardMany u_a0_tellsAt u_a0_tellMany u_a0_metAt u_a0_metBeat u_a0_round m_a0_lengths m_a0_many m_a0_s m_a0_w m_a0_z) [some (.ref q_a0), none, some (.int l2), some (.int l3), none] 191 [.int s0] := by
  unfold fX12_meet_191 at hf
  refine V.istore (pc := 191) dX12_meet_191 rfl rfl rfl ?_
  refine V.goto (pc := 193) (tgt := 75) dX12_meet_193 (by decide) ?_
  exact hB75 _ _ _ hf
set_option maxRecDepth 20000 in
theorem tX12_meet_157 {out : Int32 × Int32 × (Nat → Int32) × (Nat → Int32)} (hX : xk X = kX12_meet) (hQ : xQ X = qE (some (.int out.1)) (wX12_meet (xG X) q_a0 q_a0_lengths q_a0_many q_a0_s q_a0_w q_a0_z out.2.1 u_a0_trace u_a0_text u_a0_typed u_a0_next u_a0_token u_a0_place u_a0_value u_a0_fault u_a0_slow u_a0_deaf u_a0_told u_a0_kept u_a0_isKept u_a0_undos u_a0_undoMany u_a0_heardBy u_a0_heardAt u_a0_heardMany u_a0_tellsAt u_a0_tellMany u_a0_metAt u_a0_metBeat u_a0_round m_a0_lengths m_a0_many m_a0_s out.2.2.1 out.2.2.2)) {B75 : Int32 → (Nat → Int32) → (Nat → Int32) → Option (Int32 × Int32 × (Nat → Int32) × (Nat → Int32))} (hB75 : ∀ (l4 : Int32) (m_a0_w : Nat → Int32) (m_a0_z : Nat → Int32), B75 l4 m_a0_w m_a0_z = some out → V X cX12_meet "FarDrumModel" 0 0 (wX12_meet (xG X) q_a0 q_a0_lengths q_a0_many q_a0_s q_a0_w q_a0_z v_a0_thrown u_a0_trace u_a0_text u_a0_typed u_a0_next u_a0_token u_a0_place u_a0_value u_a0_fault u_a0_slow u_a0_deaf u_a0_told u_a0_kept u_a0_isKept u_a0_undos u_a0_undoMany u_a0_heardBy u_a0_heardAt u_a0_heardMany u_a0_tellsAt u_a0_tellMany u_a0_metAt u_a0_metBeat u_a0_round m_a0_lengths m_a0_many m_a0_s m_a0_w m_a0_z) [some (.ref q_a0), none, some (.int l2), some (.int l3), some (.int l4)] 75 []) (hf : fX12_meet_157 B75 N m_a0_lengths m_a0_many m_a0_w m_a0_z = some out) : V X cX12_meet "FarDrumModel" 0 0 (wX12_meet (xG X) q_a0 q_a0_lengths q_a0_many q_a0_s q_a0_w q_a0_z v_a0_thrown u_a0_trace u_a0_text u_a0_typed u_a0_next u_a0_token u_a0_place u_a0_value u_a0_fault u_a0_slow u_a0_deaf u_a0_told u_a0_kept u_a0_isKept u_a0_undos u_a0_undoMany u_a0_heardBy u_a0_heardAt u_a0_heardMany u_a0_tellsAt u_a0_tellMany u_a0_metAt u_a0_metBeat u_a0_round m_a0_lengths m_a0_many m_a0_s m_a0_w m_a0_z) [some (.ref q_a0), none, some (.int l2), some (.int l3), none] 157 [] := by
  unfold fX12_meet_157 at hf
  refine V.aloadn (pc := 157) dX12_meet_157 rfl ?_
  refine V.getf (q := 0) (pc := 158) dX12_meet_158 fk_X12_28_12 rfl rfl ?_
  refine V.iconst (pc := 161) (v := 1) dX12_meet_161 (by decide) ?_
  refine V.ialdC (pc := 162) (q := 4) 1 dX12_meet_162 rfl ⟨vp_c (by decide), by decide⟩ ?_
  refine V.aloadn (pc := 163) dX12_meet_163 rfl ?_
  refine V.getf (q := 0) (pc := 164) dX12_meet_164 fk_X12_59_12 rfl rfl ?_
  refine V.iconst (pc := 167) (v := 1) dX12_meet_167 (by decide) ?_
  refine V.ialdC (pc := 168) (q := 5) 1 dX12_meet_168 rfl ⟨vp_c (by decide), by decide⟩ ?_
  refine V.icmp_gt (pc := 169) (tgt := 183) dX12_meet_169 (by decide) hf (fun hf => ?_) (fun hf => ?_)
  · refine V.aloadn (pc := 183) dX12_meet_183 rfl ?_
    refine V.aloadn (pc := 184) dX12_meet_184 rfl ?_
    refine V.getf (q := 0) (pc := 185) dX12_meet_185 fk_X12_59_12 rfl rfl ?_
    refine V.callVi (pc := 188) (q := 0) (wr := [(q_a0_s, .inl ((xG X).2 0, 35, .inl m_a0_s)), (q_a0_w, .inl ((xG X).2 0, 35, .inl m_a0_w))]) (wd' := fun o188 => wX12_meet (xG X) q_a0 q_a0_lengths q_a0_many q_a0_s q_a0_w q_a0_z v_a0_thrown u_a0_trace u_a0_text u_a0_typed u_a0_next u_a0_token u_a0_place u_a0_value u_a0_fault u_a0_slow u_a0_deaf u_a0_told u_a0_kept u_a0_isKept u_a0_undos u_a0_undoMany u_a0_heardBy u_a0_heardAt u_a0_heardMany u_a0_tellsAt u_a0_tellMany u_a0_metAt u_a0_metBeat u_a0_round m_a0_lengths m_a0_many m_a0_s m_a0_w o188.2) [.ref q_a0_z] (st := []) hf (fun _ h => oX12_goes (q_a0 := q_a0) (q_a0_lengths := q_a0_lengths) (q_a0_many := q_a0_many) (q_a1 := q_a0_z) (u_a0_thrown := ((.int v_a0_thrown))) (u_a0_trace := u_a0_trace) (u_a0_text := u_a0_text) (u_a0_typed := u_a0_typed) (u_a0_next := u_a0_next) (u_a0_token := u_a0_token) (u_a0_place := u_a0_place) (u_a0_value := u_a0_value) (u_a0_fault := u_a0_fault) (u_a0_slow := u_a0_slow) (u_a0_deaf := u_a0_deaf) (u_a0_told := u_a0_told) (u_a0_s := ((.ref q_a0_s))) (u_a0_w := ((.ref q_a0_w))) (u_a0_kept := u_a0_kept) (u_a0_isKept := u_a0_isKept) (u_a0_undos := u_a0_undos) (u_a0_undoMany := u_a0_undoMany) (u_a0_heardBy := u_a0_heardBy) (u_a0_heardAt := u_a0_heardAt) (u_a0_heardMany := u_a0_heardMany) (u_a0_tellsAt := u_a0_tellsAt) (u_a0_tellMany := u_a0_tellMany) (u_a0_metAt := u_a0_metAt) (u_a0_metBeat := u_a0_metBeat) (u_a0_round := u_a0_round) (u_a0_z := ((.ref q_a0_z))) (m_a0_lengths := m_a0_lengths) (m_a0_many := m_a0_many) (m_a1 := m_a0_z) h) lkV_X12_151 dX12_meet_188 hX rfl ⟨rfl, rfl⟩ ⟨rfl, rfl⟩ rfl rfl rfl rfl rfl [0, 1, 2, 5] [3, 4] [2, 3, 4, 0, 1, 5] rfl rfl rfl rfl rfl (fun _ => rfl) rfl (fun o188 hf => ?_)
    exact tX12_meet_191 hX hQ hB75 hf
  · refine V.aloadn (pc := 172) dX12_meet_172 rfl ?_
    refine V.aloadn (pc := 173) dX12_meet_173 rfl ?_
    refine V.getf (q := 0) (pc := 174) dX12_meet_174 fk_X12_28_12 rfl rfl ?_
    refine V.callVi (pc := 177) (q := 0) (wr := [(q_a0_s, .inl ((xG X).2 0, 35, .inl m_a0_s)), (q_a0_z, .inl ((xG X).2 0, 35, .inl m_a0_z))]) (wd' := fun o177 => wX12_meet (xG X) q_a0 q_a0_lengths q_a0_many q_a0_s q_a0_w q_a0_z v_a0_thrown u_a0_trace u_a0_text u_a0_typed u_a0_next u_a0_token u_a0_place u_a0_value u_a0_fault u_a0_slow u_a0_deaf u_a0_told u_a0_kept u_a0_isKept u_a0_undos u_a0_undoMany u_a0_heardBy u_a0_heardAt u_a0_heardMany u_a0_tellsAt u_a0_tellMany u_a0_metAt u_a0_metBeat u_a0_round m_a0_lengths m_a0_many m_a0_s o177.2 m_a0_z) [.ref q_a0_w] (st := []) hf (fun _ h => oX12_goes (q_a0 := q_a0) (q_a0_lengths := q_a0_lengths) (q_a0_many := q_a0_many) (q_a1 := q_a0_w) (u_a0_thrown := ((.int v_a0_thrown))) (u_a0_trace := u_a0_trace) (u_a0_text := u_a0_text) (u_a0_typed := u_a0_typed) (u_a0_next := u_a0_next) (u_a0_token := u_a0_token) (u_a0_place := u_a0_place) (u_a0_value := u_a0_value) (u_a0_fault := u_a0_fault) (u_a0_slow := u_a0_slow) (u_a0_deaf := u_a0_deaf) (u_a0_told := u_a0_told) (u_a0_s := ((.ref q_a0_s))) (u_a0_w := ((.ref q_a0_w))) (u_a0_kept := u_a0_kept) (u_a0_isKept := u_a0_isKept) (u_a0_undos := u_a0_undos) (u_a0_undoMany := u_a0_undoMany) (u_a0_heardBy := u_a0_heardBy) (u_a0_heardAt := u_a0_heardAt) (u_a0_heardMany := u_a0_heardMany) (u_a0_tellsAt := u_a0_tellsAt) (u_a0_tellMany := u_a0_tellMany) (u_a0_metAt := u_a0_metAt) (u_a0_metBeat := u_a0_metBeat) (u_a0_round := u_a0_round) (u_a0_z := ((.ref q_a0_z))) (m_a0_lengths := m_a0_lengths) (m_a0_many := m_a0_many) (m_a1 := m_a0_w) h) lkV_X12_151 dX12_meet_177 hX rfl ⟨rfl, rfl⟩ ⟨rfl, rfl⟩ rfl rfl rfl rfl rfl [0, 1, 2, 4] [3, 5] [2, 3, 4, 0, 5, 1] rfl rfl rfl rfl rfl (fun _ => rfl) rfl (fun o177 hf => ?_)
    refine V.goto (pc := 180) (tgt := 191) dX12_meet_180 (by decide) ?_
    exact tX12_meet_191 hX hQ hB75 hf
set_option maxRecDepth 20000 in
theorem tX12_meet_75 {out : Int32 × Int32 × (Nat → Int32) × (Nat → Int32)} (hX : xk X = kX12_meet) (hQ : xQ X = qE (some (.int out.1)) (wX12_meet (xG X) q_a0 q_a0_lengths q_a0_many q_a0_s q_a0_w q_a0_z out.2.1 u_a0_trace u_a0_text u_a0_typed u_a0_next u_a0_token u_a0_place u_a0_value u_a0_fault u_a0_slow u_a0_deaf u_a0_told u_a0_kept u_a0_isKept u_a0_undos u_a0_undoMany u_a0_heardBy u_a0_heardAt u_a0_heardMany u_a0_tellsAt u_a0_tellMany u_a0_metAt u_a0_metBeat u_a0_round m_a0_lengths m_a0_many m_a0_s out.2.2.1 out.2.2.2)) {B75 : Int32 → (Nat → Int32) → (Nat → Int32) → Option (Int32 × Int32 × (Nat → Int32) × (Nat → Int32))} {K75_130 : (Nat → Int32) → (Nat → Int32) → Option (Int32 × Int32 × (Nat → Int32) × (Nat → Int32))} {K75_196 : (Nat → Int32) → (Nat → Int32) → Option (Int32 × Int32 × (Nat → Int32) × (Nat → Int32))} (hB75 : ∀ (l4 : Int32) (m_a0_w : Nat → Int32) (m_a0_z : Nat → Int32), B75 l4 m_a0_w m_a0_z = some out → V X cX12_meet "FarDrumModel" 0 0 (wX12_meet (xG X) q_a0 q_a0_lengths q_a0_many q_a0_s q_a0_w q_a0_z v_a0_thrown u_a0_trace u_a0_text u_a0_typed u_a0_next u_a0_token u_a0_place u_a0_value u_a0_fault u_a0_slow u_a0_deaf u_a0_told u_a0_kept u_a0_isKept u_a0_undos u_a0_undoMany u_a0_heardBy u_a0_heardAt u_a0_heardMany u_a0_tellsAt u_a0_tellMany u_a0_metAt u_a0_metBeat u_a0_round m_a0_lengths m_a0_many m_a0_s m_a0_w m_a0_z) [some (.ref q_a0), none, some (.int l2), some (.int l3), some (.int l4)] 75 []) (hK75_130 : ∀ (m_a0_w : Nat → Int32) (m_a0_z : Nat → Int32), K75_130 m_a0_w m_a0_z = some out → V X cX12_meet "FarDrumModel" 0 0 (wX12_meet (xG X) q_a0 q_a0_lengths q_a0_many q_a0_s q_a0_w q_a0_z v_a0_thrown u_a0_trace u_a0_text u_a0_typed u_a0_next u_a0_token u_a0_place u_a0_value u_a0_fault u_a0_slow u_a0_deaf u_a0_told u_a0_kept u_a0_isKept u_a0_undos u_a0_undoMany u_a0_heardBy u_a0_heardAt u_a0_heardMany u_a0_tellsAt u_a0_tellMany u_a0_metAt u_a0_metBeat u_a0_round m_a0_lengths m_a0_many m_a0_s m_a0_w m_a0_z) [some (.ref q_a0), none, some (.int l2), none, none] 130 []) (hK75_196 : ∀ (m_a0_w : Nat → Int32) (m_a0_z : Nat → Int32), K75_196 m_a0_w m_a0_z = some out → V X cX12_meet "FarDrumModel" 0 0 (wX12_meet (xG X) q_a0 q_a0_lengths q_a0_many q_a0_s q_a0_w q_a0_z v_a0_thrown u_a0_trace u_a0_text u_a0_typed u_a0_next u_a0_token u_a0_place u_a0_value u_a0_fault u_a0_slow u_a0_deaf u_a0_told u_a0_kept u_a0_isKept u_a0_undos u_a0_undoMany u_a0_heardBy u_a0_heardAt u_a0_heardMany u_a0_tellsAt u_a0_tellMany u_a0_metAt u_a0_metBeat u_a0_round m_a0_lengths m_a0_many m_a0_s m_a0_w m_a0_z) [none, none, none, none, none] 196 []) (hf : fX12_meet_75 B75 K75_130 K75_196 N l3 l4 m_a0_lengths m_a0_many m_a0_w m_a0_z = some out) : V X cX12_meet "FarDrumModel" 0 0 (wX12_meet (xG X) q_a0 q_a0_lengths q_a0_many q_a0_s q_a0_w q_a0_z v_a0_thrown u_a0_trace u_a0_text u_a0_typed u_a0_next u_a0_token u_a0_place u_a0_value u_a0_fault u_a0_slow u_a0_deaf u_a0_told u_a0_kept u_a0_isKept u_a0_undos u_a0_undoMany u_a0_heardBy u_a0_heardAt u_a0_heardMany u_a0_tellsAt u_a0_tellMany u_a0_metAt u_a0_metBeat u_a0_round m_a0_lengths m_a0_many m_a0_s m_a0_w m_a0_z) [some (.ref q_a0), none, some (.int l2), some (.int l3), some (.int l4)] 75 [] := by
  unfold fX12_meet_75 at hf
  refine V.iload (pc := 75) dX12_meet_75 rfl ?_
  refine V.if_eq (pc := 77) (tgt := 196) dX12_meet_77 (by decide) hf (fun hf => ?_) (fun hf => ?_)
  · refine V.mask (pc := 196) [false, false, false, false, false] rfl rfl ?_
    exact hK75_196 _ _ hf
  · refine V.aloadn (pc := 80) dX12_meet_80 rfl ?_
    refine V.getf (q := 0) (pc := 81) dX12_meet_81 fk_X12_28_12 rfl rfl ?_
    refine V.iconst (pc := 84) (v := 1) dX12_meet_84 (by decide) ?_
    refine V.ialdC (pc := 85) (q := 4) 1 dX12_meet_85 rfl ⟨vp_c (by decide), by decide⟩ ?_
    refine V.iloadn (pc := 86) dX12_meet_86 rfl ?_
    refine V.icmp_gt (pc := 87) (tgt := 196) dX12_meet_87 (by decide) hf (fun hf => ?_) (fun hf => ?_)
    · refine V.mask (pc := 196) [false, false, false, false, false] rfl rfl ?_
      exact hK75_196 _ _ hf
    · refine V.aloadn (pc := 90) dX12_meet_90 rfl ?_
      refine V.getf (q := 0) (pc := 91) dX12_meet_91 fk_X12_59_12 rfl rfl ?_
      refine V.iconst (pc := 94) (v := 1) dX12_meet_94 (by decide) ?_
      refine V.ialdC (pc := 95) (q := 5) 1 dX12_meet_95 rfl ⟨vp_c (by decide), by decide⟩ ?_
      refine V.iloadn (pc := 96) dX12_meet_96 rfl ?_
      refine V.icmp_gt (pc := 97) (tgt := 196) dX12_meet_97 (by decide) hf (fun hf => ?_) (fun hf => ?_)
      · refine V.mask (pc := 196) [false, false, false, false, false] rfl rfl ?_
        exact hK75_196 _ _ hf
      · refine V.aloadn (pc := 100) dX12_meet_100 rfl ?_
        refine V.getf (q := 0) (pc := 101) dX12_meet_101 fk_X12_28_12 rfl rfl ?_
        refine V.iconst (pc := 104) (v := 1) dX12_meet_104 (by decide) ?_
        refine V.ialdC (pc := 105) (q := 4) 1 dX12_meet_105 rfl ⟨vp_c (by decide), by decide⟩ ?_
        refine V.aloadn (pc := 106) dX12_meet_106 rfl ?_
        refine V.getf (q := 0) (pc := 107) dX12_meet_107 fk_X12_59_12 rfl rfl ?_
        refine V.iconst (pc := 110) (v := 1) dX12_meet_110 (by decide) ?_
        refine V.ialdC (pc := 111) (q := 5) 1 dX12_meet_111 rfl ⟨vp_c (by decide), by decide⟩ ?_
        refine V.icmp_ne (pc := 112) (tgt := 157) dX12_meet_112 (by decide) hf (fun hf => ?_) (fun hf => ?_)
        · refine V.mask (pc := 157) [true, false, true, true, false] rfl rfl ?_
          exact tX12_meet_157 hX hQ hB75 hf
        · refine V.aloadn (pc := 115) dX12_meet_115 rfl ?_
          refine V.getf (q := 0) (pc := 116) dX12_meet_116 fk_X12_28_12 rfl rfl ?_
          refine V.iconst (pc := 119) (v := 2) dX12_meet_119 (by decide) ?_
          refine V.ialdC (pc := 120) (q := 4) 2 dX12_meet_120 rfl ⟨vp_c (by decide), by decide⟩ ?_
          refine V.aloadn (pc := 121) dX12_meet_121 rfl ?_
          refine V.getf (q := 0) (pc := 122) dX12_meet_122 fk_X12_59_12 rfl rfl ?_
          refine V.iconst (pc := 125) (v := 2) dX12_meet_125 (by decide) ?_
          refine V.ialdC (pc := 126) (q := 5) 2 dX12_meet_126 rfl ⟨vp_c (by decide), by decide⟩ ?_
          refine V.icmp_ne (pc := 127) (tgt := 157) dX12_meet_127 (by decide) hf (fun hf => ?_) (fun hf => ?_)
          · refine V.mask (pc := 157) [true, false, true, true, false] rfl rfl ?_
            exact tX12_meet_157 hX hQ hB75 hf
          · refine V.mask (pc := 130) [true, false, true, false, false] rfl rfl ?_
            exact hK75_130 _ _ hf
theorem tX12_meet_L75 {out : Int32 × Int32 × (Nat → Int32) × (Nat → Int32)} (hX : xk X = kX12_meet) (hQ : xQ X = qE (some (.int out.1)) (wX12_meet (xG X) q_a0 q_a0_lengths q_a0_many q_a0_s q_a0_w q_a0_z out.2.1 u_a0_trace u_a0_text u_a0_typed u_a0_next u_a0_token u_a0_place u_a0_value u_a0_fault u_a0_slow u_a0_deaf u_a0_told u_a0_kept u_a0_isKept u_a0_undos u_a0_undoMany u_a0_heardBy u_a0_heardAt u_a0_heardMany u_a0_tellsAt u_a0_tellMany u_a0_metAt u_a0_metBeat u_a0_round m_a0_lengths m_a0_many m_a0_s out.2.2.1 out.2.2.2)) {K75_130 : (Nat → Int32) → (Nat → Int32) → Option (Int32 × Int32 × (Nat → Int32) × (Nat → Int32))} {K75_196 : (Nat → Int32) → (Nat → Int32) → Option (Int32 × Int32 × (Nat → Int32) × (Nat → Int32))} (hK75_130 : ∀ (m_a0_w : Nat → Int32) (m_a0_z : Nat → Int32), K75_130 m_a0_w m_a0_z = some out → V X cX12_meet "FarDrumModel" 0 0 (wX12_meet (xG X) q_a0 q_a0_lengths q_a0_many q_a0_s q_a0_w q_a0_z v_a0_thrown u_a0_trace u_a0_text u_a0_typed u_a0_next u_a0_token u_a0_place u_a0_value u_a0_fault u_a0_slow u_a0_deaf u_a0_told u_a0_kept u_a0_isKept u_a0_undos u_a0_undoMany u_a0_heardBy u_a0_heardAt u_a0_heardMany u_a0_tellsAt u_a0_tellMany u_a0_metAt u_a0_metBeat u_a0_round m_a0_lengths m_a0_many m_a0_s m_a0_w m_a0_z) [some (.ref q_a0), none, some (.int l2), none, none] 130 []) (hK75_196 : ∀ (m_a0_w : Nat → Int32) (m_a0_z : Nat → Int32), K75_196 m_a0_w m_a0_z = some out → V X cX12_meet "FarDrumModel" 0 0 (wX12_meet (xG X) q_a0 q_a0_lengths q_a0_many q_a0_s q_a0_w q_a0_z v_a0_thrown u_a0_trace u_a0_text u_a0_typed u_a0_next u_a0_token u_a0_place u_a0_value u_a0_fault u_a0_slow u_a0_deaf u_a0_told u_a0_kept u_a0_isKept u_a0_undos u_a0_undoMany u_a0_heardBy u_a0_heardAt u_a0_heardMany u_a0_tellsAt u_a0_tellMany u_a0_metAt u_a0_metBeat u_a0_round m_a0_lengths m_a0_many m_a0_s m_a0_w m_a0_z) [none, none, none, none, none] 196 []) : ∀ (n : Nat) (l4 : Int32) (m_a0_w : Nat → Int32) (m_a0_z : Nat → Int32), fX12_meet_L75 N l3 m_a0_lengths m_a0_many K75_130 K75_196 n l4 m_a0_w m_a0_z = some out → V X cX12_meet "FarDrumModel" 0 0 (wX12_meet (xG X) q_a0 q_a0_lengths q_a0_many q_a0_s q_a0_w q_a0_z v_a0_thrown u_a0_trace u_a0_text u_a0_typed u_a0_next u_a0_token u_a0_place u_a0_value u_a0_fault u_a0_slow u_a0_deaf u_a0_told u_a0_kept u_a0_isKept u_a0_undos u_a0_undoMany u_a0_heardBy u_a0_heardAt u_a0_heardMany u_a0_tellsAt u_a0_tellMany u_a0_metAt u_a0_metBeat u_a0_round m_a0_lengths m_a0_many m_a0_s m_a0_w m_a0_z) [some (.ref q_a0), none, some (.int l2), some (.int l3), some (.int l4)] 75 [] := by
  intro n
  induction n with
  | zero => intro l4 m_a0_w m_a0_z hf; cases hf
  | succ n ih => intro l4 m_a0_w m_a0_z hf; exact tX12_meet_75 hX hQ ih hK75_130 hK75_196 hf
set_option maxRecDepth 20000 in
theorem tX12_meet_156 {out : Int32 × Int32 × (Nat → Int32) × (Nat → Int32)} (hX : xk X = kX12_meet) (hQ : xQ X = qE (some (.int out.1)) (wX12_meet (xG X) q_a0 q_a0_lengths q_a0_many q_a0_s q_a0_w q_a0_z out.2.1 u_a0_trace u_a0_text u_a0_typed u_a0_next u_a0_token u_a0_place u_a0_value u_a0_fault u_a0_slow u_a0_deaf u_a0_told u_a0_kept u_a0_isKept u_a0_undos u_a0_undoMany u_a0_heardBy u_a0_heardAt u_a0_heardMany u_a0_tellsAt u_a0_tellMany u_a0_metAt u_a0_metBeat u_a0_round m_a0_lengths m_a0_many m_a0_s out.2.2.1 out.2.2.2)) (hf : fX12_meet_156 s0 v_a0_thrown m_a0_w m_a0_z = some out) : V X cX12_meet "FarDrumModel" 0 0 (wX12_meet (xG X) q_a0 q_a0_lengths q_a0_many q_a0_s q_a0_w q_a0_z v_a0_thrown u_a0_trace u_a0_text u_a0_typed u_a0_next u_a0_token u_a0_place u_a0_value u_a0_fault u_a0_slow u_a0_deaf u_a0_told u_a0_kept u_a0_isKept u_a0_undos u_a0_undoMany u_a0_heardBy u_a0_heardAt u_a0_heardMany u_a0_tellsAt u_a0_tellMany u_a0_metAt u_a0_metBeat u_a0_round m_a0_lengths m_a0_many m_a0_s m_a0_w m_a0_z) [none, none, none, none, none] 156 [.int s0] := by
  unfold fX12_meet_156 at hf
  exact V.iretE (pc := 156) hX kX12_meet_r hQ dX12_meet_156 (by cases hf; rfl) (by cases hf; rfl)
set_option maxRecDepth 20000 in
theorem tX12_meet_0 {out : Int32 × Int32 × (Nat → Int32) × (Nat → Int32)} (hX : xk X = kX12_meet) (hQ : xQ X = qE (some (.int out.1)) (wX12_meet (xG X) q_a0 q_a0_lengths q_a0_many q_a0_s q_a0_w q_a0_z out.2.1 u_a0_trace u_a0_text u_a0_typed u_a0_next u_a0_token u_a0_place u_a0_value u_a0_fault u_a0_slow u_a0_deaf u_a0_told u_a0_kept u_a0_isKept u_a0_undos u_a0_undoMany u_a0_heardBy u_a0_heardAt u_a0_heardMany u_a0_tellsAt u_a0_tellMany u_a0_metAt u_a0_metBeat u_a0_round m_a0_lengths m_a0_many m_a0_s out.2.2.1 out.2.2.2)) (hf : fX12_meet N l1 l2 m_a0_lengths m_a0_many m_a0_s m_a0_w m_a0_z = some out) : V X cX12_meet "FarDrumModel" 0 0 (wX12_meet (xG X) q_a0 q_a0_lengths q_a0_many q_a0_s q_a0_w q_a0_z v_a0_thrown u_a0_trace u_a0_text u_a0_typed u_a0_next u_a0_token u_a0_place u_a0_value u_a0_fault u_a0_slow u_a0_deaf u_a0_told u_a0_kept u_a0_isKept u_a0_undos u_a0_undoMany u_a0_heardBy u_a0_heardAt u_a0_heardMany u_a0_tellsAt u_a0_tellMany u_a0_metAt u_a0_metBeat u_a0_round m_a0_lengths m_a0_many m_a0_s m_a0_w m_a0_z) [some (.ref q_a0), some (.int l1), some (.int l2), none, none] 0 [] := by
  unfold fX12_meet at hf
  refine V.aloadn (pc := 0) dX12_meet_0 rfl ?_
  refine V.iconst (pc := 1) (v := 0) dX12_meet_1 (by decide) ?_
  refine V.putf (q := 0) (wd' := wX12_meet (xG X) q_a0 q_a0_lengths q_a0_many q_a0_s q_a0_w q_a0_z (0 : Int32) u_a0_trace u_a0_text u_a0_typed u_a0_next u_a0_token u_a0_place u_a0_value u_a0_fault u_a0_slow u_a0_deaf u_a0_told u_a0_kept u_a0_isKept u_a0_undos u_a0_undoMany u_a0_heardBy u_a0_heardAt u_a0_heardMany u_a0_tellsAt u_a0_tellMany u_a0_metAt u_a0_metBeat u_a0_round m_a0_lengths m_a0_many m_a0_s m_a0_w m_a0_z) (pc := 2) dX12_meet_2 pk_X12_62_12 rfl rfl rfl rfl rfl ?_
  refine V.aloadn (pc := 5) dX12_meet_5 rfl ?_
  refine V.iloadn (pc := 6) dX12_meet_6 rfl ?_
  refine V.callVi (pc := 7) (q := 0) (wr := [(q_a0_lengths, .inl ((xG X).2 0, 72, .inl m_a0_lengths)), (q_a0_s, .inl ((xG X).2 0, 35, .inl m_a0_s)), (q_a0_w, .inl ((xG X).2 0, 35, .inl m_a0_w)), (q_a0_z, .inl ((xG X).2 0, 35, .inl m_a0_z))]) (wd' := fun o7 => wX12_meet (xG X) q_a0 q_a0_lengths q_a0_many q_a0_s q_a0_w q_a0_z (0 : Int32) u_a0_trace u_a0_text u_a0_typed u_a0_next u_a0_token u_a0_place u_a0_value u_a0_fault u_a0_slow u_a0_deaf u_a0_told u_a0_kept u_a0_isKept u_a0_undos u_a0_undoMany u_a0_heardBy u_a0_heardAt u_a0_heardMany u_a0_tellsAt u_a0_tellMany u_a0_metAt u_a0_metBeat u_a0_round m_a0_lengths m_a0_many m_a0_s m_a0_w m_a0_z) [.int l1] (st := []) hf (fun _ h => oX12_isVillage (q_a0 := q_a0) (q_a0_many := q_a0_many) (u_a0_thrown := ((.int (0 : Int32)))) (u_a0_trace := u_a0_trace) (u_a0_text := u_a0_text) (u_a0_typed := u_a0_typed) (u_a0_next := u_a0_next) (u_a0_token := u_a0_token) (u_a0_place := u_a0_place) (u_a0_value := u_a0_value) (u_a0_fault := u_a0_fault) (u_a0_slow := u_a0_slow) (u_a0_deaf := u_a0_deaf) (u_a0_lengths := ((.ref q_a0_lengths))) (u_a0_told := u_a0_told) (u_a0_s := ((.ref q_a0_s))) (u_a0_w := ((.ref q_a0_w))) (u_a0_kept := u_a0_kept) (u_a0_isKept := u_a0_isKept) (u_a0_undos := u_a0_undos) (u_a0_undoMany := u_a0_undoMany) (u_a0_heardBy := u_a0_heardBy) (u_a0_heardAt := u_a0_heardAt) (u_a0_heardMany := u_a0_heardMany) (u_a0_tellsAt := u_a0_tellsAt) (u_a0_tellMany := u_a0_tellMany) (u_a0_metAt := u_a0_metAt) (u_a0_metBeat := u_a0_metBeat) (u_a0_round := u_a0_round) (u_a0_z := ((.ref q_a0_z))) (m_a0_many := m_a0_many) (l1 := l1) h) lkV_X12_133 dX12_meet_7 hX rfl ⟨rfl, rfl⟩ ⟨rfl, rfl⟩ rfl rfl rfl rfl rfl [0, 2] [1, 3, 4, 5] [4, 0, 5, 1, 2, 3] rfl rfl rfl rfl rfl (fun _ => rfl) rfl (fun o7 hf => ?_)
  refine V.if_eq (pc := 10) (tgt := 22) dX12_meet_10 (by decide) hf (fun hf => ?_) (fun hf => ?_)
  · refine V.mask (pc := 22) [false, false, false, false, false] rfl rfl ?_
    exact tX12_meet_22 hX hQ hf
  · refine V.iloadn (pc := 13) dX12_meet_13 rfl ?_
    refine V.iconst (pc := 14) (v := 0) dX12_meet_14 (by decide) ?_
    refine V.iconst (pc := 15) (v := 1) dX12_meet_15 (by decide) ?_
    refine V.callSi (pc := 16) [.int l2, .int (0 : Int32), .int (1 : Int32)] (st := []) hf (fun _ h => oX12_in  (l0 := l2) (l1 := (0 : Int32)) (l2 := (1 : Int32)) h) lkS_X12_66 dX12_meet_16 hX rfl ⟨rfl, rfl⟩ ⟨rfl, rfl⟩ rfl rfl rfl (fun o16 hf => ?_)
    refine V.if_ne (pc := 19) (tgt := 24) dX12_meet_19 (by decide) hf (fun hf => ?_) (fun hf => ?_)
    · refine V.aloadn (pc := 24) dX12_meet_24 rfl ?_
      refine V.callVv (pc := 25) (q := 0) (wr := [(q_a0_lengths, .inl ((xG X).2 0, 72, .inl m_a0_lengths)), (q_a0_many, .inl ((xG X).2 0, 6, .inl m_a0_many)), (q_a0_z, .inl ((xG X).2 0, 35, .inl m_a0_z))]) (wd' := fun o25 => wX12_meet (xG X) q_a0 q_a0_lengths q_a0_many q_a0_s q_a0_w q_a0_z (0 : Int32) u_a0_trace u_a0_text u_a0_typed u_a0_next u_a0_token u_a0_place u_a0_value u_a0_fault u_a0_slow u_a0_deaf u_a0_told u_a0_kept u_a0_isKept u_a0_undos u_a0_undoMany u_a0_heardBy u_a0_heardAt u_a0_heardMany u_a0_tellsAt u_a0_tellMany u_a0_metAt u_a0_metBeat u_a0_round m_a0_lengths m_a0_many m_a0_s o25 m_a0_z) [] (st := []) hf (fun _ h => oX12_asNow (q_a0 := q_a0) (q_a0_s := q_a0_s) (q_a0_w := q_a0_w) (u_a0_thrown := ((.int (0 : Int32)))) (u_a0_trace := u_a0_trace) (u_a0_text := u_a0_text) (u_a0_typed := u_a0_typed) (u_a0_next := u_a0_next) (u_a0_token := u_a0_token) (u_a0_place := u_a0_place) (u_a0_value := u_a0_value) (u_a0_fault := u_a0_fault) (u_a0_many := ((.ref q_a0_many))) (u_a0_slow := u_a0_slow) (u_a0_deaf := u_a0_deaf) (u_a0_lengths := ((.ref q_a0_lengths))) (u_a0_told := u_a0_told) (u_a0_kept := u_a0_kept) (u_a0_isKept := u_a0_isKept) (u_a0_undos := u_a0_undos) (u_a0_undoMany := u_a0_undoMany) (u_a0_heardBy := u_a0_heardBy) (u_a0_heardAt := u_a0_heardAt) (u_a0_heardMany := u_a0_heardMany) (u_a0_tellsAt := u_a0_tellsAt) (u_a0_tellMany := u_a0_tellMany) (u_a0_metAt := u_a0_metAt) (u_a0_metBeat := u_a0_metBeat) (u_a0_round := u_a0_round) (u_a0_z := ((.ref q_a0_z))) (m_a0_s := m_a0_s) (m_a0_w := m_a0_w) h) lkV_X12_148 dX12_meet_25 hX rfl ⟨rfl, rfl⟩ ⟨rfl, rfl⟩ rfl rfl rfl rfl rfl [0, 3, 4] [1, 2, 5] [3, 0, 1, 4, 5, 2] rfl rfl rfl rfl rfl (fun _ => rfl) rfl (fun o25 hf => ?_)
      refine V.iconst (pc := 28) (v := 0) dX12_meet_28 (by decide) ?_
      refine V.istoren (pc := 29) dX12_meet_29 rfl rfl rfl ?_
      refine tX12_meet_L30 hX hQ ?_ _ _ _ hf
      · intro m_a0_zk30_54 hf
        refine V.aloadn (pc := 54) dX12_meet_54 rfl ?_
        refine V.getf (q := 0) (pc := 55) dX12_meet_55 fk_X12_59_12 rfl rfl ?_
        refine V.iconst (pc := 58) (v := 2) dX12_meet_58 (by decide) ?_
        refine V.iloadn (pc := 59) dX12_meet_59 rfl ?_
        refine V.iastC (pc := 60) (q := 5) (wd' := fun g60 => wX12_meet (xG X) q_a0 q_a0_lengths q_a0_many q_a0_s q_a0_w q_a0_z (0 : Int32) u_a0_trace u_a0_text u_a0_typed u_a0_next u_a0_token u_a0_place u_a0_value u_a0_fault u_a0_slow u_a0_deaf u_a0_told u_a0_kept u_a0_isKept u_a0_undos u_a0_undoMany u_a0_heardBy u_a0_heardAt u_a0_heardMany u_a0_tellsAt u_a0_tellMany u_a0_metAt u_a0_metBeat u_a0_round m_a0_lengths m_a0_many m_a0_s o25 g60) 2 dX12_meet_60 rfl ⟨vp_c (by decide), by decide⟩ hf (fun _ => rfl) (fun g60 hf => ?_)
        refine V.aloadn (pc := 61) dX12_meet_61 rfl ?_
        refine V.getf (q := 0) (pc := 62) dX12_meet_62 fk_X12_25_12 rfl rfl ?_
        refine V.iconst (pc := 65) (v := 1) dX12_meet_65 (by decide) ?_
        refine V.ialdC (pc := 66) (q := 3) 1 dX12_meet_66 rfl ⟨vp_c (by decide), by decide⟩ ?_
        refine V.sipush (pc := 67) (v := 400) dX12_meet_67 (by decide) ?_
        refine V.iadd (pc := 70) dX12_meet_70 ?_
        refine V.topi hf (fun y71 hf => ?_)
        refine V.istoren (pc := 71) dX12_meet_71 rfl rfl rfl ?_
        refine V.iconst (pc := 72) (v := 1) dX12_meet_72 (by decide) ?_
        refine V.istore (pc := 73) dX12_meet_73 rfl rfl rfl ?_
        refine V.mask (pc := 75) [true, false, true, true, true] rfl rfl ?_
        refine tX12_meet_L75 hX hQ ?_ ?_ _ _ _ _ hf
        · intro m_a0_wk75_130 m_a0_zk75_130 hf
          refine V.iloadn (pc := 130) dX12_meet_130 rfl ?_
          refine V.if_ne (pc := 131) (tgt := 150) dX12_meet_131 (by decide) hf (fun hf => ?_) (fun hf => ?_)
          · refine V.aloadn (pc := 150) dX12_meet_150 rfl ?_
            refine V.getf (q := 0) (pc := 151) dX12_meet_151 fk_X12_28_12 rfl rfl ?_
            refine V.iconst (pc := 154) (v := 2) dX12_meet_154 (by decide) ?_
            refine V.ialdC (pc := 155) (q := 4) 2 dX12_meet_155 rfl ⟨vp_c (by decide), by decide⟩ ?_
            refine V.mask (pc := 156) [false, false, false, false, false] rfl rfl ?_
            exact tX12_meet_156 hX hQ hf
          · refine V.aloadn (pc := 134) dX12_meet_134 rfl ?_
            refine V.getf (q := 0) (pc := 135) dX12_meet_135 fk_X12_28_12 rfl rfl ?_
            refine V.iconst (pc := 138) (v := 1) dX12_meet_138 (by decide) ?_
            refine V.ialdC (pc := 139) (q := 4) 1 dX12_meet_139 rfl ⟨vp_c (by decide), by decide⟩ ?_
            refine V.aloadn (pc := 140) dX12_meet_140 rfl ?_
            refine V.getf (q := 0) (pc := 141) dX12_meet_141 fk_X12_25_12 rfl rfl ?_
            refine V.iconst (pc := 144) (v := 1) dX12_meet_144 (by decide) ?_
            refine V.ialdC (pc := 145) (q := 3) 1 dX12_meet_145 rfl ⟨vp_c (by decide), by decide⟩ ?_
            refine V.isub (pc := 146) dX12_meet_146 ?_
            refine V.goto (pc := 147) (tgt := 156) dX12_meet_147 (by decide) ?_
            refine V.mask (pc := 156) [false, false, false, false, false] rfl rfl ?_
            exact tX12_meet_156 hX hQ hf
        · intro m_a0_wk75_196 m_a0_zk75_196 hf
          refine V.bipush (pc := 196) (v := -9) dX12_meet_196 (by decide) ?_
          exact V.iretE (pc := 198) hX kX12_meet_r hQ dX12_meet_198 (by cases hf; rfl) (by cases hf; rfl)
    · refine V.mask (pc := 22) [false, false, false, false, false] rfl rfl ?_
      exact tX12_meet_22 hX hQ hf
end
theorem oX12_meet {l : Launch} {G : GT} {N : Nat} {q_a0 : Nat} {q_a0_lengths : Nat} {q_a0_many : Nat} {q_a0_s : Nat} {q_a0_w : Nat} {q_a0_z : Nat} {v_a0_thrown : Int32} {u_a0_trace : Value} {u_a0_text : Value} {u_a0_typed : Value} {u_a0_next : Value} {u_a0_token : Value} {u_a0_place : Value} {u_a0_value : Value} {u_a0_fault : Value} {u_a0_slow : Value} {u_a0_deaf : Value} {u_a0_told : Value} {u_a0_kept : Value} {u_a0_isKept : Value} {u_a0_undos : Value} {u_a0_undoMany : Value} {u_a0_heardBy : Value} {u_a0_heardAt : Value} {u_a0_heardMany : Value} {u_a0_tellsAt : Value} {u_a0_tellMany : Value} {u_a0_metAt : Value} {u_a0_metBeat : Value} {u_a0_round : Value} {m_a0_lengths : Nat → Int32} {m_a0_many : Nat → Int32} {m_a0_s : Nat → Int32} {m_a0_w : Nat → Int32} {m_a0_z : Nat → Int32} {l1 : Int32} {l2 : Int32} {out : Int32 × Int32 × (Nat → Int32) × (Nat → Int32)} (hf : fX12_meet N l1 l2 m_a0_lengths m_a0_many m_a0_s m_a0_w m_a0_z = some out) : Ct (l, G, kX12_meet, wX12_meet G q_a0 q_a0_lengths q_a0_many q_a0_s q_a0_w q_a0_z v_a0_thrown u_a0_trace u_a0_text u_a0_typed u_a0_next u_a0_token u_a0_place u_a0_value u_a0_fault u_a0_slow u_a0_deaf u_a0_told u_a0_kept u_a0_isKept u_a0_undos u_a0_undoMany u_a0_heardBy u_a0_heardAt u_a0_heardMany u_a0_tellsAt u_a0_tellMany u_a0_metAt u_a0_metBeat u_a0_round m_a0_lengths m_a0_many m_a0_s m_a0_w m_a0_z, [.ref q_a0, .int l1, .int l2], qE (some (.int out.1)) (wX12_meet G q_a0 q_a0_lengths q_a0_many q_a0_s q_a0_w q_a0_z out.2.1 u_a0_trace u_a0_text u_a0_typed u_a0_next u_a0_token u_a0_place u_a0_value u_a0_fault u_a0_slow u_a0_deaf u_a0_told u_a0_kept u_a0_isKept u_a0_undos u_a0_undoMany u_a0_heardBy u_a0_heardAt u_a0_heardMany u_a0_tellsAt u_a0_tellMany u_a0_metAt u_a0_metBeat u_a0_round m_a0_lengths m_a0_many m_a0_s out.2.2.1 out.2.2.2)) :=
  Ct.of [some (.ref q_a0), some (.int l1), some (.int l2), none, none] kX12_meet_p rfl rfl rfl ((tX12_meet_0 (X := (l, G, kX12_meet, wX12_meet G q_a0 q_a0_lengths q_a0_many q_a0_s q_a0_w q_a0_z v_a0_thrown u_a0_trace u_a0_text u_a0_typed u_a0_next u_a0_token u_a0_place u_a0_value u_a0_fault u_a0_slow u_a0_deaf u_a0_told u_a0_kept u_a0_isKept u_a0_undos u_a0_undoMany u_a0_heardBy u_a0_heardAt u_a0_heardMany u_a0_tellsAt u_a0_tellMany u_a0_metAt u_a0_metBeat u_a0_round m_a0_lengths m_a0_many m_a0_s m_a0_w m_a0_z, [.ref q_a0, .int l1, .int l2], qE (some (.int out.1)) (wX12_meet G q_a0 q_a0_lengths q_a0_many q_a0_s q_a0_w q_a0_z out.2.1 u_a0_trace u_a0_text u_a0_typed u_a0_next u_a0_token u_a0_place u_a0_value u_a0_fault u_a0_slow u_a0_deaf u_a0_told u_a0_kept u_a0_isKept u_a0_undos u_a0_undoMany u_a0_heardBy u_a0_heardAt u_a0_heardMany u_a0_tellsAt u_a0_tellMany u_a0_metAt u_a0_metBeat u_a0_round m_a0_lengths m_a0_many m_a0_s out.2.2.1 out.2.2.2))) rfl rfl hf))

def wX12_power (G : GT)  : va_W := []
def kX12_power : KT := (yX12_power, cX12_power, 4, (some .int), 0, 0, 0)
theorem kX12_power_r : kr kX12_power = (some .int) ∧ kmc kX12_power = 0 ∧ kms kX12_power = 0 := ⟨rfl, rfl, rfl⟩
theorem kX12_power_p : plainName (ky kX12_power).cls = true := by decide +kernel
def fX12_power_4 (B4 : Int32 → Int32 → Option (Int32)) (K4_19 : Int32 → Option (Int32)) (l0 : Int32) (l1 : Int32) (l2 : Int32) (l3 : Int32) : Option (Int32) :=
  if l1 ≤ l3 then (K4_19 l2)
  else (lti (l2 * l0) fun y12 =>
  B4 y12 (l3 + (1 : Int32)))
def fX12_power_L4 (l0 : Int32) (l1 : Int32) (K4_19 : Int32 → Option (Int32)) : Nat → Int32 → Int32 → Option (Int32)
  | 0, _, _ => none
  | n + 1, l2, l3 => fX12_power_4 (fX12_power_L4 l0 l1 K4_19 n) K4_19 l0 l1 l2 l3
def fX12_power (N : Nat) (l0 : Int32) (l1 : Int32) : Option (Int32) :=
  fX12_power_L4 l0 l1
      (fun l2k4_19 => some l2k4_19) N (1 : Int32) (0 : Int32)
section
variable {X : XT} {N : Nat} {l0 : Int32} {l1 : Int32} {l2 : Int32} {l3 : Int32}
set_option maxRecDepth 20000 in
theorem tX12_power_4 {out : Int32} (hX : xk X = kX12_power) (hQ : xQ X = qE (some (.int out)) (wX12_power (xG X))) {B4 : Int32 → Int32 → Option (Int32)} {K4_19 : Int32 → Option (Int32)} (hB4 : ∀ (l2 : Int32) (l3 : Int32), B4 l2 l3 = some out → V X cX12_power "FarDrumModel" 0 0 (wX12_power (xG X)) [some (.int l0), some (.int l1), some (.int l2), some (.int l3)] 4 []) (hK4_19 : ∀ (l2 : Int32), K4_19 l2 = some out → V X cX12_power "FarDrumModel" 0 0 (wX12_power (xG X)) [none, none, some (.int l2), none] 19 []) (hf : fX12_power_4 B4 K4_19 l0 l1 l2 l3 = some out) : V X cX12_power "FarDrumModel" 0 0 (wX12_power (xG X)) [some (.int l0), some (.int l1), some (.int l2), some (.int l3)] 4 [] := by
  unfold fX12_power_4 at hf
  refine V.iloadn (pc := 4) dX12_power_4 rfl ?_
  refine V.iloadn (pc := 5) dX12_power_5 rfl ?_
  refine V.icmp_ge (pc := 6) (tgt := 19) dX12_power_6 (by decide) hf (fun hf => ?_) (fun hf => ?_)
  · refine V.mask (pc := 19) [false, false, true, false] rfl rfl ?_
    exact hK4_19 _ hf
  · refine V.iloadn (pc := 9) dX12_power_9 rfl ?_
    refine V.iloadn (pc := 10) dX12_power_10 rfl ?_
    refine V.imul (pc := 11) dX12_power_11 ?_
    refine V.topi hf (fun y12 hf => ?_)
    refine V.istoren (pc := 12) dX12_power_12 rfl rfl rfl ?_
    refine V.iinc (pc := 13) (v := 1) dX12_power_13 rfl rfl (by decide) rfl ?_
    refine V.goto (pc := 16) (tgt := 4) dX12_power_16 (by decide) ?_
    exact hB4 _ _ hf
theorem tX12_power_L4 {out : Int32} (hX : xk X = kX12_power) (hQ : xQ X = qE (some (.int out)) (wX12_power (xG X))) {K4_19 : Int32 → Option (Int32)} (hK4_19 : ∀ (l2 : Int32), K4_19 l2 = some out → V X cX12_power "FarDrumModel" 0 0 (wX12_power (xG X)) [none, none, some (.int l2), none] 19 []) : ∀ (n : Nat) (l2 : Int32) (l3 : Int32), fX12_power_L4 l0 l1 K4_19 n l2 l3 = some out → V X cX12_power "FarDrumModel" 0 0 (wX12_power (xG X)) [some (.int l0), some (.int l1), some (.int l2), some (.int l3)] 4 [] := by
  intro n
  induction n with
  | zero => intro l2 l3 hf; cases hf
  | succ n ih => intro l2 l3 hf; exact tX12_power_4 hX hQ ih hK4_19 hf
set_option maxRecDepth 20000 in
theorem tX12_power_0 {out : Int32} (hX : xk X = kX12_power) (hQ : xQ X = qE (some (.int out)) (wX12_power (xG X))) (hf : fX12_power N l0 l1 = some out) : V X cX12_power "FarDrumModel" 0 0 (wX12_power (xG X)) [some (.int l0), some (.int l1), none, none] 0 [] := by
  unfold fX12_power at hf
  refine V.iconst (pc := 0) (v := 1) dX12_power_0 (by decide) ?_
  refine V.istoren (pc := 1) dX12_power_1 rfl rfl rfl ?_
  refine V.iconst (pc := 2) (v := 0) dX12_power_2 (by decide) ?_
  refine V.istoren (pc := 3) dX12_power_3 rfl rfl rfl ?_
  refine tX12_power_L4 hX hQ ?_ _ _ _ hf
  · intro l2k4_19 hf
    refine V.iloadn (pc := 19) dX12_power_19 rfl ?_
    exact V.iretE (pc := 20) hX kX12_power_r hQ dX12_power_20 (by cases hf; rfl) (by cases hf; rfl)
end
theorem oX12_power {l : Launch} {G : GT} {N : Nat}  {l0 : Int32} {l1 : Int32} {out : Int32} (hf : fX12_power N l0 l1 = some out) : Ct (l, G, kX12_power, wX12_power G, [.int l0, .int l1], qE (some (.int out)) (wX12_power G)) :=
  Ct.of [some (.int l0), some (.int l1), none, none] kX12_power_p rfl rfl rfl ((tX12_power_0 (X := (l, G, kX12_power, wX12_power G, [.int l0, .int l1], qE (some (.int out)) (wX12_power G))) rfl rfl hf))

def wX12_gcd (G : GT)  : va_W := []
def kX12_gcd : KT := (yX12_gcd, cX12_gcd, 5, (some .int), 0, 0, 0)
theorem kX12_gcd_r : kr kX12_gcd = (some .int) ∧ kmc kX12_gcd = 0 ∧ kms kX12_gcd = 0 := ⟨rfl, rfl, rfl⟩
theorem kX12_gcd_p : plainName (ky kX12_gcd).cls = true := by decide +kernel
def fX12_gcd_4 (B4 : Int32 → Int32 → Option (Int32)) (K4_21 : Int32 → Option (Int32)) (l2 : Int32) (l3 : Int32) : Option (Int32) :=
  if l3 = 0 then (K4_21 l2)
  else (dvi l3 <| 
  lti (l2 - l2 / l3 * l3) fun y11 =>
  B4 l3 y11)
def fX12_gcd_L4 (K4_21 : Int32 → Option (Int32)) : Nat → Int32 → Int32 → Option (Int32)
  | 0, _, _ => none
  | n + 1, l2, l3 => fX12_gcd_4 (fX12_gcd_L4 K4_21 n) K4_21 l2 l3
def fX12_gcd (N : Nat) (l0 : Int32) (l1 : Int32) : Option (Int32) :=
  fX12_gcd_L4
      (fun l2k4_21 => some l2k4_21) N l0 l1
section
variable {X : XT} {N : Nat} {l0 : Int32} {l1 : Int32} {l2 : Int32} {l3 : Int32}
set_option maxRecDepth 20000 in
theorem tX12_gcd_4 {out : Int32} (hX : xk X = kX12_gcd) (hQ : xQ X = qE (some (.int out)) (wX12_gcd (xG X))) {B4 : Int32 → Int32 → Option (Int32)} {K4_21 : Int32 → Option (Int32)} (hB4 : ∀ (l2 : Int32) (l3 : Int32), B4 l2 l3 = some out → V X cX12_gcd "FarDrumModel" 0 0 (wX12_gcd (xG X)) [none, none, some (.int l2), some (.int l3), none] 4 []) (hK4_21 : ∀ (l2 : Int32), K4_21 l2 = some out → V X cX12_gcd "FarDrumModel" 0 0 (wX12_gcd (xG X)) [none, none, some (.int l2), none, none] 21 []) (hf : fX12_gcd_4 B4 K4_21 l2 l3 = some out) : V X cX12_gcd "FarDrumModel" 0 0 (wX12_gcd (xG X)) [none, none, some (.int l2), some (.int l3), none] 4 [] := by
  unfold fX12_gcd_4 at hf
  refine V.iloadn (pc := 4) dX12_gcd_4 rfl ?_
  refine V.if_eq (pc := 5) (tgt := 21) dX12_gcd_5 (by decide) hf (fun hf => ?_) (fun hf => ?_)
  · refine V.mask (pc := 21) [false, false, true, false, false] rfl rfl ?_
    exact hK4_21 _ hf
  · refine V.iloadn (pc := 8) dX12_gcd_8 rfl ?_
    refine V.iloadn (pc := 9) dX12_gcd_9 rfl ?_
    refine V.irem (pc := 10) dX12_gcd_10 hf (fun hf => ?_)
    refine V.topi hf (fun y11 hf => ?_)
    refine V.istore (pc := 11) dX12_gcd_11 rfl rfl rfl ?_
    refine V.iloadn (pc := 13) dX12_gcd_13 rfl ?_
    refine V.istoren (pc := 14) dX12_gcd_14 rfl rfl rfl ?_
    refine V.iload (pc := 15) dX12_gcd_15 rfl ?_
    refine V.istoren (pc := 17) dX12_gcd_17 rfl rfl rfl ?_
    refine V.goto (pc := 18) (tgt := 4) dX12_gcd_18 (by decide) ?_
    refine V.mask (pc := 4) [false, false, true, true, false] rfl rfl ?_
    exact hB4 _ _ hf
theorem tX12_gcd_L4 {out : Int32} (hX : xk X = kX12_gcd) (hQ : xQ X = qE (some (.int out)) (wX12_gcd (xG X))) {K4_21 : Int32 → Option (Int32)} (hK4_21 : ∀ (l2 : Int32), K4_21 l2 = some out → V X cX12_gcd "FarDrumModel" 0 0 (wX12_gcd (xG X)) [none, none, some (.int l2), none, none] 21 []) : ∀ (n : Nat) (l2 : Int32) (l3 : Int32), fX12_gcd_L4 K4_21 n l2 l3 = some out → V X cX12_gcd "FarDrumModel" 0 0 (wX12_gcd (xG X)) [none, none, some (.int l2), some (.int l3), none] 4 [] := by
  intro n
  induction n with
  | zero => intro l2 l3 hf; cases hf
  | succ n ih => intro l2 l3 hf; exact tX12_gcd_4 hX hQ ih hK4_21 hf
set_option maxRecDepth 20000 in
theorem tX12_gcd_0 {out : Int32} (hX : xk X = kX12_gcd) (hQ : xQ X = qE (some (.int out)) (wX12_gcd (xG X))) (hf : fX12_gcd N l0 l1 = some out) : V X cX12_gcd "FarDrumModel" 0 0 (wX12_gcd (xG X)) [some (.int l0), some (.int l1), none, none, none] 0 [] := by
  unfold fX12_gcd at hf
  refine V.iloadn (pc := 0) dX12_gcd_0 rfl ?_
  refine V.istoren (pc := 1) dX12_gcd_1 rfl rfl rfl ?_
  refine V.iloadn (pc := 2) dX12_gcd_2 rfl ?_
  refine V.istoren (pc := 3) dX12_gcd_3 rfl rfl rfl ?_
  refine V.mask (pc := 4) [false, false, true, true, false] rfl rfl ?_
  refine tX12_gcd_L4 hX hQ ?_ _ _ _ hf
  · intro l2k4_21 hf
    refine V.iloadn (pc := 21) dX12_gcd_21 rfl ?_
    exact V.iretE (pc := 22) hX kX12_gcd_r hQ dX12_gcd_22 (by cases hf; rfl) (by cases hf; rfl)
end
theorem oX12_gcd {l : Launch} {G : GT} {N : Nat}  {l0 : Int32} {l1 : Int32} {out : Int32} (hf : fX12_gcd N l0 l1 = some out) : Ct (l, G, kX12_gcd, wX12_gcd G, [.int l0, .int l1], qE (some (.int out)) (wX12_gcd G)) :=
  Ct.of [some (.int l0), some (.int l1), none, none, none] kX12_gcd_p rfl rfl rfl ((tX12_gcd_0 (X := (l, G, kX12_gcd, wX12_gcd G, [.int l0, .int l1], qE (some (.int out)) (wX12_gcd G))) rfl rfl hf))

theorem lkb_X12_power : LkB kX12_power 2 := ⟨kw_5_68, kw_1_13, ⟨by decide, by decide⟩, by decide +kernel, by decide⟩
theorem lkS_X12_185 : LkS "FarDrumModel" 185 kX12_power 2 := ⟨lkb_X12_power, kw_5_66, kw_5_67⟩
theorem lkb_X12_gcd : LkB kX12_gcd 2 := ⟨kw_5_71, kw_1_13, ⟨by decide, by decide⟩, by decide +kernel, by decide⟩
theorem lkS_X12_188 : LkS "FarDrumModel" 188 kX12_gcd 2 := ⟨lkb_X12_gcd, kw_5_69, kw_5_70⟩
def wX12_odds (G : GT) (q_a0 : Nat) (q_a0_lengths : Nat) (q_a0_many : Nat) (q_a0_s : Nat) (q_a0_w : Nat) (v_a0_thrown : Int32) (u_a0_trace : Value) (u_a0_text : Value) (u_a0_typed : Value) (u_a0_next : Value) (u_a0_token : Value) (u_a0_place : Value) (u_a0_value : Value) (u_a0_fault : Value) (u_a0_slow : Value) (u_a0_deaf : Value) (u_a0_told : Value) (u_a0_kept : Value) (u_a0_isKept : Value) (u_a0_undos : Value) (u_a0_undoMany : Value) (u_a0_heardBy : Value) (u_a0_heardAt : Value) (u_a0_heardMany : Value) (u_a0_tellsAt : Value) (u_a0_tellMany : Value) (u_a0_metAt : Value) (u_a0_metBeat : Value) (u_a0_round : Value) (u_a0_z : Value) (m_a0_lengths : Nat → Int32) (m_a0_many : Nat → Int32) (m_a0_s : Nat → Int32) (m_a0_w : Nat → Int32) : va_W := [(q_a0, .inr (12, [.int v_a0_thrown, u_a0_trace, u_a0_text, u_a0_typed, u_a0_next, u_a0_token, u_a0_place, u_a0_value, u_a0_fault, .ref q_a0_many, u_a0_slow, u_a0_deaf, .ref q_a0_lengths, u_a0_told, .ref q_a0_s, .ref q_a0_w, u_a0_kept, u_a0_isKept, u_a0_undos, u_a0_undoMany, u_a0_heardBy, u_a0_heardAt, u_a0_heardMany, u_a0_tellsAt, u_a0_tellMany, u_a0_metAt, u_a0_metBeat, u_a0_round, u_a0_z])), (q_a0_lengths, .inl (G.2 0, 72, .inl m_a0_lengths)), (q_a0_many, .inl (G.2 0, 6, .inl m_a0_many)), (q_a0_s, .inl (G.2 0, 35, .inl m_a0_s)), (q_a0_w, .inl (G.2 0, 35, .inl m_a0_w))]
def kX12_odds : KT := (yX12_odds, cX12_odds, 10, (some .int), 3, 0, 0)
theorem kX12_odds_r : kr kX12_odds = (some .int) ∧ kmc kX12_odds = 0 ∧ kms kX12_odds = 0 := ⟨rfl, rfl, rfl⟩
theorem kX12_odds_p : plainName (ky kX12_odds).cls = true := by decide +kernel
def fX12_odds_43 (v_a0_thrown : Int32) (m_a0_w : Nat → Int32) : Option (Int32 × Int32 × (Nat → Int32)) :=
  some ((-1 : Int32), v_a0_thrown, m_a0_w)
def fX12_odds_135 (B72 : Int32 → Int32 → Int32 → (Nat → Int32) → Option (Int32 × Int32 × (Nat → Int32))) (l7 : Int32) (l9 : Int32) (s0 : Int32) (m_a0_w : Nat → Int32) : Option (Int32 × Int32 × (Nat → Int32)) :=
  B72 l7 s0 (l9 + (1 : Int32)) m_a0_w
def fX12_odds_134 (B72 : Int32 → Int32 → Int32 → (Nat → Int32) → Option (Int32 × Int32 × (Nat → Int32))) (l7 : Int32) (l9 : Int32) (m_a0_w : Nat → Int32) : Option (Int32 × Int32 × (Nat → Int32)) :=
  fX12_odds_135 B72 l7 l9 (0 : Int32) m_a0_w
def fX12_odds_111 (B72 : Int32 → Int32 → Int32 → (Nat → Int32) → Option (Int32 × Int32 × (Nat → Int32))) (N : Nat) (l8 : Int32) (l9 : Int32) (s0 : Int32) (s1 : Int32) (m_a0_lengths : Nat → Int32) (m_a0_many : Nat → Int32) (m_a0_w : Nat → Int32) : Option (Int32 × Int32 × (Nat → Int32)) :=
  lti (s0 * s1) fun y112 =>
  if l8 = 0 then (fX12_odds_134 B72 y112 l9 m_a0_w)
  else (Option.bind (fX12_goes N m_a0_lengths m_a0_many m_a0_w) fun o124 =>
  if o124.1 = 0 then (fX12_odds_134 B72 y112 l9 o124.2)
  else (fX12_odds_135 B72 y112 l9 (1 : Int32) o124.2))
def fX12_odds_72 (B72 : Int32 → Int32 → Int32 → (Nat → Int32) → Option (Int32 × Int32 × (Nat → Int32))) (K72_143 : Int32 → Int32 → (Nat → Int32) → Option (Int32 × Int32 × (Nat → Int32))) (N : Nat) (l2 : Int32) (l3 : Int32) (l6 : Int32) (l7 : Int32) (l8 : Int32) (l9 : Int32) (m_a0_lengths : Nat → Int32) (m_a0_many : Nat → Int32) (m_a0_w : Nat → Int32) : Option (Int32 × Int32 × (Nat → Int32)) :=
  if l3 ≤ l9 then (K72_143 l7 l8 m_a0_w)
  else (lti (upd m_a0_w 3 ((l6 >>> (l9 &&& 31)) &&& (1 : Int32))) fun g90 =>
  if (g90 3) = (1 : Int32) then (fX12_odds_111 B72 N l8 l9 l7 l2 m_a0_lengths m_a0_many g90)
  else (fX12_odds_111 B72 N l8 l9 l7 ((10 : Int32) - l2) m_a0_lengths m_a0_many g90))
def fX12_odds_L72 (N : Nat) (l2 : Int32) (l3 : Int32) (l6 : Int32) (m_a0_lengths : Nat → Int32) (m_a0_many : Nat → Int32) (K72_143 : Int32 → Int32 → (Nat → Int32) → Option (Int32 × Int32 × (Nat → Int32))) : Nat → Int32 → Int32 → Int32 → (Nat → Int32) → Option (Int32 × Int32 × (Nat → Int32))
  | 0, _, _, _, _ => none
  | n + 1, l7, l8, l9, m_a0_w => fX12_odds_72 (fX12_odds_L72 N l2 l3 l6 m_a0_lengths m_a0_many K72_143 n) K72_143 N l2 l3 l6 l7 l8 l9 m_a0_lengths m_a0_many m_a0_w
def fX12_odds_166 (B51 : Int32 → Int32 → (Nat → Int32) → Option (Int32 × Int32 × (Nat → Int32))) (l6 : Int32) (s0 : Int32) (s1 : Int32) (m_a0_w : Nat → Int32) : Option (Int32 × Int32 × (Nat → Int32)) :=
  lti (s0 + s1) fun y167 =>
  B51 y167 (l6 + (1 : Int32)) m_a0_w
def fX12_odds_165 (B51 : Int32 → Int32 → (Nat → Int32) → Option (Int32 × Int32 × (Nat → Int32))) (l6 : Int32) (s0 : Int32) (m_a0_w : Nat → Int32) : Option (Int32 × Int32 × (Nat → Int32)) :=
  fX12_odds_166 B51 l6 s0 (0 : Int32) m_a0_w
def fX12_odds_51 (B51 : Int32 → Int32 → (Nat → Int32) → Option (Int32 × Int32 × (Nat → Int32))) (K51_175 : Int32 → (Nat → Int32) → Option (Int32 × Int32 × (Nat → Int32))) (N : Nat) (l1 : Int32) (l2 : Int32) (l3 : Int32) (l5 : Int32) (l6 : Int32) (m_a0_lengths : Nat → Int32) (m_a0_many : Nat → Int32) (m_a0_s : Nat → Int32) (m_a0_w : Nat → Int32) : Option (Int32 × Int32 × (Nat → Int32)) :=
  if ((1 : Int32) <<< (l3 &&& 31)) ≤ l6 then (K51_175 l5 m_a0_w)
  else (Option.bind (fX12_asNow N m_a0_s m_a0_w) fun o60 =>
  fX12_odds_L72 N l2 l3 l6 m_a0_lengths m_a0_many
      (fun l7k72_143 l8k72_143 m_a0_wk72_143 => if l8k72_143 = 0 then (fX12_odds_165 B51 l6 l5 m_a0_wk72_143)
  else (if (m_a0_wk72_143 2) = l1 then (fX12_odds_166 B51 l6 l5 l7k72_143 m_a0_wk72_143)
  else (fX12_odds_165 B51 l6 l5 m_a0_wk72_143))) N (1 : Int32) (1 : Int32) (0 : Int32) o60)
def fX12_odds_L51 (N : Nat) (l1 : Int32) (l2 : Int32) (l3 : Int32) (m_a0_lengths : Nat → Int32) (m_a0_many : Nat → Int32) (m_a0_s : Nat → Int32) (K51_175 : Int32 → (Nat → Int32) → Option (Int32 × Int32 × (Nat → Int32))) : Nat → Int32 → Int32 → (Nat → Int32) → Option (Int32 × Int32 × (Nat → Int32))
  | 0, _, _, _ => none
  | n + 1, l5, l6, m_a0_w => fX12_odds_51 (fX12_odds_L51 N l1 l2 l3 m_a0_lengths m_a0_many m_a0_s K51_175 n) K51_175 N l1 l2 l3 l5 l6 m_a0_lengths m_a0_many m_a0_s m_a0_w
def fX12_odds_210 (s0 : Int32) (v_a0_thrown : Int32) (m_a0_w : Nat → Int32) : Option (Int32 × Int32 × (Nat → Int32)) :=
  some (s0, v_a0_thrown, m_a0_w)
def fX12_odds (N : Nat) (l1 : Int32) (l2 : Int32) (l3 : Int32) (l4 : Int32) (m_a0_lengths : Nat → Int32) (m_a0_many : Nat → Int32) (m_a0_s : Nat → Int32) (m_a0_w : Nat → Int32) : Option (Int32 × Int32 × (Nat → Int32)) :=
  Option.bind (fX12_isVillage l1 m_a0_many) fun o7 =>
  if o7 = 0 then (fX12_odds_43 (0 : Int32) m_a0_w)
  else (Option.bind (fX12_in l2 (0 : Int32) (10 : Int32)) fun o17 =>
  if o17 = 0 then (fX12_odds_43 (0 : Int32) m_a0_w)
  else (Option.bind (fX12_in l3 (0 : Int32) (6 : Int32)) fun o27 =>
  if o27 = 0 then (fX12_odds_43 (0 : Int32) m_a0_w)
  else (Option.bind (fX12_in l4 (0 : Int32) (1 : Int32)) fun o37 =>
  if o37 = 0 then (fX12_odds_43 (0 : Int32) m_a0_w)
  else (fX12_odds_L51 N l1 l2 l3 m_a0_lengths m_a0_many m_a0_s
      (fun l5k51_175 m_a0_wk51_175 => Option.bind (fX12_power N (10 : Int32) l3) fun o178 =>
  Option.bind (fX12_gcd N l5k51_175 o178) fun o187 =>
  if l4 = 0 then (dvi o187 <| 
  fX12_odds_210 (l5k51_175 / o187) (0 : Int32) m_a0_wk51_175)
  else (dvi o187 <| 
  fX12_odds_210 (o178 / o187) (0 : Int32) m_a0_wk51_175)) N (0 : Int32) (0 : Int32) m_a0_w))))
section
variable {X : XT} {N : Nat} {q_a0 : Nat} {q_a0_lengths : Nat} {q_a0_many : Nat} {q_a0_s : Nat} {q_a0_w : Nat} {v_a0_thrown : Int32} {u_a0_trace : Value} {u_a0_text : Value} {u_a0_typed : Value} {u_a0_next : Value} {u_a0_token : Value} {u_a0_place : Value} {u_a0_value : Value} {u_a0_fault : Value} {u_a0_slow : Value} {u_a0_deaf : Value} {u_a0_told : Value} {u_a0_kept : Value} {u_a0_isKept : Value} {u_a0_undos : Value} {u_a0_undoMany : Value} {u_a0_heardBy : Value} {u_a0_heardAt : Value} {u_a0_heardMany : Value} {u_a0_tellsAt : Value} {u_a0_tellMany : Value} {u_a0_metAt : Value} {u_a0_metBeat : Value} {u_a0_round : Value} {u_a0_z : Value} {m_a0_lengths : Nat → Int32} {m_a0_many : Nat → Int32} {m_a0_s : Nat → Int32} {m_a0_w : Nat → Int32} {l1 : Int32} {l2 : Int32} {l3 : Int32} {l4 : Int32} {l5 : Int32} {l6 : Int32} {l7 : Int32} {l8 : Int32} {l9 : Int32} {s0 : Int32} {s1 : Int32}
set_option maxRecDepth 20000 in
theorem tX12_odds_43 {out : Int32 × Int32 × (Nat → Int32)} (hX : xk X = kX12_odds) (hQ : xQ X = qE (some (.int out.1)) (wX12_odds (xG X) q_a0 q_a0_lengths q_a0_many q_a0_s q_a0_w out.2.1 u_a0_trace u_a0_text u_a0_typed u_a0_next u_a0_token u_a0_place u_a0_value u_a0_fault u_a0_slow u_a0_deaf u_a0_told u_a0_kept u_a0_isKept u_a0_undos u_a0_undoMany u_a0_heardBy u_a0_heardAt u_a0_heardMany u_a0_tellsAt u_a0_tellMany u_a0_metAt u_a0_metBeat u_a0_round u_a0_z m_a0_lengths m_a0_many m_a0_s out.2.2)) (hf : fX12_odds_43 v_a0_thrown m_a0_w = some out) : V X cX12_odds "FarDrumModel" 0 0 (wX12_odds (xG X) q_a0 q_a0_lengths q_a0_many q_a0_s q_a0_w v_a0_thrown u_a0_trace u_a0_text u_a0_typed u_a0_next u_a0_token u_a0_place u_a0_value u_a0_fault u_a0_slow u_a0_deaf u_a0_told u_a0_kept u_a0_isKept u_a0_undos u_a0_undoMany u_a0_heardBy u_a0_heardAt u_a0_heardMany u_a0_tellsAt u_a0_tellMany u_a0_metAt u_a0_metBeat u_a0_round u_a0_z m_a0_lengths m_a0_many m_a0_s m_a0_w) [none, none, none, none, none, none, none, none, none, none] 43 [] := by
  unfold fX12_odds_43 at hf
  refine V.iconst (pc := 43) (v := -1) dX12_odds_43 (by decide) ?_
  exact V.iretE (pc := 44) hX kX12_odds_r hQ dX12_odds_44 (by cases hf; rfl) (by cases hf; rfl)
set_option maxRecDepth 20000 in
theorem tX12_odds_135 {out : Int32 × Int32 × (Nat → Int32)} (hX : xk X = kX12_odds) (hQ : xQ X = qE (some (.int out.1)) (wX12_odds (xG X) q_a0 q_a0_lengths q_a0_many q_a0_s q_a0_w out.2.1 u_a0_trace u_a0_text u_a0_typed u_a0_next u_a0_token u_a0_place u_a0_value u_a0_fault u_a0_slow u_a0_deaf u_a0_told u_a0_kept u_a0_isKept u_a0_undos u_a0_undoMany u_a0_heardBy u_a0_heardAt u_a0_heardMany u_a0_tellsAt u_a0_tellMany u_a0_metAt u_a0_metBeat u_a0_round u_a0_z m_a0_lengths m_a0_many m_a0_s out.2.2)) {B72 : Int32 → Int32 → Int32 → (Nat → Int32) → Option (Int32 × Int32 × (Nat → Int32))} (hB72 : ∀ (l7 : Int32) (l8 : Int32) (l9 : Int32) (m_a0_w : Nat → Int32), B72 l7 l8 l9 m_a0_w = some out → V X cX12_odds "FarDrumModel" 0 0 (wX12_odds (xG X) q_a0 q_a0_lengths q_a0_many q_a0_s q_a0_w v_a0_thrown u_a0_trace u_a0_text u_a0_typed u_a0_next u_a0_token u_a0_place u_a0_value u_a0_fault u_a0_slow u_a0_deaf u_a0_told u_a0_kept u_a0_isKept u_a0_undos u_a0_undoMany u_a0_heardBy u_a0_heardAt u_a0_heardMany u_a0_tellsAt u_a0_tellMany u_a0_metAt u_a0_metBeat u_a0_round u_a0_z m_a0_lengths m_a0_many m_a0_s m_a0_w) [some (.ref q_a0), some (.int l1), some (.int l2), some (.int l3), some (.int l4), some (.int l5), some (.int l6), some (.int l7), some (.int l8), some (.int l9)] 72 []) (hf : fX12_odds_135 B72 l7 l9 s0 m_a0_w = some out) : V X cX12_odds "FarDrumModel" 0 0 (wX12_odds (xG X) q_a0 q_a0_lengths q_a0_many q_a0_s q_a0_w v_a0_thrown u_a0_trace u_a0_text u_a0_typed u_a0_next u_a0_token u_a0_place u_a0_value u_a0_fault u_a0_slow u_a0_deaf u_a0_told u_a0_kept u_a0_isKept u_a0_undos u_a0_undoMany u_a0_heardBy u_a0_heardAt u_a0_heardMany u_a0_tellsAt u_a0_tellMany u_a0_metAt u_a0_metBeat u_a0_round u_a0_z m_a0_lengths m_a0_many m_a0_s m_a0_w) [some (.ref q_a0), some (.int l1), some (.int l2), some (.int l3), some (.int l4), some (.int l5), some (.int l6), some (.int l7), none, some (.int l9)] 135 [.int s0] := by
  unfold fX12_odds_135 at hf
  refine V.istore (pc := 135) dX12_odds_135 rfl rfl rfl ?_
  refine V.iinc (pc := 137) (v := 1) dX12_odds_137 rfl rfl (by decide) rfl ?_
  refine V.goto (pc := 140) (tgt := 72) dX12_odds_140 (by decide) ?_
  exact hB72 _ _ _ _ hf
set_option maxRecDepth 20000 in
theorem tX12_odds_134 {out : Int32 × Int32 × (Nat → Int32)} (hX : xk X = kX12_odds) (hQ : xQ X = qE (some (.int out.1)) (wX12_odds (xG X) q_a0 q_a0_lengths q_a0_many q_a0_s q_a0_w out.2.1 u_a0_trace u_a0_text u_a0_typed u_a0_next u_a0_token u_a0_place u_a0_value u_a0_fault u_a0_slow u_a0_deaf u_a0_told u_a0_kept u_a0_isKept u_a0_undos u_a0_undoMany u_a0_heardBy u_a0_heardAt u_a0_heardMany u_a0_tellsAt u_a0_tellMany u_a0_metAt u_a0_metBeat u_a0_round u_a0_z m_a0_lengths m_a0_many m_a0_s out.2.2)) {B72 : Int32 → Int32 → Int32 → (Nat → Int32) → Option (Int32 × Int32 × (Nat → Int32))} (hB72 : ∀ (l7 : Int32) (l8 : Int32) (l9 : Int32) (m_a0_w : Nat → Int32), B72 l7 l8 l9 m_a0_w = some out → V X cX12_odds "FarDrumModel" 0 0 (wX12_odds (xG X) q_a0 q_a0_lengths q_a0_many q_a0_s q_a0_w v_a0_thrown u_a0_trace u_a0_text u_a0_typed u_a0_next u_a0_token u_a0_place u_a0_value u_a0_fault u_a0_slow u_a0_deaf u_a0_told u_a0_kept u_a0_isKept u_a0_undos u_a0_undoMany u_a0_heardBy u_a0_heardAt u_a0_heardMany u_a0_tellsAt u_a0_tellMany u_a0_metAt u_a0_metBeat u_a0_round u_a0_z m_a0_lengths m_a0_many m_a0_s m_a0_w) [some (.ref q_a0), some (.int l1), some (.int l2), some (.int l3), some (.int l4), some (.int l5), some (.int l6), some (.int l7), some (.int l8), some (.int l9)] 72 []) (hf : fX12_odds_134 B72 l7 l9 m_a0_w = some out) : V X cX12_odds "FarDrumModel" 0 0 (wX12_odds (xG X) q_a0 q_a0_lengths q_a0_many q_a0_s q_a0_w v_a0_thrown u_a0_trace u_a0_text u_a0_typed u_a0_next u_a0_token u_a0_place u_a0_value u_a0_fault u_a0_slow u_a0_deaf u_a0_told u_a0_kept u_a0_isKept u_a0_undos u_a0_undoMany u_a0_heardBy u_a0_heardAt u_a0_heardMany u_a0_tellsAt u_a0_tellMany u_a0_metAt u_a0_metBeat u_a0_round u_a0_z m_a0_lengths m_a0_many m_a0_s m_a0_w) [some (.ref q_a0), some (.int l1), some (.int l2), some (.int l3), some (.int l4), some (.int l5), some (.int l6), some (.int l7), none, some (.int l9)] 134 [] := by
  unfold fX12_odds_134 at hf
  refine V.iconst (pc := 134) (v := 0) dX12_odds_134 (by decide) ?_
  exact tX12_odds_135 hX hQ hB72 hf
set_option maxRecDepth 20000 in
theorem tX12_odds_111 {out : Int32 × Int32 × (Nat → Int32)} (hX : xk X = kX12_odds) (hQ : xQ X = qE (some (.int out.1)) (wX12_odds (xG X) q_a0 q_a0_lengths q_a0_many q_a0_s q_a0_w out.2.1 u_a0_trace u_a0_text u_a0_typed u_a0_next u_a0_token u_a0_place u_a0_value u_a0_fault u_a0_slow u_a0_deaf u_a0_told u_a0_kept u_a0_isKept u_a0_undos u_a0_undoMany u_a0_heardBy u_a0_heardAt u_a0_heardMany u_a0_tellsAt u_a0_tellMany u_a0_metAt u_a0_metBeat u_a0_round u_a0_z m_a0_lengths m_a0_many m_a0_s out.2.2)) {B72 : Int32 → Int32 → Int32 → (Nat → Int32) → Option (Int32 × Int32 × (Nat → Int32))} (hB72 : ∀ (l7 : Int32) (l8 : Int32) (l9 : Int32) (m_a0_w : Nat → Int32), B72 l7 l8 l9 m_a0_w = some out → V X cX12_odds "FarDrumModel" 0 0 (wX12_odds (xG X) q_a0 q_a0_lengths q_a0_many q_a0_s q_a0_w v_a0_thrown u_a0_trace u_a0_text u_a0_typed u_a0_next u_a0_token u_a0_place u_a0_value u_a0_fault u_a0_slow u_a0_deaf u_a0_told u_a0_kept u_a0_isKept u_a0_undos u_a0_undoMany u_a0_heardBy u_a0_heardAt u_a0_heardMany u_a0_tellsAt u_a0_tellMany u_a0_metAt u_a0_metBeat u_a0_round u_a0_z m_a0_lengths m_a0_many m_a0_s m_a0_w) [some (.ref q_a0), some (.int l1), some (.int l2), some (.int l3), some (.int l4), some (.int l5), some (.int l6), some (.int l7), some (.int l8), some (.int l9)] 72 []) (hf : fX12_odds_111 B72 N l8 l9 s0 s1 m_a0_lengths m_a0_many m_a0_w = some out) : V X cX12_odds "FarDrumModel" 0 0 (wX12_odds (xG X) q_a0 q_a0_lengths q_a0_many q_a0_s q_a0_w v_a0_thrown u_a0_trace u_a0_text u_a0_typed u_a0_next u_a0_token u_a0_place u_a0_value u_a0_fault u_a0_slow u_a0_deaf u_a0_told u_a0_kept u_a0_isKept u_a0_undos u_a0_undoMany u_a0_heardBy u_a0_heardAt u_a0_heardMany u_a0_tellsAt u_a0_tellMany u_a0_metAt u_a0_metBeat u_a0_round u_a0_z m_a0_lengths m_a0_many m_a0_s m_a0_w) [some (.ref q_a0), some (.int l1), some (.int l2), some (.int l3), some (.int l4), some (.int l5), some (.int l6), none, some (.int l8), some (.int l9)] 111 [.int s1, .int s0] := by
  unfold fX12_odds_111 at hf
  refine V.imul (pc := 111) dX12_odds_111 ?_
  refine V.topi hf (fun y112 hf => ?_)
  refine V.istore (pc := 112) dX12_odds_112 rfl rfl rfl ?_
  refine V.iload (pc := 114) dX12_odds_114 rfl ?_
  refine V.if_eq (pc := 116) (tgt := 134) dX12_odds_116 (by decide) hf (fun hf => ?_) (fun hf => ?_)
  · refine V.mask (pc := 134) [true, true, true, true, true, true, true, true, false, true] rfl rfl ?_
    exact tX12_odds_134 hX hQ hB72 hf
  · refine V.aloadn (pc := 119) dX12_odds_119 rfl ?_
    refine V.aloadn (pc := 120) dX12_odds_120 rfl ?_
    refine V.getf (q := 0) (pc := 121) dX12_odds_121 fk_X12_28_12 rfl rfl ?_
    refine V.callVi (pc := 124) (q := 0) (wr := [(q_a0_s, .inl ((xG X).2 0, 35, .inl m_a0_s))]) (wd' := fun o124 => wX12_odds (xG X) q_a0 q_a0_lengths q_a0_many q_a0_s q_a0_w v_a0_thrown u_a0_trace u_a0_text u_a0_typed u_a0_next u_a0_token u_a0_place u_a0_value u_a0_fault u_a0_slow u_a0_deaf u_a0_told u_a0_kept u_a0_isKept u_a0_undos u_a0_undoMany u_a0_heardBy u_a0_heardAt u_a0_heardMany u_a0_tellsAt u_a0_tellMany u_a0_metAt u_a0_metBeat u_a0_round u_a0_z m_a0_lengths m_a0_many m_a0_s o124.2) [.ref q_a0_w] (st := []) hf (fun _ h => oX12_goes (q_a0 := q_a0) (q_a0_lengths := q_a0_lengths) (q_a0_many := q_a0_many) (q_a1 := q_a0_w) (u_a0_thrown := ((.int v_a0_thrown))) (u_a0_trace := u_a0_trace) (u_a0_text := u_a0_text) (u_a0_typed := u_a0_typed) (u_a0_next := u_a0_next) (u_a0_token := u_a0_token) (u_a0_place := u_a0_place) (u_a0_value := u_a0_value) (u_a0_fault := u_a0_fault) (u_a0_slow := u_a0_slow) (u_a0_deaf := u_a0_deaf) (u_a0_told := u_a0_told) (u_a0_s := ((.ref q_a0_s))) (u_a0_w := ((.ref q_a0_w))) (u_a0_kept := u_a0_kept) (u_a0_isKept := u_a0_isKept) (u_a0_undos := u_a0_undos) (u_a0_undoMany := u_a0_undoMany) (u_a0_heardBy := u_a0_heardBy) (u_a0_heardAt := u_a0_heardAt) (u_a0_heardMany := u_a0_heardMany) (u_a0_tellsAt := u_a0_tellsAt) (u_a0_tellMany := u_a0_tellMany) (u_a0_metAt := u_a0_metAt) (u_a0_metBeat := u_a0_metBeat) (u_a0_round := u_a0_round) (u_a0_z := u_a0_z) (m_a0_lengths := m_a0_lengths) (m_a0_many := m_a0_many) (m_a1 := m_a0_w) h) lkV_X12_151 dX12_odds_124 hX rfl ⟨rfl, rfl⟩ ⟨rfl, rfl⟩ rfl rfl rfl rfl rfl [0, 1, 2, 4] [3] [1, 2, 3, 0, 4] rfl rfl rfl rfl rfl (fun _ => rfl) rfl (fun o124 hf => ?_)
    refine V.if_eq (pc := 127) (tgt := 134) dX12_odds_127 (by decide) hf (fun hf => ?_) (fun hf => ?_)
    · refine V.mask (pc := 134) [true, true, true, true, true, true, true, true, false, true] rfl rfl ?_
      exact tX12_odds_134 hX hQ hB72 hf
    · refine V.iconst (pc := 130) (v := 1) dX12_odds_130 (by decide) ?_
      refine V.goto (pc := 131) (tgt := 135) dX12_odds_131 (by decide) ?_
      refine V.mask (pc := 135) [true, true, true, true, true, true, true, true, false, true] rfl rfl ?_
      exact tX12_odds_135 hX hQ hB72 hf
set_option maxRecDepth 20000 in
theorem tX12_odds_72 {out : Int32 × Int32 × (Nat → Int32)} (hX : xk X = kX12_odds) (hQ : xQ X = qE (some (.int out.1)) (wX12_odds (xG X) q_a0 q_a0_lengths q_a0_many q_a0_s q_a0_w out.2.1 u_a0_trace u_a0_text u_a0_typed u_a0_next u_a0_token u_a0_place u_a0_value u_a0_fault u_a0_slow u_a0_deaf u_a0_told u_a0_kept u_a0_isKept u_a0_undos u_a0_undoMany u_a0_heardBy u_a0_heardAt u_a0_heardMany u_a0_tellsAt u_a0_tellMany u_a0_metAt u_a0_metBeat u_a0_round u_a0_z m_a0_lengths m_a0_many m_a0_s out.2.2)) {B72 : Int32 → Int32 → Int32 → (Nat → Int32) → Option (Int32 × Int32 × (Nat → Int32))} {K72_143 : Int32 → Int32 → (Nat → Int32) → Option (Int32 × Int32 × (Nat → Int32))} (hB72 : ∀ (l7 : Int32) (l8 : Int32) (l9 : Int32) (m_a0_w : Nat → Int32), B72 l7 l8 l9 m_a0_w = some out → V X cX12_odds "FarDrumModel" 0 0 (wX12_odds (xG X) q_a0 q_a0_lengths q_a0_many q_a0_s q_a0_w v_a0_thrown u_a0_trace u_a0_text u_a0_typed u_a0_next u_a0_token u_a0_place u_a0_value u_a0_fault u_a0_slow u_a0_deaf u_a0_told u_a0_kept u_a0_isKept u_a0_undos u_a0_undoMany u_a0_heardBy u_a0_heardAt u_a0_heardMany u_a0_tellsAt u_a0_tellMany u_a0_metAt u_a0_metBeat u_a0_round u_a0_z m_a0_lengths m_a0_many m_a0_s m_a0_w) [some (.ref q_a0), some (.int l1), some (.int l2), some (.int l3), some (.int l4), some (.int l5), some (.int l6), some (.int l7), some (.int l8), some (.int l9)] 72 []) (hK72_143 : ∀ (l7 : Int32) (l8 : Int32) (m_a0_w : Nat → Int32), K72_143 l7 l8 m_a0_w = some out → V X cX12_odds "FarDrumModel" 0 0 (wX12_odds (xG X) q_a0 q_a0_lengths q_a0_many q_a0_s q_a0_w v_a0_thrown u_a0_trace u_a0_text u_a0_typed u_a0_next u_a0_token u_a0_place u_a0_value u_a0_fault u_a0_slow u_a0_deaf u_a0_told u_a0_kept u_a0_isKept u_a0_undos u_a0_undoMany u_a0_heardBy u_a0_heardAt u_a0_heardMany u_a0_tellsAt u_a0_tellMany u_a0_metAt u_a0_metBeat u_a0_round u_a0_z m_a0_lengths m_a0_many m_a0_s m_a0_w) [some (.ref q_a0), some (.int l1), some (.int l2), some (.int l3), some (.int l4), some (.int l5), some (.int l6), some (.int l7), some (.int l8), none] 143 []) (hf : fX12_odds_72 B72 K72_143 N l2 l3 l6 l7 l8 l9 m_a0_lengths m_a0_many m_a0_w = some out) : V X cX12_odds "FarDrumModel" 0 0 (wX12_odds (xG X) q_a0 q_a0_lengths q_a0_many q_a0_s q_a0_w v_a0_thrown u_a0_trace u_a0_text u_a0_typed u_a0_next u_a0_token u_a0_place u_a0_value u_a0_fault u_a0_slow u_a0_deaf u_a0_told u_a0_kept u_a0_isKept u_a0_undos u_a0_undoMany u_a0_heardBy u_a0_heardAt u_a0_heardMany u_a0_tellsAt u_a0_tellMany u_a0_metAt u_a0_metBeat u_a0_round u_a0_z m_a0_lengths m_a0_many m_a0_s m_a0_w) [some (.ref q_a0), some (.int l1), some (.int l2), some (.int l3), some (.int l4), some (.int l5), some (.int l6), some (.int l7), some (.int l8), some (.int l9)] 72 [] := by
  unfold fX12_odds_72 at hf
  refine V.iload (pc := 72) dX12_odds_72 rfl ?_
  refine V.iloadn (pc := 74) dX12_odds_74 rfl ?_
  refine V.icmp_ge (pc := 75) (tgt := 143) dX12_odds_75 (by decide) hf (fun hf => ?_) (fun hf => ?_)
  · refine V.mask (pc := 143) [true, true, true, true, true, true, true, true, true, false] rfl rfl ?_
    exact hK72_143 _ _ _ hf
  · refine V.aloadn (pc := 78) dX12_odds_78 rfl ?_
    refine V.getf (q := 0) (pc := 79) dX12_odds_79 fk_X12_28_12 rfl rfl ?_
    refine V.iconst (pc := 82) (v := 3) dX12_odds_82 (by decide) ?_
    refine V.iload (pc := 83) dX12_odds_83 rfl ?_
    refine V.iload (pc := 85) dX12_odds_85 rfl ?_
    refine V.ishr (pc := 87) dX12_odds_87 ?_
    refine V.iconst (pc := 88) (v := 1) dX12_odds_88 (by decide) ?_
    refine V.iand (pc := 89) dX12_odds_89 ?_
    refine V.iastC (pc := 90) (q := 4) (wd' := fun g90 => wX12_odds (xG X) q_a0 q_a0_lengths q_a0_many q_a0_s q_a0_w v_a0_thrown u_a0_trace u_a0_text u_a0_typed u_a0_next u_a0_token u_a0_place u_a0_value u_a0_fault u_a0_slow u_a0_deaf u_a0_told u_a0_kept u_a0_isKept u_a0_undos u_a0_undoMany u_a0_heardBy u_a0_heardAt u_a0_heardMany u_a0_tellsAt u_a0_tellMany u_a0_metAt u_a0_metBeat u_a0_round u_a0_z m_a0_lengths m_a0_many m_a0_s g90) 3 dX12_odds_90 rfl ⟨vp_c (by decide), by decide⟩ hf (fun _ => rfl) (fun g90 hf => ?_)
    refine V.iload (pc := 91) dX12_odds_91 rfl ?_
    refine V.aloadn (pc := 93) dX12_odds_93 rfl ?_
    refine V.getf (q := 0) (pc := 94) dX12_odds_94 fk_X12_28_12 rfl rfl ?_
    refine V.iconst (pc := 97) (v := 3) dX12_odds_97 (by decide) ?_
    refine V.ialdC (pc := 98) (q := 4) 3 dX12_odds_98 rfl ⟨vp_c (by decide), by decide⟩ ?_
    refine V.iconst (pc := 99) (v := 1) dX12_odds_99 (by decide) ?_
    refine V.icmp_ne (pc := 100) (tgt := 107) dX12_odds_100 (by decide) hf (fun hf => ?_) (fun hf => ?_)
    · refine V.bipush (pc := 107) (v := 10) dX12_odds_107 (by decide) ?_
      refine V.iloadn (pc := 109) dX12_odds_109 rfl ?_
      refine V.isub (pc := 110) dX12_odds_110 ?_
      refine V.mask (pc := 111) [true, true, true, true, true, true, true, false, true, true] rfl rfl ?_
      exact tX12_odds_111 hX hQ hB72 hf
    · refine V.iloadn (pc := 103) dX12_odds_103 rfl ?_
      refine V.goto (pc := 104) (tgt := 111) dX12_odds_104 (by decide) ?_
      refine V.mask (pc := 111) [true, true, true, true, true, true, true, false, true, true] rfl rfl ?_
      exact tX12_odds_111 hX hQ hB72 hf
theorem tX12_odds_L72 {out : Int32 × Int32 × (Nat → Int32)} (hX : xk X = kX12_odds) (hQ : xQ X = qE (some (.int out.1)) (wX12_odds (xG X) q_a0 q_a0_lengths q_a0_many q_a0_s q_a0_w out.2.1 u_a0_trace u_a0_text u_a0_typed u_a0_next u_a0_token u_a0_place u_a0_value u_a0_fault u_a0_slow u_a0_deaf u_a0_told u_a0_kept u_a0_isKept u_a0_undos u_a0_undoMany u_a0_heardBy u_a0_heardAt u_a0_heardMany u_a0_tellsAt u_a0_tellMany u_a0_metAt u_a0_metBeat u_a0_round u_a0_z m_a0_lengths m_a0_many m_a0_s out.2.2)) {K72_143 : Int32 → Int32 → (Nat → Int32) → Option (Int32 × Int32 × (Nat → Int32))} (hK72_143 : ∀ (l7 : Int32) (l8 : Int32) (m_a0_w : Nat → Int32), K72_143 l7 l8 m_a0_w = some out → V X cX12_odds "FarDrumModel" 0 0 (wX12_odds (xG X) q_a0 q_a0_lengths q_a0_many q_a0_s q_a0_w v_a0_thrown u_a0_trace u_a0_text u_a0_typed u_a0_next u_a0_token u_a0_place u_a0_value u_a0_fault u_a0_slow u_a0_deaf u_a0_told u_a0_kept u_a0_isKept u_a0_undos u_a0_undoMany u_a0_heardBy u_a0_heardAt u_a0_heardMany u_a0_tellsAt u_a0_tellMany u_a0_metAt u_a0_metBeat u_a0_round u_a0_z m_a0_lengths m_a0_many m_a0_s m_a0_w) [some (.ref q_a0), some (.int l1), some (.int l2), some (.int l3), some (.int l4), some (.int l5), some (.int l6), some (.int l7), some (.int l8), none] 143 []) : ∀ (n : Nat) (l7 : Int32) (l8 : Int32) (l9 : Int32) (m_a0_w : Nat → Int32), fX12_odds_L72 N l2 l3 l6 m_a0_lengths m_a0_many K72_143 n l7 l8 l9 m_a0_w = some out → V X cX12_odds "FarDrumModel" 0 0 (wX12_odds (xG X) q_a0 q_a0_lengths q_a0_many q_a0_s q_a0_w v_a0_thrown u_a0_trace u_a0_text u_a0_typed u_a0_next u_a0_token u_a0_place u_a0_value u_a0_fault u_a0_slow u_a0_deaf u_a0_told u_a0_kept u_a0_isKept u_a0_undos u_a0_undoMany u_a0_heardBy u_a0_heardAt u_a0_heardMany u_a0_tellsAt u_a0_tellMany u_a0_metAt u_a0_metBeat u_a0_round u_a0_z m_a0_lengths m_a0_many m_a0_s m_a0_w) [some (.ref q_a0), some (.int l1), some (.int l2), some (.int l3), some (.int l4), some (.int l5), some (.int l6), some (.int l7), some (.int l8), some (.int l9)] 72 [] := by
  intro n
  induction n with
  | zero => intro l7 l8 l9 m_a0_w hf; cases hf
  | succ n ih => intro l7 l8 l9 m_a0_w hf; exact tX12_odds_72 hX hQ ih hK72_143 hf
set_option maxRecDepth 20000 in
theorem tX12_odds_166 {out : Int32 × Int32 × (Nat → Int32)} (hX : xk X = kX12_odds) (hQ : xQ X = qE (some (.int out.1)) (wX12_odds (xG X) q_a0 q_a0_lengths q_a0_many q_a0_s q_a0_w out.2.1 u_a0_trace u_a0_text u_a0_typed u_a0_next u_a0_token u_a0_place u_a0_value u_a0_fault u_a0_slow u_a0_deaf u_a0_told u_a0_kept u_a0_isKept u_a0_undos u_a0_undoMany u_a0_heardBy u_a0_heardAt u_a0_heardMany u_a0_tellsAt u_a0_tellMany u_a0_metAt u_a0_metBeat u_a0_round u_a0_z m_a0_lengths m_a0_many m_a0_s out.2.2)) {B51 : Int32 → Int32 → (Nat → Int32) → Option (Int32 × Int32 × (Nat → Int32))} (hB51 : ∀ (l5 : Int32) (l6 : Int32) (m_a0_w : Nat → Int32), B51 l5 l6 m_a0_w = some out → V X cX12_odds "FarDrumModel" 0 0 (wX12_odds (xG X) q_a0 q_a0_lengths q_a0_many q_a0_s q_a0_w v_a0_thrown u_a0_trace u_a0_text u_a0_typed u_a0_next u_a0_token u_a0_place u_a0_value u_a0_fault u_a0_slow u_a0_deaf u_a0_told u_a0_kept u_a0_isKept u_a0_undos u_a0_undoMany u_a0_heardBy u_a0_heardAt u_a0_heardMany u_a0_tellsAt u_a0_tellMany u_a0_metAt u_a0_metBeat u_a0_round u_a0_z m_a0_lengths m_a0_many m_a0_s m_a0_w) [some (.ref q_a0), some (.int l1), some (.int l2), some (.int l3), some (.int l4), some (.int l5), some (.int l6), none, none, none] 51 []) (hf : fX12_odds_166 B51 l6 s0 s1 m_a0_w = some out) : V X cX12_odds "FarDrumModel" 0 0 (wX12_odds (xG X) q_a0 q_a0_lengths q_a0_many q_a0_s q_a0_w v_a0_thrown u_a0_trace u_a0_text u_a0_typed u_a0_next u_a0_token u_a0_place u_a0_value u_a0_fault u_a0_slow u_a0_deaf u_a0_told u_a0_kept u_a0_isKept u_a0_undos u_a0_undoMany u_a0_heardBy u_a0_heardAt u_a0_heardMany u_a0_tellsAt u_a0_tellMany u_a0_metAt u_a0_metBeat u_a0_round u_a0_z m_a0_lengths m_a0_many m_a0_s m_a0_w) [some (.ref q_a0), some (.int l1), some (.int l2), some (.int l3), some (.int l4), none, some (.int l6), none, none, none] 166 [.int s1, .int s0] := by
  unfold fX12_odds_166 at hf
  refine V.iadd (pc := 166) dX12_odds_166 ?_
  refine V.topi hf (fun y167 hf => ?_)
  refine V.istore (pc := 167) dX12_odds_167 rfl rfl rfl ?_
  refine V.iinc (pc := 169) (v := 1) dX12_odds_169 rfl rfl (by decide) rfl ?_
  refine V.goto (pc := 172) (tgt := 51) dX12_odds_172 (by decide) ?_
  exact hB51 _ _ _ hf
set_option maxRecDepth 20000 in
theorem tX12_odds_165 {out : Int32 × Int32 × (Nat → Int32)} (hX : xk X = kX12_odds) (hQ : xQ X = qE (some (.int out.1)) (wX12_odds (xG X) q_a0 q_a0_lengths q_a0_many q_a0_s q_a0_w out.2.1 u_a0_trace u_a0_text u_a0_typed u_a0_next u_a0_token u_a0_place u_a0_value u_a0_fault u_a0_slow u_a0_deaf u_a0_told u_a0_kept u_a0_isKept u_a0_undos u_a0_undoMany u_a0_heardBy u_a0_heardAt u_a0_heardMany u_a0_tellsAt u_a0_tellMany u_a0_metAt u_a0_metBeat u_a0_round u_a0_z m_a0_lengths m_a0_many m_a0_s out.2.2)) {B51 : Int32 → Int32 → (Nat → Int32) → Option (Int32 × Int32 × (Nat → Int32))} (hB51 : ∀ (l5 : Int32) (l6 : Int32) (m_a0_w : Nat → Int32), B51 l5 l6 m_a0_w = some out → V X cX12_odds "FarDrumModel" 0 0 (wX12_odds (xG X) q_a0 q_a0_lengths q_a0_many q_a0_s q_a0_w v_a0_thrown u_a0_trace u_a0_text u_a0_typed u_a0_next u_a0_token u_a0_place u_a0_value u_a0_fault u_a0_slow u_a0_deaf u_a0_told u_a0_kept u_a0_isKept u_a0_undos u_a0_undoMany u_a0_heardBy u_a0_heardAt u_a0_heardMany u_a0_tellsAt u_a0_tellMany u_a0_metAt u_a0_metBeat u_a0_round u_a0_z m_a0_lengths m_a0_many m_a0_s m_a0_w) [some (.ref q_a0), some (.int l1), some (.int l2), some (.int l3), some (.int l4), some (.int l5), some (.int l6), none, none, none] 51 []) (hf : fX12_odds_165 B51 l6 s0 m_a0_w = some out) : V X cX12_odds "FarDrumModel" 0 0 (wX12_odds (xG X) q_a0 q_a0_lengths q_a0_many q_a0_s q_a0_w v_a0_thrown u_a0_trace u_a0_text u_a0_typed u_a0_next u_a0_token u_a0_place u_a0_value u_a0_fault u_a0_slow u_a0_deaf u_a0_told u_a0_kept u_a0_isKept u_a0_undos u_a0_undoMany u_a0_heardBy u_a0_heardAt u_a0_heardMany u_a0_tellsAt u_a0_tellMany u_a0_metAt u_a0_metBeat u_a0_round u_a0_z m_a0_lengths m_a0_many m_a0_s m_a0_w) [some (.ref q_a0), some (.int l1), some (.int l2), some (.int l3), some (.int l4), none, some (.int l6), none, none, none] 165 [.int s0] := by
  unfold fX12_odds_165 at hf
  refine V.iconst (pc := 165) (v := 0) dX12_odds_165 (by decide) ?_
  exact tX12_odds_166 hX hQ hB51 hf
set_option maxRecDepth 20000 in
theorem tX12_odds_51 {out : Int32 × Int32 × (Nat → Int32)} (hX : xk X = kX12_odds) (hQ : xQ X = qE (some (.int out.1)) (wX12_odds (xG X) q_a0 q_a0_lengths q_a0_many q_a0_s q_a0_w out.2.1 u_a0_trace u_a0_text u_a0_typed u_a0_next u_a0_token u_a0_place u_a0_value u_a0_fault u_a0_slow u_a0_deaf u_a0_told u_a0_kept u_a0_isKept u_a0_undos u_a0_undoMany u_a0_heardBy u_a0_heardAt u_a0_heardMany u_a0_tellsAt u_a0_tellMany u_a0_metAt u_a0_metBeat u_a0_round u_a0_z m_a0_lengths m_a0_many m_a0_s out.2.2)) {B51 : Int32 → Int32 → (Nat → Int32) → Option (Int32 × Int32 × (Nat → Int32))} {K51_175 : Int32 → (Nat → Int32) → Option (Int32 × Int32 × (Nat → Int32))} (hB51 : ∀ (l5 : Int32) (l6 : Int32) (m_a0_w : Nat → Int32), B51 l5 l6 m_a0_w = some out → V X cX12_odds "FarDrumModel" 0 0 (wX12_odds (xG X) q_a0 q_a0_lengths q_a0_many q_a0_s q_a0_w v_a0_thrown u_a0_trace u_a0_text u_a0_typed u_a0_next u_a0_token u_a0_place u_a0_value u_a0_fault u_a0_slow u_a0_deaf u_a0_told u_a0_kept u_a0_isKept u_a0_undos u_a0_undoMany u_a0_heardBy u_a0_heardAt u_a0_heardMany u_a0_tellsAt u_a0_tellMany u_a0_metAt u_a0_metBeat u_a0_round u_a0_z m_a0_lengths m_a0_many m_a0_s m_a0_w) [some (.ref q_a0), some (.int l1), some (.int l2), some (.int l3), some (.int l4), some (.int l5), some (.int l6), none, none, none] 51 []) (hK51_175 : ∀ (l5 : Int32) (m_a0_w : Nat → Int32), K51_175 l5 m_a0_w = some out → V X cX12_odds "FarDrumModel" 0 0 (wX12_odds (xG X) q_a0 q_a0_lengths q_a0_many q_a0_s q_a0_w v_a0_thrown u_a0_trace u_a0_text u_a0_typed u_a0_next u_a0_token u_a0_place u_a0_value u_a0_fault u_a0_slow u_a0_deaf u_a0_told u_a0_kept u_a0_isKept u_a0_undos u_a0_undoMany u_a0_heardBy u_a0_heardAt u_a0_heardMany u_a0_tellsAt u_a0_tellMany u_a0_metAt u_a0_metBeat u_a0_round u_a0_z m_a0_lengths m_a0_many m_a0_s m_a0_w) [none, none, none, some (.int l3), some (.int l4), some (.int l5), none, none, none, none] 175 []) (hf : fX12_odds_51 B51 K51_175 N l1 l2 l3 l5 l6 m_a0_lengths m_a0_many m_a0_s m_a0_w = some out) : V X cX12_odds "FarDrumModel" 0 0 (wX12_odds (xG X) q_a0 q_a0_lengths q_a0_many q_a0_s q_a0_w v_a0_thrown u_a0_trace u_a0_text u_a0_typed u_a0_next u_a0_token u_a0_place u_a0_value u_a0_fault u_a0_slow u_a0_deaf u_a0_told u_a0_kept u_a0_isKept u_a0_undos u_a0_undoMany u_a0_heardBy u_a0_heardAt u_a0_heardMany u_a0_tellsAt u_a0_tellMany u_a0_metAt u_a0_metBeat u_a0_round u_a0_z m_a0_lengths m_a0_many m_a0_s m_a0_w) [some (.ref q_a0), some (.int l1), some (.int l2), some (.int l3), some (.int l4), some (.int l5), some (.int l6), none, none, none] 51 [] := by
  unfold fX12_odds_51 at hf
  refine V.iload (pc := 51) dX12_odds_51 rfl ?_
  refine V.iconst (pc := 53) (v := 1) dX12_odds_53 (by decide) ?_
  refine V.iloadn (pc := 54) dX12_odds_54 rfl ?_
  refine V.ishl (pc := 55) dX12_odds_55 ?_
  refine V.icmp_ge (pc := 56) (tgt := 175) dX12_odds_56 (by decide) hf (fun hf => ?_) (fun hf => ?_)
  · refine V.mask (pc := 175) [false, false, false, true, true, true, false, false, false, false] rfl rfl ?_
    exact hK51_175 _ _ hf
  · refine V.aloadn (pc := 59) dX12_odds_59 rfl ?_
    refine V.callVv (pc := 60) (q := 0) (wr := [(q_a0_lengths, .inl ((xG X).2 0, 72, .inl m_a0_lengths)), (q_a0_many, .inl ((xG X).2 0, 6, .inl m_a0_many))]) (wd' := fun o60 => wX12_odds (xG X) q_a0 q_a0_lengths q_a0_many q_a0_s q_a0_w v_a0_thrown u_a0_trace u_a0_text u_a0_typed u_a0_next u_a0_token u_a0_place u_a0_value u_a0_fault u_a0_slow u_a0_deaf u_a0_told u_a0_kept u_a0_isKept u_a0_undos u_a0_undoMany u_a0_heardBy u_a0_heardAt u_a0_heardMany u_a0_tellsAt u_a0_tellMany u_a0_metAt u_a0_metBeat u_a0_round u_a0_z m_a0_lengths m_a0_many m_a0_s o60) [] (st := []) hf (fun _ h => oX12_asNow (q_a0 := q_a0) (q_a0_s := q_a0_s) (q_a0_w := q_a0_w) (u_a0_thrown := ((.int v_a0_thrown))) (u_a0_trace := u_a0_trace) (u_a0_text := u_a0_text) (u_a0_typed := u_a0_typed) (u_a0_next := u_a0_next) (u_a0_token := u_a0_token) (u_a0_place := u_a0_place) (u_a0_value := u_a0_value) (u_a0_fault := u_a0_fault) (u_a0_many := ((.ref q_a0_many))) (u_a0_slow := u_a0_slow) (u_a0_deaf := u_a0_deaf) (u_a0_lengths := ((.ref q_a0_lengths))) (u_a0_told := u_a0_told) (u_a0_kept := u_a0_kept) (u_a0_isKept := u_a0_isKept) (u_a0_undos := u_a0_undos) (u_a0_undoMany := u_a0_undoMany) (u_a0_heardBy := u_a0_heardBy) (u_a0_heardAt := u_a0_heardAt) (u_a0_heardMany := u_a0_heardMany) (u_a0_tellsAt := u_a0_tellsAt) (u_a0_tellMany := u_a0_tellMany) (u_a0_metAt := u_a0_metAt) (u_a0_metBeat := u_a0_metBeat) (u_a0_round := u_a0_round) (u_a0_z := u_a0_z) (m_a0_s := m_a0_s) (m_a0_w := m_a0_w) h) lkV_X12_148 dX12_odds_60 hX rfl ⟨rfl, rfl⟩ ⟨rfl, rfl⟩ rfl rfl rfl rfl rfl [0, 3, 4] [1, 2] [2, 0, 1, 3, 4] rfl rfl rfl rfl rfl (fun _ => rfl) rfl (fun o60 hf => ?_)
    refine V.iconst (pc := 63) (v := 1) dX12_odds_63 (by decide) ?_
    refine V.istore (pc := 64) dX12_odds_64 rfl rfl rfl ?_
    refine V.iconst (pc := 66) (v := 1) dX12_odds_66 (by decide) ?_
    refine V.istore (pc := 67) dX12_odds_67 rfl rfl rfl ?_
    refine V.iconst (pc := 69) (v := 0) dX12_odds_69 (by decide) ?_
    refine V.istore (pc := 70) dX12_odds_70 rfl rfl rfl ?_
    refine tX12_odds_L72 hX hQ ?_ _ _ _ _ _ hf
    · intro l7k72_143 l8k72_143 m_a0_wk72_143 hf
      refine V.iload (pc := 143) dX12_odds_143 rfl ?_
      refine V.iload (pc := 145) dX12_odds_145 rfl ?_
      refine V.if_eq (pc := 147) (tgt := 165) dX12_odds_147 (by decide) hf (fun hf => ?_) (fun hf => ?_)
      · refine V.mask (pc := 165) [true, true, true, true, true, false, true, false, false, false] rfl rfl ?_
        exact tX12_odds_165 hX hQ hB51 hf
      · refine V.aloadn (pc := 150) dX12_odds_150 rfl ?_
        refine V.getf (q := 0) (pc := 151) dX12_odds_151 fk_X12_28_12 rfl rfl ?_
        refine V.iconst (pc := 154) (v := 2) dX12_odds_154 (by decide) ?_
        refine V.ialdC (pc := 155) (q := 4) 2 dX12_odds_155 rfl ⟨vp_c (by decide), by decide⟩ ?_
        refine V.iloadn (pc := 156) dX12_odds_156 rfl ?_
        refine V.icmp_ne (pc := 157) (tgt := 165) dX12_odds_157 (by decide) hf (fun hf => ?_) (fun hf => ?_)
        · refine V.mask (pc := 165) [true, true, true, true, true, false, true, false, false, false] rfl rfl ?_
          exact tX12_odds_165 hX hQ hB51 hf
        · refine V.iload (pc := 160) dX12_odds_160 rfl ?_
          refine V.goto (pc := 162) (tgt := 166) dX12_odds_162 (by decide) ?_
          refine V.mask (pc := 166) [true, true, true, true, true, false, true, false, false, false] rfl rfl ?_
          exact tX12_odds_166 hX hQ hB51 hf
theorem tX12_odds_L51 {out : Int32 × Int32 × (Nat → Int32)} (hX : xk X = kX12_odds) (hQ : xQ X = qE (some (.int out.1)) (wX12_odds (xG X) q_a0 q_a0_lengths q_a0_many q_a0_s q_a0_w out.2.1 u_a0_trace u_a0_text u_a0_typed u_a0_next u_a0_token u_a0_place u_a0_value u_a0_fault u_a0_slow u_a0_deaf u_a0_told u_a0_kept u_a0_isKept u_a0_undos u_a0_undoMany u_a0_heardBy u_a0_heardAt u_a0_heardMany u_a0_tellsAt u_a0_tellMany u_a0_metAt u_a0_metBeat u_a0_round u_a0_z m_a0_lengths m_a0_many m_a0_s out.2.2)) {K51_175 : Int32 → (Nat → Int32) → Option (Int32 × Int32 × (Nat → Int32))} (hK51_175 : ∀ (l5 : Int32) (m_a0_w : Nat → Int32), K51_175 l5 m_a0_w = some out → V X cX12_odds "FarDrumModel" 0 0 (wX12_odds (xG X) q_a0 q_a0_lengths q_a0_many q_a0_s q_a0_w v_a0_thrown u_a0_trace u_a0_text u_a0_typed u_a0_next u_a0_token u_a0_place u_a0_value u_a0_fault u_a0_slow u_a0_deaf u_a0_told u_a0_kept u_a0_isKept u_a0_undos u_a0_undoMany u_a0_heardBy u_a0_heardAt u_a0_heardMany u_a0_tellsAt u_a0_tellMany u_a0_metAt u_a0_metBeat u_a0_round u_a0_z m_a0_lengths m_a0_many m_a0_s m_a0_w) [none, none, none, some (.int l3), some (.int l4), some (.int l5), none, none, none, none] 175 []) : ∀ (n : Nat) (l5 : Int32) (l6 : Int32) (m_a0_w : Nat → Int32), fX12_odds_L51 N l1 l2 l3 m_a0_lengths m_a0_many m_a0_s K51_175 n l5 l6 m_a0_w = some out → V X cX12_odds "FarDrumModel" 0 0 (wX12_odds (xG X) q_a0 q_a0_lengths q_a0_many q_a0_s q_a0_w v_a0_thrown u_a0_trace u_a0_text u_a0_typed u_a0_next u_a0_token u_a0_place u_a0_value u_a0_fault u_a0_slow u_a0_deaf u_a0_told u_a0_kept u_a0_isKept u_a0_undos u_a0_undoMany u_a0_heardBy u_a0_heardAt u_a0_heardMany u_a0_tellsAt u_a0_tellMany u_a0_metAt u_a0_metBeat u_a0_round u_a0_z m_a0_lengths m_a0_many m_a0_s m_a0_w) [some (.ref q_a0), some (.int l1), some (.int l2), some (.int l3), some (.int l4), some (.int l5), some (.int l6), none, none, none] 51 [] := by
  intro n
  induction n with
  | zero => intro l5 l6 m_a0_w hf; cases hf
  | succ n ih => intro l5 l6 m_a0_w hf; exact tX12_odds_51 hX hQ ih hK51_175 hf
set_option maxRecDepth 20000 in
theorem tX12_odds_210 {out : Int32 × Int32 × (Nat → Int32)} (hX : xk X = kX12_odds) (hQ : xQ X = qE (some (.int out.1)) (wX12_odds (xG X) q_a0 q_a0_lengths q_a0_many q_a0_s q_a0_w out.2.1 u_a0_trace u_a0_text u_a0_typed u_a0_next u_a0_token u_a0_place u_a0_value u_a0_fault u_a0_slow u_a0_deaf u_a0_told u_a0_kept u_a0_isKept u_a0_undos u_a0_undoMany u_a0_heardBy u_a0_heardAt u_a0_heardMany u_a0_tellsAt u_a0_tellMany u_a0_metAt u_a0_metBeat u_a0_round u_a0_z m_a0_lengths m_a0_many m_a0_s out.2.2)) (hf : fX12_odds_210 s0 v_a0_thrown m_a0_w = some out) : V X cX12_odds "FarDrumModel" 0 0 (wX12_odds (xG X) q_a0 q_a0_lengths q_a0_many q_a0_s q_a0_w v_a0_thrown u_a0_trace u_a0_text u_a0_typed u_a0_next u_a0_token u_a0_place u_a0_value u_a0_fault u_a0_slow u_a0_deaf u_a0_told u_a0_kept u_a0_isKept u_a0_undos u_a0_undoMany u_a0_heardBy u_a0_heardAt u_a0_heardMany u_a0_tellsAt u_a0_tellMany u_a0_metAt u_a0_metBeat u_a0_round u_a0_z m_a0_lengths m_a0_many m_a0_s m_a0_w) [none, none, none, none, none, none, none, none, none, none] 210 [.int s0] := by
  unfold fX12_odds_210 at hf
  exact V.iretE (pc := 210) hX kX12_odds_r hQ dX12_odds_210 (by cases hf; rfl) (by cases hf; rfl)
set_option maxRecDepth 20000 in
theorem tX12_odds_0 {out : Int32 × Int32 × (Nat → Int32)} (hX : xk X = kX12_odds) (hQ : xQ X = qE (some (.int out.1)) (wX12_odds (xG X) q_a0 q_a0_lengths q_a0_many q_a0_s q_a0_w out.2.1 u_a0_trace u_a0_text u_a0_typed u_a0_next u_a0_token u_a0_place u_a0_value u_a0_fault u_a0_slow u_a0_deaf u_a0_told u_a0_kept u_a0_isKept u_a0_undos u_a0_undoMany u_a0_heardBy u_a0_heardAt u_a0_heardMany u_a0_tellsAt u_a0_tellMany u_a0_metAt u_a0_metBeat u_a0_round u_a0_z m_a0_lengths m_a0_many m_a0_s out.2.2)) (hf : fX12_odds N l1 l2 l3 l4 m_a0_lengths m_a0_many m_a0_s m_a0_w = some out) : V X cX12_odds "FarDrumModel" 0 0 (wX12_odds (xG X) q_a0 q_a0_lengths q_a0_many q_a0_s q_a0_w v_a0_thrown u_a0_trace u_a0_text u_a0_typed u_a0_next u_a0_token u_a0_place u_a0_value u_a0_fault u_a0_slow u_a0_deaf u_a0_told u_a0_kept u_a0_isKept u_a0_undos u_a0_undoMany u_a0_heardBy u_a0_heardAt u_a0_heardMany u_a0_tellsAt u_a0_tellMany u_a0_metAt u_a0_metBeat u_a0_round u_a0_z m_a0_lengths m_a0_many m_a0_s m_a0_w) [some (.ref q_a0), some (.int l1), some (.int l2), some (.int l3), some (.int l4), none, none, none, none, none] 0 [] := by
  unfold fX12_odds at hf
  refine V.aloadn (pc := 0) dX12_odds_0 rfl ?_
  refine V.iconst (pc := 1) (v := 0) dX12_odds_1 (by decide) ?_
  refine V.putf (q := 0) (wd' := wX12_odds (xG X) q_a0 q_a0_lengths q_a0_many q_a0_s q_a0_w (0 : Int32) u_a0_trace u_a0_text u_a0_typed u_a0_next u_a0_token u_a0_place u_a0_value u_a0_fault u_a0_slow u_a0_deaf u_a0_told u_a0_kept u_a0_isKept u_a0_undos u_a0_undoMany u_a0_heardBy u_a0_heardAt u_a0_heardMany u_a0_tellsAt u_a0_tellMany u_a0_metAt u_a0_metBeat u_a0_round u_a0_z m_a0_lengths m_a0_many m_a0_s m_a0_w) (pc := 2) dX12_odds_2 pk_X12_62_12 rfl rfl rfl rfl rfl ?_
  refine V.aloadn (pc := 5) dX12_odds_5 rfl ?_
  refine V.iloadn (pc := 6) dX12_odds_6 rfl ?_
  refine V.callVi (pc := 7) (q := 0) (wr := [(q_a0_lengths, .inl ((xG X).2 0, 72, .inl m_a0_lengths)), (q_a0_s, .inl ((xG X).2 0, 35, .inl m_a0_s)), (q_a0_w, .inl ((xG X).2 0, 35, .inl m_a0_w))]) (wd' := fun o7 => wX12_odds (xG X) q_a0 q_a0_lengths q_a0_many q_a0_s q_a0_w (0 : Int32) u_a0_trace u_a0_text u_a0_typed u_a0_next u_a0_token u_a0_place u_a0_value u_a0_fault u_a0_slow u_a0_deaf u_a0_told u_a0_kept u_a0_isKept u_a0_undos u_a0_undoMany u_a0_heardBy u_a0_heardAt u_a0_heardMany u_a0_tellsAt u_a0_tellMany u_a0_metAt u_a0_metBeat u_a0_round u_a0_z m_a0_lengths m_a0_many m_a0_s m_a0_w) [.int l1] (st := []) hf (fun _ h => oX12_isVillage (q_a0 := q_a0) (q_a0_many := q_a0_many) (u_a0_thrown := ((.int (0 : Int32)))) (u_a0_trace := u_a0_trace) (u_a0_text := u_a0_text) (u_a0_typed := u_a0_typed) (u_a0_next := u_a0_next) (u_a0_token := u_a0_token) (u_a0_place := u_a0_place) (u_a0_value := u_a0_value) (u_a0_fault := u_a0_fault) (u_a0_slow := u_a0_slow) (u_a0_deaf := u_a0_deaf) (u_a0_lengths := ((.ref q_a0_lengths))) (u_a0_told := u_a0_told) (u_a0_s := ((.ref q_a0_s))) (u_a0_w := ((.ref q_a0_w))) (u_a0_kept := u_a0_kept) (u_a0_isKept := u_a0_isKept) (u_a0_undos := u_a0_undos) (u_a0_undoMany := u_a0_undoMany) (u_a0_heardBy := u_a0_heardBy) (u_a0_heardAt := u_a0_heardAt) (u_a0_heardMany := u_a0_heardMany) (u_a0_tellsAt := u_a0_tellsAt) (u_a0_tellMany := u_a0_tellMany) (u_a0_metAt := u_a0_metAt) (u_a0_metBeat := u_a0_metBeat) (u_a0_round := u_a0_round) (u_a0_z := u_a0_z) (m_a0_many := m_a0_many) (l1 := l1) h) lkV_X12_133 dX12_odds_7 hX rfl ⟨rfl, rfl⟩ ⟨rfl, rfl⟩ rfl rfl rfl rfl rfl [0, 2] [1, 3, 4] [3, 0, 4, 1, 2] rfl rfl rfl rfl rfl (fun _ => rfl) rfl (fun o7 hf => ?_)
  refine V.if_eq (pc := 10) (tgt := 43) dX12_odds_10 (by decide) hf (fun hf => ?_) (fun hf => ?_)
  · refine V.mask (pc := 43) [false, false, false, false, false, false, false, false, false, false] rfl rfl ?_
    exact tX12_odds_43 hX hQ hf
  · refine V.iloadn (pc := 13) dX12_odds_13 rfl ?_
    refine V.iconst (pc := 14) (v := 0) dX12_odds_14 (by decide) ?_
    refine V.bipush (pc := 15) (v := 10) dX12_odds_15 (by decide) ?_
    refine V.callSi (pc := 17) [.int l2, .int (0 : Int32), .int (10 : Int32)] (st := []) hf (fun _ h => oX12_in  (l0 := l2) (l1 := (0 : Int32)) (l2 := (10 : Int32)) h) lkS_X12_66 dX12_odds_17 hX rfl ⟨rfl, rfl⟩ ⟨rfl, rfl⟩ rfl rfl rfl (fun o17 hf => ?_)
    refine V.if_eq (pc := 20) (tgt := 43) dX12_odds_20 (by decide) hf (fun hf => ?_) (fun hf => ?_)
    · refine V.mask (pc := 43) [false, false, false, false, false, false, false, false, false, false] rfl rfl ?_
      exact tX12_odds_43 hX hQ hf
    · refine V.iloadn (pc := 23) dX12_odds_23 rfl ?_
      refine V.iconst (pc := 24) (v := 0) dX12_odds_24 (by decide) ?_
      refine V.bipush (pc := 25) (v := 6) dX12_odds_25 (by decide) ?_
      refine V.callSi (pc := 27) [.int l3, .int (0 : Int32), .int (6 : Int32)] (st := []) hf (fun _ h => oX12_in  (l0 := l3) (l1 := (0 : Int32)) (l2 := (6 : Int32)) h) lkS_X12_66 dX12_odds_27 hX rfl ⟨rfl, rfl⟩ ⟨rfl, rfl⟩ rfl rfl rfl (fun o27 hf => ?_)
      refine V.if_eq (pc := 30) (tgt := 43) dX12_odds_30 (by decide) hf (fun hf => ?_) (fun hf => ?_)
      · refine V.mask (pc := 43) [false, false, false, false, false, false, false, false, false, false] rfl rfl ?_
        exact tX12_odds_43 hX hQ hf
      · refine V.iload (pc := 33) dX12_odds_33 rfl ?_
        refine V.iconst (pc := 35) (v := 0) dX12_odds_35 (by decide) ?_
        refine V.iconst (pc := 36) (v := 1) dX12_odds_36 (by decide) ?_
        refine V.callSi (pc := 37) [.int l4, .int (0 : Int32), .int (1 : Int32)] (st := []) hf (fun _ h => oX12_in  (l0 := l4) (l1 := (0 : Int32)) (l2 := (1 : Int32)) h) lkS_X12_66 dX12_odds_37 hX rfl ⟨rfl, rfl⟩ ⟨rfl, rfl⟩ rfl rfl rfl (fun o37 hf => ?_)
        refine V.if_ne (pc := 40) (tgt := 45) dX12_odds_40 (by decide) hf (fun hf => ?_) (fun hf => ?_)
        · refine V.iconst (pc := 45) (v := 0) dX12_odds_45 (by decide) ?_
          refine V.istore (pc := 46) dX12_odds_46 rfl rfl rfl ?_
          refine V.iconst (pc := 48) (v := 0) dX12_odds_48 (by decide) ?_
          refine V.istore (pc := 49) dX12_odds_49 rfl rfl rfl ?_
          refine tX12_odds_L51 hX hQ ?_ _ _ _ _ hf
          · intro l5k51_175 m_a0_wk51_175 hf
            refine V.bipush (pc := 175) (v := 10) dX12_odds_175 (by decide) ?_
            refine V.iloadn (pc := 177) dX12_odds_177 rfl ?_
            refine V.callSi (pc := 178) [.int (10 : Int32), .int l3] (st := []) hf (fun _ h => oX12_power  (l0 := (10 : Int32)) (l1 := l3) h) lkS_X12_185 dX12_odds_178 hX rfl ⟨rfl, rfl⟩ ⟨rfl, rfl⟩ rfl rfl rfl (fun o178 hf => ?_)
            refine V.istore (pc := 181) dX12_odds_181 rfl rfl rfl ?_
            refine V.iload (pc := 183) dX12_odds_183 rfl ?_
            refine V.iload (pc := 185) dX12_odds_185 rfl ?_
            refine V.callSi (pc := 187) [.int l5k51_175, .int o178] (st := []) hf (fun _ h => oX12_gcd  (l0 := l5k51_175) (l1 := o178) h) lkS_X12_188 dX12_odds_187 hX rfl ⟨rfl, rfl⟩ ⟨rfl, rfl⟩ rfl rfl rfl (fun o187 hf => ?_)
            refine V.istore (pc := 190) dX12_odds_190 rfl rfl rfl ?_
            refine V.iload (pc := 192) dX12_odds_192 rfl ?_
            refine V.if_ne (pc := 194) (tgt := 205) dX12_odds_194 (by decide) hf (fun hf => ?_) (fun hf => ?_)
            · refine V.iload (pc := 205) dX12_odds_205 rfl ?_
              refine V.iload (pc := 207) dX12_odds_207 rfl ?_
              refine V.idiv (pc := 209) dX12_odds_209 hf (fun hf => ?_)
              refine V.mask (pc := 210) [false, false, false, false, false, false, false, false, false, false] rfl rfl ?_
              exact tX12_odds_210 hX hQ hf
            · refine V.iload (pc := 197) dX12_odds_197 rfl ?_
              refine V.iload (pc := 199) dX12_odds_199 rfl ?_
              refine V.idiv (pc := 201) dX12_odds_201 hf (fun hf => ?_)
              refine V.goto (pc := 202) (tgt := 210) dX12_odds_202 (by decide) ?_
              refine V.mask (pc := 210) [false, false, false, false, false, false, false, false, false, false] rfl rfl ?_
              exact tX12_odds_210 hX hQ hf
        · refine V.mask (pc := 43) [false, false, false, false, false, false, false, false, false, false] rfl rfl ?_
          exact tX12_odds_43 hX hQ hf
end
theorem oX12_odds {l : Launch} {G : GT} {N : Nat} {q_a0 : Nat} {q_a0_lengths : Nat} {q_a0_many : Nat} {q_a0_s : Nat} {q_a0_w : Nat} {v_a0_thrown : Int32} {u_a0_trace : Value} {u_a0_text : Value} {u_a0_typed : Value} {u_a0_next : Value} {u_a0_token : Value} {u_a0_place : Value} {u_a0_value : Value} {u_a0_fault : Value} {u_a0_slow : Value} {u_a0_deaf : Value} {u_a0_told : Value} {u_a0_kept : Value} {u_a0_isKept : Value} {u_a0_undos : Value} {u_a0_undoMany : Value} {u_a0_heardBy : Value} {u_a0_heardAt : Value} {u_a0_heardMany : Value} {u_a0_tellsAt : Value} {u_a0_tellMany : Value} {u_a0_metAt : Value} {u_a0_metBeat : Value} {u_a0_round : Value} {u_a0_z : Value} {m_a0_lengths : Nat → Int32} {m_a0_many : Nat → Int32} {m_a0_s : Nat → Int32} {m_a0_w : Nat → Int32} {l1 : Int32} {l2 : Int32} {l3 : Int32} {l4 : Int32} {out : Int32 × Int32 × (Nat → Int32)} (hf : fX12_odds N l1 l2 l3 l4 m_a0_lengths m_a0_many m_a0_s m_a0_w = some out) : Ct (l, G, kX12_odds, wX12_odds G q_a0 q_a0_lengths q_a0_many q_a0_s q_a0_w v_a0_thrown u_a0_trace u_a0_text u_a0_typed u_a0_next u_a0_token u_a0_place u_a0_value u_a0_fault u_a0_slow u_a0_deaf u_a0_told u_a0_kept u_a0_isKept u_a0_undos u_a0_undoMany u_a0_heardBy u_a0_heardAt u_a0_heardMany u_a0_tellsAt u_a0_tellMany u_a0_metAt u_a0_metBeat u_a0_round u_a0_z m_a0_lengths m_a0_many m_a0_s m_a0_w, [.ref q_a0, .int l1, .int l2, .int l3, .int l4], qE (some (.int out.1)) (wX12_odds G q_a0 q_a0_lengths q_a0_many q_a0_s q_a0_w out.2.1 u_a0_trace u_a0_text u_a0_typed u_a0_next u_a0_token u_a0_place u_a0_value u_a0_fault u_a0_slow u_a0_deaf u_a0_told u_a0_kept u_a0_isKept u_a0_undos u_a0_undoMany u_a0_heardBy u_a0_heardAt u_a0_heardMany u_a0_tellsAt u_a0_tellMany u_a0_metAt u_a0_metBeat u_a0_round u_a0_z m_a0_lengths m_a0_many m_a0_s out.2.2)) :=
  Ct.of [some (.ref q_a0), some (.int l1), some (.int l2), some (.int l3), some (.int l4), none, none, none, none, none] kX12_odds_p rfl rfl rfl ((tX12_odds_0 (X := (l, G, kX12_odds, wX12_odds G q_a0 q_a0_lengths q_a0_many q_a0_s q_a0_w v_a0_thrown u_a0_trace u_a0_text u_a0_typed u_a0_next u_a0_token u_a0_place u_a0_value u_a0_fault u_a0_slow u_a0_deaf u_a0_told u_a0_kept u_a0_isKept u_a0_undos u_a0_undoMany u_a0_heardBy u_a0_heardAt u_a0_heardMany u_a0_tellsAt u_a0_tellMany u_a0_metAt u_a0_metBeat u_a0_round u_a0_z m_a0_lengths m_a0_many m_a0_s m_a0_w, [.ref q_a0, .int l1, .int l2, .int l3, .int l4], qE (some (.int out.1)) (wX12_odds G q_a0 q_a0_lengths q_a0_many q_a0_s q_a0_w out.2.1 u_a0_trace u_a0_text u_a0_typed u_a0_next u_a0_token u_a0_place u_a0_value u_a0_fault u_a0_slow u_a0_deaf u_a0_told u_a0_kept u_a0_isKept u_a0_undos u_a0_undoMany u_a0_heardBy u_a0_heardAt u_a0_heardMany u_a0_tellsAt u_a0_tellMany u_a0_metAt u_a0_metBeat u_a0_round u_a0_z m_a0_lengths m_a0_many m_a0_s out.2.2))) rfl rfl hf))

theorem fk_X12_192_12 : Fk "FarDrumModel" 192 12 1 := ⟨RX12, TX12, 29, "FarDrumModel", rfl, inX12, by decide, kw_4_9, Or.inl rfl⟩
theorem pk_X12_192_12 : Pk "FarDrumModel" 192 12 1 .long false := ⟨RX12, TX12, 29, "FarDrumModel", tyX12, rfl, inX12, by decide, kw_4_9, Or.inl rfl, tyX12_ok, nmX12, rfl, by decide +kernel, fun h => by cases h⟩
def wX12_rate (G : GT) (q_a0 : Nat) (q_a0_lengths : Nat) (q_a0_many : Nat) (q_a0_s : Nat) (v_a0_thrown : Int32) (v_a0_trace : Int64) (u_a0_text : Value) (u_a0_typed : Value) (u_a0_next : Value) (u_a0_token : Value) (u_a0_place : Value) (u_a0_value : Value) (u_a0_fault : Value) (u_a0_slow : Value) (u_a0_deaf : Value) (u_a0_told : Value) (u_a0_w : Value) (u_a0_kept : Value) (u_a0_isKept : Value) (u_a0_undos : Value) (u_a0_undoMany : Value) (u_a0_heardBy : Value) (u_a0_heardAt : Value) (u_a0_heardMany : Value) (u_a0_tellsAt : Value) (u_a0_tellMany : Value) (u_a0_metAt : Value) (u_a0_metBeat : Value) (u_a0_round : Value) (u_a0_z : Value) (m_a0_lengths : Nat → Int32) (m_a0_many : Nat → Int32) (m_a0_s : Nat → Int32) : va_W := [(q_a0, .inr (12, [.int v_a0_thrown, .long v_a0_trace, u_a0_text, u_a0_typed, u_a0_next, u_a0_token, u_a0_place, u_a0_value, u_a0_fault, .ref q_a0_many, u_a0_slow, u_a0_deaf, .ref q_a0_lengths, u_a0_told, .ref q_a0_s, u_a0_w, u_a0_kept, u_a0_isKept, u_a0_undos, u_a0_undoMany, u_a0_heardBy, u_a0_heardAt, u_a0_heardMany, u_a0_tellsAt, u_a0_tellMany, u_a0_metAt, u_a0_metBeat, u_a0_round, u_a0_z])), (q_a0_lengths, .inl (G.2 0, 72, .inl m_a0_lengths)), (q_a0_many, .inl (G.2 0, 6, .inl m_a0_many)), (q_a0_s, .inl (G.2 0, 35, .inl m_a0_s))]
def kX12_rate : KT := (yX12_rate, cX12_rate, 7, (some .int), 2, 0, 0)
theorem kX12_rate_r : kr kX12_rate = (some .int) ∧ kmc kX12_rate = 0 ∧ kms kX12_rate = 0 := ⟨rfl, rfl, rfl⟩
theorem kX12_rate_p : plainName (ky kX12_rate).cls = true := by decide +kernel
def fX12_rate_22 (v_a0_thrown : Int32) (v_a0_trace : Int64) : Option (Int32 × Int32 × Int64) :=
  some ((-1000000 : Int32), v_a0_thrown, v_a0_trace)
def fX12_rate_113 (B43 : Int32 → Int32 → Int32 → Option (Int32 × Int32 × Int64)) (l4 : Int32) (l6 : Int32) (s0 : Int32) : Option (Int32 × Int32 × Int64) :=
  B43 l4 s0 (l6 + (1 : Int32))
def fX12_rate_76 (B43 : Int32 → Int32 → Int32 → Option (Int32 × Int32 × Int64)) (l2 : Int32) (l5 : Int32) (l6 : Int32) (s0 : Int32) (s1 : Int32) (m_a0_lengths : Nat → Int32) : Option (Int32 × Int32 × Int64) :=
  lti (s0 + s1) fun y77 =>
  rdi 72 m_a0_lengths (((6 : Int32) * l2) + l6) fun x90 =>
  if x90 ≤ l5 then (fX12_rate_113 B43 y77 l6 l5)
  else (rdi 72 m_a0_lengths (((6 : Int32) * l2) + l6) fun x107 =>
  fX12_rate_113 B43 y77 l6 x107)
def fX12_rate_43 (B43 : Int32 → Int32 → Int32 → Option (Int32 × Int32 × Int64)) (K43_121 : Int32 → Int32 → Option (Int32 × Int32 × Int64)) (l2 : Int32) (l4 : Int32) (l5 : Int32) (l6 : Int32) (m_a0_lengths : Nat → Int32) (m_a0_many : Nat → Int32) : Option (Int32 × Int32 × Int64) :=
  if (m_a0_many 0) ≤ l6 then (K43_121 l4 l5)
  else (rdi 72 m_a0_lengths (((6 : Int32) * l2) + l6) fun x67 =>
  if x67 ≤ 0 then (fX12_rate_76 B43 l2 l5 l6 l4 (0 : Int32) m_a0_lengths)
  else (fX12_rate_76 B43 l2 l5 l6 l4 (1 : Int32) m_a0_lengths))
def fX12_rate_L43 (l2 : Int32) (m_a0_lengths : Nat → Int32) (m_a0_many : Nat → Int32) (K43_121 : Int32 → Int32 → Option (Int32 × Int32 × Int64)) : Nat → Int32 → Int32 → Int32 → Option (Int32 × Int32 × Int64)
  | 0, _, _, _ => none
  | n + 1, l4, l5, l6 => fX12_rate_43 (fX12_rate_L43 l2 m_a0_lengths m_a0_many K43_121 n) K43_121 l2 l4 l5 l6 m_a0_lengths m_a0_many
def fX12_rate_256 (s0 : Int32) (v_a0_thrown : Int32) (v_a0_trace : Int64) : Option (Int32 × Int32 × Int64) :=
  some (s0, v_a0_thrown, v_a0_trace)
def fX12_rate_181 (l1 : Int32) (l2 : Int32) (l3 : Int32) (l4 : Int32) (l5 : Int32) (t1 : Int64) (t2 : Int64) (v_a0_thrown : Int32) (m_a0_s : Nat → Int32) : Option (Int32 × Int32 × Int64) :=
  lti (t1 + t2) fun y182 =>
  if l1 = 0 then (fX12_rate_256 l3 v_a0_thrown y182)
  else (if l1 = (1 : Int32) then (fX12_rate_256 (l3 + l4) v_a0_thrown y182)
  else (if l1 = (2 : Int32) then (fX12_rate_256 (l3 - l5) v_a0_thrown y182)
  else (if l1 = (3 : Int32) then (fX12_rate_256 ((2 : Int32) * (l3 + l4)) v_a0_thrown y182)
  else (if l1 = (4 : Int32) then (fX12_rate_256 ((l3 - l5) + l2) v_a0_thrown y182)
  else (rdi 35 m_a0_s ((29 : Int32) + l2) fun x254 =>
  fX12_rate_256 (l3 + x254) v_a0_thrown y182)))))
def fX12_rate (N : Nat) (l1 : Int32) (l2 : Int32) (v_a0_trace : Int64) (m_a0_lengths : Nat → Int32) (m_a0_many : Nat → Int32) (m_a0_s : Nat → Int32) : Option (Int32 × Int32 × Int64) :=
  Option.bind (fX12_in l1 (0 : Int32) (5 : Int32)) fun o8 =>
  if o8 = 0 then (fX12_rate_22 (0 : Int32) v_a0_trace)
  else (Option.bind (fX12_isVillage l2 m_a0_many) fun o16 =>
  if o16 = 0 then (fX12_rate_22 (0 : Int32) v_a0_trace)
  else (rdi 35 m_a0_s ((4 : Int32) + l2) fun x32 =>
  fX12_rate_L43 l2 m_a0_lengths m_a0_many
      (fun l4k43_121 l5k43_121 => if l1 = 0 then (fX12_rate_181 l1 l2 x32 l4k43_121 l5k43_121 v_a0_trace (1 : Int64) (0 : Int32) m_a0_s)
  else (if l1 = (1 : Int32) then (fX12_rate_181 l1 l2 x32 l4k43_121 l5k43_121 v_a0_trace (11 : Int64) (0 : Int32) m_a0_s)
  else (if l1 = (2 : Int32) then (fX12_rate_181 l1 l2 x32 l4k43_121 l5k43_121 v_a0_trace (101 : Int64) (0 : Int32) m_a0_s)
  else (if l1 = (3 : Int32) then (fX12_rate_181 l1 l2 x32 l4k43_121 l5k43_121 v_a0_trace (1011 : Int64) (0 : Int32) m_a0_s)
  else (if l1 = (4 : Int32) then (fX12_rate_181 l1 l2 x32 l4k43_121 l5k43_121 v_a0_trace (10101 : Int64) (0 : Int32) m_a0_s)
  else (fX12_rate_181 l1 l2 x32 l4k43_121 l5k43_121 v_a0_trace (100001 : Int64) (0 : Int32) m_a0_s)))))) N (0 : Int32) (0 : Int32) (0 : Int32)))
section
variable {X : XT} {N : Nat} {q_a0 : Nat} {q_a0_lengths : Nat} {q_a0_many : Nat} {q_a0_s : Nat} {v_a0_thrown : Int32} {v_a0_trace : Int64} {u_a0_text : Value} {u_a0_typed : Value} {u_a0_next : Value} {u_a0_token : Value} {u_a0_place : Value} {u_a0_value : Value} {u_a0_fault : Value} {u_a0_slow : Value} {u_a0_deaf : Value} {u_a0_told : Value} {u_a0_w : Value} {u_a0_kept : Value} {u_a0_isKept : Value} {u_a0_undos : Value} {u_a0_undoMany : Value} {u_a0_heardBy : Value} {u_a0_heardAt : Value} {u_a0_heardMany : Value} {u_a0_tellsAt : Value} {u_a0_tellMany : Value} {u_a0_metAt : Value} {u_a0_metBeat : Value} {u_a0_round : Value} {u_a0_z : Value} {m_a0_lengths : Nat → Int32} {m_a0_many : Nat → Int32} {m_a0_s : Nat → Int32} {l1 : Int32} {l2 : Int32} {l3 : Int32} {l4 : Int32} {l5 : Int32} {l6 : Int32} {s0 : Int32} {s1 : Int32} {t1 : Int64} {t2 : Int64}
set_option maxRecDepth 20000 in
theorem tX12_rate_22 {out : Int32 × Int32 × Int64} (hX : xk X = kX12_rate) (hQ : xQ X = qE (some (.int out.1)) (wX12_rate (xG X) q_a0 q_a0_lengths q_a0_many q_a0_s out.2.1 out.2.2 u_a0_text u_a0_typed u_a0_next u_a0_token u_a0_place u_a0_value u_a0_fault u_a0_slow u_a0_deaf u_a0_told u_a0_w u_a0_kept u_a0_isKept u_a0_undos u_a0_undoMany u_a0_heardBy u_a0_heardAt u_a0_heardMany u_a0_tellsAt u_a0_tellMany u_a0_metAt u_a0_metBeat u_a0_round u_a0_z m_a0_lengths m_a0_many m_a0_s)) (hf : fX12_rate_22 v_a0_thrown v_a0_trace = some out) : V X cX12_rate "FarDrumModel" 0 0 (wX12_rate (xG X) q_a0 q_a0_lengths q_a0_many q_a0_s v_a0_thrown v_a0_trace u_a0_text u_a0_typed u_a0_next u_a0_token u_a0_place u_a0_value u_a0_fault u_a0_slow u_a0_deaf u_a0_told u_a0_w u_a0_kept u_a0_isKept u_a0_undos u_a0_undoMany u_a0_heardBy u_a0_heardAt u_a0_heardMany u_a0_tellsAt u_a0_tellMany u_a0_metAt u_a0_metBeat u_a0_round u_a0_z m_a0_lengths m_a0_many m_a0_s) [none, none, none, none, none, none, none] 22 [] := by
  unfold fX12_rate_22 at hf
  refine V.ldc (pc := 22) (v := -1000000) dX12_rate_22 kw_5_76 ?_
  exact V.iretE (pc := 24) hX kX12_rate_r hQ dX12_rate_24 (by cases hf; rfl) (by cases hf; rfl)
set_option maxRecDepth 20000 in
theorem tX12_rate_113 {out : Int32 × Int32 × Int64} (hX : xk X = kX12_rate) (hQ : xQ X = qE (some (.int out.1)) (wX12_rate (xG X) q_a0 q_a0_lengths q_a0_many q_a0_s out.2.1 out.2.2 u_a0_text u_a0_typed u_a0_next u_a0_token u_a0_place u_a0_value u_a0_fault u_a0_slow u_a0_deaf u_a0_told u_a0_w u_a0_kept u_a0_isKept u_a0_undos u_a0_undoMany u_a0_heardBy u_a0_heardAt u_a0_heardMany u_a0_tellsAt u_a0_tellMany u_a0_metAt u_a0_metBeat u_a0_round u_a0_z m_a0_lengths m_a0_many m_a0_s)) {B43 : Int32 → Int32 → Int32 → Option (Int32 × Int32 × Int64)} (hB43 : ∀ (l4 : Int32) (l5 : Int32) (l6 : Int32), B43 l4 l5 l6 = some out → V X cX12_rate "FarDrumModel" 0 0 (wX12_rate (xG X) q_a0 q_a0_lengths q_a0_many q_a0_s v_a0_thrown v_a0_trace u_a0_text u_a0_typed u_a0_next u_a0_token u_a0_place u_a0_value u_a0_fault u_a0_slow u_a0_deaf u_a0_told u_a0_w u_a0_kept u_a0_isKept u_a0_undos u_a0_undoMany u_a0_heardBy u_a0_heardAt u_a0_heardMany u_a0_tellsAt u_a0_tellMany u_a0_metAt u_a0_metBeat u_a0_round u_a0_z m_a0_lengths m_a0_many m_a0_s) [some (.ref q_a0), some (.int l1), some (.int l2), some (.int l3), some (.int l4), some (.int l5), some (.int l6)] 43 []) (hf : fX12_rate_113 B43 l4 l6 s0 = some out) : V X cX12_rate "FarDrumModel" 0 0 (wX12_rate (xG X) q_a0 q_a0_lengths q_a0_many q_a0_s v_a0_thrown v_a0_trace u_a0_text u_a0_typed u_a0_next u_a0_token u_a0_place u_a0_value u_a0_fault u_a0_slow u_a0_deaf u_a0_told u_a0_w u_a0_kept u_a0_isKept u_a0_undos u_a0_undoMany u_a0_heardBy u_a0_heardAt u_a0_heardMany u_a0_tellsAt u_a0_tellMany u_a0_metAt u_a0_metBeat u_a0_round u_a0_z m_a0_lengths m_a0_many m_a0_s) [some (.ref q_a0), some (.int l1), some (.int l2), some (.int l3), some (.int l4), none, some (.int l6)] 113 [.int s0] := by
  unfold fX12_rate_113 at hf
  refine V.istore (pc := 113) dX12_rate_113 rfl rfl rfl ?_
  refine V.iinc (pc := 115) (v := 1) dX12_rate_115 rfl rfl (by decide) rfl ?_
  refine V.goto (pc := 118) (tgt := 43) dX12_rate_118 (by decide) ?_
  exact hB43 _ _ _ hf
set_option maxRecDepth 20000 in
theorem tX12_rate_76 {out : Int32 × Int32 × Int64} (hX : xk X = kX12_rate) (hQ : xQ X = qE (some (.int out.1)) (wX12_rate (xG X) q_a0 q_a0_lengths q_a0_many q_a0_s out.2.1 out.2.2 u_a0_text u_a0_typed u_a0_next u_a0_token u_a0_place u_a0_value u_a0_fault u_a0_slow u_a0_deaf u_a0_told u_a0_w u_a0_kept u_a0_isKept u_a0_undos u_a0_undoMany u_a0_heardBy u_a0_heardAt u_a0_heardMany u_a0_tellsAt u_a0_tellMany u_a0_metAt u_a0_metBeat u_a0_round u_a0_z m_a0_lengths m_a0_many m_a0_s)) {B43 : Int32 → Int32 → Int32 → Option (Int32 × Int32 × Int64)} (hB43 : ∀ (l4 : Int32) (l5 : Int32) (l6 : Int32), B43 l4 l5 l6 = some out → V X cX12_rate "FarDrumModel" 0 0 (wX12_rate (xG X) q_a0 q_a0_lengths q_a0_many q_a0_s v_a0_thrown v_a0_trace u_a0_text u_a0_typed u_a0_next u_a0_token u_a0_place u_a0_value u_a0_fault u_a0_slow u_a0_deaf u_a0_told u_a0_w u_a0_kept u_a0_isKept u_a0_undos u_a0_undoMany u_a0_heardBy u_a0_heardAt u_a0_heardMany u_a0_tellsAt u_a0_tellMany u_a0_metAt u_a0_metBeat u_a0_round u_a0_z m_a0_lengths m_a0_many m_a0_s) [some (.ref q_a0), some (.int l1), some (.int l2), some (.int l3), some (.int l4), some (.int l5), some (.int l6)] 43 []) (hf : fX12_rate_76 B43 l2 l5 l6 s0 s1 m_a0_lengths = some out) : V X cX12_rate "FarDrumModel" 0 0 (wX12_rate (xG X) q_a0 q_a0_lengths q_a0_many q_a0_s v_a0_thrown v_a0_trace u_a0_text u_a0_typed u_a0_next u_a0_token u_a0_place u_a0_value u_a0_fault u_a0_slow u_a0_deaf u_a0_told u_a0_w u_a0_kept u_a0_isKept u_a0_undos u_a0_undoMany u_a0_heardBy u_a0_heardAt u_a0_heardMany u_a0_tellsAt u_a0_tellMany u_a0_metAt u_a0_metBeat u_a0_round u_a0_z m_a0_lengths m_a0_many m_a0_s) [some (.ref q_a0), some (.int l1), some (.int l2), some (.int l3), none, some (.int l5), some (.int l6)] 76 [.int s1, .int s0] := by
  unfold fX12_rate_76 at hf
  refine V.iadd (pc := 76) dX12_rate_76 ?_
  refine V.topi hf (fun y77 hf => ?_)
  refine V.istore (pc := 77) dX12_rate_77 rfl rfl rfl ?_
  refine V.aloadn (pc := 79) dX12_rate_79 rfl ?_
  refine V.getf (q := 0) (pc := 80) dX12_rate_80 fk_X12_22_12 rfl rfl ?_
  refine V.bipush (pc := 83) (v := 6) dX12_rate_83 (by decide) ?_
  refine V.iloadn (pc := 85) dX12_rate_85 rfl ?_
  refine V.imul (pc := 86) dX12_rate_86 ?_
  refine V.iload (pc := 87) dX12_rate_87 rfl ?_
  refine V.iadd (pc := 89) dX12_rate_89 ?_
  refine V.iald (pc := 90) (q := 1) dX12_rate_90 rfl hf (fun x90 hf => ?_)
  refine V.iload (pc := 91) dX12_rate_91 rfl ?_
  refine V.icmp_le (pc := 93) (tgt := 111) dX12_rate_93 (by decide) hf (fun hf => ?_) (fun hf => ?_)
  · refine V.iload (pc := 111) dX12_rate_111 rfl ?_
    refine V.mask (pc := 113) [true, true, true, true, true, false, true] rfl rfl ?_
    exact tX12_rate_113 hX hQ hB43 hf
  · refine V.aloadn (pc := 96) dX12_rate_96 rfl ?_
    refine V.getf (q := 0) (pc := 97) dX12_rate_97 fk_X12_22_12 rfl rfl ?_
    refine V.bipush (pc := 100) (v := 6) dX12_rate_100 (by decide) ?_
    refine V.iloadn (pc := 102) dX12_rate_102 rfl ?_
    refine V.imul (pc := 103) dX12_rate_103 ?_
    refine V.iload (pc := 104) dX12_rate_104 rfl ?_
    refine V.iadd (pc := 106) dX12_rate_106 ?_
    refine V.iald (pc := 107) (q := 1) dX12_rate_107 rfl hf (fun x107 hf => ?_)
    refine V.goto (pc := 108) (tgt := 113) dX12_rate_108 (by decide) ?_
    refine V.mask (pc := 113) [true, true, true, true, true, false, true] rfl rfl ?_
    exact tX12_rate_113 hX hQ hB43 hf
set_option maxRecDepth 20000 in
theorem tX12_rate_43 {out : Int32 × Int32 × Int64} (hX : xk X = kX12_rate) (hQ : xQ X = qE (some (.int out.1)) (wX12_rate (xG X) q_a0 q_a0_lengths q_a0_many q_a0_s out.2.1 out.2.2 u_a0_text u_a0_typed u_a0_next u_a0_token u_a0_place u_a0_value u_a0_fault u_a0_slow u_a0_deaf u_a0_told u_a0_w u_a0_kept u_a0_isKept u_a0_undos u_a0_undoMany u_a0_heardBy u_a0_heardAt u_a0_heardMany u_a0_tellsAt u_a0_tellMany u_a0_metAt u_a0_metBeat u_a0_round u_a0_z m_a0_lengths m_a0_many m_a0_s)) {B43 : Int32 → Int32 → Int32 → Option (Int32 × Int32 × Int64)} {K43_121 : Int32 → Int32 → Option (Int32 × Int32 × Int64)} (hB43 : ∀ (l4 : Int32) (l5 : Int32) (l6 : Int32), B43 l4 l5 l6 = some out → V X cX12_rate "FarDrumModel" 0 0 (wX12_rate (xG X) q_a0 q_a0_lengths q_a0_many q_a0_s v_a0_thrown v_a0_trace u_a0_text u_a0_typed u_a0_next u_a0_token u_a0_place u_a0_value u_a0_fault u_a0_slow u_a0_deaf u_a0_told u_a0_w u_a0_kept u_a0_isKept u_a0_undos u_a0_undoMany u_a0_heardBy u_a0_heardAt u_a0_heardMany u_a0_tellsAt u_a0_tellMany u_a0_metAt u_a0_metBeat u_a0_round u_a0_z m_a0_lengths m_a0_many m_a0_s) [some (.ref q_a0), some (.int l1), some (.int l2), some (.int l3), some (.int l4), some (.int l5), some (.int l6)] 43 []) (hK43_121 : ∀ (l4 : Int32) (l5 : Int32), K43_121 l4 l5 = some out → V X cX12_rate "FarDrumModel" 0 0 (wX12_rate (xG X) q_a0 q_a0_lengths q_a0_many q_a0_s v_a0_thrown v_a0_trace u_a0_text u_a0_typed u_a0_next u_a0_token u_a0_place u_a0_value u_a0_fault u_a0_slow u_a0_deaf u_a0_told u_a0_w u_a0_kept u_a0_isKept u_a0_undos u_a0_undoMany u_a0_heardBy u_a0_heardAt u_a0_heardMany u_a0_tellsAt u_a0_tellMany u_a0_metAt u_a0_metBeat u_a0_round u_a0_z m_a0_lengths m_a0_many m_a0_s) [some (.ref q_a0), some (.int l1), some (.int l2), some (.int l3), some (.int l4), some (.int l5), none] 121 []) (hf : fX12_rate_43 B43 K43_121 l2 l4 l5 l6 m_a0_lengths m_a0_many = some out) : V X cX12_rate "FarDrumModel" 0 0 (wX12_rate (xG X) q_a0 q_a0_lengths q_a0_many q_a0_s v_a0_thrown v_a0_trace u_a0_text u_a0_typed u_a0_next u_a0_token u_a0_place u_a0_value u_a0_fault u_a0_slow u_a0_deaf u_a0_told u_a0_w u_a0_kept u_a0_isKept u_a0_undos u_a0_undoMany u_a0_heardBy u_a0_heardAt u_a0_heardMany u_a0_tellsAt u_a0_tellMany u_a0_metAt u_a0_metBeat u_a0_round u_a0_z m_a0_lengths m_a0_many m_a0_s) [some (.ref q_a0), some (.int l1), some (.int l2), some (.int l3), some (.int l4), some (.int l5), some (.int l6)] 43 [] := by
  unfold fX12_rate_43 at hf
  refine V.iload (pc := 43) dX12_rate_43 rfl ?_
  refine V.aloadn (pc := 45) dX12_rate_45 rfl ?_
  refine V.getf (q := 0) (pc := 46) dX12_rate_46 fk_X12_13_12 rfl rfl ?_
  refine V.iconst (pc := 49) (v := 0) dX12_rate_49 (by decide) ?_
  refine V.ialdC (pc := 50) (q := 2) 0 dX12_rate_50 rfl ⟨vp_c (by decide), by decide⟩ ?_
  refine V.icmp_ge (pc := 51) (tgt := 121) dX12_rate_51 (by decide) hf (fun hf => ?_) (fun hf => ?_)
  · refine V.mask (pc := 121) [true, true, true, true, true, true, false] rfl rfl ?_
    exact hK43_121 _ _ hf
  · refine V.iload (pc := 54) dX12_rate_54 rfl ?_
    refine V.aloadn (pc := 56) dX12_rate_56 rfl ?_
    refine V.getf (q := 0) (pc := 57) dX12_rate_57 fk_X12_22_12 rfl rfl ?_
    refine V.bipush (pc := 60) (v := 6) dX12_rate_60 (by decide) ?_
    refine V.iloadn (pc := 62) dX12_rate_62 rfl ?_
    refine V.imul (pc := 63) dX12_rate_63 ?_
    refine V.iload (pc := 64) dX12_rate_64 rfl ?_
    refine V.iadd (pc := 66) dX12_rate_66 ?_
    refine V.iald (pc := 67) (q := 1) dX12_rate_67 rfl hf (fun x67 hf => ?_)
    refine V.if_le (pc := 68) (tgt := 75) dX12_rate_68 (by decide) hf (fun hf => ?_) (fun hf => ?_)
    · refine V.iconst (pc := 75) (v := 0) dX12_rate_75 (by decide) ?_
      refine V.mask (pc := 76) [true, true, true, true, false, true, true] rfl rfl ?_
      exact tX12_rate_76 hX hQ hB43 hf
    · refine V.iconst (pc := 71) (v := 1) dX12_rate_71 (by decide) ?_
      refine V.goto (pc := 72) (tgt := 76) dX12_rate_72 (by decide) ?_
      refine V.mask (pc := 76) [true, true, true, true, false, true, true] rfl rfl ?_
      exact tX12_rate_76 hX hQ hB43 hf
theorem tX12_rate_L43 {out : Int32 × Int32 × Int64} (hX : xk X = kX12_rate) (hQ : xQ X = qE (some (.int out.1)) (wX12_rate (xG X) q_a0 q_a0_lengths q_a0_many q_a0_s out.2.1 out.2.2 u_a0_text u_a0_typed u_a0_next u_a0_token u_a0_place u_a0_value u_a0_fault u_a0_slow u_a0_deaf u_a0_told u_a0_w u_a0_kept u_a0_isKept u_a0_undos u_a0_undoMany u_a0_heardBy u_a0_heardAt u_a0_heardMany u_a0_tellsAt u_a0_tellMany u_a0_metAt u_a0_metBeat u_a0_round u_a0_z m_a0_lengths m_a0_many m_a0_s)) {K43_121 : Int32 → Int32 → Option (Int32 × Int32 × Int64)} (hK43_121 : ∀ (l4 : Int32) (l5 : Int32), K43_121 l4 l5 = some out → V X cX12_rate "FarDrumModel" 0 0 (wX12_rate (xG X) q_a0 q_a0_lengths q_a0_many q_a0_s v_a0_thrown v_a0_trace u_a0_text u_a0_typed u_a0_next u_a0_token u_a0_place u_a0_value u_a0_fault u_a0_slow u_a0_deaf u_a0_told u_a0_w u_a0_kept u_a0_isKept u_a0_undos u_a0_undoMany u_a0_heardBy u_a0_heardAt u_a0_heardMany u_a0_tellsAt u_a0_tellMany u_a0_metAt u_a0_metBeat u_a0_round u_a0_z m_a0_lengths m_a0_many m_a0_s) [some (.ref q_a0), some (.int l1), some (.int l2), some (.int l3), some (.int l4), some (.int l5), none] 121 []) : ∀ (n : Nat) (l4 : Int32) (l5 : Int32) (l6 : Int32), fX12_rate_L43 l2 m_a0_lengths m_a0_many K43_121 n l4 l5 l6 = some out → V X cX12_rate "FarDrumModel" 0 0 (wX12_rate (xG X) q_a0 q_a0_lengths q_a0_many q_a0_s v_a0_thrown v_a0_trace u_a0_text u_a0_typed u_a0_next u_a0_token u_a0_place u_a0_value u_a0_fault u_a0_slow u_a0_deaf u_a0_told u_a0_w u_a0_kept u_a0_isKept u_a0_undos u_a0_undoMany u_a0_heardBy u_a0_heardAt u_a0_heardMany u_a0_tellsAt u_a0_tellMany u_a0_metAt u_a0_metBeat u_a0_round u_a0_z m_a0_lengths m_a0_many m_a0_s) [some (.ref q_a0), some (.int l1), some (.int l2), some (.int l3), some (.int l4), some (.int l5), some (.int l6)] 43 [] := by
  intro n
  induction n with
  | zero => intro l4 l5 l6 hf; cases hf
  | succ n ih => intro l4 l5 l6 hf; exact tX12_rate_43 hX hQ ih hK43_121 hf
set_option maxRecDepth 20000 in
theorem tX12_rate_256 {out : Int32 × Int32 × Int64} (hX : xk X = kX12_rate) (hQ : xQ X = qE (some (.int out.1)) (wX12_rate (xG X) q_a0 q_a0_lengths q_a0_many q_a0_s out.2.1 out.2.2 u_a0_text u_a0_typed u_a0_next u_a0_token u_a0_place u_a0_value u_a0_fault u_a0_slow u_a0_deaf u_a0_told u_a0_w u_a0_kept u_a0_isKept u_a0_undos u_a0_undoMany u_a0_heardBy u_a0_heardAt u_a0_heardMany u_a0_tellsAt u_a0_tellMany u_a0_metAt u_a0_metBeat u_a0_round u_a0_z m_a0_lengths m_a0_many m_a0_s)) (hf : fX12_rate_256 s0 v_a0_thrown v_a0_trace = some out) : V X cX12_rate "FarDrumModel" 0 0 (wX12_rate (xG X) q_a0 q_a0_lengths q_a0_many q_a0_s v_a0_thrown v_a0_trace u_a0_text u_a0_typed u_a0_next u_a0_token u_a0_place u_a0_value u_a0_fault u_a0_slow u_a0_deaf u_a0_told u_a0_w u_a0_kept u_a0_isKept u_a0_undos u_a0_undoMany u_a0_heardBy u_a0_heardAt u_a0_heardMany u_a0_tellsAt u_a0_tellMany u_a0_metAt u_a0_metBeat u_a0_round u_a0_z m_a0_lengths m_a0_many m_a0_s) [none, none, none, none, none, none, none] 256 [.int s0] := by
  unfold fX12_rate_256 at hf
  exact V.iretE (pc := 256) hX kX12_rate_r hQ dX12_rate_256 (by cases hf; rfl) (by cases hf; rfl)
set_option maxRecDepth 20000 in
theorem tX12_rate_181 {out : Int32 × Int32 × Int64} (hX : xk X = kX12_rate) (hQ : xQ X = qE (some (.int out.1)) (wX12_rate (xG X) q_a0 q_a0_lengths q_a0_many q_a0_s out.2.1 out.2.2 u_a0_text u_a0_typed u_a0_next u_a0_token u_a0_place u_a0_value u_a0_fault u_a0_slow u_a0_deaf u_a0_told u_a0_w u_a0_kept u_a0_isKept u_a0_undos u_a0_undoMany u_a0_heardBy u_a0_heardAt u_a0_heardMany u_a0_tellsAt u_a0_tellMany u_a0_metAt u_a0_metBeat u_a0_round u_a0_z m_a0_lengths m_a0_many m_a0_s)) (hf : fX12_rate_181 l1 l2 l3 l4 l5 t1 t2 v_a0_thrown m_a0_s = some out) : V X cX12_rate "FarDrumModel" 0 0 (wX12_rate (xG X) q_a0 q_a0_lengths q_a0_many q_a0_s v_a0_thrown v_a0_trace u_a0_text u_a0_typed u_a0_next u_a0_token u_a0_place u_a0_value u_a0_fault u_a0_slow u_a0_deaf u_a0_told u_a0_w u_a0_kept u_a0_isKept u_a0_undos u_a0_undoMany u_a0_heardBy u_a0_heardAt u_a0_heardMany u_a0_tellsAt u_a0_tellMany u_a0_metAt u_a0_metBeat u_a0_round u_a0_z m_a0_lengths m_a0_many m_a0_s) [some (.ref q_a0), some (.int l1), some (.int l2), some (.int l3), some (.int l4), some (.int l5), none] 181 [.long t2, .long t1, .ref q_a0] := by
  unfold fX12_rate_181 at hf
  refine V.ladd (pc := 181) dX12_rate_181 ?_
  refine V.topl hf (fun y182 hf => ?_)
  refine V.putf (q := 0) (wd' := wX12_rate (xG X) q_a0 q_a0_lengths q_a0_many q_a0_s v_a0_thrown y182 u_a0_text u_a0_typed u_a0_next u_a0_token u_a0_place u_a0_value u_a0_fault u_a0_slow u_a0_deaf u_a0_told u_a0_w u_a0_kept u_a0_isKept u_a0_undos u_a0_undoMany u_a0_heardBy u_a0_heardAt u_a0_heardMany u_a0_tellsAt u_a0_tellMany u_a0_metAt u_a0_metBeat u_a0_round u_a0_z m_a0_lengths m_a0_many m_a0_s) (pc := 182) dX12_rate_182 pk_X12_192_12 rfl rfl rfl rfl rfl ?_
  refine V.iloadn (pc := 185) dX12_rate_185 rfl ?_
  refine V.if_ne (pc := 186) (tgt := 193) dX12_rate_186 (by decide) hf (fun hf => ?_) (fun hf => ?_)
  · refine V.iloadn (pc := 193) dX12_rate_193 rfl ?_
    refine V.iconst (pc := 194) (v := 1) dX12_rate_194 (by decide) ?_
    refine V.icmp_ne (pc := 195) (tgt := 205) dX12_rate_195 (by decide) hf (fun hf => ?_) (fun hf => ?_)
    · refine V.iloadn (pc := 205) dX12_rate_205 rfl ?_
      refine V.iconst (pc := 206) (v := 2) dX12_rate_206 (by decide) ?_
      refine V.icmp_ne (pc := 207) (tgt := 217) dX12_rate_207 (by decide) hf (fun hf => ?_) (fun hf => ?_)
      · refine V.iloadn (pc := 217) dX12_rate_217 rfl ?_
        refine V.iconst (pc := 218) (v := 3) dX12_rate_218 (by decide) ?_
        refine V.icmp_ne (pc := 219) (tgt := 231) dX12_rate_219 (by decide) hf (fun hf => ?_) (fun hf => ?_)
        · refine V.iloadn (pc := 231) dX12_rate_231 rfl ?_
          refine V.iconst (pc := 232) (v := 4) dX12_rate_232 (by decide) ?_
          refine V.icmp_ne (pc := 233) (tgt := 245) dX12_rate_233 (by decide) hf (fun hf => ?_) (fun hf => ?_)
          · refine V.iloadn (pc := 245) dX12_rate_245 rfl ?_
            refine V.aloadn (pc := 246) dX12_rate_246 rfl ?_
            refine V.getf (q := 0) (pc := 247) dX12_rate_247 fk_X12_25_12 rfl rfl ?_
            refine V.bipush (pc := 250) (v := 29) dX12_rate_250 (by decide) ?_
            refine V.iloadn (pc := 252) dX12_rate_252 rfl ?_
            refine V.iadd (pc := 253) dX12_rate_253 ?_
            refine V.iald (pc := 254) (q := 3) dX12_rate_254 rfl hf (fun x254 hf => ?_)
            refine V.iadd (pc := 255) dX12_rate_255 ?_
            refine V.mask (pc := 256) [false, false, false, false, false, false, false] rfl rfl ?_
            exact tX12_rate_256 hX hQ hf
          · refine V.iloadn (pc := 236) dX12_rate_236 rfl ?_
            refine V.iload (pc := 237) dX12_rate_237 rfl ?_
            refine V.isub (pc := 239) dX12_rate_239 ?_
            refine V.iloadn (pc := 240) dX12_rate_240 rfl ?_
            refine V.iadd (pc := 241) dX12_rate_241 ?_
            refine V.goto (pc := 242) (tgt := 256) dX12_rate_242 (by decide) ?_
            refine V.mask (pc := 256) [false, false, false, false, false, false, false] rfl rfl ?_
            exact tX12_rate_256 hX hQ hf
        · refine V.iconst (pc := 222) (v := 2) dX12_rate_222 (by decide) ?_
          refine V.iloadn (pc := 223) dX12_rate_223 rfl ?_
          refine V.iload (pc := 224) dX12_rate_224 rfl ?_
          refine V.iadd (pc := 226) dX12_rate_226 ?_
          refine V.imul (pc := 227) dX12_rate_227 ?_
          refine V.goto (pc := 228) (tgt := 256) dX12_rate_228 (by decide) ?_
          refine V.mask (pc := 256) [false, false, false, false, false, false, false] rfl rfl ?_
          exact tX12_rate_256 hX hQ hf
      · refine V.iloadn (pc := 210) dX12_rate_210 rfl ?_
        refine V.iload (pc := 211) dX12_rate_211 rfl ?_
        refine V.isub (pc := 213) dX12_rate_213 ?_
        refine V.goto (pc := 214) (tgt := 256) dX12_rate_214 (by decide) ?_
        refine V.mask (pc := 256) [false, false, false, false, false, false, false] rfl rfl ?_
        exact tX12_rate_256 hX hQ hf
    · refine V.iloadn (pc := 198) dX12_rate_198 rfl ?_
      refine V.iload (pc := 199) dX12_rate_199 rfl ?_
      refine V.iadd (pc := 201) dX12_rate_201 ?_
      refine V.goto (pc := 202) (tgt := 256) dX12_rate_202 (by decide) ?_
      refine V.mask (pc := 256) [false, false, false, false, false, false, false] rfl rfl ?_
      exact tX12_rate_256 hX hQ hf
  · refine V.iloadn (pc := 189) dX12_rate_189 rfl ?_
    refine V.goto (pc := 190) (tgt := 256) dX12_rate_190 (by decide) ?_
    refine V.mask (pc := 256) [false, false, false, false, false, false, false] rfl rfl ?_
    exact tX12_rate_256 hX hQ hf
set_option maxRecDepth 20000 in
theorem tX12_rate_0 {out : Int32 × Int32 × Int64} (hX : xk X = kX12_rate) (hQ : xQ X = qE (some (.int out.1)) (wX12_rate (xG X) q_a0 q_a0_lengths q_a0_many q_a0_s out.2.1 out.2.2 u_a0_text u_a0_typed u_a0_next u_a0_token u_a0_place u_a0_value u_a0_fault u_a0_slow u_a0_deaf u_a0_told u_a0_w u_a0_kept u_a0_isKept u_a0_undos u_a0_undoMany u_a0_heardBy u_a0_heardAt u_a0_heardMany u_a0_tellsAt u_a0_tellMany u_a0_metAt u_a0_metBeat u_a0_round u_a0_z m_a0_lengths m_a0_many m_a0_s)) (hf : fX12_rate N l1 l2 v_a0_trace m_a0_lengths m_a0_many m_a0_s = some out) : V X cX12_rate "FarDrumModel" 0 0 (wX12_rate (xG X) q_a0 q_a0_lengths q_a0_many q_a0_s v_a0_thrown v_a0_trace u_a0_text u_a0_typed u_a0_next u_a0_token u_a0_place u_a0_value u_a0_fault u_a0_slow u_a0_deaf u_a0_told u_a0_w u_a0_kept u_a0_isKept u_a0_undos u_a0_undoMany u_a0_heardBy u_a0_heardAt u_a0_heardMany u_a0_tellsAt u_a0_tellMany u_a0_metAt u_a0_metBeat u_a0_round u_a0_z m_a0_lengths m_a0_many m_a0_s) [some (.ref q_a0), some (.int l1), some (.int l2), none, none, none, none] 0 [] := by
  unfold fX12_rate at hf
  refine V.aloadn (pc := 0) dX12_rate_0 rfl ?_
  refine V.iconst (pc := 1) (v := 0) dX12_rate_1 (by decide) ?_
  refine V.putf (q := 0) (wd' := wX12_rate (xG X) q_a0 q_a0_lengths q_a0_many q_a0_s (0 : Int32) v_a0_trace u_a0_text u_a0_typed u_a0_next u_a0_token u_a0_place u_a0_value u_a0_fault u_a0_slow u_a0_deaf u_a0_told u_a0_w u_a0_kept u_a0_isKept u_a0_undos u_a0_undoMany u_a0_heardBy u_a0_heardAt u_a0_heardMany u_a0_tellsAt u_a0_tellMany u_a0_metAt u_a0_metBeat u_a0_round u_a0_z m_a0_lengths m_a0_many m_a0_s) (pc := 2) dX12_rate_2 pk_X12_62_12 rfl rfl rfl rfl rfl ?_
  refine V.iloadn (pc := 5) dX12_rate_5 rfl ?_
  refine V.iconst (pc := 6) (v := 0) dX12_rate_6 (by decide) ?_
  refine V.iconst (pc := 7) (v := 5) dX12_rate_7 (by decide) ?_
  refine V.callSi (pc := 8) [.int l1, .int (0 : Int32), .int (5 : Int32)] (st := []) hf (fun _ h => oX12_in  (l0 := l1) (l1 := (0 : Int32)) (l2 := (5 : Int32)) h) lkS_X12_66 dX12_rate_8 hX rfl ⟨rfl, rfl⟩ ⟨rfl, rfl⟩ rfl rfl rfl (fun o8 hf => ?_)
  refine V.if_eq (pc := 11) (tgt := 22) dX12_rate_11 (by decide) hf (fun hf => ?_) (fun hf => ?_)
  · refine V.mask (pc := 22) [false, false, false, false, false, false, false] rfl rfl ?_
    exact tX12_rate_22 hX hQ hf
  · refine V.aloadn (pc := 14) dX12_rate_14 rfl ?_
    refine V.iloadn (pc := 15) dX12_rate_15 rfl ?_
    refine V.callVi (pc := 16) (q := 0) (wr := [(q_a0_lengths, .inl ((xG X).2 0, 72, .inl m_a0_lengths)), (q_a0_s, .inl ((xG X).2 0, 35, .inl m_a0_s))]) (wd' := fun o16 => wX12_rate (xG X) q_a0 q_a0_lengths q_a0_many q_a0_s (0 : Int32) v_a0_trace u_a0_text u_a0_typed u_a0_next u_a0_token u_a0_place u_a0_value u_a0_fault u_a0_slow u_a0_deaf u_a0_told u_a0_w u_a0_kept u_a0_isKept u_a0_undos u_a0_undoMany u_a0_heardBy u_a0_heardAt u_a0_heardMany u_a0_tellsAt u_a0_tellMany u_a0_metAt u_a0_metBeat u_a0_round u_a0_z m_a0_lengths m_a0_many m_a0_s) [.int l2] (st := []) hf (fun _ h => oX12_isVillage (q_a0 := q_a0) (q_a0_many := q_a0_many) (u_a0_thrown := ((.int (0 : Int32)))) (u_a0_trace := ((.long v_a0_trace))) (u_a0_text := u_a0_text) (u_a0_typed := u_a0_typed) (u_a0_next := u_a0_next) (u_a0_token := u_a0_token) (u_a0_place := u_a0_place) (u_a0_value := u_a0_value) (u_a0_fault := u_a0_fault) (u_a0_slow := u_a0_slow) (u_a0_deaf := u_a0_deaf) (u_a0_lengths := ((.ref q_a0_lengths))) (u_a0_told := u_a0_told) (u_a0_s := ((.ref q_a0_s))) (u_a0_w := u_a0_w) (u_a0_kept := u_a0_kept) (u_a0_isKept := u_a0_isKept) (u_a0_undos := u_a0_undos) (u_a0_undoMany := u_a0_undoMany) (u_a0_heardBy := u_a0_heardBy) (u_a0_heardAt := u_a0_heardAt) (u_a0_heardMany := u_a0_heardMany) (u_a0_tellsAt := u_a0_tellsAt) (u_a0_tellMany := u_a0_tellMany) (u_a0_metAt := u_a0_metAt) (u_a0_metBeat := u_a0_metBeat) (u_a0_round := u_a0_round) (u_a0_z := u_a0_z) (m_a0_many := m_a0_many) (l1 := l2) h) lkV_X12_133 dX12_rate_16 hX rfl ⟨rfl, rfl⟩ ⟨rfl, rfl⟩ rfl rfl rfl rfl rfl [0, 2] [1, 3] [2, 0, 3, 1] rfl rfl rfl rfl rfl (fun _ => rfl) rfl (fun o16 hf => ?_)
    refine V.if_ne (pc := 19) (tgt := 25) dX12_rate_19 (by decide) hf (fun hf => ?_) (fun hf => ?_)
    · refine V.aloadn (pc := 25) dX12_rate_25 rfl ?_
      refine V.getf (q := 0) (pc := 26) dX12_rate_26 fk_X12_25_12 rfl rfl ?_
      refine V.iconst (pc := 29) (v := 4) dX12_rate_29 (by decide) ?_
      refine V.iloadn (pc := 30) dX12_rate_30 rfl ?_
      refine V.iadd (pc := 31) dX12_rate_31 ?_
      refine V.iald (pc := 32) (q := 3) dX12_rate_32 rfl hf (fun x32 hf => ?_)
      refine V.istoren (pc := 33) dX12_rate_33 rfl rfl rfl ?_
      refine V.iconst (pc := 34) (v := 0) dX12_rate_34 (by decide) ?_
      refine V.istore (pc := 35) dX12_rate_35 rfl rfl rfl ?_
      refine V.iconst (pc := 37) (v := 0) dX12_rate_37 (by decide) ?_
      refine V.istore (pc := 38) dX12_rate_38 rfl rfl rfl ?_
      refine V.iconst (pc := 40) (v := 0) dX12_rate_40 (by decide) ?_
      refine V.istore (pc := 41) dX12_rate_41 rfl rfl rfl ?_
      refine tX12_rate_L43 hX hQ ?_ _ _ _ _ hf
      · intro l4k43_121 l5k43_121 hf
        refine V.aloadn (pc := 121) dX12_rate_121 rfl ?_
        refine V.dup (pc := 122) dX12_rate_122 rfl ?_
        refine V.getf (q := 0) (pc := 123) dX12_rate_123 fk_X12_192_12 rfl rfl ?_
        refine V.iloadn (pc := 126) dX12_rate_126 rfl ?_
        refine V.if_ne (pc := 127) (tgt := 134) dX12_rate_127 (by decide) hf (fun hf => ?_) (fun hf => ?_)
        · refine V.iloadn (pc := 134) dX12_rate_134 rfl ?_
          refine V.iconst (pc := 135) (v := 1) dX12_rate_135 (by decide) ?_
          refine V.icmp_ne (pc := 136) (tgt := 145) dX12_rate_136 (by decide) hf (fun hf => ?_) (fun hf => ?_)
          · refine V.iloadn (pc := 145) dX12_rate_145 rfl ?_
            refine V.iconst (pc := 146) (v := 2) dX12_rate_146 (by decide) ?_
            refine V.icmp_ne (pc := 147) (tgt := 156) dX12_rate_147 (by decide) hf (fun hf => ?_) (fun hf => ?_)
            · refine V.iloadn (pc := 156) dX12_rate_156 rfl ?_
              refine V.iconst (pc := 157) (v := 3) dX12_rate_157 (by decide) ?_
              refine V.icmp_ne (pc := 158) (tgt := 167) dX12_rate_158 (by decide) hf (fun hf => ?_) (fun hf => ?_)
              · refine V.iloadn (pc := 167) dX12_rate_167 rfl ?_
                refine V.iconst (pc := 168) (v := 4) dX12_rate_168 (by decide) ?_
                refine V.icmp_ne (pc := 169) (tgt := 178) dX12_rate_169 (by decide) hf (fun hf => ?_) (fun hf => ?_)
                · refine V.ldc2 (pc := 178) (v := 100001) dX12_rate_178 kw_5_81 ?_
                  exact tX12_rate_181 hX hQ hf
                · refine V.ldc2 (pc := 172) (v := 10101) dX12_rate_172 kw_5_80 ?_
                  refine V.goto (pc := 175) (tgt := 181) dX12_rate_175 (by decide) ?_
                  exact tX12_rate_181 hX hQ hf
              · refine V.ldc2 (pc := 161) (v := 1011) dX12_rate_161 kw_5_79 ?_
                refine V.goto (pc := 164) (tgt := 181) dX12_rate_164 (by decide) ?_
                exact tX12_rate_181 hX hQ hf
            · refine V.ldc2 (pc := 150) (v := 101) dX12_rate_150 kw_5_78 ?_
              refine V.goto (pc := 153) (tgt := 181) dX12_rate_153 (by decide) ?_
              exact tX12_rate_181 hX hQ hf
          · refine V.ldc2 (pc := 139) (v := 11) dX12_rate_139 kw_5_77 ?_
            refine V.goto (pc := 142) (tgt := 181) dX12_rate_142 (by decide) ?_
            exact tX12_rate_181 hX hQ hf
        · refine V.lconst (pc := 130) (v := 1) dX12_rate_130 (by decide) ?_
          refine V.goto (pc := 131) (tgt := 181) dX12_rate_131 (by decide) ?_
          exact tX12_rate_181 hX hQ hf
    · refine V.mask (pc := 22) [false, false, false, false, false, false, false] rfl rfl ?_
      exact tX12_rate_22 hX hQ hf
end
theorem oX12_rate {l : Launch} {G : GT} {N : Nat} {q_a0 : Nat} {q_a0_lengths : Nat} {q_a0_many : Nat} {q_a0_s : Nat} {v_a0_thrown : Int32} {v_a0_trace : Int64} {u_a0_text : Value} {u_a0_typed : Value} {u_a0_next : Value} {u_a0_token : Value} {u_a0_place : Value} {u_a0_value : Value} {u_a0_fault : Value} {u_a0_slow : Value} {u_a0_deaf : Value} {u_a0_told : Value} {u_a0_w : Value} {u_a0_kept : Value} {u_a0_isKept : Value} {u_a0_undos : Value} {u_a0_undoMany : Value} {u_a0_heardBy : Value} {u_a0_heardAt : Value} {u_a0_heardMany : Value} {u_a0_tellsAt : Value} {u_a0_tellMany : Value} {u_a0_metAt : Value} {u_a0_metBeat : Value} {u_a0_round : Value} {u_a0_z : Value} {m_a0_lengths : Nat → Int32} {m_a0_many : Nat → Int32} {m_a0_s : Nat → Int32} {l1 : Int32} {l2 : Int32} {out : Int32 × Int32 × Int64} (hf : fX12_rate N l1 l2 v_a0_trace m_a0_lengths m_a0_many m_a0_s = some out) : Ct (l, G, kX12_rate, wX12_rate G q_a0 q_a0_lengths q_a0_many q_a0_s v_a0_thrown v_a0_trace u_a0_text u_a0_typed u_a0_next u_a0_token u_a0_place u_a0_value u_a0_fault u_a0_slow u_a0_deaf u_a0_told u_a0_w u_a0_kept u_a0_isKept u_a0_undos u_a0_undoMany u_a0_heardBy u_a0_heardAt u_a0_heardMany u_a0_tellsAt u_a0_tellMany u_a0_metAt u_a0_metBeat u_a0_round u_a0_z m_a0_lengths m_a0_many m_a0_s, [.ref q_a0, .int l1, .int l2], qE (some (.int out.1)) (wX12_rate G q_a0 q_a0_lengths q_a0_many q_a0_s out.2.1 out.2.2 u_a0_text u_a0_typed u_a0_next u_a0_token u_a0_place u_a0_value u_a0_fault u_a0_slow u_a0_deaf u_a0_told u_a0_w u_a0_kept u_a0_isKept u_a0_undos u_a0_undoMany u_a0_heardBy u_a0_heardAt u_a0_heardMany u_a0_tellsAt u_a0_tellMany u_a0_metAt u_a0_metBeat u_a0_round u_a0_z m_a0_lengths m_a0_many m_a0_s)) :=
  Ct.of [some (.ref q_a0), some (.int l1), some (.int l2), none, none, none, none] kX12_rate_p rfl rfl rfl ((tX12_rate_0 (X := (l, G, kX12_rate, wX12_rate G q_a0 q_a0_lengths q_a0_many q_a0_s v_a0_thrown v_a0_trace u_a0_text u_a0_typed u_a0_next u_a0_token u_a0_place u_a0_value u_a0_fault u_a0_slow u_a0_deaf u_a0_told u_a0_w u_a0_kept u_a0_isKept u_a0_undos u_a0_undoMany u_a0_heardBy u_a0_heardAt u_a0_heardMany u_a0_tellsAt u_a0_tellMany u_a0_metAt u_a0_metBeat u_a0_round u_a0_z m_a0_lengths m_a0_many m_a0_s, [.ref q_a0, .int l1, .int l2], qE (some (.int out.1)) (wX12_rate G q_a0 q_a0_lengths q_a0_many q_a0_s out.2.1 out.2.2 u_a0_text u_a0_typed u_a0_next u_a0_token u_a0_place u_a0_value u_a0_fault u_a0_slow u_a0_deaf u_a0_told u_a0_w u_a0_kept u_a0_isKept u_a0_undos u_a0_undoMany u_a0_heardBy u_a0_heardAt u_a0_heardMany u_a0_tellsAt u_a0_tellMany u_a0_metAt u_a0_metBeat u_a0_round u_a0_z m_a0_lengths m_a0_many m_a0_s))) rfl rfl hf))

theorem fk_X12_31_12 : Fk "FarDrumModel" 31 12 16 := ⟨RX12, TX12, 29, "FarDrumModel", rfl, inX12, by decide, kw_4_24, Or.inl rfl⟩
theorem fk_X12_34_12 : Fk "FarDrumModel" 34 12 17 := ⟨RX12, TX12, 29, "FarDrumModel", rfl, inX12, by decide, kw_4_25, Or.inl rfl⟩
def wX12_keep (G : GT) (q_a0 : Nat) (q_a0_isKept : Nat) (q_a0_kept : Nat) (q_a0_s : Nat) (v_a0_thrown : Int32) (u_a0_trace : Value) (u_a0_text : Value) (u_a0_typed : Value) (u_a0_next : Value) (u_a0_token : Value) (u_a0_place : Value) (u_a0_value : Value) (u_a0_fault : Value) (u_a0_many : Value) (u_a0_slow : Value) (u_a0_deaf : Value) (u_a0_lengths : Value) (u_a0_told : Value) (u_a0_w : Value) (u_a0_undos : Value) (u_a0_undoMany : Value) (u_a0_heardBy : Value) (u_a0_heardAt : Value) (u_a0_heardMany : Value) (u_a0_tellsAt : Value) (u_a0_tellMany : Value) (u_a0_metAt : Value) (u_a0_metBeat : Value) (u_a0_round : Value) (u_a0_z : Value) (m_a0_isKept : Nat → Int32) (m_a0_kept : Nat → Int32) (m_a0_s : Nat → Int32) : va_W := [(q_a0, .inr (12, [.int v_a0_thrown, u_a0_trace, u_a0_text, u_a0_typed, u_a0_next, u_a0_token, u_a0_place, u_a0_value, u_a0_fault, u_a0_many, u_a0_slow, u_a0_deaf, u_a0_lengths, u_a0_told, .ref q_a0_s, u_a0_w, .ref q_a0_kept, .ref q_a0_isKept, u_a0_undos, u_a0_undoMany, u_a0_heardBy, u_a0_heardAt, u_a0_heardMany, u_a0_tellsAt, u_a0_tellMany, u_a0_metAt, u_a0_metBeat, u_a0_round, u_a0_z])), (q_a0_isKept, .inl (G.2 2, 2, .inl m_a0_isKept)), (q_a0_kept, .inl (G.2 0, 70, .inl m_a0_kept)), (q_a0_s, .inl (G.2 0, 35, .inl m_a0_s))]
def kX12_keep : KT := (yX12_keep, cX12_keep, 3, (some .int), 1, 0, 0)
theorem kX12_keep_r : kr kX12_keep = (some .int) ∧ kmc kX12_keep = 0 ∧ kms kX12_keep = 0 := ⟨rfl, rfl, rfl⟩
theorem kX12_keep_p : plainName (ky kX12_keep).cls = true := by decide +kernel
def fX12_keep_18 (B18 : Int32 → (Nat → Int32) → Option (Int32 × Int32 × (Nat → Int32) × (Nat → Int32))) (K18_47 : (Nat → Int32) → Option (Int32 × Int32 × (Nat → Int32) × (Nat → Int32))) (l1 : Int32) (l2 : Int32) (m_a0_kept : Nat → Int32) (m_a0_s : Nat → Int32) : Option (Int32 × Int32 × (Nat → Int32) × (Nat → Int32)) :=
  if (35 : Int32) ≤ l2 then (K18_47 m_a0_kept)
  else (rdi 35 m_a0_s l2 fun x39 =>
  wri 70 m_a0_kept (((35 : Int32) * l1) + l2) x39 fun g40 =>
  B18 (l2 + (1 : Int32)) g40)
def fX12_keep_L18 (l1 : Int32) (m_a0_s : Nat → Int32) (K18_47 : (Nat → Int32) → Option (Int32 × Int32 × (Nat → Int32) × (Nat → Int32))) : Nat → Int32 → (Nat → Int32) → Option (Int32 × Int32 × (Nat → Int32) × (Nat → Int32))
  | 0, _, _ => none
  | n + 1, l2, m_a0_kept => fX12_keep_18 (fX12_keep_L18 l1 m_a0_s K18_47 n) K18_47 l1 l2 m_a0_kept m_a0_s
def fX12_keep (N : Nat) (l1 : Int32) (m_a0_isKept : Nat → Int32) (m_a0_kept : Nat → Int32) (m_a0_s : Nat → Int32) : Option (Int32 × Int32 × (Nat → Int32) × (Nat → Int32)) :=
  Option.bind (fX12_in l1 (0 : Int32) (1 : Int32)) fun o8 =>
  if o8 = 0 then (some ((-1 : Int32), (0 : Int32), m_a0_isKept, m_a0_kept))
  else (fX12_keep_L18 l1 m_a0_s
      (fun m_a0_keptk18_47 => wri 2 m_a0_isKept l1 (vp_nar .boolean (1 : Int32)) fun g53 =>
  some (m_a0_s 0, (0 : Int32), g53, m_a0_keptk18_47)) N (0 : Int32) m_a0_kept)
section
variable {X : XT} {N : Nat} {q_a0 : Nat} {q_a0_isKept : Nat} {q_a0_kept : Nat} {q_a0_s : Nat} {v_a0_thrown : Int32} {u_a0_trace : Value} {u_a0_text : Value} {u_a0_typed : Value} {u_a0_next : Value} {u_a0_token : Value} {u_a0_place : Value} {u_a0_value : Value} {u_a0_fault : Value} {u_a0_many : Value} {u_a0_slow : Value} {u_a0_deaf : Value} {u_a0_lengths : Value} {u_a0_told : Value} {u_a0_w : Value} {u_a0_undos : Value} {u_a0_undoMany : Value} {u_a0_heardBy : Value} {u_a0_heardAt : Value} {u_a0_heardMany : Value} {u_a0_tellsAt : Value} {u_a0_tellMany : Value} {u_a0_metAt : Value} {u_a0_metBeat : Value} {u_a0_round : Value} {u_a0_z : Value} {m_a0_isKept : Nat → Int32} {m_a0_kept : Nat → Int32} {m_a0_s : Nat → Int32} {l1 : Int32} {l2 : Int32}
set_option maxRecDepth 20000 in
theorem tX12_keep_18 {out : Int32 × Int32 × (Nat → Int32) × (Nat → Int32)} (hX : xk X = kX12_keep) (hQ : xQ X = qE (some (.int out.1)) (wX12_keep (xG X) q_a0 q_a0_isKept q_a0_kept q_a0_s out.2.1 u_a0_trace u_a0_text u_a0_typed u_a0_next u_a0_token u_a0_place u_a0_value u_a0_fault u_a0_many u_a0_slow u_a0_deaf u_a0_lengths u_a0_told u_a0_w u_a0_undos u_a0_undoMany u_a0_heardBy u_a0_heardAt u_a0_heardMany u_a0_tellsAt u_a0_tellMany u_a0_metAt u_a0_metBeat u_a0_round u_a0_z out.2.2.1 out.2.2.2 m_a0_s)) {B18 : Int32 → (Nat → Int32) → Option (Int32 × Int32 × (Nat → Int32) × (Nat → Int32))} {K18_47 : (Nat → Int32) → Option (Int32 × Int32 × (Nat → Int32) × (Nat → Int32))} (hB18 : ∀ (l2 : Int32) (m_a0_kept : Nat → Int32), B18 l2 m_a0_kept = some out → V X cX12_keep "FarDrumModel" 0 0 (wX12_keep (xG X) q_a0 q_a0_isKept q_a0_kept q_a0_s v_a0_thrown u_a0_trace u_a0_text u_a0_typed u_a0_next u_a0_token u_a0_place u_a0_value u_a0_fault u_a0_many u_a0_slow u_a0_deaf u_a0_lengths u_a0_told u_a0_w u_a0_undos u_a0_undoMany u_a0_heardBy u_a0_heardAt u_a0_heardMany u_a0_tellsAt u_a0_tellMany u_a0_metAt u_a0_metBeat u_a0_round u_a0_z m_a0_isKept m_a0_kept m_a0_s) [some (.ref q_a0), some (.int l1), some (.int l2)] 18 []) (hK18_47 : ∀ (m_a0_kept : Nat → Int32), K18_47 m_a0_kept = some out → V X cX12_keep "FarDrumModel" 0 0 (wX12_keep (xG X) q_a0 q_a0_isKept q_a0_kept q_a0_s v_a0_thrown u_a0_trace u_a0_text u_a0_typed u_a0_next u_a0_token u_a0_place u_a0_value u_a0_fault u_a0_many u_a0_slow u_a0_deaf u_a0_lengths u_a0_told u_a0_w u_a0_undos u_a0_undoMany u_a0_heardBy u_a0_heardAt u_a0_heardMany u_a0_tellsAt u_a0_tellMany u_a0_metAt u_a0_metBeat u_a0_round u_a0_z m_a0_isKept m_a0_kept m_a0_s) [some (.ref q_a0), some (.int l1), none] 47 []) (hf : fX12_keep_18 B18 K18_47 l1 l2 m_a0_kept m_a0_s = some out) : V X cX12_keep "FarDrumModel" 0 0 (wX12_keep (xG X) q_a0 q_a0_isKept q_a0_kept q_a0_s v_a0_thrown u_a0_trace u_a0_text u_a0_typed u_a0_next u_a0_token u_a0_place u_a0_value u_a0_fault u_a0_many u_a0_slow u_a0_deaf u_a0_lengths u_a0_told u_a0_w u_a0_undos u_a0_undoMany u_a0_heardBy u_a0_heardAt u_a0_heardMany u_a0_tellsAt u_a0_tellMany u_a0_metAt u_a0_metBeat u_a0_round u_a0_z m_a0_isKept m_a0_kept m_a0_s) [some (.ref q_a0), some (.int l1), some (.int l2)] 18 [] := by
  unfold fX12_keep_18 at hf
  refine V.iloadn (pc := 18) dX12_keep_18 rfl ?_
  refine V.bipush (pc := 19) (v := 35) dX12_keep_19 (by decide) ?_
  refine V.icmp_ge (pc := 21) (tgt := 47) dX12_keep_21 (by decide) hf (fun hf => ?_) (fun hf => ?_)
  · refine V.mask (pc := 47) [true, true, false] rfl rfl ?_
    exact hK18_47 _ hf
  · refine V.aloadn (pc := 24) dX12_keep_24 rfl ?_
    refine V.getf (q := 0) (pc := 25) dX12_keep_25 fk_X12_31_12 rfl rfl ?_
    refine V.bipush (pc := 28) (v := 35) dX12_keep_28 (by decide) ?_
    refine V.iloadn (pc := 30) dX12_keep_30 rfl ?_
    refine V.imul (pc := 31) dX12_keep_31 ?_
    refine V.iloadn (pc := 32) dX12_keep_32 rfl ?_
    refine V.iadd (pc := 33) dX12_keep_33 ?_
    refine V.aloadn (pc := 34) dX12_keep_34 rfl ?_
    refine V.getf (q := 0) (pc := 35) dX12_keep_35 fk_X12_25_12 rfl rfl ?_
    refine V.iloadn (pc := 38) dX12_keep_38 rfl ?_
    refine V.iald (pc := 39) (q := 3) dX12_keep_39 rfl hf (fun x39 hf => ?_)
    refine V.iast (pc := 40) (q := 2) (wd' := fun g40 => wX12_keep (xG X) q_a0 q_a0_isKept q_a0_kept q_a0_s v_a0_thrown u_a0_trace u_a0_text u_a0_typed u_a0_next u_a0_token u_a0_place u_a0_value u_a0_fault u_a0_many u_a0_slow u_a0_deaf u_a0_lengths u_a0_told u_a0_w u_a0_undos u_a0_undoMany u_a0_heardBy u_a0_heardAt u_a0_heardMany u_a0_tellsAt u_a0_tellMany u_a0_metAt u_a0_metBeat u_a0_round u_a0_z m_a0_isKept g40 m_a0_s) dX12_keep_40 rfl hf (fun _ => rfl) (fun g40 hf => ?_)
    refine V.iinc (pc := 41) (v := 1) dX12_keep_41 rfl rfl (by decide) rfl ?_
    refine V.goto (pc := 44) (tgt := 18) dX12_keep_44 (by decide) ?_
    exact hB18 _ _ hf
theorem tX12_keep_L18 {out : Int32 × Int32 × (Nat → Int32) × (Nat → Int32)} (hX : xk X = kX12_keep) (hQ : xQ X = qE (some (.int out.1)) (wX12_keep (xG X) q_a0 q_a0_isKept q_a0_kept q_a0_s out.2.1 u_a0_trace u_a0_text u_a0_typed u_a0_next u_a0_token u_a0_place u_a0_value u_a0_fault u_a0_many u_a0_slow u_a0_deaf u_a0_lengths u_a0_told u_a0_w u_a0_undos u_a0_undoMany u_a0_heardBy u_a0_heardAt u_a0_heardMany u_a0_tellsAt u_a0_tellMany u_a0_metAt u_a0_metBeat u_a0_round u_a0_z out.2.2.1 out.2.2.2 m_a0_s)) {K18_47 : (Nat → Int32) → Option (Int32 × Int32 × (Nat → Int32) × (Nat → Int32))} (hK18_47 : ∀ (m_a0_kept : Nat → Int32), K18_47 m_a0_kept = some out → V X cX12_keep "FarDrumModel" 0 0 (wX12_keep (xG X) q_a0 q_a0_isKept q_a0_kept q_a0_s v_a0_thrown u_a0_trace u_a0_text u_a0_typed u_a0_next u_a0_token u_a0_place u_a0_value u_a0_fault u_a0_many u_a0_slow u_a0_deaf u_a0_lengths u_a0_told u_a0_w u_a0_undos u_a0_undoMany u_a0_heardBy u_a0_heardAt u_a0_heardMany u_a0_tellsAt u_a0_tellMany u_a0_metAt u_a0_metBeat u_a0_round u_a0_z m_a0_isKept m_a0_kept m_a0_s) [some (.ref q_a0), some (.int l1), none] 47 []) : ∀ (n : Nat) (l2 : Int32) (m_a0_kept : Nat → Int32), fX12_keep_L18 l1 m_a0_s K18_47 n l2 m_a0_kept = some out → V X cX12_keep "FarDrumModel" 0 0 (wX12_keep (xG X) q_a0 q_a0_isKept q_a0_kept q_a0_s v_a0_thrown u_a0_trace u_a0_text u_a0_typed u_a0_next u_a0_token u_a0_place u_a0_value u_a0_fault u_a0_many u_a0_slow u_a0_deaf u_a0_lengths u_a0_told u_a0_w u_a0_undos u_a0_undoMany u_a0_heardBy u_a0_heardAt u_a0_heardMany u_a0_tellsAt u_a0_tellMany u_a0_metAt u_a0_metBeat u_a0_round u_a0_z m_a0_isKept m_a0_kept m_a0_s) [some (.ref q_a0), some (.int l1), some (.int l2)] 18 [] := by
  intro n
  induction n with
  | zero => intro l2 m_a0_kept hf; cases hf
  | succ n ih => intro l2 m_a0_kept hf; exact tX12_keep_18 hX hQ ih hK18_47 hf
set_option maxRecDepth 20000 in
theorem tX12_keep_0 {out : Int32 × Int32 × (Nat → Int32) × (Nat → Int32)} (hX : xk X = kX12_keep) (hQ : xQ X = qE (some (.int out.1)) (wX12_keep (xG X) q_a0 q_a0_isKept q_a0_kept q_a0_s out.2.1 u_a0_trace u_a0_text u_a0_typed u_a0_next u_a0_token u_a0_place u_a0_value u_a0_fault u_a0_many u_a0_slow u_a0_deaf u_a0_lengths u_a0_told u_a0_w u_a0_undos u_a0_undoMany u_a0_heardBy u_a0_heardAt u_a0_heardMany u_a0_tellsAt u_a0_tellMany u_a0_metAt u_a0_metBeat u_a0_round u_a0_z out.2.2.1 out.2.2.2 m_a0_s)) (hf : fX12_keep N l1 m_a0_isKept m_a0_kept m_a0_s = some out) : V X cX12_keep "FarDrumModel" 0 0 (wX12_keep (xG X) q_a0 q_a0_isKept q_a0_kept q_a0_s v_a0_thrown u_a0_trace u_a0_text u_a0_typed u_a0_next u_a0_token u_a0_place u_a0_value u_a0_fault u_a0_many u_a0_slow u_a0_deaf u_a0_lengths u_a0_told u_a0_w u_a0_undos u_a0_undoMany u_a0_heardBy u_a0_heardAt u_a0_heardMany u_a0_tellsAt u_a0_tellMany u_a0_metAt u_a0_metBeat u_a0_round u_a0_z m_a0_isKept m_a0_kept m_a0_s) [some (.ref q_a0), some (.int l1), none] 0 [] := by
  unfold fX12_keep at hf
  refine V.aloadn (pc := 0) dX12_keep_0 rfl ?_
  refine V.iconst (pc := 1) (v := 0) dX12_keep_1 (by decide) ?_
  refine V.putf (q := 0) (wd' := wX12_keep (xG X) q_a0 q_a0_isKept q_a0_kept q_a0_s (0 : Int32) u_a0_trace u_a0_text u_a0_typed u_a0_next u_a0_token u_a0_place u_a0_value u_a0_fault u_a0_many u_a0_slow u_a0_deaf u_a0_lengths u_a0_told u_a0_w u_a0_undos u_a0_undoMany u_a0_heardBy u_a0_heardAt u_a0_heardMany u_a0_tellsAt u_a0_tellMany u_a0_metAt u_a0_metBeat u_a0_round u_a0_z m_a0_isKept m_a0_kept m_a0_s) (pc := 2) dX12_keep_2 pk_X12_62_12 rfl rfl rfl rfl rfl ?_
  refine V.iloadn (pc := 5) dX12_keep_5 rfl ?_
  refine V.iconst (pc := 6) (v := 0) dX12_keep_6 (by decide) ?_
  refine V.iconst (pc := 7) (v := 1) dX12_keep_7 (by decide) ?_
  refine V.callSi (pc := 8) [.int l1, .int (0 : Int32), .int (1 : Int32)] (st := []) hf (fun _ h => oX12_in  (l0 := l1) (l1 := (0 : Int32)) (l2 := (1 : Int32)) h) lkS_X12_66 dX12_keep_8 hX rfl ⟨rfl, rfl⟩ ⟨rfl, rfl⟩ rfl rfl rfl (fun o8 hf => ?_)
  refine V.if_ne (pc := 11) (tgt := 16) dX12_keep_11 (by decide) hf (fun hf => ?_) (fun hf => ?_)
  · refine V.iconst (pc := 16) (v := 0) dX12_keep_16 (by decide) ?_
    refine V.istoren (pc := 17) dX12_keep_17 rfl rfl rfl ?_
    refine tX12_keep_L18 hX hQ ?_ _ _ _ hf
    · intro m_a0_keptk18_47 hf
      refine V.aloadn (pc := 47) dX12_keep_47 rfl ?_
      refine V.getf (q := 0) (pc := 48) dX12_keep_48 fk_X12_34_12 rfl rfl ?_
      refine V.iloadn (pc := 51) dX12_keep_51 rfl ?_
      refine V.iconst (pc := 52) (v := 1) dX12_keep_52 (by decide) ?_
      refine V.zast (pc := 53) (q := 1) (wd' := fun g53 => wX12_keep (xG X) q_a0 q_a0_isKept q_a0_kept q_a0_s (0 : Int32) u_a0_trace u_a0_text u_a0_typed u_a0_next u_a0_token u_a0_place u_a0_value u_a0_fault u_a0_many u_a0_slow u_a0_deaf u_a0_lengths u_a0_told u_a0_w u_a0_undos u_a0_undoMany u_a0_heardBy u_a0_heardAt u_a0_heardMany u_a0_tellsAt u_a0_tellMany u_a0_metAt u_a0_metBeat u_a0_round u_a0_z g53 m_a0_keptk18_47 m_a0_s) dX12_keep_53 rfl hf (fun _ => rfl) (fun g53 hf => ?_)
      refine V.aloadn (pc := 54) dX12_keep_54 rfl ?_
      refine V.getf (q := 0) (pc := 55) dX12_keep_55 fk_X12_25_12 rfl rfl ?_
      refine V.iconst (pc := 58) (v := 0) dX12_keep_58 (by decide) ?_
      refine V.ialdC (pc := 59) (q := 3) 0 dX12_keep_59 rfl ⟨vp_c (by decide), by decide⟩ ?_
      exact V.iretE (pc := 60) hX kX12_keep_r hQ dX12_keep_60 (by cases hf; rfl) (by cases hf; rfl)
  · refine V.iconst (pc := 14) (v := -1) dX12_keep_14 (by decide) ?_
    exact V.iretE (pc := 15) hX kX12_keep_r hQ dX12_keep_15 (by cases hf; rfl) (by cases hf; rfl)
end
theorem oX12_keep {l : Launch} {G : GT} {N : Nat} {q_a0 : Nat} {q_a0_isKept : Nat} {q_a0_kept : Nat} {q_a0_s : Nat} {v_a0_thrown : Int32} {u_a0_trace : Value} {u_a0_text : Value} {u_a0_typed : Value} {u_a0_next : Value} {u_a0_token : Value} {u_a0_place : Value} {u_a0_value : Value} {u_a0_fault : Value} {u_a0_many : Value} {u_a0_slow : Value} {u_a0_deaf : Value} {u_a0_lengths : Value} {u_a0_told : Value} {u_a0_w : Value} {u_a0_undos : Value} {u_a0_undoMany : Value} {u_a0_heardBy : Value} {u_a0_heardAt : Value} {u_a0_heardMany : Value} {u_a0_tellsAt : Value} {u_a0_tellMany : Value} {u_a0_metAt : Value} {u_a0_metBeat : Value} {u_a0_round : Value} {u_a0_z : Value} {m_a0_isKept : Nat → Int32} {m_a0_kept : Nat → Int32} {m_a0_s : Nat → Int32} {l1 : Int32} {out : Int32 × Int32 × (Nat → Int32) × (Nat → Int32)} (hf : fX12_keep N l1 m_a0_isKept m_a0_kept m_a0_s = some out) : Ct (l, G, kX12_keep, wX12_keep G q_a0 q_a0_isKept q_a0_kept q_a0_s v_a0_thrown u_a0_trace u_a0_text u_a0_typed u_a0_next u_a0_token u_a0_place u_a0_value u_a0_fault u_a0_many u_a0_slow u_a0_deaf u_a0_lengths u_a0_told u_a0_w u_a0_undos u_a0_undoMany u_a0_heardBy u_a0_heardAt u_a0_heardMany u_a0_tellsAt u_a0_tellMany u_a0_metAt u_a0_metBeat u_a0_round u_a0_z m_a0_isKept m_a0_kept m_a0_s, [.ref q_a0, .int l1], qE (some (.int out.1)) (wX12_keep G q_a0 q_a0_isKept q_a0_kept q_a0_s out.2.1 u_a0_trace u_a0_text u_a0_typed u_a0_next u_a0_token u_a0_place u_a0_value u_a0_fault u_a0_many u_a0_slow u_a0_deaf u_a0_lengths u_a0_told u_a0_w u_a0_undos u_a0_undoMany u_a0_heardBy u_a0_heardAt u_a0_heardMany u_a0_tellsAt u_a0_tellMany u_a0_metAt u_a0_metBeat u_a0_round u_a0_z out.2.2.1 out.2.2.2 m_a0_s)) :=
  Ct.of [some (.ref q_a0), some (.int l1), none] kX12_keep_p rfl rfl rfl ((tX12_keep_0 (X := (l, G, kX12_keep, wX12_keep G q_a0 q_a0_isKept q_a0_kept q_a0_s v_a0_thrown u_a0_trace u_a0_text u_a0_typed u_a0_next u_a0_token u_a0_place u_a0_value u_a0_fault u_a0_many u_a0_slow u_a0_deaf u_a0_lengths u_a0_told u_a0_w u_a0_undos u_a0_undoMany u_a0_heardBy u_a0_heardAt u_a0_heardMany u_a0_tellsAt u_a0_tellMany u_a0_metAt u_a0_metBeat u_a0_round u_a0_z m_a0_isKept m_a0_kept m_a0_s, [.ref q_a0, .int l1], qE (some (.int out.1)) (wX12_keep G q_a0 q_a0_isKept q_a0_kept q_a0_s out.2.1 u_a0_trace u_a0_text u_a0_typed u_a0_next u_a0_token u_a0_place u_a0_value u_a0_fault u_a0_many u_a0_slow u_a0_deaf u_a0_lengths u_a0_told u_a0_w u_a0_undos u_a0_undoMany u_a0_heardBy u_a0_heardAt u_a0_heardMany u_a0_tellsAt u_a0_tellMany u_a0_metAt u_a0_metBeat u_a0_round u_a0_z out.2.2.1 out.2.2.2 m_a0_s))) rfl rfl hf))

def wX12_back (G : GT) (q_a0 : Nat) (q_a0_isKept : Nat) (q_a0_kept : Nat) (q_a0_s : Nat) (v_a0_thrown : Int32) (u_a0_trace : Value) (u_a0_text : Value) (u_a0_typed : Value) (u_a0_next : Value) (u_a0_token : Value) (u_a0_place : Value) (u_a0_value : Value) (u_a0_fault : Value) (u_a0_many : Value) (u_a0_slow : Value) (u_a0_deaf : Value) (u_a0_lengths : Value) (u_a0_told : Value) (u_a0_w : Value) (u_a0_undos : Value) (v_a0_undoMany : Int32) (u_a0_heardBy : Value) (u_a0_heardAt : Value) (u_a0_heardMany : Value) (u_a0_tellsAt : Value) (u_a0_tellMany : Value) (u_a0_metAt : Value) (u_a0_metBeat : Value) (u_a0_round : Value) (u_a0_z : Value) (m_a0_isKept : Nat → Int32) (m_a0_kept : Nat → Int32) (m_a0_s : Nat → Int32) : va_W := [(q_a0, .inr (12, [.int v_a0_thrown, u_a0_trace, u_a0_text, u_a0_typed, u_a0_next, u_a0_token, u_a0_place, u_a0_value, u_a0_fault, u_a0_many, u_a0_slow, u_a0_deaf, u_a0_lengths, u_a0_told, .ref q_a0_s, u_a0_w, .ref q_a0_kept, .ref q_a0_isKept, u_a0_undos, .int v_a0_undoMany, u_a0_heardBy, u_a0_heardAt, u_a0_heardMany, u_a0_tellsAt, u_a0_tellMany, u_a0_metAt, u_a0_metBeat, u_a0_round, u_a0_z])), (q_a0_isKept, .inl (G.2 2, 2, .inl m_a0_isKept)), (q_a0_kept, .inl (G.2 0, 70, .inl m_a0_kept)), (q_a0_s, .inl (G.2 0, 35, .inl m_a0_s))]
def kX12_back : KT := (yX12_back, cX12_back, 3, (some .int), 1, 0, 0)
theorem kX12_back_r : kr kX12_back = (some .int) ∧ kmc kX12_back = 0 ∧ kms kX12_back = 0 := ⟨rfl, rfl, rfl⟩
theorem kX12_back_p : plainName (ky kX12_back).cls = true := by decide +kernel
def fX12_back_30 (B30 : Int32 → (Nat → Int32) → Option (Int32 × Int32 × Int32 × (Nat → Int32))) (K30_59 : (Nat → Int32) → Option (Int32 × Int32 × Int32 × (Nat → Int32))) (l1 : Int32) (l2 : Int32) (m_a0_kept : Nat → Int32) (m_a0_s : Nat → Int32) : Option (Int32 × Int32 × Int32 × (Nat → Int32)) :=
  if (35 : Int32) ≤ l2 then (K30_59 m_a0_s)
  else (rdi 70 m_a0_kept (((35 : Int32) * l1) + l2) fun x51 =>
  wri 35 m_a0_s l2 x51 fun g52 =>
  B30 (l2 + (1 : Int32)) g52)
def fX12_back_L30 (l1 : Int32) (m_a0_kept : Nat → Int32) (K30_59 : (Nat → Int32) → Option (Int32 × Int32 × Int32 × (Nat → Int32))) : Nat → Int32 → (Nat → Int32) → Option (Int32 × Int32 × Int32 × (Nat → Int32))
  | 0, _, _ => none
  | n + 1, l2, m_a0_s => fX12_back_30 (fX12_back_L30 l1 m_a0_kept K30_59 n) K30_59 l1 l2 m_a0_kept m_a0_s
def fX12_back (N : Nat) (l1 : Int32) (v_a0_undoMany : Int32) (m_a0_isKept : Nat → Int32) (m_a0_kept : Nat → Int32) (m_a0_s : Nat → Int32) : Option (Int32 × Int32 × Int32 × (Nat → Int32)) :=
  Option.bind (fX12_in l1 (0 : Int32) (1 : Int32)) fun o8 =>
  if o8 = 0 then (some ((-1 : Int32), (0 : Int32), v_a0_undoMany, m_a0_s))
  else (rdi 2 m_a0_isKept l1 fun x21 =>
  if x21 = 0 then (some ((-2 : Int32), (0 : Int32), v_a0_undoMany, m_a0_s))
  else (fX12_back_L30 l1 m_a0_kept
      (fun m_a0_sk30_59 => some (m_a0_sk30_59 0, (0 : Int32), (0 : Int32), m_a0_sk30_59)) N (0 : Int32) m_a0_s))
section
variable {X : XT} {N : Nat} {q_a0 : Nat} {q_a0_isKept : Nat} {q_a0_kept : Nat} {q_a0_s : Nat} {v_a0_thrown : Int32} {u_a0_trace : Value} {u_a0_text : Value} {u_a0_typed : Value} {u_a0_next : Value} {u_a0_token : Value} {u_a0_place : Value} {u_a0_value : Value} {u_a0_fault : Value} {u_a0_many : Value} {u_a0_slow : Value} {u_a0_deaf : Value} {u_a0_lengths : Value} {u_a0_told : Value} {u_a0_w : Value} {u_a0_undos : Value} {v_a0_undoMany : Int32} {u_a0_heardBy : Value} {u_a0_heardAt : Value} {u_a0_heardMany : Value} {u_a0_tellsAt : Value} {u_a0_tellMany : Value} {u_a0_metAt : Value} {u_a0_metBeat : Value} {u_a0_round : Value} {u_a0_z : Value} {m_a0_isKept : Nat → Int32} {m_a0_kept : Nat → Int32} {m_a0_s : Nat → Int32} {l1 : Int32} {l2 : Int32}
set_option maxRecDepth 20000 in
theorem tX12_back_30 {out : Int32 × Int32 × Int32 × (Nat → Int32)} (hX : xk X = kX12_back) (hQ : xQ X = qE (some (.int out.1)) (wX12_back (xG X) q_a0 q_a0_isKept q_a0_kept q_a0_s out.2.1 u_a0_trace u_a0_text u_a0_typed u_a0_next u_a0_token u_a0_place u_a0_value u_a0_fault u_a0_many u_a0_slow u_a0_deaf u_a0_lengths u_a0_told u_a0_w u_a0_undos out.2.2.1 u_a0_heardBy u_a0_heardAt u_a0_heardMany u_a0_tellsAt u_a0_tellMany u_a0_metAt u_a0_metBeat u_a0_round u_a0_z m_a0_isKept m_a0_kept out.2.2.2)) {B30 : Int32 → (Nat → Int32) → Option (Int32 × Int32 × Int32 × (Nat → Int32))} {K30_59 : (Nat → Int32) → Option (Int32 × Int32 × Int32 × (Nat → Int32))} (hB30 : ∀ (l2 : Int32) (m_a0_s : Nat → Int32), B30 l2 m_a0_s = some out → V X cX12_back "FarDrumModel" 0 0 (wX12_back (xG X) q_a0 q_a0_isKept q_a0_kept q_a0_s v_a0_thrown u_a0_trace u_a0_text u_a0_typed u_a0_next u_a0_token u_a0_place u_a0_value u_a0_fault u_a0_many u_a0_slow u_a0_deaf u_a0_lengths u_a0_told u_a0_w u_a0_undos v_a0_undoMany u_a0_heardBy u_a0_heardAt u_a0_heardMany u_a0_tellsAt u_a0_tellMany u_a0_metAt u_a0_metBeat u_a0_round u_a0_z m_a0_isKept m_a0_kept m_a0_s) [some (.ref q_a0), some (.int l1), some (.int l2)] 30 []) (hK30_59 : ∀ (m_a0_s : Nat → Int32), K30_59 m_a0_s = some out → V X cX12_back "FarDrumModel" 0 0 (wX12_back (xG X) q_a0 q_a0_isKept q_a0_kept q_a0_s v_a0_thrown u_a0_trace u_a0_text u_a0_typed u_a0_next u_a0_token u_a0_place u_a0_value u_a0_fault u_a0_many u_a0_slow u_a0_deaf u_a0_lengths u_a0_told u_a0_w u_a0_undos v_a0_undoMany u_a0_heardBy u_a0_heardAt u_a0_heardMany u_a0_tellsAt u_a0_tellMany u_a0_metAt u_a0_metBeat u_a0_round u_a0_z m_a0_isKept m_a0_kept m_a0_s) [some (.ref q_a0), none, none] 59 []) (hf : fX12_back_30 B30 K30_59 l1 l2 m_a0_kept m_a0_s = some out) : V X cX12_back "FarDrumModel" 0 0 (wX12_back (xG X) q_a0 q_a0_isKept q_a0_kept q_a0_s v_a0_thrown u_a0_trace u_a0_text u_a0_typed u_a0_next u_a0_token u_a0_place u_a0_value u_a0_fault u_a0_many u_a0_slow u_a0_deaf u_a0_lengths u_a0_told u_a0_w u_a0_undos v_a0_undoMany u_a0_heardBy u_a0_heardAt u_a0_heardMany u_a0_tellsAt u_a0_tellMany u_a0_metAt u_a0_metBeat u_a0_round u_a0_z m_a0_isKept m_a0_kept m_a0_s) [some (.ref q_a0), some (.int l1), some (.int l2)] 30 [] := by
  unfold fX12_back_30 at hf
  refine V.iloadn (pc := 30) dX12_back_30 rfl ?_
  refine V.bipush (pc := 31) (v := 35) dX12_back_31 (by decide) ?_
  refine V.icmp_ge (pc := 33) (tgt := 59) dX12_back_33 (by decide) hf (fun hf => ?_) (fun hf => ?_)
  · refine V.mask (pc := 59) [true, false, false] rfl rfl ?_
    exact hK30_59 _ hf
  · refine V.aloadn (pc := 36) dX12_back_36 rfl ?_
    refine V.getf (q := 0) (pc := 37) dX12_back_37 fk_X12_25_12 rfl rfl ?_
    refine V.iloadn (pc := 40) dX12_back_40 rfl ?_
    refine V.aloadn (pc := 41) dX12_back_41 rfl ?_
    refine V.getf (q := 0) (pc := 42) dX12_back_42 fk_X12_31_12 rfl rfl ?_
    refine V.bipush (pc := 45) (v := 35) dX12_back_45 (by decide) ?_
    refine V.iloadn (pc := 47) dX12_back_47 rfl ?_
    refine V.imul (pc := 48) dX12_back_48 ?_
    refine V.iloadn (pc := 49) dX12_back_49 rfl ?_
    refine V.iadd (pc := 50) dX12_back_50 ?_
    refine V.iald (pc := 51) (q := 2) dX12_back_51 rfl hf (fun x51 hf => ?_)
    refine V.iast (pc := 52) (q := 3) (wd' := fun g52 => wX12_back (xG X) q_a0 q_a0_isKept q_a0_kept q_a0_s v_a0_thrown u_a0_trace u_a0_text u_a0_typed u_a0_next u_a0_token u_a0_place u_a0_value u_a0_fault u_a0_many u_a0_slow u_a0_deaf u_a0_lengths u_a0_told u_a0_w u_a0_undos v_a0_undoMany u_a0_heardBy u_a0_heardAt u_a0_heardMany u_a0_tellsAt u_a0_tellMany u_a0_metAt u_a0_metBeat u_a0_round u_a0_z m_a0_isKept m_a0_kept g52) dX12_back_52 rfl hf (fun _ => rfl) (fun g52 hf => ?_)
    refine V.iinc (pc := 53) (v := 1) dX12_back_53 rfl rfl (by decide) rfl ?_
    refine V.goto (pc := 56) (tgt := 30) dX12_back_56 (by decide) ?_
    exact hB30 _ _ hf
theorem tX12_back_L30 {out : Int32 × Int32 × Int32 × (Nat → Int32)} (hX : xk X = kX12_back) (hQ : xQ X = qE (some (.int out.1)) (wX12_back (xG X) q_a0 q_a0_isKept q_a0_kept q_a0_s out.2.1 u_a0_trace u_a0_text u_a0_typed u_a0_next u_a0_token u_a0_place u_a0_value u_a0_fault u_a0_many u_a0_slow u_a0_deaf u_a0_lengths u_a0_told u_a0_w u_a0_undos out.2.2.1 u_a0_heardBy u_a0_heardAt u_a0_heardMany u_a0_tellsAt u_a0_tellMany u_a0_metAt u_a0_metBeat u_a0_round u_a0_z m_a0_isKept m_a0_kept out.2.2.2)) {K30_59 : (Nat → Int32) → Option (Int32 × Int32 × Int32 × (Nat → Int32))} (hK30_59 : ∀ (m_a0_s : Nat → Int32), K30_59 m_a0_s = some out → V X cX12_back "FarDrumModel" 0 0 (wX12_back (xG X) q_a0 q_a0_isKept q_a0_kept q_a0_s v_a0_thrown u_a0_trace u_a0_text u_a0_typed u_a0_next u_a0_token u_a0_place u_a0_value u_a0_fault u_a0_many u_a0_slow u_a0_deaf u_a0_lengths u_a0_told u_a0_w u_a0_undos v_a0_undoMany u_a0_heardBy u_a0_heardAt u_a0_heardMany u_a0_tellsAt u_a0_tellMany u_a0_metAt u_a0_metBeat u_a0_round u_a0_z m_a0_isKept m_a0_kept m_a0_s) [some (.ref q_a0), none, none] 59 []) : ∀ (n : Nat) (l2 : Int32) (m_a0_s : Nat → Int32), fX12_back_L30 l1 m_a0_kept K30_59 n l2 m_a0_s = some out → V X cX12_back "FarDrumModel" 0 0 (wX12_back (xG X) q_a0 q_a0_isKept q_a0_kept q_a0_s v_a0_thrown u_a0_trace u_a0_text u_a0_typed u_a0_next u_a0_token u_a0_place u_a0_value u_a0_fault u_a0_many u_a0_slow u_a0_deaf u_a0_lengths u_a0_told u_a0_w u_a0_undos v_a0_undoMany u_a0_heardBy u_a0_heardAt u_a0_heardMany u_a0_tellsAt u_a0_tellMany u_a0_metAt u_a0_metBeat u_a0_round u_a0_z m_a0_isKept m_a0_kept m_a0_s) [some (.ref q_a0), some (.int l1), some (.int l2)] 30 [] := by
  intro n
  induction n with
  | zero => intro l2 m_a0_s hf; cases hf
  | succ n ih => intro l2 m_a0_s hf; exact tX12_back_30 hX hQ ih hK30_59 hf
set_option maxRecDepth 20000 in
theorem tX12_back_0 {out : Int32 × Int32 × Int32 × (Nat → Int32)} (hX : xk X = kX12_back) (hQ : xQ X = qE (some (.int out.1)) (wX12_back (xG X) q_a0 q_a0_isKept q_a0_kept q_a0_s out.2.1 u_a0_trace u_a0_text u_a0_typed u_a0_next u_a0_token u_a0_place u_a0_value u_a0_fault u_a0_many u_a0_slow u_a0_deaf u_a0_lengths u_a0_told u_a0_w u_a0_undos out.2.2.1 u_a0_heardBy u_a0_heardAt u_a0_heardMany u_a0_tellsAt u_a0_tellMany u_a0_metAt u_a0_metBeat u_a0_round u_a0_z m_a0_isKept m_a0_kept out.2.2.2)) (hf : fX12_back N l1 v_a0_undoMany m_a0_isKept m_a0_kept m_a0_s = some out) : V X cX12_back "FarDrumModel" 0 0 (wX12_back (xG X) q_a0 q_a0_isKept q_a0_kept q_a0_s v_a0_thrown u_a0_trace u_a0_text u_a0_typed u_a0_next u_a0_token u_a0_place u_a0_value u_a0_fault u_a0_many u_a0_slow u_a0_deaf u_a0_lengths u_a0_told u_a0_w u_a0_undos v_a0_undoMany u_a0_heardBy u_a0_heardAt u_a0_heardMany u_a0_tellsAt u_a0_tellMany u_a0_metAt u_a0_metBeat u_a0_round u_a0_z m_a0_isKept m_a0_kept m_a0_s) [some (.ref q_a0), some (.int l1), none] 0 [] := by
  unfold fX12_back at hf
  refine V.aloadn (pc := 0) dX12_back_0 rfl ?_
  refine V.iconst (pc := 1) (v := 0) dX12_back_1 (by decide) ?_
  refine V.putf (q := 0) (wd' := wX12_back (xG X) q_a0 q_a0_isKept q_a0_kept q_a0_s (0 : Int32) u_a0_trace u_a0_text u_a0_typed u_a0_next u_a0_token u_a0_place u_a0_value u_a0_fault u_a0_many u_a0_slow u_a0_deaf u_a0_lengths u_a0_told u_a0_w u_a0_undos v_a0_undoMany u_a0_heardBy u_a0_heardAt u_a0_heardMany u_a0_tellsAt u_a0_tellMany u_a0_metAt u_a0_metBeat u_a0_round u_a0_z m_a0_isKept m_a0_kept m_a0_s) (pc := 2) dX12_back_2 pk_X12_62_12 rfl rfl rfl rfl rfl ?_
  refine V.iloadn (pc := 5) dX12_back_5 rfl ?_
  refine V.iconst (pc := 6) (v := 0) dX12_back_6 (by decide) ?_
  refine V.iconst (pc := 7) (v := 1) dX12_back_7 (by decide) ?_
  refine V.callSi (pc := 8) [.int l1, .int (0 : Int32), .int (1 : Int32)] (st := []) hf (fun _ h => oX12_in  (l0 := l1) (l1 := (0 : Int32)) (l2 := (1 : Int32)) h) lkS_X12_66 dX12_back_8 hX rfl ⟨rfl, rfl⟩ ⟨rfl, rfl⟩ rfl rfl rfl (fun o8 hf => ?_)
  refine V.if_ne (pc := 11) (tgt := 16) dX12_back_11 (by decide) hf (fun hf => ?_) (fun hf => ?_)
  · refine V.aloadn (pc := 16) dX12_back_16 rfl ?_
    refine V.getf (q := 0) (pc := 17) dX12_back_17 fk_X12_34_12 rfl rfl ?_
    refine V.iloadn (pc := 20) dX12_back_20 rfl ?_
    refine V.zald (pc := 21) (q := 1) dX12_back_21 rfl hf (fun x21 hf => ?_)
    refine V.if_ne (pc := 22) (tgt := 28) dX12_back_22 (by decide) hf (fun hf => ?_) (fun hf => ?_)
    · refine V.iconst (pc := 28) (v := 0) dX12_back_28 (by decide) ?_
      refine V.istoren (pc := 29) dX12_back_29 rfl rfl rfl ?_
      refine tX12_back_L30 hX hQ ?_ _ _ _ hf
      · intro m_a0_sk30_59 hf
        refine V.aloadn (pc := 59) dX12_back_59 rfl ?_
        refine V.iconst (pc := 60) (v := 0) dX12_back_60 (by decide) ?_
        refine V.putf (q := 0) (wd' := wX12_back (xG X) q_a0 q_a0_isKept q_a0_kept q_a0_s (0 : Int32) u_a0_trace u_a0_text u_a0_typed u_a0_next u_a0_token u_a0_place u_a0_value u_a0_fault u_a0_many u_a0_slow u_a0_deaf u_a0_lengths u_a0_told u_a0_w u_a0_undos (0 : Int32) u_a0_heardBy u_a0_heardAt u_a0_heardMany u_a0_tellsAt u_a0_tellMany u_a0_metAt u_a0_metBeat u_a0_round u_a0_z m_a0_isKept m_a0_kept m_a0_sk30_59) (pc := 61) dX12_back_61 pk_X12_130_12 rfl rfl rfl rfl rfl ?_
        refine V.aloadn (pc := 64) dX12_back_64 rfl ?_
        refine V.getf (q := 0) (pc := 65) dX12_back_65 fk_X12_25_12 rfl rfl ?_
        refine V.iconst (pc := 68) (v := 0) dX12_back_68 (by decide) ?_
        refine V.ialdC (pc := 69) (q := 3) 0 dX12_back_69 rfl ⟨vp_c (by decide), by decide⟩ ?_
        exact V.iretE (pc := 70) hX kX12_back_r hQ dX12_back_70 (by cases hf; rfl) (by cases hf; rfl)
    · refine V.bipush (pc := 25) (v := -2) dX12_back_25 (by decide) ?_
      exact V.iretE (pc := 27) hX kX12_back_r hQ dX12_back_27 (by cases hf; rfl) (by cases hf; rfl)
  · refine V.iconst (pc := 14) (v := -1) dX12_back_14 (by decide) ?_
    exact V.iretE (pc := 15) hX kX12_back_r hQ dX12_back_15 (by cases hf; rfl) (by cases hf; rfl)
end
theorem oX12_back {l : Launch} {G : GT} {N : Nat} {q_a0 : Nat} {q_a0_isKept : Nat} {q_a0_kept : Nat} {q_a0_s : Nat} {v_a0_thrown : Int32} {u_a0_trace : Value} {u_a0_text : Value} {u_a0_typed : Value} {u_a0_next : Value} {u_a0_token : Value} {u_a0_place : Value} {u_a0_value : Value} {u_a0_fault : Value} {u_a0_many : Value} {u_a0_slow : Value} {u_a0_deaf : Value} {u_a0_lengths : Value} {u_a0_told : Value} {u_a0_w : Value} {u_a0_undos : Value} {v_a0_undoMany : Int32} {u_a0_heardBy : Value} {u_a0_heardAt : Value} {u_a0_heardMany : Value} {u_a0_tellsAt : Value} {u_a0_tellMany : Value} {u_a0_metAt : Value} {u_a0_metBeat : Value} {u_a0_round : Value} {u_a0_z : Value} {m_a0_isKept : Nat → Int32} {m_a0_kept : Nat → Int32} {m_a0_s : Nat → Int32} {l1 : Int32} {out : Int32 × Int32 × Int32 × (Nat → Int32)} (hf : fX12_back N l1 v_a0_undoMany m_a0_isKept m_a0_kept m_a0_s = some out) : Ct (l, G, kX12_back, wX12_back G q_a0 q_a0_isKept q_a0_kept q_a0_s v_a0_thrown u_a0_trace u_a0_text u_a0_typed u_a0_next u_a0_token u_a0_place u_a0_value u_a0_fault u_a0_many u_a0_slow u_a0_deaf u_a0_lengths u_a0_told u_a0_w u_a0_undos v_a0_undoMany u_a0_heardBy u_a0_heardAt u_a0_heardMany u_a0_tellsAt u_a0_tellMany u_a0_metAt u_a0_metBeat u_a0_round u_a0_z m_a0_isKept m_a0_kept m_a0_s, [.ref q_a0, .int l1], qE (some (.int out.1)) (wX12_back G q_a0 q_a0_isKept q_a0_kept q_a0_s out.2.1 u_a0_trace u_a0_text u_a0_typed u_a0_next u_a0_token u_a0_place u_a0_value u_a0_fault u_a0_many u_a0_slow u_a0_deaf u_a0_lengths u_a0_told u_a0_w u_a0_undos out.2.2.1 u_a0_heardBy u_a0_heardAt u_a0_heardMany u_a0_tellsAt u_a0_tellMany u_a0_metAt u_a0_metBeat u_a0_round u_a0_z m_a0_isKept m_a0_kept out.2.2.2)) :=
  Ct.of [some (.ref q_a0), some (.int l1), none] kX12_back_p rfl rfl rfl ((tX12_back_0 (X := (l, G, kX12_back, wX12_back G q_a0 q_a0_isKept q_a0_kept q_a0_s v_a0_thrown u_a0_trace u_a0_text u_a0_typed u_a0_next u_a0_token u_a0_place u_a0_value u_a0_fault u_a0_many u_a0_slow u_a0_deaf u_a0_lengths u_a0_told u_a0_w u_a0_undos v_a0_undoMany u_a0_heardBy u_a0_heardAt u_a0_heardMany u_a0_tellsAt u_a0_tellMany u_a0_metAt u_a0_metBeat u_a0_round u_a0_z m_a0_isKept m_a0_kept m_a0_s, [.ref q_a0, .int l1], qE (some (.int out.1)) (wX12_back G q_a0 q_a0_isKept q_a0_kept q_a0_s out.2.1 u_a0_trace u_a0_text u_a0_typed u_a0_next u_a0_token u_a0_place u_a0_value u_a0_fault u_a0_many u_a0_slow u_a0_deaf u_a0_lengths u_a0_told u_a0_w u_a0_undos out.2.2.1 u_a0_heardBy u_a0_heardAt u_a0_heardMany u_a0_tellsAt u_a0_tellMany u_a0_metAt u_a0_metBeat u_a0_round u_a0_z m_a0_isKept m_a0_kept out.2.2.2))) rfl rfl hf))

def wX12_count (G : GT) (q_a0 : Nat) (q_a0_many : Nat) (v_a0_thrown : Int32) (u_a0_trace : Value) (u_a0_text : Value) (v_a0_typed : Int32) (u_a0_next : Value) (u_a0_token : Value) (u_a0_place : Value) (u_a0_value : Value) (u_a0_fault : Value) (u_a0_slow : Value) (u_a0_deaf : Value) (u_a0_lengths : Value) (u_a0_told : Value) (u_a0_s : Value) (u_a0_w : Value) (u_a0_kept : Value) (u_a0_isKept : Value) (u_a0_undos : Value) (u_a0_undoMany : Value) (u_a0_heardBy : Value) (u_a0_heardAt : Value) (v_a0_heardMany : Int32) (u_a0_tellsAt : Value) (v_a0_tellMany : Int32) (u_a0_metAt : Value) (u_a0_metBeat : Value) (u_a0_round : Value) (u_a0_z : Value) (m_a0_many : Nat → Int32) : va_W := [(q_a0, .inr (12, [.int v_a0_thrown, u_a0_trace, u_a0_text, .int v_a0_typed, u_a0_next, u_a0_token, u_a0_place, u_a0_value, u_a0_fault, .ref q_a0_many, u_a0_slow, u_a0_deaf, u_a0_lengths, u_a0_told, u_a0_s, u_a0_w, u_a0_kept, u_a0_isKept, u_a0_undos, u_a0_undoMany, u_a0_heardBy, u_a0_heardAt, .int v_a0_heardMany, u_a0_tellsAt, .int v_a0_tellMany, u_a0_metAt, u_a0_metBeat, u_a0_round, u_a0_z])), (q_a0_many, .inl (G.2 0, 6, .inl m_a0_many))]
def kX12_count : KT := (yX12_count, cX12_count, 2, (some .int), 1, 0, 0)
theorem kX12_count_r : kr kX12_count = (some .int) ∧ kmc kX12_count = 0 ∧ kms kX12_count = 0 := ⟨rfl, rfl, rfl⟩
theorem kX12_count_p : plainName (ky kX12_count).cls = true := by decide +kernel
def fX12_count_60 (s0 : Int32) (v_a0_thrown : Int32) : Option (Int32 × Int32) :=
  some (s0, v_a0_thrown)
def fX12_count (l1 : Int32) (v_a0_typed : Int32) (v_a0_heardMany : Int32) (v_a0_tellMany : Int32) (m_a0_many : Nat → Int32) : Option (Int32 × Int32) :=
  Option.bind (fX12_in l1 (0 : Int32) (2 : Int32)) fun o8 =>
  if o8 = 0 then (if l1 = (3 : Int32) then (fX12_count_60 v_a0_heardMany (0 : Int32))
  else (if l1 = (4 : Int32) then (fX12_count_60 v_a0_tellMany (0 : Int32))
  else (if l1 = (5 : Int32) then (fX12_count_60 v_a0_typed (0 : Int32))
  else (fX12_count_60 (-1 : Int32) (0 : Int32)))))
  else (rdi 6 m_a0_many l1 fun x19 =>
  fX12_count_60 x19 (0 : Int32))
section
variable {X : XT} {N : Nat} {q_a0 : Nat} {q_a0_many : Nat} {v_a0_thrown : Int32} {u_a0_trace : Value} {u_a0_text : Value} {v_a0_typed : Int32} {u_a0_next : Value} {u_a0_token : Value} {u_a0_place : Value} {u_a0_value : Value} {u_a0_fault : Value} {u_a0_slow : Value} {u_a0_deaf : Value} {u_a0_lengths : Value} {u_a0_told : Value} {u_a0_s : Value} {u_a0_w : Value} {u_a0_kept : Value} {u_a0_isKept : Value} {u_a0_undos : Value} {u_a0_undoMany : Value} {u_a0_heardBy : Value} {u_a0_heardAt : Value} {v_a0_heardMany : Int32} {u_a0_tellsAt : Value} {v_a0_tellMany : Int32} {u_a0_metAt : Value} {u_a0_metBeat : Value} {u_a0_round : Value} {u_a0_z : Value} {m_a0_many : Nat → Int32} {l1 : Int32} {s0 : Int32}
set_option maxRecDepth 20000 in
theorem tX12_count_60 {out : Int32 × Int32} (hX : xk X = kX12_count) (hQ : xQ X = qE (some (.int out.1)) (wX12_count (xG X) q_a0 q_a0_many out.2 u_a0_trace u_a0_text v_a0_typed u_a0_next u_a0_token u_a0_place u_a0_value u_a0_fault u_a0_slow u_a0_deaf u_a0_lengths u_a0_told u_a0_s u_a0_w u_a0_kept u_a0_isKept u_a0_undos u_a0_undoMany u_a0_heardBy u_a0_heardAt v_a0_heardMany u_a0_tellsAt v_a0_tellMany u_a0_metAt u_a0_metBeat u_a0_round u_a0_z m_a0_many)) (hf : fX12_count_60 s0 v_a0_thrown = some out) : V X cX12_count "FarDrumModel" 0 0 (wX12_count (xG X) q_a0 q_a0_many v_a0_thrown u_a0_trace u_a0_text v_a0_typed u_a0_next u_a0_token u_a0_place u_a0_value u_a0_fault u_a0_slow u_a0_deaf u_a0_lengths u_a0_told u_a0_s u_a0_w u_a0_kept u_a0_isKept u_a0_undos u_a0_undoMany u_a0_heardBy u_a0_heardAt v_a0_heardMany u_a0_tellsAt v_a0_tellMany u_a0_metAt u_a0_metBeat u_a0_round u_a0_z m_a0_many) [none, none] 60 [.int s0] := by
  unfold fX12_count_60 at hf
  exact V.iretE (pc := 60) hX kX12_count_r hQ dX12_count_60 (by cases hf; rfl) (by cases hf; rfl)
set_option maxRecDepth 20000 in
theorem tX12_count_0 {out : Int32 × Int32} (hX : xk X = kX12_count) (hQ : xQ X = qE (some (.int out.1)) (wX12_count (xG X) q_a0 q_a0_many out.2 u_a0_trace u_a0_text v_a0_typed u_a0_next u_a0_token u_a0_place u_a0_value u_a0_fault u_a0_slow u_a0_deaf u_a0_lengths u_a0_told u_a0_s u_a0_w u_a0_kept u_a0_isKept u_a0_undos u_a0_undoMany u_a0_heardBy u_a0_heardAt v_a0_heardMany u_a0_tellsAt v_a0_tellMany u_a0_metAt u_a0_metBeat u_a0_round u_a0_z m_a0_many)) (hf : fX12_count l1 v_a0_typed v_a0_heardMany v_a0_tellMany m_a0_many = some out) : V X cX12_count "FarDrumModel" 0 0 (wX12_count (xG X) q_a0 q_a0_many v_a0_thrown u_a0_trace u_a0_text v_a0_typed u_a0_next u_a0_token u_a0_place u_a0_value u_a0_fault u_a0_slow u_a0_deaf u_a0_lengths u_a0_told u_a0_s u_a0_w u_a0_kept u_a0_isKept u_a0_undos u_a0_undoMany u_a0_heardBy u_a0_heardAt v_a0_heardMany u_a0_tellsAt v_a0_tellMany u_a0_metAt u_a0_metBeat u_a0_round u_a0_z m_a0_many) [some (.ref q_a0), some (.int l1)] 0 [] := by
  unfold fX12_count at hf
  refine V.aloadn (pc := 0) dX12_count_0 rfl ?_
  refine V.iconst (pc := 1) (v := 0) dX12_count_1 (by decide) ?_
  refine V.putf (q := 0) (wd' := wX12_count (xG X) q_a0 q_a0_many (0 : Int32) u_a0_trace u_a0_text v_a0_typed u_a0_next u_a0_token u_a0_place u_a0_value u_a0_fault u_a0_slow u_a0_deaf u_a0_lengths u_a0_told u_a0_s u_a0_w u_a0_kept u_a0_isKept u_a0_undos u_a0_undoMany u_a0_heardBy u_a0_heardAt v_a0_heardMany u_a0_tellsAt v_a0_tellMany u_a0_metAt u_a0_metBeat u_a0_round u_a0_z m_a0_many) (pc := 2) dX12_count_2 pk_X12_62_12 rfl rfl rfl rfl rfl ?_
  refine V.iloadn (pc := 5) dX12_count_5 rfl ?_
  refine V.iconst (pc := 6) (v := 0) dX12_count_6 (by decide) ?_
  refine V.iconst (pc := 7) (v := 2) dX12_count_7 (by decide) ?_
  refine V.callSi (pc := 8) [.int l1, .int (0 : Int32), .int (2 : Int32)] (st := []) hf (fun _ h => oX12_in  (l0 := l1) (l1 := (0 : Int32)) (l2 := (2 : Int32)) h) lkS_X12_66 dX12_count_8 hX rfl ⟨rfl, rfl⟩ ⟨rfl, rfl⟩ rfl rfl rfl (fun o8 hf => ?_)
  refine V.if_eq (pc := 11) (tgt := 23) dX12_count_11 (by decide) hf (fun hf => ?_) (fun hf => ?_)
  · refine V.iloadn (pc := 23) dX12_count_23 rfl ?_
    refine V.iconst (pc := 24) (v := 3) dX12_count_24 (by decide) ?_
    refine V.icmp_ne (pc := 25) (tgt := 35) dX12_count_25 (by decide) hf (fun hf => ?_) (fun hf => ?_)
    · refine V.iloadn (pc := 35) dX12_count_35 rfl ?_
      refine V.iconst (pc := 36) (v := 4) dX12_count_36 (by decide) ?_
      refine V.icmp_ne (pc := 37) (tgt := 47) dX12_count_37 (by decide) hf (fun hf => ?_) (fun hf => ?_)
      · refine V.iloadn (pc := 47) dX12_count_47 rfl ?_
        refine V.iconst (pc := 48) (v := 5) dX12_count_48 (by decide) ?_
        refine V.icmp_ne (pc := 49) (tgt := 59) dX12_count_49 (by decide) hf (fun hf => ?_) (fun hf => ?_)
        · refine V.iconst (pc := 59) (v := -1) dX12_count_59 (by decide) ?_
          refine V.mask (pc := 60) [false, false] rfl rfl ?_
          exact tX12_count_60 hX hQ hf
        · refine V.aloadn (pc := 52) dX12_count_52 rfl ?_
          refine V.getf (q := 0) (pc := 53) dX12_count_53 fk_X12_70_12 rfl rfl ?_
          refine V.goto (pc := 56) (tgt := 60) dX12_count_56 (by decide) ?_
          refine V.mask (pc := 60) [false, false] rfl rfl ?_
          exact tX12_count_60 hX hQ hf
      · refine V.aloadn (pc := 40) dX12_count_40 rfl ?_
        refine V.getf (q := 0) (pc := 41) dX12_count_41 fk_X12_127_12 rfl rfl ?_
        refine V.goto (pc := 44) (tgt := 60) dX12_count_44 (by decide) ?_
        refine V.mask (pc := 60) [false, false] rfl rfl ?_
        exact tX12_count_60 hX hQ hf
    · refine V.aloadn (pc := 28) dX12_count_28 rfl ?_
      refine V.getf (q := 0) (pc := 29) dX12_count_29 fk_X12_124_12 rfl rfl ?_
      refine V.goto (pc := 32) (tgt := 60) dX12_count_32 (by decide) ?_
      refine V.mask (pc := 60) [false, false] rfl rfl ?_
      exact tX12_count_60 hX hQ hf
  · refine V.aloadn (pc := 14) dX12_count_14 rfl ?_
    refine V.getf (q := 0) (pc := 15) dX12_count_15 fk_X12_13_12 rfl rfl ?_
    refine V.iloadn (pc := 18) dX12_count_18 rfl ?_
    refine V.iald (pc := 19) (q := 1) dX12_count_19 rfl hf (fun x19 hf => ?_)
    refine V.goto (pc := 20) (tgt := 60) dX12_count_20 (by decide) ?_
    refine V.mask (pc := 60) [false, false] rfl rfl ?_
    exact tX12_count_60 hX hQ hf
end
theorem oX12_count {l : Launch} {G : GT} {q_a0 : Nat} {q_a0_many : Nat} {v_a0_thrown : Int32} {u_a0_trace : Value} {u_a0_text : Value} {v_a0_typed : Int32} {u_a0_next : Value} {u_a0_token : Value} {u_a0_place : Value} {u_a0_value : Value} {u_a0_fault : Value} {u_a0_slow : Value} {u_a0_deaf : Value} {u_a0_lengths : Value} {u_a0_told : Value} {u_a0_s : Value} {u_a0_w : Value} {u_a0_kept : Value} {u_a0_isKept : Value} {u_a0_undos : Value} {u_a0_undoMany : Value} {u_a0_heardBy : Value} {u_a0_heardAt : Value} {v_a0_heardMany : Int32} {u_a0_tellsAt : Value} {v_a0_tellMany : Int32} {u_a0_metAt : Value} {u_a0_metBeat : Value} {u_a0_round : Value} {u_a0_z : Value} {m_a0_many : Nat → Int32} {l1 : Int32} {out : Int32 × Int32} (hf : fX12_count l1 v_a0_typed v_a0_heardMany v_a0_tellMany m_a0_many = some out) : Ct (l, G, kX12_count, wX12_count G q_a0 q_a0_many v_a0_thrown u_a0_trace u_a0_text v_a0_typed u_a0_next u_a0_token u_a0_place u_a0_value u_a0_fault u_a0_slow u_a0_deaf u_a0_lengths u_a0_told u_a0_s u_a0_w u_a0_kept u_a0_isKept u_a0_undos u_a0_undoMany u_a0_heardBy u_a0_heardAt v_a0_heardMany u_a0_tellsAt v_a0_tellMany u_a0_metAt u_a0_metBeat u_a0_round u_a0_z m_a0_many, [.ref q_a0, .int l1], qE (some (.int out.1)) (wX12_count G q_a0 q_a0_many out.2 u_a0_trace u_a0_text v_a0_typed u_a0_next u_a0_token u_a0_place u_a0_value u_a0_fault u_a0_slow u_a0_deaf u_a0_lengths u_a0_told u_a0_s u_a0_w u_a0_kept u_a0_isKept u_a0_undos u_a0_undoMany u_a0_heardBy u_a0_heardAt v_a0_heardMany u_a0_tellsAt v_a0_tellMany u_a0_metAt u_a0_metBeat u_a0_round u_a0_z m_a0_many)) :=
  Ct.of [some (.ref q_a0), some (.int l1)] kX12_count_p rfl rfl rfl ((tX12_count_0 (X := (l, G, kX12_count, wX12_count G q_a0 q_a0_many v_a0_thrown u_a0_trace u_a0_text v_a0_typed u_a0_next u_a0_token u_a0_place u_a0_value u_a0_fault u_a0_slow u_a0_deaf u_a0_lengths u_a0_told u_a0_s u_a0_w u_a0_kept u_a0_isKept u_a0_undos u_a0_undoMany u_a0_heardBy u_a0_heardAt v_a0_heardMany u_a0_tellsAt v_a0_tellMany u_a0_metAt u_a0_metBeat u_a0_round u_a0_z m_a0_many, [.ref q_a0, .int l1], qE (some (.int out.1)) (wX12_count G q_a0 q_a0_many out.2 u_a0_trace u_a0_text v_a0_typed u_a0_next u_a0_token u_a0_place u_a0_value u_a0_fault u_a0_slow u_a0_deaf u_a0_lengths u_a0_told u_a0_s u_a0_w u_a0_kept u_a0_isKept u_a0_undos u_a0_undoMany u_a0_heardBy u_a0_heardAt v_a0_heardMany u_a0_tellsAt v_a0_tellMany u_a0_metAt u_a0_metBeat u_a0_round u_a0_z m_a0_many))) rfl rfl hf))

def wX12_trace (G : GT) (q_a0 : Nat) (v_a0_thrown : Int32) (v_a0_trace : Int64) (u_a0_text : Value) (u_a0_typed : Value) (u_a0_next : Value) (u_a0_token : Value) (u_a0_place : Value) (u_a0_value : Value) (u_a0_fault : Value) (u_a0_many : Value) (u_a0_slow : Value) (u_a0_deaf : Value) (u_a0_lengths : Value) (u_a0_told : Value) (u_a0_s : Value) (u_a0_w : Value) (u_a0_kept : Value) (u_a0_isKept : Value) (u_a0_undos : Value) (u_a0_undoMany : Value) (u_a0_heardBy : Value) (u_a0_heardAt : Value) (u_a0_heardMany : Value) (u_a0_tellsAt : Value) (u_a0_tellMany : Value) (u_a0_metAt : Value) (u_a0_metBeat : Value) (u_a0_round : Value) (u_a0_z : Value) : va_W := [(q_a0, .inr (12, [.int v_a0_thrown, .long v_a0_trace, u_a0_text, u_a0_typed, u_a0_next, u_a0_token, u_a0_place, u_a0_value, u_a0_fault, u_a0_many, u_a0_slow, u_a0_deaf, u_a0_lengths, u_a0_told, u_a0_s, u_a0_w, u_a0_kept, u_a0_isKept, u_a0_undos, u_a0_undoMany, u_a0_heardBy, u_a0_heardAt, u_a0_heardMany, u_a0_tellsAt, u_a0_tellMany, u_a0_metAt, u_a0_metBeat, u_a0_round, u_a0_z]))]
def kX12_trace : KT := (yX12_trace, cX12_trace, 1, (some .long), 0, 0, 0)
theorem kX12_trace_r : kr kX12_trace = (some .long) ∧ kmc kX12_trace = 0 ∧ kms kX12_trace = 0 := ⟨rfl, rfl, rfl⟩
theorem kX12_trace_p : plainName (ky kX12_trace).cls = true := by decide +kernel
def fX12_trace (v_a0_trace : Int64) : Option (Int64 × Int32) :=
  some (v_a0_trace, (0 : Int32))
section
variable {X : XT} {N : Nat} {q_a0 : Nat} {v_a0_thrown : Int32} {v_a0_trace : Int64} {u_a0_text : Value} {u_a0_typed : Value} {u_a0_next : Value} {u_a0_token : Value} {u_a0_place : Value} {u_a0_value : Value} {u_a0_fault : Value} {u_a0_many : Value} {u_a0_slow : Value} {u_a0_deaf : Value} {u_a0_lengths : Value} {u_a0_told : Value} {u_a0_s : Value} {u_a0_w : Value} {u_a0_kept : Value} {u_a0_isKept : Value} {u_a0_undos : Value} {u_a0_undoMany : Value} {u_a0_heardBy : Value} {u_a0_heardAt : Value} {u_a0_heardMany : Value} {u_a0_tellsAt : Value} {u_a0_tellMany : Value} {u_a0_metAt : Value} {u_a0_metBeat : Value} {u_a0_round : Value} {u_a0_z : Value}
set_option maxRecDepth 20000 in
theorem tX12_trace_0 {out : Int64 × Int32} (hX : xk X = kX12_trace) (hQ : xQ X = qE (some (.long out.1)) (wX12_trace (xG X) q_a0 out.2 v_a0_trace u_a0_text u_a0_typed u_a0_next u_a0_token u_a0_place u_a0_value u_a0_fault u_a0_many u_a0_slow u_a0_deaf u_a0_lengths u_a0_told u_a0_s u_a0_w u_a0_kept u_a0_isKept u_a0_undos u_a0_undoMany u_a0_heardBy u_a0_heardAt u_a0_heardMany u_a0_tellsAt u_a0_tellMany u_a0_metAt u_a0_metBeat u_a0_round u_a0_z)) (hf : fX12_trace v_a0_trace = some out) : V X cX12_trace "FarDrumModel" 0 0 (wX12_trace (xG X) q_a0 v_a0_thrown v_a0_trace u_a0_text u_a0_typed u_a0_next u_a0_token u_a0_place u_a0_value u_a0_fault u_a0_many u_a0_slow u_a0_deaf u_a0_lengths u_a0_told u_a0_s u_a0_w u_a0_kept u_a0_isKept u_a0_undos u_a0_undoMany u_a0_heardBy u_a0_heardAt u_a0_heardMany u_a0_tellsAt u_a0_tellMany u_a0_metAt u_a0_metBeat u_a0_round u_a0_z) [some (.ref q_a0)] 0 [] := by
  unfold fX12_trace at hf
  refine V.aloadn (pc := 0) dX12_trace_0 rfl ?_
  refine V.iconst (pc := 1) (v := 0) dX12_trace_1 (by decide) ?_
  refine V.putf (q := 0) (wd' := wX12_trace (xG X) q_a0 (0 : Int32) v_a0_trace u_a0_text u_a0_typed u_a0_next u_a0_token u_a0_place u_a0_value u_a0_fault u_a0_many u_a0_slow u_a0_deaf u_a0_lengths u_a0_told u_a0_s u_a0_w u_a0_kept u_a0_isKept u_a0_undos u_a0_undoMany u_a0_heardBy u_a0_heardAt u_a0_heardMany u_a0_tellsAt u_a0_tellMany u_a0_metAt u_a0_metBeat u_a0_round u_a0_z) (pc := 2) dX12_trace_2 pk_X12_62_12 rfl rfl rfl rfl rfl ?_
  refine V.aloadn (pc := 5) dX12_trace_5 rfl ?_
  refine V.getf (q := 0) (pc := 6) dX12_trace_6 fk_X12_192_12 rfl rfl ?_
  exact V.lretE (pc := 9) hX kX12_trace_r hQ dX12_trace_9 (by cases hf; rfl) (by cases hf; rfl)
end
theorem oX12_trace {l : Launch} {G : GT} {q_a0 : Nat} {v_a0_thrown : Int32} {v_a0_trace : Int64} {u_a0_text : Value} {u_a0_typed : Value} {u_a0_next : Value} {u_a0_token : Value} {u_a0_place : Value} {u_a0_value : Value} {u_a0_fault : Value} {u_a0_many : Value} {u_a0_slow : Value} {u_a0_deaf : Value} {u_a0_lengths : Value} {u_a0_told : Value} {u_a0_s : Value} {u_a0_w : Value} {u_a0_kept : Value} {u_a0_isKept : Value} {u_a0_undos : Value} {u_a0_undoMany : Value} {u_a0_heardBy : Value} {u_a0_heardAt : Value} {u_a0_heardMany : Value} {u_a0_tellsAt : Value} {u_a0_tellMany : Value} {u_a0_metAt : Value} {u_a0_metBeat : Value} {u_a0_round : Value} {u_a0_z : Value} {out : Int64 × Int32} (hf : fX12_trace v_a0_trace = some out) : Ct (l, G, kX12_trace, wX12_trace G q_a0 v_a0_thrown v_a0_trace u_a0_text u_a0_typed u_a0_next u_a0_token u_a0_place u_a0_value u_a0_fault u_a0_many u_a0_slow u_a0_deaf u_a0_lengths u_a0_told u_a0_s u_a0_w u_a0_kept u_a0_isKept u_a0_undos u_a0_undoMany u_a0_heardBy u_a0_heardAt u_a0_heardMany u_a0_tellsAt u_a0_tellMany u_a0_metAt u_a0_metBeat u_a0_round u_a0_z, [.ref q_a0], qE (some (.long out.1)) (wX12_trace G q_a0 out.2 v_a0_trace u_a0_text u_a0_typed u_a0_next u_a0_token u_a0_place u_a0_value u_a0_fault u_a0_many u_a0_slow u_a0_deaf u_a0_lengths u_a0_told u_a0_s u_a0_w u_a0_kept u_a0_isKept u_a0_undos u_a0_undoMany u_a0_heardBy u_a0_heardAt u_a0_heardMany u_a0_tellsAt u_a0_tellMany u_a0_metAt u_a0_metBeat u_a0_round u_a0_z)) :=
  Ct.of [some (.ref q_a0)] kX12_trace_p rfl rfl rfl ((tX12_trace_0 (X := (l, G, kX12_trace, wX12_trace G q_a0 v_a0_thrown v_a0_trace u_a0_text u_a0_typed u_a0_next u_a0_token u_a0_place u_a0_value u_a0_fault u_a0_many u_a0_slow u_a0_deaf u_a0_lengths u_a0_told u_a0_s u_a0_w u_a0_kept u_a0_isKept u_a0_undos u_a0_undoMany u_a0_heardBy u_a0_heardAt u_a0_heardMany u_a0_tellsAt u_a0_tellMany u_a0_metAt u_a0_metBeat u_a0_round u_a0_z, [.ref q_a0], qE (some (.long out.1)) (wX12_trace G q_a0 out.2 v_a0_trace u_a0_text u_a0_typed u_a0_next u_a0_token u_a0_place u_a0_value u_a0_fault u_a0_many u_a0_slow u_a0_deaf u_a0_lengths u_a0_told u_a0_s u_a0_w u_a0_kept u_a0_isKept u_a0_undos u_a0_undoMany u_a0_heardBy u_a0_heardAt u_a0_heardMany u_a0_tellsAt u_a0_tellMany u_a0_metAt u_a0_metBeat u_a0_round u_a0_z))) rfl rfl hf))
