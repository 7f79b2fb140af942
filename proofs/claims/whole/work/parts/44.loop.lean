theorem VL.sw {l : Launch} {G : GT} {b L : Nat} {xs : Nat → Int32} {ce sl : Nat} {wd : va_W} {lv : List (Option Value)} {pc : Nat} {st : List Value} {x : Int32} (v : Int32) (k1 : x = v → VL l G b L xs ce sl wd lv pc (.int x :: st)) (k2 : ¬ x = v → VL l G b L xs ce sl wd lv pc (.int x :: st)) : VL l G b L xs ce sl wd lv pc (.int x :: st) := by
  by_cases h : x = v
  · exact k1 h
  · exact k2 h
theorem lw_cont {L k : Nat} (hL : L ≤ 320) (hk : k ≤ 400) (h : ¬ (Int32.ofNat L - 5 < nI k)) : k + 5 ≤ L := by
  have e5 : (5 : Int32) = nI 5 := by decide
  have eL : Int32.ofNat L = nI L := rfl
  rw [e5, eL, Int32.lt_iff_toInt_lt, pk_sub_toInt (by omega) (by omega), nI_toInt (by omega)] at h
  omega
theorem lw_in {L k j : Nat} (hL : L ≤ 320) (h : k + 5 ≤ L) (hj : j < 5) : vp_in (nI k + nI j) L := by
  rw [nI_add]
  exact vp_in_nI (by omega) (by omega)
set_option maxRecDepth 50000 in
set_option maxHeartbeats 4000000 in
theorem law_loop {l : Launch} {G : GT} {b L : Nat} {xs : Nat → Int32} {ce sl N : Nat} {Inv : DS → MS → Prop} {bd : Nat → Nat} (hL : L ≤ 320) (hall : SimAll N Inv) (hcs : ce ≤ 600000 ∧ sl ≤ 7302250) : ∀ (n k : Nat) (ad : Nat → Nat) (pad : Nat → Nat → Nat) (d : DS) (m : MS), L + 5 - k < n → k ≤ L + 5 → Inv d m → VL l G b L xs ce sl (WW G ad pad bd d m) [some (.ref b), some (.ref (ad 0)), some (.ref (bd 0)), some (.int (nI k))] 18 [] := by
  intro n
  induction n with
  | zero => intro k ad pad d m h; omega
  | succ n ih =>
    intro k ad pad d m hn hk hI
    refine VL.iloadn (pc := 18) dL_law_18 rfl ?_
    refine VL.aloadn (pc := 19) dL_law_19 rfl ?_
    refine VL.slen (pc := 20) dL_law_20 ?_
    refine VL.iconst (pc := 21) (v := 5) dL_law_21 (by decide) ?_
    refine VL.isub (pc := 22) dL_law_22 ?_
    refine VL.icmp_gt (pc := 23) (tgt := 986) dL_law_23 (by decide) (fun _ => ?_) (fun hc => ?_)
    · refine VL.iconst (pc := 986) (v := 1) dL_law_986 (by decide) ?_
      exact VL.ret (pc := 987) hcs.1 hcs.2 dL_law_987
    · have hk5 := lw_cont hL (by omega) hc
      have h0 : vp_in (nI k) L := vp_in_nI (by omega) (by omega)
      have h1 : vp_in (nI k + 1) L := lw_in (j := 1) hL hk5 (by omega)
      have h2 : vp_in (nI k + 2) L := lw_in (j := 2) hL hk5 (by omega)
      have h3 : vp_in (nI k + 3) L := lw_in (j := 3) hL hk5 (by omega)
      have h4 : vp_in (nI k + 4) L := lw_in (j := 4) hL hk5 (by omega)
      have KK : ∀ (ad' : Nat → Nat) (pad' : Nat → Nat → Nat) (d' : DS) (m' : MS), ad' 0 = ad 0 → Inv d' m' → VL l G b L xs ce sl (WW G ad' pad' bd d' m') [some (.ref b), some (.ref (ad 0)), some (.ref (bd 0)), some (.int (nI k))] 980 [] := by
        intro ad' pad' d' m' hz hI'
        refine VL.iinc (pc := 980) (v := 5) (lv' := [some (.ref b), some (.ref (ad 0)), some (.ref (bd 0)), some (.int (nI k + 5))]) dL_law_980 rfl rfl (by decide) rfl ?_
        refine VL.goto (pc := 983) (tgt := 18) dL_law_983 (by decide) ?_
        have := ih (k + 5) ad' pad' d' m' (by omega) (by omega) hI'
        rw [hz, ← nI_add k 5] at this
        exact this
      obtain ⟨s0, s1, s2, s3, s4, s5, s6, s7, s8, s9, s10, s11, s12, s13, s14, s15, s16, s17, s18, s19, s20, s21, s22, s23, s24, s25, s26, s27, s28, s29, s30, s31, s32⟩ := hall
      refine VL.aloadn (pc := 26) dL_law_26 rfl ?_
      refine VL.iloadn (pc := 27) dL_law_27 rfl ?_
      refine VL.sld (pc := 28) dL_law_28 h0 ?_
      refine VL.bipush (pc := 29) (v := 63) dL_law_29 (by decide) ?_
      refine VL.iand (pc := 31) dL_law_31 ?_
      generalize xs (nI k).toNatClampNeg &&& 63 = x
      refine VL.sw 0 (fun e0 => ?_) (fun e0 => ?_)
      · refine VL.tableIn (pc := 32) (off := 148) (tgt := 180) e0 dL_law_32 (by decide) (by decide) (by decide) (by decide) ?_
        exact lc_type hI s0 h1 hcs KK
      refine VL.sw 1 (fun e1 => ?_) (fun e1 => ?_)
      · refine VL.tableIn (pc := 32) (off := 171) (tgt := 203) e1 dL_law_32 (by decide) (by decide) (by decide) (by decide) ?_
        exact lc_clear hI s1 hcs KK
      refine VL.sw 2 (fun e2 => ?_) (fun e2 => ?_)
      · refine VL.tableIn (pc := 32) (off := 184) (tgt := 216) e2 dL_law_32 (by decide) (by decide) (by decide) (by decide) ?_
        exact lc_valley hI s2 hcs KK
      refine VL.sw 3 (fun e3 => ?_) (fun e3 => ?_)
      · refine VL.tableIn (pc := 32) (off := 197) (tgt := 229) e3 dL_law_32 (by decide) (by decide) (by decide) (by decide) ?_
        exact lc_village hI s3 h1 h2 hcs KK
      refine VL.sw 4 (fun e4 => ?_) (fun e4 => ?_)
      · refine VL.tableIn (pc := 32) (off := 230) (tgt := 262) e4 dL_law_32 (by decide) (by decide) (by decide) (by decide) ?_
        exact lc_way hI s4 h1 h2 hcs KK
      refine VL.sw 5 (fun e5 => ?_) (fun e5 => ?_)
      · refine VL.tableIn (pc := 32) (off := 263) (tgt := 295) e5 dL_law_32 (by decide) (by decide) (by decide) (by decide) ?_
        exact lc_hears hI s5 h1 h2 hcs KK
      refine VL.sw 6 (fun e6 => ?_) (fun e6 => ?_)
      · refine VL.tableIn (pc := 32) (off := 296) (tgt := 328) e6 dL_law_32 (by decide) (by decide) (by decide) (by decide) ?_
        exact lc_now hI s6 h1 hcs KK
      refine VL.sw 7 (fun e7 => ?_) (fun e7 => ?_)
      · refine VL.tableIn (pc := 32) (off := 319) (tgt := 351) e7 dL_law_32 (by decide) (by decide) (by decide) (by decide) ?_
        exact lc_strikes hI s7 hcs KK
      refine VL.sw 8 (fun e8 => ?_) (fun e8 => ?_)
      · refine VL.tableIn (pc := 32) (off := 332) (tgt := 364) e8 dL_law_32 (by decide) (by decide) (by decide) (by decide) ?_
        exact lc_fog hI s8 h1 hcs KK
      refine VL.sw 9 (fun e9 => ?_) (fun e9 => ?_)
      · refine VL.tableIn (pc := 32) (off := 355) (tgt := 387) e9 dL_law_32 (by decide) (by decide) (by decide) (by decide) ?_
        exact lc_cold hI s9 h1 h2 hcs KK
      refine VL.sw 10 (fun e10 => ?_) (fun e10 => ?_)
      · refine VL.tableIn (pc := 32) (off := 388) (tgt := 420) e10 dL_law_32 (by decide) (by decide) (by decide) (by decide) ?_
        exact lc_deafens hI s10 h1 h2 hcs KK
      refine VL.sw 11 (fun e11 => ?_) (fun e11 => ?_)
      · refine VL.tableIn (pc := 32) (off := 421) (tgt := 453) e11 dL_law_32 (by decide) (by decide) (by decide) (by decide) ?_
        exact lc_sends hI s11 h1 h2 h3 hcs KK
      refine VL.sw 12 (fun e12 => ?_) (fun e12 => ?_)
      · refine VL.tableIn (pc := 32) (off := 464) (tgt := 496) e12 dL_law_32 (by decide) (by decide) (by decide) (by decide) ?_
        exact lc_undo hI s12 hcs KK
      refine VL.sw 13 (fun e13 => ?_) (fun e13 => ?_)
      · refine VL.tableIn (pc := 32) (off := 477) (tgt := 509) e13 dL_law_32 (by decide) (by decide) (by decide) (by decide) ?_
        exact lc_inStrokes hI s13 h1 h2 hcs KK
      refine VL.sw 14 (fun e14 => ?_) (fun e14 => ?_)
      · refine VL.tableIn (pc := 32) (off := 510) (tgt := 542) e14 dL_law_32 (by decide) (by decide) (by decide) (by decide) ?_
        exact lc_ends hI s14 hcs KK
      refine VL.sw 15 (fun e15 => ?_) (fun e15 => ?_)
      · refine VL.tableIn (pc := 32) (off := 523) (tgt := 555) e15 dL_law_32 (by decide) (by decide) (by decide) (by decide) ?_
        exact lc_round hI s15 h1 hcs KK
      refine VL.sw 16 (fun e16 => ?_) (fun e16 => ?_)
      · refine VL.tableIn (pc := 32) (off := 546) (tgt := 578) e16 dL_law_32 (by decide) (by decide) (by decide) (by decide) ?_
        exact lc_heardIn hI s16 h1 h2 hcs KK
      refine VL.sw 17 (fun e17 => ?_) (fun e17 => ?_)
      · refine VL.tableIn (pc := 32) (off := 579) (tgt := 611) e17 dL_law_32 (by decide) (by decide) (by decide) (by decide) ?_
        exact lc_enders hI s17 hcs KK
      refine VL.sw 18 (fun e18 => ?_) (fun e18 => ?_)
      · refine VL.tableIn (pc := 32) (off := 592) (tgt := 624) e18 dL_law_32 (by decide) (by decide) (by decide) (by decide) ?_
        exact lc_mules hI s18 h1 h2 hcs KK
      refine VL.sw 19 (fun e19 => ?_) (fun e19 => ?_)
      · refine VL.tableIn (pc := 32) (off := 625) (tgt := 657) e19 dL_law_32 (by decide) (by decide) (by decide) (by decide) ?_
        exact lc_fastest hI s19 hcs KK
      refine VL.sw 20 (fun e20 => ?_) (fun e20 => ?_)
      · refine VL.tableIn (pc := 32) (off := 638) (tgt := 670) e20 dL_law_32 (by decide) (by decide) (by decide) (by decide) ?_
        exact lc_heard hI s20 h1 h2 hcs KK
      refine VL.sw 21 (fun e21 => ?_) (fun e21 => ?_)
      · refine VL.tableIn (pc := 32) (off := 671) (tgt := 703) e21 dL_law_32 (by decide) (by decide) (by decide) (by decide) ?_
        exact lc_forget hI s21 hcs KK
      refine VL.sw 22 (fun e22 => ?_) (fun e22 => ?_)
      · refine VL.tableIn (pc := 32) (off := 684) (tgt := 716) e22 dL_law_32 (by decide) (by decide) (by decide) (by decide) ?_
        exact lc_mayBe hI s22 hcs KK
      refine VL.sw 23 (fun e23 => ?_) (fun e23 => ?_)
      · refine VL.tableIn (pc := 32) (off := 697) (tgt := 729) e23 dL_law_32 (by decide) (by decide) (by decide) (by decide) ?_
        exact lc_tells hI s23 h1 hcs KK
      refine VL.sw 24 (fun e24 => ?_) (fun e24 => ?_)
      · refine VL.tableIn (pc := 32) (off := 720) (tgt := 752) e24 dL_law_32 (by decide) (by decide) (by decide) (by decide) ?_
        exact lc_unsay hI s24 hcs KK
      refine VL.sw 25 (fun e25 => ?_) (fun e25 => ?_)
      · refine VL.tableIn (pc := 32) (off := 733) (tgt := 765) e25 dL_law_32 (by decide) (by decide) (by decide) (by decide) ?_
        exact lc_tooMany hI s25 hcs KK
      refine VL.sw 26 (fun e26 => ?_) (fun e26 => ?_)
      · refine VL.tableIn (pc := 32) (off := 746) (tgt := 778) e26 dL_law_32 (by decide) (by decide) (by decide) (by decide) ?_
        exact lc_meet hI s26 h1 h2 hcs KK
      refine VL.sw 27 (fun e27 => ?_) (fun e27 => ?_)
      · refine VL.tableIn (pc := 32) (off := 779) (tgt := 811) e27 dL_law_32 (by decide) (by decide) (by decide) (by decide) ?_
        exact lc_odds hI s27 h1 h2 h3 h4 hcs KK
      refine VL.sw 28 (fun e28 => ?_) (fun e28 => ?_)
      · refine VL.tableIn (pc := 32) (off := 832) (tgt := 864) e28 dL_law_32 (by decide) (by decide) (by decide) (by decide) ?_
        exact lc_rate hI s28 h1 h2 hcs KK
      refine VL.sw 29 (fun e29 => ?_) (fun e29 => ?_)
      · refine VL.tableIn (pc := 32) (off := 865) (tgt := 897) e29 dL_law_32 (by decide) (by decide) (by decide) (by decide) ?_
        exact lc_keep hI s29 h1 hcs KK
      refine VL.sw 30 (fun e30 => ?_) (fun e30 => ?_)
      · refine VL.tableIn (pc := 32) (off := 888) (tgt := 920) e30 dL_law_32 (by decide) (by decide) (by decide) (by decide) ?_
        exact lc_back hI s30 h1 hcs KK
      refine VL.sw 31 (fun e31 => ?_) (fun e31 => ?_)
      · refine VL.tableIn (pc := 32) (off := 911) (tgt := 943) e31 dL_law_32 (by decide) (by decide) (by decide) (by decide) ?_
        exact lc_count hI s31 h1 hcs KK
      refine VL.sw 32 (fun e32 => ?_) (fun e32 => ?_)
      · refine VL.tableIn (pc := 32) (off := 934) (tgt := 966) e32 dL_law_32 (by decide) (by decide) (by decide) (by decide) ?_
        exact lc_trace hI s32 hcs KK
      refine VL.tableOut (pc := 32) (tgt := 980) dL_law_32 (tbl_out (n := 33) (by decide) (fun k hk => match k, hk with | 0, _ => e0 | 1, _ => e1 | 2, _ => e2 | 3, _ => e3 | 4, _ => e4 | 5, _ => e5 | 6, _ => e6 | 7, _ => e7 | 8, _ => e8 | 9, _ => e9 | 10, _ => e10 | 11, _ => e11 | 12, _ => e12 | 13, _ => e13 | 14, _ => e14 | 15, _ => e15 | 16, _ => e16 | 17, _ => e17 | 18, _ => e18 | 19, _ => e19 | 20, _ => e20 | 21, _ => e21 | 22, _ => e22 | 23, _ => e23 | 24, _ => e24 | 25, _ => e25 | 26, _ => e26 | 27, _ => e27 | 28, _ => e28 | 29, _ => e29 | 30, _ => e30 | 31, _ => e31 | 32, _ => e32 | k + 33, hk => absurd hk (by omega))) (by decide) ?_
      exact KK ad pad d m rfl hI
def d00 : DS := ((0, 0, 0, 0, 0, fun _ => 0), (0, 0, 20, 0, 0, 0, fun _ => 0, fun _ => 0), (0, 0, 20, 0, 0, 0, fun _ => 0, fun _ => 0), (0, 0, 0, 0, 0, 0, fun _ => 0, fun _ => 0, fun _ => 0, fun _ => 0, fun _ => 0), (0, 0, 0, 0, 0, 0, fun _ => 0, fun _ => 0, fun _ => 0, fun _ => 0, fun _ => 0), (0, fun _ => sc0), (0, 0, 0, 0, 0, 0, fun _ => 0, fun _ => 0, fun _ => 0, fun _ => 0, fun _ => 0), (0, 0, 0, 0, 0, 0, fun _ => 0, fun _ => 0, fun _ => 0, fun _ => 0, fun _ => 0), (fun _ => 0), (0, 0, 0, 0, 0, 0, 0, 0, fun _ => 0, fun _ => 0, fun _ => 0, fun _ => 0, fun _ => 0, fun _ => 0), (0, 0, 0, 0, 0, 0, 0, 0, fun _ => 0, fun _ => 0, fun _ => 0, fun _ => 0, fun _ => 0, fun _ => 0), (0, 0, 0, 0, 0, 0), (fun _ => 0), (fun _ => 0), (0), (fun _ => 0), (0), (fun _ => 0), (fun _ => 0))
def m00 : MS := (0, 0, (fun _ => 0), 0, 0, 0, 0, 0, 0, (upd (fun _ => 0) 1 20), (fun _ => 0), (fun _ => 0), (fun _ => 0), 0, (fun _ => 0), (fun _ => 0), (fun _ => 0), (fun _ => 0), (fun _ => 0), 0, (fun _ => 0), (fun _ => 0), 0, (fun _ => 0), 0, (fun _ => 0), (fun _ => 0), (fun _ => 0), (fun _ => 0))
theorem nk_L_7 : Nk "FarDrumLaw" 7 11 18 [.null, .null, .null, .null, .null, .null, .null, .null, .null, .null, .null, .null, .null, .int 0, .null, .int 0, .null, .null] := ⟨RX11, TX11, tyX11, rfl, inX11, tyX11_ok, kw_1_17, kw_1_18, kw_1_1, fun j hj => match j, hj with | 0, _ => rfl | 1, _ => rfl | 2, _ => rfl | 3, _ => rfl | 4, _ => rfl | 5, _ => rfl | 6, _ => rfl | 7, _ => rfl | 8, _ => rfl | 9, _ => rfl | 10, _ => rfl | 11, _ => rfl | 12, _ => rfl | 13, _ => rfl | 14, _ => rfl | 15, _ => rfl | 16, _ => rfl | 17, _ => rfl | j + 18, hj => absurd hj (by omega)⟩
theorem nk_L_10 : Nk "FarDrumLaw" 10 12 29 [.int 0, .long 0, .null, .int 0, .int 0, .int 0, .int 0, .int 0, .int 0, .null, .null, .null, .null, .int 0, .null, .null, .null, .null, .null, .int 0, .null, .null, .int 0, .null, .int 0, .null, .null, .null, .null] := ⟨RX12, TX12, tyX12, rfl, inX12, tyX12_ok, kw_4_2, kw_4_3, kw_1_13, fun j hj => match j, hj with | 0, _ => rfl | 1, _ => rfl | 2, _ => rfl | 3, _ => rfl | 4, _ => rfl | 5, _ => rfl | 6, _ => rfl | 7, _ => rfl | 8, _ => rfl | 9, _ => rfl | 10, _ => rfl | 11, _ => rfl | 12, _ => rfl | 13, _ => rfl | 14, _ => rfl | 15, _ => rfl | 16, _ => rfl | 17, _ => rfl | 18, _ => rfl | 19, _ => rfl | 20, _ => rfl | 21, _ => rfl | 22, _ => rfl | 23, _ => rfl | 24, _ => rfl | 25, _ => rfl | 26, _ => rfl | 27, _ => rfl | 28, _ => rfl | j + 29, hj => absurd hj (by omega)⟩
theorem lkb_X11_init : LkB kX11_init 0 := ⟨kw_1_21, kw_1_1, ⟨by decide, by decide⟩, by decide +kernel, by decide⟩
theorem lkI_L_9_X11_init : LkI "FarDrumLaw" 9 kX11_init 0 := ⟨lkb_X11_init, kw_1_19, kw_1_20, rfl, rfl⟩
theorem lkb_X12_init : LkB kX12_init 0 := ⟨kw_4_6, kw_1_13, ⟨by decide, by decide⟩, by decide +kernel, by decide⟩
theorem lkI_L_12_X12_init : LkI "FarDrumLaw" 12 kX12_init 0 := ⟨lkb_X12_init, kw_4_4, kw_4_5, rfl, rfl⟩
set_option maxRecDepth 50000 in
set_option maxHeartbeats 4000000 in
theorem law_start {l : Launch} {G : GT} {b L : Nat} {xs : Nat → Int32} {N : Nat} {Inv : DS → MS → Prop} (hL : L ≤ 320) (hall : SimAll N Inv) (h0 : Inv d00 m00) : VL l G b L xs 0 0 [] [some (.ref b), none, none, none] 0 [] := by
  refine VL.new (pc := 0) dL_law_0 nk_L_7 rfl rfl (fun qd => ?_)
  refine VL.eqw (wd' := [(qd, .inr (11, [.null, .null, .null, .null, .null, .null, .null, .null, .null, .null, .null, .null, .null, .int 0, .null, .int 0, .null, .null]))]) rfl ?_
  refine VL.dup (pc := 3) dL_law_3 rfl ?_
  refine VL.callI (pc := 4) (st := [.ref qd]) (wr := []) (SW.eq rfl) (oX11_init (q_a0 := qd)) lkI_L_9_X11_init dL_law_4 rfl ⟨rfl, rfl⟩ rfl rfl rfl (fun r u hq => ?_)
  obtain ⟨rfl, q1, q2, q3, q4, q5, q6, q7, q8, q9, q10, q11, q12, q13, q14, q15, q16, q17, q18, q19, q20, q24, q25, q26, q27, q28, q29, q30, q31, q32, q33, q34, q35, q36, q37, q38, q39, q40, q41, q42, q43, q44, q45, q46, q47, q48, q49, q50, q51, q52, q53, q54, q55, q56, q57, q58, q59, q60, q61, q62, q63, q21, q22, p23, rfl⟩ := hq
  refine VL.eqw (wd' := [(qd, .inr (11, [.ref q1, .ref q3, .ref q6, .ref q9, .ref q15, .ref q21, .ref q24, .ref q37, .ref q38, .ref q45, .ref q52, .ref q59, .ref q60, .int 0, .ref q61, .int 0, .ref q62, .ref q63])), (q1, .inr (8, [.ref q2, .int 0, .int 0, .int 0, .int 0, .int 0])), (q2, .inl (G.2 1, 200, .inl (fun _ => 0))), (q3, .inr (9, [.int 0, .int 0, .int 20, .int 0, .int 0, .int 0, .ref q4, .ref q5])), (q4, .inl (G.2 0, 6, .inl (fun _ => 0))), (q5, .inl (G.2 0, 36, .inl (fun _ => 0))), (q6, .inr (9, [.int 0, .int 0, .int 20, .int 0, .int 0, .int 0, .ref q7, .ref q8])), (q7, .inl (G.2 0, 6, .inl (fun _ => 0))), (q8, .inl (G.2 0, 36, .inl (fun _ => 0))), (q9, .inr (7, [.int 0, .int 0, .int 0, .int 0, .int 0, .int 0, .ref q10, .ref q11, .ref q12, .ref q13, .ref q14])), (q10, .inl (G.2 0, 6, .inl (fun _ => 0))), (q11, .inl (G.2 0, 6, .inl (fun _ => 0))), (q12, .inl (G.2 0, 2, .inl (fun _ => 0))), (q13, .inl (G.2 0, 2, .inl (fun _ => 0))), (q14, .inl (G.2 0, 2, .inl (fun _ => 0))), (q15, .inr (7, [.int 0, .int 0, .int 0, .int 0, .int 0, .int 0, .ref q16, .ref q17, .ref q18, .ref q19, .ref q20])), (q16, .inl (G.2 0, 6, .inl (fun _ => 0))), (q17, .inl (G.2 0, 6, .inl (fun _ => 0))), (q18, .inl (G.2 0, 2, .inl (fun _ => 0))), (q19, .inl (G.2 0, 2, .inl (fun _ => 0))), (q20, .inl (G.2 0, 2, .inl (fun _ => 0))), (q24, .inl (G.2 3, 2, .inr (.inr (.inr (.inr (rf2 q25 q31)))))), (q25, .inr (7, [.int 0, .int 0, .int 0, .int 0, .int 0, .int 0, .ref q26, .ref q27, .ref q28, .ref q29, .ref q30])), (q26, .inl (G.2 0, 6, .inl (fun _ => 0))), (q27, .inl (G.2 0, 6, .inl (fun _ => 0))), (q28, .inl (G.2 0, 2, .inl (fun _ => 0))), (q29, .inl (G.2 0, 2, .inl (fun _ => 0))), (q30, .inl (G.2 0, 2, .inl (fun _ => 0))), (q31, .inr (7, [.int 0, .int 0, .int 0, .int 0, .int 0, .int 0, .ref q32, .ref q33, .ref q34, .ref q35, .ref q36])), (q32, .inl (G.2 0, 6, .inl (fun _ => 0))), (q33, .inl (G.2 0, 6, .inl (fun _ => 0))), (q34, .inl (G.2 0, 2, .inl (fun _ => 0))), (q35, .inl (G.2 0, 2, .inl (fun _ => 0))), (q36, .inl (G.2 0, 2, .inl (fun _ => 0))), (q37, .inl (G.2 2, 2, .inl (fun _ => 0))), (q38, .inr (0, [.ref q39, .ref q40, .int 0, .int 0, .int 0, .int 0, .int 0, .int 0, .ref q41, .ref q42, .ref q43, .ref q44, .int 0, .int 0])), (q39, .inl (G.2 0, 6, .inl (fun _ => 0))), (q40, .inl (G.2 0, 6, .inl (fun _ => 0))), (q41, .inl (G.2 0, 36, .inl (fun _ => 0))), (q42, .inl (G.2 0, 6, .inl (fun _ => 0))), (q43, .inl (G.2 0, 6, .inl (fun _ => 0))), (q44, .inl (G.2 0, 6, .inl (fun _ => 0))), (q45, .inr (0, [.ref q46, .ref q47, .int 0, .int 0, .int 0, .int 0, .int 0, .int 0, .ref q48, .ref q49, .ref q50, .ref q51, .int 0, .int 0])), (q46, .inl (G.2 0, 6, .inl (fun _ => 0))), (q47, .inl (G.2 0, 6, .inl (fun _ => 0))), (q48, .inl (G.2 0, 36, .inl (fun _ => 0))), (q49, .inl (G.2 0, 6, .inl (fun _ => 0))), (q50, .inl (G.2 0, 6, .inl (fun _ => 0))), (q51, .inl (G.2 0, 6, .inl (fun _ => 0))), (q52, .inl (G.2 4, 6, .inr (.inr (.inr (.inr (rf6 q53 q54 q55 q56 q57 q58)))))), (q53, .inr (4, [.long 0])), (q54, .inr (2, [.long 0])), (q55, .inr (5, [.long 0])), (q56, .inr (3, [.long 0])), (q57, .inr (1, [.long 0])), (q58, .inr (10, [.long 0])), (q59, .inl (G.2 0, 5, .inl (fun _ => 0))), (q60, .inl (G.2 0, 5, .inl (fun _ => 0))), (q61, .inl (G.2 0, 6, .inl (fun _ => 0))), (q62, .inl (G.2 0, 6, .inl (fun _ => 0))), (q63, .inl (G.2 0, 6, .inl (fun _ => 0)))] ++ pastW G q21 q22 p23 0 (fun _ => sc0)) rfl ?_
  refine VL.astoren (pc := 7) (lv' := [some (.ref b), some (.ref qd), none, none]) dL_law_7 rfl rfl rfl ?_
  refine VL.new (pc := 8) dL_law_8 nk_L_10 rfl rfl (fun qm => ?_)
  refine VL.dup (pc := 11) dL_law_11 rfl ?_
  refine VL.callI (pc := 12) (st := [.ref qm]) (SW.comm _ _) (oX12_init (q_a0 := qm)) lkI_L_12_X12_init dL_law_12 rfl ⟨rfl, rfl⟩ rfl rfl rfl (fun r u hq => ?_)
  obtain ⟨rfl, q1m, q2m, q3m, q4m, q5m, q6m, q7m, q8m, q9m, q10m, q11m, q12m, q13m, q14m, q15m, q16m, q17m, rfl⟩ := hq
  refine VL.sel (wd' := ([(qd, .inr (11, [.ref q1, .ref q3, .ref q6, .ref q9, .ref q15, .ref q21, .ref q24, .ref q37, .ref q38, .ref q45, .ref q52, .ref q59, .ref q60, .int 0, .ref q61, .int 0, .ref q62, .ref q63])), (q1, .inr (8, [.ref q2, .int 0, .int 0, .int 0, .int 0, .int 0])), (q2, .inl (G.2 1, 200, .inl (fun _ => 0))), (q3, .inr (9, [.int 0, .int 0, .int 20, .int 0, .int 0, .int 0, .ref q4, .ref q5])), (q4, .inl (G.2 0, 6, .inl (fun _ => 0))), (q5, .inl (G.2 0, 36, .inl (fun _ => 0))), (q6, .inr (9, [.int 0, .int 0, .int 20, .int 0, .int 0, .int 0, .ref q7, .ref q8])), (q7, .inl (G.2 0, 6, .inl (fun _ => 0))), (q8, .inl (G.2 0, 36, .inl (fun _ => 0))), (q9, .inr (7, [.int 0, .int 0, .int 0, .int 0, .int 0, .int 0, .ref q10, .ref q11, .ref q12, .ref q13, .ref q14])), (q10, .inl (G.2 0, 6, .inl (fun _ => 0))), (q11, .inl (G.2 0, 6, .inl (fun _ => 0))), (q12, .inl (G.2 0, 2, .inl (fun _ => 0))), (q13, .inl (G.2 0, 2, .inl (fun _ => 0))), (q14, .inl (G.2 0, 2, .inl (fun _ => 0))), (q15, .inr (7, [.int 0, .int 0, .int 0, .int 0, .int 0, .int 0, .ref q16, .ref q17, .ref q18, .ref q19, .ref q20])), (q16, .inl (G.2 0, 6, .inl (fun _ => 0))), (q17, .inl (G.2 0, 6, .inl (fun _ => 0))), (q18, .inl (G.2 0, 2, .inl (fun _ => 0))), (q19, .inl (G.2 0, 2, .inl (fun _ => 0))), (q20, .inl (G.2 0, 2, .inl (fun _ => 0))), (q24, .inl (G.2 3, 2, .inr (.inr (.inr (.inr (rf2 q25 q31)))))), (q25, .inr (7, [.int 0, .int 0, .int 0, .int 0, .int 0, .int 0, .ref q26, .ref q27, .ref q28, .ref q29, .ref q30])), (q26, .inl (G.2 0, 6, .inl (fun _ => 0))), (q27, .inl (G.2 0, 6, .inl (fun _ => 0))), (q28, .inl (G.2 0, 2, .inl (fun _ => 0))), (q29, .inl (G.2 0, 2, .inl (fun _ => 0))), (q30, .inl (G.2 0, 2, .inl (fun _ => 0))), (q31, .inr (7, [.int 0, .int 0, .int 0, .int 0, .int 0, .int 0, .ref q32, .ref q33, .ref q34, .ref q35, .ref q36])), (q32, .inl (G.2 0, 6, .inl (fun _ => 0))), (q33, .inl (G.2 0, 6, .inl (fun _ => 0))), (q34, .inl (G.2 0, 2, .inl (fun _ => 0))), (q35, .inl (G.2 0, 2, .inl (fun _ => 0))), (q36, .inl (G.2 0, 2, .inl (fun _ => 0))), (q37, .inl (G.2 2, 2, .inl (fun _ => 0))), (q38, .inr (0, [.ref q39, .ref q40, .int 0, .int 0, .int 0, .int 0, .int 0, .int 0, .ref q41, .ref q42, .ref q43, .ref q44, .int 0, .int 0])), (q39, .inl (G.2 0, 6, .inl (fun _ => 0))), (q40, .inl (G.2 0, 6, .inl (fun _ => 0))), (q41, .inl (G.2 0, 36, .inl (fun _ => 0))), (q42, .inl (G.2 0, 6, .inl (fun _ => 0))), (q43, .inl (G.2 0, 6, .inl (fun _ => 0))), (q44, .inl (G.2 0, 6, .inl (fun _ => 0))), (q45, .inr (0, [.ref q46, .ref q47, .int 0, .int 0, .int 0, .int 0, .int 0, .int 0, .ref q48, .ref q49, .ref q50, .ref q51, .int 0, .int 0])), (q46, .inl (G.2 0, 6, .inl (fun _ => 0))), (q47, .inl (G.2 0, 6, .inl (fun _ => 0))), (q48, .inl (G.2 0, 36, .inl (fun _ => 0))), (q49, .inl (G.2 0, 6, .inl (fun _ => 0))), (q50, .inl (G.2 0, 6, .inl (fun _ => 0))), (q51, .inl (G.2 0, 6, .inl (fun _ => 0))), (q52, .inl (G.2 4, 6, .inr (.inr (.inr (.inr (rf6 q53 q54 q55 q56 q57 q58)))))), (q53, .inr (4, [.long 0])), (q54, .inr (2, [.long 0])), (q55, .inr (5, [.long 0])), (q56, .inr (3, [.long 0])), (q57, .inr (1, [.long 0])), (q58, .inr (10, [.long 0])), (q59, .inl (G.2 0, 5, .inl (fun _ => 0))), (q60, .inl (G.2 0, 5, .inl (fun _ => 0))), (q61, .inl (G.2 0, 6, .inl (fun _ => 0))), (q62, .inl (G.2 0, 6, .inl (fun _ => 0))), (q63, .inl (G.2 0, 6, .inl (fun _ => 0)))] ++ [(qm, .inr (12, [.int 0, .long 0, .ref q1m, .int 0, .int 0, .int 0, .int 0, .int 0, .int 0, .ref q2m, .ref q3m, .ref q4m, .ref q5m, .int 0, .ref q6m, .ref q7m, .ref q8m, .ref q9m, .ref q10m, .int 0, .ref q11m, .ref q12m, .int 0, .ref q13m, .int 0, .ref q14m, .ref q15m, .ref q16m, .ref q17m])), (q1m, .inl (G.2 0, 200, .inl (fun _ => 0))), (q2m, .inl (G.2 0, 6, .inl (upd (fun _ => 0) 1 20))), (q3m, .inl (G.2 0, 12, .inl (fun _ => 0))), (q4m, .inl (G.2 0, 12, .inl (fun _ => 0))), (q5m, .inl (G.2 0, 72, .inl (fun _ => 0))), (q6m, .inl (G.2 0, 35, .inl (fun _ => 0))), (q7m, .inl (G.2 0, 35, .inl (fun _ => 0))), (q8m, .inl (G.2 0, 70, .inl (fun _ => 0))), (q9m, .inl (G.2 2, 2, .inl (fun _ => 0))), (q10m, .inl (G.2 0, 350, .inl (fun _ => 0))), (q11m, .inl (G.2 0, 5, .inl (fun _ => 0))), (q12m, .inl (G.2 0, 5, .inl (fun _ => 0))), (q13m, .inl (G.2 0, 6, .inl (fun _ => 0))), (q14m, .inl (G.2 0, 6, .inl (fun _ => 0))), (q15m, .inl (G.2 0, 6, .inl (fun _ => 0))), (q16m, .inl (G.2 0, 3, .inl (fun _ => 0))), (q17m, .inl (G.2 0, 35, .inl (fun _ => 0))), (q21, .inr (6, [.int 0, .ref q22])), (q22, .inl (G.2 3, 10, .inr (.inr (.inr (.inr (fun i => some (p23 i 0)))))))]) ++ stL G p23 (fun _ => sc0)) (SW.trans (SW.ahead _ _ _) (SW.eq rfl)) ?_
  refine VL.sel (wd' := WW G (fun k => match k with | 0 => qd | 1 => q1 | 2 => q2 | 3 => q3 | 4 => q4 | 5 => q5 | 6 => q6 | 7 => q7 | 8 => q8 | 9 => q9 | 10 => q14 | 11 => q12 | 12 => q13 | 13 => q10 | 14 => q11 | 15 => q15 | 16 => q20 | 17 => q18 | 18 => q19 | 19 => q16 | 20 => q17 | 21 => q24 | 22 => q25 | 23 => q30 | 24 => q28 | 25 => q29 | 26 => q26 | 27 => q27 | 28 => q31 | 29 => q36 | 30 => q34 | 31 => q35 | 32 => q32 | 33 => q33 | 34 => q37 | 35 => q38 | 36 => q40 | 37 => q41 | 38 => q43 | 39 => q44 | 40 => q39 | 41 => q42 | 42 => q45 | 43 => q47 | 44 => q48 | 45 => q50 | 46 => q51 | 47 => q46 | 48 => q49 | 49 => q52 | 50 => q53 | 51 => q54 | 52 => q55 | 53 => q56 | 54 => q57 | 55 => q58 | 56 => q59 | 57 => q60 | 58 => q61 | 59 => q62 | 60 => q63 | 61 => q21 | 62 => q22 | _ => 0) p23 (fun k => match k with | 0 => qm | 1 => q4m | 2 => q12m | 3 => q11m | 4 => q9m | 5 => q8m | 6 => q5m | 7 => q2m | 8 => q14m | 9 => q15m | 10 => q16m | 11 => q6m | 12 => q3m | 13 => q13m | 14 => q1m | 15 => q10m | 16 => q7m | 17 => q17m | _ => 0) d00 m00) (SW.app (SW.idx [0, 1, 2, 3, 4, 5, 6, 7, 8, 9, 14, 12, 13, 10, 11, 15, 20, 18, 19, 16, 17, 21, 22, 27, 25, 26, 23, 24, 28, 33, 31, 32, 29, 30, 34, 35, 37, 38, 40, 41, 36, 39, 42, 44, 45, 47, 48, 43, 46, 49, 50, 51, 52, 53, 54, 55, 56, 57, 58, 59, 60, 79, 80, 61, 65, 73, 72, 70, 69, 66, 63, 75, 76, 77, 67, 64, 74, 62, 71, 68, 78] rfl rfl) (SW.refl _)) ?_
  refine VL.astoren (pc := 15) (lv' := [some (.ref b), some (.ref qd), some (.ref qm), none]) dL_law_15 rfl rfl rfl ?_
  refine VL.iconst (pc := 16) (v := 0) dL_law_16 (by decide) ?_
  refine VL.istoren (pc := 17) (lv' := [some (.ref b), some (.ref qd), some (.ref qm), some (.int 0)]) dL_law_17 rfl rfl rfl ?_
  exact law_loop (bd := (fun k => match k with | 0 => qm | 1 => q4m | 2 => q12m | 3 => q11m | 4 => q9m | 5 => q8m | 6 => q5m | 7 => q2m | 8 => q14m | 9 => q15m | 10 => q16m | 11 => q6m | 12 => q3m | 13 => q13m | 14 => q1m | 15 => q10m | 16 => q7m | 17 => q17m | _ => 0)) hL hall ⟨by decide, by decide⟩ (L + 6) 0 (fun k => match k with | 0 => qd | 1 => q1 | 2 => q2 | 3 => q3 | 4 => q4 | 5 => q5 | 6 => q6 | 7 => q7 | 8 => q8 | 9 => q9 | 10 => q14 | 11 => q12 | 12 => q13 | 13 => q10 | 14 => q11 | 15 => q15 | 16 => q20 | 17 => q18 | 18 => q19 | 19 => q16 | 20 => q17 | 21 => q24 | 22 => q25 | 23 => q30 | 24 => q28 | 25 => q29 | 26 => q26 | 27 => q27 | 28 => q31 | 29 => q36 | 30 => q34 | 31 => q35 | 32 => q32 | 33 => q33 | 34 => q37 | 35 => q38 | 36 => q40 | 37 => q41 | 38 => q43 | 39 => q44 | 40 => q39 | 41 => q42 | 42 => q45 | 43 => q47 | 44 => q48 | 45 => q50 | 46 => q51 | 47 => q46 | 48 => q49 | 49 => q52 | 50 => q53 | 51 => q54 | 52 => q55 | 53 => q56 | 54 => q57 | 55 => q58 | 56 => q59 | 57 => q60 | 58 => q61 | 59 => q62 | 60 => q63 | 61 => q21 | 62 => q22 | _ => 0) p23 d00 m00 (by omega) (by omega) h0
theorem whole_of {N : Nat} {Inv : DS → MS → Prop} (hall : SimAll N Inv) (h0 : Inv d00 m00) {p : Program} {e : Env} {s : State} {m : MethodId} {below : List Frame} {meth : Method} {c : Code} (l : Launch) {b L : Nat} {xs : Nat → Int32} (hL : L ≤ 320) (C0 : lw_At p s m meth c b L xs) : W p l e room_1 s m #[Value.ref b] below meth c s.heap [] 0 0 (lw_Z below #[Value.ref b] s) (entryFrame m ([Value.ref b] : List Value).toArray 4) := by
  obtain ⟨G, hK⟩ := lw_G C0.2.2.2.2.2.1
  have hN := lw_Nz C0.2.2.2.2.2.1
  rw [lg_entry_eq]
  have hl := lv_entry ([.ref b]) (n := 4) (Nat.le_of_ble_eq_true rfl)
  exact law_start hL hall h0 p e s m below meth c C0 hK hN s.heap [] _ (fun k q h => by simp at h) ⟨fun i j p q h => by simp at h, fun k q h => by simp at h⟩ va_S.rf hl rfl
