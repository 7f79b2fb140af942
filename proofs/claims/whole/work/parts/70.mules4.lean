theorem code_ok {i : Nat} (hi : i < 36) : fX12_asCode (nI i) = some ((10 * (nI i / 6)) + (nI i - nI i / 6 * 6)) := by
  unfold fX12_asCode fX12_asCode_21
  rw [if_pos (nI_pos' (by omega))]
def cod (p : Int32) : Int32 := if p = -1 then -9 else (10 * (p / 6)) + (p - p / 6 * 6)
theorem cod_ok {i : Nat} (hi : i < 36) : fX12_asCode (nI i) = some (cod (nI i)) := by
  rw [code_ok hi]
  unfold cod
  rw [if_neg (m1_ne (by omega))]
theorem fm_tail {N : Nat} (hN : 400 ≤ N) {n R D g x B l : Nat} {W : Nat → Nat → Nat} {len many s slow : Nat → Int32} {a : AN} (hv : RW n R W len many) (hx : x < 6) (hM : aM a ≤ 2) (hg1 : 1 ≤ g) (hg2 : g ≤ 20) (hs : Wk n a s x B) (hb : ∀ x y, Hn W R a x y ≤ 20) (hD : D < 64) (hB : ∀ y, y < 6 → D.testBit y = aD a y) (hsl : ∀ y, y < n → slow y = nI (aS a y)) (hl : l ≤ 2) (e rf rs rb : Int32) (gap hear mA mB next w : Nat → Int32) (hc : Cs n R W a gap hear next) : ∃ (c p q e' rf' rs' rb' : Int32) (gap' hear' mA' mB' next' w' : Nat → Int32), (Option.bind (fX0_firstThatHelps N (nI x) (nI g) 0 e rf rs rb (nI n) (nI D) gap hear mA mB next slow) fun o25 => if o25.1 = -1 then (fX0_fewestMules_L43 N (nI x) (nI g) (nI n) (nI D) slow (fun l3k l5k v1 v2 v3 v4 g5 h5 a5 b5 n5 => some (2, v1, v2, v3, v4, l3k, l5k, g5, h5, a5, b5, n5)) (fun v1 v2 v3 v4 g5 h5 a5 b5 n5 => some (-9, v1, v2, v3, v4, o25.1, -1, g5, h5, a5, b5, n5)) N 0 o25.2.1 o25.2.2.1 o25.2.2.2.1 o25.2.2.2.2.1 o25.2.2.2.2.2.1 o25.2.2.2.2.2.2.1 o25.2.2.2.2.2.2.2.1 o25.2.2.2.2.2.2.2.2.1 o25.2.2.2.2.2.2.2.2.2) else (some (1, o25.2.1, o25.2.2.1, o25.2.2.2.1, o25.2.2.2.2.1, o25.1, -1, o25.2.2.2.2.2.1, o25.2.2.2.2.2.2.1, o25.2.2.2.2.2.2.2.1, o25.2.2.2.2.2.2.2.2.1, o25.2.2.2.2.2.2.2.2.2))) = some (c, e', rf', rs', rb', p, q, gap', hear', mA', mB', next') ∧ fX12_mules_L61 N (nI g) len many s (fun l3k61_85 m_a0_wk61_85 => if nI l = 0 then (fX12_mules_107 1 0 m_a0_wk61_85) else (if nI l = 1 then (Option.bind (fX12_asCode l3k61_85) fun o99 => fX12_mules_107 o99 0 m_a0_wk61_85) else (fX12_mules_107 (-9) 0 m_a0_wk61_85))) (fun m_a0_wk61_114 => fX12_mules_L116 N (nI g) len many s (fun l3k116_162 l4k116_162 m_a0_wk116_162 => if nI l = 0 then (fX12_mules_184 2 0 m_a0_wk116_162) else (if nI l = 1 then (fX12_mules_181 l3k116_162 0 m_a0_wk116_162) else (fX12_mules_181 l4k116_162 0 m_a0_wk116_162))) (fun m_a0_wk116_197 => some (-9, 0, m_a0_wk116_197)) N 0 m_a0_wk61_114) N 0 w = some (if nI l = 0 then c else if nI l = 1 then cod p else cod q, 0, w') ∧ (n = 0 → c = -9 ∧ p = -1 ∧ q = -1) := by
  obtain ⟨e1, rf1, rs1, rb1, gap2, hear2, mA2, mB2, next2, w2, t3, t4⟩ := one_loop hN (slow := slow) (len := len) (many := many) hv hx hM hg1 hg2 hs hb hD hB hsl (fun l4k3_51 v1 v2 v3 v4 g5 h5 a5 b5 n5 => some (l4k3_51, v1, v2, v3, v4, g5, h5, a5, b5, n5)) (fun v1 v2 v3 v4 g5 h5 a5 b5 n5 => some (-1, v1, v2, v3, v4, g5, h5, a5, b5, n5)) (fun l3k61_85 m_a0_wk61_85 => if nI l = 0 then (fX12_mules_107 1 0 m_a0_wk61_85) else (if nI l = 1 then (Option.bind (fX12_asCode l3k61_85) fun o99 => fX12_mules_107 o99 0 m_a0_wk61_85) else (fX12_mules_107 (-9) 0 m_a0_wk61_85))) (fun m_a0_wk61_114 => fX12_mules_L116 N (nI g) len many s (fun l3k116_162 l4k116_162 m_a0_wk116_162 => if nI l = 0 then (fX12_mules_184 2 0 m_a0_wk116_162) else (if nI l = 1 then (fX12_mules_181 l3k116_162 0 m_a0_wk116_162) else (fX12_mules_181 l4k116_162 0 m_a0_wk116_162))) (fun m_a0_wk116_197 => some (-9, 0, m_a0_wk116_197)) N 0 m_a0_wk61_114) 36 0 N N e rf rs rb gap hear mA mB next w rfl (by omega) (by omega) (by omega) hc
  unfold fX0_firstThatHelps
  rw [show nI 0 = (0 : Int32) from rfl] at t4
  rcases t4 with ⟨i, hi, ti, q7, q8⟩ | ⟨q7, q8⟩
  · rw [q7, q8, ob_some, if_neg (m1_ne (by omega))]
    refine ⟨_, _, _, _, _, _, _, _, _, _, _, _, w2, rfl, ?_, fun h => ?_⟩
    · unfold fX12_mules_107
      rw [cod_ok hi, ob_some]
      by_cases h0 : nI l = 0
      · rw [if_pos h0, if_pos h0]
      · rw [if_neg h0, if_neg h0]
        by_cases h1 : nI l = 1
        · rw [if_pos h1, if_pos h1]
        · rw [if_neg h1, if_neg h1]; rfl
    · have := ti.1
      omega
  · rw [q7, q8, ob_some, if_pos rfl]
    obtain ⟨e2, rf2, rs2, rb2, gap3, hear3, mA3, mB3, next3, w3, t5⟩ := pair_loop hN (slow := slow) (len := len) (many := many) hv hx hM hg1 hg2 hs hb hD hB hsl (fun l3k l5k v1 v2 v3 v4 g5 h5 a5 b5 n5 => some (2, v1, v2, v3, v4, l3k, l5k, g5, h5, a5, b5, n5)) (fun v1 v2 v3 v4 g5 h5 a5 b5 n5 => some (-9, v1, v2, v3, v4, -1, -1, g5, h5, a5, b5, n5)) (fun l3k116_162 l4k116_162 m_a0_wk116_162 => if nI l = 0 then (fX12_mules_184 2 0 m_a0_wk116_162) else (if nI l = 1 then (fX12_mules_181 l3k116_162 0 m_a0_wk116_162) else (fX12_mules_181 l4k116_162 0 m_a0_wk116_162))) (fun m_a0_wk116_197 => some (-9, 0, m_a0_wk116_197)) 36 0 N N e1 rf1 rs1 rb1 gap2 hear2 mA2 mB2 next2 w2 rfl (by omega) (by omega) (by omega) t3
    rw [show nI 0 = (0 : Int32) from rfl] at t5
    rcases t5 with ⟨i, j, hi, hj, ti, q9, q10⟩ | ⟨q9, q10⟩
    · refine ⟨_, _, _, _, _, _, _, _, _, _, _, _, w3, q9, q10.trans ?_, fun h => ?_⟩
      · unfold fX12_mules_184 fX12_mules_181 fX12_mules_184
        rw [cod_ok hi, cod_ok hj, ob_some, ob_some]
        by_cases h0 : nI l = 0
        · rw [if_pos h0, if_pos h0]
        · rw [if_neg h0, if_neg h0]
          by_cases h1 : nI l = 1
          · rw [if_pos h1, if_pos h1]
          · rw [if_neg h1, if_neg h1]
      · have := ti.1
        omega
    · refine ⟨_, _, _, _, _, _, _, _, _, _, _, _, w3, q9, q10.trans ?_, fun _ => ⟨rfl, rfl, rfl⟩⟩
      rcases (show l = 0 ∨ l = 1 ∨ l = 2 by omega) with rfl | rfl | rfl <;> rfl
theorem sim_mules {N : Nat} (hN : 400 ≤ N) : Sim_mules N Inv := by
  intro d m a1 a2 hI
  obtain ⟨hT, hK, hB, v, hV, hS, hP, hIm, hH⟩ := id hI
  have hV' := hV
  obtain ⟨hOk, n1, n2, -⟩ := hV'
  have hn := hOk.1
  obtain ⟨a, hA, hC, hF⟩ := hS
  unfold fX11_mules fX12_mules fX11_mules_19 fX12_mules_24 fX11_mules_69 fX11_mules_96
  rcases rngLM a1 1 20 1 20 rfl rfl (by omega) (by omega) with ⟨e1, e2, g, hg1, hg2, rfl⟩ | ⟨e1, e2, -⟩
  · rcases rngL a2 2 2 rfl (by omega) with ⟨e3, e4, l, hl, rfl⟩ | ⟨e3, e4, -⟩
    · have hP' : aP a < 6 := by rcases hA.2.2.1 with h | h <;> omega
      have hb : ∀ x y, Hn (vW v) (vR v) a x y ≤ 20 := fun x y => Hn_le (fun k h => (hA.2.2.2.2.2.2.1 k h).2.2.2.2) hOk.2.2.1
      have hCp : (dS d).2.2.1 = nI (aP a) := hC.2.2.1
      obtain ⟨D, gap', hear', next', slow', hD, hB', q1, q2, q3, q4⟩ := now_lay (N := N) (by omega) hV hA hC ((dC d).2.2.2.2.2.2.2.2.1) ((dC d).2.2.2.2.2.2.2.2.2.1) ((dC d).2.2.2.2.2.2.2.2.2.2.2.2.1) ((dC d).2.2.2.2.2.2.2.2.2.2.2.2.2)
      have hs := mkWk hA hF
      rw [e1, e2, e3, e4]
      simp only [ob_some, if_neg ne10]
      rw [q1, ob_some, hCp, n2]
      unfold fX0_fewestMules fX12_mules_58
      rcases goesOn_ok (N := N) (by omega) hn hP' q3 ((dC d).1) ((dC d).2.1) ((dC d).2.2.1) ((dC d).2.2.2.1) ((dC d).2.2.2.2.2.2.2.2.2.2.1) ((dC d).2.2.2.2.2.2.2.2.2.2.2.1) with ⟨k, mA', mB', r1, r2⟩ | ⟨i, k, mA', mB', r1, r2⟩
      · rw [r2, ob_some]
        simp only [if_true]
        by_cases h0 : vN v = 0
        · obtain ⟨c, p, q, e', rf', rs', rb', gap2, hear2, mA2, mB2, next2, w2, t1, t2, t3⟩ := fm_tail hN (slow := slow') (mkRW hV) hP' hA.2.2.2.2.1 hg1 hg2 hs hb hD hB' q4 hl (nI k) ((dC d).2.1) ((dC d).2.2.1) ((dC d).2.2.2.1) gap' hear' mA' mB' next' (m_w m) ⟨q2, q3⟩
          obtain ⟨rfl, rfl, rfl⟩ := t3 h0
          rw [t1, ob_some, if_pos (show nI (vN v) = (0 : Int32) by rw [h0]; rfl)]
          rcases (show l = 0 ∨ l = 1 ∨ l = 2 by omega) with rfl | rfl | rfl
          · exact ⟨_, _, rfl, rfl, rfl, hI⟩
          · exact ⟨_, _, rfl, rfl, rfl, hI⟩
          · exact ⟨_, _, rfl, rfl, rfl, hI⟩
        · obtain ⟨f1, q5, q6⟩ := isE0 (len := m_lengths m) (many := m_many m) hN hs (nI g) (m_w m)
          obtain ⟨f', e5⟩ := e46_end (N := N) (by omega) (mkRW hV) h0 hP' r1 q5
          obtain ⟨c, p, q, e', rf', rs', rb', gap2, hear2, mA2, mB2, next2, w2, t1, t2, t3⟩ := fm_tail hN (slow := slow') (mkRW hV) hP' hA.2.2.2.2.1 hg1 hg2 hs hb hD hB' q4 hl (nI k) ((dC d).2.1) ((dC d).2.2.1) ((dC d).2.2.2.1) gap' hear' mA' mB' next' f' ⟨q2, q3⟩
          rw [t1, ob_some, if_neg (show ¬ nI (vN v) = (0 : Int32) from nI_ne0 (by omega) (by omega)), q6, e5, ob_some]
          simp only [if_true]
          rw [t2]
          rcases (show l = 0 ∨ l = 1 ∨ l = 2 by omega) with rfl | rfl | rfl
          · exact ⟨_, _, rfl, rfl, rfl, hI⟩
          · rw [if_neg (show ¬ nI 1 = (0 : Int32) by decide), if_pos (show nI 1 = (1 : Int32) from rfl)]
            by_cases hp : p = -1
            · rw [if_pos hp]
              exact ⟨_, _, rfl, rfl, by rw [hp]; rfl, hI⟩
            · rw [if_neg hp]
              refine ⟨_, _, rfl, rfl, ?_, hI⟩
              show _ = cod p
              unfold cod
              rw [if_neg hp]
          · rw [if_neg (show ¬ nI 2 = (0 : Int32) by decide), if_neg (show ¬ nI 2 = (1 : Int32) by decide)]
            by_cases hp : q = -1
            · rw [if_pos hp]
              exact ⟨_, _, rfl, rfl, by rw [hp]; rfl, hI⟩
            · rw [if_neg hp]
              refine ⟨_, _, rfl, rfl, ?_, hI⟩
              show _ = cod q
              unfold cod
              rw [if_neg hp]
      · by_cases h0 : vN v = 0
        · rw [h0] at r1
          exact (rnd0 r1).elim
        · obtain ⟨f1, q5, q6⟩ := isE0 (len := m_lengths m) (many := m_many m) hN hs (nI g) (m_w m)
          obtain ⟨f', e5⟩ := e46_rnd (N := N) (by omega) (mkRW hV) h0 hP' r1 q5
          rw [r2, ob_some, if_neg (show ¬ nI (vN v) = (0 : Int32) from nI_ne0 (by omega) (by omega)), q6, e5, ob_some]
          simp only [if_neg ne10, ob_some]
          rcases (show l = 0 ∨ l = 1 ∨ l = 2 by omega) with rfl | rfl | rfl
          · rw [if_pos (show nI 0 = (0 : Int32) from rfl), if_pos (show nI 0 = (0 : Int32) from rfl)]
            exact ⟨_, _, rfl, rfl, rfl, hI⟩
          · exact ⟨_, _, rfl, rfl, rfl, hI⟩
          · exact ⟨_, _, rfl, rfl, rfl, hI⟩
    · rw [e1, e2, e3, e4]
      simp only [ob_some, if_neg ne10, if_true]
      exact ⟨_, _, rfl, rfl, rfl, hI⟩
  · rw [e1, e2]
    simp only [ob_some, if_true]
    exact ⟨_, _, rfl, rfl, rfl, hI⟩
