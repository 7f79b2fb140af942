/-! ===== pure: two drums that meet ===== -/
abbrev MTF : Type := Option (Int32 × Int32 × (Nat → Int32) × (Nat → Int32))
theorem meet_cp {s : Nat → Int32} {K : (Nat → Int32) → MTF} : ∀ (r i : Nat) (g : Nat → Int32) (n : Nat), i + r = 35 → r < n → fX12_meet_L30 s K n (nI i) g = K (fun j => if i ≤ j ∧ j < 35 then s j else g j) := by
  intro r
  induction r with
  | zero =>
    intro i g n hi hn
    obtain ⟨n, rfl⟩ : ∃ k, n = k + 1 := ⟨n - 1, by omega⟩
    obtain rfl : i = 35 := by omega
    unfold fX12_meet_L30 fX12_meet_30
    rw [if_pos (show (35 : Int32) ≤ nI 35 by decide)]
    congr 1
    funext j
    rw [if_neg (by omega)]
  | succ r ih =>
    intro i g n hi hn
    obtain ⟨n, rfl⟩ : ∃ k, n = k + 1 := ⟨n - 1, by omega⟩
    unfold fX12_meet_L30 fX12_meet_30
    rw [if_neg (show ¬ (35 : Int32) ≤ nI i from nI_ge (a := i) (b := 35) (by omega) (by omega))]
    rw [rdi_at (j := i) rfl (by omega) (by omega), wri_at (j := i) rfl (by omega) (by omega)]
    rw [show nI i + 1 = nI (i + 1) from nI_1 i, ih (i + 1) _ n (by omega) (by omega)]
    congr 1
    funext j
    rw [upd_at]
    by_cases h1 : j = i
    · rw [if_neg (by omega), if_pos h1, if_pos (by omega), h1]
    · rw [if_neg h1]
      by_cases h2 : i + 1 ≤ j ∧ j < 35
      · rw [if_pos h2, if_pos (by omega)]
      · rw [if_neg h2, if_neg (by omega)]
theorem mtL {N : Nat} (hN : 10 ≤ N) {n R B : Nat} {W : Nat → Nat → Nat} {len many : Nat → Int32} {a : AN} (hv : RW n R W len many) (hx0 : n ≠ 0) (hB : B < 1000000) (hS : ∀ y, y < 6 → aS a y ≤ 9) {gap next : Nat → Int32} (hc : CN n (aS a) (Hn W R a) gap next) (KN : MBC) (KM : Int32 → Int32 → MBC) (FM FN : (Nat → Int32) → (Nat → Int32) → MTF) : ∀ (i k fu x z b c : Nat) (f g : Nat → Int32), 802 - k = i → k ≤ 802 → i + 2 < fu → x < 6 → z < 6 → k ≤ b + c → b ≤ 29 * k → c ≤ 29 * k → Wk n a f x (B + b) → Wk n a g z (B + c) →
    (∃ f' g', fX11_meet_L43 gap next KN KM KN fu (nI x) (nI z) (nI b) (nI c) (nI k) = KN ∧ fX12_meet_L75 N (nI (B + 400)) len many FM FN fu 1 f g = FN f' g') ∨ (∃ y t f' g', fX11_meet_L43 gap next KN KM KN fu (nI x) (nI z) (nI b) (nI c) (nI k) = KM (nI y) (nI t) ∧ fX12_meet_L75 N (nI (B + 400)) len many FM FN fu 1 f g = FM f' g' ∧ f' 1 = nI (B + t) ∧ f' 2 = nI y) := by
  have hn : n ≤ 6 := hv.1
  intro i
  induction i with
  | zero =>
    intro k fu x z b c f g h1 h2 h3 hx hz h4 h5 h6 hf hg
    have hk : k = 802 := by omega
    subst hk
    obtain ⟨fu, rfl⟩ : ∃ g, fu = g + 1 := ⟨fu - 1, by omega⟩
    unfold fX11_meet_L43 fX11_meet_43 fX12_meet_L75 fX12_meet_75
    rw [if_pos (show (801 : Int32) < nI 802 by decide), if_neg ne10, hf.2.2.2, hg.2.2.2]
    refine Or.inl ⟨f, g, rfl, ?_⟩
    by_cases q : 400 < b
    · rw [if_pos (nI_lt (by omega) (by omega))]
    · rw [if_neg (nI_nlt (by omega) (by omega)), if_pos (nI_lt (show B + 400 < B + c by omega) (by omega))]
  | succ i ih =>
    intro k fu x z b c f g h1 h2 h3 hx hz h4 h5 h6 hf hg
    obtain ⟨fu, rfl⟩ : ∃ g, fu = g + 1 := ⟨fu - 1, by omega⟩
    have hbb : ∀ x y, Hn W R a x y ≤ 20 := fun x y => Hn_le (fun k h => (hf.1.2.2.2.2.2.2 k h).2.2.2.2) hv.2.2.1
    unfold fX11_meet_L43 fX11_meet_43 fX12_meet_L75 fX12_meet_75
    rw [if_neg (show ¬ (801 : Int32) < nI k from nI_nlt (a := 801) (b := k) (by omega) (by omega)), if_neg (m1_ne (by omega)), if_neg (m1_ne (by omega)), if_neg ne10, hf.2.2.2, hg.2.2.2, hf.2.2.1, hg.2.2.1]
    by_cases q1 : 400 < b
    · rw [if_pos (show (400 : Int32) < nI b from nI_lt (a := 400) q1 (by omega)), if_pos (nI_lt (show B + 400 < B + b by omega) (by omega))]
      exact Or.inl ⟨f, g, rfl, rfl⟩
    · rw [if_neg (show ¬ (400 : Int32) < nI b from nI_nlt (a := 400) (b := b) (by omega) (by omega)), if_neg (nI_nlt (show B + b ≤ B + 400 by omega) (by omega))]
      by_cases q2 : 400 < c
      · rw [if_neg (show ¬ nI c ≤ (400 : Int32) from nI_ge (a := 400) q2 (by omega)), if_pos (nI_lt (show B + 400 < B + c by omega) (by omega))]
        exact Or.inl ⟨f, g, rfl, rfl⟩
      · rw [if_pos (show nI c ≤ (400 : Int32) from nI_le (b := 400) (by omega) (by omega)), if_neg (nI_nlt (show B + c ≤ B + 400 by omega) (by omega))]
        have main : ¬ (x = z ∧ b = c) → (∃ f' g', fX11_meet_105 (fX11_meet_L43 gap next KN KM KN fu) (nI x) (nI z) (nI b) (nI c) (nI k) gap next = KN ∧ fX12_meet_157 (fX12_meet_L75 N (nI (B + 400)) len many FM FN fu) N len many f g = FN f' g') ∨ (∃ y t f' g', fX11_meet_105 (fX11_meet_L43 gap next KN KM KN fu) (nI x) (nI z) (nI b) (nI c) (nI k) gap next = KM (nI y) (nI t) ∧ fX12_meet_157 (fX12_meet_L75 N (nI (B + 400)) len many FM FN fu) N len many f g = FM f' g' ∧ f' 1 = nI (B + t) ∧ f' 2 = nI y) := by
          intro _
          obtain ⟨c1, c2⟩ := hc x hx
          obtain ⟨c3, c4⟩ := hc z hz
          unfold fX11_meet_105 fX11_meet_166 fX12_meet_157 fX12_meet_191
          rw [hf.2.2.2, hg.2.2.2]
          by_cases q3 : c < b
          · rw [if_pos (nI_lt q3 (by omega)), if_pos (nI_lt (show B + c < B + b by omega) (by omega)), rdi_at (j := z) rfl hz (by omega), lti_eq, rdi_at (j := z) rfl hz (by omega), c3, c4, nI_1]
            rcases go hN hv hg hz hx0 with ⟨e1, e2⟩ | ⟨y, g', e1, y1, e2, e3⟩
            · obtain ⟨fu, rfl⟩ : ∃ g, fu = g + 1 := ⟨fu - 1, by omega⟩
              rw [e2, ob_some, enX_none e1]
              refine Or.inl ⟨f, g, ?_, ?_⟩
              · unfold fX11_meet_L43 fX11_meet_43
                rw [if_pos (show (-1 : Int32) = -1 from rfl), ite_self, ite_self]
              · unfold fX12_meet_L75 fX12_meet_75
                rw [if_pos (show (0 : Int32) = 0 from rfl)]
            · obtain ⟨g1, g2⟩ := gp_b (hbb z) hS hn e1
              rw [e2, ob_some, enX_some e1, enG_some e1, nI_add]
              rw [Nat.add_assoc] at e3
              exact ih (k + 1) fu x y b _ f g' (by omega) (by omega) (by omega) hx (by omega) (by omega) (by omega) (by omega) hf e3
          · rw [if_neg (nI_nlt (by omega) (by omega)), if_neg (nI_nlt (show B + b ≤ B + c by omega) (by omega)), rdi_at (j := x) rfl hx (by omega), lti_eq, rdi_at (j := x) rfl hx (by omega), c1, c2, nI_1]
            rcases go hN hv hf hx hx0 with ⟨e1, e2⟩ | ⟨y, f', e1, y1, e2, e3⟩
            · obtain ⟨fu, rfl⟩ : ∃ g, fu = g + 1 := ⟨fu - 1, by omega⟩
              rw [e2, ob_some, enX_none e1]
              refine Or.inl ⟨f, g, ?_, ?_⟩
              · unfold fX11_meet_L43 fX11_meet_43
                rw [if_pos (show (-1 : Int32) = -1 from rfl), ite_self]
              · unfold fX12_meet_L75 fX12_meet_75
                rw [if_pos (show (0 : Int32) = 0 from rfl)]
            · obtain ⟨g1, g2⟩ := gp_b (hbb x) hS hn e1
              rw [e2, ob_some, enX_some e1, enG_some e1, nI_add]
              rw [Nat.add_assoc] at e3
              exact ih (k + 1) fu y z _ c f' g (by omega) (by omega) (by omega) (by omega) hz (by omega) (by omega) (by omega) e3 hg
        by_cases q3 : x = z
        · by_cases q4 : b = c
          · rw [if_pos (by rw [q3]), if_pos (by rw [q4]), if_pos (by rw [q4]), if_pos (by rw [q3])]
            exact Or.inr ⟨x, b, f, g, rfl, rfl, hf.2.2.2, hf.2.2.1⟩
          · rw [if_pos (by rw [q3]), if_neg (nI_ne (by omega) (by omega) q4), if_neg (nI_ne (by omega) (by omega) (show B + b ≠ B + c by omega))]
            exact main (fun q => q4 q.2)
        · by_cases q4 : b = c
          · rw [if_neg (nI_ne (by omega) (by omega) q3), if_pos (by rw [q4]), if_neg (nI_ne (by omega) (by omega) q3)]
            exact main (fun q => q3 q.1)
          · rw [if_neg (nI_ne (by omega) (by omega) q3), if_neg (nI_ne (by omega) (by omega) (show B + b ≠ B + c by omega))]
            exact main (fun q => q3 q.1)
theorem sim_meet {N : Nat} (hN : 2000 ≤ N) : Sim_meet N Inv := by
  intro d m a1 a2 hI
  obtain ⟨hT, hK, hB, v, hV, hS, hP, hIm, hH⟩ := id hI
  have hV' := hV
  obtain ⟨hOk, n1, n2, -⟩ := hV'
  have hn := hOk.1
  obtain ⟨a, hA, hC, hF⟩ := hS
  unfold fX11_meet fX12_meet fX11_meet_17 fX12_meet_22 fX11_meet_104 fX12_meet_156
  rcases vil hn a1 n2 with ⟨e1, e2, y, hy, rfl⟩ | ⟨e1, e2, -⟩
  · rw [← n1] at e2
    rcases rngL a2 1 1 rfl (by omega) with ⟨e3, e4, g, hg, rfl⟩ | ⟨e3, e4, -⟩
    · obtain ⟨w, w1, w2⟩ := asNow_ok (N := N) (by omega) (m_s m) (m_w m)
      have h0 : vN v ≠ 0 := by omega
      obtain ⟨D, gap', hear', next', slow', hD, hB', q1, q2, q3, q4⟩ := now_lay (N := N) (by omega) hV hA hC ((dC d).2.2.2.2.2.2.2.2.1) ((dC d).2.2.2.2.2.2.2.2.2.1) ((dC d).2.2.2.2.2.2.2.2.2.2.2.2.1) ((dC d).2.2.2.2.2.2.2.2.2.2.2.2.2)
      have hP' : aP a < 6 := by rcases hA.2.2.1 with h | h <;> omega
      have hs := mkWk hA hF
      have hw : Wk (vN v) a w (aP a) (aB a) := Wk_as w2 hs
      have hCp : (dS d).2.2.1 = nI (aP a) := hC.2.2.1
      have hBd : aB a < 1000000 := by
        have h1 := hA.1
        have h2 := hA.2.1
        omega
      have hz : Wk (vN v) a (upd (fun j => if 0 ≤ j ∧ j < 35 then m_s m j else m_z m j) 2 (nI y)) y (aB a) := Wk_place (Wk_as (fun j hj => if_pos ⟨Nat.zero_le _, hj⟩) hs)
      rw [e1, e2, e3, e4]
      simp only [ob_some, if_neg ne10]
      rw [w1, q1, ob_some, ob_some, hCp, show (0 : Int32) = nI 0 from rfl, meet_cp 35 0 (m_z m) N (by omega) (by omega), lti_eq, lti_eq, hF.2.1, show nI (aB a) + (400 : Int32) = nI (aB a + 400) from nI_add _ _]
      have hm := mtL (N := N) (by omega) (mkRW hV) h0 hBd hA.2.2.2.2.2.1 q3 (some ((-9 : Int32), nI (vN v), nI D, gap', hear', next', slow')) (fun l3k43_94 l5k43_94 => if nI g = nI 0 then (some (l5k43_94, nI (vN v), nI D, gap', hear', next', slow'))
  else (some (l3k43_94, nI (vN v), nI D, gap', hear', next', slow'))) (fun m_a0_wk75_130 m_a0_zk75_130 => if nI g = nI 0 then (some ((m_a0_wk75_130 1) - nI (aB a), nI 0, m_a0_wk75_130, m_a0_zk75_130))
  else (some (m_a0_wk75_130 2, nI 0, m_a0_wk75_130, m_a0_zk75_130))) (fun m_a0_wk75_196 m_a0_zk75_196 => some ((-9 : Int32), nI 0, m_a0_wk75_196, m_a0_zk75_196)) 802 0 N (aP a) y 0 0 w _ (by omega) (by omega) (by omega) hP' (by omega) (by omega) (by omega) (by omega) hw hz
      rcases hm with ⟨f', g', r1, r2⟩ | ⟨x, t, f', g', r1, r2, r3, r4⟩
      · exact ⟨_, _, r1, r2, rfl, hI⟩
      · by_cases hg0 : nI g = nI 0
        · simp only [if_pos hg0] at r1 r2 ⊢
          refine ⟨_, _, r1, r2, ?_, hI⟩
          show nI t = f' 1 - nI (aB a)
          rw [r3, pk_sub (by omega)]
          congr 1
          omega
        · simp only [if_neg hg0] at r1 r2 ⊢
          exact ⟨_, _, r1, r2, r4.symm, hI⟩
    · rw [e1, e2, e3, e4]
      simp only [ob_some, if_neg ne10, if_true]
      exact ⟨_, _, rfl, rfl, rfl, hI⟩
  · rw [← n1] at e2
    rw [e1, e2]
    simp only [ob_some, if_true]
    exact ⟨_, _, rfl, rfl, rfl, hI⟩
