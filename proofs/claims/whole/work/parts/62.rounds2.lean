/-! ===== pure: it ends or comes round in the reference ===== -/
theorem ei_end {N : Nat} (hN : 10 ≤ N) {n R x k B : Nat} {W : Nat → Nat → Nat} {len many : Nat → Int32} {a : AN} (hv : RW n R W len many) (hx0 : n ≠ 0) (hx : x < 6) (hE : Ends (Hn W R a) (aS a) n x k) (K16 : Int32 → (Nat → Int32) → Option (Int32 × (Nat → Int32))) (K24 : (Nat → Int32) → Option (Int32 × (Nat → Int32))) : ∀ (r j fu : Nat) (f : Nat → Int32), k - j = r → j ≤ k → r < fu → Wk n a f (pw (Hn W R a) (aS a) n x j).1 (B + (pw (Hn W R a) (aS a) n x j).2) → ∃ f', fX12_endsIn_L2 N len many K16 K24 fu (nI j) f = K16 (nI k) f' := by
  have hn : n ≤ 6 := hv.1
  obtain ⟨k1, k2, k3, k4⟩ := hE
  intro r
  induction r with
  | zero =>
    intro j fu f h1 h2 h3 hf
    have hj : j = k := by omega
    subst hj
    obtain ⟨fu, rfl⟩ : ∃ g, fu = g + 1 := ⟨fu - 1, by omega⟩
    unfold fX12_endsIn_L2 fX12_endsIn_2
    rw [if_neg (show ¬ (8 : Int32) ≤ nI j from nI_ge (b := 8) (by omega) (by omega))]
    rcases go hN hv hf (pw_lt hn hx j k2) hx0 with ⟨e1, e2⟩ | ⟨y, f', e1, y1, e2, e3⟩
    · rw [e2, ob_some, if_pos rfl]
      exact ⟨f, rfl⟩
    · rw [k3] at e1
      cases e1
  | succ r ih =>
    intro j fu f h1 h2 h3 hf
    obtain ⟨fu, rfl⟩ : ∃ g, fu = g + 1 := ⟨fu - 1, by omega⟩
    obtain ⟨y, q1, q2⟩ := go_back (k2 j (by omega)) (k2 (j + 1) (by omega))
    unfold fX12_endsIn_L2 fX12_endsIn_2
    rw [if_neg (show ¬ (8 : Int32) ≤ nI j from nI_ge (b := 8) (by omega) (by omega))]
    rcases go hN hv hf (pw_lt hn hx j (fun i hi => k2 i (by omega))) hx0 with ⟨e1, e2⟩ | ⟨y', f', e1, y1, e2, e3⟩
    · rw [q1] at e1
      cases e1
    · rw [q1] at e1
      cases e1
      rw [e2, ob_some, if_neg ne10, nI_1]
      refine ih (j + 1) fu f' (by omega) (by omega) (by omega) ?_
      rw [q2]
      rw [Nat.add_assoc] at e3
      exact e3
theorem ei_rnd {N : Nat} (hN : 10 ≤ N) {n R x B : Nat} {W : Nat → Nat → Nat} {len many : Nat → Int32} {a : AN} (hv : RW n R W len many) (hx0 : n ≠ 0) (hx : x < 6) (hE : ∀ j, Go (Hn W R a) (aS a) n x j) (K16 : Int32 → (Nat → Int32) → Option (Int32 × (Nat → Int32))) (K24 : (Nat → Int32) → Option (Int32 × (Nat → Int32))) : ∀ (r j fu : Nat) (f : Nat → Int32), 8 - j = r → j ≤ 8 → r < fu → Wk n a f (pw (Hn W R a) (aS a) n x j).1 (B + (pw (Hn W R a) (aS a) n x j).2) → ∃ f', fX12_endsIn_L2 N len many K16 K24 fu (nI j) f = K24 f' := by
  have hn : n ≤ 6 := hv.1
  intro r
  induction r with
  | zero =>
    intro j fu f h1 h2 h3 hf
    have hj : j = 8 := by omega
    subst hj
    obtain ⟨fu, rfl⟩ : ∃ g, fu = g + 1 := ⟨fu - 1, by omega⟩
    unfold fX12_endsIn_L2 fX12_endsIn_2
    rw [if_pos (show (8 : Int32) ≤ nI 8 by decide)]
    exact ⟨f, rfl⟩
  | succ r ih =>
    intro j fu f h1 h2 h3 hf
    obtain ⟨fu, rfl⟩ : ∃ g, fu = g + 1 := ⟨fu - 1, by omega⟩
    obtain ⟨y, q1, q2⟩ := go_back (hE j) (hE (j + 1))
    unfold fX12_endsIn_L2 fX12_endsIn_2
    rw [if_neg (show ¬ (8 : Int32) ≤ nI j from nI_ge (b := 8) (by omega) (by omega))]
    rcases go hN hv hf (pw_lt hn hx j (fun i _ => hE i)) hx0 with ⟨e1, e2⟩ | ⟨y', f', e1, y1, e2, e3⟩
    · rw [q1] at e1
      cases e1
    · rw [q1] at e1
      cases e1
      rw [e2, ob_some, if_neg ne10, nI_1]
      refine ih (j + 1) fu f' (by omega) (by omega) (by omega) ?_
      rw [q2]
      rw [Nat.add_assoc] at e3
      exact e3
theorem endsIn_end {N : Nat} (hN : 10 ≤ N) {n R x k B : Nat} {W : Nat → Nat → Nat} {len many f : Nat → Int32} {a : AN} (hv : RW n R W len many) (hx0 : n ≠ 0) (hx : x < 6) (hE : Ends (Hn W R a) (aS a) n x k) (hf : Wk n a f x B) : ∃ f', fX12_endsIn N len many f = some (nI k, f') :=
  ei_end hN (B := B) hv hx0 hx hE (fun a b => some (a, b)) (fun a => some (-9, a)) k 0 N f (by omega) (by omega) (by have := hE.1; omega) hf
theorem endsIn_rnd {N : Nat} (hN : 10 ≤ N) {n R x i k B : Nat} {W : Nat → Nat → Nat} {len many f : Nat → Int32} {a : AN} (hv : RW n R W len many) (hx0 : n ≠ 0) (hx : x < 6) (hE : Rnd (Hn W R a) (aS a) n x i k) (hf : Wk n a f x B) : ∃ f', fX12_endsIn N len many f = some (-9, f') :=
  ei_rnd hN (B := B) hv hx0 hx (fun j => (rnd_all hE j).1) (fun a b => some (a, b)) (fun a => some (-9, a)) 8 0 N f (by omega) (by omega) (by omega) hf
theorem endsIn_no {N : Nat} (hN : 10 ≤ N) {len many f : Nat → Int32} (h : many 0 = 0) : fX12_endsIn N len many f = some (0, f) := by
  obtain ⟨N, rfl⟩ : ∃ g, N = g + 1 := ⟨N - 1, by omega⟩
  unfold fX12_endsIn fX12_endsIn_L2 fX12_endsIn_2
  rw [if_neg (by decide), goes_no h, ob_some, if_pos rfl]
/-! the round -/
abbrev RO : Type := Option (Int32 × (Nat → Int32) × (Nat → Int32) × (Nat → Int32) × (Nat → Int32))
theorem ir_loop {N : Nat} (hN : 10 ≤ N) {n R x k B : Nat} {W : Nat → Nat → Nat} {len many : Nat → Int32} {a : AN} (hv : RW n R W len many) (hx0 : n ≠ 0) (hx : x < 6) (hG : ∀ j, j ≤ k → Go (Hn W R a) (aS a) n x j) (hd : ∀ i j, i < j → j < k → (pw (Hn W R a) (aS a) n x i).1 ≠ (pw (Hn W R a) (aS a) n x j).1) (K : Int32 → Int32 → (Nat → Int32) → (Nat → Int32) → (Nat → Int32) → RO) : ∀ (r j fu : Nat) (f mA mB : Nat → Int32), k - j = r → j ≤ k → r + 1 < fu → Wk n a f (pw (Hn W R a) (aS a) n x j).1 (B + (pw (Hn W R a) (aS a) n x j).2) → (∀ i, i < j → mA (pw (Hn W R a) (aS a) n x i).1 = nI i ∧ mB (pw (Hn W R a) (aS a) n x i).1 = nI (B + (pw (Hn W R a) (aS a) n x i).2)) → (∀ z, z < 6 → (∀ i, i < j → (pw (Hn W R a) (aS a) n x i).1 ≠ z) → mA z = -9) → ∃ fu' f' mA' mB', 1 < fu' ∧ fX12_isRound_L40 N len many K fu (nI j) 1 mA mB f = fX12_isRound_L40 N len many K fu' (nI k) 1 mA' mB' f' ∧ Wk n a f' (pw (Hn W R a) (aS a) n x k).1 (B + (pw (Hn W R a) (aS a) n x k).2) ∧ (∀ i, i < k → mA' (pw (Hn W R a) (aS a) n x i).1 = nI i ∧ mB' (pw (Hn W R a) (aS a) n x i).1 = nI (B + (pw (Hn W R a) (aS a) n x i).2)) ∧ (∀ z, z < 6 → (∀ i, i < k → (pw (Hn W R a) (aS a) n x i).1 ≠ z) → mA' z = -9) := by
  have hn : n ≤ 6 := hv.1
  intro r
  induction r with
  | zero =>
    intro j fu f mA mB h1 h2 h3 hf hm hz
    have hj : j = k := by omega
    subst hj
    exact ⟨fu, f, mA, mB, by omega, rfl, hf, hm, hz⟩
  | succ r ih =>
    intro j fu f mA mB h1 h2 h3 hf hm hz
    obtain ⟨fu, rfl⟩ : ∃ g, fu = g + 1 := ⟨fu - 1, by omega⟩
    have hlt := pw_lt hn hx j (fun i hi => hG i (by omega))
    obtain ⟨y, q1, q2⟩ := go_back (hG j (by omega)) (hG (j + 1) (by omega))
    rw [show fX12_isRound_L40 N len many K (fu + 1) (nI j) 1 mA mB f = fX12_isRound_40 (fX12_isRound_L40 N len many K fu) K N (nI j) 1 len many mA mB f from rfl]
    unfold fX12_isRound_40
    rw [if_neg ne10, hf.2.2.1, rdi_at (j := (pw (Hn W R a) (aS a) n x j).1) rfl hlt (by omega), hz _ hlt (fun i hi => hd i j hi (by omega)), if_pos rfl]
    rw [wri_at (j := (pw (Hn W R a) (aS a) n x j).1) rfl hlt (by omega), wri_at (j := (pw (Hn W R a) (aS a) n x j).1) rfl hlt (by omega), hf.2.2.2]
    rcases go hN hv hf hlt hx0 with ⟨e1, e2⟩ | ⟨y', f', e1, y1, e2, e3⟩
    · rw [q1] at e1
      cases e1
    · rw [q1] at e1
      cases e1
      rw [e2, ob_some, nI_1]
      refine ih (j + 1) fu f' _ _ (by omega) (by omega) (by omega) ?_ (fun i hi => ?_) (fun z hz1 hz2 => ?_)
      · rw [q2]
        rw [Nat.add_assoc] at e3
        exact e3
      · by_cases c : i = j
        · subst c; exact ⟨upd_eq rfl, upd_eq rfl⟩
        · have hne := hd i j (by omega) (by omega)
          rw [upd_ne hne, upd_ne hne]
          exact hm i (by omega)
      · rw [upd_ne (fun c => hz2 j (by omega) c.symm)]
        exact hz z hz1 (fun i hi => hz2 i (by omega))
theorem im_loop (K : (Nat → Int32) → RO) : ∀ (r k fu : Nat) (mA : Nat → Int32), 6 - k = r → k ≤ 6 → r < fu → (∀ z, z < k → mA z = -9) → ∃ mA', fX12_isRound_L2 K fu (nI k) mA = K mA' ∧ ∀ z, z < 6 → mA' z = -9 := by
  intro r
  induction r with
  | zero =>
    intro k fu mA h1 h2 h3 h4
    have hk : k = 6 := by omega
    subst hk
    obtain ⟨fu, rfl⟩ : ∃ g, fu = g + 1 := ⟨fu - 1, by omega⟩
    unfold fX12_isRound_L2 fX12_isRound_2
    rw [if_pos (show (6 : Int32) ≤ nI 6 by decide)]
    exact ⟨mA, rfl, h4⟩
  | succ r ih =>
    intro k fu mA h1 h2 h3 h4
    obtain ⟨fu, rfl⟩ : ∃ g, fu = g + 1 := ⟨fu - 1, by omega⟩
    unfold fX12_isRound_L2 fX12_isRound_2
    rw [if_neg (show ¬ (6 : Int32) ≤ nI k from nI_ge (b := 6) (by omega) (by omega)), wri_at (j := k) rfl (by omega) (by omega), nI_1]
    refine ih (k + 1) fu _ (by omega) (by omega) (by omega) (fun z hz => ?_)
    by_cases e : z = k
    · rw [upd_eq e]
    · rw [upd_ne e]; exact h4 z (by omega)
theorem nI_sub {p q : Nat} (h : q ≤ p) : nI p - nI q = nI (p - q) := by
  obtain ⟨c, rfl⟩ : ∃ c, p = c + q := ⟨p - q, by omega⟩
  rw [← nI_add, Int32.add_sub_cancel, Nat.add_sub_cancel]
theorem pw_mono {H : Nat → Nat → Nat} {S : Nat → Nat} {n x k : Nat} (hG : ∀ j, j ≤ k → Go H S n x j) : ∀ r i, i + r ≤ k → (pw H S n x i).2 ≤ (pw H S n x (i + r)).2 := by
  intro r
  induction r with
  | zero => intro i _; exact Nat.le_refl _
  | succ r ih =>
    intro i h
    have q := ih i (by omega)
    obtain ⟨y, q1, q2⟩ := go_back (hG (i + r) (by omega)) (hG (i + r + 1) (by omega))
    show (pw H S n x i).2 ≤ (pw H S n x (i + r + 1)).2
    rw [q2]
    show _ ≤ (pw H S n x (i + r)).2 + _
    omega
theorem isRound_end {N : Nat} (hN : 400 ≤ N) {n R x k B : Nat} {W : Nat → Nat → Nat} {len many f : Nat → Int32} {a : AN} (hv : RW n R W len many) (hx0 : n ≠ 0) (hx : x < 6) (hE : Ends (Hn W R a) (aS a) n x k) (hf : Wk n a f x B) (mA mB m2 : Nat → Int32) : ∃ mA' mB' f', fX12_isRound N len many mA mB f m2 = some (0, mA', mB', f', m2) := by
  have hn : n ≤ 6 := hv.1
  obtain ⟨k1, k2, k3, k4⟩ := hE
  unfold fX12_isRound
  have e0 : ¬ many 0 ≤ 0 := by rw [hv.2.2.2.2.2.2.1]; exact nI_nle (by omega) (by omega)
  simp only [if_neg e0]
  obtain ⟨mA1, q1, q2⟩ := im_loop (fun m_a0_metAtk2_22 => fX12_isRound_38 N 0 1 len many m_a0_metAtk2_22 mB f m2) 6 0 N mA (by omega) (by omega) (by omega) (fun z hz => absurd hz (Nat.not_lt_zero _))
  rw [show (nI 0) = (0 : Int32) from rfl] at q1
  rw [q1]
  unfold fX12_isRound_38 fX12_isRound_135
  obtain ⟨fu, f1, mA2, mB2, r0, r1, r2, r3, r4⟩ := ir_loop (N := N) (by omega) (B := B) hv hx0 hx k2 (fun i j h1 h2 => k4 i j h1 (by omega)) (fun l3k40_91 l4k40_91 m_a0_metAtk40_91 m_a0_metBeatk40_91 m_a1k40_91 => if l4k40_91 = 0 then (bz l4k40_91 <| some (l4k40_91, m_a0_metAtk40_91, m_a0_metBeatk40_91, m_a1k40_91, m2))
  else (rdi 6 m_a0_metAtk40_91 (m_a1k40_91 2) fun x105 =>
  lti (upd m2 0 x105) fun g106 =>
  rdi 6 m_a0_metAtk40_91 (m_a1k40_91 2) fun x117 =>
  lti (upd g106 1 (l3k40_91 - x117)) fun g119 =>
  rdi 6 m_a0_metBeatk40_91 (m_a1k40_91 2) fun x132 =>
  lti (upd g119 2 ((m_a1k40_91 1) - x132)) fun g134 =>
  (bz l4k40_91 <| some (l4k40_91, m_a0_metAtk40_91, m_a0_metBeatk40_91, m_a1k40_91, g134)))) k 0 N f mA1 mB (by omega) (by omega) (by omega) hf (fun i hi => absurd hi (Nat.not_lt_zero _)) (fun z hz _ => q2 z hz)
  rw [show (nI 0) = (0 : Int32) from rfl] at r1
  rw [r1]
  obtain ⟨fu, rfl⟩ : ∃ g, fu = g + 1 + 1 := ⟨fu - 2, by omega⟩
  have hlt := pw_lt hn hx k k2
  unfold fX12_isRound_L40 fX12_isRound_40
  rw [if_neg ne10, r2.2.2.1, rdi_at (j := (pw (Hn W R a) (aS a) n x k).1) rfl hlt (by omega), r4 _ hlt (fun i hi => k4 i k hi (Nat.le_refl _)), if_pos rfl]
  rw [wri_at (j := (pw (Hn W R a) (aS a) n x k).1) rfl hlt (by omega), wri_at (j := (pw (Hn W R a) (aS a) n x k).1) rfl hlt (by omega)]
  rcases go (N := N) (by omega) hv r2 hlt hx0 with ⟨e1, e2⟩ | ⟨y', f', e1, y1, e2, e3⟩
  · rw [e2, ob_some]
    unfold fX12_isRound_L40 fX12_isRound_40
    rw [if_pos rfl]
    simp only [if_true, bz0]
    exact ⟨_, _, _, rfl⟩
  · rw [k3] at e1
    cases e1
theorem isRound_rnd {N : Nat} (hN : 400 ≤ N) {n R x i k B : Nat} {W : Nat → Nat → Nat} {len many f : Nat → Int32} {a : AN} (hv : RW n R W len many) (hx0 : n ≠ 0) (hx : x < 6) (hE : Rnd (Hn W R a) (aS a) n x i k) (hf : Wk n a f x B) (mA mB m2 : Nat → Int32) : ∃ mA' mB' f' m2', fX12_isRound N len many mA mB f m2 = some (1, mA', mB', f', m2') ∧ m2' 0 = nI i ∧ m2' 1 = nI k - nI i ∧ m2' 2 = nI (pw (Hn W R a) (aS a) n x k).2 - nI (pw (Hn W R a) (aS a) n x i).2 := by
  have hn : n ≤ 6 := hv.1
  obtain ⟨k0, k1, k2, k3, k4⟩ := hE
  unfold fX12_isRound
  have e0 : ¬ many 0 ≤ 0 := by rw [hv.2.2.2.2.2.2.1]; exact nI_nle (by omega) (by omega)
  simp only [if_neg e0]
  obtain ⟨mA1, q1, q2⟩ := im_loop (fun m_a0_metAtk2_22 => fX12_isRound_38 N 0 1 len many m_a0_metAtk2_22 mB f m2) 6 0 N mA (by omega) (by omega) (by omega) (fun z hz => absurd hz (Nat.not_lt_zero _))
  rw [show (nI 0) = (0 : Int32) from rfl] at q1
  rw [q1]
  unfold fX12_isRound_38 fX12_isRound_135
  obtain ⟨fu, f1, mA2, mB2, r0, r1, r2, r3, r4⟩ := ir_loop (N := N) (by omega) (B := B) hv hx0 hx k2 k4 (fun l3k40_91 l4k40_91 m_a0_metAtk40_91 m_a0_metBeatk40_91 m_a1k40_91 => if l4k40_91 = 0 then (bz l4k40_91 <| some (l4k40_91, m_a0_metAtk40_91, m_a0_metBeatk40_91, m_a1k40_91, m2))
  else (rdi 6 m_a0_metAtk40_91 (m_a1k40_91 2) fun x105 =>
  lti (upd m2 0 x105) fun g106 =>
  rdi 6 m_a0_metAtk40_91 (m_a1k40_91 2) fun x117 =>
  lti (upd g106 1 (l3k40_91 - x117)) fun g119 =>
  rdi 6 m_a0_metBeatk40_91 (m_a1k40_91 2) fun x132 =>
  lti (upd g119 2 ((m_a1k40_91 1) - x132)) fun g134 =>
  (bz l4k40_91 <| some (l4k40_91, m_a0_metAtk40_91, m_a0_metBeatk40_91, m_a1k40_91, g134)))) k 0 N f mA1 mB (by omega) (by omega) (by omega) hf (fun i hi => absurd hi (Nat.not_lt_zero _)) (fun z hz _ => q2 z hz)
  rw [show (nI 0) = (0 : Int32) from rfl] at r1
  rw [r1]
  obtain ⟨fu, rfl⟩ : ∃ g, fu = g + 1 := ⟨fu - 1, by omega⟩
  have hlt := pw_lt hn hx k k2
  obtain ⟨r5, r6⟩ := r3 i k0
  unfold fX12_isRound_L40 fX12_isRound_40
  simp only [if_neg ne10, r2.2.2.1, r2.2.2.2, rdi_at (j := (pw (Hn W R a) (aS a) n x k).1) rfl hlt (by omega : (6 : Nat) < 2 ^ 31)]
  rw [k3, r5, r6, if_neg (m9_ne (by omega))]
  simp only [lti_eq, bz1]
  refine ⟨_, _, _, _, rfl, ?_, ?_, ?_⟩
  · rw [upd_ne (by omega), upd_ne (by omega), upd_eq rfl]
  · rw [upd_ne (by omega), upd_eq rfl]
  · rw [upd_eq rfl]
    have hm := pw_mono k2 (k - i) i (by omega)
    rw [show i + (k - i) = k by omega] at hm
    rw [nI_sub (by omega), nI_sub hm]
    congr 1
    omega
