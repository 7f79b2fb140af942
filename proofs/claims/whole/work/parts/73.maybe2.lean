/-! ===== pure: mayBe ===== -/
def tH (v : AV) : Nat → Nat → Nat := Hn (vW v) (vR v) (toldA v 0)
def tS (v : AV) : Nat → Nat := aS (toldA v 0)
theorem tH_eq (v : AV) (x : Nat) : Hn (vW v) (vR v) (toldA v x) = tH v := rfl
theorem tS_eq (v : AV) (x : Nat) : aS (toldA v x) = tS v := rfl
theorem tH_le {v : AV} (h : OkV v) : ∀ x y, tH v x y ≤ 20 := fun _ _ => Hn_le (fun k hk => absurd hk (Nat.not_lt_zero _)) h.2.2.1
theorem tS_le {v : AV} (h : OkV v) : ∀ y, y < 6 → tS v y ≤ 9 := fun y hy => (toldA_ok (x := 0) (v := (vN v, vR v, 0, vW v, vL v, vD v)) ⟨h.1, h.2.1, h.2.2.1, (by
    show 0 < vN v ∨ (vN v = 0 ∧ 0 = 0)
    omega), h.2.2.2.2.1, h.2.2.2.2.2.1, h.2.2.2.2.2.2.1, h.2.2.2.2.2.2.2.1, h.2.2.2.2.2.2.2.2⟩ (by
    show 0 < vN v ∨ (vN v = 0 ∧ 0 = 0)
    omega)).2.2.2.2.2.1 y hy
theorem isHeard_ok {N : Nat} (hN : 400 ≤ N) {v : AV} {deaf len many slow : Nat → Int32} (hv : RW (vN v) (vR v) (vW v) len many) (ht : RT v deaf many slow) {x y T : Nat} (hx : x < vN v) (hy : y < 6) (hT : T ≤ 200) (w : Nat → Int32) : ∃ w', fX12_isHeard N (nI x) (nI y) (nI T) deaf len many slow w = some (fl (hit (tH v) (tS v) (vN v) T y 202 (some x) 0), w') := by
  obtain ⟨w1, e1, e2⟩ := asTold_ok hN ht (Or.inl hx) w
  have hn := hv.1
  unfold fX12_isHeard
  rw [e1, ob_some]
  have hw := mkWk (toldA_ok ht.1 (Or.inl hx)) e2
  obtain ⟨w2, q⟩ := ihF (N := N) (by omega) hv (show vN v ≠ 0 by omega) hy hT (a := toldA v x) (tS_le ht.1) (fun l4k15_92 m_a0_wk15_92 => bz l4k15_92 (some (l4k15_92, m_a0_wk15_92))) 201 0 N x 0 false w1 (by omega) (by omega) (by omega) (by omega) (by omega) (by omega) hw
  refine ⟨w2, q.trans ?_⟩
  rw [Bool.false_or, tH_eq, tS_eq]
  show bz (fl (hit (tH v) (tS v) (vN v) T y 202 (some x) 0)) (some (fl (hit (tH v) (tS v) (vN v) T y 202 (some x) 0), w2)) = _
  cases hit (tH v) (tS v) (vN v) T y 202 (some x) 0 with
  | true => exact bz1 _
  | false => exact bz0 _
theorem mfL24 {N : Nat} (hN : 400 ≤ N) {v : AV} {deaf len many slow hAt hBy : Nat → Int32} (hv : RW (vN v) (vR v) (vW v) len many) (ht : RT v deaf many slow) {x cnt : Nat} (hx : x < vN v) (hc : cnt ≤ 5) {V T : Nat → Nat} (hh : ∀ j, j < cnt → V j < vN v ∧ T j ≤ 200 ∧ hBy j = nI (V j) ∧ hAt j = nI (T j)) (K : Int32 → (Nat → Int32) → Option (Int32 × Int32 × (Nat → Int32))) : ∀ (i k fu : Nat) (w : Nat → Int32), cnt - k = i → k ≤ cnt → i < fu → ∃ w', fX12_mayBe_L24 N (nI x) (nI cnt) deaf hAt hBy len many slow K fu (fl (allB (fun j => hit (tH v) (tS v) (vN v) (T j) (V j) 202 (some x) 0) k)) (nI k) w = K (fl (allB (fun j => hit (tH v) (tS v) (vN v) (T j) (V j) 202 (some x) 0) cnt)) w' := by
  intro i
  induction i with
  | zero =>
    intro k fu w h1 h2 h3
    have hk : k = cnt := by omega
    subst hk
    obtain ⟨fu, rfl⟩ : ∃ g, fu = g + 1 := ⟨fu - 1, by omega⟩
    unfold fX12_mayBe_L24 fX12_mayBe_24
    rw [if_pos (nI_le (Nat.le_refl _) (by omega))]
    exact ⟨w, rfl⟩
  | succ i ih =>
    intro k fu w h1 h2 h3
    have hk : k < cnt := by omega
    obtain ⟨fu, rfl⟩ : ∃ g, fu = g + 1 := ⟨fu - 1, by omega⟩
    obtain ⟨p1, p2, p3, p4⟩ := hh k hk
    have hn := hv.1
    unfold fX12_mayBe_L24 fX12_mayBe_24 fX12_mayBe_63 fX12_mayBe_64
    rw [if_neg (nI_ge hk (by omega)), rdi_at (j := k) rfl (by omega) (by omega), rdi_at (j := k) rfl (by omega) (by omega), p3, p4, nI_1]
    have hs : ∀ q, q = allB (fun j => hit (tH v) (tS v) (vN v) (T j) (V j) 202 (some x) 0) (k + 1) → ∀ w, ∃ w', fX12_mayBe_L24 N (nI x) (nI cnt) deaf hAt hBy len many slow K fu (fl q) (nI (k + 1)) w = K (fl (allB (fun j => hit (tH v) (tS v) (vN v) (T j) (V j) 202 (some x) 0) cnt)) w' := by
      intro q hq w
      subst hq
      exact ih (k + 1) fu w (by omega) (by omega) (by omega)
    obtain ⟨w2, e⟩ := isHeard_ok hN hv ht hx (show V k < 6 by omega) p2 w
    rw [e]
    have hau : allB (fun j => hit (tH v) (tS v) (vN v) (T j) (V j) 202 (some x) 0) (k + 1) = (allB (fun j => hit (tH v) (tS v) (vN v) (T j) (V j) 202 (some x) 0) k && hit (tH v) (tS v) (vN v) (T k) (V k) 202 (some x) 0) := rfl
    rw [hau] at hs
    cases ha : allB (fun j => hit (tH v) (tS v) (vN v) (T j) (V j) 202 (some x) 0) k with
    | false =>
      rw [ha, Bool.false_and] at hs
      rw [if_pos (show fl false = 0 from rfl)]
      exact hs false rfl w
    | true =>
      rw [ha, Bool.true_and] at hs
      rw [if_neg (show ¬ fl true = 0 by decide), ob_some]
      cases hb : hit (tH v) (tS v) (vN v) (T k) (V k) 202 (some x) 0 with
      | false =>
        rw [if_pos (show fl false = 0 from rfl)]
        exact hs false hb.symm w2
      | true =>
        rw [if_neg (show ¬ fl true = 0 by decide)]
        exact hs true hb.symm w2
abbrev MBC : Type := Option (Int32 × Int32 × Int32 × (Nat → Int32) × (Nat → Int32) × (Nat → Int32) × (Nat → Int32))
theorem mbL {N : Nat} (hN : 400 ≤ N) {v : AV} {deaf len many slow hAt hBy : Nat → Int32} (hv : RW (vN v) (vR v) (vW v) len many) (ht : RT v deaf many slow) {cnt : Nat} (hc : cnt ≤ 5) {V T : Nat → Nat} (hh : ∀ j, j < cnt → V j < vN v ∧ T j ≤ 200 ∧ hBy j = nI (V j) ∧ hAt j = nI (T j)) {hB hV : Nat → Int32} (hh2 : ∀ j, j < cnt → V j < vN v ∧ T j ≤ 200 ∧ hV j = nI (V j) ∧ hB j = nI (T j)) {gap hear next : Nat → Int32} (hcn : CN (vN v) (tS v) (tH v) gap next) (hch : CH (tH v) hear) (KC : Int32 → MBC) (KF : Int32 → (Nat → Int32) → Option (Int32 × Int32 × (Nat → Int32))) : ∀ (r k fu : Nat) (s : Int32) (w : Nat → Int32), vN v - k = r → k ≤ vN v → r < fu → ∃ s' w', fX11_mayBe_L8 N (nI cnt) hB hV (nI (vN v)) gap hear next KC fu s (nI k) = KC s' ∧ fX12_mayBe_L9 N (nI cnt) deaf hAt hBy len many slow KF fu s (nI k) w = KF s' w' := by
  have hn := hv.1
  have hm0 : many 0 = nI (vN v) := hv.2.2.2.2.2.2.1
  intro r
  induction r with
  | zero =>
    intro k fu s w h1 h2 h3
    have hk : k = vN v := by omega
    subst hk
    obtain ⟨fu, rfl⟩ : ∃ g, fu = g + 1 := ⟨fu - 1, by omega⟩
    unfold fX11_mayBe_L8 fX11_mayBe_8 fX12_mayBe_L9 fX12_mayBe_9
    rw [hm0, if_pos (nI_le (Nat.le_refl _) (by omega)), if_pos (nI_le (Nat.le_refl _) (by omega))]
    exact ⟨s, w, rfl, rfl⟩
  | succ r ih =>
    intro k fu s w h1 h2 h3
    have hk : k < vN v := by omega
    obtain ⟨fu, rfl⟩ : ∃ g, fu = g + 1 := ⟨fu - 1, by omega⟩
    unfold fX11_mayBe_L8 fX11_mayBe_8 fX11_mayBe_33 fX12_mayBe_L9 fX12_mayBe_9 fX12_mayBe_83
    obtain ⟨w2, e⟩ := mfL24 hN hv ht hk hc hh (fun l3k24_71 m_a0_wk24_71 => if l3k24_71 = 0 then (lti (s ||| (0 : Int32)) fun y84 => fX12_mayBe_L9 N (nI cnt) deaf hAt hBy len many slow KF fu y84 (nI k + (1 : Int32)) m_a0_wk24_71)
  else (lti (s ||| ((1 : Int32) <<< (nI k &&& 31))) fun y84 => fX12_mayBe_L9 N (nI cnt) deaf hAt hBy len many slow KF fu y84 (nI k + (1 : Int32)) m_a0_wk24_71)) cnt 0 N w (by omega) (by omega) (by omega)
    rw [show fl (allB (fun j => hit (tH v) (tS v) (vN v) (T j) (V j) 202 (some k) 0) 0) = 1 from rfl, show nI 0 = (0 : Int32) from rfl] at e
    rw [hm0, if_neg (nI_ge hk (by omega)), if_neg (nI_ge hk (by omega)), e, isAll_ok hN hn hc (show k < 6 by omega) hh2 hcn hch (tH_le ht.1) (tS_le ht.1), ob_some]
    simp only [lti_eq, or0, nI_1]
    cases allB (fun j => hit (tH v) (tS v) (vN v) (T j) (V j) 202 (some k) 0) cnt with
    | false =>
      simp only [if_pos (show fl false = 0 from rfl)]
      exact ih (k + 1) fu s w2 (by omega) (by omega) (by omega)
    | true =>
      simp only [if_neg (show ¬ fl true = 0 by decide)]
      exact ih (k + 1) fu _ w2 (by omega) (by omega) (by omega)
theorem sim_mayBe {N : Nat} (hN : 400 ≤ N) : Sim_mayBe N Inv := by
  intro d m hI
  obtain ⟨hT, hK, hB, v, hV, hS, hP, hIm, hH⟩ := id hI
  have hV' := hV
  obtain ⟨hOk, n1, n2, -⟩ := hV'
  have hn6 := hOk.1
  obtain ⟨c, hc, c1, c2, c3⟩ := hH
  have hh : ∀ j, j < c → (dHV d j).toNatClampNeg < vN v ∧ (dHB d j).toNatClampNeg ≤ 200 ∧ dHV d j = nI ((dHV d j).toNatClampNeg) ∧ m_heardBy m j = nI ((dHV d j).toNatClampNeg) ∧ dHB d j = nI ((dHB d j).toNatClampNeg) ∧ m_heardAt m j = nI ((dHB d j).toNatClampNeg) := by
    intro j hj
    obtain ⟨x, b, p1, p2, p3, p4, p5, p6⟩ := c3 j hj
    have hn := hOk.1
    rw [p3, p4, p5, p6, nI_clamp (by omega), nI_clamp (by omega)]
    exact ⟨p1, p2, rfl, rfl, rfl, rfl⟩
  obtain ⟨D, gap', hear', next', slow', q1, q2, q3⟩ := told_lay (N := N) (by omega) hV 0 ((dC d).2.2.2.2.2.2.2.2.1) ((dC d).2.2.2.2.2.2.2.2.2.1) ((dC d).2.2.2.2.2.2.2.2.2.2.2.2.1) ((dC d).2.2.2.2.2.2.2.2.2.2.2.2.2)
  unfold fX11_mayBe fX12_mayBe
  rw [q1, ob_some, c1, c2, n1]
  obtain ⟨s', w', r1, r2⟩ := mbL hN (mkRW hV) (mkRT hV) hc (V := fun j => (dHV d j).toNatClampNeg) (T := fun j => (dHB d j).toNatClampNeg) (hBy := m_heardBy m) (hAt := m_heardAt m) (hB := dHB d) (hV := dHV d) (fun j hj => by
    obtain ⟨p1, p2, p3, p4, p5, p6⟩ := hh j hj
    exact ⟨p1, p2, p4, p6⟩) (fun j hj => by
    obtain ⟨p1, p2, p3, p4, p5, p6⟩ := hh j hj
    exact ⟨p1, p2, p3, p5⟩) q3 q2 (fun l1k8_39 => some (l1k8_39, nI (vN v), nI D, gap', hear', next', slow')) (fun l1k9_91 m_a0_wk9_91 => some (l1k9_91, (0 : Int32), m_a0_wk9_91)) (vN v) 0 N 0 (m_w m) (by omega) (by omega) (by omega)
  exact ⟨_, _, r1, r2, rfl, hI⟩
