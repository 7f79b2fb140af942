/-! ===== pure: village and rate ===== -/
def nbs (h : Nat → Nat) : Nat → Nat
  | 0 => 0
  | k + 1 => if h k = 0 then nbs h k else nbs h k ||| (1 <<< k)
def cnz (h : Nat → Nat) : Nat → Nat
  | 0 => 0
  | k + 1 => if h k = 0 then cnz h k else cnz h k + 1
theorem nbs_ok (h : Nat → Nat) : ∀ k, k ≤ 6 → nbs h k < 64 ∧ ∀ j, j < 6 → (nbs h k).testBit j = decide (j < k ∧ h j ≠ 0)
  | 0, _ => ⟨(by decide : (0 : Nat) < 64), fun j _ => by
    show (0 : Nat).testBit j = _
    rw [Nat.zero_testBit, decide_eq_false (by omega)]⟩
  | k + 1, hk => by
    obtain ⟨h1, h2⟩ := nbs_ok h k (by omega)
    unfold nbs
    by_cases c : h k = 0
    · rw [if_pos c]
      refine ⟨h1, fun j hj => ?_⟩
      rw [h2 j hj]
      by_cases e : j = k
      · subst e
        rw [decide_eq_false (fun q => q.2 c), decide_eq_false (fun q => q.2 c)]
      · by_cases e2 : j < k ∧ h j ≠ 0
        · rw [decide_eq_true e2, decide_eq_true ⟨by omega, e2.2⟩]
        · rw [decide_eq_false e2, decide_eq_false (fun q => e2 ⟨by omega, q.2⟩)]
    · rw [if_neg c]
      obtain ⟨p1, p2, p3⟩ := bset0 ⟨nbs h k, h1⟩ ⟨k, by omega⟩
      refine ⟨p2, fun j hj => ?_⟩
      have p4 := p3 ⟨j, hj⟩
      simp only at p4
      rw [p4, h2 j hj]
      by_cases e : j = k
      · subst e
        rw [decide_eq_true (show j = j from rfl), Bool.or_true, decide_eq_true ⟨by omega, c⟩]
      · rw [decide_eq_false e, Bool.or_false]
        by_cases e2 : j < k ∧ h j ≠ 0
        · rw [decide_eq_true e2, decide_eq_true ⟨by omega, e2.2⟩]
        · rw [decide_eq_false e2, decide_eq_false (fun q => e2 ⟨by omega, q.2⟩)]
theorem nbs_or {h : Nat → Nat} {k : Nat} (hk : k < 6) : nI (nbs h k) ||| ((1 : Int32) <<< (nI k &&& 31)) = nI (nbs h k ||| (1 <<< k)) := (bset0 ⟨nbs h k, (nbs_ok h k (by omega)).1⟩ ⟨k, hk⟩).1
theorem wro_cnz (h : Nat → Nat) : ∀ k, (wro (fun j => decide (h j = 0)) k).2 = cnz h k
  | 0 => rfl
  | k + 1 => by
    have := wro_cnz h k
    unfold wro cnz
    by_cases c : h k = 0
    · rw [if_pos (decide_eq_true c), if_pos c, this]
    · rw [if_neg (fun q => c (of_decide_eq_true q)), if_neg c, ← this]
theorem cnz_le (h : Nat → Nat) : ∀ k, cnz h k ≤ k
  | 0 => Nat.le_refl _
  | k + 1 => by
    have := cnz_le h k
    unfold cnz
    split <;> omega
theorem bitc {h : Nat → Nat} {n : Nat} (hn : n ≤ 6) : fJ6_bitCount_0f7a4 (nI (nbs h n)) = some (nI (cnz h n)) := by
  obtain ⟨h1, h2⟩ := nbs_ok h n hn
  have g := (bcn0 ⟨nbs h n, h1⟩).1
  simp only at g
  rw [g, ← wro_cnz]
  have e : wro (fun j => !(nbs h n).testBit j) (n + (6 - n)) = wro (fun j => !(nbs h n).testBit j) n := wro_ext (6 - n) (fun j q1 q2 => by
    rw [h2 j (by omega), decide_eq_false (fun q => absurd q.1 (by omega))]
    rfl)
  rw [show n + (6 - n) = 6 by omega] at e
  rw [e, wro_congr n (fun j hj => (show (!(nbs h n).testBit j) = decide (h j = 0) by
    rw [h2 j (by omega)]
    by_cases c : h j = 0
    · rw [decide_eq_true c, decide_eq_false (fun q => q.2 c)]
      rfl
    · rw [decide_eq_false c, decide_eq_true ⟨hj, c⟩]
      rfl))]
theorem nbC {n x : Nat} (hn : n ≤ 6) (hx : x < 6) {W : Nat → Nat → Nat} (hW : ∀ a b, W a b ≤ 9) {ways : Nat → Int32} (hw : ∀ a b, a < 6 → b < 6 → ways (6 * a + b) = nI (W a b)) (K : Int32 → Option Int32) : ∀ (i k fu : Nat), n - k = i → k ≤ n → i < fu → fX9_neighbours_L4 (nI x) (nI n) ways K fu (nI (nbs (W x) k)) (nI k) = K (nI (nbs (W x) n)) := by
  intro i
  induction i with
  | zero =>
    intro k fu h1 h2 h3
    have hk : k = n := by omega
    subst hk
    obtain ⟨fu, rfl⟩ : ∃ g, fu = g + 1 := ⟨fu - 1, by omega⟩
    unfold fX9_neighbours_L4 fX9_neighbours_4
    rw [if_pos (nI_le (Nat.le_refl _) (by omega))]
  | succ i ih =>
    intro k fu h1 h2 h3
    have hk : k < n := by omega
    obtain ⟨fu, rfl⟩ : ∃ g, fu = g + 1 := ⟨fu - 1, by omega⟩
    have ih' := ih (k + 1) fu (by omega) (by omega) (by omega)
    have e0 : nI x * (6 : Int32) + nI k = nI (6 * x + k) := by simp only [litI, pk_mul, nI_add]; congr 1; omega
    have hL := hW x k
    have hu : nbs (W x) (k + 1) = if W x k = 0 then nbs (W x) k else nbs (W x) k ||| (1 <<< k) := rfl
    unfold fX9_neighbours_L4 fX9_neighbours_4 fX9_neighbours_27 fX9_between
    rw [if_neg (nI_ge hk (by omega)), e0, rdi_at (j := 6 * x + k) rfl (by omega) (by omega), hw x k hx (by omega), ob_some, nI_1, lti_eq, nbs_or (by omega)]
    by_cases c : W x k = 0
    · rw [if_pos (show nI (W x k) ≤ (0 : Int32) by rw [c]; decide)]
      rw [hu, if_pos c] at ih'
      exact ih'
    · rw [if_neg (show ¬ nI (W x k) ≤ (0 : Int32) from nI_nle (by omega) (by omega))]
      rw [hu, if_neg c] at ih'
      exact ih'
theorem neighbours_ok {N : Nat} (hN : 10 ≤ N) {n x : Nat} (hn : n ≤ 6) (hx : x < 6) {W : Nat → Nat → Nat} (hW : ∀ a b, W a b ≤ 9) {ways : Nat → Int32} (hw : ∀ a b, a < 6 → b < 6 → ways (6 * a + b) = nI (W a b)) : fX9_neighbours N (nI x) (nI n) ways = some (nI (nbs (W x) n)) :=
  nbC hn hx hW hw (fun l => some l) n 0 N (by omega) (by omega) (by omega)
theorem lwC {n x : Nat} (hn : n ≤ 6) (hx : x < 6) {W : Nat → Nat → Nat} (hW : ∀ a b, W a b ≤ 9) {ways : Nat → Int32} (hw : ∀ a b, a < 6 → b < 6 → ways (6 * a + b) = nI (W a b)) (K : Int32 → Option Int32) : ∀ (i k fu : Nat), n - k = i → k ≤ n → i < fu → fX9_longestWay_L4 (nI x) (nI n) ways K fu (nI (bst (W x) k).1) (nI k) = K (nI (bst (W x) n).1) := by
  intro i
  induction i with
  | zero =>
    intro k fu h1 h2 h3
    have hk : k = n := by omega
    subst hk
    obtain ⟨fu, rfl⟩ : ∃ g, fu = g + 1 := ⟨fu - 1, by omega⟩
    unfold fX9_longestWay_L4 fX9_longestWay_4
    rw [if_pos (nI_le (Nat.le_refl _) (by omega))]
  | succ i ih =>
    intro k fu h1 h2 h3
    have hk : k < n := by omega
    obtain ⟨fu, rfl⟩ : ∃ g, fu = g + 1 := ⟨fu - 1, by omega⟩
    have ih' := ih (k + 1) fu (by omega) (by omega) (by omega)
    have e0 : nI x * (6 : Int32) + nI k = nI (6 * x + k) := by simp only [litI, pk_mul, nI_add]; congr 1; omega
    have hL := hW x k
    have hB := bst_le (hW x) k
    unfold fX9_longestWay_L4 fX9_longestWay_4 fX9_between
    rw [if_neg (nI_ge hk (by omega)), e0, rdi_at (j := 6 * x + k) rfl (by omega) (by omega), hw x k hx (by omega), ob_some, nI_1, lti_eq]
    by_cases c : (bst (W x) k).1 < W x k
    · rw [if_pos (nI_lt c (by omega))]
      rw [bst_yes c] at ih'
      exact ih'
    · rw [if_neg (nI_nlt (by omega) (by omega))]
      rw [bst_no c] at ih'
      exact ih'
theorem longest_ok {N : Nat} (hN : 10 ≤ N) {n x : Nat} (hn : n ≤ 6) (hx : x < 6) {W : Nat → Nat → Nat} (hW : ∀ a b, W a b ≤ 9) {ways : Nat → Int32} (hw : ∀ a b, a < 6 → b < 6 → ways (6 * a + b) = nI (W a b)) : fX9_longestWay N (nI x) (nI n) ways = some (nI (bst (W x) n).1) :=
  lwC hn hx hW hw (fun l => some l) n 0 N (by omega) (by omega) (by omega)
theorem wyF {n R x : Nat} {W : Nat → Nat → Nat} {len many : Nat → Int32} (hv : RW n R W len many) (hx : x < 6) (K : Int32 → Option Int32) : ∀ (i k fu : Nat), n - k = i → k ≤ n → i < fu → fX12_ways_L4 (nI x) len many K fu (nI (nbs (W x) k)) (nI k) = K (nI (nbs (W x) n)) := by
  obtain ⟨hn, w2, w3, w4, w5, hW, hm0, w8, hw⟩ := hv
  intro i
  induction i with
  | zero =>
    intro k fu h1 h2 h3
    have hk : k = n := by omega
    subst hk
    obtain ⟨fu, rfl⟩ : ∃ g, fu = g + 1 := ⟨fu - 1, by omega⟩
    unfold fX12_ways_L4 fX12_ways_4
    rw [hm0, if_pos (nI_le (Nat.le_refl _) (by omega))]
  | succ i ih =>
    intro k fu h1 h2 h3
    have hk : k < n := by omega
    obtain ⟨fu, rfl⟩ : ∃ g, fu = g + 1 := ⟨fu - 1, by omega⟩
    have ih' := ih (k + 1) fu (by omega) (by omega) (by omega)
    have e0 : (6 : Int32) * nI x + nI k = nI (6 * x + k) := by simp only [litI, pk_mul, nI_add]
    have hL := hW x k
    have hu : nbs (W x) (k + 1) = if W x k = 0 then nbs (W x) k else nbs (W x) k ||| (1 <<< k) := rfl
    unfold fX12_ways_L4 fX12_ways_4 fX12_ways_36
    rw [hm0, if_neg (nI_ge hk (by omega)), e0, rdi_at (j := 6 * x + k) rfl (by omega) (by omega), hw x k hx (by omega), nI_1, lti_eq, lti_eq, nbs_or (by omega), or0]
    by_cases c : W x k = 0
    · rw [if_pos (show nI (W x k) ≤ (0 : Int32) by rw [c]; decide)]
      rw [hu, if_pos c] at ih'
      exact ih'
    · rw [if_neg (show ¬ nI (W x k) ≤ (0 : Int32) from nI_nle (by omega) (by omega))]
      rw [hu, if_neg c] at ih'
      exact ih'
theorem ways_ok {N : Nat} (hN : 10 ≤ N) {n R x : Nat} {W : Nat → Nat → Nat} {len many : Nat → Int32} (hv : RW n R W len many) (hx : x < 6) : fX12_ways N (nI x) len many = some (nI (nbs (W x) n)) := by
  have hn := hv.1
  exact wyF hv hx (fun l => some l) n 0 N (by omega) (by omega) (by omega)
theorem raF {n R x : Nat} {W : Nat → Nat → Nat} {len many : Nat → Int32} (hv : RW n R W len many) (hx : x < 6) (K : Int32 → Int32 → Option (Int32 × Int32 × Int64)) : ∀ (i k fu : Nat), n - k = i → k ≤ n → i < fu → fX12_rate_L43 (nI x) len many K fu (nI (cnz (W x) k)) (nI (bst (W x) k).1) (nI k) = K (nI (cnz (W x) n)) (nI (bst (W x) n).1) := by
  obtain ⟨hn, w2, w3, w4, w5, hW, hm0, w8, hw⟩ := hv
  intro i
  induction i with
  | zero =>
    intro k fu h1 h2 h3
    have hk : k = n := by omega
    subst hk
    obtain ⟨fu, rfl⟩ : ∃ g, fu = g + 1 := ⟨fu - 1, by omega⟩
    unfold fX12_rate_L43 fX12_rate_43
    rw [hm0, if_pos (nI_le (Nat.le_refl _) (by omega))]
  | succ i ih =>
    intro k fu h1 h2 h3
    have hk : k < n := by omega
    obtain ⟨fu, rfl⟩ : ∃ g, fu = g + 1 := ⟨fu - 1, by omega⟩
    have ih' := ih (k + 1) fu (by omega) (by omega) (by omega)
    have e0 : (6 : Int32) * nI x + nI k = nI (6 * x + k) := by simp only [litI, pk_mul, nI_add]
    have hL := hW x k
    have hB := bst_le (hW x) k
    have hu : cnz (W x) (k + 1) = if W x k = 0 then cnz (W x) k else cnz (W x) k + 1 := rfl
    unfold fX12_rate_L43 fX12_rate_43 fX12_rate_76 fX12_rate_113
    rw [hm0, if_neg (nI_ge hk (by omega)), e0]
    simp only [rdi_at (j := 6 * x + k) rfl (show 6 * x + k < 72 by omega) (by omega : (72 : Nat) < 2 ^ 31), hw x k hx (by omega), nI_1, lti_eq, show nI (cnz (W x) k) + (0 : Int32) = nI (cnz (W x) k) from nI_add _ 0]
    by_cases c : W x k = 0
    · rw [if_pos (show nI (W x k) ≤ (0 : Int32) by rw [c]; decide), if_pos (nI_le (show W x k ≤ (bst (W x) k).1 by omega) (by omega))]
      rw [hu, if_pos c, bst_no (show ¬ (bst (W x) k).1 < W x k by omega)] at ih'
      exact ih'
    · rw [if_neg (show ¬ nI (W x k) ≤ (0 : Int32) from nI_nle (by omega) (by omega))]
      rw [hu, if_neg c] at ih'
      by_cases c2 : (bst (W x) k).1 < W x k
      · rw [if_neg (nI_ge c2 (by omega))]
        rw [bst_yes c2] at ih'
        exact ih'
      · rw [if_pos (nI_le (by omega) (by omega))]
        rw [bst_no c2] at ih'
        exact ih'
theorem sim_village {N : Nat} (hN : 400 ≤ N) : Sim_village N Inv := by
  intro d m a1 a2 hI
  obtain ⟨hT, hK, hB, v, hV, hS, hP, hIm, hH⟩ := id hI
  have hV' := hV
  obtain ⟨hOk, n1, n2, n3, n4, n5, n6, n7, -⟩ := hV'
  have hn := hOk.1
  obtain ⟨a, hA, hC, hF⟩ := hS
  obtain ⟨c1, c2, c3, c4, ⟨D, hD, c5, hDB⟩, c6, c7, c8, c9⟩ := id hC
  obtain ⟨f1, f2, f3, f4, f5, f6, f7, f8, f9⟩ := id hF
  unfold fX11_village fX12_village fX12_village_22 fX12_village_78
  rw [c5, n1]
  rcases vil hn a1 n2 with ⟨e1, e2, x, hx, rfl⟩ | ⟨e1, e2, -⟩
  · have hx6 : x < 6 := by omega
    have i4 : (4 : Int32) + nI x = nI (4 + x) := by simp only [litI, nI_add]
    have i10 : (10 : Int32) + nI x = nI (10 + x) := by simp only [litI, nI_add]
    have i29 : (29 : Int32) + nI x = nI (29 + x) := by simp only [litI, nI_add]
    rw [e1, e2]
    simp only [ob_some, if_neg ne10, i4, i10, i29]
    rcases rngL a2 3 3 rfl (by omega) with ⟨e3, -, c, hc, rfl⟩ | ⟨e3, -, hno⟩
    · rw [e3, ob_some, if_neg ne10, neighbours_ok (N := N) (by omega) hn hx6 hOk.2.2.2.2.2.2.1 n7, ways_ok (N := N) (by omega) (mkRW hV) hx6, ob_some, ob_some, rdi_at (j := x) rfl hx6 (by omega), rdi_at (j := x) rfl hx6 (by omega), rdi_at (j := 4 + x) rfl (by omega) (by omega), rdi_at (j := 10 + x) rfl (by omega) (by omega), rdi_at (j := 29 + x) rfl (by omega) (by omega), deaf_get hD hx6, c8 x hx6, c9 x hx6, f5 x hx6, f6 x hx6, f9 x hx6, hDB x hx6]
      rcases (show c = 0 ∨ c = 1 ∨ c = 2 ∨ c = 3 by omega) with rfl | rfl | rfl | rfl
      · rw [if_pos (show nI 0 = (0 : Int32) from rfl), if_pos (show nI 0 = (0 : Int32) from rfl)]
        exact ⟨_, _, rfl, rfl, rfl, hI⟩
      · rw [if_neg (show ¬ nI 1 = (0 : Int32) by decide), if_neg (show ¬ nI 1 = (0 : Int32) by decide), if_pos (show nI 1 = (1 : Int32) from rfl), if_pos (show nI 1 = (1 : Int32) from rfl)]
        exact ⟨_, _, rfl, rfl, rfl, hI⟩
      · rw [if_neg (show ¬ nI 2 = (0 : Int32) by decide), if_neg (show ¬ nI 2 = (0 : Int32) by decide), if_neg (show ¬ nI 2 = (1 : Int32) by decide), if_neg (show ¬ nI 2 = (1 : Int32) by decide), if_pos (show nI 2 = (2 : Int32) from rfl), if_pos (show nI 2 = (2 : Int32) from rfl)]
        exact ⟨_, _, rfl, rfl, rfl, hI⟩
      · rw [if_neg (show ¬ nI 3 = (0 : Int32) by decide), if_neg (show ¬ nI 3 = (0 : Int32) by decide), if_neg (show ¬ nI 3 = (1 : Int32) by decide), if_neg (show ¬ nI 3 = (1 : Int32) by decide), if_neg (show ¬ nI 3 = (2 : Int32) by decide), if_neg (show ¬ nI 3 = (2 : Int32) by decide), if_pos (show nI 3 = (3 : Int32) from rfl)]
        exact ⟨_, _, rfl, rfl, rfl, hI⟩
    · rw [e3, ob_some, if_pos rfl, if_neg (show ¬ a2 = (0 : Int32) from hno 0 (by omega)), if_neg (show ¬ a2 = (1 : Int32) from hno 1 (by omega)), if_neg (show ¬ a2 = (2 : Int32) from hno 2 (by omega)), if_neg (show ¬ a2 = (3 : Int32) from hno 3 (by omega))]
      exact ⟨_, _, rfl, rfl, rfl, hI⟩
  · rw [e1, e2]
    simp only [ob_some, if_true]
    exact ⟨_, _, rfl, rfl, rfl, hI⟩
theorem rate_inv {d : DS} {m : MS} (hI : Inv d m) (o : Int32 × Int64 × Int64 × Int64 × Int64 × Int64 × Int64) (o' : Int32 × Int32 × Int64) (hk : o.2.1 + o.2.2.1 + o.2.2.2.1 + o.2.2.2.2.1 + o.2.2.2.2.2.1 + o.2.2.2.2.2.2 = o'.2.2) : Inv (up_rate d o) (vp_rate m o') := by
  obtain ⟨hT, hK, hB, v, hV, hS, hP, hIm, hH⟩ := hI
  exact ⟨hT, hk, hB, v, hV, hS, hP, hIm, hH⟩
theorem sim_rate {N : Nat} (hN : 400 ≤ N) : Sim_rate N Inv := by
  intro d m a1 a2 hI
  obtain ⟨hT, hK, hB, v, hV, hS, hP, hIm, hH⟩ := id hI
  have hV' := hV
  obtain ⟨hOk, n1, n2, n3, n4, n5, n6, n7, -⟩ := hV'
  have hn := hOk.1
  obtain ⟨a, hA, hC, hF⟩ := id hS
  obtain ⟨c1, c2, c3, c4, c5, c6, c7, c8, c9⟩ := id hC
  obtain ⟨f1, f2, f3, f4, f5, f6, f7, f8, f9⟩ := id hF
  unfold InvK at hK
  unfold fX11_rate fX12_rate fX11_rate_23 fX12_rate_22
  rw [n1, show (6 : Int32) - (1 : Int32) = 5 from rfl]
  rcases rngL a1 5 5 rfl (by omega) with ⟨e3, e4, c, hc, rfl⟩ | ⟨e3, e4, -⟩
  · rcases vil hn a2 n2 with ⟨e1, e2, x, hx, rfl⟩ | ⟨e1, e2, -⟩
    · have hx6 : x < 6 := by omega
      have i4 : (4 : Int32) + nI x = nI (4 + x) := by simp only [litI, nI_add]
      have i29 : (29 : Int32) + nI x = nI (29 + x) := by simp only [litI, nI_add]
      rw [e1, e2, e3, e4]
      simp only [ob_some, if_neg ne10, i4]
      have hra : ∀ K, fX12_rate_L43 (nI x) (m_lengths m) (m_many m) K N (nI 0) (nI 0) (nI 0) = K (nI (cnz (vW v x) (vN v))) (nI (bst (vW v x) (vN v)).1) := fun K => raF (mkRW hV) hx6 K (vN v) 0 N (by omega) (by omega) (by omega)
      rw [rdi_at (j := 4 + x) rfl (by omega) (by omega), f5 x hx6, show (0 : Int32) = nI 0 from rfl, hra]
      unfold fX12_rate_181 fX12_rate_256 fX4_worth_r4 fX2_worth_r2 fX5_worth_r5 fX3_worth_r3 fX1_worth_r1 fX10_worth_r10 fX4_worth_r2 fX4_worth_r5 fX2_worth_r3 fX4_worth_r3 fX5_worth_r1 fX4_worth_r1 fX4_worth_r10
      rw [neighbours_ok (N := N) (by omega) hn hx6 hOk.2.2.2.2.2.2.1 n7, longest_ok (N := N) (by omega) hn hx6 hOk.2.2.2.2.2.2.1 n7]
      simp only [lti_eq, ob_some, i29, rdi_at (j := x) rfl hx6 (by omega : (6 : Nat) < 2 ^ 31), rdi_at (j := 29 + x) rfl (show 29 + x < 35 by omega) (by omega : (35 : Nat) < 2 ^ 31), bitc hn, c8 x hx6, c9 x hx6, f9 x hx6]
      rcases (show c = 0 ∨ c = 1 ∨ c = 2 ∨ c = 3 ∨ c = 4 ∨ c = 5 by omega) with rfl | rfl | rfl | rfl | rfl | rfl
      · simp only [if_pos (show nI 0 = nI 0 from rfl)]
        refine ⟨_, _, rfl, rfl, rfl, rate_inv hI _ _ ?_⟩
        show (dK d).1 + 1 + (dK d).2.1 + (dK d).2.2.1 + (dK d).2.2.2.1 + (dK d).2.2.2.2.1 + (dK d).2.2.2.2.2 = m_trace m + 1
        rw [← hK]
        ac_rfl
      · simp only [if_neg (show ¬ nI 1 = nI 0 by decide), if_pos (show nI 1 = (1 : Int32) from rfl)]
        refine ⟨_, _, rfl, rfl, rfl, rate_inv hI _ _ ?_⟩
        show (dK d).1 + ((dK d).2.1 + 10 + 1) + (dK d).2.2.1 + (dK d).2.2.2.1 + (dK d).2.2.2.2.1 + (dK d).2.2.2.2.2 = m_trace m + 11
        rw [← hK, show (11 : Int64) = 10 + 1 from rfl]
        ac_rfl
      · simp only [if_neg (show ¬ nI 2 = nI 0 by decide), if_neg (show ¬ nI 2 = (1 : Int32) by decide), if_pos (show nI 2 = (2 : Int32) from rfl)]
        refine ⟨_, _, rfl, rfl, rfl, rate_inv hI _ _ ?_⟩
        show (dK d).1 + (dK d).2.1 + ((dK d).2.2.1 + 100 + 1) + (dK d).2.2.2.1 + (dK d).2.2.2.2.1 + (dK d).2.2.2.2.2 = m_trace m + 101
        rw [← hK, show (101 : Int64) = 100 + 1 from rfl]
        ac_rfl
      · simp only [if_neg (show ¬ nI 3 = nI 0 by decide), if_neg (show ¬ nI 3 = (1 : Int32) by decide), if_neg (show ¬ nI 3 = (2 : Int32) by decide), if_pos (show nI 3 = (3 : Int32) from rfl)]
        refine ⟨_, _, rfl, rfl, rfl, rate_inv hI _ _ ?_⟩
        show (dK d).1 + (dK d).2.1 + (dK d).2.2.1 + ((dK d).2.2.2.1 + 1000 + 10 + 1) + (dK d).2.2.2.2.1 + (dK d).2.2.2.2.2 = m_trace m + 1011
        rw [← hK, show (1011 : Int64) = 1000 + 10 + 1 from rfl]
        ac_rfl
      · simp only [if_neg (show ¬ nI 4 = nI 0 by decide), if_neg (show ¬ nI 4 = (1 : Int32) by decide), if_neg (show ¬ nI 4 = (2 : Int32) by decide), if_neg (show ¬ nI 4 = (3 : Int32) by decide), if_pos (show nI 4 = (4 : Int32) from rfl)]
        refine ⟨_, _, rfl, rfl, rfl, rate_inv hI _ _ ?_⟩
        show (dK d).1 + (dK d).2.1 + (dK d).2.2.1 + (dK d).2.2.2.1 + ((dK d).2.2.2.2.1 + 10000 + 100 + 1) + (dK d).2.2.2.2.2 = m_trace m + 10101
        rw [← hK, show (10101 : Int64) = 10000 + 100 + 1 from rfl]
        ac_rfl
      · simp only [if_neg (show ¬ nI 5 = nI 0 by decide), if_neg (show ¬ nI 5 = (1 : Int32) by decide), if_neg (show ¬ nI 5 = (2 : Int32) by decide), if_neg (show ¬ nI 5 = (3 : Int32) by decide), if_neg (show ¬ nI 5 = (4 : Int32) by decide), if_pos (show nI 5 = (5 : Int32) from rfl)]
        refine ⟨_, _, rfl, rfl, rfl, rate_inv hI _ _ ?_⟩
        show (dK d).1 + (dK d).2.1 + (dK d).2.2.1 + (dK d).2.2.2.1 + (dK d).2.2.2.2.1 + ((dK d).2.2.2.2.2 + 100000 + 1) = m_trace m + 100001
        rw [← hK, show (100001 : Int64) = 100000 + 1 from rfl]
        ac_rfl
    · rw [e1, e2, e3, e4]
      simp only [ob_some, if_neg ne10, if_true]
      exact ⟨_, _, rfl, rfl, rfl, hI⟩
  · rw [e3, e4]
    simp only [ob_some, if_true]
    exact ⟨_, _, rfl, rfl, rfl, hI⟩
