/-! ===== pure: who struck one too many ===== -/
def stk (H : Nat → Nat → Nat) (S : Nat → Nat) (n T : Nat) : Nat → Option Nat → Nat → Bool
  | 0, _, _ => false
  | _ + 1, none, _ => false
  | k + 1, some x, b => decide (b = T) || stk H S n T k (nx (H x) n) (b + gp (H x) S n)
theorem stk_none {H : Nat → Nat → Nat} {S : Nat → Nat} {n T k b : Nat} : stk H S n T k none b = false := by cases k <;> rfl
theorem stk_late {H : Nat → Nat → Nat} {S : Nat → Nat} {n T : Nat} : ∀ (k : Nat) (o : Option Nat) (b : Nat), T < b → stk H S n T k o b = false
  | 0, _, _, _ => rfl
  | _ + 1, none, _, _ => rfl
  | k + 1, some x, b, h => by
    unfold stk
    rw [stk_late k _ _ (by omega), Bool.or_false, decide_eq_false (show ¬ b = T by omega)]
theorem isF {N : Nat} (hN : 10 ≤ N) {n R T : Nat} {W : Nat → Nat → Nat} {len many : Nat → Int32} {a : AN} (hv : RW n R W len many) (hx0 : n ≠ 0) (hT : T ≤ 400) (hS : ∀ y, y < 6 → aS a y ≤ 9) : ∀ (i k fu x b : Nat) (f : Nat → Int32), 401 - k = i → k ≤ 401 → i + 2 < fu → x < 6 → k ≤ b → b ≤ 29 * k → Wk n a f x b → ∃ f', fX12_isStroke_L29 N (nI T) len many (fun l2k29_55 m_a0_wk29_55 => if l2k29_55 = 0 then (fX12_isStroke_73 m_a0_wk29_55)
  else (if (m_a0_wk29_55 1) = nI T then (fX12_isStroke_74 (1 : Int32) m_a0_wk29_55)
  else (fX12_isStroke_73 m_a0_wk29_55))) fu 1 f = some (fl (stk (Hn W R a) (aS a) n T (i + 1) (some x) b), f') := by
  have hn : n ≤ 6 := hv.1
  intro i
  induction i with
  | zero =>
    intro k fu x b f h1 h2 h3 hx h4 h5 hf
    have hk : k = 401 := by omega
    subst hk
    obtain ⟨fu, rfl⟩ : ∃ g, fu = g + 1 := ⟨fu - 1, by omega⟩
    unfold fX12_isStroke_L29 fX12_isStroke_29
    simp only [if_neg ne10, hf.2.2.2]
    rw [if_pos (nI_le (show T ≤ b by omega) (by omega)), if_neg (nI_ne (by omega) (by omega) (show b ≠ T by omega)), stk_late _ _ _ (show T < b by omega)]
    unfold fX12_isStroke_73 fX12_isStroke_74
    rw [bz0]
    exact ⟨f, rfl⟩
  | succ i ih =>
    intro k fu x b f h1 h2 h3 hx h4 h5 hf
    obtain ⟨fu, rfl⟩ : ∃ g, fu = g + 1 := ⟨fu - 1, by omega⟩
    have hbb : ∀ x y, Hn W R a x y ≤ 20 := fun x y => Hn_le (fun k h => (hf.1.2.2.2.2.2.2 k h).2.2.2.2) hv.2.2.1
    have hu : stk (Hn W R a) (aS a) n T (i + 1 + 1) (some x) b = (decide (b = T) || stk (Hn W R a) (aS a) n T (i + 1) (nx (Hn W R a x) n) (b + gp (Hn W R a x) (aS a) n)) := rfl
    by_cases h6 : T ≤ b
    · unfold fX12_isStroke_L29 fX12_isStroke_29
      simp only [if_neg ne10, hf.2.2.2]
      rw [if_pos (nI_le h6 (by omega))]
      by_cases h7 : b = T
      · rw [hu, decide_eq_true h7, Bool.true_or, if_pos (by rw [h7])]
        unfold fX12_isStroke_74
        rw [bz1]
        exact ⟨f, rfl⟩
      · rw [if_neg (nI_ne (by omega) (by omega) h7), stk_late _ _ _ (show T < b by omega)]
        unfold fX12_isStroke_73 fX12_isStroke_74
        rw [bz0]
        exact ⟨f, rfl⟩
    · rw [hu, decide_eq_false (show ¬ b = T by omega), Bool.false_or]
      rcases go hN hv hf hx hx0 with ⟨e1, e2⟩ | ⟨z, f', e1, z1, e2, e3⟩
      · obtain ⟨fu, rfl⟩ : ∃ g, fu = g + 1 := ⟨fu - 1, by omega⟩
        unfold fX12_isStroke_L29 fX12_isStroke_29
        rw [if_neg ne10, hf.2.2.2, if_neg (nI_ge (by omega) (by omega)), e2, ob_some, e1, stk_none]
        unfold fX12_isStroke_L29 fX12_isStroke_29 fX12_isStroke_73 fX12_isStroke_74
        simp only [if_true, bz0]
        exact ⟨f, rfl⟩
      · obtain ⟨g1, g2⟩ := gp_b (hbb x) hS hn e1
        unfold fX12_isStroke_L29 fX12_isStroke_29
        rw [if_neg ne10, hf.2.2.2, if_neg (nI_ge (by omega) (by omega)), e2, ob_some, e1]
        exact ih (k + 1) fu z _ f' (by omega) (by omega) (by omega) (by omega) (by omega) (by omega) e3
def strt (v : AV) : Option Nat := if vN v = 0 then none else some (vS v)
theorem isStroke_ok {N : Nat} (hN : 2000 ≤ N) {v : AV} {deaf len many slow : Nat → Int32} (hv : RW (vN v) (vR v) (vW v) len many) (ht : RT v deaf many slow) (h2 : many 2 = nI (vS v)) {T : Nat} (hT : T ≤ 400) (w : Nat → Int32) : ∃ w', fX12_isStroke N (nI T) deaf len many slow w = some (fl (stk (tH v) (tS v) (vN v) T 402 (strt v) 0), w') := by
  have hs := ht.1.2.2.2.1
  obtain ⟨w1, e1, e2⟩ := asTold_ok (N := N) (by omega) ht hs w
  have hn := hv.1
  unfold fX12_isStroke fX12_isStroke_28
  rw [h2, e1, ob_some, ht.2.1]
  unfold strt
  by_cases h0 : vN v = 0
  · rw [if_pos (show nI (vN v) ≤ (0 : Int32) by rw [h0]; decide), if_pos h0, stk_none]
    obtain ⟨N, rfl⟩ : ∃ g, N = g + 1 := ⟨N - 1, by omega⟩
    unfold fX12_isStroke_L29 fX12_isStroke_29 fX12_isStroke_73 fX12_isStroke_74
    simp only [if_true, bz0]
    exact ⟨w1, rfl⟩
  · rw [if_neg (show ¬ nI (vN v) ≤ (0 : Int32) from nI_nle (by omega) (by omega)), if_neg h0]
    have hw := mkWk (toldA_ok ht.1 hs) e2
    exact isF (N := N) (by omega) hv h0 hT (a := toldA v (vS v)) (tS_le ht.1) 401 0 N (vS v) 0 w1 (by omega) (by omega) (by omega) (by omega) (by omega) (by omega) hw
theorem twI {cnt b : Nat} (hc : cnt ≤ 6) (hb : b < 100000) {T : Nat → Nat} {tB : Nat → Int32} (hv : ∀ j, j < cnt → T j ≤ 400 ∧ tB j = nI (T j)) (K : Int32 → MBC) : ∀ (i k fu D : Nat), cnt - k = i → k ≤ cnt → i < fu → D < 64 → ∃ E, fX11_toldThatWereStruck_L56 (nI b) (nI cnt) tB K fu (nI D) (nI k) = K (nI E) ∧ E < 64 ∧ ∀ j, j < 6 → E.testBit j = (D.testBit j || (decide (k ≤ j ∧ j < cnt) && decide (b = T j))) := by
  intro i
  induction i with
  | zero =>
    intro k fu D h1 h2 h3 hD
    have hk : k = cnt := by omega
    subst hk
    obtain ⟨fu, rfl⟩ : ∃ g, fu = g + 1 := ⟨fu - 1, by omega⟩
    unfold fX11_toldThatWereStruck_L56 fX11_toldThatWereStruck_56
    rw [if_pos (nI_le (Nat.le_refl _) (by omega))]
    refine ⟨D, rfl, hD, fun j hj => ?_⟩
    rw [decide_eq_false (show ¬ (k ≤ j ∧ j < k) by omega), Bool.false_and, Bool.or_false]
  | succ i ih =>
    intro k fu D h1 h2 h3 hD
    obtain ⟨fu, rfl⟩ : ∃ g, fu = g + 1 := ⟨fu - 1, by omega⟩
    have hk : k < cnt := by omega
    obtain ⟨v2, v4⟩ := hv k hk
    have rest : ∀ E' : Nat, E' < 64 → (∀ w, w < 6 → E'.testBit w = (D.testBit w || (decide (w = k) && decide (b = T w)))) → ∃ E, fX11_toldThatWereStruck_L56 (nI b) (nI cnt) tB K fu (nI E') (nI (k + 1)) = K (nI E) ∧ E < 64 ∧ ∀ j, j < 6 → E.testBit j = (D.testBit j || (decide (k ≤ j ∧ j < cnt) && decide (b = T j))) := by
      intro E' hE' hw
      obtain ⟨E, q1, q2, q3⟩ := ih (k + 1) fu E' (by omega) (by omega) (by omega) hE'
      refine ⟨E, q1, q2, fun j hj => ?_⟩
      rw [q3 j hj, hw j hj]
      by_cases c : j = k
      · rw [decide_eq_true c, decide_eq_false (show ¬ (k + 1 ≤ j ∧ j < cnt) by omega), decide_eq_true (show k ≤ j ∧ j < cnt by omega), Bool.false_and, Bool.or_false]
      · rw [decide_eq_false c, Bool.false_and, Bool.or_false]
        by_cases c2 : k + 1 ≤ j ∧ j < cnt
        · rw [decide_eq_true c2, decide_eq_true (show k ≤ j ∧ j < cnt by omega)]
        · rw [decide_eq_false c2, decide_eq_false (show ¬ (k ≤ j ∧ j < cnt) by omega)]
    unfold fX11_toldThatWereStruck_L56 fX11_toldThatWereStruck_56 fX11_toldThatWereStruck_83
    rw [if_neg (nI_ge hk (by omega)), rdi_at (j := k) rfl (by omega) (by omega), v4, nI_1]
    by_cases h8 : b = T k
    · rw [if_pos (by rw [h8]), lti_eq]
      obtain ⟨E', p1, p2, p3⟩ := bset hD (show k < 6 by omega)
      rw [p2]
      refine rest E' p1 (fun w hw => ?_)
      rw [p3 w hw]
      by_cases c : w = k
      · subst c
        rw [decide_eq_true h8, Bool.and_true]
      · rw [decide_eq_false c, Bool.false_and]
    · rw [if_neg (nI_ne (by omega) (by omega) (fun q => h8 q.symm))]
      refine rest D hD (fun w hw => ?_)
      by_cases c : w = k
      · subst c
        rw [decide_eq_false h8, Bool.and_false, Bool.or_false]
      · rw [decide_eq_false c, Bool.false_and, Bool.or_false]
theorem twC {N : Nat} (hN : 400 ≤ N) {n cnt : Nat} (hn : n ≤ 6) (hc : cnt ≤ 6) {T : Nat → Nat} {tB : Nat → Int32} (hv : ∀ j, j < cnt → T j ≤ 400 ∧ tB j = nI (T j)) {H : Nat → Nat → Nat} {S : Nat → Nat} {gap next : Nat → Int32} (hcn : CN n S H gap next) (hb20 : ∀ x y, H x y ≤ 20) (hS : ∀ y, y < 6 → S y ≤ 9) (K : Int32 → MBC) : ∀ (i k fu x b D : Nat), 401 - k = i → k ≤ 401 → i + 2 < fu → x < 6 → k ≤ b → b ≤ 29 * k → D < 64 → ∃ E, fX11_toldThatWereStruck_L33 N (nI cnt) tB gap next K fu (nI D) (nI x) (nI b) (nI k) = K (nI E) ∧ E < 64 ∧ ∀ j, j < 6 → E.testBit j = (D.testBit j || (decide (j < cnt) && stk H S n (T j) (i + 1) (some x) b)) := by
  have late : ∀ (i x b D j : Nat), 400 < b → D.testBit j = (D.testBit j || (decide (j < cnt) && stk H S n (T j) (i + 1) (some x) b)) := by
    intro i x b D j h
    by_cases c : j < cnt
    · have := (hv j c).1
      rw [stk_late _ _ _ (show T j < b by omega), Bool.and_false, Bool.or_false]
    · rw [decide_eq_false c, Bool.false_and, Bool.or_false]
  intro i
  induction i with
  | zero =>
    intro k fu x b D h1 h2 h3 hx h4 h5 hD
    have hk : k = 401 := by omega
    subst hk
    obtain ⟨fu, rfl⟩ : ∃ g, fu = g + 1 := ⟨fu - 1, by omega⟩
    unfold fX11_toldThatWereStruck_L33 fX11_toldThatWereStruck_33
    rw [if_pos (show (400 : Int32) < nI 401 by decide)]
    exact ⟨D, rfl, hD, fun j hj => late 0 x b D j (by omega)⟩
  | succ i ih =>
    intro k fu x b D h1 h2 h3 hx h4 h5 hD
    obtain ⟨fu, rfl⟩ : ∃ g, fu = g + 1 := ⟨fu - 1, by omega⟩
    obtain ⟨c1, c2⟩ := hcn x hx
    unfold fX11_toldThatWereStruck_L33 fX11_toldThatWereStruck_33
    rw [if_neg (show ¬ (400 : Int32) < nI k from nI_nlt (a := 400) (b := k) (by omega) (by omega)), if_neg (m1_ne (by omega))]
    by_cases h6 : 400 < b
    · rw [if_pos (show (400 : Int32) < nI b from nI_lt (a := 400) h6 (by omega))]
      exact ⟨D, rfl, hD, fun j hj => late (i + 1) x b D j h6⟩
    · rw [if_neg (show ¬ (400 : Int32) < nI b from nI_nlt (a := 400) (b := b) (by omega) (by omega))]
      obtain ⟨E', q1, q2, q3⟩ := twI hc (show b < 100000 by omega) hv (fun l1k56_89 => rdi 6 gap (nI x) fun x98 =>
  lti (nI b + x98) fun y100 =>
  rdi 6 next (nI x) fun x109 =>
  fX11_toldThatWereStruck_L33 N (nI cnt) tB gap next K fu l1k56_89 x109 y100 (nI k + (1 : Int32))) cnt 0 N D (by omega) (by omega) (by omega) hD
      rw [show (0 : Int32) = nI 0 from rfl, q1]
      simp only [rdi_at (j := x) rfl hx (by omega : (6 : Nat) < 2 ^ 31), c1, c2, lti_eq, nI_1]
      have hu : ∀ j, stk H S n (T j) (i + 1 + 1) (some x) b = (decide (b = T j) || stk H S n (T j) (i + 1) (nx (H x) n) (b + gp (H x) S n)) := fun j => rfl
      have alg : ∀ (E j : Nat) (q : Bool), j < 6 → E.testBit j = (E'.testBit j || (decide (j < cnt) && q)) → E.testBit j = (D.testBit j || (decide (j < cnt) && (decide (b = T j) || q))) := by
        intro E j q hj e
        rw [e, q3 j hj, show decide (0 ≤ j ∧ j < cnt) = decide (j < cnt) by simp]
        cases D.testBit j <;> cases decide (j < cnt) <;> cases decide (b = T j) <;> cases q <;> rfl
      cases e : nx (H x) n with
      | none =>
        obtain ⟨fu, rfl⟩ : ∃ g, fu = g + 1 := ⟨fu - 1, by omega⟩
        rw [enX_none e]
        unfold fX11_toldThatWereStruck_L33 fX11_toldThatWereStruck_33
        rw [if_pos (show (-1 : Int32) = -1 from rfl), ite_self]
        refine ⟨E', rfl, q2, fun j hj => ?_⟩
        rw [hu j, e]
        refine alg E' j _ hj ?_
        rw [stk_none, Bool.and_false, Bool.or_false]
      | some z =>
        obtain ⟨z1, -, -, -⟩ := nx_lt e
        obtain ⟨g1, g2⟩ := gp_b (hb20 x) hS hn e
        rw [enX_some e, enG_some e, nI_add]
        obtain ⟨E, p1, p2, p3⟩ := ih (k + 1) fu z (b + gp (H x) S n) E' (by omega) (by omega) (by omega) (by omega) (by omega) (by omega) q2
        refine ⟨E, p1, p2, fun j hj => ?_⟩
        rw [hu j, e]
        exact alg E j _ hj (p3 j hj)
/-- the wrong ones: the last, and how many -/
def wro (P : Nat → Bool) : Nat → Nat × Nat
  | 0 => (0, 0)
  | k + 1 => if P k then wro P k else (2 ^ k, (wro P k).2 + 1)
theorem wro_congr {P Q : Nat → Bool} : ∀ k, (∀ j, j < k → P j = Q j) → wro P k = wro Q k
  | 0, _ => rfl
  | k + 1, h => by
    unfold wro
    rw [wro_congr k (fun j hj => h j (by omega)), h k (by omega)]
theorem wro_ext {P : Nat → Bool} {c : Nat} : ∀ k, (∀ j, c ≤ j → j < c + k → P j = true) → wro P (c + k) = wro P c
  | 0, _ => rfl
  | k + 1, h => by
    show (if P (c + k) then wro P (c + k) else (2 ^ (c + k), (wro P (c + k)).2 + 1)) = _
    rw [if_pos (h (c + k) (by omega) (by omega))]
    exact wro_ext k (fun j h1 h2 => h j h1 (by omega))
theorem wro_le {P : Nat → Bool} : ∀ k, (wro P k).2 ≤ k
  | 0 => Nat.le_refl _
  | k + 1 => by
    have := wro_le (P := P) k
    unfold wro
    split <;> omega
theorem sh1_0 : ∀ k : Fin 6, (1 : Int32) <<< (nI k.val &&& 31) = nI (2 ^ k.val) := by decide +kernel
theorem sh1 {k : Nat} (h : k < 6) : (1 : Int32) <<< (nI k &&& 31) = nI (2 ^ k) := sh1_0 ⟨k, h⟩
theorem tmF {N cnt : Nat} (hc : cnt ≤ 6) {deaf len many slow tA : Nat → Int32} {P : Nat → Bool} (hp : ∀ j, j < cnt → ∀ w, ∃ w', fX12_isStroke N (tA j) deaf len many slow w = some (fl (P j), w')) (K : Int32 → Int32 → (Nat → Int32) → Option (Int32 × Int32 × (Nat → Int32))) : ∀ (i k fu : Nat) (w : Nat → Int32), cnt - k = i → k ≤ cnt → i < fu → ∃ w', fX12_tooMany_L11 N (nI cnt) deaf len many slow tA K fu (nI (wro P k).1) (nI (wro P k).2) (nI k) w = K (nI (wro P cnt).1) (nI (wro P cnt).2) w' := by
  intro i
  induction i with
  | zero =>
    intro k fu w h1 h2 h3
    have hk : k = cnt := by omega
    subst hk
    obtain ⟨fu, rfl⟩ : ∃ g, fu = g + 1 := ⟨fu - 1, by omega⟩
    unfold fX12_tooMany_L11 fX12_tooMany_11
    rw [if_pos (nI_le (Nat.le_refl _) (by omega))]
    exact ⟨w, rfl⟩
  | succ i ih =>
    intro k fu w h1 h2 h3
    have hk : k < cnt := by omega
    obtain ⟨fu, rfl⟩ : ∃ g, fu = g + 1 := ⟨fu - 1, by omega⟩
    obtain ⟨w', e⟩ := hp k hk w
    have ih' := ih (k + 1) fu w' (by omega) (by omega) (by omega)
    have hu : wro P (k + 1) = if P k then wro P k else (2 ^ k, (wro P k).2 + 1) := rfl
    unfold fX12_tooMany_L11 fX12_tooMany_11 fX12_tooMany_39
    rw [if_neg (nI_ge hk (by omega)), rdi_at (j := k) rfl (by omega) (by omega), e, ob_some, nI_1, sh1 (by omega), lti_eq, nI_1]
    rw [hu] at ih'
    cases hq : P k with
    | true =>
      rw [hq, if_pos rfl] at ih'
      rw [if_neg (show ¬ fl true = 0 by decide)]
      exact ih'
    | false =>
      rw [hq, if_neg (by decide)] at ih'
      rw [if_pos (show fl false = 0 from rfl)]
      exact ih'
theorem bwr0 : ∀ (c : Fin 7) (E : Fin 64), (((1 : Int32) <<< (nI c.val &&& 31)) - 1) &&& (nI E.val ^^^ -1) = nI ((2 ^ c.val - 1) &&& (63 ^^^ E.val)) ∧ ((2 ^ c.val - 1) &&& (63 ^^^ E.val)) < 64 ∧ ∀ w : Fin 6, ((2 ^ c.val - 1) &&& (63 ^^^ E.val)).testBit w.val = (decide (w.val < c.val) && !E.val.testBit w.val) := by decide +kernel
theorem bwr {c E : Nat} (hc : c ≤ 6) (hE : E < 64) : ∃ D, D < 64 ∧ (((1 : Int32) <<< (nI c &&& 31)) - 1) &&& (nI E ^^^ -1) = nI D ∧ ∀ w, w < 6 → D.testBit w = (decide (w < c) && !E.testBit w) := by
  obtain ⟨h1, h2, h3⟩ := bwr0 ⟨c, by omega⟩ ⟨E, hE⟩
  exact ⟨_, h2, h1, fun w hw => h3 ⟨w, hw⟩⟩
theorem bcn0 : ∀ D : Fin 64, fJ6_bitCount_0f7a4 (nI D.val) = some (nI (wro (fun j => !D.val.testBit j) 6).2) ∧ ((wro (fun j => !D.val.testBit j) 6).2 ≤ 1 → (wro (fun j => !D.val.testBit j) 6).1 = D.val) := by decide +kernel
theorem sim_tooMany {N : Nat} (hN : 2000 ≤ N) : Sim_tooMany N Inv := by
  intro d m hI
  obtain ⟨hT, hK, hB, v, hV, hS, hP, hIm, hH⟩ := id hI
  have hV' := hV
  obtain ⟨hOk, n1, n2, n3, n4, n5, n6, -⟩ := hV'
  have hn := hOk.1
  obtain ⟨c, hc, c1, c2, c3⟩ := hB
  have hh : ∀ j, j < c → (dTB d j).toNatClampNeg ≤ 400 ∧ dTB d j = nI ((dTB d j).toNatClampNeg) ∧ m_tellsAt m j = nI ((dTB d j).toNatClampNeg) := by
    intro j hj
    obtain ⟨b, p2, p3, p4⟩ := c3 j hj
    rw [p3, p4, nI_clamp (by omega)]
    exact ⟨p2, rfl, rfl⟩
  obtain ⟨D, gap', hear', next', slow', q1, q2, q3⟩ := told_lay (N := N) (by omega) hV 0 ((dC d).2.2.2.2.2.2.2.2.1) ((dC d).2.2.2.2.2.2.2.2.2.1) ((dC d).2.2.2.2.2.2.2.2.2.2.2.2.1) ((dC d).2.2.2.2.2.2.2.2.2.2.2.2.2)
  obtain ⟨w', r2⟩ := tmF (N := N) hc (deaf := m_deaf m) (len := m_lengths m) (many := m_many m) (slow := m_slow m) (tA := m_tellsAt m) (P := fun j => stk (tH v) (tS v) (vN v) ((dTB d j).toNatClampNeg) 402 (strt v) 0) (fun j hj w => by
    rw [(hh j hj).2.2]
    exact isStroke_ok hN (mkRW hV) (mkRT hV) n6 (hh j hj).1 w) (fun l1k11_45 l2k11_45 m_a0_wk11_45 => if l2k11_45 ≤ (1 : Int32) then (fX12_tooMany_56 l1k11_45 (0 : Int32) m_a0_wk11_45)
  else (fX12_tooMany_56 (-9 : Int32) (0 : Int32) m_a0_wk11_45)) c 0 N (m_w m) (by omega) (by omega) (by omega)
  have hE : ∃ E, E < 64 ∧ fX11_toldThatWereStruck N (nI c) ((dF d).2.2.2.2.1) ((dF d).2.2.2.2.2.1) ((dV d).1) ((dV d).2.2.1) ((dV d).2.2.2.1) (dTB d) ((dC d).2.2.2.2.2.2.2.2.1) ((dC d).2.2.2.2.2.2.2.2.2.1) ((dC d).2.2.2.2.2.2.2.2.2.2.2.2.1) ((dC d).2.2.2.2.2.2.2.2.2.2.2.2.2) ((dF d).2.2.2.2.2.2.1) ((dF d).2.2.2.2.2.2.2.1) ((dF d).2.2.2.2.2.2.2.2.1) ((dF d).2.2.2.2.2.2.2.2.2.1) ((dV d).2.2.2.2.2.2.2) = some (nI E, nI (vN v), nI D, gap', hear', next', slow') ∧ ∀ j, j < 6 → E.testBit j = (decide (j < c) && stk (tH v) (tS v) (vN v) ((dTB d j).toNatClampNeg) 402 (strt v) 0) := by
    unfold fX11_toldThatWereStruck fX11_toldThatWereStruck_27
    rw [q1, ob_some, n1, n5]
    unfold strt
    by_cases h0 : vN v = 0
    · rw [if_pos (show nI (vN v) = (0 : Int32) by rw [h0]; rfl), if_pos h0]
      obtain ⟨N, rfl⟩ : ∃ g, N = g + 1 := ⟨N - 1, by omega⟩
      unfold fX11_toldThatWereStruck_L33 fX11_toldThatWereStruck_33
      rw [if_pos (show (-1 : Int32) = -1 from rfl), ite_self]
      refine ⟨0, by omega, rfl, fun j hj => ?_⟩
      rw [stk_none, Bool.and_false, Nat.zero_testBit]
    · rw [if_neg (show ¬ nI (vN v) = (0 : Int32) from nI_ne0 (by omega) (by omega)), if_neg h0]
      have hs : vS v < 6 := by
        have := hOk.2.2.2.1
        omega
      obtain ⟨E, p1, p2, p3⟩ := twC (N := N) (by omega) hn hc (T := fun j => (dTB d j).toNatClampNeg) (tB := dTB d) (fun j hj => ⟨(hh j hj).1, (hh j hj).2.1⟩) q3 (tH_le hOk) (tS_le hOk) (fun l1k33_117 => some (l1k33_117, nI (vN v), nI D, gap', hear', next', slow')) 401 0 N (vS v) 0 0 (by omega) (by omega) (by omega) hs (by omega) (by omega) (by omega)
      refine ⟨E, p2, p1, fun j hj => ?_⟩
      rw [p3 j hj, Nat.zero_testBit, Bool.false_or]
      rfl
  obtain ⟨E, e1, e2, e3⟩ := hE
  obtain ⟨D', f1, f2, f3⟩ := bwr hc e1
  unfold fX11_tooMany fX12_tooMany fX11_tooMany_30
  rw [c1, c2, e2, ob_some, lti_eq]
  simp only [f2]
  obtain ⟨g1, g2⟩ := bcn0 ⟨D', f1⟩
  simp only at g1 g2
  have hw : wro (fun j => stk (tH v) (tS v) (vN v) ((dTB d j).toNatClampNeg) 402 (strt v) 0) c = wro (fun j => !D'.testBit j) 6 := by
    have e4 : wro (fun j => !D'.testBit j) (c + (6 - c)) = wro (fun j => !D'.testBit j) c := wro_ext (6 - c) (fun j h1 h2 => by
      rw [f3 j (by omega), decide_eq_false (show ¬ j < c by omega)]
      rfl)
    rw [show c + (6 - c) = 6 by omega] at e4
    rw [e4]
    refine wro_congr c (fun j hj => ?_)
    rw [f3 j (by omega), e3 j (by omega), decide_eq_true hj, Bool.true_and, Bool.true_and, Bool.not_not]
  rw [hw] at r2
  rw [g1, ob_some]
  have hle := wro_le (P := fun j => !D'.testBit j) 6
  by_cases h1 : (wro (fun j => !D'.testBit j) 6).2 ≤ 1
  · have h1' : nI (wro (fun j => !D'.testBit j) 6).2 ≤ (1 : Int32) := nI_le (b := 1) h1 (by omega)
    rw [if_pos h1']
    refine ⟨_, _, rfl, r2.trans (?_ : _ = some (nI D', (0 : Int32), w')), rfl, hI⟩
    show (if nI (wro (fun j => !D'.testBit j) 6).2 ≤ (1 : Int32) then fX12_tooMany_56 (nI (wro (fun j => !D'.testBit j) 6).1) (0 : Int32) w' else fX12_tooMany_56 (-9 : Int32) (0 : Int32) w') = _
    rw [if_pos h1', g2 h1]
    rfl
  · have h1' : ¬ nI (wro (fun j => !D'.testBit j) 6).2 ≤ (1 : Int32) := nI_ge (a := 1) (by omega) (by omega)
    rw [if_neg h1']
    refine ⟨_, _, rfl, r2.trans (?_ : _ = some ((-9 : Int32), (0 : Int32), w')), rfl, hI⟩
    show (if nI (wro (fun j => !D'.testBit j) 6).2 ≤ (1 : Int32) then fX12_tooMany_56 (nI (wro (fun j => !D'.testBit j) 6).1) (0 : Int32) w' else fX12_tooMany_56 (-9 : Int32) (0 : Int32) w') = _
    rw [if_neg h1']
    rfl
