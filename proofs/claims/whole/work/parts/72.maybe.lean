/-! ===== pure: where it may have begun ===== -/
def fl (c : Bool) : Int32 := if c then 1 else 0
def hit (H : Nat → Nat → Nat) (S : Nat → Nat) (n T y : Nat) : Nat → Option Nat → Nat → Bool
  | 0, _, _ => false
  | _ + 1, none, _ => false
  | k + 1, some x, b => (decide (H x y ≠ 0) && decide (b + H x y = T)) || hit H S n T y k (nx (H x) n) (b + gp (H x) S n)
theorem hit_none {H : Nat → Nat → Nat} {S : Nat → Nat} {n T y k b : Nat} : hit H S n T y k none b = false := by cases k <;> rfl
theorem hit_late {H : Nat → Nat → Nat} {S : Nat → Nat} {n T y : Nat} : ∀ (k : Nat) (o : Option Nat) (b : Nat), T < b → hit H S n T y k o b = false
  | 0, _, _, _ => rfl
  | _ + 1, none, _, _ => rfl
  | k + 1, some x, b, h => by
    unfold hit
    rw [hit_late k _ _ (by omega), Bool.or_false, decide_eq_false (show ¬ b + H x y = T by omega), Bool.and_false]
theorem ihF {N : Nat} (hN : 10 ≤ N) {n R T y : Nat} {W : Nat → Nat → Nat} {len many : Nat → Int32} {a : AN} (hv : RW n R W len many) (hx0 : n ≠ 0) (hy : y < 6) (hT : T ≤ 200) (hS : ∀ y, y < 6 → aS a y ≤ 9) (K : Int32 → (Nat → Int32) → Option (Int32 × (Nat → Int32))) : ∀ (i k fu x b : Nat) (c : Bool) (f : Nat → Int32), 201 - k = i → k ≤ 201 → i + 2 < fu → x < 6 → k ≤ b → b ≤ 29 * k → Wk n a f x b → ∃ f', fX12_isHeard_L15 N (nI y) (nI T) len many K fu (fl c) 1 f = K (fl (c || hit (Hn W R a) (aS a) n T y (i + 1) (some x) b)) f' := by
  have hn : n ≤ 6 := hv.1
  intro i
  induction i with
  | zero =>
    intro k fu x b c f h1 h2 h3 hx h4 h5 hf
    have hk : k = 201 := by omega
    subst hk
    obtain ⟨fu, rfl⟩ : ∃ g, fu = g + 1 := ⟨fu - 1, by omega⟩
    unfold fX12_isHeard_L15 fX12_isHeard_15
    rw [if_neg ne10, hf.2.2.2, if_pos (nI_lt (show T < b by omega) (by omega)), hit_late _ _ _ (show T < b by omega), Bool.or_false]
    exact ⟨f, rfl⟩
  | succ i ih =>
    intro k fu x b c f h1 h2 h3 hx h4 h5 hf
    obtain ⟨fu, rfl⟩ : ∃ g, fu = g + 1 := ⟨fu - 1, by omega⟩
    have hbb : ∀ x y, Hn W R a x y ≤ 20 := fun x y => Hn_le (fun k h => (hf.1.2.2.2.2.2.2 k h).2.2.2.2) hv.2.2.1
    have hL := hbb x y
    unfold fX12_isHeard_L15 fX12_isHeard_15 fX12_isHeard_72 fX12_isHeard_76 fX12_isHeard_77
    rw [if_neg ne10, hf.2.2.2, hf.2.2.1]
    by_cases h6 : T < b
    · rw [if_pos (nI_lt h6 (by omega)), hit_late _ _ _ h6, Bool.or_false]
      exact ⟨f, rfl⟩
    · rw [if_neg (nI_nlt (by omega) (by omega)), hearsIn_ok hN hv hf.1 hx hy, ob_some]
      have main : ∀ c' : Bool, ∃ f', (Option.bind (fX12_goes N len many f) fun o84 => fX12_isHeard_L15 N (nI y) (nI T) len many K fu (fl c') o84.1 o84.2) = K (fl (c' || hit (Hn W R a) (aS a) n T y (i + 1) (nx (Hn W R a x) n) (b + gp (Hn W R a x) (aS a) n))) f' := by
        intro c'
        rcases go hN hv hf hx hx0 with ⟨e1, e2⟩ | ⟨z, f', e1, z1, e2, e3⟩
        · obtain ⟨fu, rfl⟩ : ∃ g, fu = g + 1 := ⟨fu - 1, by omega⟩
          rw [e1, e2, ob_some, hit_none, Bool.or_false]
          unfold fX12_isHeard_L15 fX12_isHeard_15
          rw [if_pos rfl]
          exact ⟨f, rfl⟩
        · obtain ⟨g1, g2⟩ := gp_b (hbb x) hS hn e1
          rw [e1, e2, ob_some]
          exact ih (k + 1) fu z _ c' f' (by omega) (by omega) (by omega) (by omega) (by omega) (by omega) e3
      have hu : hit (Hn W R a) (aS a) n T y (i + 1 + 1) (some x) b = ((decide (Hn W R a x y ≠ 0) && decide (b + Hn W R a x y = T)) || hit (Hn W R a) (aS a) n T y (i + 1) (nx (Hn W R a x) n) (b + gp (Hn W R a x) (aS a) n)) := rfl
      rw [hu]
      cases c with
      | true =>
        rw [if_neg (show ¬ fl true = 0 by decide)]
        simp only [Bool.true_or]
        have := main true
        simp only [Bool.true_or] at this
        exact this
      | false =>
        rw [if_pos (show fl false = 0 from rfl)]
        simp only [Bool.false_or]
        by_cases h7 : Hn W R a x y = 0
        · rw [h7, enc0, if_pos rfl, decide_eq_false (show ¬ (0 : Nat) ≠ 0 from fun q => q rfl), Bool.false_and, Bool.false_or]
          have := main false
          simp only [Bool.false_or] at this
          exact this
        · rw [encP h7, if_neg (m9_ne (by omega)), nI_add, decide_eq_true (show Hn W R a x y ≠ 0 from h7), Bool.true_and]
          by_cases h8 : b + Hn W R a x y = T
          · rw [if_pos (by rw [h8]), decide_eq_true h8, Bool.true_or]
            have := main true
            simp only [Bool.true_or] at this
            exact this
          · rw [if_neg (nI_ne (by omega) (by omega) h8), decide_eq_false h8, Bool.false_or]
            have := main false
            simp only [Bool.false_or] at this
            exact this
theorem bclr0 : ∀ (D : Fin 64) (v : Fin 6), ((nI D.val) &&& (((1 : Int32) <<< (nI v.val &&& 31)) ^^^ (-1 : Int32))) = nI (D.val &&& (63 ^^^ (1 <<< v.val))) ∧ (D.val &&& (63 ^^^ (1 <<< v.val))) < 64 ∧ ∀ w : Fin 6, (D.val &&& (63 ^^^ (1 <<< v.val))).testBit w.val = (D.val.testBit w.val && !decide (w.val = v.val)) := by decide +kernel
theorem bclr {D v : Nat} (hD : D < 64) (hv : v < 6) : ∃ E, E < 64 ∧ ((nI D) &&& (((1 : Int32) <<< (nI v &&& 31)) ^^^ (-1 : Int32))) = nI E ∧ ∀ w, w < 6 → E.testBit w = (D.testBit w && !decide (w = v)) := by
  obtain ⟨h1, h2, h3⟩ := bclr0 ⟨D, hD⟩ ⟨v, hv⟩
  exact ⟨_, h2, h1, fun w hw => h3 ⟨w, hw⟩⟩
theorem bset0 : ∀ (D : Fin 64) (v : Fin 6), ((nI D.val) ||| ((1 : Int32) <<< (nI v.val &&& 31))) = nI (D.val ||| (1 <<< v.val)) ∧ (D.val ||| (1 <<< v.val)) < 64 ∧ ∀ w : Fin 6, (D.val ||| (1 <<< v.val)).testBit w.val = (D.val.testBit w.val || decide (w.val = v.val)) := by decide +kernel
theorem bset {D v : Nat} (hD : D < 64) (hv : v < 6) : ∃ E, E < 64 ∧ ((nI D) ||| ((1 : Int32) <<< (nI v &&& 31))) = nI E ∧ ∀ w, w < 6 → E.testBit w = (D.testBit w || decide (w = v)) := by
  obtain ⟨h1, h2, h3⟩ := bset0 ⟨D, hD⟩ ⟨v, hv⟩
  exact ⟨_, h2, h1, fun w hw => h3 ⟨w, hw⟩⟩
theorem bful0 : ∀ (c : Fin 7), ((1 : Int32) <<< (nI c.val &&& 31)) - 1 = nI (2 ^ c.val - 1) ∧ 2 ^ c.val - 1 < 64 ∧ ∀ w : Fin 6, (2 ^ c.val - 1).testBit w.val = decide (w.val < c.val) := by decide +kernel
theorem bful {c : Nat} (hc : c ≤ 6) : ∃ E, E < 64 ∧ ((1 : Int32) <<< (nI c &&& 31)) - 1 = nI E ∧ ∀ w, w < 6 → E.testBit w = decide (w < c) := by
  obtain ⟨h1, h2, h3⟩ := bful0 ⟨c, by omega⟩
  exact ⟨_, h2, h1, fun w hw => h3 ⟨w, hw⟩⟩
theorem bnil0 : ∀ (D : Fin 64), (∀ w : Fin 6, D.val.testBit w.val = false) → D.val = 0 := by decide +kernel
theorem bnil {D : Nat} (hD : D < 64) (h : ∀ w, w < 6 → D.testBit w = false) : D = 0 := bnil0 ⟨D, hD⟩ (fun w => h w.val w.isLt)
/-- the inner loop: all that is heard of one stroke -/
theorem iaI {n cnt x b : Nat} (hn : n ≤ 6) (hc : cnt ≤ 5) (hx : x < 6) (hb : b < 100000) {V T : Nat → Nat} {hB hV : Nat → Int32} (hv : ∀ j, j < cnt → V j < n ∧ T j ≤ 200 ∧ hV j = nI (V j) ∧ hB j = nI (T j)) {H : Nat → Nat → Nat} {hear : Nat → Int32} (hh : CH H hear) (hb20 : ∀ x y, H x y ≤ 20) (K : Int32 → Option Int32) : ∀ (i k fu D : Nat), cnt - k = i → k ≤ cnt → i < fu → D < 64 → ∃ E, fX11_isAllHeardFrom_L41 (nI x) (nI b) (nI cnt) hB hV hear K fu (nI D) (nI k) = K (nI E) ∧ E < 64 ∧ ∀ j, j < 6 → E.testBit j = (D.testBit j && !(decide (k ≤ j ∧ j < cnt) && (decide (H x (V j) ≠ 0) && decide (b + H x (V j) = T j)))) := by
  intro i
  induction i with
  | zero =>
    intro k fu D h1 h2 h3 hD
    have hk : k = cnt := by omega
    subst hk
    obtain ⟨fu, rfl⟩ : ∃ g, fu = g + 1 := ⟨fu - 1, by omega⟩
    unfold fX11_isAllHeardFrom_L41 fX11_isAllHeardFrom_41
    rw [if_pos (nI_le (Nat.le_refl _) (by omega))]
    refine ⟨D, rfl, hD, fun j hj => ?_⟩
    rw [decide_eq_false (show ¬ (k ≤ j ∧ j < k) by omega), Bool.false_and, Bool.not_false, Bool.and_true]
  | succ i ih =>
    intro k fu D h1 h2 h3 hD
    obtain ⟨fu, rfl⟩ : ∃ g, fu = g + 1 := ⟨fu - 1, by omega⟩
    have hk : k < cnt := by omega
    obtain ⟨v1, v2, v3, v4⟩ := hv k hk
    have e0 : nI x * (6 : Int32) + nI (V k) = nI (6 * x + V k) := by simp only [litI, pk_mul, nI_add]; congr 1; omega
    have hL := hb20 x (V k)
    have rest : ∀ E' : Nat, E' < 64 → (∀ w, w < 6 → E'.testBit w = (D.testBit w && !(decide (w = k) && (decide (H x (V w) ≠ 0) && decide (b + H x (V w) = T w))))) → ∃ E, fX11_isAllHeardFrom_L41 (nI x) (nI b) (nI cnt) hB hV hear K fu (nI E') (nI (k + 1)) = K (nI E) ∧ E < 64 ∧ ∀ j, j < 6 → E.testBit j = (D.testBit j && !(decide (k ≤ j ∧ j < cnt) && (decide (H x (V j) ≠ 0) && decide (b + H x (V j) = T j)))) := by
      intro E' hE' hw
      obtain ⟨E, q1, q2, q3⟩ := ih (k + 1) fu E' (by omega) (by omega) (by omega) hE'
      refine ⟨E, q1, q2, fun j hj => ?_⟩
      rw [q3 j hj, hw j hj]
      by_cases c : j = k
      · rw [decide_eq_true c, decide_eq_false (show ¬ (k + 1 ≤ j ∧ j < cnt) by omega), decide_eq_true (show k ≤ j ∧ j < cnt by omega), Bool.false_and, Bool.not_false, Bool.and_true]
      · rw [decide_eq_false c, Bool.false_and, Bool.not_false, Bool.and_true]
        by_cases c2 : k + 1 ≤ j ∧ j < cnt
        · rw [decide_eq_true c2, decide_eq_true (show k ≤ j ∧ j < cnt by omega)]
        · rw [decide_eq_false c2, decide_eq_false (show ¬ (k ≤ j ∧ j < cnt) by omega)]
    unfold fX11_isAllHeardFrom_L41 fX11_isAllHeardFrom_41 fX11_isAllHeardFrom_96 fX0_beatsTo
    rw [if_neg (nI_ge hk (by omega)), rdi_at (j := k) rfl (by omega) (by omega), v3, e0, rdi_at (j := 6 * x + V k) rfl (by omega) (by omega), hh x (V k) hx (by omega), ob_some, nI_1, rdi_at (j := k) rfl (by omega) (by omega), v4, nI_add]
    by_cases h7 : H x (V k) = 0
    · rw [if_pos (show nI (H x (V k)) ≤ (0 : Int32) by rw [h7]; decide)]
      refine rest D hD (fun w hw => ?_)
      by_cases c : w = k
      · subst c
        rw [decide_eq_false (show ¬ H x (V w) ≠ 0 from fun q => q h7), Bool.false_and, Bool.and_false, Bool.not_false, Bool.and_true]
      · rw [decide_eq_false c, Bool.false_and, Bool.not_false, Bool.and_true]
    · rw [if_neg (show ¬ nI (H x (V k)) ≤ (0 : Int32) from nI_nle (by omega) (by omega))]
      by_cases h8 : b + H x (V k) = T k
      · rw [if_pos (by rw [h8]), lti_eq]
        obtain ⟨E', p1, p2, p3⟩ := bclr hD (show k < 6 by omega)
        rw [p2]
        refine rest E' p1 (fun w hw => ?_)
        rw [p3 w hw]
        by_cases c : w = k
        · subst c
          rw [decide_eq_true (show H x (V w) ≠ 0 from h7), decide_eq_true h8]
          simp
        · rw [decide_eq_false c, Bool.false_and]
      · rw [if_neg (nI_ne (by omega) (by omega) h8)]
        refine rest D hD (fun w hw => ?_)
        by_cases c : w = k
        · subst c
          rw [decide_eq_false h8, Bool.and_false, Bool.and_false, Bool.not_false, Bool.and_true]
        · rw [decide_eq_false c, Bool.false_and, Bool.not_false, Bool.and_true]
/-- the outer loop: stroke by stroke -/
theorem iaC {N : Nat} (hN : 400 ≤ N) {n cnt : Nat} (hn : n ≤ 6) (hc : cnt ≤ 5) {V T : Nat → Nat} {hB hV : Nat → Int32} (hv : ∀ j, j < cnt → V j < n ∧ T j ≤ 200 ∧ hV j = nI (V j) ∧ hB j = nI (T j)) {H : Nat → Nat → Nat} {S : Nat → Nat} {gap hear next : Nat → Int32} (hcn : CN n S H gap next) (hh : CH H hear) (hb20 : ∀ x y, H x y ≤ 20) (hS : ∀ y, y < 6 → S y ≤ 9) (K : Int32 → Option Int32) : ∀ (i k fu x b D : Nat), 201 - k = i → k ≤ 201 → i + 2 < fu → x < 6 → k ≤ b → b ≤ 29 * k → D < 64 → ∃ E, fX11_isAllHeardFrom_L17 N (nI cnt) hB hV gap hear next K fu (nI D) (nI x) (nI b) (nI k) = K (nI E) ∧ E < 64 ∧ ∀ j, j < 6 → E.testBit j = (D.testBit j && !(decide (j < cnt) && hit H S n (T j) (V j) (i + 1) (some x) b)) := by
  have late : ∀ (i x b D j : Nat), 200 < b → D.testBit j = (D.testBit j && !(decide (j < cnt) && hit H S n (T j) (V j) (i + 1) (some x) b)) := by
    intro i x b D j h
    by_cases c : j < cnt
    · have := (hv j c).2.1
      rw [hit_late _ _ _ (show T j < b by omega), Bool.and_false, Bool.not_false, Bool.and_true]
    · rw [decide_eq_false c, Bool.false_and, Bool.not_false, Bool.and_true]
  intro i
  induction i with
  | zero =>
    intro k fu x b D h1 h2 h3 hx h4 h5 hD
    have hk : k = 201 := by omega
    subst hk
    obtain ⟨fu, rfl⟩ : ∃ g, fu = g + 1 := ⟨fu - 1, by omega⟩
    unfold fX11_isAllHeardFrom_L17 fX11_isAllHeardFrom_17
    rw [if_pos (show (200 : Int32) < nI 201 by decide)]
    exact ⟨D, rfl, hD, fun j hj => late 0 x b D j (by omega)⟩
  | succ i ih =>
    intro k fu x b D h1 h2 h3 hx h4 h5 hD
    obtain ⟨fu, rfl⟩ : ∃ g, fu = g + 1 := ⟨fu - 1, by omega⟩
    obtain ⟨c1, c2⟩ := hcn x hx
    unfold fX11_isAllHeardFrom_L17 fX11_isAllHeardFrom_17
    rw [if_neg (show ¬ (200 : Int32) < nI k from nI_nlt (a := 200) (b := k) (by omega) (by omega)), if_neg (m1_ne (by omega))]
    by_cases h6 : 200 < b
    · rw [if_pos (show (200 : Int32) < nI b from nI_lt (a := 200) h6 (by omega))]
      exact ⟨D, rfl, hD, fun j hj => late (i + 1) x b D j h6⟩
    · rw [if_neg (show ¬ (200 : Int32) < nI b from nI_nlt (a := 200) (b := b) (by omega) (by omega))]
      obtain ⟨E', q1, q2, q3⟩ := iaI hn hc hx (show b < 100000 by omega) hv hh hb20 (fun l2k41_102 => rdi 6 gap (nI x) fun x112 =>
  lti (nI b + x112) fun y114 =>
  rdi 6 next (nI x) fun x124 =>
  fX11_isAllHeardFrom_L17 N (nI cnt) hB hV gap hear next K fu l2k41_102 x124 y114 (nI k + (1 : Int32))) cnt 0 N D (by omega) (by omega) (by omega) hD
      rw [show (0 : Int32) = nI 0 from rfl, q1]
      simp only [rdi_at (j := x) rfl hx (by omega : (6 : Nat) < 2 ^ 31), c1, c2, lti_eq, nI_1]
      have hu : ∀ j, hit H S n (T j) (V j) (i + 1 + 1) (some x) b = ((decide (H x (V j) ≠ 0) && decide (b + H x (V j) = T j)) || hit H S n (T j) (V j) (i + 1) (nx (H x) n) (b + gp (H x) S n)) := fun j => rfl
      have alg : ∀ (E j : Nat) (q : Bool), j < 6 → E.testBit j = (E'.testBit j && !(decide (j < cnt) && q)) → E.testBit j = (D.testBit j && !(decide (j < cnt) && ((decide (H x (V j) ≠ 0) && decide (b + H x (V j) = T j)) || q))) := by
        intro E j q hj e
        rw [e, q3 j hj, show decide (0 ≤ j ∧ j < cnt) = decide (j < cnt) by simp]
        cases D.testBit j <;> cases decide (j < cnt) <;> cases (decide (H x (V j) ≠ 0) && decide (b + H x (V j) = T j)) <;> cases q <;> rfl
      cases e : nx (H x) n with
      | none =>
        obtain ⟨fu, rfl⟩ : ∃ g, fu = g + 1 := ⟨fu - 1, by omega⟩
        rw [enX_none e]
        unfold fX11_isAllHeardFrom_L17 fX11_isAllHeardFrom_17
        rw [if_pos (show (-1 : Int32) = -1 from rfl), ite_self]
        refine ⟨E', rfl, q2, fun j hj => ?_⟩
        rw [hu j, e]
        refine alg E' j _ hj ?_
        rw [hit_none, Bool.and_false, Bool.not_false, Bool.and_true]
      | some z =>
        obtain ⟨z1, -, -, -⟩ := nx_lt e
        obtain ⟨g1, g2⟩ := gp_b (hb20 x) hS hn e
        rw [enX_some e, enG_some e, nI_add]
        obtain ⟨E, p1, p2, p3⟩ := ih (k + 1) fu z (b + gp (H x) S n) E' (by omega) (by omega) (by omega) (by omega) (by omega) (by omega) q2
        refine ⟨E, p1, p2, fun j hj => ?_⟩
        rw [hu j, e]
        exact alg E j _ hj (p3 j hj)
/-- true for all below k -/
def allB (P : Nat → Bool) : Nat → Bool
  | 0 => true
  | k + 1 => allB P k && P k
theorem allB_ok (P : Nat → Bool) : ∀ k, allB P k = true ↔ ∀ j, j < k → P j = true
  | 0 => ⟨fun _ j h => absurd h (Nat.not_lt_zero _), fun _ => rfl⟩
  | k + 1 => by
    unfold allB
    rw [Bool.and_eq_true, allB_ok P k]
    constructor
    · rintro ⟨h1, h2⟩ j hj
      by_cases c : j = k
      · rw [c]; exact h2
      · exact h1 j (by omega)
    · exact fun h => ⟨fun j hj => h j (by omega), h k (by omega)⟩
theorem isAll_ok {N : Nat} (hN : 400 ≤ N) {n cnt x : Nat} (hn : n ≤ 6) (hc : cnt ≤ 5) (hx : x < 6) {V T : Nat → Nat} {hB hV : Nat → Int32} (hv : ∀ j, j < cnt → V j < n ∧ T j ≤ 200 ∧ hV j = nI (V j) ∧ hB j = nI (T j)) {H : Nat → Nat → Nat} {S : Nat → Nat} {gap hear next : Nat → Int32} (hcn : CN n S H gap next) (hh : CH H hear) (hb20 : ∀ x y, H x y ≤ 20) (hS : ∀ y, y < 6 → S y ≤ 9) : fX11_isAllHeardFrom N (nI x) (nI cnt) hB hV gap hear next = some (fl (allB (fun j => hit H S n (T j) (V j) 202 (some x) 0) cnt)) := by
  unfold fX11_isAllHeardFrom fX11_isAllHeardFrom_141
  obtain ⟨D, d1, d2, d3⟩ := bful (show cnt ≤ 6 by omega)
  rw [lti_eq, d2]
  obtain ⟨E, q1, q2, q3⟩ := iaC hN hn hc hv hcn hh hb20 hS (fun l2k17_132 => if l2k17_132 = 0 then bz (1 : Int32) (some (1 : Int32)) else bz (0 : Int32) (some (0 : Int32))) 201 0 N x 0 D (by omega) (by omega) (by omega) hx (by omega) (by omega) d1
  refine q1.trans ?_
  show (if nI E = 0 then bz (1 : Int32) (some (1 : Int32)) else bz (0 : Int32) (some (0 : Int32))) = _
  by_cases ha : allB (fun j => hit H S n (T j) (V j) 202 (some x) 0) cnt = true
  · have hE : E = 0 := bnil q2 (fun w hw => by
      rw [q3 w hw, d3 w hw]
      by_cases c : w < cnt
      · have := (allB_ok _ cnt).mp ha w c
        rw [this, decide_eq_true c]
        rfl
      · rw [decide_eq_false c, Bool.false_and])
    rw [hE, if_pos (show nI 0 = (0 : Int32) from rfl), bz1, ha]
    rfl
  · have hE : ¬ E = 0 := by
      intro hE
      apply ha
      rw [allB_ok]
      intro j hj
      have h1 := q3 j (by omega)
      rw [d3 j (by omega), hE, decide_eq_true hj, Nat.zero_testBit, Bool.true_and, Bool.true_and] at h1
      exact Bool.not_eq_false' .. |>.mp h1.symm
    rw [if_neg (show ¬ nI E = 0 from nI_ne0 (by omega) (by omega)), bz0, Bool.eq_false_iff.mpr ha]
    rfl
