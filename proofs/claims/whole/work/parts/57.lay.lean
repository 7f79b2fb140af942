/-! ===== pure: the course of the class ===== -/
def enX (h : Nat → Nat) (n : Nat) : Int32 := match nx h n with
  | none => -1
  | some y => nI y
def enG (h S : Nat → Nat) (n : Nat) : Int32 := match nx h n with
  | none => 0
  | some _ => nI (gp h S n)
theorem bst_no {h : Nat → Nat} {k : Nat} (e : ¬ (bst h k).1 < h k) : bst h (k + 1) = bst h k := if_neg e
theorem bst_yes {h : Nat → Nat} {k : Nat} (e : (bst h k).1 < h k) : bst h (k + 1) = (h k, k) := if_pos e
theorem fn_loop {n x : Nat} (hn : n ≤ 6) (hx : x < 6) {hear slow : Nat → Int32} {h S : Nat → Nat} (hh : ∀ y, y < n → hear (6 * x + y) = nI (h y)) (hs : ∀ y, y < n → slow y = nI (S y)) (hb : ∀ y, y < n → h y ≤ 20) (K : (Nat → Int32) → (Nat → Int32) → Option ((Nat → Int32) × (Nat → Int32))) : ∀ (i k fu : Nat) (gap next : Nat → Int32), n - k = i → k ≤ n → i < fu → next x = enX h k → gap x = enG h S k → ∃ gap' next', fX0_findNext_L18 (nI x) (nI n) hear slow K fu (nI (bst h k).1) (nI k) gap next = K gap' next' ∧ next' x = enX h n ∧ gap' x = enG h S n ∧ ∀ j, j ≠ x → next' j = next j ∧ gap' j = gap j := by
  intro i
  induction i with
  | zero =>
    intro k fu gap next h1 h2 h3 h4 h5
    have hk : k = n := by omega
    subst hk
    obtain ⟨fu, rfl⟩ : ∃ g, fu = g + 1 := ⟨fu - 1, by omega⟩
    unfold fX0_findNext_L18 fX0_findNext_18
    rw [if_pos (nI_le (Nat.le_refl _) (by omega))]
    exact ⟨gap, next, rfl, h4, h5, fun j _ => ⟨rfl, rfl⟩⟩
  | succ i ih =>
    intro k fu gap next h1 h2 h3 h4 h5
    have hk : k < n := by omega
    obtain ⟨fu, rfl⟩ : ∃ g, fu = g + 1 := ⟨fu - 1, by omega⟩
    have e0 : nI x * (6 : Int32) + nI k = nI (6 * x + k) := by simp only [litI, pk_mul, nI_add]; congr 1; omega
    have hB : (bst h k).1 ≤ 20 := by
      rcases bst_ok h k with q | ⟨q1, q2⟩
      · omega
      · rw [← q2]; exact hb _ (by omega)
    have hbk := hb k hk
    unfold fX0_findNext_L18 fX0_findNext_18 fX0_beatsTo fX0_findNext_65
    rw [if_neg (nI_ge hk (by omega)), e0, rdi_at (j := 6 * x + k) rfl (by omega) (by omega), hh k hk, ob_some, nI_1]
    by_cases h6 : (bst h k).1 < h k
    · rw [if_neg (nI_ge h6 (by omega)), wri_at (j := x) rfl hx (by omega), rdi_at (j := k) rfl (by omega) (by omega), wri_at (j := x) rfl hx (by omega), hs k hk, nI_add]
      have e1 : nx h (k + 1) = some k := by
        unfold nx
        rw [bst_yes h6, if_neg (show ¬ h k = 0 by omega)]
      obtain ⟨gap', next', q1, q2, q3, q4⟩ := ih (k + 1) fu (upd gap x (nI (h k + S k))) (upd next x (nI k)) (by omega) (by omega) (by omega) (by rw [upd_eq rfl]; unfold enX; rw [e1]) (by rw [upd_eq rfl]; unfold enG gp; rw [e1, bst_yes h6])
      rw [bst_yes h6] at q1
      refine ⟨gap', next', q1, q2, q3, fun j hj => ?_⟩
      obtain ⟨q5, q6⟩ := q4 j hj
      rw [q5, q6, upd_ne hj, upd_ne hj]
      exact ⟨rfl, rfl⟩
    · rw [if_pos (nI_le (by omega) (by omega))]
      have q := ih (k + 1) fu gap next (by omega) (by omega) (by omega) (by unfold enX nx; rw [bst_no h6]; exact h4) (by unfold enG gp nx; rw [bst_no h6]; exact h5)
      rw [bst_no h6] at q
      exact q
theorem findNext_ok {N : Nat} (hN : 10 ≤ N) {n x : Nat} (hn : n ≤ 6) (hx : x < 6) {hear slow : Nat → Int32} {h S : Nat → Nat} (hh : ∀ y, y < n → hear (6 * x + y) = nI (h y)) (hs : ∀ y, y < n → slow y = nI (S y)) (hb : ∀ y, y < n → h y ≤ 20) (gap next : Nat → Int32) : ∃ gap' next', fX0_findNext N (nI x) (nI n) gap hear next slow = some (gap', next') ∧ next' x = enX h n ∧ gap' x = enG h S n ∧ ∀ j, j ≠ x → next' j = next j ∧ gap' j = gap j := by
  unfold fX0_findNext
  rw [wri_at (j := x) rfl hx (by omega), wri_at (j := x) rfl hx (by omega)]
  obtain ⟨gap', next', q1, q2, q3, q4⟩ := fn_loop hn hx hh hs hb (fun a b => some (a, b)) n 0 N (upd gap x 0) (upd next x (-1)) (by omega) (by omega) (by omega) (upd_eq rfl) (upd_eq rfl)
  refine ⟨gap', next', q1, q2, q3, fun j hj => ?_⟩
  obtain ⟨q5, q6⟩ := q4 j hj
  rw [q5, q6, upd_ne hj, upd_ne hj]
  exact ⟨rfl, rfl⟩
/-- next and gap stand for every village -/
def CN (n : Nat) (S : Nat → Nat) (H : Nat → Nat → Nat) (gap next : Nat → Int32) : Prop := ∀ x, x < 6 → next x = enX (H x) n ∧ gap x = enG (H x) S n
def CH (H : Nat → Nat → Nat) (hear : Nat → Int32) : Prop := ∀ x y, x < 6 → y < 6 → hear (6 * x + y) = nI (H x y)
theorem fan_loop {N : Nat} (hN : 10 ≤ N) {n : Nat} (hn : n ≤ 6) {hear slow : Nat → Int32} {H : Nat → Nat → Nat} {S : Nat → Nat} (hh : CH H hear) (hs : ∀ y, y < n → slow y = nI (S y)) (hb : ∀ x y, H x y ≤ 20) (K : (Nat → Int32) → (Nat → Int32) → Option ((Nat → Int32) × (Nat → Int32))) : ∀ (i k fu : Nat) (gap next : Nat → Int32), 6 - k = i → k ≤ 6 → i < fu → (∀ x, x < k → next x = enX (H x) n ∧ gap x = enG (H x) S n) → ∃ gap' next', fX0_findAllNext_L2 N (nI n) hear slow K fu (nI k) gap next = K gap' next' ∧ CN n S H gap' next' := by
  intro i
  induction i with
  | zero =>
    intro k fu gap next h1 h2 h3 h4
    have hk : k = 6 := by omega
    subst hk
    obtain ⟨fu, rfl⟩ : ∃ g, fu = g + 1 := ⟨fu - 1, by omega⟩
    unfold fX0_findAllNext_L2 fX0_findAllNext_2
    rw [if_pos (show (6 : Int32) ≤ nI 6 by decide)]
    exact ⟨gap, next, rfl, h4⟩
  | succ i ih =>
    intro k fu gap next h1 h2 h3 h4
    have hk : k < 6 := by omega
    obtain ⟨fu, rfl⟩ : ∃ g, fu = g + 1 := ⟨fu - 1, by omega⟩
    unfold fX0_findAllNext_L2 fX0_findAllNext_2
    rw [if_neg (show ¬ (6 : Int32) ≤ nI k from nI_ge (b := 6) hk (by omega))]
    obtain ⟨g', n', q1, q2, q3, q4⟩ := findNext_ok hN hn hk (h := H k) (fun y hy => hh k y hk (by omega)) hs (fun y _ => hb k y) gap next
    rw [q1, ob_some, nI_1]
    refine ih (k + 1) fu g' n' (by omega) (by omega) (by omega) (fun x hx => ?_)
    by_cases e : x = k
    · subst e
      exact ⟨q2, q3⟩
    · obtain ⟨q5, q6⟩ := q4 x e
      rw [q5, q6]
      exact h4 x (by omega)
theorem findAllNext_ok {N : Nat} (hN : 10 ≤ N) {n : Nat} (hn : n ≤ 6) {hear slow : Nat → Int32} {H : Nat → Nat → Nat} {S : Nat → Nat} (hh : CH H hear) (hs : ∀ y, y < n → slow y = nI (S y)) (hb : ∀ x y, H x y ≤ 20) (gap next : Nat → Int32) : ∃ gap' next', fX0_findAllNext N (nI n) gap hear next slow = some (gap', next') ∧ CN n S H gap' next' :=
  fan_loop hN hn hh hs hb (fun a b => some (a, b)) 6 0 N gap next (by omega) (by omega) (by omega) (fun x hx => absurd hx (Nat.not_lt_zero _))
theorem shl0 : ∀ (w : Fin 10) (g : Fin 2), (nI w.val) <<< (nI g.val &&& 31) = nI (w.val * (1 + g.val)) := by decide +kernel
theorem mod6_0 : ∀ i : Fin 36, nI i.val - nI i.val / 6 * 6 = nI (i.val % 6) ∧ nI i.val / 6 = nI (i.val / 6) := by decide +kernel
theorem mod6 {i : Nat} (h : i < 36) : nI i - nI i / 6 * 6 = nI (i % 6) := (mod6_0 ⟨i, h⟩).1
theorem div6 {i : Nat} (h : i < 36) : nI i / 6 = nI (i / 6) := (mod6_0 ⟨i, h⟩).2
theorem isDeaf_ok {D y : Nat} (hD : D < 64) (hy : y < 6) : fX0_isDeaf (nI y) (nI D) = some (if D.testBit y then 1 else 0) := by
  unfold fX0_isDeaf fX0_isDeaf_17
  rw [deaf_get hD hy]
  by_cases h : D.testBit y = true
  · rw [if_pos h, if_pos rfl, bz1]
  · rw [if_neg h, if_neg (by decide), bz0]
theorem heardOver_ok {W : Nat → Nat → Nat} {R G x y : Nat} {ways : Nat → Int32} (hW : ∀ a b, W a b ≤ 9) (hR : R ≤ 20) (hG : G ≤ 1) (hx : x < 6) (hy : y < 6) (hw' : ways (6 * x + y) = nI (W x y)) : fX9_heardOver (nI x) (nI y) (nI G) (nI R) ways = some (nI (hw W R G x y)) := by
  unfold fX9_heardOver fX9_heardOver_25 fX9_between
  have e0 : nI x * (6 : Int32) + nI y = nI (6 * x + y) := by simp only [litI, pk_mul, nI_add]; congr 1; omega
  have hw9 := hW x y
  have hle : W x y * (1 + G) ≤ 9 * 2 := Nat.mul_le_mul hw9 (by omega)
  rw [e0, rdi_at (j := 6 * x + y) rfl (by omega) (by omega), hw', ob_some, lti_eq, show nI (W x y) <<< (nI G &&& 31) = nI (W x y * (1 + G)) from shl0 ⟨W x y, by omega⟩ ⟨G, by omega⟩]
  unfold hw
  by_cases h : W x y * (1 + G) ≤ R
  · rw [if_pos (nI_le h (by omega)), if_pos h]
  · rw [if_neg (nI_ge (by omega) (by omega)), if_neg h]; rfl
def H0 (W : Nat → Nat → Nat) (R G : Nat) (D : Nat → Bool) (x y : Nat) : Nat := if D y then 0 else hw W R G x y
abbrev LO : Type := Option (Int32 × Int32 × (Nat → Int32) × (Nat → Int32) × (Nat → Int32) × (Nat → Int32))
theorem lay44 {W : Nat → Nat → Nat} {R G D x : Nat} {B : Nat → Bool} {ways : Nat → Int32} (hW : ∀ a b, W a b ≤ 9) (hR : R ≤ 20) (hG : G ≤ 1) (hD : D < 64) (hB : ∀ v, v < 6 → D.testBit v = B v) (hx : x < 6) (hw' : ∀ a b, a < 6 → b < 6 → ways (6 * a + b) = nI (W a b)) (K : (Nat → Int32) → LO) : ∀ (i k fu : Nat) (hear : Nat → Int32), 6 - k = i → k ≤ 6 → i < fu → (∀ y, y < k → hear (6 * x + y) = nI (H0 W R G B x y)) → ∃ hear', fX0_lay_L44 (nI G) (nI x) (nI D) (nI R) ways K fu (nI k) hear = K hear' ∧ (∀ y, y < 6 → hear' (6 * x + y) = nI (H0 W R G B x y)) ∧ ∀ j, (j < 6 * x ∨ 6 * x + 6 ≤ j) → hear' j = hear j := by
  intro i
  induction i with
  | zero =>
    intro k fu hear h1 h2 h3 h4
    have hk : k = 6 := by omega
    subst hk
    obtain ⟨fu, rfl⟩ : ∃ g, fu = g + 1 := ⟨fu - 1, by omega⟩
    unfold fX0_lay_L44 fX0_lay_44
    rw [if_pos (show (6 : Int32) ≤ nI 6 by decide)]
    exact ⟨hear, rfl, h4, fun _ _ => rfl⟩
  | succ i ih =>
    intro k fu hear h1 h2 h3 h4
    have hk : k < 6 := by omega
    obtain ⟨fu, rfl⟩ : ∃ g, fu = g + 1 := ⟨fu - 1, by omega⟩
    have e0 : nI x * (6 : Int32) + nI k = nI (6 * x + k) := by simp only [litI, pk_mul, nI_add]; congr 1; omega
    unfold fX0_lay_L44 fX0_lay_44 fX0_lay_85
    rw [if_neg (show ¬ (6 : Int32) ≤ nI k from nI_ge (b := 6) hk (by omega)), isDeaf_ok hD hk, ob_some, heardOver_ok hW hR hG hx hk (hw' x k hx hk), ob_some, e0, wri_at (j := 6 * x + k) rfl (by omega) (by omega), wri_at (j := 6 * x + k) rfl (by omega) (by omega), nI_1]
    have main : ∀ z : Int32, z = nI (H0 W R G B x k) → ∃ hear', fX0_lay_L44 (nI G) (nI x) (nI D) (nI R) ways K fu (nI (k + 1)) (upd hear (6 * x + k) z) = K hear' ∧ (∀ y, y < 6 → hear' (6 * x + y) = nI (H0 W R G B x y)) ∧ ∀ j, (j < 6 * x ∨ 6 * x + 6 ≤ j) → hear' j = hear j := by
      intro z hz
      obtain ⟨hear', q1, q2, q3⟩ := ih (k + 1) fu (upd hear (6 * x + k) z) (by omega) (by omega) (by omega) (fun y hy => by
        by_cases e : y = k
        · subst e; rw [upd_eq rfl, hz]
        · rw [upd_ne (by omega)]; exact h4 y (by omega))
      refine ⟨hear', q1, q2, fun j hj => ?_⟩
      rw [q3 j hj, upd_ne (by omega)]
    have hBk := hB k hk
    by_cases h : D.testBit k = true
    · rw [if_pos h, if_neg ne10]
      refine main 0 ?_
      unfold H0
      rw [← hBk, if_pos h]; rfl
    · rw [if_neg h, if_pos rfl]
      refine main _ ?_
      unfold H0
      rw [← hBk, if_neg h]
theorem lay34 {N : Nat} (hN : 10 ≤ N) {W : Nat → Nat → Nat} {R G D : Nat} {B : Nat → Bool} {ways : Nat → Int32} (hW : ∀ a b, W a b ≤ 9) (hR : R ≤ 20) (hG : G ≤ 1) (hD : D < 64) (hB : ∀ v, v < 6 → D.testBit v = B v) (hw' : ∀ a b, a < 6 → b < 6 → ways (6 * a + b) = nI (W a b)) (K : (Nat → Int32) → LO) : ∀ (i k fu : Nat) (hear : Nat → Int32), 6 - k = i → k ≤ 6 → i < fu → (∀ x y, x < k → y < 6 → hear (6 * x + y) = nI (H0 W R G B x y)) → ∃ hear', fX0_lay_L34 N (nI G) (nI D) (nI R) ways K fu (nI k) hear = K hear' ∧ CH (H0 W R G B) hear' := by
  intro i
  induction i with
  | zero =>
    intro k fu hear h1 h2 h3 h4
    have hk : k = 6 := by omega
    subst hk
    obtain ⟨fu, rfl⟩ : ∃ g, fu = g + 1 := ⟨fu - 1, by omega⟩
    unfold fX0_lay_L34 fX0_lay_34
    rw [if_pos (show (6 : Int32) ≤ nI 6 by decide)]
    exact ⟨hear, rfl, h4⟩
  | succ i ih =>
    intro k fu hear h1 h2 h3 h4
    have hk : k < 6 := by omega
    obtain ⟨fu, rfl⟩ : ∃ g, fu = g + 1 := ⟨fu - 1, by omega⟩
    unfold fX0_lay_L34 fX0_lay_34
    rw [if_neg (show ¬ (6 : Int32) ≤ nI k from nI_ge (b := 6) hk (by omega))]
    obtain ⟨hear1, q1, q2, q3⟩ := lay44 hW hR hG hD hB hk hw' (fun h => fX0_lay_L34 N (nI G) (nI D) (nI R) ways K fu (nI k + 1) h) 6 0 N hear (by omega) (by omega) (by omega) (fun y hy => absurd hy (Nat.not_lt_zero _))
    rw [show (0 : Int32) = nI 0 from rfl, q1, nI_1]
    refine ih (k + 1) fu hear1 (by omega) (by omega) (by omega) (fun x y hx hy => ?_)
    by_cases e : x = k
    · subst e; exact q2 y hy
    · rw [q3 _ (by omega)]; exact h4 x y (by omega) hy
theorem shorten_ok {D x y b g : Nat} {hear : Nat → Int32} (hD : D < 64) (hx : x < 6) (hy : y < 6) (hh : hear (6 * x + y) = nI b) (hb : b ≤ 20) (hg : g ≤ 20) : fX0_shorten (nI (6 * x + y)) (nI g) (nI D) hear = some (if (b = 0 ∨ g < b) ∧ ¬ D.testBit y = true then upd hear (6 * x + y) (nI g) else hear) := by
  unfold fX0_shorten fX0_shorten_19 fX0_shorten_24 fX0_shorten_47
  have hm : (6 * x + y) % 6 = y := by omega
  simp only [rdi_at (j := 6 * x + y) rfl (show 6 * x + y < 36 by omega) (by omega : (36 : Nat) < 2 ^ 31), wri_at (j := 6 * x + y) rfl (show 6 * x + y < 36 by omega) (by omega : (36 : Nat) < 2 ^ 31), hh, mod6 (show 6 * x + y < 36 by omega), hm, isDeaf_ok hD hy, ob_some, if_neg ne10, if_true]
  have hd : (if (if D.testBit y = true then (1 : Int32) else 0) = 0 then some (upd hear (6 * x + y) (nI g)) else some hear) = some (if ¬ D.testBit y = true then upd hear (6 * x + y) (nI g) else hear) := by
    by_cases h : D.testBit y = true
    · rw [if_pos h, if_neg ne10, if_neg (fun c => c h)]
    · rw [if_neg h, if_pos rfl, if_pos h]
  rw [hd]
  by_cases h0 : b = 0
  · rw [if_pos (by rw [h0]; rfl)]
    congr 1
    by_cases h : D.testBit y = true
    · rw [if_neg (fun c => c h), if_neg (fun c => c.2 h)]
    · rw [if_pos h, if_pos ⟨Or.inl h0, h⟩]
  · rw [if_neg (show ¬ nI b = (0 : Int32) from nI_ne0 (by omega) (by omega))]
    by_cases h1 : g < b
    · rw [if_neg (nI_ge h1 (by omega))]
      congr 1
      by_cases h : D.testBit y = true
      · rw [if_neg (fun c => c h), if_neg (fun c => c.2 h)]
      · rw [if_pos h, if_pos ⟨Or.inr h1, h⟩]
    · rw [if_pos (nI_le (by omega) (by omega)), if_neg (fun c => c.1.elim h0 h1)]
def Hk (W : Nat → Nat → Nat) (R G : Nat) (D : Nat → Bool) (F T L : Nat → Nat) (k x y : Nat) : Nat := if D y then 0 else mus F T L x y k (hw W R G x y)
theorem lay101 {W : Nat → Nat → Nat} {R G D M n : Nat} {B : Nat → Bool} {F T L : Nat → Nat} {mb mf mt : Nat → Int32} (hn : n ≤ 6) (hR : R ≤ 20) (hD : D < 64) (hB : ∀ v, v < 6 → D.testBit v = B v) (hM : M ≤ 2) (hm : ∀ k, k < M → F k < n ∧ T k < n ∧ L k ≤ 20) (hc : ∀ k, k < M → mb k = nI (L k) ∧ mf k = nI (F k) ∧ mt k = nI (T k)) (K : (Nat → Int32) → LO) : ∀ (i k fu : Nat) (hear : Nat → Int32), M - k = i → k ≤ M → i < fu → CH (Hk W R G B F T L k) hear → ∃ hear', fX0_lay_L101 (nI D) (nI M) mb mf mt K fu (nI k) hear = K hear' ∧ CH (Hk W R G B F T L M) hear' := by
  intro i
  induction i with
  | zero =>
    intro k fu hear h1 h2 h3 h4
    have hk : k = M := by omega
    subst hk
    obtain ⟨fu, rfl⟩ : ∃ g, fu = g + 1 := ⟨fu - 1, by omega⟩
    unfold fX0_lay_L101 fX0_lay_101
    rw [if_pos (nI_le (Nat.le_refl _) (by omega))]
    exact ⟨hear, rfl, h4⟩
  | succ i ih =>
    intro k fu hear h1 h2 h3 h4
    have hk : k < M := by omega
    obtain ⟨fu, rfl⟩ : ∃ g, fu = g + 1 := ⟨fu - 1, by omega⟩
    obtain ⟨c1, c2, c3⟩ := hc k hk
    obtain ⟨m1, m2, m3⟩ := hm k hk
    have e0 : nI (F k) * (6 : Int32) + nI (T k) = nI (6 * F k + T k) := by simp only [litI, pk_mul, nI_add]; congr 1; omega
    have hb : Hk W R G B F T L k (F k) (T k) ≤ 20 := by
      unfold Hk
      split
      · omega
      · exact mus_le (M := M) (fun k h => (hm k h).2.2) hR (hw_le _ _ _ _ _) k (by omega)
    unfold fX0_lay_L101 fX0_lay_101
    rw [if_neg (nI_ge hk (by omega)), if_neg (show ¬ (2 : Int32) ≤ nI k from nI_ge (b := 2) (by omega) (by omega)), rdi_at (j := k) rfl (by omega) (by omega), c2, rdi_at (j := k) rfl (by omega) (by omega), c3, rdi_at (j := k) rfl (by omega) (by omega), c1, e0, shorten_ok hD (show F k < 6 by omega) (show T k < 6 by omega) (h4 (F k) (T k) (by omega) (by omega)) hb m3, ob_some, nI_1]
    refine ih (k + 1) fu _ (by omega) (by omega) (by omega) (fun x y hx hy => ?_)
    have hBT := hB (T k) (by omega)
    have hxy := h4 x y hx hy
    show _ = nI (if B y then 0 else mst F T L x y k (mus F T L x y k (hw W R G x y)))
    have hHk : Hk W R G B F T L k x y = if B y then 0 else mus F T L x y k (hw W R G x y) := rfl
    by_cases hd : B y = true
    · rw [if_pos hd]
      rw [hHk, if_pos hd] at hxy
      by_cases e : 6 * x + y = 6 * F k + T k
      · have e1 : T k = y := by omega
        rw [if_neg (fun c => c.2 (by rw [hBT, e1]; exact hd))]
        exact hxy
      · split
        · rw [upd_ne e]; exact hxy
        · exact hxy
    · rw [if_neg hd]
      rw [hHk, if_neg hd] at hxy
      by_cases e : 6 * x + y = 6 * F k + T k
      · have e1 : T k = y := by omega
        have e2 : F k = x := by omega
        have e3 : Hk W R G B F T L k (F k) (T k) = mus F T L x y k (hw W R G x y) := by rw [e1, e2, hHk, if_neg hd]
        rw [e3]
        unfold mst
        by_cases c : mus F T L x y k (hw W R G x y) = 0 ∨ L k < mus F T L x y k (hw W R G x y)
        · rw [if_pos ⟨c, by rw [hBT, e1]; exact hd⟩, if_pos ⟨e2, e1, c⟩, upd_eq e]
        · rw [if_neg (fun c' => c c'.1), if_neg (fun c' => c c'.2.2)]
          exact hxy
      · have hno : ¬ (F k = x ∧ T k = y ∧ (mus F T L x y k (hw W R G x y) = 0 ∨ L k < mus F T L x y k (hw W R G x y))) := fun c => e (by rw [c.1, c.2.1])
        unfold mst
        rw [if_neg hno]
        split
        · rw [upd_ne e]; exact hxy
        · exact hxy
/-- the course as it is laid -/
theorem lay_ok {N : Nat} (hN : 10 ≤ N) {W : Nat → Nat → Nat} {R G D M n : Nat} {B : Nat → Bool} {F T L S : Nat → Nat} {mb mf mt sl ways : Nat → Int32} (hn : n ≤ 6) (hW : ∀ a b, W a b ≤ 9) (hR : R ≤ 20) (hG : G ≤ 1) (hD : D < 64) (hB : ∀ v, v < 6 → D.testBit v = B v) (hw' : ∀ a b, a < 6 → b < 6 → ways (6 * a + b) = nI (W a b)) (hM : M ≤ 2) (hm : ∀ k, k < M → F k < n ∧ T k < n ∧ L k ≤ 20) (hc : ∀ k, k < M → mb k = nI (L k) ∧ mf k = nI (F k) ∧ mt k = nI (T k)) (hs : ∀ y, y < n → sl y = nI (S y)) (gap hear next slow : Nat → Int32) : ∃ gap' hear' next' slow', fX0_lay N (nI G) gap hear next slow (nI n) (nI R) ways (nI D) (nI M) mb mf mt sl = some (nI n, nI D, gap', hear', next', slow') ∧ CH (Hk W R G B F T L M) hear' ∧ CN n S (Hk W R G B F T L M) gap' next' ∧ ∀ y, y < n → slow' y = nI (S y) := by
  unfold fX0_lay
  rw [lti_eq]
  have hsl : ∀ y, y < n → va_cpy sl slow 0 0 6 y = nI (S y) := fun y hy => (cpy_in (by omega)).trans (hs y hy)
  generalize va_cpy sl slow 0 0 6 = slow' at hsl ⊢
  obtain ⟨h1, q1, q2⟩ := lay34 hN hW hR hG hD hB hw' (fun m_a0_hearingk34_98 => fX0_lay_L101 (nI D) (nI M) mb mf mt
      (fun m_a0_hearingk101_151 => Option.bind (fX0_findAllNext N (nI n) gap m_a0_hearingk101_151 next slow') fun o152 =>
  some (nI n, nI D, o152.1, m_a0_hearingk101_151, o152.2, slow')) N 0 m_a0_hearingk34_98) 6 0 N hear (by omega) (by omega) (by omega) (fun x y hx _ => absurd hx (Nat.not_lt_zero _))
  rw [show (0 : Int32) = nI 0 from rfl] at q1 ⊢
  rw [q1]
  obtain ⟨h2, q3, q4⟩ := lay101 (W := W) (R := R) (G := G) hn hR hD hB hM hm hc (fun m_a0_hearingk101_151 => Option.bind (fX0_findAllNext N (nI n) gap m_a0_hearingk101_151 next slow') fun o152 =>
  some (nI n, nI D, o152.1, m_a0_hearingk101_151, o152.2, slow')) M 0 N h1 (by omega) (by omega) (by omega) q2
  rw [q3]
  have hb : ∀ x y, Hk W R G B F T L M x y ≤ 20 := fun x y => by
    unfold Hk
    split
    · omega
    · exact mus_le (M := M) (fun k h => (hm k h).2.2) hR (hw_le _ _ _ _ _) M (Nat.le_refl _)
  obtain ⟨g', n', q5, q6⟩ := findAllNext_ok hN hn q4 hsl hb gap next
  rw [q5, ob_some]
  exact ⟨g', h2, n', slow', rfl, q4, q6, hsl⟩
