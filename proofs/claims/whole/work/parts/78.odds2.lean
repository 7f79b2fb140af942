/-! ===== pure: odds ===== -/
def setG (a : AN) (g : Nat) : AN := (aK a, aB a, aP a, g, aM a, aS a, aD a, aF a, aT a, aL a, aX a)
theorem lay_G {N : Nat} (hN : 10 ≤ N) {d : DS} {m : MS} {v : AV} {a : AN} (hV : InvV d m v) (hA : OkA (vN v) a) (hC : RC (dS d) a) {G : Nat} (hG : G ≤ 1) (gap hear next slow : Nat → Int32) : ∃ D gap' hear' next' slow', fX0_lay N (nI G) gap hear next slow ((dV d).1) ((dV d).2.2.1) ((dV d).2.2.2.2.2.2.2) ((dS d).2.2.2.2.1) ((dS d).2.2.2.2.2.1) ((dS d).2.2.2.2.2.2.1) ((dS d).2.2.2.2.2.2.2.1) ((dS d).2.2.2.2.2.2.2.2.1) ((dS d).2.2.2.2.2.2.2.2.2.1) = some (nI (vN v), nI D, gap', hear', next', slow') ∧ CN (vN v) (aS a) (Hn (vW v) (vR v) (setG a G)) gap' next' := by
  obtain ⟨⟨o1, o2, o3, o4, o5, o6, o7, o8, o9⟩, n1, n2, n3, n4, n5, n6, n7, n8, n9⟩ := hV
  obtain ⟨b1, b2, b3, b4, b5, b6, b7, b8, b9⟩ := hA
  obtain ⟨c1, c2, c3, c4, ⟨D, hD, c5, hB⟩, c6, c7, c8, c9⟩ := hC
  obtain ⟨gap', hear', next', slow', q1, q2, q3, q4⟩ := lay_ok hN (W := vW v) (R := vR v) (G := G) (D := D) (M := aM a) (n := vN v) (B := aD a) (F := aF a) (T := aT a) (L := aL a) (S := aS a) (mb := (dS d).2.2.2.2.2.2.1) (mf := (dS d).2.2.2.2.2.2.2.1) (mt := (dS d).2.2.2.2.2.2.2.2.1) (sl := (dS d).2.2.2.2.2.2.2.2.2.1) (ways := (dV d).2.2.2.2.2.2.2) o1 o7 o3 hG hD hB n7 b5 (fun k hk => ⟨(b7 k hk).1, (b7 k hk).2.1, (b7 k hk).2.2.2.2⟩) c7 (fun y hy => c8 y (by omega)) gap hear next slow
  refine ⟨D, gap', hear', next', slow', ?_, q3⟩
  rw [c5, c6, n1, n3, q1]
theorem Wk_fog {n : Nat} {a : AN} {f : Nat → Int32} {x b g0 g : Nat} (hg : g ≤ 1) (h : Wk n (setG a g0) f x b) : Wk n (setG a g) (upd f 3 (nI g)) x b := by
  obtain ⟨⟨f3, g1, fd, f16, hM, fm, hm⟩, h2, h3, h4⟩ := h
  refine ⟨⟨upd_eq rfl, hg, fun v hv => (upd_ne (by omega)).trans (fd v hv), (upd_ne (by omega)).trans f16, hM, fun k hk => ?_, hm⟩, fun z hz => (upd_ne (by omega)).trans (h2 z hz), (upd_ne (by omega)).trans h3, (upd_ne (by omega)).trans h4⟩
  obtain ⟨q1, q2, q3⟩ := fm k hk
  exact ⟨(upd_ne (by omega)).trans q1, (upd_ne (by omega)).trans q2, (upd_ne (by omega)).trans q3⟩
/-- where a walk by fogs stands -/
def Ow (nn : Nat) (a : AN) (nc nf : Nat → Option Nat) (x0 set k : Nat) (w : Nat → Int32) (l8 : Int32) : Prop := (pl nc nf x0 set k = none ∧ l8 = 0) ∨ (∃ x b g0, pl nc nf x0 set k = some x ∧ l8 = 1 ∧ Wk nn (setG a g0) w x b)
abbrev OF : Type := Option (Int32 × Int32 × (Nat → Int32))
theorem of72 {N : Nat} (hN : 10 ≤ N) {nn R p n set x0 : Nat} {W : Nat → Nat → Nat} {len many : Nat → Int32} {a : AN} (hv : RW nn R W len many) (hx0 : nn ≠ 0) (hp : p ≤ 10) (hn : n ≤ 6) (hs : set < 64) (h0 : x0 < 6) {nc nf : Nat → Option Nat} (hnc : ∀ x, nc x = nx (Hn W R (setG a 0) x) nn) (hnf : ∀ x, nf x = nx (Hn W R (setG a 1) x) nn) (K : Int32 → Int32 → (Nat → Int32) → OF) : ∀ (r k fu : Nat) (w : Nat → Int32) (l8 : Int32), k + r = n → r < fu → Ow nn a nc nf x0 set k w l8 → ∃ w' l8', fX12_odds_L72 N (nI p) (nI n) (nI set) len many K fu (nI (wt p set k)) l8 (nI k) w = K (nI (wt p set n)) l8' w' ∧ Ow nn a nc nf x0 set n w' l8' := by
  have hnn : nn ≤ 6 := hv.1
  have lc : ∀ x y, nc x = some y → y < 6 := fun x y e => by
    rw [hnc] at e
    have := (nx_lt e).1
    omega
  have lf : ∀ x y, nf x = some y → y < 6 := fun x y e => by
    rw [hnf] at e
    have := (nx_lt e).1
    omega
  intro r
  induction r with
  | zero =>
    intro k fu w l8 h1 h2 h3
    obtain ⟨fu, rfl⟩ : ∃ g, fu = g + 1 := ⟨fu - 1, by omega⟩
    obtain rfl : k = n := by omega
    unfold fX12_odds_L72 fX12_odds_72
    rw [if_pos (nI_le (Nat.le_refl _) (by omega))]
    exact ⟨w, l8, rfl, h3⟩
  | succ r ih =>
    intro k fu w l8 h1 h2 h3
    obtain ⟨fu, rfl⟩ : ∃ g, fu = g + 1 := ⟨fu - 1, by omega⟩
    have main : ∀ (g q : Nat), g ≤ 1 → wt p set (k + 1) = wt p set k * q → (pl nc nf x0 set k = none → pl nc nf x0 set (k + 1) = none) → (∀ x, pl nc nf x0 set k = some x → pl nc nf x0 set (k + 1) = nx (Hn W R (setG a g) x) nn) → ∃ w' l8', fX12_odds_111 (fX12_odds_L72 N (nI p) (nI n) (nI set) len many K fu) N l8 (nI k) (nI (wt p set k)) (nI q) len many (upd w 3 (nI g)) = K (nI (wt p set n)) l8' w' ∧ Ow nn a nc nf x0 set n w' l8' := by
      intro g q hg hq hno hso
      unfold fX12_odds_111 fX12_odds_134 fX12_odds_135
      rw [lti_eq, pk_mul, ← hq, nI_1]
      rcases h3 with ⟨p1, p2⟩ | ⟨x, b, g0, p1, p2, p3⟩
      · rw [if_pos p2]
        exact ih (k + 1) fu _ 0 (by omega) (by omega) (Or.inl ⟨hno p1, rfl⟩)
      · have hx := pl_lt h0 lc lf k x p1
        rw [p2, if_neg ne10]
        rcases go hN hv (Wk_fog hg p3) hx hx0 with ⟨e1, e2⟩ | ⟨y, f', e1, y1, e2, e3⟩
        · rw [e2, ob_some, if_pos rfl]
          exact ih (k + 1) fu _ 0 (by omega) (by omega) (Or.inl ⟨(hso x p1).trans e1, rfl⟩)
        · rw [e2, ob_some, if_neg ne10]
          exact ih (k + 1) fu f' 1 (by omega) (by omega) (Or.inr ⟨y, _, g, (hso x p1).trans e1, rfl, e3⟩)
    unfold fX12_odds_L72 fX12_odds_72
    rw [if_neg (nI_ge (by omega) (by omega)), lti_eq, deaf_get hs (show k < 6 by omega)]
    simp only [upd_eq (show (3 : Nat) = 3 from rfl)]
    have hpu : pl nc nf x0 set (k + 1) = match pl nc nf x0 set k with
      | none => none
      | some x => if set.testBit k then nf x else nc x := rfl
    have hwu : wt p set (k + 1) = wt p set k * (if set.testBit k then p else 10 - p) := rfl
    cases hb : set.testBit k with
    | true =>
      rw [if_pos (show (if true = true then (1 : Int32) else 0) = 1 from rfl)]
      rw [hb] at hpu hwu
      exact main 1 p (by omega) hwu (fun q => by rw [hpu, q]) (fun x q => by rw [hpu, q, ← hnf]; rfl)
    | false =>
      rw [if_neg (show ¬ (if false = true then (1 : Int32) else 0) = 1 by decide), show (10 : Int32) - nI p = nI (10 - p) from pk_sub hp]
      rw [hb] at hpu hwu
      exact main 0 (10 - p) (by omega) hwu (fun q => by rw [hpu, q]) (fun x q => by rw [hpu, q, ← hnc]; rfl)
theorem sh7_0 : ∀ k : Fin 7, (1 : Int32) <<< (nI k.val &&& 31) = nI (2 ^ k.val) := by decide +kernel
theorem of51 {N : Nat} (hN : 400 ≤ N) {nn R p n x0 v B : Nat} {W : Nat → Nat → Nat} {len many s : Nat → Int32} {a : AN} (hv : RW nn R W len many) (hx0 : nn ≠ 0) (hp : p ≤ 10) (hn : n ≤ 6) (h0 : x0 < 6) (hv6 : v < 6) {nc nf : Nat → Option Nat} (hnc : ∀ x, nc x = nx (Hn W R (setG a 0) x) nn) (hnf : ∀ x, nf x = nx (Hn W R (setG a 1) x) nn) (hs : Wk nn a s x0 B) (K : Int32 → (Nat → Int32) → OF) : ∀ (r set fu : Nat) (w : Nat → Int32), set + r = 2 ^ n → r < fu → ∃ w', fX12_odds_L51 N (nI v) (nI p) (nI n) len many s K fu (nI (sm (tm nc nf p x0 n v) set)) (nI set) w = K (nI (sm (tm nc nf p x0 n v) (2 ^ n))) w' := by
  have h64 : 2 ^ n ≤ 2 ^ 6 := Nat.pow_le_pow_right (by omega) hn
  have hnn : nn ≤ 6 := hv.1
  intro r
  induction r with
  | zero =>
    intro set fu w h1 h2
    obtain ⟨fu, rfl⟩ : ∃ g, fu = g + 1 := ⟨fu - 1, by omega⟩
    obtain rfl : set = 2 ^ n := by omega
    unfold fX12_odds_L51 fX12_odds_51
    rw [show (1 : Int32) <<< (nI n &&& 31) = nI (2 ^ n) from sh7_0 ⟨n, by omega⟩, if_pos (nI_le (Nat.le_refl _) (by omega))]
    exact ⟨w, rfl⟩
  | succ r ih =>
    intro set fu w h1 h2
    obtain ⟨fu, rfl⟩ : ∃ g, fu = g + 1 := ⟨fu - 1, by omega⟩
    obtain ⟨w1, e1, e2⟩ := asNow_ok hN s w
    have hst : Ow nn a nc nf x0 set 0 w1 1 := Or.inr ⟨x0, B, aG a, rfl, rfl, Wk_as e2 hs⟩
    unfold fX12_odds_L51 fX12_odds_51 fX12_odds_165 fX12_odds_166
    rw [show (1 : Int32) <<< (nI n &&& 31) = nI (2 ^ n) from sh7_0 ⟨n, by omega⟩, if_neg (nI_ge (by omega) (by omega)), e1, ob_some]
    obtain ⟨w2, l8, q1, q2⟩ := of72 (N := N) (by omega) hv hx0 hp hn (show set < 64 by omega) h0 hnc hnf (fun l7k72_143 l8k72_143 m_a0_wk72_143 => if l8k72_143 = 0 then (lti (nI (sm (tm nc nf p x0 n v) set) + (0 : Int32)) fun y167 => fX12_odds_L51 N (nI v) (nI p) (nI n) len many s K fu y167 (nI set + (1 : Int32)) m_a0_wk72_143)
  else (if (m_a0_wk72_143 2) = nI v then (lti (nI (sm (tm nc nf p x0 n v) set) + l7k72_143) fun y167 => fX12_odds_L51 N (nI v) (nI p) (nI n) len many s K fu y167 (nI set + (1 : Int32)) m_a0_wk72_143)
  else (lti (nI (sm (tm nc nf p x0 n v) set) + (0 : Int32)) fun y167 => fX12_odds_L51 N (nI v) (nI p) (nI n) len many s K fu y167 (nI set + (1 : Int32)) m_a0_wk72_143))) n 0 N w1 1 (by omega) (by omega) hst
    rw [show nI (wt p set 0) = (1 : Int32) from rfl, show nI 0 = (0 : Int32) from rfl] at q1
    rw [q1]
    simp only [lti_eq, nI_1, show ∀ z : Nat, nI z + (0 : Int32) = nI z from fun z => nI_add z 0, nI_add]
    have hu : sm (tm nc nf p x0 n v) (set + 1) = sm (tm nc nf p x0 n v) set + tm nc nf p x0 n v set := rfl
    have ih' := ih (set + 1) fu w2 (by omega) (by omega)
    rw [hu] at ih'
    unfold tm at ih' ⊢
    rcases q2 with ⟨p1, p2⟩ | ⟨x, b, g0, p1, p2, p3⟩
    · rw [if_pos p2]
      rw [if_neg (show ¬ pl nc nf x0 set n = some v by rw [p1]; exact fun q => by cases q), Nat.add_zero] at ih'
      exact ih'
    · have hx : x < 6 := pl_lt h0 (fun x y e => by
        rw [hnc] at e
        have := (nx_lt e).1
        omega) (fun x y e => by
        rw [hnf] at e
        have := (nx_lt e).1
        omega) n x p1
      rw [if_neg (show ¬ l8 = 0 by rw [p2]; exact ne10), p3.2.2.1]
      by_cases c : x = v
      · rw [if_pos (by rw [c])]
        rw [if_pos (show pl nc nf x0 set n = some v by rw [p1, c])] at ih'
        exact ih'
      · rw [if_neg (nI_ne (by omega) (by omega) c)]
        rw [if_neg (show ¬ pl nc nf x0 set n = some v by rw [p1]; exact fun q => c (by cases q; rfl)), Nat.add_zero] at ih'
        exact ih'
theorem powF {n : Nat} (hn : n ≤ 6) (K : Int32 → Option Int32) : ∀ (r i fu : Nat), i + r = n → r < fu → fX12_power_L4 (10 : Int32) (nI n) K fu (nI (10 ^ i)) (nI i) = K (nI (10 ^ n)) := by
  intro r
  induction r with
  | zero =>
    intro i fu h1 h2
    obtain ⟨fu, rfl⟩ : ∃ g, fu = g + 1 := ⟨fu - 1, by omega⟩
    obtain rfl : i = n := by omega
    unfold fX12_power_L4 fX12_power_4
    rw [if_pos (nI_le (Nat.le_refl _) (by omega))]
  | succ r ih =>
    intro i fu h1 h2
    obtain ⟨fu, rfl⟩ : ∃ g, fu = g + 1 := ⟨fu - 1, by omega⟩
    unfold fX12_power_L4 fX12_power_4
    rw [if_neg (nI_ge (by omega) (by omega)), lti_eq, nI_1, show nI (10 ^ i) * (10 : Int32) = nI (10 ^ (i + 1)) from pk_mul _ _]
    exact ih (i + 1) fu (by omega) (by omega)
abbrev OC : Type := Option (Int32 × (Nat → Int32) × Int32 × Int32 × Int32 × Int32 × (Nat → Int32) × (Nat → Int32) × (Nat → Int32) × (Nat → Int32) × (Nat → Int32) × (Nat → Int32) × (Nat → Int32) × (Nat → Int32) × (Nat → Int32))
theorem oc75 {P : Nat} (hP : P < 6) (K : (Nat → Int32) → OC) : ∀ (r i fu : Nat) (g : Nat → Int32), i + r = 6 → r < fu → (∀ y, y < i → g y = nI (if y = P then 1 else 0)) → ∃ g', fX11_odds_L75 (nI P) K fu (nI i) g = K g' ∧ ∀ y, y < 6 → g' y = nI (if y = P then 1 else 0) := by
  intro r
  induction r with
  | zero =>
    intro i fu g h1 h2 h3
    obtain ⟨fu, rfl⟩ : ∃ g, fu = g + 1 := ⟨fu - 1, by omega⟩
    obtain rfl : i = 6 := by omega
    unfold fX11_odds_L75 fX11_odds_75
    rw [if_pos (show (6 : Int32) ≤ nI 6 by decide)]
    exact ⟨g, rfl, h3⟩
  | succ r ih =>
    intro i fu g h1 h2 h3
    obtain ⟨fu, rfl⟩ : ∃ g, fu = g + 1 := ⟨fu - 1, by omega⟩
    unfold fX11_odds_L75 fX11_odds_75 fX11_odds_105
    rw [if_neg (show ¬ (6 : Int32) ≤ nI i from nI_ge (b := 6) (by omega) (by omega)), wri_at (j := i) rfl (by omega) (by omega), wri_at (j := i) rfl (by omega) (by omega), nI_1]
    by_cases c : i = P
    · rw [if_pos (by rw [c])]
      refine ih (i + 1) fu _ (by omega) (by omega) (fun y hy => ?_)
      by_cases e : y = i
      · rw [upd_eq e, if_pos (by omega)]; rfl
      · rw [upd_ne e]; exact h3 y (by omega)
    · rw [if_neg (nI_ne (by omega) (by omega) c)]
      refine ih (i + 1) fu _ (by omega) (by omega) (fun y hy => ?_)
      by_cases e : y = i
      · rw [upd_eq e, if_neg (by omega)]; rfl
      · rw [upd_ne e]; exact h3 y (by omega)
abbrev SO : Type := Option ((Nat → Int32) × (Nat → Int32))
theorem sp2 (K : (Nat → Int32) → SO) : ∀ (r i fu : Nat) (g : Nat → Int32), i + r = 6 → r < fu → (∀ y, y < i → g y = nI 0) → ∃ g', fX11_spreadChances_L2 K fu (nI i) g = K g' ∧ ∀ y, y < 6 → g' y = nI 0 := by
  intro r
  induction r with
  | zero =>
    intro i fu g h1 h2 h3
    obtain ⟨fu, rfl⟩ : ∃ g, fu = g + 1 := ⟨fu - 1, by omega⟩
    obtain rfl : i = 6 := by omega
    unfold fX11_spreadChances_L2 fX11_spreadChances_2
    rw [if_pos (show (6 : Int32) ≤ nI 6 by decide)]
    exact ⟨g, rfl, h3⟩
  | succ r ih =>
    intro i fu g h1 h2 h3
    obtain ⟨fu, rfl⟩ : ∃ g, fu = g + 1 := ⟨fu - 1, by omega⟩
    unfold fX11_spreadChances_L2 fX11_spreadChances_2
    rw [if_neg (show ¬ (6 : Int32) ≤ nI i from nI_ge (b := 6) (by omega) (by omega)), wri_at (j := i) rfl (by omega) (by omega), nI_1]
    refine ih (i + 1) fu _ (by omega) (by omega) (fun y hy => ?_)
    by_cases e : y = i
    · rw [upd_eq e]; rfl
    · rw [upd_ne e]; exact h3 y (by omega)
theorem sp23 {p : Nat} (hp : p ≤ 10) {nc nf : Nat → Option Nat} (lc : ∀ x y, nc x = some y → y < 6) (lf : ∀ x y, nf x = some y → y < 6) {next fnext : Nat → Int32} (hnx : ∀ x, x < 6 → next x = encM (nc x)) (hfx : ∀ x, x < 6 → fnext x = encM (nf x)) {c : Nat → Nat} {chance : Nat → Int32} (hc : ∀ y, y < 6 → chance y = nI (c y)) (K : (Nat → Int32) → SO) : ∀ (r i fu : Nat) (g : Nat → Int32), i + r = 6 → r < fu → (∀ y, y < 6 → g y = nI (sm (fun j => c j * gq nc nf p j y) i)) → ∃ g', fX11_spreadChances_L23 (nI p) chance next fnext K fu (nI i) g = K g' ∧ ∀ y, y < 6 → g' y = nI (sm (fun j => c j * gq nc nf p j y) 6) := by
  intro r
  induction r with
  | zero =>
    intro i fu g h1 h2 h3
    obtain ⟨fu, rfl⟩ : ∃ g, fu = g + 1 := ⟨fu - 1, by omega⟩
    obtain rfl : i = 6 := by omega
    unfold fX11_spreadChances_L23 fX11_spreadChances_23
    rw [if_pos (show (6 : Int32) ≤ nI 6 by decide)]
    exact ⟨g, rfl, h3⟩
  | succ r ih =>
    intro i fu g h1 h2 h3
    have hi : i < 6 := by omega
    obtain ⟨fu, rfl⟩ : ∃ g, fu = g + 1 := ⟨fu - 1, by omega⟩
    have second : ∀ g1 : Nat → Int32, (∀ y, y < 6 → g1 y = nI (sm (fun j => c j * gq nc nf p j y) i + c i * (if nc i = some y then 10 - p else 0))) → ∃ g', fX11_spreadChances_75 (fX11_spreadChances_L23 (nI p) chance next fnext K fu) (nI p) (nI i) (encM (nf i)) chance g1 = K g' ∧ ∀ y, y < 6 → g' y = nI (sm (fun j => c j * gq nc nf p j y) 6) := by
      intro g1 hg1
      have third : ∀ g2 : Nat → Int32, (∀ y, y < 6 → g2 y = nI (sm (fun j => c j * gq nc nf p j y) i + c i * (if nc i = some y then 10 - p else 0) + c i * (if nf i = some y then p else 0))) → ∃ g', fX11_spreadChances_L23 (nI p) chance next fnext K fu (nI i + 1) g2 = K g' ∧ ∀ y, y < 6 → g' y = nI (sm (fun j => c j * gq nc nf p j y) 6) := by
        intro g2 hg2
        rw [nI_1]
        refine ih (i + 1) fu g2 (by omega) (by omega) (fun y hy => ?_)
        rw [hg2 y hy, Nat.add_assoc, ← Nat.mul_add]
        rfl
      unfold fX11_spreadChances_75 fX11_spreadChances_99
      cases e : nf i with
      | none =>
        rw [if_pos (show encM none = -1 from rfl)]
        refine third g1 (fun y hy => ?_)
        rw [hg1 y hy, e, if_neg (show ¬ (none : Option Nat) = some y from fun q => by cases q), Nat.mul_zero, Nat.add_zero]
      | some z =>
        have hz := lf i z e
        rw [show encM (some z) = nI z from rfl, if_neg (m1_ne (by omega)), rdi_at (j := z) rfl hz (by omega), rdi_at (j := i) rfl hi (by omega), wri_at (j := z) rfl hz (by omega), hc i hi, hg1 z hz, pk_mul, nI_add]
        refine third _ (fun y hy => ?_)
        rw [e]
        by_cases q : y = z
        · rw [upd_eq q, if_pos (show some z = some y by rw [q]), q]
        · rw [upd_ne q, hg1 y hy, if_neg (show ¬ some z = some y from fun w => q (by cases w; rfl)), Nat.mul_zero, Nat.add_zero]
    unfold fX11_spreadChances_L23 fX11_spreadChances_23
    rw [if_neg (show ¬ (6 : Int32) ≤ nI i from nI_ge (b := 6) (by omega) (by omega)), rdi_at (j := i) rfl hi (by omega), rdi_at (j := i) rfl hi (by omega), hnx i hi, hfx i hi]
    cases e : nc i with
    | none =>
      rw [if_pos (show encM none = -1 from rfl)]
      refine second g (fun y hy => ?_)
      rw [h3 y hy, e, if_neg (show ¬ (none : Option Nat) = some y from fun q => by cases q), Nat.mul_zero, Nat.add_zero]
    | some z =>
      have hz := lc i z e
      rw [show encM (some z) = nI z from rfl, if_neg (m1_ne (by omega)), rdi_at (j := z) rfl hz (by omega), rdi_at (j := i) rfl hi (by omega), wri_at (j := z) rfl hz (by omega), hc i hi, h3 z hz, show (10 : Int32) - nI p = nI (10 - p) from pk_sub hp, pk_mul, nI_add]
      refine second _ (fun y hy => ?_)
      rw [e]
      by_cases q : y = z
      · rw [upd_eq q, if_pos (show some z = some y by rw [q]), q]
      · rw [upd_ne q, h3 y hy, if_neg (show ¬ some z = some y from fun w => q (by cases w; rfl)), Nat.mul_zero, Nat.add_zero]
theorem spread_ok {N : Nat} (hN : 10 ≤ N) {p : Nat} (hp : p ≤ 10) {nc nf : Nat → Option Nat} (lc : ∀ x y, nc x = some y → y < 6) (lf : ∀ x y, nf x = some y → y < 6) {next fnext : Nat → Int32} (hnx : ∀ x, x < 6 → next x = encM (nc x)) (hfx : ∀ x, x < 6 → fnext x = encM (nf x)) {c : Nat → Nat} {chance : Nat → Int32} (hc : ∀ y, y < 6 → chance y = nI (c y)) (later : Nat → Int32) : ∃ g' l', fX11_spreadChances N (nI p) chance later next fnext = some (g', l') ∧ ∀ y, y < 6 → g' y = nI (sm (fun j => c j * gq nc nf p j y) 6) := by
  unfold fX11_spreadChances
  obtain ⟨g1, q1, q2⟩ := sp2 (fun m_a0_laterChancek2_21 => fX11_spreadChances_L23 (nI p) chance next fnext
      (fun m_a0_laterChancek23_105 => lti (va_cpy m_a0_laterChancek23_105 chance 0 0 6) fun g117 =>
  some (g117, m_a0_laterChancek23_105)) N (0 : Int32) m_a0_laterChancek2_21) 6 0 N later (by omega) (by omega) (fun y hy => absurd hy (Nat.not_lt_zero _))
  obtain ⟨g2, q3, q4⟩ := sp23 hp lc lf hnx hfx hc (fun m_a0_laterChancek23_105 => lti (va_cpy m_a0_laterChancek23_105 chance 0 0 6) fun g117 =>
  some (g117, m_a0_laterChancek23_105)) 6 0 N g1 (by omega) (by omega) q2
  exact ⟨_, _, q1.trans q3, fun y hy => (cpy_in hy).trans (q4 y hy)⟩
theorem oc118 {N : Nat} (hN : 10 ≤ N) {p n x0 : Nat} (hp : p ≤ 10) (hn : n ≤ 6) {nc nf : Nat → Option Nat} (lc : ∀ x y, nc x = some y → y < 6) (lf : ∀ x y, nf x = some y → y < 6) {next fnext : Nat → Int32} (hnx : ∀ x, x < 6 → next x = encM (nc x)) (hfx : ∀ x, x < 6 → fnext x = encM (nf x)) (K : Int32 → (Nat → Int32) → (Nat → Int32) → OC) : ∀ (r i fu : Nat) (chance later : Nat → Int32), i + r = n → r < fu → (∀ y, y < 6 → chance y = nI (ch nc nf p x0 i y)) → ∃ chance' later', fX11_odds_L118 N (nI p) (nI n) next fnext K fu (nI (10 ^ i)) (nI i) chance later = K (nI (10 ^ n)) chance' later' ∧ ∀ y, y < 6 → chance' y = nI (ch nc nf p x0 n y) := by
  intro r
  induction r with
  | zero =>
    intro i fu chance later h1 h2 h3
    obtain ⟨fu, rfl⟩ : ∃ g, fu = g + 1 := ⟨fu - 1, by omega⟩
    obtain rfl : i = n := by omega
    unfold fX11_odds_L118 fX11_odds_118
    rw [if_pos (nI_le (Nat.le_refl _) (by omega))]
    exact ⟨chance, later, rfl, h3⟩
  | succ r ih =>
    intro i fu chance later h1 h2 h3
    obtain ⟨fu, rfl⟩ : ∃ g, fu = g + 1 := ⟨fu - 1, by omega⟩
    obtain ⟨g', l', q1, q2⟩ := spread_ok hN hp lc lf hnx hfx h3 later
    unfold fX11_odds_L118 fX11_odds_118
    rw [if_neg (nI_ge (by omega) (by omega)), q1, ob_some, lti_eq, nI_1, show nI (10 ^ i) * (10 : Int32) = nI (10 ^ (i + 1)) from pk_mul _ _]
    exact ih (i + 1) fu g' l' (by omega) (by omega) q2
theorem dvi_nz {O : Type} {y : Int32} {k : Option O} (h : ¬ y = 0) : dvi y k = k := if_neg h
theorem enX_M (h : Nat → Nat) (n : Nat) : enX h n = encM (nx h n) := rfl
theorem sim_odds {N : Nat} (hN : 2000 ≤ N) : Sim_odds N Inv := by
  intro d m a1 a2 a3 a4 hI
  obtain ⟨hT, hK, hB, v, hV, hS, hP, hIm, hH⟩ := id hI
  have hV' := hV
  obtain ⟨hOk, n1, n2, -⟩ := hV'
  have hn := hOk.1
  obtain ⟨a, hA, hC, hF⟩ := hS
  unfold fX11_odds fX12_odds fX11_odds_38 fX12_odds_43 fX11_odds_185 fX12_odds_210
  rcases vil hn a1 n2 with ⟨e1, e2, y, hy, rfl⟩ | ⟨e1, e2, -⟩
  · rw [← n1] at e2
    rcases rngL a2 10 10 rfl (by omega) with ⟨e3, e4, p, hp, rfl⟩ | ⟨e3, e4, -⟩
    · rcases rngL a3 6 6 rfl (by omega) with ⟨e5, e6, n, hn6, rfl⟩ | ⟨e5, e6, -⟩
      · rcases rngL a4 1 1 rfl (by omega) with ⟨e7, e8, g, hg, rfl⟩ | ⟨e7, e8, -⟩
        · have h0 : vN v ≠ 0 := by omega
          have hy6 : y < 6 := by omega
          have hP' : aP a < 6 := by rcases hA.2.2.1 with h | h <;> omega
          obtain ⟨D, gap', hear', next', slow', q1, q2⟩ := lay_G (N := N) (by omega) hV hA hC (G := 0) (by omega) ((dC d).2.2.2.2.2.2.2.2.1) ((dC d).2.2.2.2.2.2.2.2.2.1) ((dC d).2.2.2.2.2.2.2.2.2.2.2.2.1) ((dC d).2.2.2.2.2.2.2.2.2.2.2.2.2)
          obtain ⟨D2, gap2, hear2, next2, slow2, q3, q4⟩ := lay_G (N := N) (by omega) hV hA hC (G := 1) (by omega) ((dC2 d).2.2.2.2.2.2.2.2.1) ((dC2 d).2.2.2.2.2.2.2.2.2.1) ((dC2 d).2.2.2.2.2.2.2.2.2.2.2.2.1) ((dC2 d).2.2.2.2.2.2.2.2.2.2.2.2.2)
          have lc : ∀ x z, nx (Hn (vW v) (vR v) (setG a 0) x) (vN v) = some z → z < 6 := fun x z e => by
            have := (nx_lt e).1
            omega
          have lf : ∀ x z, nx (Hn (vW v) (vR v) (setG a 1) x) (vN v) = some z → z < 6 := fun x z e => by
            have := (nx_lt e).1
            omega
          have hCp : (dS d).2.2.1 = nI (aP a) := hC.2.2.1
          have hb := ch_b (p := p) hP' lc lf hp hn6 y
          have hup := up_eq (p := p) hP' lc lf n y
          have h10 : (10 : Nat) ^ n ≤ 10 ^ 6 := Nat.pow_le_pow_right (by omega) hn6
          have h10p : 0 < (10 : Nat) ^ n := Nat.pow_pos (by omega)
          obtain ⟨gc, g1, g2, g3, g4⟩ := gcdL (fun l2k7_34 => some l2k7_34) (fun l2k4_21 => some l2k4_21) 20 (ch (fun x => nx (Hn (vW v) (vR v) (setG a 0) x) (vN v)) (fun x => nx (Hn (vW v) (vR v) (setG a 1) x) (vN v)) p (aP a) n y) (10 ^ n) 0 N N (by omega) (by omega) (by omega) (by omega) (by omega) (by omega)
          have hg0 : ¬ nI gc = 0 := nI_ne0 (by omega) g2
          rw [show nI 0 = (0 : Int32) from rfl] at g3
          have hcd : fX11_commonDivisor N (nI (ch (fun x => nx (Hn (vW v) (vR v) (setG a 0) x) (vN v)) (fun x => nx (Hn (vW v) (vR v) (setG a 1) x) (vN v)) p (aP a) n y)) (nI (10 ^ n)) = some (nI gc) := g3
          have hgc : fX12_gcd N (nI (ch (fun x => nx (Hn (vW v) (vR v) (setG a 0) x) (vN v)) (fun x => nx (Hn (vW v) (vR v) (setG a 1) x) (vN v)) p (aP a) n y)) (nI (10 ^ n)) = some (nI gc) := g4
          have hpw : fX12_power N (10 : Int32) (nI n) = some (nI (10 ^ n)) := powF hn6 (fun l => some l) n 0 N (by omega) (by omega)
          rw [e1, e2, e3, e4, e5, e6, e7, e8]
          simp only [ob_some, if_neg ne10]
          rw [show fX0_lay N (0 : Int32) = fX0_lay N (nI 0) from rfl, show fX0_lay N (1 : Int32) = fX0_lay N (nI 1) from rfl, q1, q3, ob_some, ob_some, hCp]
          simp only
          obtain ⟨w', r2⟩ := of51 (N := N) (by omega) (mkRW hV) h0 hp hn6 hP' hy6 (nc := fun x => nx (Hn (vW v) (vR v) (setG a 0) x) (vN v)) (nf := fun x => nx (Hn (vW v) (vR v) (setG a 1) x) (vN v)) (fun _ => rfl) (fun _ => rfl) (mkWk hA hF) (fun l5k51_175 m_a0_wk51_175 => Option.bind (fX12_power N (10 : Int32) (nI n)) fun o178 =>
  Option.bind (fX12_gcd N l5k51_175 o178) fun o187 =>
  if nI g = 0 then (dvi o187 <| 
  some (l5k51_175 / o187, (0 : Int32), m_a0_wk51_175))
  else (dvi o187 <| 
  some (o178 / o187, (0 : Int32), m_a0_wk51_175))) (2 ^ n) 0 N (m_w m) (by omega) (by
            have : 2 ^ n ≤ 2 ^ 6 := Nat.pow_le_pow_right (by omega) hn6
            omega)
          rw [hup] at r2
          obtain ⟨c1, s1, s2⟩ := oc75 hP' (fun m_a0_chancek75_112 => fX11_odds_L118 N (nI p) (nI n) next' next2
      (fun l5k118_142 m_a0_chancek118_142 m_a0_laterChancek118_142 => rdi 6 m_a0_chancek118_142 (nI y) fun x147 =>
  Option.bind (fX11_commonDivisor N x147 l5k118_142) fun o154 =>
  if o154 = 0 then (some ((-9 : Int32), m_a0_chancek118_142, nI (vN v), nI D, nI (vN v), nI D2, m_a0_laterChancek118_142, gap', hear', next', slow', gap2, hear2, next2, slow2))
  else (if nI g = 0 then (dvi o154 <| 
  some (x147 / o154, m_a0_chancek118_142, nI (vN v), nI D, nI (vN v), nI D2, m_a0_laterChancek118_142, gap', hear', next', slow', gap2, hear2, next2, slow2))
  else (dvi o154 <| 
  some (l5k118_142 / o154, m_a0_chancek118_142, nI (vN v), nI D, nI (vN v), nI D2, m_a0_laterChancek118_142, gap', hear', next', slow', gap2, hear2, next2, slow2)))) N (1 : Int32) (0 : Int32) m_a0_chancek75_112 (dLC d)) 6 0 N (dCh d) (by omega) (by omega) (fun y hy => absurd hy (Nat.not_lt_zero _))
          obtain ⟨c2, l2, s3, s4⟩ := oc118 (N := N) (by omega) (x0 := aP a) hp hn6 (nc := fun x => nx (Hn (vW v) (vR v) (setG a 0) x) (vN v)) (nf := fun x => nx (Hn (vW v) (vR v) (setG a 1) x) (vN v)) lc lf (fun x hx => (q2 x hx).1) (fun x hx => (q4 x hx).1) (fun l5k118_142 m_a0_chancek118_142 m_a0_laterChancek118_142 => rdi 6 m_a0_chancek118_142 (nI y) fun x147 =>
  Option.bind (fX11_commonDivisor N x147 l5k118_142) fun o154 =>
  if o154 = 0 then (some ((-9 : Int32), m_a0_chancek118_142, nI (vN v), nI D, nI (vN v), nI D2, m_a0_laterChancek118_142, gap', hear', next', slow', gap2, hear2, next2, slow2))
  else (if nI g = 0 then (dvi o154 <| 
  some (x147 / o154, m_a0_chancek118_142, nI (vN v), nI D, nI (vN v), nI D2, m_a0_laterChancek118_142, gap', hear', next', slow', gap2, hear2, next2, slow2))
  else (dvi o154 <| 
  some (l5k118_142 / o154, m_a0_chancek118_142, nI (vN v), nI D, nI (vN v), nI D2, m_a0_laterChancek118_142, gap', hear', next', slow', gap2, hear2, next2, slow2)))) n 0 N c1 (dLC d) (by omega) (by omega) s2
          by_cases hz : nI g = 0
          · have r3 := r2.trans (show _ = some (nI (ch (fun x => nx (Hn (vW v) (vR v) (setG a 0) x) (vN v)) (fun x => nx (Hn (vW v) (vR v) (setG a 1) x) (vN v)) p (aP a) n y) / nI gc, (0 : Int32), w') by
              simp only [hpw, ob_some, hgc, dvi_nz hg0, if_pos hz])
            have s5 := (s1.trans s3).trans (show _ = some (nI (ch (fun x => nx (Hn (vW v) (vR v) (setG a 0) x) (vN v)) (fun x => nx (Hn (vW v) (vR v) (setG a 1) x) (vN v)) p (aP a) n y) / nI gc, c2, nI (vN v), nI D, nI (vN v), nI D2, l2, gap', hear', next', slow', gap2, hear2, next2, slow2) by
              simp only [rdi_at (j := y) rfl hy6 (by omega : (6 : Nat) < 2 ^ 31), s4 y hy6, hcd, ob_some, if_neg hg0, dvi_nz hg0, if_pos hz])
            generalize nI (ch (fun x => nx (Hn (vW v) (vR v) (setG a 0) x) (vN v)) (fun x => nx (Hn (vW v) (vR v) (setG a 1) x) (vN v)) p (aP a) n y) / nI gc = Z at r3 s5
            exact ⟨_, _, s5, r3, rfl, hI⟩
          · have r3 := r2.trans (show _ = some (nI (10 ^ n) / nI gc, (0 : Int32), w') by
              simp only [hpw, ob_some, hgc, dvi_nz hg0, if_neg hz])
            have s5 := (s1.trans s3).trans (show _ = some (nI (10 ^ n) / nI gc, c2, nI (vN v), nI D, nI (vN v), nI D2, l2, gap', hear', next', slow', gap2, hear2, next2, slow2) by
              simp only [rdi_at (j := y) rfl hy6 (by omega : (6 : Nat) < 2 ^ 31), s4 y hy6, hcd, ob_some, if_neg hg0, dvi_nz hg0, if_neg hz])
            generalize nI (10 ^ n) / nI gc = Z at r3 s5
            exact ⟨_, _, s5, r3, rfl, hI⟩
        · rw [e1, e2, e3, e4, e5, e6, e7, e8]
          simp only [ob_some, if_neg ne10, if_true]
          exact ⟨_, _, rfl, rfl, rfl, hI⟩
      · rw [e1, e2, e3, e4, e5, e6]
        simp only [ob_some, if_neg ne10, if_true]
        exact ⟨_, _, rfl, rfl, rfl, hI⟩
    · rw [e1, e2, e3, e4]
      simp only [ob_some, if_neg ne10, if_true]
      exact ⟨_, _, rfl, rfl, rfl, hI⟩
  · rw [← n1] at e2
    rw [e1, e2]
    simp only [ob_some, if_true]
    exact ⟨_, _, rfl, rfl, rfl, hI⟩
