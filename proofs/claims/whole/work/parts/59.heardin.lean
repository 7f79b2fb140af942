/-! ===== pure: what is heard in a time ===== -/
def encM (o : Option Nat) : Int32 := match o with
  | none => -1
  | some y => nI y
def hcn (H : Nat → Nat → Nat) (S : Nat → Nat) (n T y : Nat) : Nat → Option Nat → Nat → Nat → Nat
  | 0, _, _, c => c
  | _ + 1, none, _, c => c
  | k + 1, some x, b, c => if T < b then c else hcn H S n T y k (nx (H x) n) (b + gp (H x) S n) (if H x y = 0 ∨ T < b + H x y then c else c + 1)
theorem hcn_none {H : Nat → Nat → Nat} {S : Nat → Nat} {n T y k b c : Nat} : hcn H S n T y k none b c = c := by cases k <;> rfl
theorem gp_b {h S : Nat → Nat} {n y : Nat} (hb : ∀ y, h y ≤ 20) (hS : ∀ y, y < 6 → S y ≤ 9) (hn : n ≤ 6) (e : nx h n = some y) : 1 ≤ gp h S n ∧ gp h S n ≤ 29 := by
  obtain ⟨y1, y2, y3, y4⟩ := nx_lt e
  unfold gp
  rw [← y2, ← y3]
  have := hb y
  have := hS y (by omega)
  omega
theorem hcC {n T y : Nat} (hn : n ≤ 6) (hy : y < 6) (hT : T ≤ 200) {H : Nat → Nat → Nat} {S : Nat → Nat} {gap hear next : Nat → Int32} (hc : CN n S H gap next) (hh : CH H hear) (hb : ∀ x y, H x y ≤ 20) (hS : ∀ y, y < 6 → S y ≤ 9) (K : Int32 → Option (Int32 × Int32 × Int32 × (Nat → Int32) × (Nat → Int32) × (Nat → Int32) × (Nat → Int32))) : ∀ (i k fu x b c : Nat), 201 - k = i → k ≤ 201 → i + 2 < fu → x < 6 → k ≤ b → b ≤ 29 * k → fX11_heardIn_L42 (nI y) (nI T) gap hear next K fu (nI c) (nI x) (nI b) (nI k) = K (nI (hcn H S n T y (i + 1) (some x) b c)) := by
  intro i
  induction i with
  | zero =>
    intro k fu x b c h1 h2 h3 hx h4 h5
    have hk : k = 201 := by omega
    subst hk
    obtain ⟨fu, rfl⟩ : ∃ g, fu = g + 1 := ⟨fu - 1, by omega⟩
    unfold fX11_heardIn_L42 fX11_heardIn_42 hcn
    rw [if_pos (show (200 : Int32) < nI 201 by decide), if_pos (show T < b by omega)]
  | succ i ih =>
    intro k fu x b c h1 h2 h3 hx h4 h5
    obtain ⟨fu, rfl⟩ : ∃ g, fu = g + 1 := ⟨fu - 1, by omega⟩
    obtain ⟨c1, c2⟩ := hc x hx
    have e0 : nI x * (6 : Int32) + nI y = nI (6 * x + y) := by simp only [litI, pk_mul, nI_add]; congr 1; omega
    have hL := hb x y
    unfold fX11_heardIn_L42 fX11_heardIn_42 hcn fX11_heardIn_91 fX0_beatsTo
    rw [if_neg (show ¬ (200 : Int32) < nI k from nI_nlt (a := 200) (b := k) (by omega) (by omega)), if_neg (m1_ne (by omega))]
    by_cases h6 : T < b
    · rw [if_pos (nI_lt h6 (by omega)), if_pos h6]
    · rw [if_neg (nI_nlt (by omega) (by omega)), if_neg h6, e0, rdi_at (j := 6 * x + y) rfl (by omega) (by omega), hh x y hx hy, ob_some]
      simp only [rdi_at (j := x) rfl hx (by omega : (6 : Nat) < 2 ^ 31), c1, c2, lti_eq, nI_1, nI_add]
      have main : ∀ c' : Nat, fX11_heardIn_L42 (nI y) (nI T) gap hear next K fu (nI c') (enX (H x) n) (nI b + enG (H x) S n) (nI (k + 1)) = K (nI (hcn H S n T y (i + 1) (nx (H x) n) (b + gp (H x) S n) c')) := by
        intro c'
        cases e : nx (H x) n with
        | none =>
          obtain ⟨fu, rfl⟩ : ∃ g, fu = g + 1 := ⟨fu - 1, by omega⟩
          rw [hcn_none, enX_none e]
          unfold fX11_heardIn_L42 fX11_heardIn_42
          rw [if_pos rfl, ite_self]
        | some z =>
          obtain ⟨z1, -, -, -⟩ := nx_lt e
          obtain ⟨g1, g2⟩ := gp_b (hb x) hS hn e
          rw [enX_some e, enG_some e, nI_add]
          exact ih (k + 1) fu z _ c' (by omega) (by omega) (by omega) (by omega) (by omega) (by omega)
      by_cases h7 : H x y = 0
      · rw [if_pos (show nI (H x y) ≤ (0 : Int32) by rw [h7]; decide), if_pos (Or.inl h7)]
        exact main c
      · rw [if_neg (show ¬ nI (H x y) ≤ (0 : Int32) from nI_nle (by omega) (by omega))]
        by_cases h8 : T < b + H x y
        · rw [if_pos (nI_lt h8 (by omega)), if_pos (Or.inr h8)]
          exact main c
        · rw [if_neg (nI_nlt (by omega) (by omega)), if_neg (fun q => q.elim h7 h8)]
          exact main (c + 1)
theorem hcF {N : Nat} (hN : 10 ≤ N) {n R T y B : Nat} {W : Nat → Nat → Nat} {len many : Nat → Int32} {a : AN} (hv : RW n R W len many) (hx0 : n ≠ 0) (hy : y < 6) (hT : T ≤ 200) (hB : B < 1000000) (hS : ∀ y, y < 6 → aS a y ≤ 9) (K : Int32 → (Nat → Int32) → Option (Int32 × Int32 × (Nat → Int32))) : ∀ (i k fu x b c : Nat) (f : Nat → Int32), 201 - k = i → k ≤ 201 → i + 2 < fu → x < 6 → k ≤ b → b ≤ 29 * k → Wk n a f x (B + b) → ∃ f', fX12_heardIn_L45 N (nI y) (nI (B + T)) len many K fu (nI c) 1 f = K (nI (hcn (Hn W R a) (aS a) n T y (i + 1) (some x) b c)) f' := by
  have hn : n ≤ 6 := hv.1
  intro i
  induction i with
  | zero =>
    intro k fu x b c f h1 h2 h3 hx h4 h5 hf
    have hk : k = 201 := by omega
    subst hk
    obtain ⟨fu, rfl⟩ : ∃ g, fu = g + 1 := ⟨fu - 1, by omega⟩
    unfold fX12_heardIn_L45 fX12_heardIn_45 hcn
    rw [if_neg ne10, hf.2.2.2, if_pos (nI_lt (show B + T < B + b by omega) (by omega)), if_pos (show T < b by omega)]
    exact ⟨f, rfl⟩
  | succ i ih =>
    intro k fu x b c f h1 h2 h3 hx h4 h5 hf
    obtain ⟨fu, rfl⟩ : ∃ g, fu = g + 1 := ⟨fu - 1, by omega⟩
    have hbb : ∀ x y, Hn W R a x y ≤ 20 := fun x y => Hn_le (fun k h => (hf.1.2.2.2.2.2.2 k h).2.2.2.2) hv.2.2.1
    have hL := hbb x y
    unfold fX12_heardIn_L45 fX12_heardIn_45 hcn fX12_heardIn_103 fX12_heardIn_104
    rw [if_neg ne10, hf.2.2.2, hf.2.2.1]
    by_cases h6 : T < b
    · rw [if_pos (nI_lt (show B + T < B + b by omega) (by omega)), if_pos h6]
      exact ⟨f, rfl⟩
    · rw [if_neg (nI_nlt (show B + b ≤ B + T by omega) (by omega)), if_neg h6, hearsIn_ok hN hv hf.1 hx hy, ob_some]
      have main : ∀ c' : Nat, ∃ f', (Option.bind (fX12_goes N len many f) fun o112 => fX12_heardIn_L45 N (nI y) (nI (B + T)) len many K fu (nI c') o112.1 o112.2) = K (nI (hcn (Hn W R a) (aS a) n T y (i + 1) (nx (Hn W R a x) n) (b + gp (Hn W R a x) (aS a) n) c')) f' := by
        intro c'
        rcases go hN hv hf hx hx0 with ⟨e1, e2⟩ | ⟨z, f', e1, z1, e2, e3⟩
        · obtain ⟨fu, rfl⟩ : ∃ g, fu = g + 1 := ⟨fu - 1, by omega⟩
          rw [e1, e2, ob_some, hcn_none]
          unfold fX12_heardIn_L45 fX12_heardIn_45
          rw [if_pos rfl]
          exact ⟨f, rfl⟩
        · obtain ⟨g1, g2⟩ := gp_b (hbb x) hS hn e1
          rw [e1, e2, ob_some]
          rw [Nat.add_assoc] at e3
          exact ih (k + 1) fu z _ c' f' (by omega) (by omega) (by omega) (by omega) (by omega) (by omega) e3
      simp only [lti_eq, show nI c + (0 : Int32) = nI c from nI_add c 0, nI_1]
      by_cases h7 : Hn W R a x y = 0
      · rw [h7, enc0, if_pos rfl, if_pos (show (0 : Nat) = 0 ∨ T < b + 0 from Or.inl rfl)]
        exact main c
      · rw [encP h7, if_neg (m9_ne (by omega)), nI_add]
        by_cases h8 : T < b + Hn W R a x y
        · rw [if_pos (nI_lt (show B + T < B + b + Hn W R a x y by omega) (by omega)), if_pos (Or.inr h8)]
          exact main c
        · rw [if_neg (nI_nlt (show B + b + Hn W R a x y ≤ B + T by omega) (by omega)), if_neg (fun q => q.elim h7 h8)]
          exact main (c + 1)
theorem sim_heardIn {N : Nat} (hN : 400 ≤ N) : Sim_heardIn N Inv := by
  intro d m a1 a2 hI
  obtain ⟨hT, hK, hB, v, hV, hS, hP, hIm, hH⟩ := id hI
  have hV' := hV
  obtain ⟨hOk, n1, n2, -⟩ := hV'
  have hn := hOk.1
  obtain ⟨a, hA, hC, hF⟩ := hS
  unfold fX11_heardIn fX12_heardIn fX11_heardIn_19 fX12_heardIn_24
  rcases vil hn a1 n2 with ⟨e1, e2, y, hy, rfl⟩ | ⟨e1, e2, -⟩
  · rw [← n1] at e2
    rcases rngLM a2 1 200 1 200 rfl rfl (by omega) (by omega) with ⟨e3, e4, T, hT1, hT2, rfl⟩ | ⟨e3, e4, -⟩
    · obtain ⟨w, w1, w2⟩ := asNow_ok hN (m_s m) (m_w m)
      have h0 : vN v ≠ 0 := by omega
      obtain ⟨D, gap', hear', next', slow', hD, hB', q1, q2, q3, q4⟩ := now_lay (N := N) (by omega) hV hA hC ((dC d).2.2.2.2.2.2.2.2.1) ((dC d).2.2.2.2.2.2.2.2.2.1) ((dC d).2.2.2.2.2.2.2.2.2.2.2.2.1) ((dC d).2.2.2.2.2.2.2.2.2.2.2.2.2)
      have hP' : aP a < 6 := by rcases hA.2.2.1 with h | h <;> omega
      have hw := mkWk hA (hF.congr hA.2.2.2.2.1 w2)
      have hb : ∀ x y, Hn (vW v) (vR v) a x y ≤ 20 := fun x y => Hn_le (fun k h => (hA.2.2.2.2.2.2.1 k h).2.2.2.2) hOk.2.2.1
      have hCp : (dS d).2.2.1 = nI (aP a) := hC.2.2.1
      have hBd : aB a < 1000000 := by
        have h1 := hA.1
        have h2 := hA.2.1
        omega
      rw [e1, e2, e3, e4]
      simp only [ob_some, if_neg ne10]
      rw [w1, q1, ob_some, ob_some, lti_eq, hF.2.1, nI_add, hCp]
      have r1 := hcC hn (show y < 6 by omega) hT2 q3 q2 hb hA.2.2.2.2.2.1 (fun l3k42_124 => some (l3k42_124, nI (vN v), nI D, gap', hear', next', slow')) 201 0 N (aP a) 0 0 (by omega) (by omega) (by omega) hP' (by omega) (by omega)
      obtain ⟨f', r2⟩ := hcF (N := N) (by omega) (mkRW hV) h0 (show y < 6 by omega) hT2 hBd hA.2.2.2.2.2.1 (fun l4k45_120 m_a0_wk45_120 => some (l4k45_120, 0, m_a0_wk45_120)) 201 0 N (aP a) 0 0 w (by omega) (by omega) (by omega) hP' (by omega) (by omega) hw
      exact ⟨_, _, r1, r2, rfl, hI⟩
    · rw [e1, e2, e3, e4]
      simp only [ob_some, if_neg ne10, if_true]
      exact ⟨_, _, rfl, rfl, rfl, hI⟩
  · rw [← n1] at e2
    rw [e1, e2]
    simp only [ob_some, if_true]
    exact ⟨_, _, rfl, rfl, rfl, hI⟩
