/-! ===== pure: one stroke and many ===== -/
theorem asNow_cp {s : Nat → Int32} {K : (Nat → Int32) → Option (Nat → Int32)} : ∀ (r i : Nat) (g : Nat → Int32) (n : Nat), i + r = 35 → r < n → fX12_asNow_L2 s K n (nI i) g = K (fun j => if i ≤ j ∧ j < 35 then s j else g j) := by
  intro r
  induction r with
  | zero =>
    intro i g n hi hn
    obtain ⟨n, rfl⟩ : ∃ k, n = k + 1 := ⟨n - 1, by omega⟩
    obtain rfl : i = 35 := by omega
    unfold fX12_asNow_L2 fX12_asNow_2
    rw [if_pos (show (35 : Int32) ≤ nI 35 by decide)]
    congr 1
    funext j
    rw [if_neg (by omega)]
  | succ r ih =>
    intro i g n hi hn
    obtain ⟨n, rfl⟩ : ∃ k, n = k + 1 := ⟨n - 1, by omega⟩
    unfold fX12_asNow_L2 fX12_asNow_2
    rw [if_neg (show ¬ (35 : Int32) ≤ nI i from nI_ge (a := i) (b := 35) (by omega) (by omega))]
    rw [rdi_at (j := i) rfl (by omega) (by omega), wri_at (j := i) rfl (by omega) (by omega)]
    rw [show nI i + 1 = nI (i + 1) from nI_1 i, ih (i + 1) _ n (by omega) (by omega)]
    congr 1
    funext j
    rw [upd_at]
    by_cases h1 : j = i
    · rw [if_neg (by omega), if_pos h1, if_pos (by omega), h1]
    · rw [if_neg h1]
      by_cases h2 : i + 1 ≤ j ∧ j < 35
      · rw [if_pos h2, if_pos (by omega)]
      · rw [if_neg h2, if_neg (by omega)]
theorem strikes_cp {s : Nat → Int32} {K : (Nat → Int32) → Option (Int32 × Int32 × Int32 × (Nat → Int32) × (Nat → Int32) × (Nat → Int32))} : ∀ (r i : Nat) (g : Nat → Int32) (n : Nat), i + r = 35 → r < n → fX12_strikes_L41 s K n (nI i) g = K (fun j => if i ≤ j ∧ j < 35 then s j else g j) := by
  intro r
  induction r with
  | zero =>
    intro i g n hi hn
    obtain ⟨n, rfl⟩ : ∃ k, n = k + 1 := ⟨n - 1, by omega⟩
    obtain rfl : i = 35 := by omega
    unfold fX12_strikes_L41 fX12_strikes_41
    rw [if_pos (show (35 : Int32) ≤ nI 35 by decide)]
    congr 1
    funext j
    rw [if_neg (by omega)]
  | succ r ih =>
    intro i g n hi hn
    obtain ⟨n, rfl⟩ : ∃ k, n = k + 1 := ⟨n - 1, by omega⟩
    unfold fX12_strikes_L41 fX12_strikes_41
    rw [if_neg (show ¬ (35 : Int32) ≤ nI i from nI_ge (a := i) (b := 35) (by omega) (by omega))]
    rw [rdi_at (j := i) rfl (by omega) (by omega), wri_at (j := i) rfl (by omega) (by omega)]
    rw [show nI i + 1 = nI (i + 1) from nI_1 i, ih (i + 1) _ n (by omega) (by omega)]
    congr 1
    funext j
    rw [upd_at]
    by_cases h1 : j = i
    · rw [if_neg (by omega), if_pos h1, if_pos (by omega), h1]
    · rw [if_neg h1]
      by_cases h2 : i + 1 ≤ j ∧ j < 35
      · rw [if_pos h2, if_pos (by omega)]
      · rw [if_neg h2, if_neg (by omega)]
theorem asNow_ok {N : Nat} (hN : 400 ≤ N) (s w : Nat → Int32) : ∃ w', fX12_asNow N s w = some w' ∧ ∀ j, j < 35 → w' j = s j :=
  ⟨_, asNow_cp (K := fun w => some w) 35 0 w N (by omega) (by omega), fun j hj => if_pos ⟨Nat.zero_le _, hj⟩⟩
theorem mkRW {d : DS} {m : MS} {v : AV} (h : InvV d m v) : RW (vN v) (vR v) (vW v) (m_lengths m) (m_many m) := by
  obtain ⟨⟨o1, o2, o3, o4, o5, o6, o7, o8, o9⟩, n1, n2, n3, n4, n5, n6, n7, n8, n9⟩ := h
  exact ⟨o1, o2, o3, o5, o6, o7, n2, n4, n8⟩
theorem mkRH {n : Nat} {f : Nat → Int32} {a : AN} (h : OkA n a) (hf : RF f a) : RH n f a := by
  obtain ⟨o1, o2, o3, o4, o5, o6, o7, o8, o9⟩ := h
  obtain ⟨f1, f2, f3, f4, f5, f6, f7, f8, f9⟩ := hf
  exact ⟨f4, o4, f6, f7, by omega, f8, o7⟩
/-- a copy under way: at x, at the beat b -/
def Wk (n : Nat) (a : AN) (f : Nat → Int32) (x b : Nat) : Prop := RH n f a ∧ (∀ y, y < 6 → f (4 + y) = nI (aS a y)) ∧ f 2 = nI x ∧ f 1 = nI b
theorem mkWk {n : Nat} {f : Nat → Int32} {a : AN} (h : OkA n a) (hf : RF f a) : Wk n a f (aP a) (aB a) := by
  have h1 := mkRH h hf
  obtain ⟨f1, f2, f3, f4, f5, f6, f7, f8, f9⟩ := hf
  exact ⟨h1, f5, f3, f2⟩
theorem go {N : Nat} (hN : 10 ≤ N) {n R : Nat} {W : Nat → Nat → Nat} {len many f : Nat → Int32} {a : AN} {x b : Nat} (hv : RW n R W len many) (hf : Wk n a f x b) (hx : x < 6) (hx0 : n ≠ 0) : (nx (Hn W R a x) n = none ∧ fX12_goes N len many f = some (0, f)) ∨ (∃ y f', nx (Hn W R a x) n = some y ∧ y < n ∧ fX12_goes N len many f = some (1, f') ∧ Wk n a f' y (b + gp (Hn W R a x) (aS a) n)) := by
  obtain ⟨h1, h2, h3, h4⟩ := hf
  have hn : n ≤ 6 := hv.1
  have e := goes_ok hN hv h1 (S := aS a) (fun y hy => h2 y (by omega)) hx h3 hx0
  cases q : nx (Hn W R a x) n with
  | none =>
    rw [q] at e
    exact Or.inl ⟨rfl, e⟩
  | some y =>
    rw [q] at e
    obtain ⟨y1, -, -, -⟩ := nx_lt q
    have hy : y < 6 := by omega
    obtain ⟨s1, s2, s3, s4, s5⟩ := stp_at (f := f) (g := gp (Hn W R a x) (aS a) n) hy
    exact Or.inr ⟨y, _, rfl, y1, e, stp_keep hy h1, fun j hj => (s4 j hj).trans (h2 j hj), s3, by rw [s2, h4, nI_add]⟩
theorem now_lay {N : Nat} (hN : 10 ≤ N) {d : DS} {m : MS} {v : AV} {a : AN} (hV : InvV d m v) (hA : OkA (vN v) a) (hC : RC (dS d) a) (gap hear next slow : Nat → Int32) : ∃ D gap' hear' next' slow', D < 64 ∧ (∀ y, y < 6 → D.testBit y = aD a y) ∧ fX11_layAsNow N ((dS d).2.2.2.1) ((dS d).2.2.2.2.1) ((dS d).2.2.2.2.2.1) ((dV d).1) ((dV d).2.2.1) gap hear next slow ((dS d).2.2.2.2.2.2.1) ((dS d).2.2.2.2.2.2.2.1) ((dS d).2.2.2.2.2.2.2.2.1) ((dS d).2.2.2.2.2.2.2.2.2.1) ((dV d).2.2.2.2.2.2.2) = some (nI (vN v), nI D, gap', hear', next', slow') ∧ CH (Hn (vW v) (vR v) a) hear' ∧ CN (vN v) (aS a) (Hn (vW v) (vR v) a) gap' next' ∧ ∀ y, y < vN v → slow' y = nI (aS a y) := by
  obtain ⟨⟨o1, o2, o3, o4, o5, o6, o7, o8, o9⟩, n1, n2, n3, n4, n5, n6, n7, n8, n9⟩ := hV
  obtain ⟨b1, b2, b3, b4, b5, b6, b7, b8, b9⟩ := hA
  obtain ⟨c1, c2, c3, c4, ⟨D, hD, c5, hB⟩, c6, c7, c8, c9⟩ := hC
  obtain ⟨gap', hear', next', slow', q1, q2, q3, q4⟩ := lay_ok hN (W := vW v) (R := vR v) (G := aG a) (D := D) (M := aM a) (n := vN v) (B := aD a) (F := aF a) (T := aT a) (L := aL a) (S := aS a) (mb := (dS d).2.2.2.2.2.2.1) (mf := (dS d).2.2.2.2.2.2.2.1) (mt := (dS d).2.2.2.2.2.2.2.2.1) (sl := (dS d).2.2.2.2.2.2.2.2.2.1) (ways := (dV d).2.2.2.2.2.2.2) o1 o7 o3 b4 hD hB n7 b5 (fun k hk => ⟨(b7 k hk).1, (b7 k hk).2.1, (b7 k hk).2.2.2.2⟩) c7 (fun y hy => c8 y (by omega)) gap hear next slow
  refine ⟨D, gap', hear', next', slow', hD, hB, ?_, q2, q3, q4⟩
  unfold fX11_layAsNow
  rw [c4, c5, c6, n1, n3, q1]
  rfl
theorem sim_hears {N : Nat} (hN : 400 ≤ N) : Sim_hears N Inv := by
  intro d m a1 a2 hI
  obtain ⟨hT, hK, hB, v, hV, hS, hP, hIm, hH⟩ := id hI
  have hV' := hV
  obtain ⟨hOk, n1, n2, -⟩ := hV'
  have hn := hOk.1
  obtain ⟨a, hA, hC, hF⟩ := hS
  unfold fX11_hears fX12_hears fX11_hears_16 fX12_hears_34 fX12_hears_35 fX11_hears_42
  rcases vil hn a1 n2 with ⟨e1, e2, y, hy, rfl⟩ | ⟨e1, e2, -⟩
  · rw [← n1] at e2
    rcases vil hn a2 n2 with ⟨e3, e4, x, hx, rfl⟩ | ⟨e3, e4, -⟩
    · rw [← n1] at e4
      obtain ⟨D, gap', hear', next', slow', hD, hB', q1, q2, q3, q4⟩ := now_lay (N := N) (by omega) hV hA hC ((dC d).2.2.2.2.2.2.2.2.1) ((dC d).2.2.2.2.2.2.2.2.2.1) ((dC d).2.2.2.2.2.2.2.2.2.2.2.2.1) ((dC d).2.2.2.2.2.2.2.2.2.2.2.2.2)
      have e0 : nI x * (6 : Int32) + nI y = nI (6 * x + y) := by simp only [litI, pk_mul, nI_add]; congr 1; omega
      have hL : Hn (vW v) (vR v) a x y ≤ 20 := Hn_le (fun k h => (hA.2.2.2.2.2.2.1 k h).2.2.2.2) hOk.2.2.1
      rw [e1, e2, e3, e4]
      simp only [ob_some, if_neg ne10]
      rw [q1, hearsIn_ok (by omega) (mkRW hV) (mkRH hA hF) (show x < 6 by omega) (show y < 6 by omega)]
      simp only [ob_some, fX0_beatsTo, e0, rdi_at (j := 6 * x + y) rfl (show 6 * x + y < 36 by omega) (by omega : (36 : Nat) < 2 ^ 31), q2 x y (by omega) (by omega)]
      by_cases h0 : Hn (vW v) (vR v) a x y = 0
      · rw [h0, if_pos (show nI 0 = (0 : Int32) from rfl)]
        exact ⟨_, _, rfl, rfl, rfl, hI⟩
      · rw [encP h0, if_neg (show ¬ nI (Hn (vW v) (vR v) a x y) = (0 : Int32) from nI_ne0 (by omega) (by omega))]
        exact ⟨_, _, rfl, rfl, rfl, hI⟩
    · rw [← n1] at e4
      rw [e1, e2, e3, e4]
      simp only [ob_some, if_neg ne10, if_true]
      exact ⟨_, _, rfl, rfl, rfl, hI⟩
  · rw [← n1] at e2
    rw [e1, e2]
    simp only [ob_some, if_true]
    exact ⟨_, _, rfl, rfl, rfl, hI⟩
/-- k strokes on from x at the beat b -/
def walk (H : Nat → Nat → Nat) (S : Nat → Nat) (n : Nat) : Nat → Nat → Nat → Option (Nat × Nat)
  | 0, x, b => some (x, b)
  | k + 1, x, b => match nx (H x) n with
    | none => none
    | some y => walk H S n k y (b + gp (H x) S n)
theorem enX_none {h : Nat → Nat} {n : Nat} (e : nx h n = none) : enX h n = -1 := by unfold enX; rw [e]
theorem enX_some {h : Nat → Nat} {n y : Nat} (e : nx h n = some y) : enX h n = nI y := by unfold enX; rw [e]
theorem enG_some {h S : Nat → Nat} {n y : Nat} (e : nx h n = some y) : enG h S n = nI (gp h S n) := by unfold enG; rw [e]
theorem inC_loop {n l : Nat} (hn : n ≤ 6) (hl : l < 1000) {H : Nat → Nat → Nat} {S : Nat → Nat} {gap next : Nat → Int32} (hc : CN n S H gap next) (K81 : Option (Int32 × Int32 × Int32 × (Nat → Int32) × (Nat → Int32) × (Nat → Int32) × (Nat → Int32))) (K107 : Int32 → Int32 → Option (Int32 × Int32 × Int32 × (Nat → Int32) × (Nat → Int32) × (Nat → Int32) × (Nat → Int32))) : ∀ (i k fu x b : Nat), l - k = i → k ≤ l → i < fu → x < 6 → fX11_inStrokes_L58 (nI l) gap next K81 K107 fu (nI x) (nI b) (nI k) = match walk H S n i x b with
    | none => K81
    | some p => K107 (nI p.1) (nI p.2) := by
  intro i
  induction i with
  | zero =>
    intro k fu x b h1 h2 h3 hx
    have hk : k = l := by omega
    subst hk
    obtain ⟨fu, rfl⟩ : ∃ g, fu = g + 1 := ⟨fu - 1, by omega⟩
    unfold fX11_inStrokes_L58 fX11_inStrokes_58
    rw [if_pos (nI_le (Nat.le_refl _) (by omega))]
    rfl
  | succ i ih =>
    intro k fu x b h1 h2 h3 hx
    have hk : k < l := by omega
    obtain ⟨fu, rfl⟩ : ∃ g, fu = g + 1 := ⟨fu - 1, by omega⟩
    obtain ⟨c1, c2⟩ := hc x hx
    unfold fX11_inStrokes_L58 fX11_inStrokes_58
    rw [if_neg (nI_ge hk (by omega)), rdi_at (j := x) rfl hx (by omega), rdi_at (j := x) rfl hx (by omega), c1, c2]
    unfold walk
    cases e : nx (H x) n with
    | none => rw [enX_none e, if_pos rfl]
    | some y =>
      obtain ⟨y1, -, -, -⟩ := nx_lt e
      rw [enX_some e, enG_some e, if_neg (m1_ne (by omega)), lti_eq, nI_add, nI_1]
      exact ih (k + 1) fu y _ (by omega) (by omega) (by omega) (by omega)
theorem inF_loop {N : Nat} (hN : 10 ≤ N) {n R l : Nat} {W : Nat → Nat → Nat} {len many : Nat → Int32} {a : AN} (hv : RW n R W len many) (hx0 : n ≠ 0) (hl : l < 1000) (K : Int32 → (Nat → Int32) → Option (Int32 × Int32 × (Nat → Int32))) : ∀ (i k fu x b : Nat) (f : Nat → Int32), l - k = i → k ≤ l → i < fu → x < 6 → Wk n a f x b → ∃ f', (fX12_inStrokes_L48 N (nI l) len many K fu 1 (nI k) f = match walk (Hn W R a) (aS a) n i x b with
    | none => K 0 f'
    | some _ => K 1 f') ∧ ∀ p, walk (Hn W R a) (aS a) n i x b = some p → f' 1 = nI p.2 ∧ f' 2 = nI p.1 := by
  intro i
  induction i with
  | zero =>
    intro k fu x b f h1 h2 h3 hx hf
    have hk : k = l := by omega
    subst hk
    obtain ⟨fu, rfl⟩ : ∃ g, fu = g + 1 := ⟨fu - 1, by omega⟩
    unfold fX12_inStrokes_L48 fX12_inStrokes_48
    rw [if_pos (nI_le (Nat.le_refl _) (by omega))]
    refine ⟨f, rfl, fun p hp => ?_⟩
    cases hp
    exact ⟨hf.2.2.2, hf.2.2.1⟩
  | succ i ih =>
    intro k fu x b f h1 h2 h3 hx hf
    have hk : k < l := by omega
    obtain ⟨fu, rfl⟩ : ∃ g, fu = g + 1 := ⟨fu - 1, by omega⟩
    unfold fX12_inStrokes_L48 fX12_inStrokes_48
    rw [if_neg (nI_ge hk (by omega)), if_neg ne10]
    unfold walk
    rcases go hN hv hf hx hx0 with ⟨e1, e2⟩ | ⟨y, f', e1, y1, e2, e3⟩
    · rw [e1, e2, ob_some, nI_1]
      obtain ⟨fu, rfl⟩ : ∃ g, fu = g + 1 := ⟨fu - 1, by omega⟩
      refine ⟨f, ?_, fun p hp => by cases hp⟩
      unfold fX12_inStrokes_L48 fX12_inStrokes_48
      rw [if_pos rfl, ite_self]
    · have hn : n ≤ 6 := hv.1
      rw [e1, e2, ob_some, nI_1]
      exact ih (k + 1) fu y _ f' (by omega) (by omega) (by omega) (by omega) e3
theorem sim_inStrokes {N : Nat} (hN : 400 ≤ N) : Sim_inStrokes N Inv := by
  intro d m a1 a2 hI
  obtain ⟨hT, hK, hB, v, hV, hS, hP, hIm, hH⟩ := id hI
  have hV' := hV
  obtain ⟨hOk, n1, n2, -⟩ := hV'
  have hn := hOk.1
  obtain ⟨a, hA, hC, hF⟩ := hS
  unfold fX11_inStrokes fX12_inStrokes fX11_inStrokes_19 fX12_inStrokes_24 fX12_inStrokes_44 fX11_inStrokes_117 fX12_inStrokes_101
  rcases rngL a1 60 60 rfl (by omega) with ⟨e1, e2, l, hl, rfl⟩ | ⟨e1, e2, -⟩
  · rcases rngL a2 1 1 rfl (by omega) with ⟨e3, e4, g, hg, rfl⟩ | ⟨e3, e4, -⟩
    · obtain ⟨w, w1, w2⟩ := asNow_ok hN (m_s m) (m_w m)
      rw [e1, e2, e3, e4]
      simp only [ob_some, if_neg ne10]
      rw [w1, ob_some, n2]
      by_cases h0 : vN v = 0
      · rw [if_pos (show (dV d).1 = 0 by rw [n1, h0]; rfl), if_pos (show nI (vN v) ≤ (0 : Int32) by rw [h0]; decide)]
        obtain ⟨N, rfl⟩ : ∃ g, N = g + 1 := ⟨N - 1, by omega⟩
        unfold fX12_inStrokes_L48 fX12_inStrokes_48
        simp only [if_true, ite_self]
        exact ⟨_, _, rfl, rfl, rfl, hI⟩
      · obtain ⟨D, gap', hear', next', slow', hD, hB', q1, q2, q3, q4⟩ := now_lay (N := N) (by omega) hV hA hC ((dC d).2.2.2.2.2.2.2.2.1) ((dC d).2.2.2.2.2.2.2.2.2.1) ((dC d).2.2.2.2.2.2.2.2.2.2.2.2.1) ((dC d).2.2.2.2.2.2.2.2.2.2.2.2.2)
        have hP' : aP a < 6 := by rcases hA.2.2.1 with h | h <;> omega
        have hw := mkWk hA (hF.congr hA.2.2.2.2.1 w2)
        rw [if_neg (show ¬ (dV d).1 = 0 by rw [n1]; exact nI_ne0 (by omega) (by omega)), if_neg (show ¬ nI (vN v) ≤ (0 : Int32) from nI_nle (by omega) (by omega)), q1, ob_some]
        have hCp : (dS d).2.2.1 = nI (aP a) := hC.2.2.1
        have hCb : (dS d).2.1 = nI (aB a) := hC.2.1
        rw [hCp, hCb, show (0 : Int32) = nI 0 from rfl, inC_loop hn (by omega) q3 _ _ l 0 N (aP a) (aB a) (by omega) (by omega) (by omega) hP']
        obtain ⟨f', r1, r2⟩ := inF_loop (N := N) (by omega) (mkRW hV) h0 (show l < 1000 by omega) (fun l3k48_73 m_a0_wk48_73 => if l3k48_73 = nI 0 then some (-9, nI 0, m_a0_wk48_73)
  else (if nI g = nI 0 then some (m_a0_wk48_73 2, nI 0, m_a0_wk48_73)
  else some (m_a0_wk48_73 1, nI 0, m_a0_wk48_73))) l 0 N (aP a) (aB a) w (by omega) (by omega) (by omega) hP' hw
        rw [r1]
        cases e : walk (Hn (vW v) (vR v) a) (aS a) (vN v) l (aP a) (aB a) with
        | none =>
          simp only [if_pos (show (0 : Int32) = nI 0 from rfl)]
          exact ⟨_, _, rfl, rfl, rfl, hI⟩
        | some p =>
          obtain ⟨r3, r4⟩ := r2 p e
          simp only [if_neg (show ¬ (1 : Int32) = nI 0 by decide), r3, r4]
          by_cases hg0 : nI g = nI 0
          · simp only [if_pos hg0]
            exact ⟨_, _, rfl, rfl, rfl, hI⟩
          · simp only [if_neg hg0]
            exact ⟨_, _, rfl, rfl, rfl, hI⟩
    · rw [e1, e2, e3, e4]
      simp only [ob_some, if_neg ne10, if_true]
      exact ⟨_, _, rfl, rfl, rfl, hI⟩
  · rw [e1, e2]
    simp only [ob_some, if_true]
    exact ⟨_, _, rfl, rfl, rfl, hI⟩
