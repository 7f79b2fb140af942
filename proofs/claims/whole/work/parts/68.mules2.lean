/-! ===== pure: two mules, and the answer ===== -/
theorem skip_loop {N : Nat} {n i0 g : Nat} {len many s : Nat → Int32} (hn : n ≤ 6) (hm0 : many 0 = nI n) (hi0 : i0 < 36) (ht : ¬ two n i0) (K162 : Int32 → (Nat → Int32) → MO) (K191 : (Nat → Int32) → MO) (w : Nat → Int32) : ∀ (r k fu : Nat), 36 - k = r → k ≤ 36 → r < fu → fX12_mules_L127 N (nI g) (nI i0) len many s K162 K191 fu (nI k) w = K191 w := by
  have u1 : fX12_isTwo (nI i0) many = some 0 := by
    rcases two_ok (many := many) hn hi0 hm0 with ⟨t0, t1, t2⟩ | ⟨t0, t1, t2⟩
    · exact absurd t0 ht
    · exact t1
  intro r
  induction r with
  | zero =>
    intro k fu h1 h2 h3
    have hk : k = 36 := by omega
    subst hk
    obtain ⟨fu, rfl⟩ : ∃ g, fu = g + 1 := ⟨fu - 1, by omega⟩
    unfold fX12_mules_L127 fX12_mules_127
    rw [if_pos (show (36 : Int32) ≤ nI 36 by decide)]
  | succ r ih =>
    intro k fu h1 h2 h3
    obtain ⟨fu, rfl⟩ : ∃ g, fu = g + 1 := ⟨fu - 1, by omega⟩
    unfold fX12_mules_L127 fX12_mules_127 fX12_mules_185
    rw [if_neg (show ¬ (36 : Int32) ≤ nI k from nI_ge (b := 36) (by omega) (by omega)), u1, ob_some, if_pos rfl, nI_1]
    exact ih (k + 1) fu (by omega) (by omega) (by omega)
