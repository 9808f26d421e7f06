/-! pure: tellAbove of the class -/
def fce (P : Nat → Nat → Int32) (t u : Nat) : Prop := ∃ m i, P 3 t = nI m ∧ m ≤ 3 ∧ i < m ∧ P 4 (3 * t + i) = nI u
theorem nxt_f {P : Nat → Nat → Int32} {t u : Nat} : nxt P t u ↔ P 2 t = nI u ∨ fce P t u := Iff.rfl
theorem abv_cons {P : Nat → Nat → Int32} {t o u : Nat} (h1 : o < t) (h2 : nxt P t o) (h : abv P o u) : abv P t u := by
  induction h with
  | single h => exact Relation.TransGen.tail (Relation.TransGen.single ⟨h1, h2⟩) h
  | tail _ h ih => exact Relation.TransGen.tail ih h
theorem abv_head {P : Nat → Nat → Int32} {t u : Nat} (h : abv P t u) : (u < t ∧ nxt P t u) ∨ ∃ o, (o < t ∧ nxt P t o) ∧ abv P o u := by
  induction h with
  | single h => exact Or.inl h
  | tail _ h ih =>
    rcases ih with h1 | ⟨o, h1, h2⟩
    · exact Or.inr ⟨_, h1, Relation.TransGen.single h⟩
    · exact Or.inr ⟨o, h1, Relation.TransGen.tail h2 h⟩
theorem nI_m1 {u : Nat} (hu : u < 2 ^ 31) : ¬ (-1 : Int32) = nI u := fun h => absurd (show (nI u) < 0 by rw [← h]; decide) (nI_pos hu)
theorem tell_44 (k2 : Int32 → SS → Option SS) {P : Nat → Nat → Int32} {nt t : Nat} (hw : wfT P nt) (ht : t < nt) {v2 : Int64} (h2 : ∀ u, u < 64 → (lb v2 u = true ↔ nxt P t u)) {σ : SS} {g : Nat → Int64} (hg : ∀ o, o < t → ∀ u, u < 64 → (lb (g o) u = true ↔ abv P o u)) :
    ∀ (r o fuel : Nat) (acc : Int64), o + r = t → r < fuel → (∀ u, u < 64 → (lb acc u = true ↔ nxt P t u ∨ ∃ o', o' < o ∧ nxt P t o' ∧ abv P o' u)) →
    ∃ acc', p_X6_tellAbove_44 k2 fuel (nI t) v2 acc (nI o) (pL σ 10 g) = k2 (nI (t + 1)) (pL σ 10 (vp_updL g t acc')) ∧ ∀ u, u < 64 → (lb acc' u = true ↔ abv P t u) := by
  have h16 := hw.1
  intro r
  induction r with
  | zero =>
    intro o fuel acc ho hf ha
    obtain ⟨f, rfl⟩ : ∃ f, fuel = f + 1 := ⟨fuel - 1, by omega⟩
    have hot : o = t := by omega
    subst hot
    refine ⟨acc, ?_, fun u hu => ?_⟩
    · rw [p_X6_tellAbove_44]
      try dsimp only
      rw [if_pos (nI_le (Nat.le_refl _) (by omega)), oi_n (show o < 16 by omega) (by decide), nI_clamp (show o < 2 ^ 31 by omega)]
      unfold os
      rw [pL_s, nI_1]
    · rw [ha u hu]
      constructor
      · rintro (h | ⟨o', h1, h3, h4⟩)
        · exact Relation.TransGen.single ⟨nxt_lt hw ht (by omega) h, h⟩
        · exact abv_cons h1 h3 h4
      · intro h
        rcases abv_head h with ⟨-, h1⟩ | ⟨o', ⟨h1, h3⟩, h4⟩
        · exact Or.inl h1
        · exact Or.inr ⟨o', h1, h3, h4⟩
  | succ r ih =>
    intro o fuel acc ho hf ha
    obtain ⟨f, rfl⟩ : ∃ f, fuel = f + 1 := ⟨fuel - 1, by omega⟩
    have hot : o < t := by omega
    rw [p_X6_tellAbove_44]
    try dsimp only
    rw [if_neg (nI_ge hot (by omega)), oc_s (p_has (show o < 64 by omega))]
    cases hb : lb v2 o with
    | false =>
      rw [if_pos (b2_0.mpr rfl)]
      unfold p_X6_tellAbove_71
      rw [nI_1]
      refine ih (o + 1) f acc (by omega) (by omega) (fun u hu => ?_)
      rw [ha u hu]
      constructor
      · rintro (h | ⟨o', h1, h3, h4⟩)
        · exact Or.inl h
        · exact Or.inr ⟨o', by omega, h3, h4⟩
      · rintro (h | ⟨o', h1, h3, h4⟩)
        · exact Or.inl h
        · by_cases e : o' = o
          · subst e
            have := (h2 o' (by omega)).mpr h3
            rw [hb] at this
            cases this
          · exact Or.inr ⟨o', by omega, h3, h4⟩
    | true =>
      rw [if_neg (fun e => by have := b2_0.mp e; cases this), oi_n (show o < 16 by omega) (by decide), pL_at, nI_clamp (show o < 2 ^ 31 by omega)]
      unfold p_X6_tellAbove_71
      rw [nI_1]
      have hn := (h2 o (by omega)).mp hb
      refine ih (o + 1) f (acc ||| g o) (by omega) (by omega) (fun u hu => ?_)
      rw [lb_or, Bool.or_eq_true, ha u hu, hg o hot u hu]
      constructor
      · rintro ((h | ⟨o', h1, h3, h4⟩) | h)
        · exact Or.inl h
        · exact Or.inr ⟨o', by omega, h3, h4⟩
        · exact Or.inr ⟨o, by omega, hn, h⟩
      · rintro (h | ⟨o', h1, h3, h4⟩)
        · exact Or.inl (Or.inl h)
        · by_cases e : o' = o
          · subst e; exact Or.inr h4
          · exact Or.inl (Or.inr ⟨o', by omega, h3, h4⟩)
theorem tell_2 {P : Nat → Nat → Int32} {nt : Nat} (hw : wfT P nt) {σ : SS} (hc : σ.1 1 5 = nI nt) (h8 : ∀ t, t < nt → σ.1 8 t = P 2 t) (h9 : ∀ t, t < nt → ∀ u, u < 64 → (lb (σ.2 9 t) u = true ↔ fce P t u)) :
    ∀ (r t fuel : Nat) (g : Nat → Int64), t + r = nt → r < fuel → (∀ o, o < t → ∀ u, u < 64 → (lb (g o) u = true ↔ abv P o u)) → ∃ g', p_X6_tellAbove_2 fuel (nI t) (pL σ 10 g) = some (pL σ 10 g') ∧ ∀ o, o < nt → ∀ u, u < 64 → (lb (g' o) u = true ↔ abv P o u) := by
  have h16 := hw.1
  intro r
  induction r with
  | zero =>
    intro t fuel g ht hf hg
    obtain ⟨f, rfl⟩ : ∃ f, fuel = f + 1 := ⟨fuel - 1, by omega⟩
    have htn : t = nt := by omega
    subst htn
    refine ⟨g, ?_, hg⟩
    rw [p_X6_tellAbove_2]
    try dsimp only
    rw [show (pL σ 10 g).1 1 5 = σ.1 1 5 from rfl, hc, if_pos (nI_le (Nat.le_refl _) (by omega))]
  | succ r ih =>
    intro t fuel g ht hf hg
    obtain ⟨f, rfl⟩ : ∃ f, fuel = f + 1 := ⟨fuel - 1, by omega⟩
    have htn : t < nt := by omega
    have step : ∀ v2 : Int64, (∀ u, u < 64 → (lb v2 u = true ↔ nxt P t u)) → ∃ g', p_X6_tellAbove_38 (p_X6_tellAbove_2 f) (nI t) v2 (pL σ 10 g) = some (pL σ 10 g') ∧ ∀ o, o < nt → ∀ u, u < 64 → (lb (g' o) u = true ↔ abv P o u) := by
      intro v2 hv
      obtain ⟨acc, e1, e2⟩ := tell_44 (p_X6_tellAbove_2 f) hw htn hv (σ := σ) hg t 0 100000 v2 (by omega) (by omega) (fun u hu => by
        rw [hv u hu]
        constructor
        · exact Or.inl
        · rintro (h | ⟨o', h1, -⟩)
          · exact h
          · omega)
      obtain ⟨g', q1, q2⟩ := ih (t + 1) f (vp_updL g t acc) (by omega) (by omega) (fun o ho u hu => by
        unfold vp_updL
        by_cases e : o = t
        · rw [if_pos e, e]; exact e2 u hu
        · rw [if_neg e]; exact hg o (by omega) u hu)
      exact ⟨g', e1.trans q1, q2⟩
    obtain ⟨-, hs, -⟩ := hw.2.2 t htn
    rw [p_X6_tellAbove_2]
    try dsimp only
    rw [show (pL σ 10 g).1 1 5 = σ.1 1 5 from rfl, hc, if_neg (nI_ge htn (by omega)), oi_n (show t < 16 by omega) (by decide), oi_n (show t < 16 by omega) (by decide), nI_clamp (show t < 2 ^ 31 by omega), show (pL σ 10 g).1 8 t = σ.1 8 t from rfl, h8 t htn, pL_ne σ g (by decide : (9 : Nat) ≠ 10)]
    rcases hs with hs | ⟨s, hst, hs, -⟩
    · rw [hs, if_pos rfl]
      refine step _ (fun u hu => ?_)
      rw [h9 t htn u hu, nxt_f]
      exact ⟨Or.inr, fun h => h.elim (fun q => absurd (hs.symm.trans q) (nI_m1 (by omega))) id⟩
    · rw [hs, if_neg (fun q => nI_m1 (u := s) (by omega) q.symm), oi_n (show t < 16 by omega) (by decide)]
      rw [oc_s (show p_X0_with_0 (σ.2 9 t) (nI s) = some (σ.2 9 t ||| jshl 1 (nI s)) from rfl)]
      refine step _ (fun u hu => ?_)
      rw [lb_with (show s < 64 by omega), Bool.or_eq_true, h9 t htn u hu, nxt_f, hs]
      constructor
      · rintro (h | h)
        · exact Or.inr h
        · exact Or.inl (by rw [show u = s by simpa using h])
      · rintro (h | h)
        · exact Or.inr (by have := (nI_eq (by omega) (by omega)).mp h; simp [this])
        · exact Or.inl h
theorem k_tellAbove {P : Nat → Nat → Int32} {nt : Nat} (hw : wfT P nt) {σ : SS} (hc : σ.1 1 5 = nI nt) (h8 : ∀ t, t < nt → σ.1 8 t = P 2 t) (h9 : ∀ t, t < nt → ∀ u, u < 64 → (lb (σ.2 9 t) u = true ↔ fce P t u)) :
    ∃ g', p_X6_tellAbove_0 σ = some (pL σ 10 g') ∧ ∀ o, o < nt → ∀ u, u < 64 → (lb (g' o) u = true ↔ abv P o u) := by
  have h16 := hw.1
  obtain ⟨g', e1, e2⟩ := tell_2 hw hc h8 h9 nt 0 100000 (σ.2 10) (by omega) (by omega) (fun o ho => absurd ho (Nat.not_lt_zero _))
  rw [pL_self] at e1
  exact ⟨g', e1, e2⟩
