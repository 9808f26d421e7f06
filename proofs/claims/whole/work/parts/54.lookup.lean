/-! pure: lookUp and isUnder of the reference -/
theorem c3_in {t i : Nat} (ht : t < 16) (hi : i < 3) : (3 * nI t + nI i) = nI (3 * t + i) := by
  rw [show (3 : Int32) = nI 3 from rfl, pk_mul, nI_add]
theorem c16 (t u : Nat) : (16 * nI t + nI u) = nI (16 * t + u) := by
  rw [show (16 : Int32) = nI 16 from rfl, pk_mul, nI_add]
/-- the FACES of a type that is marked -/
theorem lookUp_69 (k32 : Int32 → SS → Option SS) {σ : SS} {nt t m : Nat} (hw : wfT σ.1 nt) (ht : t < nt) (hm : m ≤ 3) (h3 : σ.1 3 t = nI m) : ∀ (r i fuel : Nat) (f : Nat → Int32), i + r = m → r < fuel → zn 16 f → f t = 1 →
    ∃ f', p_X8_lookUp_69 k32 fuel (nI t) (nI i) (pI σ 20 f) = k32 (nI t + (-1)) (pI σ 20 f') ∧ zn 16 f' ∧ ∀ j, j < 16 → (f' j = 1 ↔ f j = 1 ∨ ∃ i', i ≤ i' ∧ i' < m ∧ σ.1 4 (3 * t + i') = nI j) := by
  obtain ⟨h16, -, hT⟩ := id hw
  have htn : t < 16 := by omega
  intro r
  induction r with
  | zero =>
    intro i fuel f hi hf hz hft
    obtain ⟨g, rfl⟩ : ∃ g, fuel = g + 1 := ⟨fuel - 1, by omega⟩
    refine ⟨f, ?_, hz, fun j _ => ⟨Or.inl, ?_⟩⟩
    · rw [p_X8_lookUp_69]
      try dsimp only
      rw [oi_n htn (by decide), pI_ne σ f (by decide : (3 : Nat) ≠ 20), nI_clamp (by omega), h3, if_pos (nI_le (by omega) (by omega))]
      rfl
    · rintro (h | ⟨i', h1, h2, -⟩)
      · exact h
      · omega
  | succ r ih =>
    intro i fuel f hi hf hz hft
    obtain ⟨g, rfl⟩ : ∃ g, fuel = g + 1 := ⟨fuel - 1, by omega⟩
    obtain ⟨-, -, -, m', hm', h3', h4⟩ := hT t ht
    have hmm : m = m' := (nI_eq (by omega) (by omega)).mp (h3.symm.trans h3')
    subst hmm
    obtain ⟨fa, hfa, e4, -⟩ := h4 i (by omega)
    have hne : t ≠ fa := by omega
    obtain ⟨f', e1, e2, e3⟩ := ih (i + 1) g (upd f fa 1) (by omega) (by omega) (zn_u hz (Or.inr rfl)) (by unfold upd; rw [if_neg hne]; exact hft)
    refine ⟨f', ?_, e2, fun j hj => ?_⟩
    · rw [p_X8_lookUp_69]
      try dsimp only
      rw [oi_n htn (by decide), pI_ne σ f (by decide : (3 : Nat) ≠ 20), nI_clamp (show t < 2 ^ 31 by omega), h3, if_neg (nI_ge (by omega) (by omega)), oi_n htn (by decide), pI_at, hft, if_neg (by decide), c3_in htn (by omega), oi_n (show 3 * t + i < 48 by omega) (by decide), pI_ne σ f (by decide : (4 : Nat) ≠ 20), nI_clamp (show 3 * t + i < 2 ^ 31 by omega), e4, oi_n (show fa < 16 by omega) (by decide), nI_clamp (show fa < 2 ^ 31 by omega), nI_1]
      unfold os
      rw [pI_s]
      exact e1
    · rw [e3 j hj]
      unfold upd
      constructor
      · rintro (h | ⟨i', h1, h2, h5⟩)
        · by_cases e : j = fa
          · exact Or.inr ⟨i, Nat.le_refl _, by omega, by rw [e4, e]⟩
          · rw [if_neg e] at h; exact Or.inl h
        · exact Or.inr ⟨i', by omega, h2, h5⟩
      · rintro (h | ⟨i', h1, h2, h5⟩)
        · by_cases e : j = fa
          · exact Or.inl (by rw [if_pos e])
          · exact Or.inl (by rw [if_neg e]; exact h)
        · by_cases e : i' = i
          · subst e
            rw [e4] at h5
            have : fa = j := (nI_eq (by omega) (by omega)).mp h5
            exact Or.inl (by rw [if_pos this.symm])
          · exact Or.inr ⟨i', by omega, h2, h5⟩
/-- one type on the way down: if it is marked, its SUPER and FACES are -/
theorem lookUp_67 (k32 : Int32 → SS → Option SS) {σ : SS} {nt t : Nat} (hw : wfT σ.1 nt) (ht : t < nt) (f : Nat → Int32) (hz : zn 16 f) :
    ∃ f', (oi (nI t) 16 (if (pI σ 20 f).1 20 (nI t).toNatClampNeg = 0 then p_X8_lookUp_67 k32 (nI t) (pI σ 20 f) else oi (nI t) 16 (if (pI σ 20 f).1 2 (nI t).toNatClampNeg = (-1) then p_X8_lookUp_67 k32 (nI t) (pI σ 20 f) else oi (nI t) 16 (oi ((pI σ 20 f).1 2 (nI t).toNatClampNeg) 16 (os (sI (pI σ 20 f) 20 (((pI σ 20 f).1 2 (nI t).toNatClampNeg).toNatClampNeg) 1) (fun s_62 => p_X8_lookUp_67 k32 (nI t) s_62)))))) = k32 (nI t + (-1)) (pI σ 20 f') ∧ zn 16 f' ∧ ∀ j, j < 16 → (f' j = 1 ↔ f j = 1 ∨ (f t = 1 ∧ nxt σ.1 t j)) := by
  obtain ⟨h16, -, hT⟩ := id hw
  have htn : t < 16 := by omega
  obtain ⟨-, h2, -, m, hm, h3, h4⟩ := hT t ht
  rw [oi_n htn (by decide), pI_at, nI_clamp (show t < 2 ^ 31 by omega)]
  rcases hz t htn with e | e
  · rw [if_pos e]
    refine ⟨f, ?_, hz, fun j _ => ⟨Or.inl, ?_⟩⟩
    · unfold p_X8_lookUp_67
      rw [p_X8_lookUp_69]
      try dsimp only
      rw [oi_n htn (by decide), pI_ne σ f (by decide : (3 : Nat) ≠ 20), nI_clamp (show t < 2 ^ 31 by omega), h3]
      by_cases hm0 : m = 0
      · subst hm0
        rw [if_pos (show nI 0 ≤ 0 from by decide)]
        rfl
      · rw [if_neg (show ¬ nI m ≤ 0 from nI_ge (a := 0) (by omega) (by omega)), oi_n htn (by decide), pI_at, e, if_pos rfl]
        rfl
    · rintro (h | ⟨h, -⟩)
      · exact h
      · rw [e] at h; exact absurd h (by decide)
  · rw [if_neg (by rw [e]; decide), oi_n htn (by decide), pI_ne σ f (by decide : (2 : Nat) ≠ 20)]
    rcases h2 with h2 | ⟨u, hu, h2, -⟩
    · rw [h2, if_pos rfl]
      obtain ⟨f', g1, g2, g3⟩ := lookUp_69 k32 hw ht hm h3 m 0 100000 f (by omega) (by omega) hz e
      refine ⟨f', g1, g2, fun j hj => ?_⟩
      rw [g3 j hj]
      constructor
      · rintro (h | ⟨i', -, h5, h6⟩)
        · exact Or.inl h
        · exact Or.inr ⟨e, Or.inr ⟨m, i', h3, hm, h5, h6⟩⟩
      · rintro (h | ⟨-, h | ⟨m', i', e3, hm', h5, h6⟩⟩)
        · exact Or.inl h
        · rw [h2] at h
          exact absurd (show (nI j) < 0 by rw [← h]; decide) (nI_pos (by omega))
        · have : m = m' := (nI_eq (by omega) (by omega)).mp (h3.symm.trans e3)
          subst this
          exact Or.inr ⟨i', Nat.zero_le _, h5, h6⟩
    · rw [h2, if_neg (fun q => absurd (show (nI u) < 0 by rw [q]; decide) (nI_pos (by omega))), oi_n htn (by decide), oi_n (show u < 16 by omega) (by decide), nI_clamp (show u < 2 ^ 31 by omega)]
      unfold os
      rw [pI_s]
      have hne : t ≠ u := by omega
      obtain ⟨f', g1, g2, g3⟩ := lookUp_69 k32 hw ht hm h3 m 0 100000 (upd f u 1) (by omega) (by omega) (zn_u hz (Or.inr rfl)) (by unfold upd; rw [if_neg hne]; exact e)
      refine ⟨f', g1, g2, fun j hj => ?_⟩
      rw [g3 j hj]
      unfold upd
      constructor
      · rintro (h | ⟨i', -, h5, h6⟩)
        · by_cases q : j = u
          · exact Or.inr ⟨e, Or.inl (by rw [h2, q])⟩
          · rw [if_neg q] at h; exact Or.inl h
        · exact Or.inr ⟨e, Or.inr ⟨m, i', h3, hm, h5, h6⟩⟩
      · rintro (h | ⟨-, h | ⟨m', i', e3, hm', h5, h6⟩⟩)
        · by_cases q : j = u
          · exact Or.inl (by rw [if_pos q])
          · exact Or.inl (by rw [if_neg q]; exact h)
        · rw [h2] at h
          have : u = j := (nI_eq (by omega) (by omega)).mp h
          exact Or.inl (by rw [if_pos this.symm])
        · have : m = m' := (nI_eq (by omega) (by omega)).mp (h3.symm.trans e3)
          subst this
          exact Or.inr ⟨i', Nat.zero_le _, h5, h6⟩
/-- the way down from t -/
theorem lookUp_32 {σ : SS} {nt t : Nat} (hw : wfT σ.1 nt) (ht : t < nt) : ∀ (k fuel : Nat) (f : Nat → Int32), k ≤ t + 1 → k < fuel → zn 16 f → (∀ j, j < 16 → (f j = 1 ↔ j = t ∨ ∃ i, k ≤ i ∧ i ≤ t ∧ und σ.1 t i ∧ nxt σ.1 i j)) →
    ∃ f', p_X8_lookUp_32 fuel (nI k + (-1)) (pI σ 20 f) = some (pI σ 20 f') ∧ zn 16 f' ∧ ∀ j, j < 16 → (f' j = 1 ↔ und σ.1 t j) := by
  intro k
  induction k with
  | zero =>
    intro fuel f hk hf hz hm
    obtain ⟨g, rfl⟩ : ∃ g, fuel = g + 1 := ⟨fuel - 1, by omega⟩
    refine ⟨f, ?_, hz, fun j hj => ?_⟩
    · rw [p_X8_lookUp_32]
      try dsimp only
      rw [if_pos (by decide)]
    · rw [hm j hj]
      constructor
      · rintro (h | ⟨i, -, hi, h1, h2⟩)
        · exact Or.inl h.symm
        · exact und_step h1 (nxt_lt hw (by omega) (by omega) h2) h2
      · intro h
        rcases und_last h with h | ⟨i, h1, h2, h3⟩
        · exact Or.inl h.symm
        · exact Or.inr ⟨i, Nat.zero_le _, und_le h1, h1, h3⟩
  | succ k ih =>
    intro fuel f hk hf hz hm
    obtain ⟨g, rfl⟩ : ∃ g, fuel = g + 1 := ⟨fuel - 1, by omega⟩
    obtain ⟨f1, e1, e2, e3⟩ := lookUp_67 (p_X8_lookUp_32 g) hw (show k < nt by omega) f hz
    have h16 := hw.1
    obtain ⟨f', g1, g2, g3⟩ := ih g f1 (by omega) (by omega) e2 (fun j hj => by
      rw [e3 j hj, hm j hj, hm k (by omega)]
      constructor
      · rintro ((h | ⟨i, h1, h2, h3, h4⟩) | ⟨h, hn⟩)
        · exact Or.inl h
        · exact Or.inr ⟨i, by omega, h2, h3, h4⟩
        · have hu : und σ.1 t k := by
            rcases h with h | ⟨i, h1, h2, h3, h4⟩
            · exact Or.inl h.symm
            · exact und_step h3 (nxt_lt hw (by omega) (by omega) h4) h4
          exact Or.inr ⟨k, Nat.le_refl _, by omega, hu, hn⟩
      · rintro (h | ⟨i, h1, h2, h3, h4⟩)
        · exact Or.inl (Or.inl h)
        · by_cases q : i = k
          · subst q
            refine Or.inr ⟨?_, h4⟩
            rcases und_last h3 with h | ⟨i', q1, q2, q3⟩
            · exact Or.inl h.symm
            · exact Or.inr ⟨i', by omega, und_le q1, q1, q3⟩
          · exact Or.inl (Or.inr ⟨i, by omega, h2, h3, h4⟩))
    refine ⟨f', ?_, g2, g3⟩
    rw [p_X8_lookUp_32]
    try dsimp only
    rw [pk_m1, if_neg (nI_pos (by omega)), e1]
    exact g1
/-- the marks at first -/
theorem lookUp_2 {σ : SS} {nt t : Nat} (hw : wfT σ.1 nt) (ht : t < nt) : ∀ (r k fuel : Nat) (f : Nat → Int32), k + r = 16 → r < fuel → (∀ j, j < k → f j = b2 (decide (j = t))) →
    ∃ f', p_X8_lookUp_2 fuel (nI t) (nI k) (pI σ 20 f) = some (pI σ 20 f') ∧ zn 16 f' ∧ ∀ j, j < 16 → (f' j = 1 ↔ und σ.1 t j) := by
  have h16 := hw.1
  intro r
  induction r with
  | zero =>
    intro k fuel f hk hf hz
    obtain ⟨g, rfl⟩ : ∃ g, fuel = g + 1 := ⟨fuel - 1, by omega⟩
    obtain ⟨f', e1, e2, e3⟩ := lookUp_32 hw ht (t + 1) 100000 f (Nat.le_refl _) (by omega) (fun j hj => by rw [hz j (by omega)]; exact b2_01 _) (fun j hj => by
      rw [hz j (by omega), b2_1]
      constructor
      · intro h; exact Or.inl (by simpa using h)
      · rintro (h | ⟨i, h1, h2, -⟩)
        · simpa using h
        · omega)
    refine ⟨f', ?_, e2, e3⟩
    rw [p_X8_lookUp_2]
    try dsimp only
    rw [if_pos (show (16 : Int32) ≤ nI k from nI_le (a := 16) (by omega) (by omega))]
    rw [pk_m1] at e1
    exact e1
  | succ r ih =>
    intro k fuel f hk hf hz
    obtain ⟨g, rfl⟩ : ∃ g, fuel = g + 1 := ⟨fuel - 1, by omega⟩
    obtain ⟨f', e1, e2, e3⟩ := ih (k + 1) g (upd f k (b2 (decide (k = t)))) (by omega) (by omega) (fun j hj => by
      unfold upd
      by_cases e : j = k
      · rw [if_pos e, e]
      · rw [if_neg e]; exact hz j (by omega))
    refine ⟨f', ?_, e2, e3⟩
    rw [p_X8_lookUp_2]
    try dsimp only
    rw [if_neg (show ¬ (16 : Int32) ≤ nI k from nI_ge (b := 16) (by omega) (by omega))]
    have key : ∀ x : Int32, (x = 0 ∨ x = 1) → p_X8_lookUp_23 (p_X8_lookUp_2 g) (nI t) (nI k) x (nI k) (pI σ 20 f) = p_X8_lookUp_2 g (nI t) (nI (k + 1)) (pI σ 20 (upd f k x)) := by
      intro x hx
      unfold p_X8_lookUp_23
      rw [oi_n (show k < 16 by omega) (by decide), ob_ok hx, nI_clamp (show k < 2 ^ 31 by omega)]
      unfold os
      rw [pI_s, nI_1]
    by_cases e : k = t
    · rw [if_pos (by rw [e]), key 1 (Or.inr rfl)]
      rw [show b2 (decide (k = t)) = 1 from b2_1.mpr (by simpa using e)] at e1
      exact e1
    · rw [if_neg (fun q => e ((nI_eq (by omega) (by omega)).mp q)), key 0 (Or.inl rfl)]
      rw [show b2 (decide (k = t)) = 0 from b2_0.mpr (by simpa using e)] at e1
      exact e1
theorem m_lookUp {σ : SS} {nt t : Nat} (hw : wfT σ.1 nt) (ht : t < nt) : ∃ f, p_X8_lookUp_0 (nI t) σ = some (pI σ 20 f) ∧ ∀ j, j < 16 → f j = b2 (pb (und σ.1 t j)) := by
  obtain ⟨f, e1, e2, e3⟩ := lookUp_2 hw ht 16 0 100000 (σ.1 20) (by omega) (by omega) (fun j hj => absurd hj (Nat.not_lt_zero _))
  rw [pI_self] at e1
  exact ⟨f, e1, fun j hj => zn_b e2 hj (e3 j hj)⟩
