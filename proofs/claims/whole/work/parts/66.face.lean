/-! pure: face: both sides alike -/
def fmT (τ : SS) (t f m : Nat) : SS := sI (sI (sI (sI τ 4 (3 * t + m) (nI f)) 3 t (nI (m + 1))) 0 16 0) 0 26 0
theorem m_face39 {τ : SS} {nt t f m : Nat} (hw : wfT τ.1 nt) (ht : t < nt) (hm : m ≤ 3) (h3 : τ.1 3 t = nI m) : ∀ (r i fuel : Nat), i + r = m → r < fuel → (∀ i', i' < i → ¬ τ.1 4 (3 * t + i') = nI f) →
    (fce τ.1 t f → p_X8_face_39 fuel (nI t) (nI f) (nI i) τ = some (-103, τ)) ∧ (¬ fce τ.1 t f → (m = 3 → p_X8_face_39 fuel (nI t) (nI f) (nI i) τ = some (-104, τ)) ∧ (m < 3 → p_X8_face_39 fuel (nI t) (nI f) (nI i) τ = some (nI (m + 1), fmT τ t f m))) := by
  have h16 := hw.1
  have htn : t < 16 := by omega
  intro r
  induction r with
  | zero =>
    intro i fuel hi hf hn
    obtain ⟨g, rfl⟩ : ∃ g, fuel = g + 1 := ⟨fuel - 1, by omega⟩
    have him : i = m := by omega
    subst him
    have hnf : ¬ fce τ.1 t f := by
      rintro ⟨m', i', q1, q2, q3, q4⟩
      have : i = m' := (nI_eq (by omega) (by omega)).mp (h3.symm.trans q1)
      subst this
      exact hn i' q3 q4
    refine ⟨fun h => absurd h hnf, fun _ => ⟨fun h => ?_, fun h => ?_⟩⟩
    · rw [p_X8_face_39]
      try dsimp only
      rw [oi_n htn (by decide), nI_clamp (show t < 2 ^ 31 by omega), h3, if_pos (nI_le (Nat.le_refl _) (by omega)), oi_n htn (by decide), h, if_pos (by decide)]
    · rw [p_X8_face_39]
      try dsimp only
      rw [oi_n htn (by decide), nI_clamp (show t < 2 ^ 31 by omega), h3, if_pos (nI_le (Nat.le_refl _) (by omega)), oi_n htn (by decide), if_neg (show ¬ nI i = 3 from fun q => by have := (nI_eq (b := 3) (by omega) (by omega)).mp q; omega), oi_n htn (by decide), c3_in htn (by omega), oi_n (show 3 * t + i < 48 by omega) (by decide), nI_clamp (show 3 * t + i < 2 ^ 31 by omega), os_s, oi_n htn (by decide), oi_n htn (by decide)]
      rw [show (sI τ 4 (3 * t + i) (nI f)).1 3 t = nI i from h3, nI_1, os_s, os_s, os_s, oi_n htn (by decide)]
      show some ((upd (τ.1 3) t (nI (i + 1))) t, fmT τ t f i) = _
      rw [upd_at]
  | succ r ih =>
    intro i fuel hi hf hn
    obtain ⟨g, rfl⟩ : ∃ g, fuel = g + 1 := ⟨fuel - 1, by omega⟩
    rw [p_X8_face_39]
    try dsimp only
    rw [oi_n htn (by decide), nI_clamp (show t < 2 ^ 31 by omega), h3, if_neg (nI_ge (by omega) (by omega)), c3_in htn (by omega), oi_n (show 3 * t + i < 48 by omega) (by decide), nI_clamp (show 3 * t + i < 2 ^ 31 by omega)]
    by_cases e : τ.1 4 (3 * t + i) = nI f
    · rw [if_pos e]
      exact ⟨fun _ => rfl, fun h => absurd ⟨m, i, h3, hm, by omega, e⟩ h⟩
    · rw [if_neg e, nI_1]
      exact ih (i + 1) g (by omega) (by omega) (fun i' hi' => by
        by_cases q : i' = i
        · rw [q]; exact e
        · exact hn i' (by omega))
theorem upd_ne {f : Nat → Int32} {k j : Nat} {x : Int32} (h : ¬ j = k) : upd f k x j = f j := by unfold upd; rw [if_neg h]
theorem fmT_fce {τ : SS} {nt t f m : Nat} (hw : wfT τ.1 nt) (ht : t < nt) (hm : m < 3) (h3 : τ.1 3 t = nI m) (t' u : Nat) (ht' : t' < nt) (hf : f < 2 ^ 31) (hu : u < 2 ^ 31) : fce (fmT τ t f m).1 t' u ↔ fce τ.1 t' u ∨ (t' = t ∧ u = f) := by
  unfold fce
  rw [show (fmT τ t f m).1 3 = upd (τ.1 3) t (nI (m + 1)) from rfl, show (fmT τ t f m).1 4 = upd (τ.1 4) (3 * t + m) (nI f) from rfl]
  by_cases e : t' = t
  · subst e
    rw [upd_at, h3]
    constructor
    · rintro ⟨m', i, q1, q2, q3, q4⟩
      have e1 : m + 1 = m' := (nI_eq (by omega) (by omega)).mp q1
      by_cases e2 : i = m
      · rw [e2, upd_at] at q4
        exact Or.inr ⟨rfl, ((nI_eq (by omega) (by omega)).mp q4).symm⟩
      · rw [upd_ne (by omega)] at q4
        exact Or.inl ⟨m, i, rfl, by omega, by omega, q4⟩
    · rintro (⟨m', i, q1, q2, q3, q4⟩ | ⟨-, q⟩)
      · have e1 : m = m' := (nI_eq (by omega) (by omega)).mp q1
        exact ⟨m + 1, i, rfl, by omega, by omega, by rw [upd_ne (by omega)]; exact q4⟩
      · exact ⟨m + 1, m, rfl, by omega, by omega, by rw [upd_at, q]⟩
  · rw [upd_ne e]
    constructor
    · rintro ⟨m', i, q1, q2, q3, q4⟩
      rw [upd_ne (by omega)] at q4
      exact Or.inl ⟨m', i, q1, q2, q3, q4⟩
    · rintro (⟨m', i, q1, q2, q3, q4⟩ | ⟨q, -⟩)
      · exact ⟨m', i, q1, q2, q3, by rw [upd_ne (by omega)]; exact q4⟩
      · exact absurd q e
theorem fmT_wfT {τ : SS} {nt t f m : Nat} (hw : wfT τ.1 nt) (ht : t < nt) (hm : m < 3) (h3 : τ.1 3 t = nI m) (hf : f < t) (hk : τ.1 1 f = 2) : wfT (fmT τ t f m).1 nt := by
  refine ⟨hw.1, hw.2.1, fun t' ht' => ?_⟩
  rw [show (fmT τ t f m).1 1 = τ.1 1 from rfl, show (fmT τ t f m).1 2 = τ.1 2 from rfl, show (fmT τ t f m).1 3 = upd (τ.1 3) t (nI (m + 1)) from rfl, show (fmT τ t f m).1 4 = upd (τ.1 4) (3 * t + m) (nI f) from rfl]
  obtain ⟨a1, a2, a3, m', a4, a5, a6⟩ := hw.2.2 t' ht'
  refine ⟨a1, a2, a3, ?_⟩
  by_cases e : t' = t
  · subst e
    have e1 : m = m' := (nI_eq (by omega) (by omega)).mp (h3.symm.trans a5)
    subst e1
    refine ⟨m + 1, by omega, upd_at, fun i hi => ?_⟩
    by_cases q : i = m
    · subst q
      exact ⟨f, hf, upd_at, hk⟩
    · rw [upd_ne (by omega)]
      exact a6 i (by omega)
  · refine ⟨m', a4, by rw [upd_ne e]; exact a5, fun i hi => ?_⟩
    rw [upd_ne (by omega)]
    exact a6 i hi
theorem fce_cn {σ : SS} {P : Nat → Nat → Int32} {nt t m : Nat} (hT : cT σ P nt) (hF : cF P nt) (ht : t < nt) (hm : m ≤ 3) (h3 : P 3 t = nI m) : cn (lb (σ.2 9 t)) 64 = m := by
  rw [← hF t ht m h3 hm]
  refine cn_congr (lb_bool (fun u hu => ?_))
  rw [hT.2.2.1 t ht u hu, pb_t]
theorem k_countFaces {σ : SS} {P : Nat → Nat → Int32} {nt t m : Nat} (hT : cT σ P nt) (h16 : nt ≤ 16) (hF : cF P nt) (ht : t < nt) (hm : m ≤ 3) (h3 : P 3 t = nI m) : p_X6_countFaces_0 σ (nI t) = some (nI m) := by
  unfold p_X6_countFaces_0
  rw [oi_n (show t < 16 by omega) (by decide), nI_clamp (show t < 2 ^ 31 by omega), oc_s (p_bitCount _), fce_cn hT hF ht hm h3]
theorem k_hasFace {σ : SS} {P : Nat → Nat → Int32} {nt t u : Nat} (hT : cT σ P nt) (h16 : nt ≤ 16) (ht : t < nt) (hu : u < 64) : p_X6_hasFace_0 σ (nI t) (nI u) = some (b2 (pb (fce P t u))) := by
  unfold p_X6_hasFace_0
  have e : lb (σ.2 9 t) u = pb (fce P t u) := lb_bool (N := 64) (x := σ.2 9 t) (f := fun u => pb (fce P t u)) (fun u hu => by rw [hT.2.2.1 t ht u hu, pb_t]) u hu
  rw [oi_n (show t < 16 by omega) (by decide), nI_clamp (show t < 2 ^ 31 by omega), oc_s (p_has hu), e, ob_ok (b2_01 _)]
theorem fmT_cF {τ : SS} {nt t f m : Nat} (hw : wfT τ.1 nt) (hF : cF τ.1 nt) (ht : t < nt) (hm : m < 3) (h3 : τ.1 3 t = nI m) (hf : f < t) (hn : ¬ fce τ.1 t f) : cF (fmT τ t f m).1 nt := by
  have h16 := hw.1
  intro t' ht' m' hm' hm3
  rw [show (fmT τ t f m).1 3 = upd (τ.1 3) t (nI (m + 1)) from rfl] at hm'
  by_cases e : t' = t
  · subst e
    rw [upd_at] at hm'
    have e1 : m + 1 = m' := (nI_eq (by omega) (by omega)).mp hm'
    rw [← e1]
    refine (cn_more (f := fun u => pb (fce τ.1 t' u)) (k := f) (by omega) (fun j hj hne => ?_) (pb_f.mpr hn) (pb_t.mpr ((fmT_fce hw ht hm h3 t' f ht (by omega) (by omega)).mpr (Or.inr ⟨rfl, rfl⟩)))).trans (by rw [hF t' ht m h3 (by omega)])
    congr 1
    refine propext ((fmT_fce hw ht hm h3 t' j ht (by omega) (by omega)).trans ⟨fun h => h.elim id (fun q => absurd q.2 hne), Or.inl⟩)
  · rw [upd_ne e] at hm'
    rw [← hF t' ht' m' hm' hm3]
    refine cn_congr (fun j hj => ?_)
    congr 1
    refine propext ((fmT_fce hw ht hm h3 t' j ht' (by omega) (by omega)).trans ⟨fun h => h.elim id (fun q => absurd q.1 e), Or.inl⟩)
theorem k_face {σ τ : SS} {nt nm no t f m : Nat} (hI : Inv1 σ τ nt nm no) (ht : t < nt) (hm : m < 3) (h3 : τ.1 3 t = nI m) (hf : f < t) (hk : τ.1 1 f = 2) (hn : ¬ fce τ.1 t f) : ∃ σ', oc (p_X3_forget_0 σ) (fun r_78 => oc (p_X6_addFace_0 (nI t) (nI f) r_78) (fun r_87 => oc (p_X1_tellAll_0 r_87.2) (fun r_95 => some (r_87.1, r_95)))) = some (nI (m + 1), σ') ∧ Inv1 σ' (fmT τ t f m) nt nm no ∧ σ'.1 5 12 = 0 := by
  obtain ⟨⟨hw, hM, hO, ho, hT, hc, hcO, hC⟩, hF, hS⟩ := hI
  have h16 := hw.1
  have hw' := fmT_wfT hw ht hm h3 hf hk
  have hF' := fmT_cF hw hF ht hm h3 hf hn
  have hM' : wfM (fmT τ t f m).1 nt nm := wfM_up hM (Nat.le_refl _) rfl (fun _ _ => rfl) rfl rfl rfl rfl
  have hO' : wfO (fmT τ t f m).1 nt nm no := wfO_up hO (Nat.le_refl _) rfl (fun _ _ => rfl) rfl rfl rfl rfl rfl rfl
  obtain ⟨s0, es0⟩ : ∃ z, z = sL (sI σ 5 12 0) 9 t (σ.2 9 t ||| jshl 1 (nI f)) := ⟨_, rfl⟩
  have h15 : s0.1 1 5 = nI nt := by rw [es0]; exact hT.1
  have h8 : ∀ t', t' < nt → s0.1 8 t' = (fmT τ t f m).1 2 t' := fun t' ht' => by rw [es0]; exact (hT.2.1 t' ht').2
  have h7 : ∀ t', t' < nt → s0.1 7 t' = (fmT τ t f m).1 1 t' := fun t' ht' => by rw [es0]; exact (hT.2.1 t' ht').1
  have r9 : s0.2 9 = vp_updL (σ.2 9) t (σ.2 9 t ||| jshl 1 (nI f)) := by rw [es0]; rfl
  have h9 : ∀ t', t' < nt → ∀ u, u < 64 → (lb (s0.2 9 t') u = true ↔ fce (fmT τ t f m).1 t' u) := fun t' ht' u hu => by
    rw [fmT_fce hw ht hm h3 t' u ht' (by omega) (by omega), r9]
    unfold vp_updL
    by_cases e : t' = t
    · subst e
      rw [if_pos rfl, lb_with (show f < 64 by omega), Bool.or_eq_true, hT.2.2.1 t' ht' u hu]
      exact ⟨fun h => h.elim Or.inl (fun q => Or.inr ⟨rfl, by simpa using q⟩), fun h => h.elim Or.inl (fun q => Or.inr (by simp [q.2]))⟩
    · rw [if_neg e, hT.2.2.1 t' ht' u hu]
      exact ⟨Or.inl, fun h => h.elim id (fun q => absurd q.1 e)⟩
  obtain ⟨g, e1, e2⟩ := k_tellAbove hw' h15 h8 h9
  have hT1 : cT (pL s0 10 g) (fmT τ t f m).1 nt := by
    refine ⟨h15, fun t ht => ⟨h7 t ht, h8 t ht⟩, fun t ht u hu => ?_, fun t' ht1 ht2 => ?_, fun u hu => ?_, fun t ht u hu => ?_⟩
    · rw [pL_ne _ _ (by decide : (9 : Nat) ≠ 10)]; exact h9 t ht u hu
    · rw [pL_ne _ _ (by decide : (9 : Nat) ≠ 10), r9]
      unfold vp_updL
      rw [if_neg (by omega)]
      exact hT.2.2.2.1 t' (by omega) ht2
    · rw [pL_ne _ _ (by decide : (1 : Nat) ≠ 10), show s0.2 1 4 = σ.2 1 4 by rw [es0]; rfl]; exact hT.2.2.2.2.1 u hu
    · rw [pL_at]; exact e2 t ht u hu
  have hc1 : cM (pL s0 10 g) (fmT τ t f m).1 nm := cM_P (cM_c hc (by rw [es0]; rfl) (by rw [es0]; rfl) (by rw [es0]; rfl) (by rw [es0]; rfl) (by rw [es0]; rfl) (by rw [es0]; rfl) (by rw [es0]; rfl) (by rw [es0]; rfl)) rfl rfl rfl rfl
  obtain ⟨s', q1, q2, q3⟩ := k_tellAll hw' hM' hT1 hc1
  have h3' : (fmT τ t f m).1 3 t = nI (m + 1) := upd_at
  have hadd : p_X6_addFace_0 (nI t) (nI f) (sI σ 5 12 0) = some (nI (m + 1), pL s0 10 g) := by
    rw [p_X6_addFace_0, oi_n (show t < 16 by omega) (by decide), nI_clamp (show t < 2 ^ 31 by omega), with_s, oc_s rfl, oi_n (show t < 16 by omega) (by decide), os_s, show (sI σ 5 12 0).2 9 t = σ.2 9 t from rfl, ← es0, oc_s e1, oc_s (k_countFaces hT1 h16 hF' ht (by omega) h3')]
  refine ⟨s', ?_, ⟨⟨hw', hM', hO', Or.inl rfl, kq_cT q2 hT1, kq_cM q2 hc1, ?_, q3⟩, hF', wfS_c hS rfl rfl⟩, ?_⟩
  · rw [oc_s (show p_X3_forget_0 σ = some (sI σ 5 12 0) from rfl), oc_s hadd, oc_s q1]
  · refine cO_P (cO_c hcO ?_ ?_ ?_ ?_ ?_ ?_) rfl rfl rfl rfl rfl
    · rw [q2.2 4 (by decide), es0]; rfl
    · rw [q2.2 19 (by decide), es0]; rfl
    · rw [q2.2 20 (by decide), es0]; rfl
    · rw [q2.2 21 (by decide), es0]; rfl
    · rw [q2.2 22 (by decide), es0]; rfl
    · rw [q2.2 23 (by decide), es0]; rfl
  · rw [q2.2 5 (by decide), es0]; rfl
theorem q_face {σ τ : SS} {nt nm no : Nat} (hI : Inv1 σ τ nt nm no) (v1 v2 : Int32) : ∃ r σ' τ', p_X7_face_0 v1 v2 σ = some (r, σ') ∧ p_X8_face_0 v1 v2 τ = some (r, τ') ∧ Inv1 σ' τ' nt nm no ∧ chg σ τ σ' τ' := by
  obtain ⟨⟨hw, hM, hO, ho, hT, hc, hcO, hC⟩, hF, hS⟩ := id hI
  have h16 := hw.1
  have keep : ∀ r : Int32, some (r, σ) = some (r, σ) ∧ some (r, τ) = some (r, τ) ∧ Inv1 σ τ nt nm no ∧ chg σ τ σ τ := fun r => ⟨rfl, rfl, hI, Or.inl ⟨rfl, rfl⟩⟩
  unfold p_X7_face_0 p_X8_face_0
  rcases m_isType hw v1 with ⟨t, ht, rfl, e1⟩ | ⟨hn, e1⟩
  · rw [oc_s e1, oc_s ((k_knowsT hT h16 _).1 ⟨t, ht, rfl⟩), if_neg n10, if_neg n10]
    rcases m_isType hw v2 with ⟨f, hf, rfl, e2⟩ | ⟨hn, e2⟩
    · rw [oc_s e2, oc_s ((k_knowsT hT h16 _).1 ⟨f, hf, rfl⟩), if_neg n10, if_neg n10, oc_s (k_isFace hT h16 hf), oi_n (show f < 16 by omega) (by decide), nI_clamp (show f < 2 ^ 31 by omega)]
      by_cases hk : τ.1 1 f = 2
      · rw [decide_eq_true hk, if_neg (show ¬ b2 true = 0 by decide), if_pos hk]
        by_cases hft : f < t
        · rw [if_pos (nI_lt hft (by omega)), if_pos (nI_lt hft (by omega)), oc_s (k_hasFace hT h16 ht (show f < 64 by omega))]
          obtain ⟨-, -, -, m, hm, h3, -⟩ := hw.2.2 t ht
          have h39 := m_face39 (f := f) hw ht hm h3 m 0 100000 (by omega) (by omega) (fun i' hi' => absurd hi' (Nat.not_lt_zero _))
          by_cases hfc : fce τ.1 t f
          · rw [pb_t.mpr hfc, if_neg (show ¬ b2 true = 0 by decide)]
            exact ⟨-103, σ, τ, rfl, h39.1 hfc, hI, Or.inl ⟨rfl, rfl⟩⟩
          · rw [pb_f.mpr hfc, if_pos (show b2 false = 0 from rfl), oc_s (k_countFaces hT h16 hF ht hm h3)]
            by_cases hm3 : m < 3
            · rw [if_pos (show nI m < 3 from nI_lt (b := 3) hm3 (by decide))]
              obtain ⟨σ', q1, q2, q3⟩ := k_face hI ht hm3 h3 hft hk hfc
              exact ⟨nI (m + 1), σ', _, q1, (h39.2 hfc).2 hm3, q2, Or.inr ⟨q3, rfl⟩⟩
            · have e : m = 3 := by omega
              rw [if_neg (show ¬ nI m < 3 by rw [e]; decide)]
              exact ⟨-104, σ, τ, rfl, (h39.2 hfc).1 e, hI, Or.inl ⟨rfl, rfl⟩⟩
        · rw [if_neg (nI_nlt (by omega) (by omega)), if_neg (nI_nlt (by omega) (by omega))]
          exact ⟨-102, σ, τ, keep _⟩
      · rw [decide_eq_false hk, if_pos (show b2 false = 0 from rfl), if_neg hk]
        exact ⟨-102, σ, τ, keep _⟩
    · rw [oc_s e2, oc_s ((k_knowsT hT h16 _).2 hn), if_pos rfl, if_pos rfl]
      exact ⟨-101, σ, τ, keep _⟩
  · rw [oc_s e1, oc_s ((k_knowsT hT h16 _).2 hn), if_pos rfl, if_pos rfl]
    exact ⟨-101, σ, τ, keep _⟩
