/-! pure: faults -/
theorem faultsOfMade_6 {P : Nat → Nat → Int32} {nt nm no t n b : Nat} (hW : WF P nt nm no) {σ : SS} (hC : CI σ P nt nm no) (hg : gC σ P nt nm) (ht : t < nt) (hn : n < 10) (hb : b < 4) : ∀ (r k fuel : Nat), k + r = nt → r < fuel → p_X3_faultsOfMade_6 σ fuel (nI t) (nI n) (cd b) (nI (cn (fun c => pb (LG P nt nm 1 c 0 ∧ und P c t ∧ isH P nt nm c t (nI n) (cd b))) k)) (nI k) = some (nI (fcM P nt nm (LG P nt nm) t (nI n) nt b)) := by
  have h16 := hW.1.1
  have hM := hW.2.1
  intro r
  induction r with
  | zero =>
    intro k fuel hk hf
    obtain ⟨f, rfl⟩ : ∃ f, fuel = f + 1 := ⟨fuel - 1, by omega⟩
    have e : k = nt := by omega
    subst e
    rw [p_X3_faultsOfMade_6]
    try dsimp only
    unfold p_X3_faultsOfMade_82 p_X3_faultsOfMade_93
    rw [oc_s (size_T hC.1), if_pos (nI_le (Nat.le_refl _) (by omega))]
    have hle := cn_le (fun c => pb (LG P k nm 1 c 0 ∧ und P c t ∧ isH P k nm c t (nI n) (cd b))) k
    have hmin : ∀ x, x ≤ 16 → (if (1 : Int32) < nI x then (1 : Int32) else nI x) = nI (min x 1) := by decide +kernel
    unfold fcM
    rcases (show b = 0 ∨ b = 1 ∨ b = 2 ∨ b = 3 by omega) with rfl | rfl | rfl | rfl
    · rw [if_pos (show cd 0 = -2 by decide), hmin _ (by omega), if_pos (show 0 < 2 by decide)]
    · rw [if_neg (show ¬ cd 1 = -2 by decide), if_pos (show cd 1 = -3 by decide), hmin _ (by omega), if_pos (show 1 < 2 by decide)]
    · rw [if_neg (show ¬ cd 2 = -2 by decide), if_neg (show ¬ cd 2 = -3 by decide), if_neg (show ¬ 2 < 2 by decide)]
    · rw [if_neg (show ¬ cd 3 = -2 by decide), if_neg (show ¬ cd 3 = -3 by decide), if_neg (show ¬ 3 < 2 by decide)]
  | succ r ih =>
    intro k fuel hk hf
    obtain ⟨f, rfl⟩ : ∃ f, fuel = f + 1 := ⟨fuel - 1, by omega⟩
    have hkn : k < nt := by omega
    have yes : LG P nt nm 1 k 0 ∧ und P k t ∧ isH P nt nm k t (nI n) (cd b) → p_X3_faultsOfMade_6 σ f (nI t) (nI n) (cd b) (nI (cn (fun c => pb (LG P nt nm 1 c 0 ∧ und P c t ∧ isH P nt nm c t (nI n) (cd b))) k + 1)) (nI (k + 1)) = some (nI (fcM P nt nm (LG P nt nm) t (nI n) nt b)) := by
      intro h
      rw [← (cn_s (f := fun c => pb (LG P nt nm 1 c 0 ∧ und P c t ∧ isH P nt nm c t (nI n) (cd b)))).1 (pb_t.mpr h)]
      exact ih (k + 1) f (by omega) (by omega)
    have no : ¬ (LG P nt nm 1 k 0 ∧ und P k t ∧ isH P nt nm k t (nI n) (cd b)) → p_X3_faultsOfMade_6 σ f (nI t) (nI n) (cd b) (nI (cn (fun c => pb (LG P nt nm 1 c 0 ∧ und P c t ∧ isH P nt nm c t (nI n) (cd b))) k)) (nI (k + 1)) = some (nI (fcM P nt nm (LG P nt nm) t (nI n) nt b)) := by
      intro h
      rw [← (cn_s (f := fun c => pb (LG P nt nm 1 c 0 ∧ und P c t ∧ isH P nt nm c t (nI n) (cd b)))).2 (pb_f.mpr h)]
      exact ih (k + 1) f (by omega) (by omega)
    rw [p_X3_faultsOfMade_6]
    try dsimp only
    unfold p_X3_faultsOfMade_64
    rw [oc_s (size_T hC.1), if_neg (nI_ge hkn (by omega)), oc_s (p_has (show k < 64 by omega)), gC_m hg, nI_1, nI_1]
    by_cases h1 : LG P nt nm 1 k 0
    · rw [pb_t.mpr h1, if_neg (show ¬ b2 true = 0 by decide), oc_s (k_isUnder hC.1 h16 hkn (show t < 64 by omega))]
      by_cases h2 : und P k t
      · obtain ⟨rr, q1, q2⟩ := k_choose (c := k) (t := t) (n := n) h16 hM hC.2.1 hC.2.2.2 hkn ht hn
        rw [pb_t.mpr h2, if_neg (show ¬ b2 true = 0 by decide), oc_s q1]
        by_cases h3 : rr = cd b
        · rw [if_pos h3]
          exact yes ⟨h1, h2, by rw [← h3]; exact q2⟩
        · rw [if_neg h3]
          exact no (fun q => h3 (isH_one hM (by omega) (by omega) q2 q.2.2))
      · rw [pb_f.mpr h2, if_pos (show b2 false = 0 from rfl)]
        exact no (fun q => h2 q.2.1)
    · rw [pb_f.mpr h1, if_pos (show b2 false = 0 from rfl)]
      exact no (fun q => h1 q.1)
theorem k_faultsOf {P : Nat → Nat → Int32} {nt nm no o b : Nat} (hW : WF P nt nm no) {σ : SS} (hC : CI σ P nt nm no) (hg : gC σ P nt nm) (ho : o < no) (hb : b < 4) : p_X3_faultsOf_0 σ (nI o) (cd b) = some (nI (fcN P nt nm (LG P nt nm) o b)) := by
  obtain ⟨hw, hM, hO⟩ := id hW
  have h16 := hw.1
  have h48 := hM.1
  have h160 := hO.1
  obtain ⟨a1, a2, a3⟩ := k_opab hC.2.2.1 h160 ho
  unfold p_X3_faultsOf_0
  rw [oc_s a1, oc_s a2, oc_s a3]
  have hz : ¬ (P 11 o = 1 ∨ P 11 o = 4) → ¬ P 11 o = 2 → ¬ P 11 o = 3 → fcN P nt nm (LG P nt nm) o b = 0 := fun h1 h2 h3 => by unfold fcN; rw [if_neg h1, if_neg h2, if_neg h3]
  have hmade : (P 11 o = 1 ∨ P 11 o = 4) → ∀ t n, t < nt → n < 10 → P 12 o = nI t → P 13 o = nI n → p_X3_faultsOf_56 σ (cd b) (P 12 o) (P 13 o) = some (nI (fcN P nt nm (LG P nt nm) o b)) := by
    intro hk t n ht hn h12 h13
    have e := faultsOfMade_6 hW hC hg ht hn hb nt 0 100000 (by omega) (by omega)
    have e' : p_X3_faultsOfMade_0 σ (nI t) (nI n) (cd b) = some (nI (fcM P nt nm (LG P nt nm) t (nI n) nt b)) := e
    unfold p_X3_faultsOf_56 fcN
    rw [if_pos hk, h12, h13, nI_clamp (show t < 2 ^ 31 by omega), oc_s e']
  rcases hO.2.2.2 o ho with ⟨k, t, ht, h12, h1t⟩ | ⟨k, t, n, ht, hn, h12, h13⟩ | ⟨k, a, m, ha, hm, h12, h13, h7⟩ | ⟨k, a, ha, h12⟩ | ⟨k, n, hn, h13⟩
  · rw [hz (by rw [k]; decide) (by rw [k]; decide) (by rw [k]; decide), k, if_neg (show ¬ (0 : Int32) = 1 by decide), if_neg (show ¬ (0 : Int32) = 2 by decide), if_neg (show ¬ (0 : Int32) = 3 by decide), if_neg (show ¬ (0 : Int32) = 4 by decide)]
    rfl
  · rcases k with k | k | k | k
    · rw [k, if_pos rfl]
      exact hmade (Or.inl k) t n ht hn h12 h13
    · obtain ⟨r0, q1, q2⟩ := k_choose (c := t) (t := t) (n := n) h16 hM hC.2.1 hC.2.2.2 ht ht hn
      have e : fcN P nt nm (LG P nt nm) o b = b1 (isH P nt nm t t (nI n) (cd b)) := by
        unfold fcN
        rw [if_neg (by rw [k]; decide), if_pos k, h12, h13, nI_clamp (show t < 2 ^ 31 by omega)]
      rw [k, if_neg (show ¬ (2 : Int32) = 1 by decide), if_pos rfl, h12, h13, oc_s q1, e]
      by_cases h : r0 = cd b
      · rw [if_pos h, b1_t (by rw [← h]; exact q2)]; rfl
      · rw [if_neg h, b1_f (fun w => h (isH_one hM (by omega) (by omega) q2 w))]; rfl
    · obtain ⟨f0, r0, q1, q2, q3⟩ := k_chooseS h16 hM hC.2.1 hC.2.2.2 ht hn
      have e : fcN P nt nm (LG P nt nm) o b = b1 (sF P nt nm t (nI n) b) := by
        unfold fcN
        rw [if_neg (by rw [k]; decide), if_neg (by rw [k]; decide), if_pos k, h12, h13, nI_clamp (show t < 2 ^ 31 by omega)]
      have key : r0 = cd b ↔ sF P nt nm t (nI n) b := by
        have one : ∀ r', isF P nt nm t (nI n) r' → r' = f0 := fun r' w => isF_one hM (by omega) w q1
        rcases q3 with ⟨g1, g2⟩ | ⟨f, hf, g1, ⟨g2, g3⟩ | ⟨g2, g3⟩⟩
        · rw [g2]
          constructor
          · intro w
            exact Or.inl ⟨(cd_inj 0 (by decide) b hb w).symm, by rw [← g1]; exact q1⟩
          · rintro (⟨w, -⟩ | ⟨-, f', w1, w2, -⟩)
            · rw [w]; rfl
            · have := (one _ w2).trans g1
              exact absurd this.symm (nI_m1 (by omega))
        · rw [g3]
          constructor
          · intro w
            exact absurd (cd_neg b hb) (by rw [← w]; exact nI_pos (by omega))
          · rintro (⟨-, w⟩ | ⟨-, f', w1, w2, w3⟩)
            · have := (one _ w).trans g1
              exact absurd this (nI_m1 (by omega))
            · have : f' = f := (nI_eq (by omega) (by omega)).mp ((one _ w2).trans g1)
              rw [this] at w3
              exact absurd g2 w3
        · rw [g3]
          constructor
          · intro w
            exact Or.inr ⟨(cd_inj 1 (by decide) b hb w).symm, f, hf, by rw [← g1]; exact q1, g2⟩
          · rintro (⟨-, w⟩ | ⟨w, -⟩)
            · have := (one _ w).trans g1
              exact absurd this (nI_m1 (by omega))
            · rw [w]; rfl
      rw [k, if_neg (show ¬ (3 : Int32) = 1 by decide), if_neg (show ¬ (3 : Int32) = 2 by decide), if_pos rfl, h12, h13, oc_s q2, e]
      by_cases h : r0 = cd b
      · rw [if_pos h, b1_t (key.mp h)]; rfl
      · rw [if_neg h, b1_f (fun w => h (key.mpr w))]; rfl
    · rw [k, if_neg (show ¬ (4 : Int32) = 1 by decide), if_neg (show ¬ (4 : Int32) = 2 by decide), if_neg (show ¬ (4 : Int32) = 3 by decide), if_pos rfl]
      exact hmade (Or.inr k) t n ht hn h12 h13
  · rw [hz (by rw [k]; decide) (by rw [k]; decide) (by rw [k]; decide), k, if_neg (show ¬ (5 : Int32) = 1 by decide), if_neg (show ¬ (5 : Int32) = 2 by decide), if_neg (show ¬ (5 : Int32) = 3 by decide), if_neg (show ¬ (5 : Int32) = 4 by decide)]
    rfl
  · rw [hz (by rw [k]; decide) (by rw [k]; decide) (by rw [k]; decide), k, if_neg (show ¬ (6 : Int32) = 1 by decide), if_neg (show ¬ (6 : Int32) = 2 by decide), if_neg (show ¬ (6 : Int32) = 3 by decide), if_neg (show ¬ (6 : Int32) = 4 by decide)]
    rfl
  · rw [hz (by rw [k]; decide) (by rw [k]; decide) (by rw [k]; decide), k, if_neg (show ¬ (7 : Int32) = 1 by decide), if_neg (show ¬ (7 : Int32) = 2 by decide), if_neg (show ¬ (7 : Int32) = 3 by decide), if_neg (show ¬ (7 : Int32) = 4 by decide)]
    rfl
/-- the kinds of FAULTS -/
theorem rngF {α : Type} (v : Int32) (A B : α) : (∃ b, b < 4 ∧ v = cd b ∧ (if v < (-5) then A else if v ≤ (-2) then B else A) = B ∧ p_X8_in_0 v (-5) (-2) = some 1) ∨ ((if v < (-5) then A else if v ≤ (-2) then B else A) = A ∧ p_X8_in_0 v (-5) (-2) = some 0) := by
  unfold p_X8_in_0 p_X8_in_14 p_X8_in_15
  rw [ob_ok (Or.inl rfl), ob_ok (Or.inr rfl)]
  by_cases h1 : v < (-5)
  · rw [if_pos h1, if_pos h1]
    exact Or.inr ⟨rfl, rfl⟩
  · rw [if_neg h1, if_neg h1]
    by_cases h2 : v ≤ (-2)
    · rw [if_pos h2, if_neg (Int32.not_lt.mpr h2)]
      have a1 := Int32.le_iff_toInt_le.mp h2
      have a2 := Int32.le_iff_toInt_le.mp (Int32.not_lt.mp h1)
      have e5 : (-5 : Int32).toInt = -5 := by decide
      have e2 : (-2 : Int32).toInt = -2 := by decide
      rw [e2] at a1
      rw [e5] at a2
      rcases (show v.toInt = -2 ∨ v.toInt = -3 ∨ v.toInt = -4 ∨ v.toInt = -5 by omega) with e | e | e | e
      · exact Or.inl ⟨0, by decide, Int32.toInt_inj.mp (e.trans (by decide)), rfl, rfl⟩
      · exact Or.inl ⟨1, by decide, Int32.toInt_inj.mp (e.trans (by decide)), rfl, rfl⟩
      · exact Or.inl ⟨2, by decide, Int32.toInt_inj.mp (e.trans (by decide)), rfl, rfl⟩
      · exact Or.inl ⟨3, by decide, Int32.toInt_inj.mp (e.trans (by decide)), rfl, rfl⟩
    · rw [if_neg h2, if_pos (Int32.not_le.mp h2)]
      exact Or.inr ⟨rfl, rfl⟩
theorem q_faults {σ τ : SS} {nt nm no : Nat} (hI : Inv σ τ nt nm no) (v1 v2 v3 : Int32) : ∃ r σ' τ', p_X7_faults_0 v1 v2 v3 σ = some (r, σ') ∧ p_X8_faults_0 v1 v2 v3 τ = some (r, τ') ∧ Inv σ' τ' nt nm no := by
  unfold p_X7_faults_0 p_X8_faults_0
  rcases b_isOp hI.1 v1 v2 with ⟨m, c, i, o, hm, h9, hc, hi, h10, ho, rfl, rfl, e1, e2, e3⟩ | ⟨e1, e2 | ⟨e2, e3⟩⟩
  · rw [oc_s e1, oc_s e2, if_neg n10, if_neg n10, oc_s e3, if_neg n10]
    generalize hB : (oc (p_X3_refresh_0 σ) (fun r_45 => oc (p_X3_reached_0 r_45) (fun r_52 => oc (p_X0_has_0 r_52 (nI m)) (fun r_56 => if r_56 = 0 then some (0, r_45) else oc (p_X5_at_0 r_45 (nI m) (nI i)) (fun r_74 => oc (p_X3_faultsOf_0 r_45 r_74 v3) (fun r_78 => some (r_78, r_45))))))) = B
    rcases rngF v3 (p_X7_faults_38 σ) B with ⟨b, hb, rfl, k1, k2⟩ | ⟨k1, k2⟩
    · rw [k1, ← hB]
      obtain ⟨σ', τ', q1, q2, q3, q4, q5, q6⟩ := i_both hI
      have hW := Inv1_W q3.1
      have hC := Inv1_C q3.1
      have h48 := hW.2.1.1
      have h160 := hW.2.2.1
      have h9' : τ'.1 9 m = nI c := by rw [q6.1 9 (by decide) (by decide)]; exact h9
      have h10' : τ'.1 10 (24 * m + i) = nI o := by rw [q6.1 10 (by decide) (by decide)]; exact h10
      have hat : p_X5_at_0 σ' (nI m) (nI i) = some (nI o) := by rw [k_opAt hC.2.2.1 h48 hm h9' hc hi, h10']
      have hof : ofM τ'.1 m o := ⟨c, i, h9', hc, hi, h10', by omega⟩
      rw [oc_s q1, oc_s q2, oc_s k2, if_neg n10, c24, oi_n (show 24 * m + i < 1152 by omega) (by decide), nI_clamp (show 24 * m + i < 2 ^ 31 by omega), h10', cd_ix o (by omega) b hb, oi_n (show 4 * o + b < 640 by omega) (by decide), nI_clamp (show 4 * o + b < 2 ^ 31 by omega)]
      obtain ⟨f1, f2⟩ := q5.2.2.1 o b (by omega) hb
      rw [oc_s (show p_X3_reached_0 σ' = some (σ'.2 5 9) from rfl), oc_s (p_has (show m < 64 by omega)), gC_r q4]
      by_cases hr : LG τ'.1 nt nm 0 m 0
      · rw [pb_t.mpr hr, if_neg (show ¬ b2 true = 0 by decide), oc_s hat, oc_s (k_faultsOf hW hC q4 ho hb), f1 ⟨m, hm, hr, hof⟩]
        exact ⟨_, σ', τ', rfl, rfl, q3⟩
      · rw [pb_f.mpr hr, if_pos (show b2 false = 0 from rfl), f2 (fun ⟨m', w1, w2, w3⟩ => hr (by rw [own_op q3.1.2.2 hm w1 hof w3]; exact w2))]
        exact ⟨_, σ', τ', rfl, rfl, q3⟩
    · obtain ⟨τ', q2, q3, -, -⟩ := i_freshen hI
      rw [k1, oc_s q2, oc_s k2, if_pos rfl]
      exact ⟨-102, σ, τ', rfl, rfl, q3⟩
  · rw [oc_s e1, oc_s e2, if_pos rfl, if_pos rfl]
    exact ⟨-101, σ, τ, rfl, rfl, hI⟩
  · rw [oc_s e1, oc_s e2, if_pos rfl, if_neg n10, oc_s e3, if_pos rfl]
    exact ⟨-101, σ, τ, rfl, rfl, hI⟩
