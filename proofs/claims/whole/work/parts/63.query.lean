/-! pure: under, found, chosen: both sides answer alike -/
theorem m_in0 {n : Nat} (hn : n < 2 ^ 30) (v : Int32) : (∃ t, t < n ∧ v = nI t ∧ p_X8_in_0 v 0 (nI n - 1) = some 1) ∨ ((¬ ∃ t, t < n ∧ v = nI t) ∧ p_X8_in_0 v 0 (nI n - 1) = some 0) := by
  unfold p_X8_in_0
  rcases pk_ix v (n := n) (by omega) with h | h | ⟨t, ht, h⟩
  · refine Or.inr ⟨?_, ?_⟩
    · rintro ⟨t, ht, e⟩
      rw [e] at h
      exact nI_pos (by omega) h
    · rw [if_pos h]; exact ob_ok (Or.inl rfl)
  · refine Or.inr ⟨?_, ?_⟩
    · rintro ⟨t, ht, e⟩
      rw [e] at h
      exact nI_ge ht (by omega) h
    · have h0 : ¬ v < 0 := Int32.not_lt.mpr (Int32.le_trans (nI_pos' (n := n) (by omega)) h)
      have h1 : nI n - 1 < v := by
        cases n with
        | zero => exact Int32.lt_of_lt_of_le (show nI 0 - 1 < nI 0 by decide) h
        | succ k => rw [nI_pred]; exact Int32.lt_of_lt_of_le (nI_lt (Nat.lt_succ_self k) (by omega)) h
      rw [if_neg h0, if_pos h1]; exact ob_ok (Or.inl rfl)
  · refine Or.inl ⟨t, ht, h, ?_⟩
    obtain ⟨k, rfl⟩ : ∃ k, n = k + 1 := ⟨n - 1, by omega⟩
    rw [h, nI_pred, if_neg (nI_pos (by omega)), if_neg (nI_nlt (by omega) (by omega))]
    exact ob_ok (Or.inr rfl)
theorem m_isType {τ : SS} {nt : Nat} (hw : wfT τ.1 nt) (v : Int32) : (∃ t, t < nt ∧ v = nI t ∧ p_X8_isType_0 τ v = some 1) ∨ ((¬ ∃ t, t < nt ∧ v = nI t) ∧ p_X8_isType_0 τ v = some 0) := by
  have h16 := hw.1
  unfold p_X8_isType_0
  rw [hw.2.1]
  rcases m_in0 (n := nt) (by omega) v with ⟨t, h1, h2, h3⟩ | ⟨h1, h2⟩
  · exact Or.inl ⟨t, h1, h2, by rw [oc_s h3]; exact ob_ok (Or.inr rfl)⟩
  · exact Or.inr ⟨h1, by rw [oc_s h2]; exact ob_ok (Or.inl rfl)⟩
theorem m_isMember {τ : SS} {nt nm : Nat} (hw : wfM τ.1 nt nm) (v : Int32) : (∃ t, t < nm ∧ v = nI t ∧ p_X8_isMember_0 τ v = some 1) ∨ ((¬ ∃ t, t < nm ∧ v = nI t) ∧ p_X8_isMember_0 τ v = some 0) := by
  have h48 := hw.1
  unfold p_X8_isMember_0
  rw [hw.2.1]
  rcases m_in0 (n := nm) (by omega) v with ⟨t, h1, h2, h3⟩ | ⟨h1, h2⟩
  · exact Or.inl ⟨t, h1, h2, by rw [oc_s h3]; exact ob_ok (Or.inr rfl)⟩
  · exact Or.inr ⟨h1, by rw [oc_s h2]; exact ob_ok (Or.inl rfl)⟩
theorem ge_neg {n : Nat} (hn : n < 2 ^ 30) {v : Int32} (h : ¬ ∃ t, t < n ∧ v = nI t) : v < 0 ∨ (¬ v < 0 ∧ nI n ≤ v) := by
  rcases pk_ix v (n := n) (by omega) with q | q | q
  · exact Or.inl q
  · exact Or.inr ⟨Int32.not_lt.mpr (Int32.le_trans (nI_pos' (n := n) (by omega)) q), q⟩
  · exact absurd q h
theorem k_knowsT {σ : SS} {P : Nat → Nat → Int32} {nt : Nat} (hT : cT σ P nt) (h16 : nt ≤ 16) (v : Int32) : ((∃ t, t < nt ∧ v = nI t) → p_X6_knows_0 σ v = some 1) ∧ ((¬ ∃ t, t < nt ∧ v = nI t) → p_X6_knows_0 σ v = some 0) := by
  constructor
  · rintro ⟨t, ht, rfl⟩
    unfold p_X6_knows_0
    rw [if_neg (nI_pos (by omega)), hT.1, if_neg (nI_ge ht (by omega))]
    exact ob_ok (Or.inr rfl)
  · intro h
    unfold p_X6_knows_0
    rcases ge_neg (by omega) h with q | ⟨q1, q2⟩
    · rw [if_pos q]; exact ob_ok (Or.inl rfl)
    · rw [if_neg q1, hT.1, if_pos q2]; exact ob_ok (Or.inl rfl)
theorem k_knowsM {σ : SS} {P : Nat → Nat → Int32} {nm : Nat} (hc : cM σ P nm) (h48 : nm ≤ 48) (v : Int32) : ((∃ t, t < nm ∧ v = nI t) → p_X4_knows_0 σ v = some 1) ∧ ((¬ ∃ t, t < nm ∧ v = nI t) → p_X4_knows_0 σ v = some 0) := by
  constructor
  · rintro ⟨t, ht, rfl⟩
    unfold p_X4_knows_0
    rw [if_neg (nI_pos (by omega)), hc.1, if_neg (nI_ge ht (by omega))]
    exact ob_ok (Or.inr rfl)
  · intro h
    unfold p_X4_knows_0
    rcases ge_neg (by omega) h with q | ⟨q1, q2⟩
    · rw [if_pos q]; exact ob_ok (Or.inl rfl)
    · rw [if_neg q1, hc.1, if_pos q2]; exact ob_ok (Or.inl rfl)
theorem m_inN (v : Int32) : (∃ n, n < 10 ∧ v = nI n ∧ p_X8_in_0 v 0 9 = some 1) ∨ ((¬ ∃ n, n < 10 ∧ v = nI n) ∧ p_X8_in_0 v 0 9 = some 0) := m_in0 (n := 10) (by decide) v
theorem k_isName (v : Int32) : ((∃ n, n < 10 ∧ v = nI n) → p_X7_isName_0 v = some 1) ∧ ((¬ ∃ n, n < 10 ∧ v = nI n) → p_X7_isName_0 v = some 0) := by
  constructor
  · rintro ⟨t, ht, rfl⟩
    unfold p_X7_isName_0
    rw [if_neg (nI_pos (by omega)), if_neg (show ¬ (10 : Int32) ≤ nI t from nI_ge (b := 10) ht (by omega))]
    exact ob_ok (Or.inr rfl)
  · intro h
    unfold p_X7_isName_0
    rcases ge_neg (n := 10) (by decide) h with q | ⟨q1, q2⟩
    · rw [if_pos q]; exact ob_ok (Or.inl rfl)
    · rw [if_neg q1, if_pos (show (10 : Int32) ≤ v from q2)]; exact ob_ok (Or.inl rfl)
theorem k_isUnder {σ : SS} {P : Nat → Nat → Int32} {nt t u : Nat} (hT : cT σ P nt) (h16 : nt ≤ 16) (ht : t < nt) (hu : u < 64) : p_X6_isUnder_0 σ (nI t) (nI u) = some (b2 (pb (und P t u))) := by
  unfold p_X6_isUnder_0
  by_cases e : t = u
  · rw [if_pos (by rw [e]), pb_t.mpr (show und P t u from Or.inl e)]
    exact ob_ok (Or.inr rfl)
  · rw [if_neg (fun q => e ((nI_eq (by omega) (by omega)).mp q)), oi_n (show t < 16 by omega) (by decide), nI_clamp (show t < 2 ^ 31 by omega), oc_s (p_has hu)]
    have hb := hT.2.2.2.2.2 t ht u hu
    cases h : lb (σ.2 10 t) u with
    | false =>
      rw [if_pos (show b2 false = 0 from rfl), pb_f.mpr (show ¬ und P t u from fun q => q.elim e (fun q => by have := hb.mpr q; rw [h] at this; cases this))]
      exact ob_ok (Or.inl rfl)
    | true =>
      rw [if_neg (show ¬ b2 true = 0 by decide), pb_t.mpr (show und P t u from Or.inr (hb.mp h))]
      exact ob_ok (Or.inr rfl)
theorem q_under {σ τ : SS} {nt : Nat} (hw : wfT τ.1 nt) (ho : okU τ.1 nt) (hT : cT σ τ.1 nt) (v1 v2 : Int32) : ∃ r τ', p_X7_under_0 σ v1 v2 = some r ∧ p_X8_under_0 v1 v2 τ = some (r, τ') ∧ kp sV τ τ' ∧ okU τ'.1 nt := by
  have h16 := hw.1
  unfold p_X7_under_0 p_X8_under_0
  rcases m_isType hw v1 with ⟨t, ht, rfl, e1⟩ | ⟨hn, e1⟩
  · rw [oc_s e1, oc_s ((k_knowsT hT h16 _).1 ⟨t, ht, rfl⟩), if_neg (by decide), if_neg (by decide)]
    rcases m_isType hw v2 with ⟨u, hu, rfl, e2⟩ | ⟨hn, e2⟩
    · obtain ⟨τ', q1, q2, q3, q4⟩ := m_isUnder hw ho ht (show u < 16 by omega)
      rw [oc_s e2, oc_s ((k_knowsT hT h16 _).1 ⟨u, hu, rfl⟩), if_neg (by decide), if_neg (by decide), oc_s q1, oc_s (k_isUnder hT h16 ht (show u < 64 by omega))]
      dsimp only
      by_cases h : und τ.1 t u
      · rw [pb_t.mpr h, if_neg (show ¬ b2 true = 0 by decide), if_neg (show ¬ b2 true = 0 by decide)]
        exact ⟨1, τ', rfl, rfl, kp_up sUV q2, Or.inr ⟨q3, q4⟩⟩
      · rw [pb_f.mpr h, if_pos (show b2 false = 0 from rfl), if_pos (show b2 false = 0 from rfl)]
        exact ⟨0, τ', rfl, rfl, kp_up sUV q2, Or.inr ⟨q3, q4⟩⟩
    · rw [oc_s e2, oc_s ((k_knowsT hT h16 _).2 hn), if_pos rfl, if_pos rfl]
      exact ⟨-101, τ, rfl, rfl, kp_rf sV τ, ho⟩
  · rw [oc_s e1, oc_s ((k_knowsT hT h16 _).2 hn), if_pos rfl, if_pos rfl]
    exact ⟨-101, τ, rfl, rfl, kp_rf sV τ, ho⟩
theorem k_find {σ : SS} {t n : Nat} (ht : t < 16) (hn : n < 10) : p_X1_find_0 σ (nI t) (nI n) = some (σ.1 17 (t * 10 + n)) := by
  unfold p_X1_find_0
  rw [c10, oi_n (show t * 10 + n < 160 by omega) (by decide), nI_clamp (show t * 10 + n < 2 ^ 31 by omega)]
theorem q_found {σ τ : SS} {nt nm : Nat} (hw : wfT τ.1 nt) (hM : wfM τ.1 nt nm) (ho : okU τ.1 nt) (hT : cT σ τ.1 nt) (hC : cC σ τ.1 nt nm) (v1 v2 : Int32) : ∃ r τ', p_X7_found_0 σ v1 v2 = some r ∧ p_X8_found_0 v1 v2 τ = some (r, τ') ∧ kp sV τ τ' ∧ okU τ'.1 nt := by
  have h16 := hw.1
  unfold p_X7_found_0 p_X8_found_0
  rcases m_isType hw v1 with ⟨t, ht, rfl, e1⟩ | ⟨hn, e1⟩
  · rw [oc_s e1, oc_s ((k_knowsT hT h16 _).1 ⟨t, ht, rfl⟩), if_neg (by decide), if_neg (by decide)]
    rcases m_inN v2 with ⟨n, hn, rfl, e2⟩ | ⟨hn, e2⟩
    · obtain ⟨r, τ', q1, q2, q3, q4⟩ := m_find hw hM ho ht (nI n)
      rw [oc_s e2, oc_s ((k_isName _).1 ⟨n, hn, rfl⟩), if_neg (by decide), if_neg (by decide), oc_s q1, oc_s (k_find (show t < 16 by omega) hn)]
      have e := isF_one hM (show t < 16 by omega) (hC t ht n hn).1 q4
      rw [e]
      exact ⟨r, τ', rfl, rfl, q2, q3⟩
    · rw [oc_s e2, oc_s ((k_isName _).2 hn), if_pos rfl, if_pos rfl]
      exact ⟨-102, τ, rfl, rfl, kp_rf sV τ, ho⟩
  · rw [oc_s e1, oc_s ((k_knowsT hT h16 _).2 hn), if_pos rfl, if_pos rfl]
    exact ⟨-101, τ, rfl, rfl, kp_rf sV τ, ho⟩
theorem k_choose {σ : SS} {P : Nat → Nat → Int32} {nt nm c t n : Nat} (h16 : nt ≤ 16) (hM : wfM P nt nm) (hc : cM σ P nm) (hC : cC σ P nt nm) (hcn : c < nt) (ht : t < nt) (hn : n < 10) : ∃ r, p_X1_choose_0 σ (nI c) (nI t) (nI n) = some r ∧ isH P nt nm c t (nI n) r := by
  have h48 := hM.1
  unfold p_X1_choose_0
  rw [c10, c10, oi_n (show t * 10 + n < 160 by omega) (by decide), nI_clamp (show t * 10 + n < 2 ^ 31 by omega)]
  have hF := (hC t ht n hn).1
  rcases isF_mem h48 hF with h | ⟨f, hf, h1, h2⟩
  · rw [if_pos h]
    exact ⟨-2, rfl, _, hF, Or.inl ⟨h, rfl⟩⟩
  · rw [h1, if_neg (fun q => nI_m1 (u := f) (by omega) q.symm), oc_s (k_sortOf hc h48 hf)]
    rw [h1] at hF
    by_cases h72 : P 7 f = 2
    · rw [if_pos h72]
      exact ⟨-3, rfl, _, hF, Or.inr ⟨f, hf, rfl, h2, Or.inl ⟨h72, rfl⟩⟩⟩
    · rw [if_neg h72]
      by_cases h73 : P 7 f = 3
      · rw [if_pos h73]
        exact ⟨nI f, rfl, _, hF, Or.inr ⟨f, hf, rfl, h2, Or.inr (Or.inl ⟨h73, rfl⟩)⟩⟩
      · rw [if_neg h73, oi_n (show c * 10 + n < 160 by omega) (by decide), nI_clamp (show c * 10 + n < 2 ^ 31 by omega)]
        exact ⟨_, rfl, _, hF, Or.inr ⟨f, hf, rfl, h2, Or.inr (Or.inr ⟨h72, h73, (hC c hcn n hn).2⟩)⟩⟩
theorem isH_c {P P' : Nat → Nat → Int32} {nt nm c t : Nat} {name r : Int32} (hp : isH P' nt nm c t name r) (hu : und P' = und P) (h : ∀ c, c ≠ 0 → c < 14 → P' c = P c) : isH P nt nm c t name r := by
  have hlf : lfB P' = lfB P := by
    funext nt nm t name m
    unfold lfB
    rw [lft_c hu h]
  have hF : isF P' = isF P := by
    funext nt nm t name r
    unfold isF
    rw [isC_c h, lpB_c hu h, hlf]
  obtain ⟨f0, h1, h2⟩ := hp
  refine ⟨f0, by rw [← hF]; exact h1, ?_⟩
  rw [h 6 (by decide) (by decide), h 7 (by decide) (by decide)] at h2
  rcases h2 with h2 | ⟨f, a, b, c', d | d | ⟨d, e, g⟩⟩
  · exact Or.inl h2
  · exact Or.inr ⟨f, a, b, c', Or.inl d⟩
  · exact Or.inr ⟨f, a, b, c', Or.inr (Or.inl d)⟩
  · exact Or.inr ⟨f, a, b, c', Or.inr (Or.inr ⟨d, e, isP_c g hu h⟩)⟩
theorem q_chosen {σ τ : SS} {nt nm : Nat} (hw : wfT τ.1 nt) (hM : wfM τ.1 nt nm) (ho : okU τ.1 nt) (hT : cT σ τ.1 nt) (hc : cM σ τ.1 nm) (hC : cC σ τ.1 nt nm) (v1 v2 v3 : Int32) : ∃ r τ', p_X7_chosen_0 σ v1 v2 v3 = some r ∧ p_X8_chosen_0 v1 v2 v3 τ = some (r, τ') ∧ kp sV τ τ' ∧ okU τ'.1 nt := by
  have h16 := hw.1
  unfold p_X7_chosen_0 p_X8_chosen_0
  rcases m_isType hw v1 with ⟨c, hcn, rfl, e1⟩ | ⟨hn, e1⟩
  · rw [oc_s e1, oc_s ((k_knowsT hT h16 _).1 ⟨c, hcn, rfl⟩), if_neg (by decide), if_neg (by decide)]
    rcases m_isType hw v2 with ⟨t, ht, rfl, e2⟩ | ⟨hn, e2⟩
    · rw [oc_s e2, oc_s ((k_knowsT hT h16 _).1 ⟨t, ht, rfl⟩), if_neg (by decide), if_neg (by decide)]
      rcases m_inN v3 with ⟨n, hn, rfl, e3⟩ | ⟨hn, e3⟩
      · obtain ⟨τ', q1, q2, q3, q4⟩ := m_isUnder hw ho hcn (show t < 16 by omega)
        rw [oc_s e3, oc_s ((k_isName _).1 ⟨n, hn, rfl⟩), if_neg (by decide), if_neg (by decide), oc_s q1, oc_s (k_isUnder hT h16 hcn (show t < 64 by omega))]
        dsimp only
        have q2' := kp_up sUV q2
        by_cases h : und τ.1 c t
        · rw [pb_t.mpr h, if_neg (show ¬ b2 true = 0 by decide), if_neg (show ¬ b2 true = 0 by decide)]
          obtain ⟨r, τ2, w1, w2, w3, w4⟩ := m_chosenOf (kp_wfT q2' sV14 hw) (kp_wfM q2' sV14 hM) (Or.inr ⟨q3, q4⟩) hcn ht (nI n)
          obtain ⟨r', z1, z2⟩ := k_choose h16 hM hc hC hcn ht hn
          have w5 : isH τ.1 nt nm c t (nI n) r := isH_c w4 (kp_und q2' sV14) (fun k h0 h14 => kp_c q2' sV14 h0 h14)
          have e := isH_one hM (show c < 16 by omega) (show t < 16 by omega) z2 w5
          rw [oc_s w1, oc_s z1, e]
          exact ⟨r, τ2, rfl, rfl, kp_tr q2' w2, w3⟩
        · rw [pb_f.mpr h, if_pos (show b2 false = 0 from rfl), if_pos (show b2 false = 0 from rfl)]
          exact ⟨-102, τ', rfl, rfl, q2', Or.inr ⟨q3, q4⟩⟩
      · rw [oc_s e3, oc_s ((k_isName _).2 hn), if_pos rfl, if_pos rfl]
        exact ⟨-102, τ, rfl, rfl, kp_rf sV τ, ho⟩
    · rw [oc_s e2, oc_s ((k_knowsT hT h16 _).2 hn), if_pos rfl, if_pos rfl]
      exact ⟨-101, τ, rfl, rfl, kp_rf sV τ, ho⟩
  · rw [oc_s e1, oc_s ((k_knowsT hT h16 _).2 hn), if_pos rfl, if_pos rfl]
    exact ⟨-101, τ, rfl, rfl, kp_rf sV τ, ho⟩
