/-! pure: the class serves an OP -/
theorem SC_25 {σ : SS} {o : Nat} {x : Int64} {X : Nat → Prop} (ho : o < 160) (hX : ∀ j, X j → j < 64) (hx : ∀ j, j < 64 → (lb x j = true ↔ lb (σ.2 25 o) j = true ∨ X j)) (q i j : Nat) : SC (sL σ 25 o x) q i j ↔ SC σ q i j ∨ (q = 4 ∧ i = o ∧ X j) := by
  have hx' : ∀ j, lb x j = true ↔ lb (σ.2 25 o) j = true ∨ X j := fun j => by
    by_cases h : j < 64
    · exact hx j h
    · rw [lb_big (by omega), lb_big (by omega)]
      exact ⟨fun q => (by cases q), fun q => q.elim id (fun w => absurd (hX j w) h)⟩
  rcases q with _ | _ | _ | _ | _ | q
  · exact ⟨Or.inl, fun q => q.elim id (fun w => by cases w.1)⟩
  · exact ⟨Or.inl, fun q => q.elim id (fun w => by cases w.1)⟩
  · exact ⟨Or.inl, fun q => q.elim id (fun w => by cases w.1)⟩
  · exact ⟨Or.inl, fun q => q.elim id (fun w => by cases w.1)⟩
  · show i < 160 ∧ lb (vp_updL (σ.2 25) o x i) j = true ↔ (i < 160 ∧ lb (σ.2 25 i) j = true) ∨ _
    by_cases e : i = o
    · subst e
      rw [updL_at, hx' j]
      exact ⟨fun h => h.2.elim (fun w => Or.inl ⟨h.1, w⟩) (fun w => Or.inr ⟨rfl, rfl, w⟩), fun h => h.elim (fun w => ⟨w.1, Or.inl w.2⟩) (fun w => ⟨ho, Or.inr w.2.2⟩)⟩
    · rw [updL_ne e]
      exact ⟨Or.inl, fun h => h.elim id (fun w => absurd w.2.1 e)⟩
  · exact ⟨Or.inl, fun q => q.elim id (fun w => by have := w.1; omega)⟩
theorem SC_b {σ : SS} {b : Int64} {B : Nat → Prop} (hB : ∀ j, B j → j < 64) (hb : ∀ j, j < 64 → (lb b j = true ↔ lb (σ.2 5 11) j = true ∨ B j)) (q i j : Nat) : SC (sL σ 5 11 b) q i j ↔ SC σ q i j ∨ (q = 2 ∧ j = 0 ∧ B i) := by
  have hb' : ∀ j, lb b j = true ↔ lb (σ.2 5 11) j = true ∨ B j := fun j => by
    by_cases h : j < 64
    · exact hb j h
    · rw [lb_big (by omega), lb_big (by omega)]
      exact ⟨fun q => (by cases q), fun q => q.elim id (fun w => absurd (hB j w) h)⟩
  rcases q with _ | _ | _ | _ | _ | q
  · exact ⟨Or.inl, fun q => q.elim id (fun w => by cases w.1)⟩
  · exact ⟨Or.inl, fun q => q.elim id (fun w => by cases w.1)⟩
  · show j = 0 ∧ lb b i = true ↔ (j = 0 ∧ lb (σ.2 5 11) i = true) ∨ _
    rw [hb' i]
    exact ⟨fun h => h.2.elim (fun w => Or.inl ⟨h.1, w⟩) (fun w => Or.inr ⟨rfl, h.1, w⟩), fun h => h.elim (fun w => ⟨w.1, Or.inl w.2⟩) (fun w => ⟨w.2.1, Or.inr w.2.2⟩)⟩
  · exact ⟨Or.inl, fun q => q.elim id (fun w => by cases w.1)⟩
  · exact ⟨Or.inl, fun q => q.elim id (fun w => by cases w.1)⟩
  · exact ⟨Or.inl, fun q => q.elim id (fun w => by have := w.1; omega)⟩
theorem SC_m {σ : SS} {a : Nat} (ha : a < 64) (q i j : Nat) : SC (sL σ 5 10 (σ.2 5 10 ||| jshl 1 (nI a))) q i j ↔ SC σ q i j ∨ (q = 1 ∧ i = a ∧ j = 0) := by
  rcases q with _ | _ | _ | _ | _ | q
  · exact ⟨Or.inl, fun q => q.elim id (fun w => by cases w.1)⟩
  · show j = 0 ∧ lb (σ.2 5 10 ||| jshl 1 (nI a)) i = true ↔ (j = 0 ∧ lb (σ.2 5 10) i = true) ∨ _
    rw [lb_with ha, Bool.or_eq_true, decide_eq_true_iff]
    exact ⟨fun h => h.2.elim (fun w => Or.inl ⟨h.1, w⟩) (fun w => Or.inr ⟨rfl, w, h.1⟩), fun h => h.elim (fun w => ⟨w.1, Or.inl w.2⟩) (fun w => ⟨w.2.2, Or.inr w.2.1⟩)⟩
  · exact ⟨Or.inl, fun q => q.elim id (fun w => by cases w.1)⟩
  · exact ⟨Or.inl, fun q => q.elim id (fun w => by cases w.1)⟩
  · exact ⟨Or.inl, fun q => q.elim id (fun w => by cases w.1)⟩
  · exact ⟨Or.inl, fun q => q.elim id (fun w => by have := w.1; omega)⟩
theorem SC_g {σ : SS} {a m : Nat} (ha : a < 4) (hm : m < 64) (q i j : Nat) : SC (sL σ 24 a (σ.2 24 a ||| jshl 1 (nI m))) q i j ↔ SC σ q i j ∨ (q = 3 ∧ i = a ∧ j = m) := by
  rcases q with _ | _ | _ | _ | _ | q
  · exact ⟨Or.inl, fun q => q.elim id (fun w => by cases w.1)⟩
  · exact ⟨Or.inl, fun q => q.elim id (fun w => by cases w.1)⟩
  · exact ⟨Or.inl, fun q => q.elim id (fun w => by cases w.1)⟩
  · show i < 4 ∧ lb (vp_updL (σ.2 24) a (σ.2 24 a ||| jshl 1 (nI m)) i) j = true ↔ (i < 4 ∧ lb (σ.2 24 i) j = true) ∨ _
    by_cases e : i = a
    · subst e
      rw [updL_at, lb_with hm, Bool.or_eq_true, decide_eq_true_iff]
      exact ⟨fun h => h.2.elim (fun w => Or.inl ⟨h.1, w⟩) (fun w => Or.inr ⟨rfl, rfl, w⟩), fun h => h.elim (fun w => ⟨w.1, Or.inl w.2⟩) (fun w => ⟨ha, Or.inr w.2.2⟩)⟩
    · rw [updL_ne e]
      exact ⟨Or.inl, fun h => h.elim id (fun w => absurd w.2.1 e)⟩
  · exact ⟨Or.inl, fun q => q.elim id (fun w => by cases w.1)⟩
  · exact ⟨Or.inl, fun q => q.elim id (fun w => by have := w.1; omega)⟩
theorem beg_iff {P : Nat → Nat → Int32} {nt nm o t q i j : Nat} : beg P nt nm o t q i j ↔ (q = 2 ∧ j = 0 ∧ wth P nt nm t i) ∨ (q = 4 ∧ i = o ∧ j < nm ∧ P 6 j = -1 ∧ ∃ k, wth P nt nm t k ∧ P 5 j = nI k) := by
  constructor
  · rintro ⟨k, hk, ⟨h1, h2, h3⟩ | ⟨h1, h2, h3, h4, h5⟩⟩
    · exact Or.inl ⟨h1, h3, by rw [h2]; exact hk⟩
    · exact Or.inr ⟨h1, h2, h3, h5, k, hk, h4⟩
  · rintro (⟨h1, h2, h3⟩ | ⟨h1, h2, h3, h4, k, h5, h6⟩)
    · exact ⟨i, h3, Or.inl ⟨h1, rfl, h2⟩⟩
    · exact ⟨k, h5, Or.inr ⟨h1, h2, h3, h6, h4⟩⟩
theorem SC_begin {P : Nat → Nat → Int32} {nt nm o t : Nat} (h16 : nt ≤ 16) (h48 : nm ≤ 48) (ho : o < 160) {σ : SS} {b x : Int64} (hb : ∀ k, k < 64 → (lb b k = true ↔ lb (σ.2 5 11) k = true ∨ wth P nt nm t k)) (hx : ∀ j, j < 64 → (lb x j = true ↔ lb (σ.2 25 o) j = true ∨ (j < nm ∧ P 6 j = -1 ∧ ∃ k, wth P nt nm t k ∧ P 5 j = nI k))) (q i j : Nat) : SC (sL (sL σ 5 11 b) 25 o x) q i j ↔ SC σ q i j ∨ beg P nt nm o t q i j := by
  rw [SC_25 (σ := sL σ 5 11 b) ho (X := fun j => j < nm ∧ P 6 j = -1 ∧ ∃ k, wth P nt nm t k ∧ P 5 j = nI k) (fun j h => by have := h.1; omega) hx, SC_b (B := wth P nt nm t) (fun j h => by have := h.1; omega) hb, beg_iff, or_assoc]
theorem k_chooseS {σ : SS} {P : Nat → Nat → Int32} {nt nm t n : Nat} (h16 : nt ≤ 16) (hM : wfM P nt nm) (hc : cM σ P nm) (hC : cC σ P nt nm) (ht : t < nt) (hn : n < 10) : ∃ f0 r, isF P nt nm t (nI n) f0 ∧ p_X1_chooseStatic_0 σ (nI t) (nI n) = some r ∧ ((f0 = -1 ∧ r = -2) ∨ ∃ f, f < nm ∧ f0 = nI f ∧ ((P 7 f = 2 ∧ r = nI f) ∨ (¬ P 7 f = 2 ∧ r = -3))) := by
  have h48 := hM.1
  have hF := (hC t ht n hn).1
  refine ⟨σ.1 17 (t * 10 + n), ?_⟩
  unfold p_X1_chooseStatic_0
  rw [c10, oi_n (show t * 10 + n < 160 by omega) (by decide), nI_clamp (show t * 10 + n < 2 ^ 31 by omega)]
  rcases isF_mem h48 hF with h | ⟨f, hf, h1, h2⟩
  · rw [if_pos h]
    exact ⟨-2, hF, rfl, Or.inl ⟨h, rfl⟩⟩
  · rw [h1] at hF ⊢
    rw [if_neg (fun q => nI_m1 (u := f) (by omega) q.symm), oc_s (k_sortOf hc h48 hf)]
    by_cases h72 : P 7 f = 2
    · rw [if_pos h72]
      exact ⟨nI f, hF, rfl, Or.inr ⟨f, hf, rfl, Or.inl ⟨h72, rfl⟩⟩⟩
    · rw [if_neg h72]
      exact ⟨-3, hF, rfl, Or.inr ⟨f, hf, rfl, Or.inr ⟨h72, rfl⟩⟩⟩
theorem k_opab {σ : SS} {P : Nat → Nat → Int32} {nm no o : Nat} (hO : cO σ P nm no) (h160 : no ≤ 160) (ho : o < no) : p_X5_a_0 σ (nI o) = some (P 12 o) ∧ p_X5_b_0 σ (nI o) = some (P 13 o) ∧ p_X5_kindOf_0 σ (nI o) = some (P 11 o) := by
  unfold p_X5_a_0 p_X5_b_0 p_X5_kindOf_0
  obtain ⟨h1, h2, h3⟩ := hO.2.1 o ho
  rw [oi_n (show o < 160 by omega) (by decide), oi_n (show o < 160 by omega) (by decide), oi_n (show o < 160 by omega) (by decide), nI_clamp (show o < 2 ^ 31 by omega), h1, h2, h3]
  exact ⟨rfl, rfl, rfl⟩
theorem k_serve {P : Nat → Nat → Int32} {nt nm no o : Nat} (hW : WF P nt nm no) (ho : o < no) {σ : SS} (hC : CI σ P nt nm no) (hB : sub3 (SC σ) (bnd nt nm)) : ∃ σ', p_X3_serve_0 (nI o) σ = some σ' ∧ kg sG σ σ' ∧ ∀ q i j, SC σ' q i j ↔ SC σ q i j ∨ opS P nt nm (SC σ) o q i j := by
  obtain ⟨hw, hM, hO⟩ := id hW
  obtain ⟨hT, hc, hcO, hcC⟩ := id hC
  have h16 := hw.1
  have h48 := hM.1
  have h160 := hO.1
  have ho' : o < 160 := by omega
  obtain ⟨a1, a2, a3⟩ := k_opab hcO h160 ho
  unfold p_X3_serve_0
  rw [oc_s a1, oc_s a2, oc_s a3]
  have hmade : (P 11 o = 1 ∨ P 11 o = 4) → ∀ t n, t < nt → n < 10 → P 12 o = nI t → P 13 o = nI n → ∃ σ', p_X3_serve_89 (nI o) (nI t) (nI n) σ = some σ' ∧ kg sG σ σ' ∧ ∀ q i j, SC σ' q i j ↔ SC σ q i j ∨ e1 P nt nm (SC σ) o q i j := by
    intro hk t n ht hn h12 h13
    obtain ⟨x, q1, q2⟩ := serveMade_3 hW ho' ht hn hC nt 0 100000 (σ.2 25 o) (by omega) (by omega) (fun j hj => ⟨Or.inl, fun q => q.elim id (fun ⟨c, h, _⟩ => by omega)⟩)
    rw [sL_id (z := σ) rfl] at q1
    refine ⟨sL σ 25 o x, ?_, kg_sL σ o x (by decide), fun q i j => ?_⟩
    · have q1' : p_X3_serveMade_3 100000 (nI o) (nI t) (nI n) 0 σ = some (sL σ 25 o x) := q1
      unfold p_X3_serve_89 p_X3_serveMade_0
      rw [oc_s q1']; rfl
    · rw [SC_25 ho' (X := fun j => j < nm ∧ ∃ c, c < nt ∧ lb (σ.2 5 10) c = true ∧ und P c t ∧ isH P nt nm c t (nI n) (nI j)) (fun j h => by have := h.1; omega) (fun j hj => by
        rw [q2 j hj]
        refine or_congr Iff.rfl ⟨?_, fun h => h.2⟩
        rintro ⟨c, h1, h2, h3, h4⟩
        refine ⟨?_, c, h1, h2, h3, h4⟩
        rcases isH_rng h48 h4 with h | ⟨j', hj', h⟩
        · exact absurd (neg_nI h) (nI_pos (by omega))
        · have := (nI_eq (by omega) (by omega)).mp h
          omega)]
      refine or_congr Iff.rfl ⟨?_, ?_⟩
      · rintro ⟨h1, h2, h3, c, h4, h5, h6, h7⟩
        exact ⟨h1, h2, h3, t, n, c, ht, hn, h4, h12, h13, ⟨rfl, h5⟩, h6, h7⟩
      · rintro ⟨h1, h2, h3, t', n', c, w1, w2, w3, w4, w5, w6, w7, w8⟩
        have ht' : t = t' := (nI_eq (by omega) (by omega)).mp (h12.symm.trans w4)
        have hn' : n = n' := (nI_eq (by omega) (by omega)).mp (h13.symm.trans w5)
        subst ht'; subst hn'
        exact ⟨h1, h2, h3, c, w3, w6.2, w7, w8⟩
  rcases hO.2.2.2 o ho with ⟨k, t, ht, h12, h1t⟩ | ⟨k, t, n, ht, hn, h12, h13⟩ | ⟨k, a, m, ha, hm, h12, h13, h7⟩ | ⟨k, a, ha, h12⟩ | ⟨k, n, hn, h13⟩
  · -- NEW
    rw [k, if_pos rfl, h12, with_s, oc_s rfl, os_s, opS_0 k]
    have hk1 : kg sG σ (sL σ 5 10 (σ.2 5 10 ||| jshl 1 (nI t))) := kg_sL σ 10 _ (by decide)
    obtain ⟨b, x, q1, q2, q3⟩ := k_begin hW ho' ht (kg_CI hk1 hC)
    rw [oc_s q1]
    refine ⟨_, rfl, kg_tr hk1 (kg_tr (kg_sL _ 11 b (by decide)) (kg_sL _ o x (by decide))), fun q i j => ?_⟩
    rw [SC_begin h16 h48 ho' q2 q3, SC_m (show t < 64 by omega), or_assoc]
    refine or_congr Iff.rfl ⟨fun h => ⟨t, ht, h12, h⟩, ?_⟩
    rintro ⟨t', ht', w, h⟩
    have : t = t' := (nI_eq (by omega) (by omega)).mp (h12.symm.trans w)
    subst this
    exact h
  · rcases k with k | k | k | k
    · rw [k, if_neg (by decide), if_pos rfl, h12, h13, opS_1 k]
      exact hmade (Or.inl k) t n ht hn h12 h13
    · -- UP
      rw [k, if_neg (by decide), if_neg (by decide), if_pos rfl, h12, h13, opS_2 k]
      obtain ⟨r0, q1, q2⟩ := k_choose (c := t) (t := t) (n := n) h16 hM hc hcC ht ht hn
      have hr := isH_rng h48 q2
      obtain ⟨x', w1, w2⟩ := k_addCallee (σ := σ) ho' r0 (by
        rcases hr with h | ⟨j, hj, h⟩
        · exact Or.inl (neg_nI h)
        · exact Or.inr ⟨j, by omega, h⟩) (σ.2 25 o)
      rw [sL_id (z := σ) rfl] at w1
      rw [oc_s q1, oc_s w1]
      refine ⟨_, rfl, kg_sL σ o x' (by decide), fun q i j => ?_⟩
      rw [SC_25 ho' (X := fun j => j < nm ∧ r0 = nI j) (fun j h => by have := h.1; omega) (fun j hj => by
        rw [w2 j hj]
        refine or_congr Iff.rfl ⟨fun h => ⟨?_, h⟩, fun h => h.2⟩
        rcases hr with g | ⟨j', hj', g⟩
        · rw [h] at g; exact absurd (neg_nI g) (nI_pos (by omega))
        · have := (nI_eq (by omega) (by omega)).mp (h.symm.trans g)
          omega)]
      refine or_congr Iff.rfl ⟨?_, ?_⟩
      · rintro ⟨h1, h2, h3, h4⟩
        exact ⟨h1, h2, h3, t, n, ht, hn, h12, h13, by rw [← h4]; exact q2⟩
      · rintro ⟨h1, h2, h3, t', n', w1, w2, w4, w5, w8⟩
        have ht' : t = t' := (nI_eq (by omega) (by omega)).mp (h12.symm.trans w4)
        have hn' : n = n' := (nI_eq (by omega) (by omega)).mp (h13.symm.trans w5)
        subst ht'; subst hn'
        exact ⟨h1, h2, h3, isH_one hM (by omega) (by omega) q2 w8⟩
    · -- STATIC
      rw [k, if_neg (by decide), if_neg (by decide), if_neg (by decide), if_pos rfl, h12, h13, opS_3 k]
      obtain ⟨f0, r0, q1, q2, q3⟩ := k_chooseS h16 hM hc hcC ht hn
      rw [oc_s q2]
      have none : r0 < 0 → (∀ f, f < nm → f0 = nI f → ¬ P 7 f = 2) → ∃ σ', oc (p_X3_serveStatic_0 (nI o) r0 σ) (fun r_128 => p_X3_serve_188 r_128) = some σ' ∧ kg sG σ σ' ∧ ∀ q i j, SC σ' q i j ↔ SC σ q i j ∨ e3 P nt nm o q i j := by
        intro hr hf
        refine ⟨σ, ?_, kg_rf sG σ, fun q i j => ⟨Or.inl, fun h => h.elim id ?_⟩⟩
        · unfold p_X3_serveStatic_0
          rw [if_neg (Int32.not_le.mpr hr)]; rfl
        · rintro ⟨t', n', f, u, w1, w2, w3, w4, w5, w6, w7, w8, -⟩
          have ht' : t = t' := (nI_eq (by omega) (by omega)).mp (h12.symm.trans w5)
          have hn' : n = n' := (nI_eq (by omega) (by omega)).mp (h13.symm.trans w6)
          subst ht'; subst hn'
          exact absurd w8 (hf f w3 (isF_one hM (by omega) q1 w7))
      rcases q3 with ⟨g1, g2⟩ | ⟨f, hf, g1, ⟨g2, g3⟩ | ⟨g2, g3⟩⟩
      · exact none (by rw [g2]; decide) (fun f hf e => by rw [g1] at e; exact absurd e (nI_m1 (by omega)))
      · obtain ⟨u, hu, h5⟩ := own_t hM hf
        obtain ⟨x', w1, w2⟩ := k_addCallee (σ := σ) ho' (nI f) (Or.inr ⟨f, by omega, rfl⟩) (σ.2 25 o)
        rw [sL_id (z := σ) rfl] at w1
        have hk1 : kg sG σ (sL σ 25 o x') := kg_sL σ o x' (by decide)
        have hC1 := kg_CI hk1 hC
        obtain ⟨b, x, y1, y2, y3⟩ := k_begin hW ho' hu hC1
        have hty : p_X4_typeOf_0 (sL σ 25 o x') (nI f) = some (nI u) := by
          unfold p_X4_typeOf_0
          rw [oi_n (show f < 48 by omega) (by decide), nI_clamp (show f < 2 ^ 31 by omega), (hC1.2.1.2.1 f hf).1, h5]
        refine ⟨sL (sL (sL σ 25 o x') 5 11 b) 25 o x, ?_, kg_tr hk1 (kg_tr (kg_sL _ 11 b (by decide)) (kg_sL _ o x (by decide))), fun q i j => ?_⟩
        · unfold p_X3_serveStatic_0
          rw [g3, if_pos (nI_pos' (by omega)), oc_s w1, oc_s hty, oc_s y1, oc_s rfl]; rfl
        · rw [SC_begin h16 h48 ho' y2 y3, SC_25 ho' (X := fun j => j = f) (fun j h => by omega) (fun j hj => by
            rw [w2 j hj]
            refine or_congr Iff.rfl ⟨fun h => ((nI_eq (by omega) (by omega)).mp h).symm, fun h => by rw [h]⟩), or_assoc]
          rw [g1] at q1
          refine or_congr Iff.rfl ⟨fun h => ⟨t, n, f, u, ht, hn, hf, hu, h12, h13, q1, g2, h5, h⟩, ?_⟩
          rintro ⟨t', n', f', u', z1, z2, z3, z4, z5, z6, z7, z8, z9, h⟩
          have ht' : t = t' := (nI_eq (by omega) (by omega)).mp (h12.symm.trans z5)
          have hn' : n = n' := (nI_eq (by omega) (by omega)).mp (h13.symm.trans z6)
          subst ht'; subst hn'
          have hf' : f = f' := (nI_eq (by omega) (by omega)).mp (isF_one hM (by omega) q1 z7)
          subst hf'
          have hu' : u = u' := (nI_eq (by omega) (by omega)).mp (h5.symm.trans z9)
          subst hu'
          exact h
      · exact none (by rw [g3]; decide) (fun f' hf' e => by
          have : f = f' := (nI_eq (by omega) (by omega)).mp (g1.symm.trans e)
          subst this
          exact g2)
    · rw [k, if_neg (by decide), if_neg (by decide), if_neg (by decide), if_neg (by decide), if_pos rfl, h12, h13, opS_4 k]
      exact hmade (Or.inr k) t n ht hn h12 h13
  · -- PUT
    rw [k, if_neg (by decide), if_neg (by decide), if_neg (by decide), if_neg (by decide), if_neg (by decide), if_pos rfl, h12, h13, oi_n ha (by decide), nI_clamp (show a < 2 ^ 31 by omega), with_s, oc_s rfl, oi_n ha (by decide), os_s, opS_5 k]
    refine ⟨_, rfl, kg_sL σ a _ (by decide), fun q i j => ?_⟩
    rw [SC_g ha (show m < 64 by omega)]
    refine or_congr Iff.rfl ⟨?_, ?_⟩
    · rintro ⟨rfl, rfl, rfl⟩
      exact ⟨rfl, ha, hm, h12, h13⟩
    · rintro ⟨w1, w2, w3, w4, w5⟩
      exact ⟨w1, ((nI_eq (by omega) (by omega)).mp (h12.symm.trans w4)).symm, ((nI_eq (by omega) (by omega)).mp (h13.symm.trans w5)).symm⟩
  · -- OUT
    rw [k, if_neg (by decide), if_neg (by decide), if_neg (by decide), if_neg (by decide), if_neg (by decide), if_neg (by decide), if_pos rfl, h12, oi_n ho' (by decide), oi_n ha (by decide), oi_n ho' (by decide), nI_clamp (show a < 2 ^ 31 by omega), nI_clamp (show o < 2 ^ 31 by omega), os_s, opS_6 k]
    have hbg : ∀ j, lb (σ.2 24 a) j = true → j < nm := fun j hj => by
      rcases hB 3 a j ⟨ha, hj⟩ with ⟨h, -⟩ | ⟨h, -⟩ | ⟨h, -⟩ | ⟨-, -, h⟩ | ⟨h, -⟩
      · cases h
      · cases h
      · cases h
      · exact h
      · cases h
    refine ⟨_, rfl, kg_sL σ o _ (by decide), fun q i j => ?_⟩
    rw [SC_25 ho' (X := fun j => lb (σ.2 24 a) j = true) (fun j h => by have := hbg j h; omega) (fun j hj => by rw [lb_or, Bool.or_eq_true])]
    refine or_congr Iff.rfl ⟨?_, ?_⟩
    · rintro ⟨h1, h2, h3⟩
      exact ⟨h1, h2, hbg j h3, a, ha, h12, ha, h3⟩
    · rintro ⟨h1, h2, h3, a', w1, w2, w3⟩
      have ha' : a = a' := (nI_eq (by omega) (by omega)).mp (h12.symm.trans w2)
      subst ha'
      exact ⟨h1, h2, w3.2⟩
  · -- ANY
    rw [k, if_neg (by decide), if_neg (by decide), if_neg (by decide), if_neg (by decide), if_neg (by decide), if_neg (by decide), if_neg (by decide), h13, oi_n ho' (by decide), opS_7 k]
    have hh : p_X4_handlesOf_0 σ (nI n) = some (σ.2 15 n) := by
      unfold p_X4_handlesOf_0
      rw [oi_n hn (by decide), nI_clamp (show n < 2 ^ 31 by omega)]
    rw [oc_s hh, oi_n ho' (by decide), nI_clamp (show o < 2 ^ 31 by omega), os_s]
    refine ⟨_, rfl, kg_sL σ o _ (by decide), fun q i j => ?_⟩
    rw [SC_25 ho' (X := fun j => j < nm ∧ P 6 j = nI n ∧ hdl P j) (fun j h => by have := h.1; omega) (fun j hj => by rw [lb_or, Bool.or_eq_true, hc.2.2.2.2.1 n hn j hj]; rfl)]
    refine or_congr Iff.rfl ⟨?_, ?_⟩
    · rintro ⟨h1, h2, h3, h4, h5⟩
      exact ⟨h1, h2, h3, n, hn, h13, h4, h5⟩
    · rintro ⟨h1, h2, h3, n', w1, w2, w3, w4⟩
      have hn' : n = n' := (nI_eq (by omega) (by omega)).mp (h13.symm.trans w2)
      subst hn'
      exact ⟨h1, h2, h3, w3, w4⟩
