/-! pure: op: both sides alike -/
theorem c24 (m c : Nat) : (24 * nI m + nI c) = nI (24 * m + c) := by rw [show (24 : Int32) = nI 24 from rfl, pk_mul, nI_add]
theorem c24' (m c : Nat) : (nI m * 24 + nI c) = nI (m * 24 + c) := by rw [show (24 : Int32) = nI 24 from rfl, pk_mul, nI_add]
theorem isNext_19 {τ : SS} {t m a : Nat} (ht : t < 16) (hm : m ≤ 3) (h3 : τ.1 3 t = nI m) : ∀ (r i fuel : Nat) (v : Int32), i + r = m → r < fuel → v = b2 (pb (τ.1 2 t = nI a ∨ ∃ i', i' < i ∧ τ.1 4 (3 * t + i') = nI a)) → p_X8_isNext_19 τ fuel (nI t) (nI a) v (nI i) = some (b2 (pb (nxt τ.1 t a))) := by
  intro r
  induction r with
  | zero =>
    intro i fuel v hi hf hv
    obtain ⟨g, rfl⟩ : ∃ g, fuel = g + 1 := ⟨fuel - 1, by omega⟩
    rw [p_X8_isNext_19]
    try dsimp only
    rw [oi_n ht (by decide), nI_clamp (show t < 2 ^ 31 by omega), h3, if_pos (nI_le (by omega) (by omega)), hv, ob_ok (b2_01 _)]
    congr 3
    refine propext ⟨?_, ?_⟩
    · rintro (h | ⟨i', h1, h2⟩)
      · exact Or.inl h
      · exact Or.inr ⟨m, i', h3, hm, by omega, h2⟩
    · rintro (h | ⟨m', i', q1, q2, q3, q4⟩)
      · exact Or.inl h
      · have : m = m' := (nI_eq (by omega) (by omega)).mp (h3.symm.trans q1)
        exact Or.inr ⟨i', by omega, q4⟩
  | succ r ih =>
    intro i fuel v hi hf hv
    obtain ⟨g, rfl⟩ : ∃ g, fuel = g + 1 := ⟨fuel - 1, by omega⟩
    rw [p_X8_isNext_19]
    try dsimp only
    rw [oi_n ht (by decide), nI_clamp (show t < 2 ^ 31 by omega), h3, if_neg (nI_ge (by omega) (by omega))]
    unfold p_X8_isNext_49 p_X8_isNext_54
    by_cases hp : τ.1 2 t = nI a ∨ ∃ i', i' < i ∧ τ.1 4 (3 * t + i') = nI a
    · rw [hv, pb_t.mpr hp, if_neg (show ¬ b2 true = 0 by decide), nI_1]
      refine ih (i + 1) g 1 (by omega) (by omega) ?_
      rw [pb_t.mpr]
      · rfl
      · rcases hp with h | ⟨i', h1, h2⟩
        · exact Or.inl h
        · exact Or.inr ⟨i', by omega, h2⟩
    · rw [hv, pb_f.mpr hp, if_pos (show b2 false = 0 from rfl), c3_in ht (by omega), oi_n (show 3 * t + i < 48 by omega) (by decide), nI_clamp (show 3 * t + i < 2 ^ 31 by omega), nI_1]
      by_cases e : τ.1 4 (3 * t + i) = nI a
      · rw [if_pos e]
        exact ih (i + 1) g 1 (by omega) (by omega) (by rw [pb_t.mpr (Or.inr ⟨i, by omega, e⟩)]; rfl)
      · rw [if_neg e]
        refine ih (i + 1) g 0 (by omega) (by omega) ?_
        rw [pb_f.mpr]
        · rfl
        · rintro (h | ⟨i', h1, h2⟩)
          · exact hp (Or.inl h)
          · by_cases q : i' = i
            · rw [q] at h2; exact e h2
            · exact hp (Or.inr ⟨i', by omega, h2⟩)
theorem m_isNext {τ : SS} {nt t a : Nat} (hw : wfT τ.1 nt) (ht : t < nt) : p_X8_isNext_0 τ (nI t) (nI a) = some (b2 (pb (nxt τ.1 t a))) := by
  have h16 := hw.1
  obtain ⟨-, -, -, m, hm, h3, -⟩ := hw.2.2 t ht
  unfold p_X8_isNext_0 p_X8_isNext_15
  rw [oi_n (show t < 16 by omega) (by decide), nI_clamp (show t < 2 ^ 31 by omega)]
  by_cases h : τ.1 2 t = nI a
  · rw [if_pos h]
    exact isNext_19 (by omega) hm h3 m 0 100000 1 (by omega) (by omega) (by rw [pb_t.mpr (Or.inl h)]; rfl)
  · rw [if_neg h]
    refine isNext_19 (by omega) hm h3 m 0 100000 0 (by omega) (by omega) ?_
    rw [pb_f.mpr]
    · rfl
    · rintro (q | ⟨i', q, -⟩)
      · exact h q
      · omega
theorem k_isNext {σ : SS} {P : Nat → Nat → Int32} {nt t a : Nat} (hT : cT σ P nt) (h16 : nt ≤ 16) (ht : t < nt) (ha : a < 64) : p_X6_isNextAbove_0 σ (nI a) (nI t) = some (b2 (pb (nxt P t a))) := by
  unfold p_X6_isNextAbove_0 p_X6_isNextAbove_19 p_X6_isNextAbove_24
  rw [oi_n (show t < 16 by omega) (by decide), nI_clamp (show t < 2 ^ 31 by omega), (hT.2.1 t ht).2]
  by_cases h : P 2 t = nI a
  · rw [if_pos h, ob_ok (Or.inr rfl), pb_t.mpr (show nxt P t a from Or.inl h)]; rfl
  · rw [if_neg h, oc_s (k_hasFace hT h16 ht ha)]
    by_cases hf : fce P t a
    · rw [pb_t.mpr hf, if_neg (show ¬ b2 true = 0 by decide), ob_ok (Or.inr rfl), pb_t.mpr (show nxt P t a from Or.inr hf)]; rfl
    · rw [pb_f.mpr hf, if_pos (show b2 false = 0 from rfl), ob_ok (Or.inl rfl), pb_f.mpr (show ¬ nxt P t a from fun q => q.elim h hf)]; rfl
/-- the parts of an OP are as they may be -/
def opq (P : Nat → Nat → Int32) (nt nm : Nat) (k a b : Int32) : Prop := (k = 0 ∧ ∃ t, t < nt ∧ a = nI t ∧ P 1 t = 0) ∨ ((k = 1 ∨ k = 2 ∨ k = 3 ∨ k = 4) ∧ ∃ t n, t < nt ∧ n < 10 ∧ a = nI t ∧ b = nI n) ∨ (k = 5 ∧ ∃ x m, x < 4 ∧ m < nm ∧ a = nI x ∧ b = nI m ∧ (P 7 m = 0 ∨ P 7 m = 2 ∨ P 7 m = 3)) ∨ (k = 6 ∧ ∃ x, x < 4 ∧ a = nI x) ∨ (k = 7 ∧ ∃ n, n < 10 ∧ b = nI n)
theorem opq_w (P : Nat → Nat → Int32) (nt nm o : Nat) : opw P nt nm o = opq P nt nm (P 11 o) (P 12 o) (P 13 o) := rfl
theorem k_isBag (v : Int32) : ((∃ n, n < 4 ∧ v = nI n) → p_X7_isBag_0 v = some 1) ∧ ((¬ ∃ n, n < 4 ∧ v = nI n) → p_X7_isBag_0 v = some 0) := by
  constructor
  · rintro ⟨t, ht, rfl⟩
    unfold p_X7_isBag_0
    rw [if_neg (nI_pos (by omega)), if_neg (show ¬ (4 : Int32) ≤ nI t from nI_ge (b := 4) ht (by omega))]
    exact ob_ok (Or.inr rfl)
  · intro h
    unfold p_X7_isBag_0
    rcases ge_neg (n := 4) (by decide) h with q | ⟨q1, q2⟩
    · rw [if_pos q]; exact ob_ok (Or.inl rfl)
    · rw [if_neg q1, if_pos (show (4 : Int32) ≤ v from q2)]; exact ob_ok (Or.inl rfl)
theorem k_isHandle {σ : SS} {P : Nat → Nat → Int32} {nt nm m : Nat} (hM : wfM P nt nm) (hc : cM σ P nm) (hm : m < nm) : p_X4_isHandle_0 σ (nI m) = some (b2 (pb (P 7 m = 0 ∨ P 7 m = 2 ∨ P 7 m = 3))) := by
  have h48 := hM.1
  unfold p_X4_isHandle_0 p_X4_isHandle_24 p_X4_isHandle_25
  rw [oi_n (show m < 48 by omega) (by decide), nI_clamp (show m < 2 ^ 31 by omega), oi_n (show m < 48 by omega) (by decide), (hc.2.1 m hm).2]
  obtain ⟨-, hs, -⟩ := hM.2.2.1 m hm
  rcases hs with ⟨h, -⟩ | ⟨h | h | h | h, -⟩ <;> rw [h]
  · rw [pb_f.mpr (by decide)]; rfl
  · rw [pb_t.mpr (by decide)]; rfl
  · rw [pb_f.mpr (by decide)]; rfl
  · rw [pb_t.mpr (by decide)]; rfl
  · rw [pb_t.mpr (by decide)]; rfl
theorem m_canBe {P : Nat → Nat → Int32} {nt nm m : Nat} (hM : wfM P nt nm) (hm : m < nm) : p_X8_canBeCalled_0 (P 7 m) = some (b2 (pb (P 7 m = 0 ∨ P 7 m = 2 ∨ P 7 m = 3))) := by
  unfold p_X8_canBeCalled_0 p_X8_canBeCalled_14 p_X8_canBeCalled_19
  obtain ⟨-, hs, -⟩ := hM.2.2.1 m hm
  rcases hs with ⟨h, -⟩ | ⟨h | h | h | h, -⟩ <;> rw [h]
  · rw [pb_f.mpr (by decide)]; rfl
  · rw [pb_t.mpr (by decide)]; rfl
  · rw [pb_f.mpr (by decide)]; rfl
  · rw [pb_t.mpr (by decide)]; rfl
  · rw [pb_t.mpr (by decide)]; rfl
/-- a NAME on both sides -/
theorem b_name (v : Int32) : ∃ x : Bool, p_X7_isName_0 v = some (b2 x) ∧ p_X8_in_0 v 0 9 = some (b2 x) ∧ (x = true → ∃ n, n < 10 ∧ v = nI n) := by
  rcases m_inN v with ⟨n, hn, h2, e⟩ | ⟨hn, e⟩
  · exact ⟨true, (k_isName v).1 ⟨n, hn, h2⟩, e, fun _ => ⟨n, hn, h2⟩⟩
  · exact ⟨false, (k_isName v).2 hn, e, fun q => by cases q⟩
theorem b_bag (v : Int32) : ∃ x : Bool, p_X7_isBag_0 v = some (b2 x) ∧ p_X8_in_0 v 0 3 = some (b2 x) ∧ (x = true → ∃ n, n < 4 ∧ v = nI n) := by
  rcases m_in3 v with ⟨n, hn, h2, e⟩ | ⟨hn, e⟩
  · exact ⟨true, (k_isBag v).1 ⟨n, hn, h2⟩, e, fun _ => ⟨n, hn, h2⟩⟩
  · exact ⟨false, (k_isBag v).2 hn, e, fun q => by cases q⟩
theorem q_fit {σ τ : SS} {nt nm no m : Nat} (hI : Inv1 σ τ nt nm no) (hm : m < nm) (v2 v3 v4 : Int32) (ha : (∃ k, k < 5 ∧ v2 = nI k) → ∃ a, a < nt ∧ v3 = nI a) (hb : v2 = 5 → ∃ b, b < nm ∧ v4 = nI b) : ∃ x : Bool, p_X7_partsFit_0 σ (nI m) v2 v3 v4 = some (b2 x) ∧ p_X8_isRightOp_0 τ (nI m) v2 v3 v4 = some (b2 x) ∧ (x = true → opq τ.1 nt nm v2 v3 (if v2 = 4 then 9 else v4)) := by
  obtain ⟨⟨hw, hM, hO, ho, hT, hc, hcO, hC⟩, hF, hS⟩ := id hI
  have h16 := hw.1
  have h48 := hM.1
  obtain ⟨x9, n1, n2, n3⟩ := b_name v4
  obtain ⟨x4, g1, g2, g3⟩ := b_bag v3
  unfold p_X7_partsFit_0 p_X8_isRightOp_0
  by_cases k0 : v2 = 0
  · obtain ⟨a, han, h3⟩ := ha ⟨0, by omega, k0⟩
    rw [if_pos k0, if_pos k0, h3, oc_s (k_kindOf hT h16 han), oi_n (show a < 16 by omega) (by decide), nI_clamp (show a < 2 ^ 31 by omega)]
    unfold p_X7_partsFit_64 p_X8_isRightOp_62
    by_cases h : τ.1 1 a = 0
    · rw [if_pos h, ob_ok (Or.inr rfl)]
      exact ⟨true, rfl, rfl, fun _ => Or.inl ⟨k0, a, han, rfl, h⟩⟩
    · rw [if_neg h, ob_ok (Or.inl rfl)]
      exact ⟨false, rfl, rfl, fun q => by cases q⟩
  · rw [if_neg k0, if_neg k0]
    unfold p_X7_partsFit_65
    by_cases k1 : v2 = 1
    · obtain ⟨a, han, h3⟩ := ha ⟨1, by omega, k1⟩
      rw [if_pos k1, if_pos k1, oc_s n1, oc_s n2, ob_ok (b2_01 _)]
      refine ⟨x9, rfl, rfl, fun q => ?_⟩
      obtain ⟨n, hn, h4⟩ := n3 q
      exact Or.inr (Or.inl ⟨Or.inl k1, a, n, han, hn, h3, by rw [if_neg (by rw [k1]; decide)]; exact h4⟩)
    · rw [if_neg k1, if_neg k1]
      by_cases k2 : v2 = 2
      · obtain ⟨a, han, h3⟩ := ha ⟨2, by omega, k2⟩
        obtain ⟨t, ht, h5⟩ := own_t hM hm
        have ht5 : p_X4_typeOf_0 σ (nI m) = some (nI t) := by
          unfold p_X4_typeOf_0
          rw [oi_n (show m < 48 by omega) (by decide), nI_clamp (show m < 2 ^ 31 by omega), (hc.2.1 m hm).1, h5]
        rw [if_pos k2, if_pos k2, oc_s n1, oi_n (show m < 48 by omega) (by decide), nI_clamp (show m < 2 ^ 31 by omega), h5, h3, oc_s (m_isNext hw ht), oc_s ht5, oc_s (k_isNext hT h16 ht (show a < 64 by omega)), oc_s n2]
        unfold p_X7_partsFit_102 p_X7_partsFit_103 p_X8_isRightOp_101 p_X8_isRightOp_102
        cases hx : x9 with
        | false =>
          rw [if_pos (show b2 false = 0 from rfl), if_pos (show b2 false = 0 from rfl), ob_ok (Or.inl rfl), ite_self]
          exact ⟨false, rfl, rfl, fun q => by cases q⟩
        | true =>
          obtain ⟨n, hn, h4⟩ := n3 hx
          rw [if_neg (show ¬ b2 true = 0 by decide), if_neg (show ¬ b2 true = 0 by decide), ob_ok (Or.inl rfl), ob_ok (Or.inr rfl)]
          by_cases h : nxt τ.1 t a
          · rw [pb_t.mpr h, if_neg (show ¬ b2 true = 0 by decide)]
            exact ⟨true, rfl, rfl, fun _ => Or.inr (Or.inl ⟨Or.inr (Or.inl k2), a, n, han, hn, rfl, by rw [if_neg (by rw [k2]; decide)]; exact h4⟩)⟩
          · rw [pb_f.mpr h, if_pos (show b2 false = 0 from rfl)]
            exact ⟨false, rfl, rfl, fun q => by cases q⟩
      · rw [if_neg k2, if_neg k2]
        by_cases k3 : v2 = 3
        · obtain ⟨a, han, h3⟩ := ha ⟨3, by omega, k3⟩
          rw [if_pos k3, if_pos k3, oc_s n1, oc_s n2, ob_ok (b2_01 _)]
          refine ⟨x9, rfl, rfl, fun q => ?_⟩
          obtain ⟨n, hn, h4⟩ := n3 q
          exact Or.inr (Or.inl ⟨Or.inr (Or.inr (Or.inl k3)), a, n, han, hn, h3, by rw [if_neg (by rw [k3]; decide)]; exact h4⟩)
        · rw [if_neg k3, if_neg k3]
          by_cases k4 : v2 = 4
          · obtain ⟨a, han, h3⟩ := ha ⟨4, by omega, k4⟩
            rw [if_pos k4, if_pos k4]
            exact ⟨true, rfl, rfl, fun _ => Or.inr (Or.inl ⟨Or.inr (Or.inr (Or.inr k4)), a, 9, han, by omega, h3, by rw [if_pos k4]; rfl⟩)⟩
          · rw [if_neg k4, if_neg k4, if_neg k4]
            by_cases k5 : v2 = 5
            · obtain ⟨b, hbn, h4⟩ := hb k5
              rw [if_pos k5, if_pos k5, oc_s g1, oc_s g2, h4, oc_s (k_isHandle hM hc hbn), oi_n (show b < 48 by omega) (by decide), nI_clamp (show b < 2 ^ 31 by omega), oc_s (m_canBe hM hbn)]
              unfold p_X7_partsFit_129 p_X7_partsFit_130 p_X8_isRightOp_140 p_X8_isRightOp_141
              rw [ob_ok (Or.inl rfl), ob_ok (Or.inr rfl)]
              cases hx : x4 with
              | false =>
                rw [if_pos (show b2 false = 0 from rfl)]
                exact ⟨false, rfl, rfl, fun q => by cases q⟩
              | true =>
                obtain ⟨a, han, h3⟩ := g3 hx
                rw [if_neg (show ¬ b2 true = 0 by decide)]
                by_cases h : τ.1 7 b = 0 ∨ τ.1 7 b = 2 ∨ τ.1 7 b = 3
                · rw [pb_t.mpr h, if_neg (show ¬ b2 true = 0 by decide)]
                  exact ⟨true, rfl, rfl, fun _ => Or.inr (Or.inr (Or.inl ⟨k5, a, b, han, hbn, h3, rfl, h⟩))⟩
                · rw [pb_f.mpr h, if_pos (show b2 false = 0 from rfl)]
                  exact ⟨false, rfl, rfl, fun q => by cases q⟩
            · rw [if_neg k5, if_neg k5]
              by_cases k6 : v2 = 6
              · rw [if_pos k6, if_pos k6, oc_s g1, oc_s g2, ob_ok (b2_01 _)]
                refine ⟨x4, rfl, rfl, fun q => ?_⟩
                exact Or.inr (Or.inr (Or.inr (Or.inl ⟨k6, g3 q⟩)))
              · rw [if_neg k6, if_neg k6]
                by_cases k7 : v2 = 7
                · rw [if_pos k7, if_pos k7, oc_s n1, oc_s n2, ob_ok (b2_01 _)]
                  refine ⟨x9, rfl, rfl, fun q => ?_⟩
                  exact Or.inr (Or.inr (Or.inr (Or.inr ⟨k7, n3 q⟩)))
                · rw [if_neg k7, if_neg k7]
                  exact ⟨false, rfl, rfl, fun q => by cases q⟩
