/-! pure: callee, caller -/
theorem nth_ex {f : Nat → Bool} {n j : Nat} (h : j < cn f n) : ∃ k, k < n ∧ f k = true ∧ cn f k = j := by
  induction n with
  | zero => exact absurd h (Nat.not_lt_zero _)
  | succ n ih =>
    by_cases hf : f n = true
    · rw [cn_s.1 hf] at h
      by_cases e : j = cn f n
      · exact ⟨n, by omega, hf, e.symm⟩
      · obtain ⟨k, h1, h2⟩ := ih (by omega)
        exact ⟨k, by omega, h2⟩
    · rw [cn_s.2 (Bool.eq_false_iff.mpr hf)] at h
      obtain ⟨k, h1, h2⟩ := ih h
      exact ⟨k, by omega, h2⟩
/-- no number of the set was the one that is sought -/
theorem isNth_none {f : Nat → Bool} {n : Nat} (hn : n < 2 ^ 30) {v : Int32} (h : ∀ k, k < n → f k = true → ¬ nI (cn f k) = v) : isNth f n v (-1) := by
  refine Or.inl ⟨rfl, ?_⟩
  by_cases hv : v < 0
  · exact Or.inl hv
  · obtain ⟨j, hj, e⟩ := nI_of hv
    refine Or.inr ?_
    rw [e]
    have := cn_le f n
    refine nI_le ?_ hj
    refine Nat.le_of_not_lt (fun w => ?_)
    obtain ⟨k, h1, h2, h3⟩ := nth_ex w
    exact h k h1 h2 (by rw [h3, e])
theorem callee_22 {P : Nat → Nat → Int32} {nt nm m i o : Nat} (h48 : nm ≤ 48) {s : SS} (h5 : s.1 0 5 = nI nm) (hix : 24 * m + i < 1152) (h10 : s.1 10 (24 * m + i) = nI o) (ho : o < 160) (hg : gM s P nt nm) (v3 : Int32) : ∀ (r k fuel : Nat), k + r = nm → r < fuel → (∀ k', k' < k → pb (LG P nt nm 4 o k') = true → ¬ nI (cn (fun j => pb (LG P nt nm 4 o j)) k') = v3) → ∃ x, p_X8_callee_22 fuel (nI m) (nI i) v3 (nI (cn (fun j => pb (LG P nt nm 4 o j)) k)) (nI k) s = some (x, s) ∧ isNth (fun j => pb (LG P nt nm 4 o j)) nm v3 x := by
  intro r
  induction r with
  | zero =>
    intro k fuel hk hf hn
    obtain ⟨f, rfl⟩ : ∃ f, fuel = f + 1 := ⟨fuel - 1, by omega⟩
    have e : k = nm := by omega
    subst e
    refine ⟨-1, ?_, isNth_none (by omega) hn⟩
    rw [p_X8_callee_22]
    try dsimp only
    rw [h5, if_pos (nI_le (Nat.le_refl _) (by omega))]
  | succ r ih =>
    intro k fuel hk hf hn
    obtain ⟨f, rfl⟩ : ∃ f, fuel = f + 1 := ⟨fuel - 1, by omega⟩
    have hkn : k < nm := by omega
    rw [p_X8_callee_22]
    try dsimp only
    unfold p_X8_callee_68
    rw [h5, if_neg (nI_ge hkn (by omega)), c24, oi_n hix (by decide), nI_clamp (show 24 * m + i < 2 ^ 31 by omega), h10, c48, oi_n (show 48 * o + k < 7680 by omega) (by decide), nI_clamp (show 48 * o + k < 2 ^ 31 by omega), gM_c hg ho (show k < 48 by omega), nI_1, nI_1]
    cases hb : pb (LG P nt nm 4 o k) with
    | false =>
      rw [if_pos (show b2 false = 0 from rfl)]
      have e : cn (fun j => pb (LG P nt nm 4 o j)) (k + 1) = cn (fun j => pb (LG P nt nm 4 o j)) k := cn_s.2 hb
      rw [← e]
      refine ih (k + 1) f (by omega) (by omega) (fun k' h1 h2 => ?_)
      by_cases ek : k' = k
      · subst ek; rw [hb] at h2; cases h2
      · exact hn k' (by omega) h2
    | true =>
      rw [if_neg (show ¬ b2 true = 0 by decide)]
      by_cases e : nI (cn (fun j => pb (LG P nt nm 4 o j)) k) = v3
      · rw [if_pos e]
        exact ⟨nI k, rfl, Or.inr ⟨k, hkn, hb, e.symm, rfl⟩⟩
      · rw [if_neg e]
        have e' : cn (fun j => pb (LG P nt nm 4 o j)) (k + 1) = cn (fun j => pb (LG P nt nm 4 o j)) k + 1 := cn_s.1 hb
        rw [← e']
        refine ih (k + 1) f (by omega) (by omega) (fun k' h1 h2 => ?_)
        by_cases ek : k' = k
        · subst ek; exact e
        · exact hn k' (by omega) h2
/-- an OP of a member -/
theorem b_isOp {σ τ : SS} {nt nm no : Nat} (hI : Inv1 σ τ nt nm no) (v1 v2 : Int32) : (∃ m c i o, m < nm ∧ τ.1 9 m = nI c ∧ c ≤ 24 ∧ i < c ∧ τ.1 10 (24 * m + i) = nI o ∧ o < no ∧ v1 = nI m ∧ v2 = nI i ∧ p_X8_isOp_0 τ v1 v2 = some 1 ∧ p_X4_knows_0 σ v1 = some 1 ∧ p_X5_knows_0 σ v1 v2 = some 1) ∨ (p_X8_isOp_0 τ v1 v2 = some 0 ∧ (p_X4_knows_0 σ v1 = some 0 ∨ (p_X4_knows_0 σ v1 = some 1 ∧ p_X5_knows_0 σ v1 v2 = some 0))) := by
  have hW := Inv1_W hI
  have hC := Inv1_C hI
  have h48 := hW.2.1.1
  unfold p_X8_isOp_0
  rcases m_isMember hW.2.1 v1 with ⟨m, hm, rfl, e1⟩ | ⟨hn, e1⟩
  · obtain ⟨c, w1, w2, -, w4⟩ := hW.2.2.2.2.1 m hm
    have kM := (k_knowsM hC.2.1 h48 (nI m)).1 ⟨m, hm, rfl⟩
    have h22 : σ.1 22 m = nI c := (hC.2.2.1.2.2.1 m hm).trans w2
    rw [oc_s e1, if_neg n10, oi_n (show m < 48 by omega) (by decide), nI_clamp (show m < 2 ^ 31 by omega), w2]
    have kO : p_X5_knows_0 σ (nI m) v2 = if v2 < 0 then some 0 else if nI c ≤ v2 then some 0 else some 1 := by
      unfold p_X5_knows_0 p_X5_knows_18 p_X5_knows_19
      rw [oi_n (show m < 48 by omega) (by decide), nI_clamp (show m < 2 ^ 31 by omega), h22, ob_ok (Or.inl rfl), ob_ok (Or.inr rfl)]
    rcases m_in0 (n := c) (by omega) v2 with ⟨i, hi, rfl, e2⟩ | ⟨hn, e2⟩
    · obtain ⟨o, ho, h10⟩ := w4 i hi
      refine Or.inl ⟨m, c, i, o, hm, w2, w1, hi, h10, ho, rfl, rfl, ?_, kM, ?_⟩
      · rw [oc_s e2, if_neg n10]; exact ob_ok (Or.inr rfl)
      · rw [kO, if_neg (nI_pos (by omega)), if_neg (nI_ge hi (by omega))]
    · refine Or.inr ⟨by rw [oc_s e2, if_pos rfl]; exact ob_ok (Or.inl rfl), Or.inr ⟨kM, ?_⟩⟩
      rw [kO]
      rcases ge_neg (n := c) (by omega) hn with h | ⟨h1, h2⟩
      · rw [if_pos h]
      · rw [if_neg h1, if_pos h2]
  · refine Or.inr ⟨by rw [oc_s e1, if_pos rfl]; exact ob_ok (Or.inl rfl), Or.inl ((k_knowsM hC.2.1 h48 v1).2 hn)⟩
theorem q_callee {σ τ : SS} {nt nm no : Nat} (hI : Inv σ τ nt nm no) (v1 v2 v3 : Int32) : ∃ r σ' τ', p_X7_callee_0 v1 v2 v3 σ = some (r, σ') ∧ p_X8_callee_0 v1 v2 v3 τ = some (r, τ') ∧ Inv σ' τ' nt nm no := by
  unfold p_X7_callee_0 p_X8_callee_0
  rcases b_isOp hI.1 v1 v2 with ⟨m, c, i, o, hm, h9, hc, hi, h10, ho, rfl, rfl, e1, e2, e3⟩ | ⟨e1, e2 | ⟨e2, e3⟩⟩
  · rw [oc_s e1, oc_s e2, if_neg n10, if_neg n10, oc_s e3, if_neg n10]
    obtain ⟨σ', τ', q1, q2, q3, q4, q5, q6⟩ := i_both hI
    have hW := Inv1_W q3.1
    have hC := Inv1_C q3.1
    have h48 := hW.2.1.1
    have h160 := hW.2.2.1
    have h9' : τ'.1 9 m = nI c := by rw [q6.1 9 (by decide) (by decide)]; exact h9
    have h10' : τ'.1 10 (24 * m + i) = nI o := by rw [q6.1 10 (by decide) (by decide)]; exact h10
    obtain ⟨r, n1, n2⟩ := p_nth (σ'.2 25 o) v3
    have hat : p_X5_at_0 σ' (nI m) (nI i) = some (nI o) := by rw [k_opAt hC.2.2.1 h48 hm h9' hc hi, h10']
    have hcal : p_X3_calleesOf_0 σ' (nI o) = some (σ'.2 25 o) := by
      unfold p_X3_calleesOf_0
      rw [oi_n (show o < 160 by omega) (by decide), nI_clamp (show o < 2 ^ 31 by omega)]
    obtain ⟨x, y1, y2⟩ := callee_22 h48 hW.2.1.2.1 (show 24 * m + i < 1152 by omega) h10' (show o < 160 by omega) q5 v3 nm 0 100000 (by omega) (by omega) (fun k' h => by omega)
    have hx : x = r := by
      refine isNth_one (f := fun j => pb (LG τ'.1 nt nm 4 o j)) (N := nm) (by omega) y2 ?_
      refine (isNth_cut (M := nm) (N := 64) (fun k h1 h2 => ?_) (by omega)).mp (isNth_congr (fun k hk => gC_c q4 (show o < 160 by omega) k) n2)
      exact pb_f.mpr (fun w => by have := ((LG_lt w).2.2.2 rfl).2; omega)
    rw [oc_s q1, oc_s q2, oc_s hat, oc_s hcal, oc_s n1]
    exact ⟨r, σ', τ', rfl, by rw [← hx]; exact y1, q3⟩
  · rw [oc_s e1, oc_s e2, if_pos rfl, if_pos rfl]
    exact ⟨-101, σ, τ, rfl, rfl, hI⟩
  · rw [oc_s e1, oc_s e2, if_pos rfl, if_neg n10, oc_s e3, if_pos rfl]
    exact ⟨-101, σ, τ, rfl, rfl, hI⟩
theorem m_isCallee {P : Nat → Nat → Int32} {nt nm k m : Nat} (h48 : nm ≤ 48) (hk : k < nm) (hm : m < nm) {s : SS} (hg : gM s P nt nm) : p_X8_isCallee_0 s (nI k) (nI m) = some (b2 (pb (dirP P nt nm k m))) := by
  unfold p_X8_isCallee_0
  rw [c48, oi_n (show 48 * k + m < 2304 by omega) (by decide), nI_clamp (show 48 * k + m < 2 ^ 31 by omega), hg.2.2.2.1 k m hk hm, ob_ok (b2_01 _)]
theorem callersOf_5 {P : Nat → Nat → Int32} {nt nm m u : Nat} (h48 : nm ≤ 48) (hm : m < nm) (hu : u ≤ nm) {s : SS} (hg : gM s P nt nm) : ∀ (r k fuel : Nat), k + r = u → r < fuel → p_X8_callersOf_5 s fuel (nI m) (nI u) (nI (cn (fun j => pb (dirP P nt nm j m)) k)) (nI k) = some (nI (cn (fun j => pb (dirP P nt nm j m)) u)) := by
  intro r
  induction r with
  | zero =>
    intro k fuel hk hf
    obtain ⟨f, rfl⟩ : ∃ f, fuel = f + 1 := ⟨fuel - 1, by omega⟩
    have e : k = u := by omega
    subst e
    rw [p_X8_callersOf_5]
    try dsimp only
    rw [if_pos (nI_le (Nat.le_refl _) (by omega))]
  | succ r ih =>
    intro k fuel hk hf
    obtain ⟨f, rfl⟩ : ∃ f, fuel = f + 1 := ⟨fuel - 1, by omega⟩
    rw [p_X8_callersOf_5]
    try dsimp only
    unfold p_X8_callersOf_27
    rw [if_neg (nI_ge (by omega) (by omega)), oc_s (m_isCallee h48 (show k < nm by omega) hm hg), nI_1, nI_1, show (0 : Int32) = nI 0 from rfl, nI_add]
    cases hb : pb (dirP P nt nm k m) with
    | false =>
      rw [if_pos (show b2 false = nI 0 from rfl)]
      have e : cn (fun j => pb (dirP P nt nm j m)) (k + 1) = cn (fun j => pb (dirP P nt nm j m)) k := cn_s.2 hb
      rw [Nat.add_zero, ← e]
      exact ih (k + 1) f (by omega) (by omega)
    | true =>
      rw [if_neg (show ¬ b2 true = nI 0 by decide)]
      have e : cn (fun j => pb (dirP P nt nm j m)) (k + 1) = cn (fun j => pb (dirP P nt nm j m)) k + 1 := cn_s.1 hb
      rw [← e]
      exact ih (k + 1) f (by omega) (by omega)
theorem m_callersOf {P : Nat → Nat → Int32} {nt nm m u : Nat} (h48 : nm ≤ 48) (hm : m < nm) (hu : u ≤ nm) {s : SS} (hg : gM s P nt nm) : p_X8_callersOf_0 s (nI m) (nI u) = some (nI (cn (fun j => pb (dirP P nt nm j m)) u)) := callersOf_5 h48 hm hu hg u 0 100000 (by omega) (by omega)
theorem caller_17 {P : Nat → Nat → Int32} {nt nm m : Nat} (h48 : nm ≤ 48) (hm : m < nm) {s : SS} (h5 : s.1 0 5 = nI nm) (hg : gM s P nt nm) (v2 : Int32) : ∀ (r k fuel : Nat), k + r = nm → r < fuel → (∀ k', k' < k → pb (dirP P nt nm k' m) = true → ¬ nI (cn (fun j => pb (dirP P nt nm j m)) k') = v2) → ∃ x, p_X8_caller_17 fuel (nI m) v2 (nI k) s = some (x, s) ∧ isNth (fun j => pb (dirP P nt nm j m)) nm v2 x := by
  intro r
  induction r with
  | zero =>
    intro k fuel hk hf hn
    obtain ⟨f, rfl⟩ : ∃ f, fuel = f + 1 := ⟨fuel - 1, by omega⟩
    have e : k = nm := by omega
    subst e
    refine ⟨-1, ?_, isNth_none (by omega) hn⟩
    rw [p_X8_caller_17]
    try dsimp only
    rw [h5, if_pos (nI_le (Nat.le_refl _) (by omega))]
  | succ r ih =>
    intro k fuel hk hf hn
    obtain ⟨f, rfl⟩ : ∃ f, fuel = f + 1 := ⟨fuel - 1, by omega⟩
    have hkn : k < nm := by omega
    rw [p_X8_caller_17]
    try dsimp only
    unfold p_X8_caller_46
    rw [h5, if_neg (nI_ge hkn (by omega)), oc_s (m_isCallee h48 hkn hm hg), nI_1]
    cases hb : pb (dirP P nt nm k m) with
    | false =>
      rw [if_pos (show b2 false = 0 from rfl)]
      refine ih (k + 1) f (by omega) (by omega) (fun k' h1 h2 => ?_)
      by_cases ek : k' = k
      · subst ek; rw [hb] at h2; cases h2
      · exact hn k' (by omega) h2
    | true =>
      rw [if_neg (show ¬ b2 true = 0 by decide), oc_s (m_callersOf h48 hm (show k ≤ nm by omega) hg)]
      by_cases e : nI (cn (fun j => pb (dirP P nt nm j m)) k) = v2
      · rw [if_pos e]
        exact ⟨nI k, rfl, Or.inr ⟨k, hkn, hb, e.symm, rfl⟩⟩
      · rw [if_neg e]
        refine ih (k + 1) f (by omega) (by omega) (fun k' h1 h2 => ?_)
        by_cases ek : k' = k
        · subst ek; exact e
        · exact hn k' (by omega) h2
theorem callersOfAny_5 {P : Nat → Nat → Int32} {nt nm : Nat} (h48 : nm ≤ 48) {σ : SS} (hs : σ.1 2 10 = nI nm) (hg : gC σ P nt nm) (v : Int64) : ∀ (r k fuel : Nat) (x : Int64), k + r = nm → r < fuel → (∀ m, m < 64 → (lb x m = true ↔ m < k ∧ ∃ j, lb v j = true ∧ dirP P nt nm m j)) → ∃ x', p_X3_callersOfAny_5 σ fuel v x (nI k) = some x' ∧ ∀ m, m < 64 → (lb x' m = true ↔ m < nm ∧ ∃ j, lb v j = true ∧ dirP P nt nm m j) := by
  intro r
  induction r with
  | zero =>
    intro k fuel x hk hf hx
    obtain ⟨f, rfl⟩ : ∃ f, fuel = f + 1 := ⟨fuel - 1, by omega⟩
    have e : k = nm := by omega
    subst e
    refine ⟨x, ?_, hx⟩
    rw [p_X3_callersOfAny_5]
    try dsimp only
    rw [oc_s (show p_X4_size_0 σ = some (nI k) by unfold p_X4_size_0; rw [hs]), if_pos (nI_le (Nat.le_refl _) (by omega))]
  | succ r ih =>
    intro k fuel x hk hf hx
    obtain ⟨f, rfl⟩ : ∃ f, fuel = f + 1 := ⟨fuel - 1, by omega⟩
    have hkn : k < nm := by omega
    rw [p_X3_callersOfAny_5]
    try dsimp only
    unfold p_X3_callersOfAny_38
    rw [oc_s (show p_X4_size_0 σ = some (nI nm) by unfold p_X4_size_0; rw [hs]), if_neg (nI_ge hkn (by omega)), oi_n (show k < 48 by omega) (by decide), nI_clamp (show k < 2 ^ 31 by omega), with_s, oc_s rfl, nI_1]
    by_cases h0 : (σ.2 26 k &&& v) = 0
    · rw [if_pos ((lg_cmp_eq _ _).mpr h0)]
      refine ih (k + 1) f x (by omega) (by omega) (fun m hm => ?_)
      rw [hx m hm]
      refine ⟨fun h => ⟨by omega, h.2⟩, fun ⟨h1, j, h2, h3⟩ => ?_⟩
      by_cases e : m = k
      · subst e
        exfalso
        have : lb (σ.2 26 m &&& v) j = true := by rw [lb_and, gC_d hg hkn, pb_t.mpr h3, h2]; rfl
        rw [h0, lb_0] at this
        cases this
      · exact ⟨by omega, j, h2, h3⟩
    · rw [if_neg (fun e => h0 ((lg_cmp_eq _ _).mp e))]
      refine ih (k + 1) f _ (by omega) (by omega) (fun m hm => ?_)
      rw [lb_with (show k < 64 by omega), Bool.or_eq_true, hx m hm, decide_eq_true_iff]
      constructor
      · rintro (⟨h1, h2⟩ | rfl)
        · exact ⟨by omega, h2⟩
        · obtain ⟨j, hj, w⟩ := lb_some h0
          rw [lb_and, Bool.and_eq_true] at w
          refine ⟨by omega, j, w.2, ?_⟩
          have := w.1
          rw [gC_d hg hkn] at this
          exact pb_t.mp this
      · rintro ⟨h1, h2⟩
        by_cases e : m = k
        · exact Or.inr e
        · exact Or.inl ⟨by omega, h2⟩
theorem k_callersOfAny {P : Nat → Nat → Int32} {nt nm : Nat} (h48 : nm ≤ 48) {σ : SS} (hs : σ.1 2 10 = nI nm) (hg : gC σ P nt nm) (v : Int64) : ∃ x', p_X3_callersOfAny_0 σ v = some x' ∧ ∀ m, m < 64 → (lb x' m = true ↔ m < nm ∧ ∃ j, lb v j = true ∧ dirP P nt nm m j) := callersOfAny_5 h48 hs hg v nm 0 100000 0 (by omega) (by omega) (fun m _ => ⟨fun w => (no_lb w).elim, fun w => by omega⟩)
theorem k_callersOf {P : Nat → Nat → Int32} {nt nm m : Nat} (h48 : nm ≤ 48) (hm : m < nm) {σ : SS} (hs : σ.1 2 10 = nI nm) (hg : gC σ P nt nm) : ∃ x', p_X3_callersOf_0 σ (nI m) = some x' ∧ ∀ k, k < 64 → (lb x' k = true ↔ k < nm ∧ dirP P nt nm k m) := by
  obtain ⟨x', q1, q2⟩ := k_callersOfAny h48 hs hg (jshl 1 (nI m))
  refine ⟨x', by unfold p_X3_callersOf_0; rw [oc_s q1], fun k hk => ?_⟩
  rw [q2 k hk]
  refine and_congr Iff.rfl ⟨fun ⟨j, h1, h2⟩ => ?_, fun h => ⟨m, ?_, h⟩⟩
  · rw [lb_tp (show m < 64 by omega), decide_eq_true_iff] at h1
    rw [← h1]; exact h2
  · rw [lb_tp (show m < 64 by omega), decide_eq_true_iff]
/-- a set of the class against numbers below nm -/
theorem nth_nm {x : Int64} {f : Nat → Bool} {nm : Nat} (h48 : nm ≤ 48) (h : ∀ k, k < 64 → (lb x k = true ↔ k < nm ∧ f k = true)) {i r : Int32} (hn : isNth (lb x) 64 i r) : isNth f nm i r := by
  have h1 : isNth (lb x) nm i r := (isNth_cut (M := nm) (N := 64) (fun k h1 h2 => by
    cases hb : lb x k with
    | false => rfl
    | true => have := ((h k h2).mp hb).1; omega) (by omega)).mp hn
  refine isNth_congr (fun k hk => ?_) h1
  exact (Bool.eq_iff_iff).mpr ((h k (by omega)).trans ⟨fun w => w.2, fun w => ⟨hk, w⟩⟩)
theorem cn_nm {x : Int64} {f : Nat → Bool} {nm : Nat} (h48 : nm ≤ 48) (h : ∀ k, k < 64 → (lb x k = true ↔ k < nm ∧ f k = true)) : cn (lb x) 64 = cn f nm := by
  rw [cn_out (f := lb x) (M := nm) (N := 64) (fun k h1 h2 => by
    cases hb : lb x k with
    | false => rfl
    | true => have := ((h k h2).mp hb).1; omega) (by omega)]
  exact cn_congr (fun k hk => (Bool.eq_iff_iff).mpr ((h k (by omega)).trans ⟨fun w => w.2, fun w => ⟨hk, w⟩⟩))
theorem q_caller {σ τ : SS} {nt nm no : Nat} (hI : Inv σ τ nt nm no) (v1 v2 : Int32) : ∃ r σ' τ', p_X7_caller_0 v1 v2 σ = some (r, σ') ∧ p_X8_caller_0 v1 v2 τ = some (r, τ') ∧ Inv σ' τ' nt nm no := by
  have h48 := hI.1.1.2.1.1
  unfold p_X7_caller_0 p_X8_caller_0
  rcases m_isMember hI.1.1.2.1 v1 with ⟨m, hm, rfl, e1⟩ | ⟨hn, e1⟩
  · rw [oc_s e1, oc_s ((k_knowsM (Inv1_C hI.1).2.1 h48 (nI m)).1 ⟨m, hm, rfl⟩), if_neg n10, if_neg n10]
    obtain ⟨σ', τ', q1, q2, q3, q4, q5, q6⟩ := i_both hI
    have hW := Inv1_W q3.1
    have hC := Inv1_C q3.1
    obtain ⟨x', y1, y2⟩ := k_callersOf h48 hm hC.2.1.1 q4
    obtain ⟨r, n1, n2⟩ := p_nth x' v2
    obtain ⟨x, z1, z2⟩ := caller_17 h48 hm hW.2.1.2.1 q5 v2 nm 0 100000 (by omega) (by omega) (fun k' h => by omega)
    have hx : x = r := isNth_one (f := fun j => pb (dirP τ'.1 nt nm j m)) (N := nm) (by omega) z2 (nth_nm h48 (fun k hk => (y2 k hk).trans (and_congr Iff.rfl pb_t.symm)) n2)
    rw [oc_s q1, oc_s q2, oc_s y1, oc_s n1]
    exact ⟨r, σ', τ', rfl, by rw [← hx]; exact z1, q3⟩
  · rw [oc_s e1, oc_s ((k_knowsM (Inv1_C hI.1).2.1 h48 v1).2 hn), if_pos rfl, if_pos rfl]
    exact ⟨-101, σ, τ, rfl, rfl, hI⟩
