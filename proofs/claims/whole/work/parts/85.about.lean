/-! pure: about -/
theorem wsh_trb {D : Nat → Nat → Prop} : ∀ (b c m j : Nat), c < b → wsh D b m c → wsh D b c j → wsh D b m j := by
  intro b
  induction b with
  | zero => intro c m j h; omega
  | succ b ih =>
    intro c m j hc h g
    by_cases e : c = b
    · subst e
      exact Or.inr ⟨wsh_col.mp h, wsh_row.mp g⟩
    · rcases h with h | ⟨h1, h2⟩
      · rcases g with g | ⟨g1, g2⟩
        · exact Or.inl (ih c m j (by omega) h g)
        · exact Or.inr ⟨ih c m b (by omega) h g1, g2⟩
      · rcases g with g | ⟨g1, g2⟩
        · exact Or.inr ⟨h1, ih c b j (by omega) h2 g⟩
        · exact Or.inr ⟨h1, g2⟩
theorem wsh_first {D : Nat → Nat → Prop} : ∀ (b m j : Nat), wsh D b m j → ∃ k, D m k := by
  intro b
  induction b with
  | zero => exact fun m j h => ⟨j, h⟩
  | succ b ih =>
    rintro m j (h | ⟨h, -⟩)
    · exact ih m j h
    · exact ih m b h
theorem wsh_r {P : Nat → Nat → Int32} {nt nm no m j : Nat} (hS : wfS P nm no) (hm : m < nm) (h : wsh (dirP P nt nm) nm m j) : LG P nt nm 0 m 0 := by
  obtain ⟨k, hk⟩ := wsh_first nm m j h
  exact dir_own hS hm hk
theorem m_isRec {P : Nat → Nat → Int32} {nt nm no m : Nat} (h48 : nm ≤ 48) (hS : wfS P nm no) (hm : m < nm) {s : SS} (hg : gM s P nt nm) : p_X8_isRecursive_0 s (nI m) = some (b2 (pb (wsh (dirP P nt nm) nm m m))) := by
  unfold p_X8_isRecursive_0 p_X8_isRecursive_27 p_X8_isRecursive_28
  rw [oi_n (show m < 48 by omega) (by decide), nI_clamp (show m < 2 ^ 31 by omega), gM_r hg (show m < 48 by omega), c48, oi_n (show 48 * m + m < 2304 by omega) (by decide), nI_clamp (show 48 * m + m < 2 ^ 31 by omega), hg.2.2.2.2 m m hm hm, ob_ok (Or.inl rfl), ob_ok (Or.inr rfl)]
  by_cases h : wsh (dirP P nt nm) nm m m
  · rw [pb_t.mpr (wsh_r hS hm h), pb_t.mpr h, if_neg (show ¬ b2 true = 0 by decide), if_neg (show ¬ b2 true = 0 by decide)]
    rfl
  · rw [pb_f.mpr h, if_pos (show b2 false = 0 from rfl)]
    by_cases q : b2 (pb (LG P nt nm 0 m 0)) = 0
    · rw [if_pos q]; rfl
    · rw [if_neg q]; rfl
theorem m_isRing {P : Nat → Nat → Int32} {nt nm no m k : Nat} (h48 : nm ≤ 48) (hS : wfS P nm no) (hm : m < nm) (hk : k < nm) {s : SS} (hg : gM s P nt nm) : p_X8_isRing_0 s (nI m) (nI k) = some (b2 (pb (wsh (dirP P nt nm) nm m k ∧ wsh (dirP P nt nm) nm k m))) := by
  unfold p_X8_isRing_0 p_X8_isRing_40 p_X8_isRing_41
  rw [oc_s (m_isRec h48 hS hm hg), c48, c48, oi_n (show 48 * m + k < 2304 by omega) (by decide), oi_n (show 48 * k + m < 2304 by omega) (by decide), nI_clamp (show 48 * m + k < 2 ^ 31 by omega), nI_clamp (show 48 * k + m < 2 ^ 31 by omega), hg.2.2.2.2 m k hm hk, hg.2.2.2.2 k m hk hm, ob_ok (Or.inl rfl), ob_ok (Or.inr rfl)]
  by_cases h : wsh (dirP P nt nm) nm m k ∧ wsh (dirP P nt nm) nm k m
  · rw [pb_t.mpr h, pb_t.mpr h.1, pb_t.mpr h.2, pb_t.mpr (wsh_trb nm k m m hk h.1 h.2), if_neg (show ¬ b2 true = 0 by decide), if_neg (show ¬ b2 true = 0 by decide), if_neg (show ¬ b2 true = 0 by decide)]
    rfl
  · rw [pb_f.mpr h]
    by_cases q1 : b2 (pb (wsh (dirP P nt nm) nm m m)) = 0
    · rw [if_pos q1]; rfl
    · rw [if_neg q1]
      by_cases q2 : wsh (dirP P nt nm) nm m k
      · rw [pb_t.mpr q2, if_neg (show ¬ b2 true = 0 by decide), pb_f.mpr (fun q => h ⟨q2, q⟩), if_pos (show b2 false = 0 from rfl)]
        rfl
      · rw [pb_f.mpr q2, if_pos (show b2 false = 0 from rfl)]
        rfl
/-- the answer of about -/
def isAb (P : Nat → Nat → Int32) (nt nm m : Nat) (v r : Int32) : Prop := (v = 0 ∧ r = b2 (pb (LG P nt nm 0 m 0))) ∨ (v = 1 ∧ r = b2 (pb (wsh (dirP P nt nm) nm m m))) ∨ (v = 2 ∧ r = nI (cn (fun j => pb (dirP P nt nm j m)) nm)) ∨ (v = 3 ∧ r = nI (cn (fun j => pb (wsh (dirP P nt nm) nm m j ∧ wsh (dirP P nt nm) nm j m)) nm)) ∨ (v = 4 ∧ isNth (fun j => pb (wsh (dirP P nt nm) nm m j ∧ wsh (dirP P nt nm) nm j m)) nm 0 r) ∨ ((¬ ∃ k, k < 5 ∧ v = nI k) ∧ r = -102)
theorem isAb_one {P : Nat → Nat → Int32} {nt nm m : Nat} (h48 : nm ≤ 48) {v r r' : Int32} (h : isAb P nt nm m v r) (h' : isAb P nt nm m v r') : r = r' := by
  rcases h with ⟨a, h⟩ | ⟨a, h⟩ | ⟨a, h⟩ | ⟨a, h⟩ | ⟨a, h⟩ | ⟨a, h⟩
  · rcases h' with ⟨b, g⟩ | ⟨b, g⟩ | ⟨b, g⟩ | ⟨b, g⟩ | ⟨b, g⟩ | ⟨b, g⟩
    · rw [h, g]
    · rw [a] at b; exact absurd b (by decide)
    · rw [a] at b; exact absurd b (by decide)
    · rw [a] at b; exact absurd b (by decide)
    · rw [a] at b; exact absurd b (by decide)
    · exact absurd ⟨0, by decide, a⟩ b
  · rcases h' with ⟨b, g⟩ | ⟨b, g⟩ | ⟨b, g⟩ | ⟨b, g⟩ | ⟨b, g⟩ | ⟨b, g⟩
    · rw [a] at b; exact absurd b (by decide)
    · rw [h, g]
    · rw [a] at b; exact absurd b (by decide)
    · rw [a] at b; exact absurd b (by decide)
    · rw [a] at b; exact absurd b (by decide)
    · exact absurd ⟨1, by decide, a⟩ b
  · rcases h' with ⟨b, g⟩ | ⟨b, g⟩ | ⟨b, g⟩ | ⟨b, g⟩ | ⟨b, g⟩ | ⟨b, g⟩
    · rw [a] at b; exact absurd b (by decide)
    · rw [a] at b; exact absurd b (by decide)
    · rw [h, g]
    · rw [a] at b; exact absurd b (by decide)
    · rw [a] at b; exact absurd b (by decide)
    · exact absurd ⟨2, by decide, a⟩ b
  · rcases h' with ⟨b, g⟩ | ⟨b, g⟩ | ⟨b, g⟩ | ⟨b, g⟩ | ⟨b, g⟩ | ⟨b, g⟩
    · rw [a] at b; exact absurd b (by decide)
    · rw [a] at b; exact absurd b (by decide)
    · rw [a] at b; exact absurd b (by decide)
    · rw [h, g]
    · rw [a] at b; exact absurd b (by decide)
    · exact absurd ⟨3, by decide, a⟩ b
  · rcases h' with ⟨b, g⟩ | ⟨b, g⟩ | ⟨b, g⟩ | ⟨b, g⟩ | ⟨b, g⟩ | ⟨b, g⟩
    · rw [a] at b; exact absurd b (by decide)
    · rw [a] at b; exact absurd b (by decide)
    · rw [a] at b; exact absurd b (by decide)
    · rw [a] at b; exact absurd b (by decide)
    · exact isNth_one (by omega) h g
    · exact absurd ⟨4, by decide, a⟩ b
  · rcases h' with ⟨b, g⟩ | ⟨b, g⟩ | ⟨b, g⟩ | ⟨b, g⟩ | ⟨b, g⟩ | ⟨b, g⟩
    · exact absurd ⟨0, by decide, b⟩ a
    · exact absurd ⟨1, by decide, b⟩ a
    · exact absurd ⟨2, by decide, b⟩ a
    · exact absurd ⟨3, by decide, b⟩ a
    · exact absurd ⟨4, by decide, b⟩ a
    · rw [h, g]
theorem about_28 {P : Nat → Nat → Int32} {nt nm no m : Nat} (h48 : nm ≤ 48) (hS : wfS P nm no) (hm : m < nm) {s : SS} (h5 : s.1 0 5 = nI nm) (hg : gM s P nt nm) (v2 : Int32) : ∀ (k fuel : Nat) (v4 : Int32) (c : Nat), k ≤ nm → k < fuel → isLe (fun j => pb (wsh (dirP P nt nm) nm m j ∧ wsh (dirP P nt nm) nm j m)) k nm v4 → c + cn (fun j => pb (wsh (dirP P nt nm) nm m j ∧ wsh (dirP P nt nm) nm j m)) k = cn (fun j => pb (wsh (dirP P nt nm) nm m j ∧ wsh (dirP P nt nm) nm j m)) nm → ∃ r, p_X8_about_28 fuel (nI m) v2 (nI c) v4 (nI k + (-1)) s = some (r, s) ∧ isAb P nt nm m v2 r := by
  intro k
  induction k with
  | zero =>
    intro fuel v4 c hk hf h4 hc
    obtain ⟨f, rfl⟩ : ∃ f, fuel = f + 1 := ⟨fuel - 1, by omega⟩
    have hcc : c = cn (fun j => pb (wsh (dirP P nt nm) nm m j ∧ wsh (dirP P nt nm) nm j m)) nm := hc
    rw [p_X8_about_28]
    try dsimp only
    rw [if_pos (by decide)]
    by_cases e0 : v2 = 0
    · rw [if_pos e0, oi_n (show m < 48 by omega) (by decide), nI_clamp (show m < 2 ^ 31 by omega), gM_r hg (show m < 48 by omega)]
      exact ⟨_, if_b2 _ (fun z => some (z, s)), Or.inl ⟨e0, rfl⟩⟩
    · rw [if_neg e0]
      by_cases e1 : v2 = 1
      · rw [if_pos e1, oc_s (m_isRec h48 hS hm hg)]
        exact ⟨_, if_b2 _ (fun z => some (z, s)), Or.inr (Or.inl ⟨e1, rfl⟩)⟩
      · rw [if_neg e1]
        by_cases e2 : v2 = 2
        · rw [if_pos e2, h5, oc_s (m_callersOf h48 hm (Nat.le_refl _) hg)]
          exact ⟨_, rfl, Or.inr (Or.inr (Or.inl ⟨e2, rfl⟩))⟩
        · rw [if_neg e2]
          by_cases e3 : v2 = 3
          · rw [if_pos e3]
            exact ⟨_, rfl, Or.inr (Or.inr (Or.inr (Or.inl ⟨e3, by rw [hcc]⟩)))⟩
          · rw [if_neg e3]
            by_cases e4 : v2 = 4
            · rw [if_pos e4]
              exact ⟨_, rfl, Or.inr (Or.inr (Or.inr (Or.inr (Or.inl ⟨e4, isLe_nth h4⟩))))⟩
            · rw [if_neg e4]
              refine ⟨_, rfl, Or.inr (Or.inr (Or.inr (Or.inr (Or.inr ⟨?_, rfl⟩))))⟩
              rintro ⟨k, hk, e⟩
              rcases (show k = 0 ∨ k = 1 ∨ k = 2 ∨ k = 3 ∨ k = 4 by omega) with rfl | rfl | rfl | rfl | rfl
              · exact e0 e
              · exact e1 e
              · exact e2 e
              · exact e3 e
              · exact e4 e
  | succ k ih =>
    intro fuel v4 c hk hf h4 hc
    obtain ⟨f, rfl⟩ : ∃ f, fuel = f + 1 := ⟨fuel - 1, by omega⟩
    have s4 := isLe_step h4 (show k < nm by omega)
    rw [p_X8_about_28]
    try dsimp only
    unfold p_X8_about_49 p_X8_about_68
    rw [pk_m1, if_neg (nI_pos (by omega)), oc_s (m_isRing h48 hS hm (show k < nm by omega) hg)]
    cases hb : pb (wsh (dirP P nt nm) nm m k ∧ wsh (dirP P nt nm) nm k m) with
    | false =>
      rw [cn_s.2 hb] at hc
      rw [if_pos (show b2 false = 0 from rfl), oc_s (m_isRing h48 hS hm (show k < nm by omega) hg), hb, if_pos (show b2 false = 0 from rfl), show nI c + 0 = nI c from nI_add c 0]
      exact ih f v4 c (by omega) (by omega) (s4.2 hb) hc
    | true =>
      rw [cn_s.1 hb] at hc
      rw [if_neg (show ¬ b2 true = 0 by decide), oc_s (m_isRing h48 hS hm (show k < nm by omega) hg), hb, if_neg (show ¬ b2 true = 0 by decide), nI_1]
      exact ih f (nI k) (c + 1) (by omega) (by omega) (s4.1 hb) (by omega)
theorem k_isRec {P : Nat → Nat → Int32} {nt nm m : Nat} (h48 : nm ≤ 48) (hm : m < nm) {σ : SS} (hg : gC σ P nt nm) : p_X3_isRecursive_0 σ (nI m) = some (b2 (pb (wsh (dirP P nt nm) nm m m))) := by
  unfold p_X3_isRecursive_0
  rw [oi_n (show m < 48 by omega) (by decide), nI_clamp (show m < 2 ^ 31 by omega), oc_s (p_has (show m < 64 by omega)), ob_ok (b2_01 _), gC_w hg hm]
theorem ringOf_5 {P : Nat → Nat → Int32} {nt nm m : Nat} (h48 : nm ≤ 48) (hm : m < nm) {σ : SS} (hs : σ.1 2 10 = nI nm) (hg : gC σ P nt nm) : ∀ (r k fuel : Nat) (x : Int64), k + r = nm → r < fuel → (∀ j, j < 64 → (lb x j = true ↔ j < k ∧ pb (wsh (dirP P nt nm) nm m j ∧ wsh (dirP P nt nm) nm j m) = true)) → ∃ x', p_X3_ringOf_5 σ fuel (nI m) x (nI k) = some x' ∧ ∀ j, j < 64 → (lb x' j = true ↔ j < nm ∧ pb (wsh (dirP P nt nm) nm m j ∧ wsh (dirP P nt nm) nm j m) = true) := by
  intro r
  induction r with
  | zero =>
    intro k fuel x hk hf hx
    obtain ⟨f, rfl⟩ : ∃ f, fuel = f + 1 := ⟨fuel - 1, by omega⟩
    have e : k = nm := by omega
    subst e
    refine ⟨x, ?_, hx⟩
    rw [p_X3_ringOf_5]
    try dsimp only
    rw [oc_s (show p_X4_size_0 σ = some (nI k) by unfold p_X4_size_0; rw [hs]), if_pos (nI_le (Nat.le_refl _) (by omega))]
  | succ r ih =>
    intro k fuel x hk hf hx
    obtain ⟨f, rfl⟩ : ∃ f, fuel = f + 1 := ⟨fuel - 1, by omega⟩
    have hkn : k < nm := by omega
    have no : ¬ (wsh (dirP P nt nm) nm m k ∧ wsh (dirP P nt nm) nm k m) → ∃ x', p_X3_ringOf_5 σ f (nI m) x (nI (k + 1)) = some x' ∧ ∀ j, j < 64 → (lb x' j = true ↔ j < nm ∧ pb (wsh (dirP P nt nm) nm m j ∧ wsh (dirP P nt nm) nm j m) = true) := by
      intro h
      refine ih (k + 1) f x (by omega) (by omega) (fun j hj => ?_)
      rw [hx j hj]
      refine ⟨fun w => ⟨by omega, w.2⟩, fun w => ⟨?_, w.2⟩⟩
      by_cases e : j = k
      · subst e; exact absurd (pb_t.mp w.2) h
      · omega
    rw [p_X3_ringOf_5]
    try dsimp only
    unfold p_X3_ringOf_52
    rw [oc_s (show p_X4_size_0 σ = some (nI nm) by unfold p_X4_size_0; rw [hs]), if_neg (nI_ge hkn (by omega)), oi_n (show m < 48 by omega) (by decide), nI_clamp (show m < 2 ^ 31 by omega), oc_s (p_has (show k < 64 by omega)), gC_w hg hm, oi_n (show k < 48 by omega) (by decide), nI_clamp (show k < 2 ^ 31 by omega), oc_s (p_has (show m < 64 by omega)), gC_w hg hkn, with_s, oc_s rfl, nI_1]
    by_cases h1 : wsh (dirP P nt nm) nm m k
    · rw [pb_t.mpr h1, if_neg (show ¬ b2 true = 0 by decide)]
      by_cases h2 : wsh (dirP P nt nm) nm k m
      · rw [pb_t.mpr h2, if_neg (show ¬ b2 true = 0 by decide)]
        refine ih (k + 1) f _ (by omega) (by omega) (fun j hj => ?_)
        rw [lb_with (show k < 64 by omega), Bool.or_eq_true, hx j hj, decide_eq_true_iff]
        constructor
        · rintro (w | rfl)
          · exact ⟨by omega, w.2⟩
          · exact ⟨by omega, pb_t.mpr ⟨h1, h2⟩⟩
        · rintro ⟨w1, w2⟩
          by_cases e : j = k
          · exact Or.inr e
          · exact Or.inl ⟨by omega, w2⟩
      · rw [pb_f.mpr h2, if_pos (show b2 false = 0 from rfl)]
        exact no (fun q => h2 q.2)
    · rw [pb_f.mpr h1, if_pos (show b2 false = 0 from rfl)]
      exact no (fun q => h1 q.1)
theorem q_about {σ τ : SS} {nt nm no : Nat} (hI : Inv σ τ nt nm no) (v1 v2 : Int32) : ∃ r σ' τ', p_X7_about_0 v1 v2 σ = some (r, σ') ∧ p_X8_about_0 v1 v2 τ = some (r, τ') ∧ Inv σ' τ' nt nm no := by
  have h48 := hI.1.1.2.1.1
  unfold p_X7_about_0 p_X8_about_0
  rcases m_isMember hI.1.1.2.1 v1 with ⟨m, hm, rfl, e1⟩ | ⟨hn, e1⟩
  · rw [oc_s e1, oc_s ((k_knowsM (Inv1_C hI.1).2.1 h48 (nI m)).1 ⟨m, hm, rfl⟩), if_neg n10, if_neg n10]
    have ref : ∀ τ', gM τ' τ'.1 nt nm → Inv σ τ' nt nm no → ∃ r, p_X8_about_28 100000 (nI m) v2 0 (-1) ((τ'.1 0 5) - 1) τ' = some (r, τ') ∧ isAb τ'.1 nt nm m v2 r := by
      intro τ' g i
      have h5 : τ'.1 0 5 = nI nm := (Inv1_W i.1).2.1.2.1
      rw [h5, show nI nm - 1 = nI nm + (-1) from by rw [Int32.sub_eq_add_neg]]
      exact about_28 h48 i.1.2.2 hm h5 g v2 nm 100000 (-1) 0 (Nat.le_refl _) (by omega) (Or.inl ⟨rfl, fun j h1 h2 => by omega⟩) (by omega)
    generalize hB : (fun r_30 : SS => (if v2 = 0 then oc (p_X3_reached_0 r_30) (fun r_68 => oc (p_X0_has_0 r_68 (nI m)) (fun r_72 => if r_72 = 0 then p_X7_about_83 0 r_30 else p_X7_about_83 1 r_30)) else if v2 = 1 then oc (p_X3_isRecursive_0 r_30 (nI m)) (fun r_89 => if r_89 = 0 then p_X7_about_100 0 r_30 else p_X7_about_100 1 r_30) else if v2 = 2 then oc (p_X3_callersOf_0 r_30 (nI m)) (fun r_106 => oc (p_J13_bitCount_95d88_0 r_106) (fun r_109 => some (r_109, r_30))) else if v2 = 3 then oc (p_X3_ringOf_0 r_30 (nI m)) (fun r_118 => oc (p_J13_bitCount_95d88_0 r_118) (fun r_121 => some (r_121, r_30))) else oc (p_X3_ringOf_0 r_30 (nI m)) (fun r_130 => oc (p_X0_least_0 r_130) (fun r_133 => some (r_133, r_30))))) = B
    obtain ⟨k1, k2⟩ := rng (n := 4) (c := 4) rfl (by decide) v2 (p_X7_about_23 σ) (oc (p_X3_refresh_0 σ) B)
    by_cases hv : ∃ k, k < 5 ∧ v2 = nI k
    · rw [k1 hv]
      obtain ⟨σ', τ', q1, q2, q3, q4, q5, q6⟩ := i_both hI
      have hC := Inv1_C q3.1
      obtain ⟨r, y1, y2⟩ := ref τ' q5 ⟨Inv1_same hI.1 q6 q3.1.1.2.2.2.1, hI.2.1.elim Or.inl (fun w => Or.inr ⟨w.1, gC_ag w.2 q6.1⟩), q3.2.2⟩
      rw [oc_s q1, oc_s q2]
      obtain ⟨x', r1, r2⟩ := ringOf_5 h48 hm hC.2.1.1 q4 nm 0 100000 0 (by omega) (by omega) (fun m _ => ⟨fun w => (no_lb w).elim, fun w => by omega⟩)
      have r1' : p_X3_ringOf_0 σ' (nI m) = some x' := r1
      have cls : ∃ r', B σ' = some (r', σ') ∧ isAb τ'.1 nt nm m v2 r' := by
        rw [← hB]
        dsimp only
        by_cases e0 : v2 = 0
        · rw [if_pos e0, oc_s (show p_X3_reached_0 σ' = some (σ'.2 5 9) from rfl), oc_s (p_has (show m < 64 by omega)), gC_r q4]
          exact ⟨_, if_b2 _ (fun z => some (z, σ')), Or.inl ⟨e0, rfl⟩⟩
        · rw [if_neg e0]
          by_cases e1 : v2 = 1
          · rw [if_pos e1, oc_s (k_isRec h48 hm q4)]
            exact ⟨_, if_b2 _ (fun z => some (z, σ')), Or.inr (Or.inl ⟨e1, rfl⟩)⟩
          · rw [if_neg e1]
            by_cases e2 : v2 = 2
            · obtain ⟨x, z1, z2⟩ := k_callersOf h48 hm hC.2.1.1 q4
              rw [if_pos e2, oc_s z1, oc_s (p_bitCount x), cn_nm h48 (f := fun j => pb (dirP τ'.1 nt nm j m)) (fun k hk => (z2 k hk).trans (and_congr Iff.rfl pb_t.symm))]
              exact ⟨_, rfl, Or.inr (Or.inr (Or.inl ⟨e2, rfl⟩))⟩
            · rw [if_neg e2]
              by_cases e3 : v2 = 3
              · rw [if_pos e3, oc_s r1', oc_s (p_bitCount x'), cn_nm h48 r2]
                exact ⟨_, rfl, Or.inr (Or.inr (Or.inr (Or.inl ⟨e3, rfl⟩)))⟩
              · rw [if_neg e3, oc_s r1']
                obtain ⟨rr, n1, n2⟩ := p_least x'
                rw [oc_s n1]
                refine ⟨rr, rfl, Or.inr (Or.inr (Or.inr (Or.inr (Or.inl ⟨?_, nth_nm h48 r2 n2⟩))))⟩
                obtain ⟨k, hk, e⟩ := hv
                rcases (show k = 0 ∨ k = 1 ∨ k = 2 ∨ k = 3 ∨ k = 4 by omega) with rfl | rfl | rfl | rfl | rfl
                · exact absurd e e0
                · exact absurd e e1
                · exact absurd e e2
                · exact absurd e e3
                · exact e
      obtain ⟨r', z1, z2⟩ := cls
      exact ⟨r', σ', τ', z1, by rw [isAb_one h48 z2 y2]; exact y1, q3⟩
    · rw [k2 hv]
      obtain ⟨τ', q2, q3, q4, -⟩ := i_freshen hI
      obtain ⟨r, y1, y2⟩ := ref τ' q4 q3
      rw [oc_s q2]
      refine ⟨-102, σ, τ', rfl, ?_, q3⟩
      rw [isAb_one h48 (Or.inr (Or.inr (Or.inr (Or.inr (Or.inr ⟨hv, rfl⟩))))) y2]
      exact y1
  · rw [oc_s e1, oc_s ((k_knowsM (Inv1_C hI.1).2.1 h48 v1).2 hn), if_pos rfl, if_pos rfl]
    exact ⟨-101, σ, τ, rfl, rfl, hI⟩
