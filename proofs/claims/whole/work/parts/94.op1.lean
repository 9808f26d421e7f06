/-! pure: drawn runs: what an OP looks for -/
theorem put_8 {σ : SS} {a m bc : Nat} (ha : a < 4) (hb : σ.1 31 a = nI bc) (hbc : bc ≤ 48) (hlt : (¬ ∃ i, i < bc ∧ σ.1 30 (a * 48 + i) = nI m) → bc < 48) : ∀ (r i fuel : Nat), i + r = bc → r < fuel → (∀ i', i' < i → ¬ σ.1 30 (a * 48 + i') = nI m) → p_X2_put_8 fuel (nI a) (nI m) (nI (a * 48)) (nI i) σ = some (if pb (∃ i, i < bc ∧ σ.1 30 (a * 48 + i) = nI m) = true then σ else sI (sI σ 30 (a * 48 + bc) (nI m)) 31 a (nI (bc + 1))) := by
  intro r
  induction r with
  | zero =>
    intro i fuel hi hf hn
    obtain ⟨f, rfl⟩ : ∃ f, fuel = f + 1 := ⟨fuel - 1, by omega⟩
    have e : i = bc := by omega
    subst e
    have hno : ¬ ∃ j, j < i ∧ σ.1 30 (a * 48 + j) = nI m := fun ⟨j, w1, w2⟩ => hn j w1 w2
    have hl := hlt hno
    have e31 : (sI σ 30 (a * 48 + i) (nI m)).1 31 a = nI i := by rw [sI_p, pI_ne _ _ (by decide)]; exact hb
    rw [p_X2_put_8]
    try dsimp only
    rw [oi_n ha (by decide), nI_clamp (show a < 2 ^ 31 by omega), hb, if_pos (nI_le (Nat.le_refl _) (by omega)), oi_n ha (by decide), nI_add, oi_n (show a * 48 + i < 192 by omega) (by decide), nI_clamp (show a * 48 + i < 2 ^ 31 by omega), os_s, oi_n ha (by decide), oi_n ha (by decide), e31, nI_1, os_s, pb_f.mpr hno]
    rfl
  | succ r ih =>
    intro i fuel hi hf hn
    obtain ⟨f, rfl⟩ : ∃ f, fuel = f + 1 := ⟨fuel - 1, by omega⟩
    rw [p_X2_put_8]
    try dsimp only
    rw [oi_n ha (by decide), nI_clamp (show a < 2 ^ 31 by omega), hb, if_neg (nI_ge (by omega) (by omega)), nI_add, oi_n (show a * 48 + i < 192 by omega) (by decide), nI_clamp (show a * 48 + i < 2 ^ 31 by omega), nI_1]
    by_cases e : σ.1 30 (a * 48 + i) = nI m
    · rw [if_pos e, if_pos (pb_t.mpr ⟨i, by omega, e⟩)]
    · rw [if_neg e]
      refine ih (i + 1) f (by omega) (by omega) (fun i' h => ?_)
      by_cases q : i' = i
      · rw [q]; exact e
      · exact hn i' (by omega)
theorem put_165 {τ : SS} {a m bc : Nat} (ha : a < 4) (hb : τ.1 36 a = nI bc) (hbc : bc ≤ 48) (hlt : (¬ ∃ i, i < bc ∧ τ.1 35 (48 * a + i) = nI m) → bc < 48) : ∀ (r i fuel : Nat) (v : Int32), i + r = bc → r < fuel → v = b2 (pb (∃ i', i' < i ∧ τ.1 35 (48 * a + i') = nI m)) → p_X8_runOp_165 fuel (nI a) (nI m) v (nI i) τ = some (if pb (∃ i, i < bc ∧ τ.1 35 (48 * a + i) = nI m) = true then τ else sI (sI τ 35 (48 * a + bc) (nI m)) 36 a (nI (bc + 1))) := by
  intro r
  induction r with
  | zero =>
    intro i fuel v hi hf hv
    obtain ⟨f, rfl⟩ : ∃ f, fuel = f + 1 := ⟨fuel - 1, by omega⟩
    have e : i = bc := by omega
    subst e
    rw [p_X8_runOp_165]
    try dsimp only
    unfold p_X8_runOp_296
    rw [oi_n ha (by decide), nI_clamp (show a < 2 ^ 31 by omega), hb, if_pos (nI_le (Nat.le_refl _) (by omega)), hv]
    by_cases q : ∃ j, j < i ∧ τ.1 35 (48 * a + j) = nI m
    · rw [pb_t.mpr q, if_neg (show ¬ b2 true = 0 by decide), if_pos rfl]
    · have hl := hlt q
      have e36 : (sI τ 35 (48 * a + i) (nI m)).1 36 a = nI i := by rw [sI_p, pI_ne _ _ (by decide)]; exact hb
      rw [pb_f.mpr q, if_pos (show b2 false = 0 from rfl), oi_n ha (by decide), c48, oi_n (show 48 * a + i < 192 by omega) (by decide), nI_clamp (show 48 * a + i < 2 ^ 31 by omega), os_s, oi_n ha (by decide), oi_n ha (by decide), e36, nI_1, os_s]
      rfl
  | succ r ih =>
    intro i fuel v hi hf hv
    obtain ⟨f, rfl⟩ : ∃ f, fuel = f + 1 := ⟨fuel - 1, by omega⟩
    rw [p_X8_runOp_165]
    try dsimp only
    unfold p_X8_runOp_197 p_X8_runOp_202
    rw [oi_n ha (by decide), nI_clamp (show a < 2 ^ 31 by omega), hb, if_neg (nI_ge (by omega) (by omega)), c48, oi_n (show 48 * a + i < 192 by omega) (by decide), nI_clamp (show 48 * a + i < 2 ^ 31 by omega), nI_1, hv]
    by_cases q : ∃ j, j < i ∧ τ.1 35 (48 * a + j) = nI m
    · rw [pb_t.mpr q, if_neg (show ¬ b2 true = 0 by decide)]
      refine ih (i + 1) f 1 (by omega) (by omega) ?_
      obtain ⟨j, q1, q2⟩ := q
      rw [pb_t.mpr ⟨j, by omega, q2⟩]
      rfl
    · rw [pb_f.mpr q, if_pos (show b2 false = 0 from rfl)]
      by_cases e : τ.1 35 (48 * a + i) = nI m
      · rw [if_pos e]
        refine ih (i + 1) f 1 (by omega) (by omega) ?_
        rw [pb_t.mpr ⟨i, by omega, e⟩]
        rfl
      · rw [if_neg e]
        refine ih (i + 1) f 0 (by omega) (by omega) ?_
        rw [pb_f.mpr]
        · rfl
        · rintro ⟨j, q1, q2⟩
          by_cases ej : j = i
          · rw [ej] at q2; exact e q2
          · exact q ⟨j, by omega, q2⟩
/-- which is counted down -/
theorem wh_0 {r c : Nat} (hr : r < 2 ^ 31) (hc : c < 2 ^ 31) : nI r - nI c = 0 ↔ r = c := by
  constructor
  · intro h
    have h1 : nI r - nI c + nI c = 0 + nI c := by rw [h]
    rw [Int32.sub_add_cancel, Int32.zero_add] at h1
    exact (nI_eq hr hc).mp h1
  · intro h
    rw [h, Int32.sub_self]
theorem wh_s (r c : Nat) : nI r - nI c + (-1) = nI r - nI (c + 1) := by
  rw [← nI_1, Int32.sub_eq_add_neg, Int32.sub_eq_add_neg, Int32.neg_add, Int32.add_assoc, Int32.sub_eq_add_neg]
theorem runAny_4 {P : Nat → Nat → Int32} {nt nm n o : Nat} (hM : wfM P nt nm) (ho : o < 160) {s : SS} (h5 : s.1 0 5 = nI nm) (e6 : s.1 6 = P 6) (e7 : s.1 7 = P 7) (h13 : s.1 13 o = nI n) : ∀ (r k fuel : Nat), k + r = nm → r < fuel → p_X8_runAny_4 fuel (nI o) (nI (cn (fun m => pb (P 6 m = nI n ∧ hdl P m)) k)) (nI k) s = (if nI (cn (fun m => pb (P 6 m = nI n ∧ hdl P m)) nm) = 0 then p_X8_runAny_66 (nI o) (nI (cn (fun m => pb (P 6 m = nI n ∧ hdl P m)) nm)) (-1) s else oc (p_X8_draw_0 (nI (cn (fun m => pb (P 6 m = nI n ∧ hdl P m)) nm)) s) (fun r_63 => p_X8_runAny_66 (nI o) (nI (cn (fun m => pb (P 6 m = nI n ∧ hdl P m)) nm)) r_63.1 r_63.2)) := by
  have h48 := hM.1
  intro r
  induction r with
  | zero =>
    intro k fuel hk hf
    obtain ⟨f, rfl⟩ : ∃ f, fuel = f + 1 := ⟨fuel - 1, by omega⟩
    have e : k = nm := by omega
    subst e
    rw [p_X8_runAny_4]
    try dsimp only
    rw [h5, if_pos (nI_le (Nat.le_refl _) (by omega))]
  | succ r ih =>
    intro k fuel hk hf
    obtain ⟨f, rfl⟩ : ∃ f, fuel = f + 1 := ⟨fuel - 1, by omega⟩
    have hkn : k < nm := by omega
    have hcan : p_X8_canBeCalled_0 (P 7 k) = some (b2 (pb (hdl P k))) := m_canBe hM hkn
    rw [← ih (k + 1) f (by omega) (by omega), p_X8_runAny_4]
    try dsimp only
    unfold p_X8_runAny_44 p_X8_runAny_45
    rw [h5, if_neg (nI_ge hkn (by omega)), oi_n (show k < 48 by omega) (by decide), oi_n ho (by decide), nI_clamp (show k < 2 ^ 31 by omega), nI_clamp (show o < 2 ^ 31 by omega), h13, e6, e7, oi_n (show k < 48 by omega) (by decide), oc_s hcan, nI_1, nI_1, show nI (cn (fun m => pb (P 6 m = nI n ∧ hdl P m)) k) + 0 = nI (cn (fun m => pb (P 6 m = nI n ∧ hdl P m)) k) from nI_add _ 0]
    by_cases h : P 6 k = nI n ∧ hdl P k
    · rw [if_pos h.1, pb_t.mpr h.2, if_neg (show ¬ b2 true = 0 by decide), (cn_s (f := fun m => pb (P 6 m = nI n ∧ hdl P m))).1 (pb_t.mpr h)]
    · rw [(cn_s (f := fun m => pb (P 6 m = nI n ∧ hdl P m))).2 (pb_f.mpr h)]
      by_cases h1 : P 6 k = nI n
      · rw [if_pos h1, pb_f.mpr (fun q => h ⟨h1, q⟩), if_pos (show b2 false = 0 from rfl)]
      · rw [if_neg h1]
theorem runAny_70 {P : Nat → Nat → Int32} {nt nm n o D r : Nat} (hM : wfM P nt nm) (ho : o < 160) {H : Nat → Bool} (hH : ∀ m, H m = true ↔ P 6 m = nI n ∧ hdl P m) {τ : SS} (h5 : τ.1 0 5 = nI nm) (e6 : τ.1 6 = P 6) (e7 : τ.1 7 = P 7) (h13 : τ.1 13 o = nI n) (hd : τ.1 0 37 = nI D) (hD : D < 1000) (hr : r < cn H nm) : ∀ (rr k fuel : Nat) (s : SS), k + rr = nm → rr < fuel → ((cn H k ≤ r ∧ s = τ) ∨ ∃ m, m < k ∧ H m = true ∧ cn H m = r ∧ s = psh τ D 1 (nI m) (nI o)) → ∃ m, m < nm ∧ H m = true ∧ cn H m = r ∧ p_X8_runAny_70 fuel (nI o) (nI (cn H nm)) (nI r - nI (cn H k)) (nI k) s = some (psh τ D 1 (nI m) (nI o)) := by
  have h48 := hM.1
  have hle := cn_le H nm
  have c0 : ∀ (m : Nat), (psh τ D 1 (nI m) (nI o)).1 0 5 = nI nm ∧ (psh τ D 1 (nI m) (nI o)).1 6 = P 6 ∧ (psh τ D 1 (nI m) (nI o)).1 7 = P 7 ∧ (psh τ D 1 (nI m) (nI o)).1 13 o = nI n := by
    intro m
    have cx : ∀ c, c ≠ 0 → c < 14 → (psh τ D 1 (nI m) (nI o)).1 c = τ.1 c := fun c h0 h1 => by
      unfold psh
      rw [sI_p, pI_ne _ _ h0, sI_p, pI_ne _ _ (by omega), sI_p, pI_ne _ _ (by omega), sI_p, pI_ne _ _ (by omega), sI_p, pI_ne _ _ (by omega)]
    refine ⟨?_, by rw [cx 6 (by decide) (by decide), e6], by rw [cx 7 (by decide) (by decide), e7], by rw [cx 13 (by decide) (by decide), h13]⟩
    unfold psh
    rw [sI_p, pI_at, upd_ne (by decide), sI_p, pI_ne _ _ (by decide), sI_p, pI_ne _ _ (by decide), sI_p, pI_ne _ _ (by decide), sI_p, pI_ne _ _ (by decide)]
    exact h5
  intro rr
  induction rr with
  | zero =>
    intro k fuel s hk hf hs
    obtain ⟨f, rfl⟩ : ∃ f, fuel = f + 1 := ⟨fuel - 1, by omega⟩
    have e : k = nm := by omega
    subst e
    rcases hs with ⟨q, -⟩ | ⟨m, q1, q2, q3, q4⟩
    · omega
    · refine ⟨m, q1, q2, q3, ?_⟩
      rw [p_X8_runAny_70]
      try dsimp only
      rw [q4, (c0 m).1, if_pos (nI_le (Nat.le_refl _) (by omega))]
      rfl
  | succ rr ih =>
    intro k fuel s hk hf hs
    obtain ⟨f, rfl⟩ : ∃ f, fuel = f + 1 := ⟨fuel - 1, by omega⟩
    have hkn : k < nm := by omega
    have hcan : p_X8_canBeCalled_0 (P 7 k) = some (b2 (pb (hdl P k))) := m_canBe hM hkn
    have hsc : s.1 0 5 = nI nm ∧ s.1 6 = P 6 ∧ s.1 7 = P 7 ∧ s.1 13 o = nI n := by
      rcases hs with ⟨-, q⟩ | ⟨m, -, -, -, q⟩
      · rw [q]; exact ⟨h5, e6, e7, h13⟩
      · rw [q]; exact c0 m
    have hck := cn_le H k
    rw [p_X8_runAny_70]
    try dsimp only
    unfold p_X8_runAny_124 p_X8_runAny_127
    rw [hsc.1, if_neg (nI_ge hkn (by omega)), if_neg (show ¬ nI (cn H nm) ≤ 0 from nI_nle (by omega) (by omega)), oi_n (show k < 48 by omega) (by decide), oi_n ho (by decide), nI_clamp (show k < 2 ^ 31 by omega), nI_clamp (show o < 2 ^ 31 by omega), hsc.2.2.2, hsc.2.1, hsc.2.2.1, oi_n (show k < 48 by omega) (by decide), oc_s hcan, nI_1]
    by_cases h : P 6 k = nI n ∧ hdl P k
    · have hHk : H k = true := (hH k).mpr h
      have hcs := cn_s.1 hHk
      rw [if_pos h.1, pb_t.mpr h.2, if_neg (show ¬ b2 true = 0 by decide), wh_s]
      by_cases e : r = cn H k
      · rw [if_pos ((wh_0 (by omega) (by omega)).mpr e)]
        rcases hs with ⟨-, q⟩ | ⟨m, q1, q2, q3, -⟩
        · rw [q, oc_s (m_push hd hD 1 (nI k) (nI o)), ← hcs]
          exact ih (k + 1) f _ (by omega) (by omega) (Or.inr ⟨k, by omega, hHk, e.symm, rfl⟩)
        · have := cn_lt (f := H) q2 q1
          omega
      · rw [if_neg (fun q => e ((wh_0 (by omega) (by omega)).mp q)), ← hcs]
        refine ih (k + 1) f s (by omega) (by omega) ?_
        rcases hs with ⟨q1, q2⟩ | ⟨m, q1, q2⟩
        · exact Or.inl ⟨by omega, q2⟩
        · exact Or.inr ⟨m, by omega, q2⟩
    · have hHk : H k = false := Bool.eq_false_iff.mpr (fun q => h ((hH k).mp q))
      have hcs := cn_s.2 hHk
      have nx : ∃ m, m < nm ∧ H m = true ∧ cn H m = r ∧ p_X8_runAny_70 f (nI o) (nI (cn H nm)) (nI r - nI (cn H k)) (nI (k + 1)) s = some (psh τ D 1 (nI m) (nI o)) := by
        rw [← hcs]
        refine ih (k + 1) f s (by omega) (by omega) ?_
        rcases hs with ⟨q1, q2⟩ | ⟨m, q1, q2⟩
        · exact Or.inl ⟨by omega, q2⟩
        · exact Or.inr ⟨m, by omega, q2⟩
      by_cases h1 : P 6 k = nI n
      · rw [if_pos h1, pb_f.mpr (fun q => h ⟨h1, q⟩), if_pos (show b2 false = 0 from rfl)]
        exact nx
      · rw [if_neg h1]
        exact nx
