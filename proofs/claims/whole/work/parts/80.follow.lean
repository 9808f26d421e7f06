/-! pure: the reference follows an OP -/
def clE (o : Nat) (X : Nat → Prop) (k : Nat) : G3 := fun q i j => ∃ m, m < k ∧ X m ∧ ((q = 4 ∧ i = o ∧ j = m) ∨ (q = 0 ∧ i = m ∧ j = 0))
theorem clE_n {o k : Nat} {X : Nat → Prop} (h : ¬ X k) (q i j : Nat) : clE o X k q i j ↔ clE o X (k + 1) q i j := by
  constructor
  · rintro ⟨m, h1, h2⟩; exact ⟨m, by omega, h2⟩
  · rintro ⟨m, h1, h2, h3⟩
    by_cases e : m = k
    · subst e; exact absurd h2 h
    · exact ⟨m, by omega, h2, h3⟩
theorem clE_y {o k : Nat} {X : Nat → Prop} (h : X k) (q i j : Nat) : (clE o X k q i j ∨ ((q = 4 ∧ i = o ∧ j = k) ∨ (q = 0 ∧ i = k ∧ j = 0))) ↔ clE o X (k + 1) q i j := by
  constructor
  · rintro (⟨m, h1, h2⟩ | h1)
    · exact ⟨m, by omega, h2⟩
    · exact ⟨k, by omega, h, h1⟩
  · rintro ⟨m, h1, h2, h3⟩
    by_cases e : m = k
    · subst e; exact Or.inr h3
    · exact Or.inl ⟨m, by omega, h2, h3⟩
theorem clE_0 {o : Nat} {X : Nat → Prop} (q i j : Nat) : False ↔ clE o X 0 q i j := ⟨False.elim, fun ⟨m, h, _⟩ => by omega⟩
theorem rch_c {o nm : Nat} {X : Nat → Prop} {E : G3} (hE : ∀ q i j, E q i j ↔ q = 4 ∧ i = o ∧ j < nm ∧ X j) (q i j : Nat) : clE o X nm q i j ↔ rch o E q i j := by
  unfold rch
  rw [hE, hE]
  constructor
  · rintro ⟨m, h1, h2, ⟨h3, h4, h5⟩ | ⟨h3, h4, h5⟩⟩
    · exact Or.inl ⟨h3, h4, by rw [h5]; exact h1, by rw [h5]; exact h2⟩
    · exact Or.inr ⟨h3, h5, rfl, rfl, by rw [h4]; exact h1, by rw [h4]; exact h2⟩
  · rintro (⟨h1, h2, h3, h4⟩ | ⟨h1, h2, -, -, h3, h4⟩)
    · exact ⟨j, h3, h4, Or.inl ⟨h1, h2, rfl⟩⟩
    · exact ⟨i, h3, h4, Or.inr ⟨h1, rfl, h2⟩⟩
theorem follow_299 {P : Nat → Nat → Int32} {nt nm no o a : Nat} (hW : WF P nt nm no) (ho : o < 160) (ha : a < 4) {τ : SS} : ∀ (r k fuel : Nat) (s : SS), k + r = nm → r < fuel → gr P nt (clE o (fun m => SM τ 3 a m) k) (τ.1 19) τ s →
    ∃ s', p_X8_follow_299 fuel (nI o) (nI a) (nI k) s = some s' ∧ gr P nt (clE o (fun m => SM τ 3 a m) nm) (τ.1 19) τ s' := by
  have h48 := hW.2.1.1
  intro r
  induction r with
  | zero =>
    intro k fuel s hk hf hg
    obtain ⟨f, rfl⟩ : ∃ f, fuel = f + 1 := ⟨fuel - 1, by omega⟩
    have e : k = nm := by omega
    subst e
    refine ⟨s, ?_, hg⟩
    rw [p_X8_follow_299]
    try dsimp only
    rw [(MI_W hW hg.2.1).2.1.2.1, if_pos (nI_le (Nat.le_refl _) (by omega))]
    rfl
  | succ r ih =>
    intro k fuel s hk hf hg
    obtain ⟨f, rfl⟩ : ∃ f, fuel = f + 1 := ⟨fuel - 1, by omega⟩
    have hkn : k < nm := by omega
    have hin : in5 3 a k := ⟨ha, show k < 48 by omega⟩
    have h17 : s.1 17 (48 * a + k) = 1 ↔ SM τ 3 a k := by
      have := hg.2.2.1 3 a k
      constructor
      · intro e
        rcases this.mp ⟨hin, e⟩ with h | ⟨m, -, -, ⟨h, -⟩ | ⟨h, -⟩⟩
        · exact h
        · cases h
        · cases h
      · intro e
        exact (this.mpr (Or.inl e)).2
    rw [p_X8_follow_299]
    try dsimp only
    rw [(MI_W hW hg.2.1).2.1.2.1, if_neg (nI_ge hkn (by omega)), c48, oi_n (show 48 * a + k < 192 by omega) (by decide), nI_clamp (show 48 * a + k < 2 ^ 31 by omega)]
    unfold p_X8_follow_330
    rw [nI_1]
    by_cases hm : SM τ 3 a k
    · rw [h17.mpr hm, if_neg n10]
      obtain ⟨s3, c1, c2, -⟩ := m_call hg.2.1 ho (show k < 48 by omega)
      rw [hg.2.2.2.2] at c2
      rw [oc_s c1]
      exact ih (k + 1) f s3 (by omega) (by omega) (gr_cg (gr_tr hg c2) (clE_y (X := fun m => SM τ 3 a m) hm))
    · have e0 : s.1 17 (48 * a + k) = 0 := (hg.2.1.2.2.2.1 3 (by decide) (48 * a + k) (show 48 * a + k < 192 by omega)).elim id (fun q => absurd (h17.mp q) hm)
      rw [e0, if_pos rfl]
      exact ih (k + 1) f s (by omega) (by omega) (gr_cg hg (clE_n (X := fun m => SM τ 3 a m) hm))
theorem follow_342 {P : Nat → Nat → Int32} {nt nm no o : Nat} (hW : WF P nt nm no) (ho : o < 160) (v : Int32) {τ : SS} : ∀ (r k fuel : Nat) (s : SS), k + r = nm → r < fuel → gr P nt (clE o (fun m => P 6 m = v ∧ hdl P m) k) (τ.1 19) τ s →
    ∃ s', p_X8_follow_342 fuel (nI o) v (nI k) s = some s' ∧ gr P nt (clE o (fun m => P 6 m = v ∧ hdl P m) nm) (τ.1 19) τ s' := by
  have h48 := hW.2.1.1
  intro r
  induction r with
  | zero =>
    intro k fuel s hk hf hg
    obtain ⟨f, rfl⟩ : ∃ f, fuel = f + 1 := ⟨fuel - 1, by omega⟩
    have e : k = nm := by omega
    subst e
    refine ⟨s, ?_, hg⟩
    rw [p_X8_follow_342]
    try dsimp only
    rw [(MI_W hW hg.2.1).2.1.2.1, if_pos (nI_le (Nat.le_refl _) (by omega))]
    rfl
  | succ r ih =>
    intro k fuel s hk hf hg
    obtain ⟨f, rfl⟩ : ∃ f, fuel = f + 1 := ⟨fuel - 1, by omega⟩
    have hkn : k < nm := by omega
    have no : ¬ (P 6 k = v ∧ hdl P k) → ∃ s', p_X8_follow_342 f (nI o) v (nI (k + 1)) s = some s' ∧ gr P nt (clE o (fun m => P 6 m = v ∧ hdl P m) nm) (τ.1 19) τ s' := fun h => ih (k + 1) f s (by omega) (by omega) (gr_cg hg (clE_n (X := fun m => P 6 m = v ∧ hdl P m) h))
    rw [p_X8_follow_342]
    try dsimp only
    rw [(MI_W hW hg.2.1).2.1.2.1, if_neg (nI_ge hkn (by omega)), oi_n (show k < 48 by omega) (by decide), oi_n (show k < 48 by omega) (by decide), nI_clamp (show k < 2 ^ 31 by omega), hg.2.1.1 6 (by decide) (by decide), hg.2.1.1 7 (by decide) (by decide)]
    unfold p_X8_follow_382
    rw [nI_1]
    by_cases e6 : P 6 k = v
    · rw [if_pos e6, oc_s (show p_X8_canBeCalled_0 (P 7 k) = some (b2 (pb (hdl P k))) from m_canBe hW.2.1 hkn)]
      by_cases h7 : hdl P k
      · rw [pb_t.mpr h7, if_neg (show ¬ b2 true = 0 by decide)]
        obtain ⟨s3, c1, c2, -⟩ := m_call hg.2.1 ho (show k < 48 by omega)
        rw [hg.2.2.2.2] at c2
        rw [oc_s c1]
        exact ih (k + 1) f s3 (by omega) (by omega) (gr_cg (gr_tr hg c2) (clE_y (X := fun m => P 6 m = v ∧ hdl P m) ⟨e6, h7⟩))
      · rw [pb_f.mpr h7, if_pos (show b2 false = 0 from rfl)]
        exact no (fun q => h7 q.2)
    · rw [if_neg e6]
      exact no (fun q => e6 q.1)
noncomputable def b1 (p : Prop) : Nat := if pb p = true then 1 else 0
theorem b1_t {p : Prop} (h : p) : b1 p = 1 := by unfold b1; rw [if_pos (pb_t.mpr h)]
theorem b1_f {p : Prop} (h : ¬ p) : b1 p = 0 := by unfold b1; rw [pb_f.mpr h]; rfl
/-- a FAULT of a STATIC call -/
def sF (P : Nat → Nat → Int32) (nt nm t : Nat) (name : Int32) (b : Nat) : Prop := (b = 0 ∧ isF P nt nm t name (-1)) ∨ (b = 1 ∧ ∃ f, f < nm ∧ isF P nt nm t name (nI f) ∧ ¬ P 7 f = 2)
/-- the FAULTS of an OP, MISSING, UNLIKE, BARE, CLASH -/
noncomputable def fcN (P : Nat → Nat → Int32) (nt nm : Nat) (S : G3) (o b : Nat) : Nat := if P 11 o = 1 ∨ P 11 o = 4 then fcM P nt nm S (P 12 o).toNatClampNeg (P 13 o) nt b else if P 11 o = 2 then b1 (isH P nt nm (P 12 o).toNatClampNeg (P 12 o).toNatClampNeg (P 13 o) (cd b)) else if P 11 o = 3 then b1 (sF P nt nm (P 12 o).toNatClampNeg (P 13 o) b) else 0
theorem fF_one {f : Nat → Int32} {o b : Nat} {g' : Nat → Nat} (hb : b < 4) (h : ∀ k, k < 4 → k ≠ b → g' k = 0) (hg : g' b = 1) : upd (fF f o (fun _ => 0)) (4 * o + b) (fF f o (fun _ => 0) (4 * o + b) + 1) = fF f o g' := fF_up hb h hg
theorem follow_b {P : Nat → Nat → Int32} {nt nm no o : Nat} (hW : WF P nt nm no) (ho : o < no) {s : SS} {f : Nat → Int32} (h : MI P nt s) (h19 : s.1 19 = fF f o (fun _ => 0)) (g : Nat) : ∃ s', p_X8_follow_17 (g + 1) (nI o) (P 12 o) (P 13 o) (nI 4) s = some s' ∧ gr P nt (rch o (opS P nt nm (SM s) o)) (fF f o (fcN P nt nm (SM s) o)) s s' := by
  obtain ⟨hw, hM, hO⟩ := id hW
  have h16 := hw.1
  have h48 := hM.1
  have h160 := hO.1
  have ho' : o < 160 := by omega
  have hWs := MI_W hW h
  rw [p_X8_follow_17]
  try dsimp only
  rw [if_pos (show (4 : Int32) ≤ nI 4 by decide), oi_n ho' (by decide), nI_clamp (show o < 2 ^ 31 by omega), h.1 11 (by decide) (by decide)]
  have hz : (¬ (P 11 o = 1 ∨ P 11 o = 4)) → ¬ P 11 o = 2 → ¬ P 11 o = 3 → fF f o (fcN P nt nm (SM s) o) = fF f o (fun _ => 0) := fun h1 h2 h3 => fF_cg (fun b _ => by unfold fcN; rw [if_neg h1, if_neg h2, if_neg h3])
  have hmade : (P 11 o = 1 ∨ P 11 o = 4) → ∀ t n, t < nt → n < 10 → P 12 o = nI t → P 13 o = nI n → ∃ s', oc (p_X8_callAll_0 (nI o) (P 12 o) (P 13 o) s) (fun r_133 => p_X8_follow_388 r_133) = some s' ∧ gr P nt (rch o (e1 P nt nm (SM s) o)) (fF f o (fcN P nt nm (SM s) o)) s s' := by
    intro hk t n ht hn h12 h13
    obtain ⟨s', q1, q2⟩ := m_callAll hW ho' ht (nI n) h h19
    refine ⟨s', by rw [h12, h13, oc_s q1]; rfl, ?_⟩
    have eF : fF f o (fcN P nt nm (SM s) o) = fF f o (fcM P nt nm (SM s) t (nI n) nt) := fF_cg (fun b _ => by unfold fcN; rw [if_pos hk, h12, h13, nI_clamp (show t < 2 ^ 31 by omega)])
    rw [eF]
    refine gr_cg q2 (fun q i j => ?_)
    rw [← rch_c (nm := nm) (X := fun m => ∃ c, c < nt ∧ SM s 1 c 0 ∧ und P c t ∧ isH P nt nm c t (nI n) (nI m))]
    · constructor
      · rintro ⟨c, m, a1, a2, a3, a4, a5, a6⟩
        exact ⟨m, a4, ⟨c, a1, a2, a3, a5⟩, a6⟩
      · rintro ⟨m, a4, ⟨c, a1, a2, a3, a5⟩, a6⟩
        exact ⟨c, m, a1, a2, a3, a4, a5, a6⟩
    · intro q i j
      constructor
      · rintro ⟨a1, a2, a3, t', n', c, a4, a5, a6, a7, a8, a9, a10, a11⟩
        have ht' : t = t' := (nI_eq (by omega) (by omega)).mp (h12.symm.trans a7)
        have hn' : n = n' := (nI_eq (by omega) (by omega)).mp (h13.symm.trans a8)
        subst ht'; subst hn'
        exact ⟨a1, a2, a3, c, a6, a9, a10, a11⟩
      · rintro ⟨a1, a2, a3, c, a6, a9, a10, a11⟩
        exact ⟨a1, a2, a3, t, n, c, ht, hn, a6, h12, h13, a9, a10, a11⟩
  rcases hO.2.2.2 o ho with ⟨k, t, ht, h12, h1t⟩ | ⟨k, t, n, ht, hn, h12, h13⟩ | ⟨k, a, m, ha, hm, h12, h13, h7⟩ | ⟨k, a, ha, h12⟩ | ⟨k, n, hn, h13⟩
  · -- NEW
    have ht16 : t < 16 := by omega
    rw [k, if_pos rfl, h12, oi_n ht16 (by decide), nI_clamp (show t < 2 ^ 31 by omega), opS_0 k, hz (by rw [k]; decide) (by rw [k]; decide) (by rw [k]; decide), ← h19]
    unfold p_X8_follow_105
    have hin : in5 1 t 0 := ⟨rfl, ht16⟩
    obtain ⟨x, hx, hx', e⟩ := pick h.2.2.2.2 (h.2.2.2.1 1 (by decide) t ht16) (fun t0 => p_X8_follow_110 (nI o) (nI t) t0 s)
    have g1 := gr_set h hin hx'
    obtain ⟨s', q1, q2⟩ := m_beginBy hW ho' ht g1.2.1
    have e19 := g1.2.2.2.2
    rw [e19] at q2
    refine ⟨s', e.trans ?_, gr_cg (gr_tr g1 q2) (fun q i j => ?_)⟩
    · show p_X8_follow_110 (nI o) (nI t) x s = _
      rw [p_X8_follow_110, ob_ok hx, os_s, oi_n ht16 (by decide), nI_clamp (show t < 2 ^ 31 by omega), os_s]
      exact oc_s q1
    · have he : ∀ q i j, e0 P nt nm o q i j ↔ (q = 1 ∧ i = t ∧ j = 0) ∨ beg P nt nm o t q i j := by
        intro q i j
        constructor
        · rintro ⟨t', ht', w, h⟩
          have : t = t' := (nI_eq (by omega) (by omega)).mp (h12.symm.trans w)
          subst this
          exact h
        · exact fun h => ⟨t, ht, h12, h⟩
      unfold rch
      rw [he, he, or_assoc]
      refine or_congr Iff.rfl (or_congr Iff.rfl (and_congr Iff.rfl (and_congr Iff.rfl ⟨Or.inr, fun w => w.elim (fun w => by cases w.1) id⟩)))
  · rcases k with k | k | k | k
    · rw [k, if_neg (show ¬ (1 : Int32) = 0 by decide), if_pos rfl, opS_1 k]
      exact hmade (Or.inl k) t n ht hn h12 h13
    · -- UP
      rw [k, if_neg (show ¬ (2 : Int32) = 0 by decide), if_neg (show ¬ (2 : Int32) = 1 by decide), if_pos rfl, h12, h13, opS_2 k]
      obtain ⟨r, s1, q1, q2, q3, q4⟩ := m_chosenOf hWs.1 hWs.2.1 h.2.2.1 ht ht (nI n)
      rw [MI_isH h] at q4
      have g1 := gr_kp h q2 sVX q3
      have e19 : s1.1 19 = s.1 19 := g1.2.2.2.2
      rw [oc_s q1]
      have eN : ∀ b, fcN P nt nm (SM s) o b = b1 (isH P nt nm t t (nI n) (cd b)) := fun b => by
        unfold fcN
        rw [if_neg (by rw [k]; decide), if_pos k, h12, h13, nI_clamp (show t < 2 ^ 31 by omega)]
      have hE : ∀ q i j, e2 P nt nm o q i j ↔ q = 4 ∧ i = o ∧ j < nm ∧ isH P nt nm t t (nI n) (nI j) := by
        intro q i j
        constructor
        · rintro ⟨a1, a2, a3, t', n', a4, a5, a7, a8, a9⟩
          have ht' : t = t' := (nI_eq (by omega) (by omega)).mp (h12.symm.trans a7)
          have hn' : n = n' := (nI_eq (by omega) (by omega)).mp (h13.symm.trans a8)
          subst ht'; subst hn'
          exact ⟨a1, a2, a3, a9⟩
        · rintro ⟨a1, a2, a3, a9⟩
          exact ⟨a1, a2, a3, t, n, ht, hn, h12, h13, a9⟩
      have one : ∀ r', isH P nt nm t t (nI n) r' → r' = r := fun r' w => isH_one hM (by omega) (by omega) w q4
      rcases isH_cd h48 q4 with ⟨b, hb, e⟩ | ⟨m, hm', e⟩
      · rw [if_pos (by rw [e]; exact cd_neg b hb), e, oc_s (m_fault ho' hb s1)]
        have g3 := gr_f g1.2.1 (4 * o + b) (s1.1 19 (4 * o + b) + 1)
        rw [e19, h19, fF_one (g' := fcN P nt nm (SM s) o) hb (fun k hk hne => by
          rw [eN, b1_f]
          exact fun w => hne (cd_inj k hk b hb ((one _ w).trans e))) (by rw [eN, b1_t]; rw [← e]; exact q4)] at g3
        rw [e19, h19]
        refine ⟨_, rfl, gr_cg (gr_tr g1 g3) (fun q i j => ?_)⟩
        rw [← rch_c hE]
        constructor
        · rintro (w | w) <;> exact w.elim
        · rintro ⟨m, a1, a2, -⟩
          have := (one _ a2).trans e
          exact absurd (cd_neg b hb) (by rw [← this]; exact nI_pos (by omega))
      · rw [e, if_neg (nI_pos (by omega))]
        obtain ⟨s3, c1, c2, -⟩ := m_call g1.2.1 ho' (show m < 48 by omega)
        rw [e19, h19] at c2
        rw [oc_s c1]
        have eF : fF f o (fcN P nt nm (SM s) o) = fF f o (fun _ => 0) := fF_cg (fun b hb => by
          rw [eN, b1_f]
          intro w
          have := (one _ w).trans e
          exact nI_pos (n := m) (by omega) (by rw [← this]; exact cd_neg b hb))
        rw [eF]
        refine ⟨s3, rfl, gr_cg (gr_tr g1 c2) (fun q i j => ?_)⟩
        rw [← rch_c hE]
        constructor
        · rintro (w | w)
          · exact w.elim
          · exact ⟨m, hm', (show isH P nt nm t t (nI n) (nI m) by rw [← e]; exact q4), w⟩
        · rintro ⟨m', a1, a2, a3⟩
          have : m' = m := (nI_eq (by omega) (by omega)).mp ((one _ a2).trans e)
          subst this
          exact Or.inr a3
    · -- STATIC
      rw [k, if_neg (show ¬ (3 : Int32) = 0 by decide), if_neg (show ¬ (3 : Int32) = 1 by decide), if_neg (show ¬ (3 : Int32) = 2 by decide), if_pos rfl, h12, h13, opS_3 k]
      obtain ⟨r, s1, q1, q2, q3, q4⟩ := m_find hWs.1 hWs.2.1 h.2.2.1 ht (nI n)
      rw [MI_isF h] at q4
      have g1 := gr_kp h q2 sVX q3
      have e19 : s1.1 19 = s.1 19 := g1.2.2.2.2
      rw [oc_s q1]
      have eN : ∀ b, fcN P nt nm (SM s) o b = b1 (sF P nt nm t (nI n) b) := fun b => by
        unfold fcN
        rw [if_neg (by rw [k]; decide), if_neg (by rw [k]; decide), if_pos k, h12, h13, nI_clamp (show t < 2 ^ 31 by omega)]
      have one : ∀ r', isF P nt nm t (nI n) r' → r' = r := fun r' w => isF_one hM (by omega) w q4
      -- a FAULT
      have flt : ∀ b, b < 4 → sF P nt nm t (nI n) b → (∀ b', sF P nt nm t (nI n) b' → b' = b) → (∀ f', f' < nm → isF P nt nm t (nI n) (nI f') → ¬ P 7 f' = 2) → ∃ s', oc (p_X8_fault_0 (nI o) (cd b) s1) (fun r_235 => p_X8_follow_388 r_235) = some s' ∧ gr P nt (rch o (e3 P nt nm o)) (fF f o (fcN P nt nm (SM s) o)) s s' := by
        intro b hb h1 h2 h3
        have g3 := gr_f g1.2.1 (4 * o + b) (s1.1 19 (4 * o + b) + 1)
        rw [e19, h19, fF_one (g' := fcN P nt nm (SM s) o) hb (fun k hk hne => by rw [eN, b1_f (fun w => hne (h2 k w))]) (by rw [eN, b1_t h1])] at g3
        rw [oc_s (m_fault ho' hb s1), e19, h19]
        have none : ∀ q i j, ¬ e3 P nt nm o q i j := by
          rintro q i j ⟨t', n', f', u, w1, w2, w3, w4, w5, w6, w7, w8, -⟩
          have ht' : t = t' := (nI_eq (by omega) (by omega)).mp (h12.symm.trans w5)
          have hn' : n = n' := (nI_eq (by omega) (by omega)).mp (h13.symm.trans w6)
          subst ht'; subst hn'
          exact h3 f' w3 w7 w8
        refine ⟨_, rfl, gr_cg (gr_tr g1 g3) (fun q i j => ⟨fun w => (w.elim id id).elim, fun w => ?_⟩)⟩
        rcases w with w | ⟨-, -, w⟩
        · exact absurd w (none _ _ _)
        · exact absurd w (none _ _ _)
      rcases isF_mem h48 q4 with e | ⟨m, hm, e, h6⟩
      · rw [if_pos e]
        unfold p_X8_follow_220 p_X8_follow_235
        rw [if_pos e]
        refine flt 0 (by decide) (Or.inl ⟨rfl, by rw [← e]; exact q4⟩) ?_ ?_
        · rintro b' (⟨w, -⟩ | ⟨-, f', w1, w2, -⟩)
          · exact w
          · have := (one _ w2).trans e
            exact absurd this.symm (nI_m1 (by omega))
        · intro f' w1 w2
          have := (one _ w2).trans e
          exact absurd this.symm (nI_m1 (by omega))
      · have hne : ¬ r = -1 := fun q => nI_m1 (u := m) (by omega) (by rw [← q, e])
        rw [if_neg hne, e, oi_n (show m < 48 by omega) (by decide), nI_clamp (show m < 2 ^ 31 by omega), g1.2.1.1 7 (by decide) (by decide)]
        by_cases h72 : P 7 m = 2
        · rw [if_pos h72]
          obtain ⟨u, hu, h5⟩ := own_t hM hm
          obtain ⟨s3, c1, c2, -⟩ := m_call g1.2.1 ho' (show m < 48 by omega)
          rw [e19, h19] at c2
          obtain ⟨s4, y1, y2⟩ := m_beginBy hW ho' hu c2.2.1
          have e19' := c2.2.2.2.2
          rw [e19'] at y2
          rw [oc_s c1, oi_n (show m < 48 by omega) (by decide), c2.2.1.1 5 (by decide) (by decide), h5, oc_s y1]
          have eF : fF f o (fcN P nt nm (SM s) o) = fF f o (fun _ => 0) := fF_cg (fun b hb => by
            rw [eN, b1_f]
            rintro (⟨-, w⟩ | ⟨-, f', w1, w2, w3⟩)
            · exact hne (one _ w).symm
            · have : f' = m := (nI_eq (by omega) (by omega)).mp ((one _ w2).trans e)
              rw [this] at w3
              exact w3 h72)
          rw [eF]
          refine ⟨s4, rfl, gr_cg (gr_tr g1 (gr_tr c2 y2)) (fun q i j => ?_)⟩
          have he : ∀ q i j, e3 P nt nm o q i j ↔ (q = 4 ∧ i = o ∧ j = m) ∨ beg P nt nm o u q i j := by
            intro q i j
            constructor
            · rintro ⟨t', n', f', u', z1, z2, z3, z4, z5, z6, z7, z8, z9, w⟩
              have ht' : t = t' := (nI_eq (by omega) (by omega)).mp (h12.symm.trans z5)
              have hn' : n = n' := (nI_eq (by omega) (by omega)).mp (h13.symm.trans z6)
              subst ht'; subst hn'
              have hf' : f' = m := (nI_eq (by omega) (by omega)).mp ((one _ z7).trans e)
              subst hf'
              have hu' : u = u' := (nI_eq (by omega) (by omega)).mp (h5.symm.trans z9)
              subst hu'
              exact w
            · exact fun w => ⟨t, n, m, u, ht, hn, hm, hu, h12, h13, by rw [← e]; exact q4, h72, h5, w⟩
          unfold rch
          rw [he, he]
          constructor
          · rintro (w | (w | ⟨w1, w2, w3⟩) | w | ⟨w1, w2, w3⟩)
            · exact w.elim
            · exact Or.inl (Or.inl w)
            · exact Or.inr ⟨w1, w3, Or.inl ⟨rfl, rfl, w2⟩⟩
            · exact Or.inl (Or.inr w)
            · exact Or.inr ⟨w1, w2, Or.inr w3⟩
          · rintro ((w | w) | ⟨w1, w2, ⟨-, -, w3⟩ | w3⟩)
            · exact Or.inr (Or.inl (Or.inl w))
            · exact Or.inr (Or.inr (Or.inl w))
            · exact Or.inr (Or.inl (Or.inr ⟨w1, w3, w2⟩))
            · exact Or.inr (Or.inr (Or.inr ⟨w1, w2, w3⟩))
        · rw [if_neg h72]
          unfold p_X8_follow_220 p_X8_follow_235
          rw [if_neg (fun q => nI_m1 (u := m) (by omega) q.symm)]
          refine flt 1 (by decide) (Or.inr ⟨rfl, m, hm, by rw [← e]; exact q4, h72⟩) ?_ ?_
          · rintro b' (⟨-, w⟩ | ⟨w, -⟩)
            · exact absurd (one _ w).symm hne
            · exact w
          · intro f' w1 w2
            have : f' = m := (nI_eq (by omega) (by omega)).mp ((one _ w2).trans e)
            rw [this]
            exact h72
    · rw [k, if_neg (show ¬ (4 : Int32) = 0 by decide), if_neg (show ¬ (4 : Int32) = 1 by decide), if_neg (show ¬ (4 : Int32) = 2 by decide), if_neg (show ¬ (4 : Int32) = 3 by decide), if_pos rfl, opS_4 k]
      exact hmade (Or.inr k) t n ht hn h12 h13
  · -- PUT
    have hm48 : m < 48 := by omega
    rw [k, if_neg (show ¬ (5 : Int32) = 0 by decide), if_neg (show ¬ (5 : Int32) = 1 by decide), if_neg (show ¬ (5 : Int32) = 2 by decide), if_neg (show ¬ (5 : Int32) = 3 by decide), if_neg (show ¬ (5 : Int32) = 4 by decide), if_pos rfl, h12, h13, c48, oi_n (show 48 * a + m < 192 by omega) (by decide), nI_clamp (show 48 * a + m < 2 ^ 31 by omega), opS_5 k, hz (by rw [k]; decide) (by rw [k]; decide) (by rw [k]; decide), ← h19]
    unfold p_X8_follow_273
    have hin : in5 3 a m := ⟨ha, hm48⟩
    obtain ⟨x, hx, hx', e⟩ := pick h.2.2.2.2 (h.2.2.2.1 3 (by decide) (48 * a + m) (show 48 * a + m < 192 by omega)) (fun t0 => p_X8_follow_278 (nI a) (nI m) t0 s)
    refine ⟨_, e.trans ?_, gr_cg (gr_set h hin hx') (fun q i j => ?_)⟩
    · show p_X8_follow_278 (nI a) (nI m) x s = _
      rw [p_X8_follow_278, ob_ok hx, os_s, c48, oi_n (show 48 * a + m < 192 by omega) (by decide), nI_clamp (show 48 * a + m < 2 ^ 31 by omega), os_s]
      rfl
    · constructor
      · rintro ⟨w1, w2, w3⟩
        exact Or.inl ⟨w1, by rw [w2]; exact ha, by rw [w3]; exact hm, by rw [w2]; exact h12, by rw [w3]; exact h13⟩
      · rintro (⟨w1, w2, w3, w4, w5⟩ | ⟨-, -, w, -⟩)
        · exact ⟨w1, ((nI_eq (by omega) (by omega)).mp (h12.symm.trans w4)).symm, ((nI_eq (by omega) (by omega)).mp (h13.symm.trans w5)).symm⟩
        · cases w
  · -- OUT
    rw [k, if_neg (show ¬ (6 : Int32) = 0 by decide), if_neg (show ¬ (6 : Int32) = 1 by decide), if_neg (show ¬ (6 : Int32) = 2 by decide), if_neg (show ¬ (6 : Int32) = 3 by decide), if_neg (show ¬ (6 : Int32) = 4 by decide), if_neg (show ¬ (6 : Int32) = 5 by decide), if_pos rfl, h12, opS_6 k, hz (by rw [k]; decide) (by rw [k]; decide) (by rw [k]; decide), ← h19]
    obtain ⟨s', q1, q2⟩ := follow_299 hW ho' ha (τ := s) nm 0 100000 s (by omega) (by omega) (gr_cg (gr_rf h) clE_0)
    refine ⟨s', q1, gr_cg q2 (fun q i j => ?_)⟩
    rw [← rch_c (nm := nm) (X := fun m => SM s 3 a m)]
    intro q i j
    constructor
    · rintro ⟨h1, h2, h3, a', w1, w2, w3⟩
      have ha' : a = a' := (nI_eq (by omega) (by omega)).mp (h12.symm.trans w2)
      subst ha'
      exact ⟨h1, h2, h3, w3⟩
    · rintro ⟨h1, h2, h3, w3⟩
      exact ⟨h1, h2, h3, a, ha, h12, w3⟩
  · -- ANY
    rw [k, if_neg (show ¬ (7 : Int32) = 0 by decide), if_neg (show ¬ (7 : Int32) = 1 by decide), if_neg (show ¬ (7 : Int32) = 2 by decide), if_neg (show ¬ (7 : Int32) = 3 by decide), if_neg (show ¬ (7 : Int32) = 4 by decide), if_neg (show ¬ (7 : Int32) = 5 by decide), if_neg (show ¬ (7 : Int32) = 6 by decide), h13, opS_7 k, hz (by rw [k]; decide) (by rw [k]; decide) (by rw [k]; decide), ← h19]
    obtain ⟨s', q1, q2⟩ := follow_342 hW ho' (nI n) (τ := s) nm 0 100000 s (by omega) (by omega) (gr_cg (gr_rf h) clE_0)
    refine ⟨s', q1, gr_cg q2 (fun q i j => ?_)⟩
    rw [← rch_c (nm := nm) (X := fun m => P 6 m = nI n ∧ hdl P m)]
    intro q i j
    constructor
    · rintro ⟨h1, h2, h3, n', w1, w2, w3, w4⟩
      have hn' : n = n' := (nI_eq (by omega) (by omega)).mp (h13.symm.trans w2)
      subst hn'
      exact ⟨h1, h2, h3, w3, w4⟩
    · rintro ⟨h1, h2, h3, w3, w4⟩
      exact ⟨h1, h2, h3, n, hn, h13, w3, w4⟩
theorem c4 (o k : Nat) : (4 * nI o + nI k) = nI (4 * o + k) := by rw [show (4 : Int32) = nI 4 from rfl, pk_mul, nI_add]
theorem m_follow {P : Nat → Nat → Int32} {nt nm no o : Nat} (hW : WF P nt nm no) (ho : o < no) {τ : SS} (h : MI P nt τ) : ∃ s', p_X8_follow_0 (nI o) τ = some s' ∧ gr P nt (rch o (opS P nt nm (SM τ) o)) (fF (τ.1 19) o (fcN P nt nm (SM τ) o)) τ s' := by
  have h160 := hW.2.2.1
  have ho' : o < 160 := by omega
  have st : ∀ (f : Nat) (v2 v3 : Int32) (k : Nat) (s : SS), k < 4 → p_X8_follow_17 (f + 1) (nI o) v2 v3 (nI k) s = p_X8_follow_17 f (nI o) v2 v3 (nI (k + 1)) (sI s 19 (4 * o + k) 0) := by
    intro f v2 v3 k s hk
    rw [p_X8_follow_17]
    try dsimp only
    rw [if_neg (show ¬ (4 : Int32) ≤ nI k from nI_ge (b := 4) hk (by decide)), c4, oi_n (show 4 * o + k < 640 by omega) (by decide), nI_clamp (show 4 * o + k < 2 ^ 31 by omega), os_s, nI_1]
  have g0 := gr_f h (4 * o + 0) 0
  have g1 := gr_f g0.2.1 (4 * o + 1) 0
  have g2 := gr_f g1.2.1 (4 * o + 2) 0
  have g3 := gr_f g2.2.1 (4 * o + 3) 0
  rw [g0.2.2.2.2] at g1
  rw [g1.2.2.2.2] at g2
  rw [g2.2.2.2.2] at g3
  have g := gr_cg (E' := fun _ _ _ => False) (gr_tr g0 (gr_tr g1 (gr_tr g2 g3))) (fun q i j => ⟨fun w => w.elim id (fun w => w.elim id (fun w => w.elim id id)), fun w => w.elim⟩)
  have e19 : upd (upd (upd (upd (τ.1 19) (4 * o + 0) 0) (4 * o + 1) 0) (4 * o + 2) 0) (4 * o + 3) 0 = fF (τ.1 19) o (fun _ => 0) := by
    funext x
    unfold fF
    by_cases e : 4 * o ≤ x ∧ x < 4 * o + 4
    · rw [if_pos e]
      rcases (show x = 4 * o + 0 ∨ x = 4 * o + 1 ∨ x = 4 * o + 2 ∨ x = 4 * o + 3 by omega) with e | e | e | e
      · rw [e, upd_ne (by omega), upd_ne (by omega), upd_ne (by omega), upd_at]; rfl
      · rw [e, upd_ne (by omega), upd_ne (by omega), upd_at]; rfl
      · rw [e, upd_ne (by omega), upd_at]; rfl
      · rw [e, upd_at]; rfl
    · rw [if_neg e, upd_ne (by omega), upd_ne (by omega), upd_ne (by omega), upd_ne (by omega)]
  have eS : SM (sI (sI (sI (sI τ 19 (4 * o + 0) 0) 19 (4 * o + 1) 0) 19 (4 * o + 2) 0) 19 (4 * o + 3) 0) = SM τ := by
    funext q i j
    exact propext ((g.2.2.1 q i j).trans ⟨fun w => w.elim id False.elim, Or.inl⟩)
  have h19' := g.2.2.2.2
  rw [e19] at h19'
  obtain ⟨s', q1, q2⟩ := follow_b hW ho g.2.1 h19' 99995
  rw [eS] at q2
  refine ⟨s', ?_, gr_cg (gr_tr g q2) (fun q i j => ⟨fun w => w.elim False.elim id, Or.inr⟩)⟩
  unfold p_X8_follow_0
  rw [oi_n ho' (by decide), oi_n ho' (by decide), nI_clamp (show o < 2 ^ 31 by omega), h.1 12 (by decide) (by decide), h.1 13 (by decide) (by decide)]
  show p_X8_follow_17 (99995 + 1 + 1 + 1 + 1 + 1) (nI o) (P 12 o) (P 13 o) (nI 0) τ = _
  rw [st _ _ _ 0 _ (by decide), st _ _ _ 1 _ (by decide), st _ _ _ 2 _ (by decide), st _ _ _ 3 _ (by decide)]
  exact q1
