/-! pure: drawn runs: a call by an object of the POOL -/
theorem callPooled_15 (E : Int32 → Int32 → SS → Option SS) {P : Nat → Nat → Int32} {nt t pc : Nat} (h16 : nt ≤ 16) (ht : t < nt) {σ : SS} (hT : cT σ P nt) (hpc : pc ≤ 20) (h11 : σ.1 6 11 = nI pc) {pl : Nat → Nat} (hpl : ∀ i, i < pc → pl i < nt ∧ σ.1 29 i = nI (pl i)) (o w : Int32) : ∀ (r i fuel : Nat), i + r = pc → r < fuel → p_X2_callPooled_15 E fuel o w (nI t) (nI (cn (fun i => pb (und P (pl i) t)) i)) (nI i) σ = (if nI (cn (fun i => pb (und P (pl i) t)) pc) = 0 then some σ else oc (p_X2_draw_0 (nI (cn (fun i => pb (und P (pl i) t)) pc)) σ) (fun r_62 => oc (p_X2_pooledUnder_0 r_62.2 (nI t) r_62.1) (fun r_65 => if r_65 = (-1) then p_X2_callPooled_100 E r_62.2 else oc (p_X5_b_0 r_62.2 o) (fun r_90 => oc (p_X1_choose_0 r_62.2 r_65 (nI t) r_90) (fun r_93 => oc (p_X2_enterBy_0 E o r_93 w r_62.2) (fun r_97 => p_X2_callPooled_100 E r_97)))))) := by
  intro r
  induction r with
  | zero =>
    intro i fuel hi hf
    obtain ⟨f, rfl⟩ : ∃ f, fuel = f + 1 := ⟨fuel - 1, by omega⟩
    have e : i = pc := by omega
    subst e
    rw [p_X2_callPooled_15]
    try dsimp only
    rw [h11, if_pos (nI_le (Nat.le_refl _) (by omega))]
  | succ r ih =>
    intro i fuel hi hf
    obtain ⟨f, rfl⟩ : ∃ f, fuel = f + 1 := ⟨fuel - 1, by omega⟩
    obtain ⟨p1, p2⟩ := hpl i (by omega)
    rw [← ih (i + 1) f (by omega) (by omega), p_X2_callPooled_15]
    try dsimp only
    unfold p_X2_callPooled_45
    rw [h11, if_neg (nI_ge (by omega) (by omega)), oi_n (show i < 20 by omega) (by decide), nI_clamp (show i < 2 ^ 31 by omega), p2, oc_s (k_isUnder hT h16 p1 (show t < 64 by omega)), nI_1, nI_1]
    by_cases h : und P (pl i) t
    · rw [pb_t.mpr h, if_neg (show ¬ b2 true = 0 by decide), (cn_s (f := fun i => pb (und P (pl i) t))).1 (pb_t.mpr h)]
    · rw [pb_f.mpr h, if_pos (show b2 false = 0 from rfl), (cn_s (f := fun i => pb (und P (pl i) t))).2 (pb_f.mpr h)]
theorem pooledUnder_5 {P : Nat → Nat → Int32} {nt t pc r : Nat} (h16 : nt ≤ 16) (ht : t < nt) {σ : SS} (hT : cT σ P nt) (hpc : pc ≤ 20) (h11 : σ.1 6 11 = nI pc) {pl : Nat → Nat} (hpl : ∀ i, i < pc → pl i < nt ∧ σ.1 29 i = nI (pl i)) {U : Nat → Bool} (hU : ∀ i, U i = true ↔ und P (pl i) t) (hr : r < cn U pc) : ∀ (rr i fuel : Nat), i + rr = pc → rr < fuel → cn U i ≤ r → ∃ i', i' < pc ∧ U i' = true ∧ cn U i' = r ∧ p_X2_pooledUnder_5 σ fuel (nI t) (nI r) (nI (cn U i)) (nI i) = some (nI (pl i')) := by
  intro rr
  induction rr with
  | zero =>
    intro i fuel hi hf hle
    have e : i = pc := by omega
    subst e
    omega
  | succ rr ih =>
    intro i fuel hi hf hle
    obtain ⟨f, rfl⟩ : ∃ f, fuel = f + 1 := ⟨fuel - 1, by omega⟩
    obtain ⟨p1, p2⟩ := hpl i (by omega)
    have hci := cn_le U i
    have hcp := cn_le U pc
    rw [p_X2_pooledUnder_5]
    try dsimp only
    unfold p_X2_pooledUnder_51
    rw [h11, if_neg (nI_ge (by omega) (by omega)), oi_n (show i < 20 by omega) (by decide), nI_clamp (show i < 2 ^ 31 by omega), p2, oc_s (k_isUnder hT h16 p1 (show t < 64 by omega)), nI_1, nI_1, oi_n (show i < 20 by omega) (by decide)]
    by_cases h : und P (pl i) t
    · have hUi : U i = true := (hU i).mpr h
      have hcs := cn_s.1 hUi
      rw [pb_t.mpr h, if_neg (show ¬ b2 true = 0 by decide)]
      by_cases e : cn U i = r
      · rw [if_pos (by rw [e])]
        exact ⟨i, by omega, hUi, e, rfl⟩
      · rw [if_neg (fun q => e ((nI_eq (by omega) (by omega)).mp q)), ← hcs]
        exact ih (i + 1) f (by omega) (by omega) (by omega)
    · have hUi : U i = false := Bool.eq_false_iff.mpr (fun q => h ((hU i).mp q))
      have hcs := cn_s.2 hUi
      rw [pb_f.mpr h, if_pos (show b2 false = 0 from rfl), ← hcs]
      exact ih (i + 1) f (by omega) (by omega) (by omega)
theorem runCall_12 {P : Nat → Nat → Int32} {nt nm no t pc : Nat} (hW : WF P nt nm no) (ht : t < nt) {τ : SS} (hWτ : WF τ.1 nt nm no) (hag : ag P τ.1) (hpc : pc ≤ 20) (h47 : τ.1 0 47 = nI pc) {pl : Nat → Nat} (hpl : ∀ i, i < pc → pl i < nt ∧ τ.1 34 i = nI (pl i)) {U : Nat → Bool} (hU : ∀ i, U i = pb (und P (pl i) t)) (o : Int32) : ∀ (r i fuel : Nat) (s : SS), i + r = pc → r < fuel → kp sU τ s → okU s.1 nt → ∃ s', kp sU τ s' ∧ okU s'.1 nt ∧ p_X8_runCall_12 fuel o (nI t) (nI (cn U i)) (nI i) s = (if nI (cn U pc) = 0 then some s' else oc (p_X8_draw_0 (nI (cn U pc)) s') (fun r_57 => p_X8_runCall_65 100000 o (nI t) r_57.1 0 r_57.2)) := by
  have h16 := hW.1.1
  intro r
  induction r with
  | zero =>
    intro i fuel s hi hf hk ho
    obtain ⟨f, rfl⟩ : ∃ f, fuel = f + 1 := ⟨fuel - 1, by omega⟩
    have e : i = pc := by omega
    subst e
    refine ⟨s, hk, ho, ?_⟩
    rw [p_X8_runCall_12]
    try dsimp only
    rw [hk.2.2 47 (by decide), h47, if_pos (nI_le (Nat.le_refl _) (by omega))]
  | succ r ih =>
    intro i fuel s hi hf hk ho
    obtain ⟨f, rfl⟩ : ∃ f, fuel = f + 1 := ⟨fuel - 1, by omega⟩
    obtain ⟨p1, p2⟩ := hpl i (by omega)
    obtain ⟨s1, e1, e2, e3, e4⟩ := m_isUnder (kp_wfT hk sU14 hWτ.1) ho p1 (show t < 16 by omega)
    have hu : und s.1 = und P := (kp_und hk sU14).trans (und_ag hag)
    rw [hu] at e1
    obtain ⟨s', q1, q2, q3⟩ := ih (i + 1) f s1 (by omega) (by omega) (kp_tr hk e2) (Or.inr ⟨e3, e4⟩)
    refine ⟨s', q1, q2, ?_⟩
    rw [← q3, p_X8_runCall_12]
    try dsimp only
    unfold p_X8_runCall_42
    rw [hk.2.2 47 (by decide), h47, if_neg (nI_ge (by omega) (by omega)), oi_n (show i < 20 by omega) (by decide), nI_clamp (show i < 2 ^ 31 by omega), hk.2.1 34 (by decide) (by decide), p2, oc_s e1, nI_1, nI_1, show nI (cn U i) + 0 = nI (cn U i) from nI_add _ 0]
    by_cases h : und P (pl i) t
    · rw [pb_t.mpr h, if_neg (show ¬ b2 true = 0 by decide), cn_s.1 (by rw [hU]; exact pb_t.mpr h)]
    · rw [pb_f.mpr h, if_pos (show b2 false = 0 from rfl), cn_s.2 (by rw [hU]; exact pb_f.mpr h)]
/-- how far the reference is with the POOL -/
def pcS (P : Nat → Nat → Int32) (nt nm t n o D r : Nat) (pl : Nat → Nat) (U : Nat → Bool) (τ : SS) (i : Nat) (s : SS) : Prop := kx nt τ s ∧ sb D τ s ∧ ((cn U i ≤ r ∧ s.1 0 37 = nI D) ∨ ∃ i' rz, i' < i ∧ U i' = true ∧ cn U i' = r ∧ isH P nt nm (pl i') t (nI n) rz ∧ ((rz < 0 ∧ s.1 0 37 = nI D) ∨ ∃ m, rz = nI m ∧ m < nm ∧ s.1 0 37 = nI (D + 1) ∧ it s D 1 (nI m) 0 (nI o)))
theorem pcS_kp {P : Nat → Nat → Int32} {nt nm t n o D r i : Nat} {pl : Nat → Nat} {U : Nat → Bool} {τ s s1 : SS} {S : List Nat} (h : pcS P nt nm t n o D r pl U τ i s) (hk : kp S s s1) (hS : ∀ x ∈ S, x ∈ sV) (ho : okU s1.1 nt) : pcS P nt nm t n o D r pl U τ i s1 := by
  have hX : ∀ x ∈ S, x ∈ sX := fun x hx => sVX x (hS x hx)
  obtain ⟨b1, b2⟩ := sb_kp (D := D + 1) hk hX
  obtain ⟨h1, h2, h3⟩ := h
  refine ⟨kx_tr h1 (kx_kp hk hS ho), sb_tr h2 (sb_le b1 (by omega)), ?_⟩
  rcases h3 with ⟨q1, q2⟩ | ⟨i', rz, q1, q2, q3, q4, ⟨q5, q6⟩ | ⟨m, q5, q6, q7, q8⟩⟩
  · exact Or.inl ⟨q1, b2.trans q2⟩
  · exact Or.inr ⟨i', rz, q1, q2, q3, q4, Or.inl ⟨q5, b2.trans q6⟩⟩
  · exact Or.inr ⟨i', rz, q1, q2, q3, q4, Or.inr ⟨m, q5, q6, b2.trans q7, sb_it b1 (by omega) q8⟩⟩
theorem runCall_65 {P : Nat → Nat → Int32} {nt nm no t pc n o D r : Nat} (hW : WF P nt nm no) (ht : t < nt) {τ : SS} (hag : ag P τ.1) (h00 : τ.1 0 0 = P 0 0 ∧ τ.1 0 5 = P 0 5 ∧ τ.1 0 12 = P 0 12) (hpc : pc ≤ 20) (h47 : τ.1 0 47 = nI pc) {pl : Nat → Nat} (hpl : ∀ i, i < pc → pl i < nt ∧ τ.1 34 i = nI (pl i)) {U : Nat → Bool} (hU : ∀ i, U i = pb (und P (pl i) t)) (ho : o < 160) (h13 : P 13 o = nI n) (hD : D < 1000) (hr : r < 100) : ∀ (rr i fuel : Nat) (s : SS), i + rr = pc → rr < fuel → pcS P nt nm t n o D r pl U τ i s → ∃ s', p_X8_runCall_65 fuel (nI o) (nI t) (nI r - nI (cn U i)) (nI i) s = some s' ∧ pcS P nt nm t n o D r pl U τ pc s' := by
  have h16 := hW.1.1
  have h48 := hW.2.1.1
  intro rr
  induction rr with
  | zero =>
    intro i fuel s hi hf hs
    obtain ⟨f, rfl⟩ : ∃ f, fuel = f + 1 := ⟨fuel - 1, by omega⟩
    have e : i = pc := by omega
    subst e
    refine ⟨s, ?_, hs⟩
    rw [p_X8_runCall_65]
    try dsimp only
    rw [hs.1.2.2.1 47 (by decide) (by decide), h47, if_pos (nI_le (Nat.le_refl _) (by omega))]
  | succ rr ih =>
    intro i fuel s hi hf hs
    obtain ⟨f, rfl⟩ : ∃ f, fuel = f + 1 := ⟨fuel - 1, by omega⟩
    obtain ⟨p1, p2⟩ := hpl i (by omega)
    have hci := cn_le U i
    have hlo : ∀ s', kx nt τ s' → WF s'.1 nt nm no ∧ ag P s'.1 := fun s' hx => by
      have hl : ag P s'.1 := fun c a1 a2 => (hx.2.1 c a1 (fun q => by
        have : ∀ x ∈ sY, 20 ≤ x := by decide
        have := this c q
        omega)).trans (hag c a1 a2)
      exact ⟨WF_ag hW hl ((hx.2.2.1 0 (by decide) (by decide)).trans h00.1) ((hx.2.2.1 5 (by decide) (by decide)).trans h00.2.1) ((hx.2.2.1 12 (by decide) (by decide)).trans h00.2.2), hl⟩
    obtain ⟨w1, w2⟩ := hlo s hs.1
    obtain ⟨s1, e1, e2, e3, e4⟩ := m_isUnder w1.1 hs.1.2.2.2 p1 (show t < 16 by omega)
    rw [und_ag w2] at e1
    have hs1 := pcS_kp hs e2 sUV (Or.inr ⟨e3, e4⟩)
    obtain ⟨w3, w4⟩ := hlo s1 hs1.1
    rw [p_X8_runCall_65]
    try dsimp only
    unfold p_X8_runCall_127 p_X8_runCall_130
    rw [hs.1.2.2.1 47 (by decide) (by decide), h47, if_neg (nI_ge (by omega) (by omega)), oi_n (show i < 20 by omega) (by decide), nI_clamp (show i < 2 ^ 31 by omega), hs.1.2.1 34 (by decide) (by decide), p2, oc_s e1, oi_n (show i < 20 by omega) (by decide), oi_n ho (by decide), nI_clamp (show o < 2 ^ 31 by omega), hs1.1.2.1 34 (by decide) (by decide), p2, w4 13 (by decide) (by decide), h13, nI_1, wh_s]
    by_cases h : und P (pl i) t
    · have hUi : U i = true := by rw [hU]; exact pb_t.mpr h
      have hcs := cn_s.1 hUi
      rw [pb_t.mpr h, if_neg (show ¬ b2 true = 0 by decide)]
      by_cases e : r = cn U i
      · rw [if_pos ((wh_0 (by omega) (by omega)).mpr e)]
        obtain ⟨rz, s2, c1, c2, c3, c4⟩ := m_chosenOf w3.1 w3.2.1 hs1.1.2.2.2 p1 ht (nI n)
        rw [isH_ag w4] at c4
        rw [oc_s c1, ← hcs]
        have hs2 := pcS_kp hs1 c2 (fun x hx => hx) c3
        have hd2 : s2.1 0 37 = nI D := by
          rcases hs2.2.2 with ⟨-, q⟩ | ⟨i', rz', q1, q2, q3, -⟩
          · exact q
          · have := cn_lt q2 q1
            omega
        rcases isH_rng h48 c4 with g | ⟨m, hm, g⟩
        · rw [if_pos (neg_nI g)]
          exact ih (i + 1) f s2 (by omega) (by omega) ⟨hs2.1, hs2.2.1, Or.inr ⟨i, rz, by omega, hUi, e.symm, c4, Or.inl ⟨neg_nI g, hd2⟩⟩⟩
        · obtain ⟨g1, g2, g3, g4⟩ := psh_f (τ := s2) (D := D) (nt := nt) (k := 1) (a := nI m) (b := nI o) c3
          rw [g, if_neg (nI_pos (by omega)), oc_s (m_push hd2 hD 1 (nI m) (nI o))]
          rw [g] at c4
          exact ih (i + 1) f _ (by omega) (by omega) ⟨kx_tr hs2.1 g1, sb_tr hs2.2.1 g2, Or.inr ⟨i, nI m, by omega, hUi, e.symm, c4, Or.inr ⟨m, rfl, hm, g4, g3⟩⟩⟩
      · rw [if_neg (fun q => e ((wh_0 (by omega) (by omega)).mp q)), ← hcs]
        refine ih (i + 1) f s1 (by omega) (by omega) ⟨hs1.1, hs1.2.1, ?_⟩
        rcases hs1.2.2 with ⟨q1, q2⟩ | ⟨i', rz, q1, q2⟩
        · exact Or.inl ⟨by omega, q2⟩
        · exact Or.inr ⟨i', rz, by omega, q2⟩
    · have hUi : U i = false := by rw [hU]; exact pb_f.mpr h
      have hcs := cn_s.2 hUi
      rw [pb_f.mpr h, if_pos (show b2 false = 0 from rfl), ← hcs]
      refine ih (i + 1) f s1 (by omega) (by omega) ⟨hs1.1, hs1.2.1, ?_⟩
      rcases hs1.2.2 with ⟨q1, q2⟩ | ⟨i', rz, q1, q2⟩
      · exact Or.inl ⟨by omega, q2⟩
      · exact Or.inr ⟨i', rz, by omega, q2⟩
