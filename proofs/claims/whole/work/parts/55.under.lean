/-! pure: isUnder of the reference; what its finders leave as it was -/
/-- but for the cells of S (and whether the laid rows stand) all is as it was -/
def kp (S : List Nat) (τ τ' : SS) : Prop := τ'.2 = τ.2 ∧ (∀ c, c ≠ 0 → c ∉ S → τ'.1 c = τ.1 c) ∧ ∀ j, j ≠ 26 → τ'.1 0 j = τ.1 0 j
theorem kp_rf (S : List Nat) (τ : SS) : kp S τ τ := ⟨rfl, fun _ _ _ => rfl, fun _ _ => rfl⟩
theorem kp_tr {S : List Nat} {a b c : SS} (h : kp S a b) (g : kp S b c) : kp S a c := ⟨g.1.trans h.1, fun k h0 h1 => (g.2.1 k h0 h1).trans (h.2.1 k h0 h1), fun j hj => (g.2.2 j hj).trans (h.2.2 j hj)⟩
theorem kp_up {S S' : List Nat} {a b : SS} (hs : ∀ x ∈ S, x ∈ S') (h : kp S a b) : kp S' a b := ⟨h.1, fun k h0 h1 => h.2.1 k h0 (fun q => h1 (hs k q)), h.2.2⟩
theorem kp_pI {S : List Nat} (τ : SS) {k : Nat} (f : Nat → Int32) (hk : k ∈ S) (h0 : k ≠ 0) : kp S τ (pI τ k f) :=
  ⟨rfl, fun c _ h1 => pI_ne τ f (fun e => h1 (by rw [e]; exact hk)), fun j _ => by rw [pI_ne τ f (fun e => h0 e.symm)]⟩
theorem kp_26 (S : List Nat) (τ : SS) (x : Int32) : kp S τ (sI τ 0 26 x) := ⟨rfl, fun c h0 _ => by rw [sI_p, pI_ne _ _ h0], fun j hj => by rw [sI_p, pI_at]; unfold upd; rw [if_neg hj]⟩
theorem nxt_c {P P' : Nat → Nat → Int32} (h2 : P' 2 = P 2) (h3 : P' 3 = P 3) (h4 : P' 4 = P 4) : nxt P' = nxt P := by
  funext t u
  unfold nxt
  rw [h2, h3, h4]
theorem und_c {P P' : Nat → Nat → Int32} (h2 : P' 2 = P 2) (h3 : P' 3 = P 3) (h4 : P' 4 = P 4) : und P' = und P := by
  unfold und abv
  rw [nxt_c h2 h3 h4]
theorem kp_c {S : List Nat} {τ τ' : SS} (h : kp S τ τ') (hS : ∀ x ∈ S, 14 ≤ x) {c : Nat} (h0 : c ≠ 0) (h14 : c < 14) : τ'.1 c = τ.1 c := h.2.1 c h0 (fun q => by have := hS c q; omega)
theorem kp_und {S : List Nat} {τ τ' : SS} (h : kp S τ τ') (hS : ∀ x ∈ S, 14 ≤ x) : und τ'.1 = und τ.1 := und_c (kp_c h hS (by decide) (by decide)) (kp_c h hS (by decide) (by decide)) (kp_c h hS (by decide) (by decide))
theorem wfT_c {P P' : Nat → Nat → Int32} {nt : Nat} (h : wfT P nt) (h0 : P' 0 0 = P 0 0) (h1 : P' 1 = P 1) (h2 : P' 2 = P 2) (h3 : P' 3 = P 3) (h4 : P' 4 = P 4) : wfT P' nt := by
  unfold wfT at h ⊢
  rw [h0, h1, h2, h3, h4]
  exact h
theorem kp_wfT {S : List Nat} {τ τ' : SS} {nt : Nat} (h : kp S τ τ') (hS : ∀ x ∈ S, 14 ≤ x) (hw : wfT τ.1 nt) : wfT τ'.1 nt := wfT_c hw (h.2.2 0 (by decide)) (kp_c h hS (by decide) (by decide)) (kp_c h hS (by decide) (by decide)) (kp_c h hS (by decide) (by decide)) (kp_c h hS (by decide) (by decide))
def sU : List Nat := [20, 21]
theorem sU14 : ∀ x ∈ sU, 14 ≤ x := by decide
def laid (P : Nat → Nat → Int32) (nt : Nat) : Prop := ∀ t, t < nt → ∀ u, u < 16 → P 21 (16 * t + u) = b2 (pb (und P t u))
def okU (P : Nat → Nat → Int32) (nt : Nat) : Prop := P 0 26 = 0 ∨ (P 0 26 = 1 ∧ laid P nt)
theorem isUnder_30 (k14 : Int32 → Int32 → Int32 → SS → Option (Int32 × SS)) (v1 v2 : Int32) {σ : SS} {t : Nat} (ht : t < 16) (hz : zn 16 (σ.1 20)) : ∀ (r u fuel : Nat) (g : Nat → Int32), u + r = 16 → r < fuel →
    ∃ g', p_X8_isUnder_30 k14 fuel v1 v2 (nI t) (nI u) (pI σ 21 g) = k14 v1 v2 (nI (t + 1)) (pI σ 21 g') ∧ (∀ u', u ≤ u' → u' < 16 → g' (16 * t + u') = σ.1 20 u') ∧ ∀ j, (j < 16 * t + u ∨ 16 * t + 16 ≤ j) → g' j = g j := by
  intro r
  induction r with
  | zero =>
    intro u fuel g hu hf
    obtain ⟨f, rfl⟩ : ∃ f, fuel = f + 1 := ⟨fuel - 1, by omega⟩
    refine ⟨g, ?_, fun u' h1 h2 => by omega, fun _ _ => rfl⟩
    rw [p_X8_isUnder_30]
    try dsimp only
    rw [if_pos (show (16 : Int32) ≤ nI u from nI_le (a := 16) (by omega) (by omega)), nI_1]
  | succ r ih =>
    intro u fuel g hu hf
    obtain ⟨f, rfl⟩ : ∃ f, fuel = f + 1 := ⟨fuel - 1, by omega⟩
    obtain ⟨g', e1, e2, e3⟩ := ih (u + 1) f (upd g (16 * t + u) (σ.1 20 u)) (by omega) (by omega)
    refine ⟨g', ?_, fun u' h1 h2 => ?_, fun j hj => ?_⟩
    · rw [p_X8_isUnder_30]
      try dsimp only
      rw [if_neg (show ¬ (16 : Int32) ≤ nI u from nI_ge (b := 16) (by omega) (by omega)), oi_n (show u < 16 by omega) (by decide), c16, oi_n (show 16 * t + u < 256 by omega) (by decide), pI_ne σ g (by decide : (20 : Nat) ≠ 21), nI_clamp (show u < 2 ^ 31 by omega), ob_ok (hz u (by omega)), nI_clamp (show 16 * t + u < 2 ^ 31 by omega)]
      unfold os
      rw [pI_s, nI_1]
      exact e1
    · by_cases e : u' = u
      · subst e
        rw [e3 _ (Or.inl (by omega))]
        unfold upd
        rw [if_pos rfl]
      · exact e2 u' (by omega) h2
    · rw [e3 j (by omega)]
      unfold upd
      rw [if_neg (by omega)]
theorem isUnder_14 (v1 v2 : Int32) {τ : SS} {nt : Nat} (hw : wfT τ.1 nt) : ∀ (r k fuel : Nat) (s : SS), k + r = nt → r < fuel → kp sU τ s → s.1 0 26 = 1 → (∀ t, t < k → ∀ u, u < 16 → s.1 21 (16 * t + u) = b2 (pb (und τ.1 t u))) →
    ∃ s', p_X8_isUnder_14 fuel v1 v2 (nI k) s = p_X8_isUnder_68 v1 v2 s' ∧ kp sU τ s' ∧ s'.1 0 26 = 1 ∧ ∀ t, t < nt → ∀ u, u < 16 → s'.1 21 (16 * t + u) = b2 (pb (und τ.1 t u)) := by
  have h16 := hw.1
  intro r
  induction r with
  | zero =>
    intro k fuel s hk hf hkp h26 hl
    obtain ⟨f, rfl⟩ : ∃ f, fuel = f + 1 := ⟨fuel - 1, by omega⟩
    have hkn : k = nt := by omega
    subst hkn
    refine ⟨s, ?_, hkp, h26, hl⟩
    rw [p_X8_isUnder_14]
    try dsimp only
    rw [(kp_wfT hkp sU14 hw).2.1, if_pos (nI_le (Nat.le_refl _) (by omega))]
  | succ r ih =>
    intro k fuel s hk hf hkp h26 hl
    obtain ⟨f, rfl⟩ : ∃ f, fuel = f + 1 := ⟨fuel - 1, by omega⟩
    have hws := kp_wfT hkp sU14 hw
    obtain ⟨fa, e1, e2⟩ := m_lookUp hws (show k < nt by omega)
    have hz : zn 16 ((pI s 20 fa).1 20) := fun j hj => by rw [pI_at, e2 j hj]; exact b2_01 _
    obtain ⟨g', q1, q2, q3⟩ := isUnder_30 (p_X8_isUnder_14 f) v1 v2 (σ := pI s 20 fa) (t := k) (by omega) hz 16 0 100000 ((pI s 20 fa).1 21) (by omega) (by omega)
    rw [pI_self] at q1
    obtain ⟨s', w1, w2, w3, w4⟩ := ih (k + 1) f (pI (pI s 20 fa) 21 g') (by omega) (by omega) (kp_tr hkp (kp_tr (kp_pI s fa (by decide) (by decide)) (kp_pI _ g' (by decide) (by decide)))) (by rw [pI_ne _ _ (by decide), pI_ne _ _ (by decide)]; exact h26) (fun t ht u hu => by
      rw [pI_at]
      by_cases e : t = k
      · subst e
        rw [q2 u (Nat.zero_le _) hu, pI_at, e2 u hu, kp_und hkp sU14]
      · rw [q3 _ (Or.inl (by omega)), pI_ne _ _ (by decide)]
        exact hl t (by omega) u hu)
    refine ⟨s', ?_, w2, w3, w4⟩
    rw [p_X8_isUnder_14]
    try dsimp only
    rw [hws.2.1, if_neg (nI_ge (by omega) (by omega)), oc_s e1, ← w1]
    exact q1
theorem isUnder_68 {τ s : SS} {nt t u : Nat} (ht : t < 16) (hu : u < 16) (hl : s.1 21 (16 * t + u) = b2 (pb (und τ.1 t u))) : p_X8_isUnder_68 (nI t) (nI u) s = some (b2 (pb (und τ.1 t u)), s) := by
  unfold p_X8_isUnder_68
  rw [c16, oi_n (show 16 * t + u < 256 by omega) (by decide), nI_clamp (show 16 * t + u < 2 ^ 31 by omega), hl, ob_ok (b2_01 _)]
theorem m_isUnder {τ : SS} {nt t u : Nat} (hw : wfT τ.1 nt) (ho : okU τ.1 nt) (ht : t < nt) (hu : u < 16) : ∃ τ', p_X8_isUnder_0 (nI t) (nI u) τ = some (b2 (pb (und τ.1 t u)), τ') ∧ kp sU τ τ' ∧ τ'.1 0 26 = 1 ∧ laid τ'.1 nt := by
  have h16 := hw.1
  unfold p_X8_isUnder_0
  rcases ho with h | ⟨h, hl⟩
  · rw [if_pos h]
    unfold os
    obtain ⟨s', e1, e2, e3, e4⟩ := isUnder_14 (nI t) (nI u) hw nt 0 100000 (sI τ 0 26 1) (by omega) (by omega) (kp_26 sU τ 1) (by rw [sI_p, pI_at]; unfold upd; rw [if_pos rfl]) (fun t ht => absurd ht (Nat.not_lt_zero _))
    refine ⟨s', ?_, e2, e3, fun t ht u hu => by rw [kp_und e2 sU14]; exact e4 t ht u hu⟩
    exact e1.trans (isUnder_68 (nt := nt) (by omega) hu (e4 t ht u hu))
  · rw [if_neg (by rw [h]; decide)]
    exact ⟨τ, isUnder_68 (nt := nt) (by omega) hu (hl t ht u hu), kp_rf sU τ, h, hl⟩
