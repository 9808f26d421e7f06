/-! pure: the class's types and members stand for the reference's rows; LEFT as the class tells it -/
def cT (σ : SS) (P : Nat → Nat → Int32) (nt : Nat) : Prop := σ.1 1 5 = nI nt ∧ (∀ t, t < nt → σ.1 7 t = P 1 t ∧ σ.1 8 t = P 2 t) ∧ (∀ t, t < nt → ∀ u, u < 64 → (lb (σ.2 9 t) u = true ↔ fce P t u)) ∧ (∀ t, nt ≤ t → t < 16 → σ.2 9 t = 0) ∧ (∀ u, u < 64 → (lb (σ.2 1 4) u = true ↔ u < nt ∧ P 1 u = 2)) ∧ ∀ t, t < nt → ∀ u, u < 64 → (lb (σ.2 10 t) u = true ↔ abv P t u)
def cM (σ : SS) (P : Nat → Nat → Int32) (nm : Nat) : Prop := σ.1 2 10 = nI nm ∧ (∀ m, m < nm → σ.1 11 m = P 5 m ∧ σ.1 12 m = P 7 m) ∧ (∀ t, t < 16 → ∀ n, n < 10 → isOwn P nm (nI t) (nI n) (σ.1 13 (t * 10 + n))) ∧ (∀ t, t < 16 → isOwn P nm (nI t) (-1) (σ.1 14 t)) ∧ (∀ n, n < 10 → ∀ m, m < 64 → (lb (σ.2 15 n) m = true ↔ m < nm ∧ P 6 m = nI n ∧ (P 7 m = 0 ∨ P 7 m = 2 ∨ P 7 m = 3))) ∧ (∀ n, n < 10 → ∀ t, t < 64 → (lb (σ.2 16 n) t = true ↔ ∃ m, m < nm ∧ P 5 m = nI t ∧ P 6 m = nI n ∧ pbs P m)) ∧ (∀ m, m < 64 → (lb (σ.2 2 7) m = true ↔ m < nm ∧ P 7 m = 0)) ∧ (∀ t, t < 64 → (lb (σ.2 2 8) t = true ↔ ∃ m, m < nm ∧ P 5 m = nI t ∧ P 7 m = 0)) ∧ ∀ m, m < 64 → (lb (σ.2 2 9) m = true ↔ m < nm ∧ P 8 m = 1)
def hdr (P : Nat → Nat → Int32) (nt nm t n f : Nat) : Prop := fab P nt t f ∧ ∃ m, m < nm ∧ P 5 m = nI f ∧ P 6 m = nI n ∧ pbs P m
theorem fab_abv {P : Nat → Nat → Int32} {nt t f : Nat} : fab P nt t f ↔ f < nt ∧ P 1 f = 2 ∧ abv P t f := by
  constructor
  · rintro ⟨h1, h2, h3, h4 | h4⟩
    · exact absurd h4.symm h2
    · exact ⟨h1, h3, h4⟩
  · rintro ⟨h1, h2, h3⟩
    exact ⟨h1, fun e => by have := abv_lt h3; omega, h2, Or.inr h3⟩
theorem lft_hdr {P : Nat → Nat → Int32} {nt nm t n m : Nat} (h16 : nt ≤ 16) : lft P nt nm t (nI n) m ↔ ∃ f, f < t ∧ hdr P nt nm t n f ∧ (¬ ∃ g, g < t ∧ hdr P nt nm t n g ∧ abv P g f) ∧ m < nm ∧ P 5 m = nI f ∧ P 6 m = nI n ∧ pbs P m := by
  constructor
  · rintro ⟨⟨h1, h2, h3, f, h4, h5, h6⟩, h7⟩
    have hf := abv_lt (fab_abv.mp h6).2.2
    refine ⟨f, hf, ⟨h6, m, h1, h5, h2, h3⟩, ?_, h1, h5, h2, h3⟩
    rintro ⟨g, hg, ⟨g1, o, g2, g3, g4, g5⟩, g6⟩
    exact h7 ⟨o, ⟨g2, g4, g5, g, g1.1, g3, g1⟩, f, g, h4, g1.1, h5, g3, fun e => by have := abv_lt g6; omega, Or.inr g6⟩
  · rintro ⟨f, hf, ⟨h1, -⟩, h2, h3, h4, h5, h6⟩
    refine ⟨⟨h3, h5, h6, f, h1.1, h4, h1⟩, ?_⟩
    rintro ⟨o, ⟨g1, g2, g3, g, g4, g5, g6⟩, f', g', hf', hg', q1, q2, q3, q4⟩
    have e1 : f = f' := (nI_eq (by have := h1.1; omega) (by omega)).mp (h4.symm.trans q1)
    have e2 : g = g' := (nI_eq (by omega) (by omega)).mp (g5.symm.trans q2)
    subst e1; subst e2
    rcases q4 with q4 | q4
    · exact q3 q4
    · exact h2 ⟨g, abv_lt (fab_abv.mp g6).2.2, ⟨g6, o, g1, g5, g2, g3⟩, q4⟩
theorem c10 (t n : Nat) : (nI t * 10 + nI n) = nI (t * 10 + n) := by rw [show (10 : Int32) = nI 10 from rfl, pk_mul, nI_add]
theorem k_named {σ : SS} {t n : Nat} (ht : t < 16) (hn : n < 10) : p_X4_named_0 σ (nI t) (nI n) = some (σ.1 13 (t * 10 + n)) := by
  unfold p_X4_named_0
  rw [c10, oi_n (show t * 10 + n < 160 by omega) (by decide), nI_clamp (show t * 10 + n < 2 ^ 31 by omega)]
theorem own_of {σ : SS} {P : Nat → Nat → Int32} {nt nm t n m : Nat} (hM : wfM P nt nm) (hc : cM σ P nm) (ht : t < 16) (hn : n < 10) (hm : m < nm) (h5 : P 5 m = nI t) (h6 : P 6 m = nI n) : σ.1 13 (t * 10 + n) = nI m :=
  isOwn_one hM (hc.2.2.1 t ht n hn) (Or.inr ⟨m, hm, h5, h6, rfl⟩)
theorem leftOf_73 {σ : SS} {P : Nat → Nat → Int32} {nt nm t n : Nat} (hM : wfM P nt nm) (hc : cM σ P nm) (ht : t < 16) (hn : n < 10) (v3 v5 : Int64) {K : Nat → Prop} (hK : ∀ f, f < t → (lb (v3 &&& (v5 ^^^ (-1))) f = true ↔ K f)) (hKm : ∀ f, f < t → K f → ∃ m, m < nm ∧ P 5 m = nI f ∧ P 6 m = nI n ∧ pbs P m) : ∀ (r k fuel : Nat) (v7 : Int64), k + r = t → r < fuel → (∀ m, m < 64 → (lb v7 m = true ↔ ∃ f, f < k ∧ K f ∧ m < nm ∧ P 5 m = nI f ∧ P 6 m = nI n ∧ pbs P m)) →
    ∃ x, p_X1_leftOf_73 σ fuel (nI t) (nI n) v3 v5 v7 (nI k) = some x ∧ ∀ m, m < 64 → (lb x m = true ↔ ∃ f, f < t ∧ K f ∧ m < nm ∧ P 5 m = nI f ∧ P 6 m = nI n ∧ pbs P m) := by
  have h48 := hM.1
  intro r
  induction r with
  | zero =>
    intro k fuel v7 hk hf h7
    obtain ⟨f, rfl⟩ : ∃ f, fuel = f + 1 := ⟨fuel - 1, by omega⟩
    have e : k = t := by omega
    subst e
    refine ⟨v7, ?_, h7⟩
    rw [p_X1_leftOf_73]
    try dsimp only
    rw [if_pos (nI_le (Nat.le_refl _) (by omega))]
  | succ r ih =>
    intro k fuel v7 hk hf h7
    obtain ⟨f, rfl⟩ : ∃ f, fuel = f + 1 := ⟨fuel - 1, by omega⟩
    have hkt : k < t := by omega
    rw [p_X1_leftOf_73]
    try dsimp only
    rw [if_neg (nI_ge hkt (by omega)), oc_s (p_has (show k < 64 by omega))]
    cases hb : lb (v3 &&& (v5 ^^^ (-1))) k with
    | false =>
      have hnk : ¬ K k := fun q => by have := (hK k hkt).mpr q; rw [hb] at this; cases this
      rw [if_pos (show b2 false = 0 from rfl)]
      unfold p_X1_leftOf_112
      rw [nI_1]
      refine ih (k + 1) f v7 (by omega) (by omega) (fun m hm => ?_)
      rw [h7 m hm]
      constructor
      · rintro ⟨g, h1, h2⟩
        exact ⟨g, by omega, h2⟩
      · rintro ⟨g, h1, h2⟩
        by_cases e : g = k
        · subst e; exact absurd h2.1 hnk
        · exact ⟨g, by omega, h2⟩
    | true =>
      have hKk : K k := (hK k hkt).mp hb
      obtain ⟨m0, q1, q2, q3, q4⟩ := hKm k hkt hKk
      have hown := own_of hM hc (show k < 16 by omega) hn q1 q2 q3
      rw [if_neg (show ¬ b2 true = 0 by decide), oc_s (k_named (show k < 16 by omega) hn), hown, oc_s (show p_X0_with_0 v7 (nI m0) = some (v7 ||| jshl 1 (nI m0)) from rfl)]
      unfold p_X1_leftOf_112
      rw [nI_1]
      refine ih (k + 1) f (v7 ||| jshl 1 (nI m0)) (by omega) (by omega) (fun m hm => ?_)
      rw [lb_with (show m0 < 64 by omega), Bool.or_eq_true, h7 m hm]
      constructor
      · rintro (⟨g, h1, h2⟩ | h)
        · exact ⟨g, by omega, h2⟩
        · have e : m = m0 := by simpa using h
          subst e
          exact ⟨k, by omega, hKk, q1, q2, q3, q4⟩
      · rintro ⟨g, h1, h2, h3, h4, h5, h6⟩
        by_cases e : g = k
        · subst e
          have : m = m0 := hM.2.2.2 m m0 h3 q1 (h4.trans q2.symm) (h5.trans q3.symm)
          exact Or.inr (by simp [this])
        · exact Or.inl ⟨g, by omega, h2, h3, h4, h5, h6⟩
theorem leftOf_32 {σ : SS} {P : Nat → Nat → Int32} {nt t n : Nat} (hT : cT σ P nt) (h16 : nt ≤ 16) (htn : t < nt) (v3 : Int64) {K : Nat → Prop} (hK : ∀ f, f < 64 → (lb v3 f = true ↔ K f)) : ∀ (r k fuel : Nat) (v5 : Int64), k + r = t → r < fuel → (∀ u, u < 64 → (lb v5 u = true ↔ ∃ f, f < k ∧ K f ∧ abv P f u)) →
    ∃ x, p_X1_leftOf_32 σ fuel (nI t) (nI n) v3 v5 (nI k) = p_X1_leftOf_73 σ 100000 (nI t) (nI n) v3 x 0 0 ∧ ∀ u, u < 64 → (lb x u = true ↔ ∃ f, f < t ∧ K f ∧ abv P f u) := by
  intro r
  induction r with
  | zero =>
    intro k fuel v5 hk hf h5
    obtain ⟨f, rfl⟩ : ∃ f, fuel = f + 1 := ⟨fuel - 1, by omega⟩
    have e : k = t := by omega
    subst e
    refine ⟨v5, ?_, h5⟩
    rw [p_X1_leftOf_32]
    try dsimp only
    rw [if_pos (nI_le (Nat.le_refl _) (by omega))]
  | succ r ih =>
    intro k fuel v5 hk hf h5
    obtain ⟨f, rfl⟩ : ∃ f, fuel = f + 1 := ⟨fuel - 1, by omega⟩
    have hkt : k < t := by omega
    rw [p_X1_leftOf_32]
    try dsimp only
    rw [if_neg (nI_ge hkt (by omega)), oc_s (p_has (show k < 64 by omega))]
    cases hb : lb v3 k with
    | false =>
      have hnk : ¬ K k := fun q => by have := (hK k (by omega)).mpr q; rw [hb] at this; cases this
      rw [if_pos (show b2 false = 0 from rfl)]
      unfold p_X1_leftOf_61
      rw [nI_1]
      refine ih (k + 1) f v5 (by omega) (by omega) (fun u hu => ?_)
      rw [h5 u hu]
      constructor
      · rintro ⟨g, h1, h2⟩
        exact ⟨g, by omega, h2⟩
      · rintro ⟨g, h1, h2⟩
        by_cases e : g = k
        · subst e; exact absurd h2.1 hnk
        · exact ⟨g, by omega, h2⟩
    | true =>
      have hKk : K k := (hK k (by omega)).mp hb
      have ha : p_X6_above_0 σ (nI k) = some (σ.2 10 k) := by
        unfold p_X6_above_0
        rw [oi_n (show k < 16 by omega) (by decide), nI_clamp (show k < 2 ^ 31 by omega)]
      rw [if_neg (show ¬ b2 true = 0 by decide), oc_s ha]
      unfold p_X1_leftOf_61
      rw [nI_1]
      refine ih (k + 1) f (v5 ||| σ.2 10 k) (by omega) (by omega) (fun u hu => ?_)
      rw [lb_or, Bool.or_eq_true, h5 u hu, hT.2.2.2.2.2 k (by omega) u hu]
      constructor
      · rintro (⟨g, h1, h2⟩ | h)
        · exact ⟨g, by omega, h2⟩
        · exact ⟨k, by omega, hKk, h⟩
      · rintro ⟨g, h1, h2, h3⟩
        by_cases e : g = k
        · subst e; exact Or.inr h3
        · exact Or.inl ⟨g, by omega, h2, h3⟩
theorem no_lb {k : Nat} (h : lb 0 k = true) : False := by
  rw [lb_0] at h
  cases h
theorem k_facesAbove {σ : SS} {P : Nat → Nat → Int32} {nt t : Nat} (hT : cT σ P nt) (h16 : nt ≤ 16) (ht : t < nt) : ∃ x, p_X6_facesAbove_0 σ (nI t) = some x ∧ ∀ u, u < 64 → (lb x u = true ↔ fab P nt t u) := by
  unfold p_X6_facesAbove_0
  rw [oi_n (show t < 16 by omega) (by decide), nI_clamp (show t < 2 ^ 31 by omega)]
  refine ⟨_, rfl, fun u hu => ?_⟩
  rw [lb_and, Bool.and_eq_true, hT.2.2.2.2.2 t ht u hu, hT.2.2.2.2.1 u hu, fab_abv]
  exact ⟨fun h => ⟨h.2.1, h.2.2, h.1⟩, fun h => ⟨h.2.2, h.1, h.2.1⟩⟩
theorem k_leftOf {σ : SS} {P : Nat → Nat → Int32} {nt nm t n : Nat} (hw : wfT P nt) (hM : wfM P nt nm) (hT : cT σ P nt) (hc : cM σ P nm) (ht : t < nt) (hn : n < 10) : ∃ x, p_X1_leftOf_0 σ (nI t) (nI n) = some x ∧ ∀ m, m < 64 → (lb x m = true ↔ lft P nt nm t (nI n) m) := by
  have h16 := hw.1
  obtain ⟨a, e1, e2⟩ := k_facesAbove hT h16 ht
  have e3 : p_X4_passersOf_0 σ (nI n) = some (σ.2 16 n) := by
    unfold p_X4_passersOf_0
    rw [oi_n hn (by decide), nI_clamp (show n < 2 ^ 31 by omega)]
  have hK : ∀ f, f < 64 → (lb (a &&& σ.2 16 n) f = true ↔ hdr P nt nm t n f) := fun f hf => by
    rw [lb_and, Bool.and_eq_true, e2 f hf, hc.2.2.2.2.2.1 n hn f hf]
    exact Iff.rfl
  unfold p_X1_leftOf_0
  rw [oc_s e1, oc_s e3]
  by_cases hz : (a &&& σ.2 16 n) = 0
  · rw [if_pos ((lg_cmp_eq _ _).mpr hz)]
    refine ⟨0, rfl, fun m hm => ⟨fun h => (no_lb h).elim, fun h => ?_⟩⟩
    obtain ⟨f, h1, h2, -⟩ := (lft_hdr h16).mp h
    have := (hK f (by omega)).mpr h2
    rw [hz, lb_0] at this
    cases this
  · rw [if_neg (fun q => hz ((lg_cmp_eq _ _).mp q))]
    obtain ⟨hd, q1, q2⟩ := leftOf_32 (n := n) hT h16 ht (a &&& σ.2 16 n) hK t 0 100000 0 (by omega) (by omega) (fun u hu => ⟨fun h => (no_lb h).elim, fun ⟨f, h, _⟩ => absurd h (Nat.not_lt_zero _)⟩)
    obtain ⟨x, w1, w2⟩ := leftOf_73 hM hc (show t < 16 by omega) hn (a &&& σ.2 16 n) hd (K := fun f => hdr P nt nm t n f ∧ ¬ ∃ g, g < t ∧ hdr P nt nm t n g ∧ abv P g f) (fun f hf => by
      rw [lb_and, lb_xor, lb_m1 f (by omega), Bool.and_eq_true, hK f (by omega)]
      constructor
      · rintro ⟨h1, h2⟩
        refine ⟨h1, fun h3 => ?_⟩
        rw [(q2 f (by omega)).mpr h3] at h2
        cases h2
      · rintro ⟨h1, h2⟩
        refine ⟨h1, ?_⟩
        cases hb : lb hd f with
        | false => rfl
        | true => exact absurd ((q2 f (by omega)).mp hb) h2) (fun f _ h => h.1.2) t 0 100000 0 (by omega) (by omega) (fun m hm => ⟨fun h => (no_lb h).elim, fun ⟨f, h, _⟩ => absurd h (Nat.not_lt_zero _)⟩)
    refine ⟨x, q1.trans w1, fun m hm => ?_⟩
    rw [w2 m hm, lft_hdr h16]
    constructor
    · rintro ⟨f, h1, ⟨h2, h3⟩, h4⟩
      exact ⟨f, h1, h2, h3, h4⟩
    · rintro ⟨f, h1, h2, h3, h4⟩
      exact ⟨f, h1, ⟨h2, h3⟩, h4⟩
