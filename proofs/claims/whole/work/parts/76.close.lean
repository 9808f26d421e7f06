/-! pure: the class joins and closes the calls -/
def dirP (P : Nat → Nat → Int32) (nt nm m j : Nat) : Prop := ∃ o, ofM P m o ∧ LG P nt nm 4 o j
def wsh (D : Nat → Nat → Prop) : Nat → Nat → Nat → Prop
  | 0, m, k => D m k
  | b + 1, m, k => wsh D b m k ∨ (wsh D b m b ∧ wsh D b b k)
theorem wsh_row {D : Nat → Nat → Prop} {b k : Nat} : wsh D (b + 1) b k ↔ wsh D b b k := ⟨fun h => h.elim id (fun q => q.2), Or.inl⟩
theorem join_15 (k2 : Int32 → SS → Option SS) {P : Nat → Nat → Int32} {nt nm no m c : Nat} (hW : WF P nt nm no) (hm : m < nm) (h9 : P 9 m = nI c) (hc : c ≤ 24) {σ : SS} (hC : CI σ P nt nm no) : ∀ (r i fuel : Nat) (g : Nat → Int64), i + r = c → r < fuel → (∀ j, lb (g m) j = true ↔ ∃ i' o, i' < i ∧ P 10 (24 * m + i') = nI o ∧ o < no ∧ lb (σ.2 25 o) j = true) →
    ∃ x, p_X3_joinCalls_15 k2 fuel (nI m) (nI i) (pL σ 26 g) = k2 (nI (m + 1)) (pL σ 26 (vp_updL g m x)) ∧ ∀ j, lb x j = true ↔ ∃ i' o, i' < c ∧ P 10 (24 * m + i') = nI o ∧ o < no ∧ lb (σ.2 25 o) j = true := by
  obtain ⟨hw, hM, hO⟩ := id hW
  have h48 := hM.1
  have h160 := hO.1
  have hC' : ∀ g, CI (pL σ 26 g) P nt nm no := fun g => kg_CIh (σ := σ) (σ' := pL σ 26 g) ⟨rfl, fun c hc => pL_ne σ (c := c) g (fun e => hc (by rw [e]; decide))⟩ hC
  intro r
  induction r with
  | zero =>
    intro i fuel g hi hf hg
    obtain ⟨f, rfl⟩ : ∃ f, fuel = f + 1 := ⟨fuel - 1, by omega⟩
    have e : i = c := by omega
    subst e
    refine ⟨g m, ?_, hg⟩
    rw [p_X3_joinCalls_15]
    try dsimp only
    rw [oc_s (k_sizeOf (hC' g).2.2.1 h48 hm), h9, if_pos (nI_le (by omega) (by omega)), nI_1]
    have : vp_updL g m (g m) = g := by
      funext k
      by_cases e : k = m
      · rw [e, updL_at]
      · rw [updL_ne e]
    rw [this]
  | succ r ih =>
    intro i fuel g hi hf hg
    obtain ⟨f, rfl⟩ : ∃ f, fuel = f + 1 := ⟨fuel - 1, by omega⟩
    obtain ⟨c', w1, w2, -, w4⟩ := hO.2.2.1 m hm
    have hcc : c' = c := (nI_eq (by omega) (by omega)).mp (w2.symm.trans h9)
    subst hcc
    obtain ⟨o, ho, h10⟩ := w4 i (by omega)
    obtain ⟨x, q1, q2⟩ := ih (i + 1) f (vp_updL g m (g m ||| σ.2 25 o)) (by omega) (by omega) (fun j => by
      rw [updL_at, lb_or, Bool.or_eq_true, hg j]
      constructor
      · rintro (⟨i', o', h1, h2⟩ | h)
        · exact ⟨i', o', by omega, h2⟩
        · exact ⟨i, o, by omega, h10, ho, h⟩
      · rintro ⟨i', o', h1, h2, h3, h4⟩
        by_cases e : i' = i
        · subst e
          have : o = o' := (nI_eq (by omega) (by omega)).mp (h10.symm.trans h2)
          subst this
          exact Or.inr h4
        · exact Or.inl ⟨i', o', by omega, h2, h3, h4⟩)
    refine ⟨x, ?_, q2⟩
    rw [p_X3_joinCalls_15]
    try dsimp only
    rw [oc_s (k_sizeOf (hC' g).2.2.1 h48 hm), h9, if_neg (nI_ge (by omega) (by omega)), oi_n (show m < 48 by omega) (by decide), oc_s (k_opAt (hC' g).2.2.1 h48 hm h9 hc (show i < c' by omega)), h10, oi_n (show o < 160 by omega) (by decide), oi_n (show m < 48 by omega) (by decide), nI_clamp (show m < 2 ^ 31 by omega), nI_clamp (show o < 2 ^ 31 by omega), pL_at, pL_ne σ g (by decide : (25 : Nat) ≠ 26), os_s, pL_s, nI_1]
    rw [q1]
    congr 2
    funext k
    by_cases e : k = m
    · rw [e, updL_at, updL_at]
    · rw [updL_ne e, updL_ne e, updL_ne e]
theorem join_2 {P : Nat → Nat → Int32} {nt nm no : Nat} (hW : WF P nt nm no) {σ : SS} (hC : CI σ P nt nm no) {K : Nat → Nat → Prop} (hK : ∀ m, m < nm → ∀ j, (∃ i' c o, P 9 m = nI c ∧ c ≤ 24 ∧ i' < c ∧ P 10 (24 * m + i') = nI o ∧ o < no ∧ lb (σ.2 25 o) j = true) ↔ K m j) : ∀ (r k fuel : Nat) (g : Nat → Int64), k + r = nm → r < fuel → (∀ m, m < k → ∀ j, lb (g m) j = true ↔ K m j) → (∀ m, k ≤ m → m < nm → g m = 0) →
    ∃ g', p_X3_joinCalls_2 fuel (nI k) (pL σ 26 g) = some (pL σ 26 g') ∧ ∀ m, m < nm → ∀ j, lb (g' m) j = true ↔ K m j := by
  obtain ⟨hw, hM, hO⟩ := id hW
  have h48 := hM.1
  intro r
  induction r with
  | zero =>
    intro k fuel g hk hf h1 h2
    obtain ⟨f, rfl⟩ : ∃ f, fuel = f + 1 := ⟨fuel - 1, by omega⟩
    have e : k = nm := by omega
    subst e
    refine ⟨g, ?_, h1⟩
    rw [p_X3_joinCalls_2]
    try dsimp only
    rw [oc_s (show p_X4_size_0 (pL σ 26 g) = some (nI k) from size_M hC.2.1), if_pos (nI_le (Nat.le_refl _) (by omega))]
  | succ r ih =>
    intro k fuel g hk hf h1 h2
    obtain ⟨f, rfl⟩ : ∃ f, fuel = f + 1 := ⟨fuel - 1, by omega⟩
    have hkn : k < nm := by omega
    obtain ⟨c, w1, w2, -, -⟩ := hO.2.2.1 k hkn
    obtain ⟨x, q1, q2⟩ := join_15 (p_X3_joinCalls_2 f) hW hkn w2 w1 hC c 0 100000 g (by omega) (by omega) (fun j => by
      rw [h2 k (Nat.le_refl _) hkn, lb_0]
      exact ⟨fun q => (by cases q), fun ⟨i', o, h, _⟩ => by omega⟩)
    obtain ⟨g', z1, z2⟩ := ih (k + 1) f (vp_updL g k x) (by omega) (by omega) (fun m hm j => by
      by_cases e : m = k
      · subst e
        rw [updL_at, q2 j, ← hK m hkn j]
        constructor
        · rintro ⟨i', o, y1, y2⟩
          exact ⟨i', c, o, w2, w1, y1, y2⟩
        · rintro ⟨i', c', o, y0, y1, y2, y3⟩
          have : c' = c := (nI_eq (by omega) (by omega)).mp (y0.symm.trans w2)
          subst this
          exact ⟨i', o, y2, y3⟩
      · rw [updL_ne e]
        exact h1 m (by omega) j) (fun m hm1 hm2 => by
      rw [updL_ne (by omega)]
      exact h2 m (by omega) hm2)
    refine ⟨g', ?_, z2⟩
    rw [p_X3_joinCalls_2]
    try dsimp only
    rw [oc_s (show p_X4_size_0 (pL σ 26 g) = some (nI nm) from size_M hC.2.1), if_neg (nI_ge hkn (by omega)), ← z1]
    exact q1
theorem close_30 (k17 : Int32 → SS → Option SS) {nm b : Nat} (h48 : nm ≤ 48) (hb : b < nm) {σ : SS} (hs : σ.1 2 10 = nI nm) {D : Nat → Nat → Prop} : ∀ (r k fuel : Nat) (g : Nat → Int64), k + r = nm → r < fuel → (∀ m, m < k → ∀ j, lb (g m) j = true ↔ wsh D (b + 1) m j) → (∀ m, k ≤ m → m < nm → ∀ j, lb (g m) j = true ↔ wsh D b m j) →
    ∃ g', p_X3_closeCalls_30 k17 fuel (nI b) (nI k) (pL σ 27 g) = k17 (nI (b + 1)) (pL σ 27 g') ∧ ∀ m, m < nm → ∀ j, lb (g' m) j = true ↔ wsh D (b + 1) m j := by
  have hsz : ∀ g, p_X4_size_0 (pL σ 27 g) = some (nI nm) := fun g => by unfold p_X4_size_0; rw [← hs]; rfl
  intro r
  induction r with
  | zero =>
    intro k fuel g hk hf h1 h2
    obtain ⟨f, rfl⟩ : ∃ f, fuel = f + 1 := ⟨fuel - 1, by omega⟩
    have e : k = nm := by omega
    subst e
    refine ⟨g, ?_, h1⟩
    rw [p_X3_closeCalls_30]
    try dsimp only
    rw [oc_s (hsz g), if_pos (nI_le (Nat.le_refl _) (by omega)), nI_1]
  | succ r ih =>
    intro k fuel g hk hf h1 h2
    obtain ⟨f, rfl⟩ : ∃ f, fuel = f + 1 := ⟨fuel - 1, by omega⟩
    have hkn : k < nm := by omega
    have hgk := h2 k (Nat.le_refl _) hkn
    have hgb : ∀ j, lb (g b) j = true ↔ wsh D b b j := fun j => by
      by_cases e : b < k
      · rw [h1 b e j, wsh_row]
      · exact h2 b (by omega) hb j
    rw [p_X3_closeCalls_30]
    try dsimp only
    rw [oc_s (hsz g), if_neg (nI_ge hkn (by omega)), oi_n (show k < 48 by omega) (by decide), pL_at, nI_clamp (show k < 2 ^ 31 by omega), oc_s (p_has (show b < 64 by omega))]
    unfold p_X3_closeCalls_69
    cases hx : lb (g k) b with
    | false =>
      rw [if_pos (show b2 false = 0 from rfl), nI_1]
      refine ih (k + 1) f g (by omega) (by omega) (fun m hm j => ?_) (fun m hm1 hm2 j => h2 m (by omega) hm2 j)
      by_cases e : m = k
      · subst e
        rw [hgk j]
        refine ⟨Or.inl, fun q => q.elim id (fun w => ?_)⟩
        have := (hgk b).mpr w.1
        rw [hx] at this
        cases this
      · exact h1 m (by omega) j
    | true =>
      rw [if_neg (show ¬ b2 true = 0 by decide), oi_n (show k < 48 by omega) (by decide), oi_n (show b < 48 by omega) (by decide), oi_n (show k < 48 by omega) (by decide), nI_clamp (show b < 2 ^ 31 by omega), os_s, pL_s, nI_1]
      refine ih (k + 1) f (vp_updL g k (g k ||| g b)) (by omega) (by omega) (fun m hm j => ?_) (fun m hm1 hm2 j => by rw [updL_ne (by omega)]; exact h2 m (by omega) hm2 j)
      by_cases e : m = k
      · subst e
        rw [updL_at, lb_or, Bool.or_eq_true, hgk j, hgb j]
        exact or_congr Iff.rfl ⟨fun w => ⟨(hgk b).mp hx, w⟩, fun w => w.2⟩
      · rw [updL_ne e]
        exact h1 m (by omega) j
theorem close_17 {nm : Nat} (h48 : nm ≤ 48) {σ : SS} (hs : σ.1 2 10 = nI nm) {D : Nat → Nat → Prop} : ∀ (r b fuel : Nat) (g : Nat → Int64), b + r = nm → r < fuel → (∀ m, m < nm → ∀ j, lb (g m) j = true ↔ wsh D b m j) → ∃ g', p_X3_closeCalls_17 fuel (nI b) (pL σ 27 g) = some (pL σ 27 g') ∧ ∀ m, m < nm → ∀ j, lb (g' m) j = true ↔ wsh D nm m j := by
  have hsz : ∀ g, p_X4_size_0 (pL σ 27 g) = some (nI nm) := fun g => by unfold p_X4_size_0; rw [← hs]; rfl
  intro r
  induction r with
  | zero =>
    intro b fuel g hb hf h
    obtain ⟨f, rfl⟩ : ∃ f, fuel = f + 1 := ⟨fuel - 1, by omega⟩
    have e : b = nm := by omega
    subst e
    refine ⟨g, ?_, h⟩
    rw [p_X3_closeCalls_17]
    try dsimp only
    rw [oc_s (hsz g), if_pos (nI_le (Nat.le_refl _) (by omega))]
  | succ r ih =>
    intro b fuel g hb hf h
    obtain ⟨f, rfl⟩ : ∃ f, fuel = f + 1 := ⟨fuel - 1, by omega⟩
    obtain ⟨g1, q1, q2⟩ := close_30 (p_X3_closeCalls_17 f) h48 (show b < nm by omega) hs nm 0 100000 g (by omega) (by omega) (fun m hm => absurd hm (Nat.not_lt_zero _)) (fun m _ hm => h m hm)
    obtain ⟨g', z1, z2⟩ := ih (b + 1) f g1 (by omega) (by omega) q2
    refine ⟨g', ?_, z2⟩
    rw [p_X3_closeCalls_17]
    try dsimp only
    rw [oc_s (hsz g), if_neg (nI_ge (by omega) (by omega)), ← z1]
    exact q1
/-- the class's graph is the graph -/
def gC (σ : SS) (P : Nat → Nat → Int32) (nt nm : Nat) : Prop := SC σ = LG P nt nm ∧ (∀ m, m < nm → ∀ j, lb (σ.2 26 m) j = true ↔ dirP P nt nm m j) ∧ ∀ m, m < nm → ∀ j, lb (σ.2 27 m) j = true ↔ wsh (dirP P nt nm) nm m j
def clS (σ : SS) : SS := fL (fL (fL (sL (sL (sL σ 5 9 (σ.2 2 9)) 5 10 0) 5 11 0) 24 4 0) 25 160 0) 26 48 0
theorem k_clear (σ : SS) : p_X3_clear_0 σ = some (clS σ) := by
  unfold p_X3_clear_0
  rw [oc_s (show p_X4_roots_0 σ = some (σ.2 2 9) from rfl), os_s, os_s, os_s, os_s, os_s, os_s]
  rfl
theorem clS_SC {σ : SS} (q i j : Nat) : SC (clS σ) q i j ↔ q = 0 ∧ j = 0 ∧ lb (σ.2 2 9) i = true := by
  rcases q with _ | _ | _ | _ | _ | q
  · exact ⟨fun h => ⟨rfl, h⟩, fun h => h.2⟩
  · exact ⟨fun h => absurd h.2 (by rw [show (clS σ).2 5 10 = 0 from rfl, lb_0]; decide), fun h => by cases h.1⟩
  · exact ⟨fun h => absurd h.2 (by rw [show (clS σ).2 5 11 = 0 from rfl, lb_0]; decide), fun h => by cases h.1⟩
  · refine ⟨fun h => absurd h.2 ?_, fun h => by cases h.1⟩
    rw [show (clS σ).2 24 i = (if i < 4 then 0 else σ.2 24 i) from rfl, if_pos h.1, lb_0]; decide
  · refine ⟨fun h => absurd h.2 ?_, fun h => by cases h.1⟩
    rw [show (clS σ).2 25 i = (if i < 160 then 0 else σ.2 25 i) from rfl, if_pos h.1, lb_0]; decide
  · exact ⟨fun h => h.elim, fun h => by have := h.1; omega⟩
theorem k_refresh {P : Nat → Nat → Int32} {nt nm no : Nat} (hW : WF P nt nm no) {σ : SS} (hC : CI σ P nt nm no) (hf : σ.1 5 12 = 0 ∨ (σ.1 5 12 = 1 ∧ gC σ P nt nm)) : ∃ σ', p_X3_refresh_0 σ = some σ' ∧ CI σ' P nt nm no ∧ gC σ' P nt nm ∧ σ'.1 5 12 = 1 := by
  obtain ⟨hw, hM, hO⟩ := id hW
  have h16 := hw.1
  have h48 := hM.1
  have h160 := hO.1
  unfold p_X3_refresh_0
  rcases hf with hf | ⟨hf, hg⟩
  · rw [if_pos hf, oc_s (k_clear σ)]
    have hk0 : kg sH σ (clS σ) := by
      refine ⟨rfl, fun c hc => ?_⟩
      have e5 : c ≠ 5 := fun e => hc (by rw [e]; decide)
      have e24 : c ≠ 24 := fun e => hc (by rw [e]; decide)
      have e25 : c ≠ 25 := fun e => hc (by rw [e]; decide)
      have e26 : c ≠ 26 := fun e => hc (by rw [e]; decide)
      unfold clS fL
      show va_up _ 26 _ c = _
      simp only [va_up, e26, e25, e24, if_false]
      show (sL (sL (sL σ 5 9 (σ.2 2 9)) 5 10 0) 5 11 0).2 c = _
      rw [sL_p, pL_ne _ _ e5, sL_p, pL_ne _ _ e5, sL_p, pL_ne _ _ e5]
    have hC0 := kg_CIh hk0 hC
    have hL := LG_cls P nt nm
    have hroot : ∀ m, lb (σ.2 2 9) m = true → m < nm ∧ P 8 m = 1 := fun m h => by
      by_cases hm : m < 64
      · exact (hC.2.1.2.2.2.2.2.2.2.2 m hm).mp h
      · rw [lb_big (by omega)] at h; cases h
    obtain ⟨s1, q1, q2, q3⟩ := refresh_16 hW 273 0 100000 (clS σ) (-1) (by omega) (by omega) hC0 (fun q i j h => by
        obtain ⟨rfl, rfl, h3⟩ := (clS_SC q i j).mp h
        exact Or.inl ⟨rfl, (hroot i h3).1, rfl⟩) (fun q i j h => by
        obtain ⟨rfl, rfl, h3⟩ := (clS_SC q i j).mp h
        exact hL.1 i (hroot i h3).1 (hroot i h3).2) (fun o m h => by
        have := ((clS_SC 4 o m).mp h).1
        cases this) (fun m hm h8 => (clS_SC 0 m 0).mpr ⟨rfl, rfl, (hC.2.1.2.2.2.2.2.2.2.2 m (by omega)).mpr ⟨hm, h8⟩⟩) (Or.inl ⟨rfl, rfl⟩)
    have hC1 := kg_CI q2 hC0
    have h26 : s1.2 26 = (clS σ).2 26 := q2.2 26 (by decide)
    have hK : ∀ m, m < nm → ∀ j, (∃ i' c o, P 9 m = nI c ∧ c ≤ 24 ∧ i' < c ∧ P 10 (24 * m + i') = nI o ∧ o < no ∧ lb (s1.2 25 o) j = true) ↔ dirP P nt nm m j := by
      intro m hm j
      constructor
      · rintro ⟨i', c, o, y1, y2, y3, y4, y5, y6⟩
        refine ⟨o, ⟨c, i', y1, y2, y3, y4, by omega⟩, ?_⟩
        rw [← q3]
        exact ⟨by omega, y6⟩
      · rintro ⟨o, ⟨c, i', y1, y2, y3, y4, y5⟩, y6⟩
        obtain ⟨c', w1, w2, -, w4⟩ := hO.2.2.1 m hm
        have hcc : c' = c := (nI_eq (by omega) (by omega)).mp (w2.symm.trans y1)
        subst hcc
        obtain ⟨o', z1, z2⟩ := w4 i' y3
        have : o' = o := (nI_eq (by omega) (by omega)).mp (z2.symm.trans y4)
        subst this
        rw [← q3] at y6
        exact ⟨i', c', o', y1, y2, y3, y4, z1, y6.2⟩
    obtain ⟨g, z1, z2⟩ := join_2 hW hC1 hK nm 0 100000 (s1.2 26) (by omega) (by omega) (fun m hm => absurd hm (Nat.not_lt_zero _)) (fun m _ hm => by
      rw [h26]
      show (if m < 48 then (0 : Int64) else _) = 0
      rw [if_pos (by omega)])
    rw [pL_self] at z1
    have z1' : p_X3_joinCalls_0 s1 = some (pL s1 26 g) := z1
    obtain ⟨g', y1, y2⟩ := close_17 (D := dirP P nt nm) h48 (σ := pL s1 26 g) hC1.2.1.1 nm 0 100000 (va_cpy g (s1.2 27) 0 0 48) (by omega) (by omega) (fun m hm j => by
      show lb (if 0 ≤ m ∧ m < 0 + 48 then g (0 + (m - 0)) else s1.2 27 m) j = true ↔ dirP P nt nm m j
      rw [if_pos (by omega), show 0 + (m - 0) = m by omega]
      exact z2 m hm j)
    have y1' : p_X3_closeCalls_0 (pL s1 26 g) = some (pL (pL s1 26 g) 27 g') := by
      unfold p_X3_closeCalls_0
      rw [os_s]
      refine Eq.trans ?_ y1
      congr 1
    have fin : p_X3_refresh_46 s1 = some (sI (pL (pL s1 26 g) 27 g') 5 12 1) := by
      unfold p_X3_refresh_46
      rw [oc_s z1', oc_s y1', os_s]
    refine ⟨sI (pL (pL s1 26 g) 27 g') 5 12 1, ?_, ?_, ⟨?_, fun m hm j => ?_, fun m hm j => ?_⟩, rfl⟩
    · rw [← fin]
      exact q1
    · have hk2 : kg sH s1 (pL (pL s1 26 g) 27 g') := ⟨rfl, fun c hc => by rw [pL_ne _ _ (fun e => hc (by rw [e]; decide)), pL_ne _ _ (fun e => hc (by rw [e]; decide))]⟩
      obtain ⟨a1, a2, a3, a4⟩ := kg_CIh hk2 hC1
      exact ⟨cT_c a1 rfl rfl rfl rfl rfl rfl, cM_c a2 rfl rfl rfl rfl rfl rfl rfl rfl, cO_c a3 rfl rfl rfl rfl rfl rfl, a4⟩
    · rw [← q3]
      funext q i j
      rcases q with _ | _ | _ | _ | _ | q
      · rfl
      · rfl
      · rfl
      · rfl
      · rfl
      · rfl
    · show lb ((pL (pL s1 26 g) 27 g').2 26 m) j = true ↔ _
      rw [pL_ne _ _ (by decide : (26 : Nat) ≠ 27), pL_at]
      exact z2 m hm j
    · show lb ((pL (pL s1 26 g) 27 g').2 27 m) j = true ↔ _
      rw [pL_at]
      exact y2 m hm j
  · rw [if_neg (by rw [hf]; decide)]
    exact ⟨σ, rfl, hC, hg, hf⟩
