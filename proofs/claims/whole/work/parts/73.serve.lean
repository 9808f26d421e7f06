/-! pure: the class's graph: what one OP does -/
def SC (σ : SS) (q i j : Nat) : Prop := match q with
  | 0 => j = 0 ∧ lb (σ.2 5 9) i = true
  | 1 => j = 0 ∧ lb (σ.2 5 10) i = true
  | 2 => j = 0 ∧ lb (σ.2 5 11) i = true
  | 3 => i < 4 ∧ lb (σ.2 24 i) j = true
  | 4 => i < 160 ∧ lb (σ.2 25 i) j = true
  | _ => False
def CI (σ : SS) (P : Nat → Nat → Int32) (nt nm no : Nat) : Prop := cT σ P nt ∧ cM σ P nm ∧ cO σ P nm no ∧ cC σ P nt nm
def WF (P : Nat → Nat → Int32) (nt nm no : Nat) : Prop := wfT P nt ∧ wfM P nt nm ∧ wfO P nt nm no
def kg (S : List Nat) (σ σ' : SS) : Prop := σ'.1 = σ.1 ∧ ∀ c, c ∉ S → σ'.2 c = σ.2 c
theorem kg_rf (S : List Nat) (σ : SS) : kg S σ σ := ⟨rfl, fun _ _ => rfl⟩
theorem kg_tr {S : List Nat} {a b c : SS} (h : kg S a b) (g : kg S b c) : kg S a c := ⟨g.1.trans h.1, fun k hk => (g.2 k hk).trans (h.2 k hk)⟩
theorem kg_sL {S : List Nat} (σ : SS) {k : Nat} (j : Nat) (x : Int64) (hk : k ∈ S) : kg S σ (sL σ k j x) := ⟨rfl, fun c hc => pL_ne σ _ (fun e => hc (by rw [e]; exact hk))⟩
def sH : List Nat := [5, 24, 25, 26, 27, 28]
theorem kg_CIh {σ σ' : SS} {P : Nat → Nat → Int32} {nt nm no : Nat} (hk : kg sH σ σ') (h : CI σ P nt nm no) : CI σ' P nt nm no := by
  obtain ⟨h1, h2, h3, h4⟩ := h
  have g1 := hk.1
  refine ⟨cT_c h1 (by rw [g1]) (by rw [g1]) (by rw [g1]) (hk.2 9 (by decide)) (by rw [hk.2 1 (by decide)]) (hk.2 10 (by decide)), cM_c h2 (by rw [g1]) (by rw [g1]) (by rw [g1]) (by rw [g1]) (by rw [g1]) (hk.2 15 (by decide)) (hk.2 16 (by decide)) (hk.2 2 (by decide)), cO_c h3 (by rw [g1]) (by rw [g1]) (by rw [g1]) (by rw [g1]) (by rw [g1]) (by rw [g1]), ?_⟩
  unfold cC at h4 ⊢
  rw [g1]
  exact h4
def sG : List Nat := [5, 24, 25]
theorem sGH : ∀ x ∈ sG, x ∈ sH := by decide
theorem kg_h {σ σ' : SS} (hk : kg sG σ σ') : kg sH σ σ' := ⟨hk.1, fun c hc => hk.2 c (fun q => hc (sGH c q))⟩
theorem kg_CI {σ σ' : SS} {P : Nat → Nat → Int32} {nt nm no : Nat} (hk : kg sG σ σ') (h : CI σ P nt nm no) : CI σ' P nt nm no := kg_CIh (kg_h hk) h
theorem sL_sL (σ : SS) (k j : Nat) (x y : Int64) : sL (sL σ k j x) k j y = sL σ k j y := by
  rw [sL_p σ k j x, pL_s, sL_p]
  congr 1
  funext c
  unfold vp_updL
  by_cases e : c = j
  · rw [if_pos e, if_pos e]
  · rw [if_neg e, if_neg e, if_neg e]
theorem sL_at (σ : SS) (k j : Nat) (x : Int64) : (sL σ k j x).2 k j = x := by rw [sL_p, pL_at]; exact updL_at
theorem isH_rng {P : Nat → Nat → Int32} {nt nm c t : Nat} (hnm : nm ≤ 48) {name r : Int32} (h : isH P nt nm c t name r) : (r = -2 ∨ r = -3 ∨ r = -4 ∨ r = -5) ∨ ∃ j, j < nm ∧ r = nI j := by
  obtain ⟨f0, -, ⟨-, h⟩ | ⟨f, hf, -, -, ⟨-, h⟩ | ⟨-, h⟩ | ⟨-, -, h⟩⟩⟩ := h
  · exact Or.inl (Or.inl h)
  · exact Or.inl (Or.inr (Or.inl h))
  · exact Or.inr ⟨f, hf, h⟩
  · rcases h with ⟨m, hm, -, ⟨-, h⟩ | ⟨-, h⟩⟩ | ⟨-, ⟨-, h⟩ | ⟨h1, h⟩ | ⟨-, h⟩⟩
    · exact Or.inr ⟨m, hm, h⟩
    · exact Or.inl (Or.inr (Or.inr (Or.inl h)))
    · exact Or.inl (Or.inr (Or.inr (Or.inl h)))
    · rcases h with ⟨-, h⟩ | ⟨k, hk, hf, -, h⟩
      · exfalso
        have : 0 < cn (lpB P nt nm c name) 48 := by omega
        rcases h with h | h
        · exact absurd h (by decide)
        · have := cn_le (lpB P nt nm c name) 48
          exact nI_ge (b := cn (lpB P nt nm c name) 48) (a := 0) (by omega) (by omega) h
      · exact Or.inr ⟨k, (pb_t.mp hf).1.1.1, h⟩
    · exact Or.inl (Or.inr (Or.inr (Or.inr h)))
theorem neg_nI {r : Int32} (h : r = -2 ∨ r = -3 ∨ r = -4 ∨ r = -5) : r < 0 := by rcases h with h | h | h | h <;> rw [h] <;> decide
theorem k_addCallee {σ : SS} {o : Nat} (ho : o < 160) (v : Int32) (hv : v < 0 ∨ ∃ m, m < 64 ∧ v = nI m) (x : Int64) : ∃ x', p_X3_addCallee_0 (nI o) v (sL σ 25 o x) = some (sL σ 25 o x') ∧ ∀ j, j < 64 → (lb x' j = true ↔ lb x j = true ∨ v = nI j) := by
  rw [p_X3_addCallee_0]
  rcases hv with h | ⟨m, hm, rfl⟩
  · rw [if_pos h]
    refine ⟨x, rfl, fun j hj => ⟨Or.inl, fun q => q.elim id (fun e => ?_)⟩⟩
    rw [e] at h
    exact absurd h (nI_pos (by omega))
  · rw [if_neg (nI_pos (by omega)), oi_n ho (by decide), oi_n ho (by decide), nI_clamp (show o < 2 ^ 31 by omega), sL_at, os_s, sL_sL]
    refine ⟨_, rfl, fun j hj => ?_⟩
    rw [lb_with hm, Bool.or_eq_true]
    refine or_congr Iff.rfl ⟨fun q => by rw [show j = m by simpa using q], fun q => ?_⟩
    have := (nI_eq (by omega) (by omega)).mp q
    simp [this]
theorem serveMade_3 {P : Nat → Nat → Int32} {nt nm no t n o : Nat} (hW : WF P nt nm no) (ho : o < 160) (ht : t < nt) (hn : n < 10) {σ : SS} (hC : CI σ P nt nm no) : ∀ (r k fuel : Nat) (x : Int64), k + r = nt → r < fuel → (∀ j, j < 64 → (lb x j = true ↔ lb (σ.2 25 o) j = true ∨ ∃ c, c < k ∧ lb (σ.2 5 10) c = true ∧ und P c t ∧ isH P nt nm c t (nI n) (nI j))) →
    ∃ x', p_X3_serveMade_3 fuel (nI o) (nI t) (nI n) (nI k) (sL σ 25 o x) = some (sL σ 25 o x') ∧ ∀ j, j < 64 → (lb x' j = true ↔ lb (σ.2 25 o) j = true ∨ ∃ c, c < nt ∧ lb (σ.2 5 10) c = true ∧ und P c t ∧ isH P nt nm c t (nI n) (nI j)) := by
  obtain ⟨hw, hM, hO⟩ := hW
  have h16 := hw.1
  have h48 := hM.1
  intro r
  induction r with
  | zero =>
    intro k fuel x hk hf hx
    obtain ⟨f, rfl⟩ : ∃ f, fuel = f + 1 := ⟨fuel - 1, by omega⟩
    have e : k = nt := by omega
    subst e
    refine ⟨x, ?_, hx⟩
    rw [p_X3_serveMade_3]
    try dsimp only
    rw [oc_s (size_T (kg_CI (kg_sL σ o x (by decide)) hC).1), if_pos (nI_le (Nat.le_refl _) (by omega))]
  | succ r ih =>
    intro k fuel x hk hf hx
    obtain ⟨f, rfl⟩ : ∃ f, fuel = f + 1 := ⟨fuel - 1, by omega⟩
    have hkn : k < nt := by omega
    have hC' := kg_CI (kg_sL (S := sG) σ o x (by decide : 25 ∈ sG)) hC
    rw [p_X3_serveMade_3]
    try dsimp only
    rw [oc_s (size_T hC'.1), if_neg (nI_ge hkn (by omega)), show (sL σ 25 o x).2 5 10 = σ.2 5 10 from rfl, oc_s (p_has (show k < 64 by omega))]
    have skip : ¬ (lb (σ.2 5 10) k = true ∧ und P k t) → ∃ x', p_X3_serveMade_59 (p_X3_serveMade_3 f) (nI o) (nI t) (nI n) (nI k) (sL σ 25 o x) = some (sL σ 25 o x') ∧ ∀ j, j < 64 → (lb x' j = true ↔ lb (σ.2 25 o) j = true ∨ ∃ c, c < nt ∧ lb (σ.2 5 10) c = true ∧ und P c t ∧ isH P nt nm c t (nI n) (nI j)) := by
      intro hno
      unfold p_X3_serveMade_59
      rw [nI_1]
      refine ih (k + 1) f x (by omega) (by omega) (fun j hj => ?_)
      rw [hx j hj]
      refine or_congr Iff.rfl ⟨fun ⟨c, h1, h2⟩ => ⟨c, by omega, h2⟩, fun ⟨c, h1, h2, h3, h4⟩ => ?_⟩
      by_cases e : c = k
      · subst e; exact absurd ⟨h2, h3⟩ hno
      · exact ⟨c, by omega, h2, h3, h4⟩
    cases hb : lb (σ.2 5 10) k with
    | false =>
      rw [if_pos (show b2 false = 0 from rfl)]
      exact skip (fun q => by rw [hb] at q; cases q.1)
    | true =>
      rw [if_neg (show ¬ b2 true = 0 by decide), oc_s (k_isUnder hC'.1 h16 hkn (show t < 64 by omega))]
      by_cases hu : und P k t
      · rw [pb_t.mpr hu, if_neg (show ¬ b2 true = 0 by decide)]
        obtain ⟨r0, q1, q2⟩ := k_choose (c := k) (t := t) (n := n) h16 hM hC'.2.1 hC'.2.2.2 hkn ht hn
        obtain ⟨x', w1, w2⟩ := k_addCallee (σ := σ) ho r0 (by
          rcases isH_rng h48 q2 with h | ⟨j, hj, h⟩
          · exact Or.inl (neg_nI h)
          · exact Or.inr ⟨j, by omega, h⟩) x
        rw [oc_s q1, oc_s w1]
        unfold p_X3_serveMade_59
        rw [nI_1]
        refine ih (k + 1) f x' (by omega) (by omega) (fun j hj => ?_)
        rw [w2 j hj, hx j hj, or_assoc]
        refine or_congr Iff.rfl ⟨?_, ?_⟩
        · rintro (⟨c, h1, h2⟩ | h)
          · exact ⟨c, by omega, h2⟩
          · exact ⟨k, by omega, hb, hu, by rw [← h]; exact q2⟩
        · rintro ⟨c, h1, h2, h3, h4⟩
          by_cases e : c = k
          · subst e
            exact Or.inr (isH_one hM (by omega) (by omega) q2 h4)
          · exact Or.inl ⟨c, by omega, h2, h3, h4⟩
      · rw [pb_f.mpr hu, if_pos (show b2 false = 0 from rfl)]
        exact skip (fun q => hu q.2)
/-- along the SUPERs -/
def sc (P : Nat → Nat → Int32) : Nat → Nat → Nat → Prop
  | 0, _, _ => False
  | n + 1, t, k => k = t ∨ ∃ u, u < t ∧ P 2 t = nI u ∧ sc P n u k
theorem face_abv {P : Nat → Nat → Int32} {nt t u : Nat} (hw : wfT P nt) (h : abv P t u) : t < nt → P 1 t = 2 → P 1 u = 2 := by
  have one : ∀ a b, a < nt → P 1 a = 2 → b < a → nxt P a b → P 1 b = 2 := by
    intro a b ha h2 hb hn
    have h16 := hw.1
    obtain ⟨-, -, h3, m, hm, h4, h5⟩ := hw.2.2 a ha
    rcases hn with hn | ⟨m', i, q1, q2, q3, q4⟩
    · rw [h3 h2] at hn
      exact absurd hn (nI_m1 (by omega))
    · have : m = m' := (nI_eq (by omega) (by omega)).mp (h4.symm.trans q1)
      subst this
      obtain ⟨f, w1, w2, w3⟩ := h5 i q3
      have : f = b := (nI_eq (by omega) (by omega)).mp (w2.symm.trans q4)
      subst this
      exact w3
  induction h with
  | single h => intro ht h2; exact one _ _ ht h2 h.1 h.2
  | tail h1 h2 ih =>
    intro ht hf
    have := abv_lt h1
    exact one _ _ (by omega) (ih ht hf) h2.1 h2.2
theorem sc_iff {P : Nat → Nat → Int32} {nt : Nat} (hw : wfT P nt) : ∀ (n t k : Nat), t < n → t < nt → ¬ P 1 t = 2 → (sc P n t k ↔ und P t k ∧ ¬ P 1 k = 2) := by
  have h16 := hw.1
  intro n
  induction n with
  | zero => intro t k h; omega
  | succ n ih =>
    intro t k ht htn hf
    obtain ⟨-, h2, -, m, hm, h3, h4⟩ := hw.2.2 t htn
    constructor
    · rintro (h | ⟨u, hu, h5, h6⟩)
      · exact ⟨Or.inl h.symm, by rw [h]; exact hf⟩
      · have hnf : ¬ P 1 u = 2 := by
          rcases h2 with h2 | ⟨u', hu', h2, h7⟩
          · rw [h2] at h5; exact absurd h5 (nI_m1 (by omega))
          · have : u' = u := (nI_eq (by omega) (by omega)).mp (h2.symm.trans h5)
            rw [← this]; exact h7
        obtain ⟨q1, q2⟩ := (ih u k (by omega) (by omega) hnf).mp h6
        refine ⟨?_, q2⟩
        rcases q1 with rfl | q1
        · exact Or.inr (Relation.TransGen.single ⟨hu, Or.inl h5⟩)
        · exact Or.inr (abv_cons hu (Or.inl h5) q1)
    · rintro ⟨h, hk⟩
      rcases h with h | h
      · exact Or.inl h.symm
      · have one : ∀ b, b < t → nxt P t b → (P 2 t = nI b ∧ ¬ P 1 b = 2) ∨ P 1 b = 2 := by
          intro b hb hn
          rcases hn with hn | ⟨m', i, q1, q2, q3, q4⟩
          · refine Or.inl ⟨hn, ?_⟩
            rcases h2 with h2 | ⟨u', hu', h2, h7⟩
            · rw [h2] at hn; exact absurd hn (nI_m1 (by omega))
            · have : u' = b := (nI_eq (by omega) (by omega)).mp (h2.symm.trans hn)
              rw [← this]; exact h7
          · have : m = m' := (nI_eq (by omega) (by omega)).mp (h3.symm.trans q1)
            subst this
            obtain ⟨f, w1, w2, w3⟩ := h4 i q3
            have : f = b := (nI_eq (by omega) (by omega)).mp (w2.symm.trans q4)
            subst this
            exact Or.inr w3
        rcases abv_head h with ⟨h5, h6⟩ | ⟨o, ⟨h5, h6⟩, h7⟩
        · rcases one k h5 h6 with ⟨w1, w2⟩ | w
          · exact Or.inr ⟨k, h5, w1, (ih k k (by omega) (by omega) w2).mpr ⟨Or.inl rfl, w2⟩⟩
          · exact absurd w hk
        · rcases one o h5 h6 with ⟨w1, w2⟩ | w
          · exact Or.inr ⟨o, h5, w1, (ih o k (by omega) (by omega) w2).mpr ⟨Or.inr h7, hk⟩⟩
          · exact absurd (face_abv hw h7 (by omega) w) hk
theorem begin_15 {P : Nat → Nat → Int32} {nt nm no o t : Nat} (hw : wfT P nt) {σ : SS} (hT : cT σ P nt) : ∀ (n u c fuel : Nat) (v3 : Int64), u < n → u < nt → u + c < 16 → n < fuel → ∃ v3', p_X3_begin_15 fuel (nI o) (nI t) v3 (nI u) (nI c) σ = p_X3_begin_52 (nI o) (nI t) v3' σ ∧ ∀ k, k < 64 → (lb v3' k = true ↔ lb v3 k = true ∨ sc P n u k) := by
  have h16 := hw.1
  intro n
  induction n with
  | zero => intro u c fuel v3 h; omega
  | succ n ih =>
    intro u c fuel v3 hu hun huc hf
    obtain ⟨f, rfl⟩ : ∃ f, fuel = f + 1 := ⟨fuel - 1, by omega⟩
    obtain ⟨-, hs, -⟩ := hw.2.2 u hun
    rw [p_X3_begin_15]
    try dsimp only
    rw [if_neg (show ¬ (16 : Int32) ≤ nI c from nI_ge (b := 16) (by omega) (by omega)), if_neg (fun q => nI_m1 (u := u) (by omega) q.symm), with_s, oc_s rfl, oc_s (k_superOf hT h16 hun), nI_1]
    have hb : ∀ k, k < 64 → (lb (v3 ||| jshl 1 (nI u)) k = true ↔ lb v3 k = true ∨ k = u) := fun k hk => by
      rw [lb_with (show u < 64 by omega), Bool.or_eq_true]
      simp
    rcases hs with hs | ⟨w, hw', hs, -⟩
    · obtain ⟨f', rfl⟩ : ∃ f', f = f' + 1 := ⟨f - 1, by omega⟩
      refine ⟨v3 ||| jshl 1 (nI u), ?_, fun k hk => ?_⟩
      · rw [hs, p_X3_begin_15]
        try dsimp only
        by_cases q : (16 : Int32) ≤ nI (c + 1)
        · rw [if_pos q]
        · rw [if_neg q, if_pos rfl]
      · rw [hb k hk]
        refine or_congr Iff.rfl ⟨Or.inl, ?_⟩
        rintro (h | ⟨u', hu', h, -⟩)
        · exact h
        · rw [hs] at h; exact absurd h (nI_m1 (by omega))
    · rw [hs]
      obtain ⟨v3', q1, q2⟩ := ih w (c + 1) f (v3 ||| jshl 1 (nI u)) (by omega) (by omega) (by omega) (by omega)
      refine ⟨v3', q1, fun k hk => ?_⟩
      rw [q2 k hk, hb k hk, or_assoc]
      refine or_congr Iff.rfl (or_congr Iff.rfl ⟨fun h => ⟨w, hw', hs, h⟩, ?_⟩)
      rintro ⟨u', hu', h, h5⟩
      have : w = u' := (nI_eq (by omega) (by omega)).mp (hs.symm.trans h)
      rw [this]; exact h5
theorem k_start {σ : SS} {P : Nat → Nat → Int32} {nm k : Nat} (hc : cM σ P nm) (hk : k < 16) : p_X4_startOf_0 σ (nI k) = some (σ.1 14 k) := by
  unfold p_X4_startOf_0
  rw [oi_n hk (by decide), nI_clamp (show k < 2 ^ 31 by omega)]
theorem start_iff {σ : SS} {P : Nat → Nat → Int32} {nt nm k : Nat} (hM : wfM P nt nm) (hc : cM σ P nm) (hk : k < 16) {j : Nat} (hj : j < 64) : σ.1 14 k = nI j ↔ j < nm ∧ P 5 j = nI k ∧ P 6 j = -1 := by
  have h := hc.2.2.2.1 k hk
  have h48 := hM.1
  constructor
  · intro e
    rcases h with ⟨h1, -⟩ | ⟨m, hm, h1, h2, h3⟩
    · rw [e] at h1; exact absurd h1.symm (nI_m1 (by omega))
    · have : m = j := (nI_eq (by omega) (by omega)).mp (h3.symm.trans e)
      subst this
      exact ⟨hm, h1, h2⟩
  · rintro ⟨h1, h2, h3⟩
    exact isOwn_one hM h (Or.inr ⟨j, h1, h2, h3, rfl⟩)
theorem start_rng {σ : SS} {P : Nat → Nat → Int32} {nt nm k : Nat} (hM : wfM P nt nm) (hc : cM σ P nm) (hk : k < 16) : σ.1 14 k < 0 ∨ ∃ m, m < 64 ∧ σ.1 14 k = nI m := by
  have h48 := hM.1
  rcases hc.2.2.2.1 k hk with ⟨h1, -⟩ | ⟨m, hm, h1, h2, h3⟩
  · exact Or.inl (by rw [h1]; decide)
  · exact Or.inr ⟨m, by omega, h3⟩
theorem begin_65 {P : Nat → Nat → Int32} {nt nm o t : Nat} (hM : wfM P nt nm) (ho : o < 160) (ht : t < 16) (v3 : Int64) {σ : SS} (hc : cM σ P nm) : ∀ (r k fuel : Nat) (x : Int64), k + r = t + 1 → r < fuel → ∃ x', p_X3_begin_65 fuel (nI o) (nI t) v3 (nI k) (sL σ 25 o x) = some (sL σ 25 o x') ∧ ∀ j, j < 64 → (lb x' j = true ↔ lb x j = true ∨ ∃ k', k ≤ k' ∧ k' ≤ t ∧ lb v3 k' = true ∧ σ.1 14 k' = nI j) := by
  intro r
  induction r with
  | zero =>
    intro k fuel x hk hf
    obtain ⟨f, rfl⟩ : ∃ f, fuel = f + 1 := ⟨fuel - 1, by omega⟩
    refine ⟨x, ?_, fun j hj => ⟨Or.inl, fun q => q.elim id (fun ⟨k', h1, h2, _⟩ => by omega)⟩⟩
    rw [p_X3_begin_65]
    try dsimp only
    rw [if_pos (nI_lt (by omega) (by omega))]
  | succ r ih =>
    intro k fuel x hk hf
    obtain ⟨f, rfl⟩ : ∃ f, fuel = f + 1 := ⟨fuel - 1, by omega⟩
    rw [p_X3_begin_65]
    try dsimp only
    rw [if_neg (nI_nlt (by omega) (by omega)), oc_s (p_has (show k < 64 by omega))]
    unfold p_X3_begin_94
    cases hb : lb v3 k with
    | false =>
      rw [if_pos (show b2 false = 0 from rfl), nI_1]
      obtain ⟨x', q1, q2⟩ := ih (k + 1) f x (by omega) (by omega)
      refine ⟨x', q1, fun j hj => ?_⟩
      rw [q2 j hj]
      refine or_congr Iff.rfl ⟨fun ⟨k', h1, h⟩ => ⟨k', by omega, h⟩, fun ⟨k', h1, h2, h3, h4⟩ => ?_⟩
      by_cases e : k' = k
      · rw [e, hb] at h3; cases h3
      · exact ⟨k', by omega, h2, h3, h4⟩
    | true =>
      obtain ⟨x1, w1, w2⟩ := k_addCallee (σ := σ) ho (σ.1 14 k) (start_rng hM hc (by omega)) x
      rw [if_neg (show ¬ b2 true = 0 by decide), oc_s (k_start (σ := sL σ 25 o x) (P := P) (nm := nm) (cM_c hc rfl rfl rfl rfl rfl rfl rfl rfl) (show k < 16 by omega)), show (sL σ 25 o x).1 14 k = σ.1 14 k from rfl, oc_s w1, nI_1]
      obtain ⟨x', q1, q2⟩ := ih (k + 1) f x1 (by omega) (by omega)
      refine ⟨x', q1, fun j hj => ?_⟩
      rw [q2 j hj, w2 j hj, or_assoc]
      refine or_congr Iff.rfl ⟨?_, ?_⟩
      · rintro (h | ⟨k', h1, h⟩)
        · exact ⟨k, Nat.le_refl _, by omega, hb, h⟩
        · exact ⟨k', by omega, h⟩
      · rintro ⟨k', h1, h2, h3, h4⟩
        by_cases e : k' = k
        · rw [e] at h4; exact Or.inl h4
        · exact Or.inr ⟨k', by omega, h2, h3, h4⟩
theorem k_facesBegun {P : Nat → Nat → Int32} {nt nm no t : Nat} (hW : WF P nt nm no) {σ : SS} (hC : CI σ P nt nm no) (ht : t < nt) : ∃ x, p_X4_facesBegunWith_0 σ (nI t) = some x ∧ ∀ k, k < 64 → (lb x k = true ↔ ¬ P 1 t = 2 ∧ k < nt ∧ P 1 k = 2 ∧ abv P t k ∧ hpl P nm k) := by
  obtain ⟨hw, hM, hO⟩ := hW
  obtain ⟨hT, hc, -, -⟩ := hC
  have h16 := hw.1
  unfold p_X4_facesBegunWith_0 p_X4_facesBegunWith_28
  rw [oc_s (k_isFace hT h16 ht)]
  by_cases h : P 1 t = 2
  · rw [decide_eq_true h, if_neg (show ¬ b2 true = 0 by decide)]
    exact ⟨0, rfl, fun k hk => ⟨fun q => (by rw [lb_0] at q; cases q), fun q => absurd h q.1⟩⟩
  · rw [decide_eq_false h, if_pos (show b2 false = 0 from rfl)]
    have hf : p_X6_facesAbove_0 σ (nI t) = some (σ.2 10 t &&& σ.2 1 4) := by
      unfold p_X6_facesAbove_0
      rw [oi_n (show t < 16 by omega) (by decide), nI_clamp (show t < 2 ^ 31 by omega)]
    rw [oc_s hf]
    refine ⟨_, rfl, fun k hk => ?_⟩
    rw [lb_and, lb_and, Bool.and_eq_true, Bool.and_eq_true, hT.2.2.2.2.2 t ht k hk, hT.2.2.2.2.1 k hk, hc.2.2.2.2.2.2.2.1 k hk]
    exact ⟨fun ⟨⟨a, b⟩, c⟩ => ⟨h, b.1, b.2, a, c⟩, fun ⟨_, b1, b2, a, c⟩ => ⟨⟨a, b1, b2⟩, c⟩⟩
theorem wth_iff {P : Nat → Nat → Int32} {nt nm no t : Nat} (hW : WF P nt nm no) (ht : t < nt) (k : Nat) : wth P nt nm t k ↔ (¬ P 1 t = 2 ∧ k < nt ∧ P 1 k = 2 ∧ abv P t k ∧ hpl P nm k) ∨ sc P 16 t k := by
  obtain ⟨hw, hM, hO⟩ := hW
  have h16 := hw.1
  by_cases hf : P 1 t = 2
  · have hs : P 2 t = -1 := (hw.2.2 t ht).2.2.1 hf
    constructor
    · rintro ⟨hk, h | ⟨h, -⟩⟩
      · exact Or.inr (Or.inl h)
      · exact absurd hf h
    · rintro (⟨h, -⟩ | h | ⟨u, hu, h, -⟩)
      · exact absurd hf h
      · exact ⟨by omega, Or.inl h⟩
      · rw [hs] at h; exact absurd h (nI_m1 (by omega))
  · rw [sc_iff hw 16 t k (by omega) ht hf]
    constructor
    · rintro ⟨hk, h | ⟨-, h1, h2⟩⟩
      · exact Or.inr ⟨Or.inl h.symm, by rw [h]; exact hf⟩
      · by_cases h3 : P 1 k = 2
        · rcases h1 with h1 | h1
          · rw [← h1] at h3; exact absurd h3 hf
          · exact Or.inl ⟨hf, hk, h3, h1, h2.elim (fun q => absurd h3 q) id⟩
        · exact Or.inr ⟨h1, h3⟩
    · rintro (⟨-, hk, h3, h1, h2⟩ | ⟨h1, h2⟩)
      · exact ⟨hk, Or.inr ⟨hf, Or.inr h1, Or.inr h2⟩⟩
      · have := und_le h1
        exact ⟨by omega, Or.inr ⟨hf, h1, Or.inl h2⟩⟩
theorem wth_le {P : Nat → Nat → Int32} {nt nm t k : Nat} (h : wth P nt nm t k) : k ≤ t := by
  rcases h with ⟨-, h | ⟨-, h, -⟩⟩
  · omega
  · exact und_le h
/-- types begin -/
theorem k_begin {P : Nat → Nat → Int32} {nt nm no o t : Nat} (hW : WF P nt nm no) (ho : o < 160) (ht : t < nt) {σ : SS} (hC : CI σ P nt nm no) : ∃ b x, p_X3_begin_0 (nI o) (nI t) σ = some (sL (sL σ 5 11 b) 25 o x) ∧ (∀ k, k < 64 → (lb b k = true ↔ lb (σ.2 5 11) k = true ∨ wth P nt nm t k)) ∧ ∀ j, j < 64 → (lb x j = true ↔ lb (σ.2 25 o) j = true ∨ (j < nm ∧ P 6 j = -1 ∧ ∃ k, wth P nt nm t k ∧ P 5 j = nI k)) := by
  obtain ⟨hw, hM, hO⟩ := id hW
  have h16 := hw.1
  obtain ⟨y, e1, e2⟩ := k_facesBegun hW hC ht
  obtain ⟨v, e3, e4⟩ := begin_15 (nm := nm) (no := no) (o := o) (t := t) hw hC.1 16 t 0 100000 y (by omega) ht (by omega) (by omega)
  have hv : ∀ k, k < 64 → (lb v k = true ↔ wth P nt nm t k) := fun k hk => by rw [e4 k hk, e2 k hk, wth_iff hW ht]
  have hC1 := kg_CI (kg_sL (S := sG) σ 11 (σ.2 5 11 ||| v) (by decide : 5 ∈ sG)) hC
  obtain ⟨x, e5, e6⟩ := begin_65 (o := o) (t := t) hM ho (by omega) v hC1.2.1 (t + 1) 0 100000 (σ.2 25 o) (by omega) (by omega)
  refine ⟨σ.2 5 11 ||| v, x, ?_, fun k hk => ?_, fun j hj => ?_⟩
  · unfold p_X3_begin_0
    rw [oc_s e1]
    refine Eq.trans e3 ?_
    unfold p_X3_begin_52
    rw [os_s, ← e5]
    rw [sL_id (z := sL σ 5 11 (σ.2 5 11 ||| v)) (k := 25) (j := o) (x := σ.2 25 o) rfl]
    rfl
  · rw [lb_or, Bool.or_eq_true, hv k hk]
  · rw [e6 j hj]
    refine or_congr Iff.rfl ⟨?_, ?_⟩
    · rintro ⟨k, -, h2, h3, h4⟩
      obtain ⟨q1, q2, q3⟩ := (start_iff hM hC.2.1 (show k < 16 by omega) hj).mp h4
      exact ⟨q1, q3, k, (hv k (by omega)).mp h3, q2⟩
    · rintro ⟨q1, q3, k, h3, q2⟩
      have hk := wth_le h3
      exact ⟨k, Nat.zero_le _, hk, (hv k (by omega)).mpr h3, (start_iff hM hC.2.1 (show k < 16 by omega) hj).mpr ⟨q1, q2, q3⟩⟩
