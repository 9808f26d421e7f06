/-! pure: findLeft, the members that hold the name, and which of them are left -/
theorem own_t {P : Nat → Nat → Int32} {nt nm m : Nat} (hm : wfM P nt nm) (h : m < nm) : ∃ t, t < nt ∧ P 5 m = nI t := by
  obtain ⟨⟨t, h1, h2, -⟩, -⟩ := hm.2.2.1 m h
  exact ⟨t, h1, h2⟩
theorem hold_iff {P : Nat → Nat → Int32} {nt nm t m f : Nat} {name : Int32} (hnt : nt ≤ 16) (hm : m < nm) (hf : f < nt) (h5 : P 5 m = nI f) : hold P nt nm t name m ↔ P 6 m = name ∧ pbs P m ∧ fab P nt t f := by
  constructor
  · rintro ⟨-, h1, h2, f', h3, h4, h6⟩
    have : f = f' := (nI_eq (by omega) (by omega)).mp (h5.symm.trans h4)
    subst this
    exact ⟨h1, h2, h6⟩
  · rintro ⟨h1, h2, h3⟩
    exact ⟨hm, h1, h2, f, hf, h5, h3⟩
theorem findLeft_59 {τ : SS} {nt nm t : Nat} (hw : wfT τ.1 nt) (hm : wfM τ.1 nt nm) (name : Int32) {s : SS} (hkp : kp sV τ s) (h23 : ∀ j, j < 16 → s.1 23 j = b2 (pb (fab τ.1 nt t j))) : ∀ (r k fuel : Nat) (g : Nat → Int32), k + r = 48 → r < fuel → (∀ j, j < k → g j = b2 (pb (hold τ.1 nt nm t name j))) →
    ∃ g', p_X8_findLeft_59 fuel name (nI k) (pI s 22 g) = p_X8_findLeft_147 100000 name 0 (pI s 22 g') ∧ ∀ j, j < 48 → g' j = b2 (pb (hold τ.1 nt nm t name j)) := by
  have h16 := hw.1
  have h48 := hm.1
  have hms := kp_wfM hkp sV14 hm
  intro r
  induction r with
  | zero =>
    intro k fuel g hk hf hg
    obtain ⟨f, rfl⟩ : ∃ f, fuel = f + 1 := ⟨fuel - 1, by omega⟩
    refine ⟨g, ?_, fun j hj => hg j (by omega)⟩
    rw [p_X8_findLeft_59]
    try dsimp only
    rw [if_pos (show (48 : Int32) ≤ nI k from nI_le (a := 48) (by omega) (by omega))]
  | succ r ih =>
    intro k fuel g hk hf hg
    obtain ⟨f, rfl⟩ : ∃ f, fuel = f + 1 := ⟨fuel - 1, by omega⟩
    have hk48 : k < 48 := by omega
    have go : ∀ x : Int32, (x = 0 ∨ x = 1) → x = b2 (pb (hold τ.1 nt nm t name k)) → ∃ g', p_X8_findLeft_138 (p_X8_findLeft_59 f) name (nI k) x (nI k) (pI s 22 g) = p_X8_findLeft_147 100000 name 0 (pI s 22 g') ∧ ∀ j, j < 48 → g' j = b2 (pb (hold τ.1 nt nm t name j)) := by
      intro x hx h4
      obtain ⟨g', q1, q2⟩ := ih (k + 1) f (upd g k x) (by omega) (by omega) (fun j hj => by
        unfold upd
        by_cases e : j = k
        · rw [if_pos e, e, h4]
        · rw [if_neg e]; exact hg j (by omega))
      refine ⟨g', ?_, q2⟩
      unfold p_X8_findLeft_138
      rw [oi_n hk48 (by decide), ob_ok hx, nI_clamp (show k < 2 ^ 31 by omega)]
      unfold os
      rw [pI_s, nI_1]
      exact q1
    have no : ¬ hold τ.1 nt nm t name k → ∃ g', p_X8_findLeft_101 (p_X8_findLeft_59 f) name (nI k) (pI s 22 g) = p_X8_findLeft_147 100000 name 0 (pI s 22 g') ∧ ∀ j, j < 48 → g' j = b2 (pb (hold τ.1 nt nm t name j)) := by
      intro hn
      unfold p_X8_findLeft_101 p_X8_findLeft_102
      rw [if_pos rfl]
      exact go 0 (Or.inl rfl) (by rw [pb_f.mpr hn]; rfl)
    rw [p_X8_findLeft_59]
    try dsimp only
    rw [if_neg (show ¬ (48 : Int32) ≤ nI k from nI_ge (b := 48) (by omega) (by omega)), pI_ne s g (by decide : (0 : Nat) ≠ 22), hms.2.1]
    by_cases hkn : k < nm
    · obtain ⟨fa, hfa, e5⟩ := own_t hm hkn
      have hh := hold_iff (t := t) (name := name) h16 hkn hfa e5
      rw [if_neg (nI_ge hkn (by omega)), oi_n hk48 (by decide), pI_ne s g (by decide : (6 : Nat) ≠ 22), pI_ne s g (by decide : (5 : Nat) ≠ 22), pI_ne s g (by decide : (23 : Nat) ≠ 22), nI_clamp (show k < 2 ^ 31 by omega), kp_c hkp sV14 (by decide) (by decide : 6 < 14), kp_c hkp sV14 (by decide) (by decide : 5 < 14)]
      by_cases h6 : τ.1 6 k = name
      · rw [if_pos h6, oi_n hk48 (by decide), e5, oi_n (show fa < 16 by omega) (by decide), nI_clamp (show fa < 2 ^ 31 by omega), h23 fa (by omega)]
        by_cases hfab : fab τ.1 nt t fa
        · rw [if_neg (fun q => by have := b2_0.mp q; rw [pb_t.mpr hfab] at this; cases this)]
          unfold p_X8_findLeft_102
          rw [if_neg (by decide), oi_n hk48 (by decide), oi_n hk48 (by decide), pI_ne s g (by decide : (7 : Nat) ≠ 22), nI_clamp (show k < 2 ^ 31 by omega), kp_c hkp sV14 (by decide) (by decide : 7 < 14)]
          by_cases h70 : τ.1 7 k = 0
          · rw [if_pos h70]
            exact go 1 (Or.inr rfl) (by rw [pb_t.mpr (hh.mpr ⟨h6, Or.inl h70, hfab⟩)]; rfl)
          · rw [if_neg h70]
            by_cases h71 : τ.1 7 k = 1
            · rw [if_pos h71]
              exact go 1 (Or.inr rfl) (by rw [pb_t.mpr (hh.mpr ⟨h6, Or.inr h71, hfab⟩)]; rfl)
            · rw [if_neg h71]
              exact go 0 (Or.inl rfl) (by rw [pb_f.mpr (fun q => (hh.mp q).2.1.elim h70 h71)]; rfl)
        · rw [if_pos (b2_0.mpr (pb_f.mpr hfab))]
          exact no (fun q => hfab (hh.mp q).2.2)
      · rw [if_neg h6]
        exact no (fun q => h6 (hh.mp q).1)
    · rw [if_pos (nI_le (by omega) (by omega))]
      exact no (fun q => hkn q.1)
/-- o hides m -/
def hid (P : Nat → Nat → Int32) (nt nm t : Nat) (name : Int32) (m o : Nat) : Prop := hold P nt nm t name o ∧ ∃ f g, f < nt ∧ g < nt ∧ P 5 m = nI f ∧ P 5 o = nI g ∧ ¬ g = f ∧ und P g f
theorem lft_hid {P : Nat → Nat → Int32} {nt nm t m : Nat} {name : Int32} : lft P nt nm t name m ↔ hold P nt nm t name m ∧ ∀ o, o < nm → ¬ hid P nt nm t name m o := by
  constructor
  · rintro ⟨h1, h2⟩
    exact ⟨h1, fun o _ h => h2 ⟨o, h.1, h.2⟩⟩
  · rintro ⟨h1, h2⟩
    exact ⟨h1, fun ⟨o, h3, h4⟩ => h2 o h3.1 ⟨h3, h4⟩⟩
theorem findLeft_166 (k147 : Int32 → Int32 → SS → Option SS) {τ : SS} {nt nm t : Nat} (hw : wfT τ.1 nt) (hm : wfM τ.1 nt nm) (name : Int32) {m : Nat} (hmn : m < nm) : ∀ (r o fuel : Nat) (s : SS) (v4 : Int32), o + r = nm → r < fuel → kp sV τ s → okU s.1 nt → (∀ j, j < 16 → s.1 23 j = b2 (pb (fab τ.1 nt t j))) → v4 = b2 (pb (hold τ.1 nt nm t name m ∧ ∀ o', o' < o → ¬ hid τ.1 nt nm t name m o')) →
    ∃ s', p_X8_findLeft_166 k147 fuel name (nI m) v4 (nI o) s = k147 name (nI (m + 1)) (sI s' 22 m (b2 (pb (lft τ.1 nt nm t name m)))) ∧ kp sU s s' ∧ okU s'.1 nt := by
  have h16 := hw.1
  have h48 := hm.1
  have h288 : ∀ (s : SS) (v4 : Int32), v4 = b2 (pb (lft τ.1 nt nm t name m)) → p_X8_findLeft_288 k147 name (nI m) v4 s = k147 name (nI (m + 1)) (sI s 22 m (b2 (pb (lft τ.1 nt nm t name m)))) := by
    intro s v4 hv
    unfold p_X8_findLeft_288
    rw [oi_n (show m < 48 by omega) (by decide), hv, ob_ok (b2_01 _), nI_clamp (show m < 2 ^ 31 by omega)]
    unfold os
    rw [nI_1]
  intro r
  induction r with
  | zero =>
    intro o fuel s v4 ho hf hkp hu h23 hv
    obtain ⟨f, rfl⟩ : ∃ f, fuel = f + 1 := ⟨fuel - 1, by omega⟩
    have e : o = nm := by omega
    subst e
    refine ⟨s, ?_, kp_rf sU s, hu⟩
    rw [p_X8_findLeft_166]
    try dsimp only
    rw [(kp_wfM hkp sV14 hm).2.1, if_pos (nI_le (Nat.le_refl _) (by omega))]
    exact h288 s v4 (by rw [hv]; congr 2; exact propext lft_hid.symm)
  | succ r ih =>
    intro o fuel s v4 ho hf hkp hu h23 hv
    obtain ⟨f, rfl⟩ : ∃ f, fuel = f + 1 := ⟨fuel - 1, by omega⟩
    have hon : o < nm := by omega
    rw [p_X8_findLeft_166]
    try dsimp only
    rw [(kp_wfM hkp sV14 hm).2.1, if_neg (nI_ge hon (by omega))]
    by_cases hp : hold τ.1 nt nm t name m ∧ ∀ o', o' < o → ¬ hid τ.1 nt nm t name m o'
    · have hv1 : v4 = 1 := by rw [hv, pb_t.mpr hp]; rfl
      rw [if_neg (by rw [hv1]; decide)]
      -- the next one, with the answer for o
      have go : ∀ (s1 : SS) (x : Int32), kp sU s s1 → okU s1.1 nt → x = b2 (pb (¬ hid τ.1 nt nm t name m o)) → ∃ s', p_X8_findLeft_280 k147 (p_X8_findLeft_166 k147 f) name (nI m) (nI o) x s1 = k147 name (nI (m + 1)) (sI s' 22 m (b2 (pb (lft τ.1 nt nm t name m)))) ∧ kp sU s s' ∧ okU s'.1 nt := by
        intro s1 x h1 h2 h3
        obtain ⟨s', q1, q2, q3⟩ := ih (o + 1) f s1 x (by omega) (by omega) (kp_tr hkp (kp_up sUV h1)) h2 (fun j hj => by rw [h1.2.1 23 (by decide) (by decide)]; exact h23 j hj) (by
          rw [h3]
          congr 2
          apply propext
          constructor
          · intro h
            exact ⟨hp.1, fun o' ho' => by
              by_cases e : o' = o
              · rw [e]; exact h
              · exact hp.2 o' (by omega)⟩
          · intro h
            exact h.2 o (by omega))
        refine ⟨s', ?_, kp_tr h1 q2, q3⟩
        unfold p_X8_findLeft_280
        rw [nI_1]
        exact q1
      have go1 : ¬ hid τ.1 nt nm t name m o → ∀ s1 : SS, kp sU s s1 → okU s1.1 nt → ∃ s', p_X8_findLeft_275 k147 (p_X8_findLeft_166 k147 f) name (nI m) (nI o) s1 = k147 name (nI (m + 1)) (sI s' 22 m (b2 (pb (lft τ.1 nt nm t name m)))) ∧ kp sU s s' ∧ okU s'.1 nt := by
        intro hn s1 h1 h2
        exact go s1 1 h1 h2 (by rw [pb_t.mpr hn]; rfl)
      have no : ¬ hold τ.1 nt nm t name o → ∃ s', p_X8_findLeft_231 k147 (p_X8_findLeft_166 k147 f) name (nI m) (nI o) s = k147 name (nI (m + 1)) (sI s' 22 m (b2 (pb (lft τ.1 nt nm t name m)))) ∧ kp sU s s' ∧ okU s'.1 nt := by
        intro hn
        unfold p_X8_findLeft_231 p_X8_findLeft_232
        rw [if_pos rfl]
        exact go1 (fun q => hn q.1) s (kp_rf sU s) hu
      obtain ⟨fo, hfo, e5⟩ := own_t hm hon
      obtain ⟨fm, hfm, e5m⟩ := own_t hm hmn
      have hh := hold_iff (t := t) (name := name) h16 hon hfo e5
      have yes : hold τ.1 nt nm t name o → ∃ s', p_X8_findLeft_227 k147 (p_X8_findLeft_166 k147 f) name (nI m) (nI o) s = k147 name (nI (m + 1)) (sI s' 22 m (b2 (pb (lft τ.1 nt nm t name m)))) ∧ kp sU s s' ∧ okU s'.1 nt := by
        intro hy
        unfold p_X8_findLeft_227 p_X8_findLeft_232
        rw [if_neg (by decide), oi_n (show o < 48 by omega) (by decide), oi_n (show m < 48 by omega) (by decide), nI_clamp (show o < 2 ^ 31 by omega), nI_clamp (show m < 2 ^ 31 by omega), kp_c hkp sV14 (by decide) (by decide : 5 < 14), e5, e5m]
        by_cases hof : fo = fm
        · rw [if_pos (by rw [hof])]
          refine go1 ?_ s (kp_rf sU s) hu
          rintro ⟨-, f', g', hf', hg', q1, q2, q3, -⟩
          have a1 : fm = f' := (nI_eq (by omega) (by omega)).mp (e5m.symm.trans q1)
          have a2 : fo = g' := (nI_eq (by omega) (by omega)).mp (e5.symm.trans q2)
          omega
        · rw [if_neg (fun q => hof ((nI_eq (by omega) (by omega)).mp q)), oi_n (show o < 48 by omega) (by decide), oi_n (show m < 48 by omega) (by decide)]
          obtain ⟨s1, w1, w2, w3, w4⟩ := m_isUnder (kp_wfT hkp sV14 hw) hu hfo (show fm < 16 by omega)
          rw [oc_s w1, kp_und hkp sV14]
          by_cases hud : und τ.1 fo fm
          · rw [if_neg (fun q => by have := b2_0.mp q; rw [pb_t.mpr hud] at this; cases this)]
            exact go s1 0 w2 (Or.inr ⟨w3, w4⟩) (by rw [pb_f.mpr (fun q : ¬ hid τ.1 nt nm t name m o => q ⟨hy, fm, fo, hfm, hfo, e5m, e5, hof, hud⟩)]; rfl)
          · rw [if_pos (b2_0.mpr (pb_f.mpr hud))]
            refine go1 ?_ s1 w2 (Or.inr ⟨w3, w4⟩)
            rintro ⟨-, f', g', hf', hg', q1, q2, q3, q4⟩
            have a1 : fm = f' := (nI_eq (by omega) (by omega)).mp (e5m.symm.trans q1)
            have a2 : fo = g' := (nI_eq (by omega) (by omega)).mp (e5.symm.trans q2)
            subst a1; subst a2
            exact hud q4
      rw [oi_n (show o < 48 by omega) (by decide), nI_clamp (show o < 2 ^ 31 by omega), kp_c hkp sV14 (by decide) (by decide : 6 < 14), kp_c hkp sV14 (by decide) (by decide : 5 < 14), kp_c hkp sV14 (by decide) (by decide : 7 < 14)]
      by_cases h6 : τ.1 6 o = name
      · rw [if_pos h6, oi_n (show o < 48 by omega) (by decide), e5, oi_n (show fo < 16 by omega) (by decide), nI_clamp (show fo < 2 ^ 31 by omega), h23 fo (by omega)]
        by_cases hfab : fab τ.1 nt t fo
        · rw [if_neg (fun q => by have := b2_0.mp q; rw [pb_t.mpr hfab] at this; cases this), oi_n (show o < 48 by omega) (by decide), oi_n (show o < 48 by omega) (by decide)]
          by_cases h70 : τ.1 7 o = 0
          · rw [if_pos h70]
            exact yes (hh.mpr ⟨h6, Or.inl h70, hfab⟩)
          · rw [if_neg h70]
            by_cases h71 : τ.1 7 o = 1
            · rw [if_pos h71]
              exact yes (hh.mpr ⟨h6, Or.inr h71, hfab⟩)
            · rw [if_neg h71]
              exact no (fun q => (hh.mp q).2.1.elim h70 h71)
        · rw [if_pos (b2_0.mpr (pb_f.mpr hfab))]
          exact no (fun q => hfab (hh.mp q).2.2)
      · rw [if_neg h6]
        exact no (fun q => h6 (hh.mp q).1)
    · have hv0 : v4 = 0 := by rw [hv, pb_f.mpr hp]; rfl
      rw [if_pos hv0]
      refine ⟨s, h288 s v4 ?_, kp_rf sU s, hu⟩
      rw [hv0, pb_f.mpr (fun q => hp ⟨(lft_hid.mp q).1, fun o' ho' => (lft_hid.mp q).2 o' (by omega)⟩)]
      rfl
theorem findLeft_147 {τ : SS} {nt nm t : Nat} (hw : wfT τ.1 nt) (hm : wfM τ.1 nt nm) (name : Int32) : ∀ (r k fuel : Nat) (s : SS), k + r = nm → r < fuel → kp sV τ s → okU s.1 nt → (∀ j, j < 16 → s.1 23 j = b2 (pb (fab τ.1 nt t j))) → (∀ j, j < k → s.1 22 j = b2 (pb (lft τ.1 nt nm t name j))) → (∀ j, k ≤ j → j < 48 → s.1 22 j = b2 (pb (hold τ.1 nt nm t name j))) →
    ∃ s', p_X8_findLeft_147 fuel name (nI k) s = some s' ∧ kp sV τ s' ∧ okU s'.1 nt ∧ ∀ j, j < 48 → s'.1 22 j = b2 (pb (lft τ.1 nt nm t name j)) := by
  have h48 := hm.1
  intro r
  induction r with
  | zero =>
    intro k fuel s hk hf hkp hu h23 hl hh
    obtain ⟨f, rfl⟩ : ∃ f, fuel = f + 1 := ⟨fuel - 1, by omega⟩
    refine ⟨s, ?_, hkp, hu, fun j hj => ?_⟩
    · rw [p_X8_findLeft_147]
      try dsimp only
      rw [(kp_wfM hkp sV14 hm).2.1, if_pos (nI_le (by omega) (by omega))]
    · by_cases h : j < k
      · exact hl j h
      · rw [hh j (by omega) hj, pb_f.mpr (fun q : hold τ.1 nt nm t name j => by have := q.1; omega), pb_f.mpr (fun q : lft τ.1 nt nm t name j => by have := q.1.1; omega)]
  | succ r ih =>
    intro k fuel s hk hf hkp hu h23 hl hh
    obtain ⟨f, rfl⟩ : ∃ f, fuel = f + 1 := ⟨fuel - 1, by omega⟩
    obtain ⟨s1, e1, e2, e3⟩ := findLeft_166 (p_X8_findLeft_147 f) hw hm (t := t) name (show k < nm by omega) nm 0 100000 s (s.1 22 k) (by omega) (by omega) hkp hu h23 (by
      rw [hh k (Nat.le_refl _) (by omega)]
      congr 2
      exact propext ⟨fun h => ⟨h, fun o' ho' => absurd ho' (Nat.not_lt_zero _)⟩, fun h => h.1⟩)
    obtain ⟨s', q1, q2, q3, q4⟩ := ih (k + 1) f (sI s1 22 k (b2 (pb (lft τ.1 nt nm t name k)))) (by omega) (by omega) (kp_tr hkp (kp_tr (kp_up sUV e2) (by rw [sI_p]; exact kp_pI s1 _ (by decide) (by decide)))) (by
        rcases e3 with e3 | ⟨e3, e4⟩
        · exact Or.inl e3
        · exact Or.inr ⟨e3, e4⟩) (fun j hj => by rw [sI_p, pI_ne _ _ (by decide : (23 : Nat) ≠ 22), e2.2.1 23 (by decide) (by decide)]; exact h23 j hj) (fun j hj => by
        rw [sI_p, pI_at]
        unfold upd
        by_cases e : j = k
        · rw [if_pos e, e]
        · rw [if_neg e, e2.2.1 22 (by decide) (by decide)]; exact hl j (by omega)) (fun j hj1 hj2 => by
        rw [sI_p, pI_at]
        unfold upd
        rw [if_neg (by omega), e2.2.1 22 (by decide) (by decide)]
        exact hh j (by omega) hj2)
    refine ⟨s', ?_, q2, q3, q4⟩
    rw [p_X8_findLeft_147]
    try dsimp only
    rw [(kp_wfM hkp sV14 hm).2.1, if_neg (nI_ge (by omega) (by omega)), oi_n (show k < 48 by omega) (by decide), nI_clamp (show k < 2 ^ 31 by omega), ← q1]
    exact e1
theorem m_findLeft {τ : SS} {nt nm t : Nat} (hw : wfT τ.1 nt) (hm : wfM τ.1 nt nm) (ho : okU τ.1 nt) (ht : t < nt) (name : Int32) : ∃ τ', p_X8_findLeft_0 (nI t) name τ = some τ' ∧ kp sV τ τ' ∧ okU τ'.1 nt ∧ ∀ j, j < 48 → τ'.1 22 j = b2 (pb (lft τ.1 nt nm t name j)) := by
  have h48 := hm.1
  obtain ⟨s, e1, e2, e3, e4⟩ := findLeft_2 hw ht name 16 0 100000 τ (by omega) (by omega) (kp_rf sV τ) ho (fun j hj => absurd hj (Nat.not_lt_zero _))
  obtain ⟨g, q1, q2⟩ := findLeft_59 hw hm name e2 e4 48 0 100000 (s.1 22) (by omega) (by omega) (fun j hj => absurd hj (Nat.not_lt_zero _))
  rw [pI_self] at q1
  obtain ⟨s', w1, w2, w3, w4⟩ := findLeft_147 hw hm (t := t) name nm 0 100000 (pI s 22 g) (by omega) (by omega) (kp_tr e2 (kp_pI s g (by decide) (by decide))) (by
      rcases e3 with e3 | ⟨e3, e5⟩
      · exact Or.inl e3
      · exact Or.inr ⟨e3, e5⟩) (fun j hj => by rw [pI_ne _ _ (by decide : (23 : Nat) ≠ 22)]; exact e4 j hj) (fun j hj => absurd hj (Nat.not_lt_zero _)) (fun j _ hj => by rw [pI_at]; exact q2 j hj)
  exact ⟨s', e1.trans (q1.trans w1), w2, w3, w4⟩
