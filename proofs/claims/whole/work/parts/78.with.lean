/-! pure: the reference: what is begun with a type -/
theorem hasPlain_4 {τ : SS} {nm k : Nat} (h5 : τ.1 0 5 = nI nm) (h48 : nm ≤ 48) : ∀ (r m fuel : Nat) (v : Int32), m + r = nm → r < fuel → v = b2 (pb (∃ m', m' < m ∧ τ.1 5 m' = nI k ∧ τ.1 7 m' = 0)) → p_X8_hasPlain_4 τ fuel (nI k) v (nI m) = some (b2 (pb (hpl τ.1 nm k))) := by
  intro r
  induction r with
  | zero =>
    intro m fuel v hm hf hv
    obtain ⟨g, rfl⟩ : ∃ g, fuel = g + 1 := ⟨fuel - 1, by omega⟩
    have e : m = nm := by omega
    subst e
    rw [p_X8_hasPlain_4]
    try dsimp only
    rw [h5, if_pos (nI_le (Nat.le_refl _) (by omega)), hv, ob_ok (b2_01 _)]
    rfl
  | succ r ih =>
    intro m fuel v hm hf hv
    obtain ⟨g, rfl⟩ : ∃ g, fuel = g + 1 := ⟨fuel - 1, by omega⟩
    rw [p_X8_hasPlain_4]
    try dsimp only
    rw [h5, if_neg (nI_ge (by omega) (by omega))]
    unfold p_X8_hasPlain_35 p_X8_hasPlain_39 p_X8_hasPlain_40
    rw [oi_n (show m < 48 by omega) (by decide), oi_n (show m < 48 by omega) (by decide), nI_clamp (show m < 2 ^ 31 by omega), nI_1]
    have yes : (∃ m', m' < m + 1 ∧ τ.1 5 m' = nI k ∧ τ.1 7 m' = 0) → p_X8_hasPlain_4 τ g (nI k) 1 (nI (m + 1)) = some (b2 (pb (hpl τ.1 nm k))) := fun h => ih (m + 1) g 1 (by omega) (by omega) (by rw [pb_t.mpr h]; rfl)
    by_cases hp : ∃ m', m' < m ∧ τ.1 5 m' = nI k ∧ τ.1 7 m' = 0
    · rw [hv, pb_t.mpr hp, if_neg (show ¬ b2 true = 0 by decide)]
      obtain ⟨m', h1, h2⟩ := hp
      exact yes ⟨m', by omega, h2⟩
    · have no : ¬ (τ.1 5 m = nI k ∧ τ.1 7 m = 0) → p_X8_hasPlain_4 τ g (nI k) 0 (nI (m + 1)) = some (b2 (pb (hpl τ.1 nm k))) := fun h => ih (m + 1) g 0 (by omega) (by omega) (by
        rw [pb_f.mpr]
        · rfl
        · rintro ⟨m', h1, h2⟩
          by_cases e : m' = m
          · subst e; exact h h2
          · exact hp ⟨m', by omega, h2⟩)
      rw [hv, pb_f.mpr hp, if_pos (show b2 false = 0 from rfl)]
      by_cases e1 : τ.1 5 m = nI k
      · rw [if_pos e1]
        by_cases e2 : τ.1 7 m = 0
        · rw [if_pos e2]
          exact yes ⟨m, by omega, e1, e2⟩
        · rw [if_neg e2]
          exact no (fun q => e2 q.2)
      · rw [if_neg e1]
        exact no (fun q => e1 q.1)
theorem m_hasPlain {τ : SS} {nt nm : Nat} (hM : wfM τ.1 nt nm) (k : Nat) : p_X8_hasPlain_0 τ (nI k) = some (b2 (pb (hpl τ.1 nm k))) :=
  hasPlain_4 hM.2.1 hM.1 nm 0 100000 0 (by omega) (by have := hM.1; omega) (by
    rw [pb_f.mpr]
    · rfl
    · rintro ⟨m', h, _⟩; omega)
def sW : List Nat := [20, 21, 24]
theorem sW14 : ∀ x ∈ sW, 14 ≤ x := by decide
theorem sWX : ∀ x ∈ sW, x ∈ sX := by decide
theorem sVX : ∀ x ∈ sV, x ∈ sX := by decide
theorem sUX : ∀ x ∈ sU, x ∈ sX := by decide
theorem sUW : ∀ x ∈ sU, x ∈ sW := by decide
theorem kp_sI {S : List Nat} (τ : SS) {k : Nat} (j : Nat) (x : Int32) (hk : k ∈ S) (h0 : k ≠ 0) : kp S τ (sI τ k j x) := by rw [sI_p]; exact kp_pI τ _ hk h0
theorem okU_s {τ : SS} {nt k : Nat} (j : Nat) (x : Int32) (ho : okU τ.1 nt) (h14 : 5 ≤ k) (h21 : k ≠ 21) : okU (sI τ k j x).1 nt := by
  refine okU_c ho ?_ ?_ (und_c ?_ ?_ ?_)
  · rw [sI_p, pI_ne _ _ (by omega)]
  · rw [sI_p, pI_ne _ _ (by omega)]
  · rw [sI_p, pI_ne _ _ (by omega)]
  · rw [sI_p, pI_ne _ _ (by omega)]
  · rw [sI_p, pI_ne _ _ (by omega)]
theorem findWith_32 {τ : SS} {nt nm t : Nat} (hw : wfT τ.1 nt) (hM : wfM τ.1 nt nm) (ht : t < nt) : ∀ (r k fuel : Nat) (s : SS), k + r = nt → r < fuel → kp sW τ s → okU s.1 nt → (∀ j, j < 16 → s.1 24 j = b2 (pb (j = t ∨ (j < k ∧ wth τ.1 nt nm t j)))) →
    ∃ s', p_X8_findWith_32 fuel (nI t) (nI k) s = some s' ∧ kp sW τ s' ∧ okU s'.1 nt ∧ ∀ j, j < 16 → s'.1 24 j = b2 (pb (wth τ.1 nt nm t j)) := by
  have h16 := hw.1
  have ht16 : t < 16 := by omega
  intro r
  induction r with
  | zero =>
    intro k fuel s hk hf hkp ho hz
    obtain ⟨f, rfl⟩ : ∃ f, fuel = f + 1 := ⟨fuel - 1, by omega⟩
    have e : k = nt := by omega
    subst e
    refine ⟨s, ?_, hkp, ho, fun j hj => ?_⟩
    · rw [p_X8_findWith_32]
      try dsimp only
      rw [(kp_wfT hkp sW14 hw).2.1, if_pos (nI_le (Nat.le_refl _) (by omega))]
      rfl
    · rw [hz j hj]
      congr 2
      refine propext ⟨fun h => h.elim (fun e => by rw [e]; exact ⟨ht, Or.inl rfl⟩) (fun h => h.2), fun h => Or.inr ⟨h.1, h⟩⟩
  | succ r ih =>
    intro k fuel s hk hf hkp ho hz
    obtain ⟨f, rfl⟩ : ∃ f, fuel = f + 1 := ⟨fuel - 1, by omega⟩
    have hkn : k < nt := by omega
    have hk16 : k < 16 := by omega
    have hws := kp_wfT hkp sW14 hw
    have hMs := kp_wfM hkp sW14 hM
    rw [p_X8_findWith_32]
    try dsimp only
    rw [hws.2.1, if_neg (nI_ge hkn (by omega)), oi_n ht16 (by decide), nI_clamp (show t < 2 ^ 31 by omega), kp_c hkp sW14 (by decide) (by decide)]
    by_cases h2 : τ.1 1 t = 2
    · rw [if_pos h2]
      refine ⟨s, rfl, hkp, ho, fun j hj => ?_⟩
      rw [hz j hj]
      congr 2
      refine propext ⟨fun h => h.elim (fun e => by rw [e]; exact ⟨ht, Or.inl rfl⟩) (fun h => h.2), fun h => h.2.elim Or.inl (fun q => absurd h2 q.1)⟩
    · rw [if_neg h2, oi_n hk16 (by decide), nI_clamp (show k < 2 ^ 31 by omega)]
      -- a store at k, and on
      have go : ∀ (s1 : SS) (x : Int32), (x = 0 ∨ x = 1) → kp sW τ s1 → okU s1.1 nt → s1.1 24 = s.1 24 → x = b2 (pb (k = t ∨ wth τ.1 nt nm t k)) →
          ∃ s', p_X8_findWith_96 (p_X8_findWith_32 f) (nI t) (nI k) x (nI k) s1 = some s' ∧ kp sW τ s' ∧ okU s'.1 nt ∧ ∀ j, j < 16 → s'.1 24 j = b2 (pb (wth τ.1 nt nm t j)) := by
        intro s1 x hx h1 h2 h3 h4
        obtain ⟨s', q1, q2, q3, q4⟩ := ih (k + 1) f (sI s1 24 k x) (by omega) (by omega) (kp_tr h1 (kp_sI s1 k x (by decide) (by decide))) (okU_s k x h2 (by decide) (by decide)) (fun j hj => by
            rw [sI_p, pI_at]
            by_cases e : j = k
            · rw [e, upd_at, h4]
              congr 2
              exact propext (or_congr Iff.rfl ⟨fun h => ⟨by omega, h⟩, fun h => h.2⟩)
            · rw [upd_ne e, h3, hz j hj]
              congr 2
              exact propext (or_congr Iff.rfl ⟨fun h => ⟨by omega, h.2⟩, fun h => ⟨by omega, h.2⟩⟩))
        refine ⟨s', ?_, q2, q3, q4⟩
        unfold p_X8_findWith_96
        rw [oi_n hk16 (by decide), ob_ok hx, nI_clamp (show k < 2 ^ 31 by omega), os_s, nI_1]
        exact q1
      by_cases hkt : k = t
      · have e24 : s.1 24 k = 1 := by rw [hz k hk16, pb_t.mpr (Or.inl hkt)]; rfl
        rw [e24, if_neg n10]
        exact go s 1 (Or.inr rfl) hkp ho rfl (by rw [pb_t.mpr (Or.inl hkt)]; rfl)
      · have e24 : s.1 24 k = 0 := by
          rw [hz k hk16, pb_f.mpr]
          · rfl
          · rintro (h | h)
            · exact hkt h
            · omega
        rw [e24, if_pos rfl]
        obtain ⟨s1, e1, e2, e3, e4⟩ := m_isUnder hws ho ht hk16
        rw [oc_s e1, kp_und hkp sW14]
        have h24 : s1.1 24 = s.1 24 := e2.2.1 24 (by decide) (by decide)
        have h1 : kp sW τ s1 := kp_tr hkp (kp_up sUW e2)
        have ho1 : okU s1.1 nt := Or.inr ⟨e3, e4⟩
        by_cases hu : und τ.1 t k
        · rw [pb_t.mpr hu, if_neg (show ¬ b2 true = 0 by decide), oi_n hk16 (by decide), kp_c h1 sW14 (by decide) (by decide)]
          by_cases hk2 : τ.1 1 k = 2
          · have hp : p_X8_hasPlain_0 s1 (nI k) = some (b2 (pb (hpl τ.1 nm k))) := by
              rw [m_hasPlain (kp_wfM h1 sW14 hM) k]
              congr 3
              unfold hpl
              rw [kp_c h1 sW14 (by decide) (by decide), kp_c h1 sW14 (by decide) (by decide)]
            rw [if_pos hk2, oc_s hp]
            by_cases hh : hpl τ.1 nm k
            · rw [pb_t.mpr hh, if_neg (show ¬ b2 true = 0 by decide)]
              exact go s1 1 (Or.inr rfl) h1 ho1 h24 (by rw [pb_t.mpr (Or.inr ⟨hkn, Or.inr ⟨h2, hu, Or.inr hh⟩⟩)]; rfl)
            · rw [pb_f.mpr hh, if_pos (show b2 false = 0 from rfl)]
              refine go s1 0 (Or.inl rfl) h1 ho1 h24 ?_
              rw [pb_f.mpr]
              · rfl
              · rintro (h | ⟨-, h | ⟨-, -, h | h⟩⟩)
                · exact hkt h
                · exact hkt h
                · exact h hk2
                · exact hh h
          · rw [if_neg hk2]
            exact go s1 1 (Or.inr rfl) h1 ho1 h24 (by rw [pb_t.mpr (Or.inr ⟨hkn, Or.inr ⟨h2, hu, Or.inl hk2⟩⟩)]; rfl)
        · rw [pb_f.mpr hu, if_pos (show b2 false = 0 from rfl)]
          refine go s1 0 (Or.inl rfl) h1 ho1 h24 ?_
          rw [pb_f.mpr]
          · rfl
          · rintro (h | ⟨-, h | ⟨-, h, -⟩⟩)
            · exact hkt h
            · exact hkt h
            · exact hu h
theorem findWith_2 {τ : SS} {t : Nat} : ∀ (r k fuel : Nat) (f : Nat → Int32), k + r = 16 → r < fuel → t < 16 → (∀ j, j < k → f j = b2 (pb (j = t))) →
    ∃ f', p_X8_findWith_2 fuel (nI t) (nI k) (pI τ 24 f) = p_X8_findWith_32 100000 (nI t) 0 (pI τ 24 f') ∧ ∀ j, j < 16 → f' j = b2 (pb (j = t)) := by
  intro r
  induction r with
  | zero =>
    intro k fuel f hk hf ht hz
    obtain ⟨g, rfl⟩ : ∃ g, fuel = g + 1 := ⟨fuel - 1, by omega⟩
    refine ⟨f, ?_, fun j hj => hz j (by omega)⟩
    rw [p_X8_findWith_2]
    try dsimp only
    rw [if_pos (show (16 : Int32) ≤ nI k from nI_le (a := 16) (by omega) (by omega))]
  | succ r ih =>
    intro k fuel f hk hf ht hz
    obtain ⟨g, rfl⟩ : ∃ g, fuel = g + 1 := ⟨fuel - 1, by omega⟩
    obtain ⟨f', e1, e2⟩ := ih (k + 1) g (upd f k (b2 (pb (k = t)))) (by omega) (by omega) ht (fun j hj => by
      by_cases e : j = k
      · rw [e, upd_at]
      · rw [upd_ne e]; exact hz j (by omega))
    refine ⟨f', ?_, e2⟩
    rw [p_X8_findWith_2]
    try dsimp only
    rw [if_neg (show ¬ (16 : Int32) ≤ nI k from nI_ge (b := 16) (by omega) (by omega))]
    have key : ∀ x : Int32, (x = 0 ∨ x = 1) → p_X8_findWith_23 (p_X8_findWith_2 g) (nI t) (nI k) x (nI k) (pI τ 24 f) = p_X8_findWith_2 g (nI t) (nI (k + 1)) (pI τ 24 (upd f k x)) := by
      intro x hx
      unfold p_X8_findWith_23
      rw [oi_n (show k < 16 by omega) (by decide), ob_ok hx, nI_clamp (show k < 2 ^ 31 by omega), os_s, pI_s, nI_1]
    by_cases e : k = t
    · rw [if_pos (by rw [e]), key 1 (Or.inr rfl), ← e1, pb_t.mpr e]
      rfl
    · rw [if_neg (fun q => e ((nI_eq (by omega) (by omega)).mp q)), key 0 (Or.inl rfl), ← e1, pb_f.mpr e]
      rfl
theorem m_findWith {τ : SS} {nt nm t : Nat} (hw : wfT τ.1 nt) (hM : wfM τ.1 nt nm) (ho : okU τ.1 nt) (ht : t < nt) : ∃ τ', p_X8_findWith_0 (nI t) τ = some τ' ∧ kp sW τ τ' ∧ okU τ'.1 nt ∧ ∀ j, j < 16 → τ'.1 24 j = b2 (pb (wth τ.1 nt nm t j)) := by
  have h16 := hw.1
  obtain ⟨f', e1, e2⟩ := findWith_2 (τ := τ) (t := t) 16 0 100000 (τ.1 24) (by omega) (by omega) (by omega) (fun j hj => by omega)
  rw [pI_self] at e1
  have hk : kp sW τ (pI τ 24 f') := kp_pI τ f' (by decide) (by decide)
  have hoo : okU (pI τ 24 f').1 nt := okU_c ho (by rw [pI_ne _ _ (by decide)]) (by rw [pI_ne _ _ (by decide)]) (kp_und hk sW14)
  obtain ⟨s', q1, q2, q3, q4⟩ := findWith_32 hw hM ht nt 0 100000 (pI τ 24 f') (by omega) (by omega) hk hoo (fun j hj => by
    rw [pI_at, e2 j hj]
    congr 2
    exact propext ⟨Or.inl, fun h => h.elim id (fun h => by omega)⟩)
  exact ⟨s', e1.trans q1, q2, q3, q4⟩
/-- what beginning a type brings -/
def bk (P : Nat → Nat → Int32) (nm o k : Nat) : G3 := fun q i j => (q = 2 ∧ i = k ∧ j = 0) ∨ ∃ s, s < nm ∧ P 5 s = nI k ∧ P 6 s = -1 ∧ ((q = 4 ∧ i = o ∧ j = s) ∨ (q = 0 ∧ i = s ∧ j = 0))
/-- with the members that it comes to -/
def rch (o : Nat) (E : G3) : G3 := fun q i j => E q i j ∨ (q = 0 ∧ j = 0 ∧ E 4 o i)
theorem bk_all {P : Nat → Nat → Int32} {nt nm o t q i j : Nat} : (∃ k, k < nt ∧ wth P nt nm t k ∧ bk P nm o k q i j) ↔ rch o (beg P nt nm o t) q i j := by
  constructor
  · rintro ⟨k, hk, hw, ⟨h1, h2, h3⟩ | ⟨s, h1, h2, h3, ⟨h4, h5, h6⟩ | ⟨h4, h5, h6⟩⟩⟩
    · exact Or.inl ⟨k, hw, Or.inl ⟨h1, h2, h3⟩⟩
    · exact Or.inl ⟨k, hw, Or.inr ⟨h4, h5, by rw [h6]; exact h1, by rw [h6]; exact h2, by rw [h6]; exact h3⟩⟩
    · exact Or.inr ⟨h4, h6, k, hw, Or.inr ⟨rfl, rfl, by rw [h5]; exact h1, by rw [h5]; exact h2, by rw [h5]; exact h3⟩⟩
  · rintro (⟨k, hw, ⟨h1, h2, h3⟩ | ⟨h1, h2, h3, h4, h5⟩⟩ | ⟨h0, h0', k, hw, ⟨h1, -⟩ | ⟨-, -, h3, h4, h5⟩⟩)
    · exact ⟨k, hw.1, hw, Or.inl ⟨h1, h2, h3⟩⟩
    · exact ⟨k, hw.1, hw, Or.inr ⟨j, h3, h4, h5, Or.inl ⟨h1, h2, rfl⟩⟩⟩
    · cases h1
    · exact ⟨k, hw.1, hw, Or.inr ⟨i, h3, h4, h5, Or.inr ⟨h0, rfl, h0'⟩⟩⟩
theorem beginBy_7 {P : Nat → Nat → Int32} {nt nm no o t : Nat} (hW : WF P nt nm no) (ho : o < 160) {τ : SS} (h24 : ∀ j, j < 16 → τ.1 24 j = b2 (pb (wth P nt nm t j))) : ∀ (r k fuel : Nat) (s : SS), k + r = nt → r < fuel → gr P nt (fun q i j => ∃ k', k' < k ∧ wth P nt nm t k' ∧ bk P nm o k' q i j) (τ.1 19) τ s → s.1 24 = τ.1 24 →
    ∃ s', p_X8_beginBy_7 fuel (nI o) (nI k) s = some s' ∧ gr P nt (rch o (beg P nt nm o t)) (τ.1 19) τ s' := by
  have h16 := hW.1.1
  have h48 := hW.2.1.1
  intro r
  induction r with
  | zero =>
    intro k fuel s hk hf hg _
    obtain ⟨f, rfl⟩ : ∃ f, fuel = f + 1 := ⟨fuel - 1, by omega⟩
    have e : k = nt := by omega
    subst e
    refine ⟨s, ?_, gr_cg hg (fun q i j => bk_all)⟩
    rw [p_X8_beginBy_7]
    try dsimp only
    rw [(MI_W hW hg.2.1).1.2.1, if_pos (nI_le (Nat.le_refl _) (by omega))]
  | succ r ih =>
    intro k fuel s hk hf hg hs
    obtain ⟨f, rfl⟩ : ∃ f, fuel = f + 1 := ⟨fuel - 1, by omega⟩
    have hkn : k < nt := by omega
    have hk16 : k < 16 := by omega
    have hWs := MI_W hW hg.2.1
    rw [p_X8_beginBy_7]
    try dsimp only
    rw [hWs.1.2.1, if_neg (nI_ge hkn (by omega)), oi_n hk16 (by decide), oi_n hk16 (by decide), nI_clamp (show k < 2 ^ 31 by omega), hs, h24 k hk16]
    unfold p_X8_beginBy_77
    by_cases hb : wth P nt nm t k
    · rw [pb_t.mpr hb, if_neg (show ¬ b2 true = 0 by decide)]
      unfold p_X8_beginBy_41
      obtain ⟨x, hx, hx', e⟩ := pick hg.2.1.2.2.2.2 (hg.2.1.2.2.2.1 2 (by decide) k hk16) (fun t0 => p_X8_beginBy_46 (p_X8_beginBy_7 f) (nI o) (nI k) t0 s)
      have hin : in5 2 k 0 := ⟨rfl, hk16⟩
      have g1 := gr_set hg.2.1 hin hx'
      have e19 := g1.2.2.2.2
      have h24' : (sI (sI s 0 17 x) (14 + 2) (ix5 2 k 0) 1).1 24 = s.1 24 := by rw [sI_p, pI_ne _ _ (by decide), sI_p, pI_ne _ _ (by decide)]
      obtain ⟨y, y1, y2⟩ := m_ownOf (MI_W hW g1.2.1).2.1 (nI k) (-1)
      rw [isOwn_c g1.2.1.1] at y2
      have fold : ∀ (s1 : SS), p_X8_beginBy_46 (p_X8_beginBy_7 f) (nI o) (nI k) x s = (if y = (-1) then p_X8_beginBy_7 f (nI o) (nI (k + 1)) (sI (sI s 0 17 x) (14 + 2) (ix5 2 k 0) 1) else oc (p_X8_call_0 (nI o) y (sI (sI s 0 17 x) (14 + 2) (ix5 2 k 0) 1)) (fun r_74 => p_X8_beginBy_7 f (nI o) (nI (k + 1)) r_74)) := by
        intro _
        rw [p_X8_beginBy_46, ob_ok hx, os_s, oi_n hk16 (by decide), nI_clamp (show k < 2 ^ 31 by omega), os_s]
        show oc (p_X8_ownOf_0 (sI (sI s 0 17 x) (14 + 2) (ix5 2 k 0) 1) (nI k) (-1)) _ = _
        rw [oc_s y1]
        unfold p_X8_beginBy_77
        rw [nI_1]
        rfl
      have fin : ∀ s2, gr P nt (fun q i j => ∃ k', k' < k + 1 ∧ wth P nt nm t k' ∧ bk P nm o k' q i j) (τ.1 19) τ s2 → s2.1 24 = s.1 24 → ∃ s', p_X8_beginBy_7 f (nI o) (nI (k + 1)) s2 = some s' ∧ gr P nt (rch o (beg P nt nm o t)) (τ.1 19) τ s' := fun s2 h1 h2 => ih (k + 1) f s2 (by omega) (by omega) h1 (h2.trans hs)
      have e0 : s.1 19 = τ.1 19 := hg.2.2.2.2
      rcases y2 with ⟨z1, z2⟩ | ⟨m, hm, z1, z2, z3⟩
      · have hE : gr P nt (fun q i j => ∃ k', k' < k + 1 ∧ wth P nt nm t k' ∧ bk P nm o k' q i j) (τ.1 19) τ (sI (sI s 0 17 x) (14 + 2) (ix5 2 k 0) 1) := by
          rw [e0] at g1
          refine gr_cg (gr_tr hg g1) (fun q i j => ?_)
          constructor
          · rintro (⟨k', w1, w2⟩ | ⟨w1, w2, w3⟩)
            · exact ⟨k', by omega, w2⟩
            · exact ⟨k, by omega, hb, Or.inl ⟨w1, w2, w3⟩⟩
          · rintro ⟨k', w1, w2, w3⟩
            by_cases ek : k' = k
            · subst ek
              rcases w3 with w3 | ⟨m, v1, v2, v3, -⟩
              · exact Or.inr w3
              · exact absurd ⟨v2, v3⟩ (z2 m v1)
            · exact Or.inl ⟨k', by omega, w2, w3⟩
        obtain ⟨s', q1, q2⟩ := fin _ hE h24'
        refine ⟨s', e.trans ?_, q2⟩
        rw [← q1]
        show p_X8_beginBy_46 (p_X8_beginBy_7 f) (nI o) (nI k) x s = _
        rw [fold s, if_pos z1]
      · obtain ⟨s3, c1, c2, c3⟩ := m_call g1.2.1 ho (show m < 48 by omega)
        rw [e19, e0] at c2
        have hE : gr P nt (fun q i j => ∃ k', k' < k + 1 ∧ wth P nt nm t k' ∧ bk P nm o k' q i j) (τ.1 19) τ s3 := by
          refine gr_cg (gr_tr hg (gr_tr g1 c2)) (fun q i j => ?_)
          constructor
          · rintro (⟨k', w1, w2⟩ | w | w)
            · exact ⟨k', by omega, w2⟩
            · exact ⟨k, by omega, hb, Or.inl w⟩
            · exact ⟨k, by omega, hb, Or.inr ⟨m, hm, z1, z2, w⟩⟩
          · rintro ⟨k', w1, w2, w3⟩
            by_cases ek : k' = k
            · subst ek
              rcases w3 with w3 | ⟨m', v1, v2, v3, v4⟩
              · exact Or.inr (Or.inl w3)
              · have : m' = m := hW.2.1.2.2.2 m' m v1 hm (v2.trans z1.symm) (v3.trans z2.symm)
                subst this
                exact Or.inr (Or.inr v4)
            · exact Or.inl ⟨k', by omega, w2, w3⟩
        obtain ⟨s', q1, q2⟩ := fin s3 hE (c3.trans h24')
        refine ⟨s', e.trans ?_, q2⟩
        rw [← q1]
        show p_X8_beginBy_46 (p_X8_beginBy_7 f) (nI o) (nI k) x s = _
        rw [fold s, z3, if_neg (fun w => nI_m1 (u := m) (by omega) w.symm), oc_s c1]
    · rw [pb_f.mpr hb, if_pos (show b2 false = 0 from rfl), nI_1]
      refine ih (k + 1) f s (by omega) (by omega) (gr_cg hg (fun q i j => ⟨fun ⟨k', w1, w2⟩ => ⟨k', by omega, w2⟩, ?_⟩)) hs
      rintro ⟨k', w1, w2, w3⟩
      by_cases ek : k' = k
      · subst ek; exact absurd w2 hb
      · exact ⟨k', by omega, w2, w3⟩
theorem m_beginBy {P : Nat → Nat → Int32} {nt nm no o t : Nat} (hW : WF P nt nm no) (ho : o < 160) (ht : t < nt) {τ : SS} (h : MI P nt τ) : ∃ s', p_X8_beginBy_0 (nI o) (nI t) τ = some s' ∧ gr P nt (rch o (beg P nt nm o t)) (τ.1 19) τ s' := by
  have h16 := hW.1.1
  have hWt := MI_W hW h
  obtain ⟨s1, e1, e2, e3, e4⟩ := m_findWith hWt.1 hWt.2.1 h.2.2.1 ht
  rw [MI_wth h] at e4
  have g1 := gr_kp h e2 sWX e3
  have e19 : s1.1 19 = τ.1 19 := g1.2.2.2.2
  obtain ⟨s', q1, q2⟩ := beginBy_7 hW ho e4 nt 0 100000 s1 (by omega) (by omega) (gr_cg (gr_rf g1.2.1) (fun q i j => ⟨False.elim, fun ⟨k', w, _⟩ => by omega⟩)) rfl
  rw [e19] at q2
  refine ⟨s', ?_, gr_cg (gr_tr g1 q2) (fun q i j => ⟨fun w => w.elim False.elim id, Or.inr⟩)⟩
  unfold p_X8_beginBy_0
  rw [oc_s e1]
  exact q1
