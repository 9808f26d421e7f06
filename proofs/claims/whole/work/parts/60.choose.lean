/-! pure: choose and chosenOf of the reference -/
def isP (P : Nat → Nat → Int32) (nt nm c : Nat) (name r : Int32) : Prop := (∃ m, m < nm ∧ isC P nm name (pbs P) 16 c (nI m) ∧ ((P 7 m = 0 ∧ r = nI m) ∨ (¬ P 7 m = 0 ∧ r = -4))) ∨ (isC P nm name (pbs P) 16 c (-1) ∧ ((cn (lpB P nt nm c name) 48 = 0 ∧ r = -4) ∨ (cn (lpB P nt nm c name) 48 = 1 ∧ isNth (lpB P nt nm c name) 48 0 r) ∨ (2 ≤ cn (lpB P nt nm c name) 48 ∧ r = -5)))
theorem isP_one {P : Nat → Nat → Int32} {nt nm c : Nat} (hw : wfM P nt nm) (hc : c < 16) {name r r' : Int32} (h : isP P nt nm c name r) (h' : isP P nt nm c name r') : r = r' := by
  have h48 := hw.1
  rcases h with ⟨m, hm, h1, h2⟩ | ⟨h1, h2⟩ <;> rcases h' with ⟨m', hm', g1, g2⟩ | ⟨g1, g2⟩
  · have e : m = m' := (nI_eq (by omega) (by omega)).mp (isC_one hw 16 c (by omega) _ _ h1 g1)
    subst e
    rcases h2 with ⟨h2, h3⟩ | ⟨h2, h3⟩ <;> rcases g2 with ⟨g2, g3⟩ | ⟨g2, g3⟩
    · rw [h3, g3]
    · exact absurd h2 g2
    · exact absurd g2 h2
    · rw [h3, g3]
  · exact absurd (isC_one hw 16 c (by omega) _ _ h1 g1) (fun q => nI_m1 (u := m) (by omega) q.symm)
  · exact absurd (isC_one hw 16 c (by omega) _ _ g1 h1) (fun q => nI_m1 (u := m') (by omega) q.symm)
  · rcases h2 with ⟨h2, h3⟩ | ⟨h2, h3⟩ | ⟨h2, h3⟩ <;> rcases g2 with ⟨g2, g3⟩ | ⟨g2, g3⟩ | ⟨g2, g3⟩
    · rw [h3, g3]
    · omega
    · omega
    · omega
    · exact isNth_one (by decide) h3 g3
    · omega
    · omega
    · omega
    · rw [h3, g3]
def ch9 (Q : Nat → Bool) (k : Nat) (v : Int32) : Prop := (cn Q k = 0 ∧ v = -4) ∨ (cn Q k = 1 ∧ ∃ m, m < k ∧ Q m = true ∧ v = nI m) ∨ (2 ≤ cn Q k ∧ v = -5)
theorem choose_119 {σ : SS} {nm : Nat} (h5 : σ.1 0 5 = nI nm) (hnm : nm ≤ 48) {L Q : Nat → Bool} (hL : ∀ m, m < nm → σ.1 22 m = b2 (L m)) (hQ : ∀ m, m < nm → (Q m = true ↔ L m = true ∧ σ.1 7 m = 0)) : ∀ (r k fuel : Nat) (v : Int32), k + r = nm → r < fuel → ch9 Q k v → ∃ x, p_X8_choose_119 fuel v (nI k) σ = some (x, σ) ∧ ch9 Q nm x := by
  intro r
  induction r with
  | zero =>
    intro k fuel v hk hf hv
    obtain ⟨f, rfl⟩ : ∃ f, fuel = f + 1 := ⟨fuel - 1, by omega⟩
    have e : k = nm := by omega
    subst e
    refine ⟨v, ?_, hv⟩
    rw [p_X8_choose_119]
    try dsimp only
    rw [h5, if_pos (nI_le (Nat.le_refl _) (by omega))]
  | succ r ih =>
    intro k fuel v hk hf hv
    obtain ⟨f, rfl⟩ : ∃ f, fuel = f + 1 := ⟨fuel - 1, by omega⟩
    have hk48 : k < 48 := by omega
    have hcs : cn Q (k + 1) = cn Q k + (if Q k = true then 1 else 0) := rfl
    have skip : Q k = false → ∃ x, p_X8_choose_164 (p_X8_choose_119 f) v (nI k) σ = some (x, σ) ∧ ch9 Q nm x := by
      intro hq
      rw [hq] at hcs
      have hcs' : cn Q (k + 1) = cn Q k := hcs
      unfold p_X8_choose_164
      rw [nI_1]
      refine ih (k + 1) f v (by omega) (by omega) ?_
      rcases hv with ⟨h1, h2⟩ | ⟨h1, m, h2, h3, h4⟩ | ⟨h1, h2⟩
      · exact Or.inl ⟨by omega, h2⟩
      · exact Or.inr (Or.inl ⟨by omega, m, by omega, h3, h4⟩)
      · exact Or.inr (Or.inr ⟨by omega, h2⟩)
    rw [p_X8_choose_119]
    try dsimp only
    rw [h5, if_neg (nI_ge (by omega) (by omega)), oi_n hk48 (by decide), nI_clamp (show k < 2 ^ 31 by omega), hL k (by omega)]
    cases hl : L k with
    | false =>
      rw [if_pos (show b2 false = 0 from rfl)]
      refine skip ?_
      cases hq : Q k with
      | false => rfl
      | true => have := ((hQ k (by omega)).mp hq).1; rw [hl] at this; cases this
    | true =>
      rw [if_neg (show ¬ b2 true = 0 by decide), oi_n hk48 (by decide)]
      by_cases h7 : σ.1 7 k = 0
      · have hq : Q k = true := (hQ k (by omega)).mpr ⟨hl, h7⟩
        rw [hq] at hcs
        have hcs' : cn Q (k + 1) = cn Q k + 1 := hcs
        rw [if_pos h7]
        rcases hv with ⟨h1, h2⟩ | ⟨h1, m, h2, h3, h4⟩ | ⟨h1, h2⟩
        · rw [if_pos h2]
          unfold p_X8_choose_162 p_X8_choose_164
          rw [nI_1]
          exact ih (k + 1) f (nI k) (by omega) (by omega) (Or.inr (Or.inl ⟨by omega, k, by omega, hq, rfl⟩))
        · rw [if_neg (fun q => absurd (show nI m < 0 by rw [← h4, q]; decide) (nI_pos (by omega)))]
          unfold p_X8_choose_162 p_X8_choose_164
          rw [nI_1]
          exact ih (k + 1) f (-5) (by omega) (by omega) (Or.inr (Or.inr ⟨by omega, rfl⟩))
        · rw [if_neg (by rw [h2]; decide)]
          unfold p_X8_choose_162 p_X8_choose_164
          rw [nI_1]
          exact ih (k + 1) f (-5) (by omega) (by omega) (Or.inr (Or.inr ⟨by omega, rfl⟩))
      · rw [if_neg h7]
        refine skip ?_
        cases hq : Q k with
        | false => rfl
        | true => exact absurd ((hQ k (by omega)).mp hq).2 h7
theorem choose_14 {τ : SS} {nt nm : Nat} (hw : wfT τ.1 nt) (hm : wfM τ.1 nt nm) (v1 : Int32) {f0 : Nat} (hf0 : f0 < nm) : ∀ (n t fuel : Nat), t < n → t < nt → n < fuel → ∃ r, isC τ.1 nm (τ.1 6 f0) (pbs τ.1) n t r ∧ ((∃ m x, m < nm ∧ r = nI m ∧ p_X8_choose_14 fuel v1 (nI f0) (nI t) τ = some (x, τ) ∧ ((τ.1 7 m = 0 ∧ x = nI m) ∨ (¬ τ.1 7 m = 0 ∧ x = -4))) ∨ (r = -1 ∧ ∃ f, p_X8_choose_14 fuel v1 (nI f0) (nI t) τ = p_X8_choose_14 (f + 1) v1 (nI f0) (-1) τ)) := by
  have h16 := hw.1
  have h48 := hm.1
  intro n
  induction n with
  | zero => intro t fuel h; omega
  | succ n ih =>
    intro t fuel ht htn hf
    obtain ⟨f, rfl⟩ : ∃ f, fuel = f + 1 := ⟨fuel - 1, by omega⟩
    obtain ⟨x, e1, e2⟩ := m_ownOf hm (nI t) (τ.1 6 f0)
    obtain ⟨-, hs, hk2, -⟩ := hw.2.2 t htn
    rw [p_X8_choose_14]
    try dsimp only
    rw [if_neg (fun q => nI_m1 (u := t) (by omega) q.symm), oi_n (show f0 < 48 by omega) (by decide), nI_clamp (show f0 < 2 ^ 31 by omega), oc_s e1]
    have hx := e2
    have nx : p_X8_choose_77 (p_X8_choose_14 f) v1 (nI f0) (nI t) τ = p_X8_choose_14 f v1 (nI f0) (τ.1 2 t) τ := by
      unfold p_X8_choose_77
      rw [oi_n (show t < 16 by omega) (by decide), oi_n (show t < 16 by omega) (by decide), nI_clamp (show t < 2 ^ 31 by omega)]
      by_cases q : τ.1 1 t = 2
      · rw [if_pos q, hk2 q]; rfl
      · rw [if_neg q]; rfl
    have on : (∀ m, m < nm → isOwn τ.1 nm (nI t) (τ.1 6 f0) (nI m) → ¬ pbs τ.1 m) → ∃ r, isC τ.1 nm (τ.1 6 f0) (pbs τ.1) (n + 1) t r ∧ ((∃ m x, m < nm ∧ r = nI m ∧ p_X8_choose_77 (p_X8_choose_14 f) v1 (nI f0) (nI t) τ = some (x, τ) ∧ ((τ.1 7 m = 0 ∧ x = nI m) ∨ (¬ τ.1 7 m = 0 ∧ x = -4))) ∨ (r = -1 ∧ ∃ f', p_X8_choose_77 (p_X8_choose_14 f) v1 (nI f0) (nI t) τ = p_X8_choose_14 (f' + 1) v1 (nI f0) (-1) τ)) := by
      intro hno
      rw [nx]
      rcases hs with hs | ⟨u, hu, hs, -⟩
      · obtain ⟨f', rfl⟩ : ∃ f', f = f' + 1 := ⟨f - 1, by omega⟩
        exact ⟨-1, Or.inr ⟨hno, Or.inl ⟨hs, rfl⟩⟩, Or.inr ⟨rfl, f', by rw [hs]⟩⟩
      · obtain ⟨r, q1, q2⟩ := ih u f (by omega) (by omega) (by omega)
        exact ⟨r, Or.inr ⟨hno, Or.inr ⟨u, hu, hs, q1⟩⟩, by rw [hs]; exact q2⟩
    rcases e2 with ⟨g1, g2⟩ | ⟨m, hmm, g1, g2, g3⟩
    · rw [if_pos g1]
      refine on (fun m hmm ho => ?_)
      have := isOwn_one hm hx ho
      rw [g1] at this
      exact absurd this (nI_m1 (by omega))
    · have hne : ¬ x = -1 := fun q => nI_m1 (u := m) (by omega) (q.symm.trans g3)
      have hxm : isOwn τ.1 nm (nI t) (τ.1 6 f0) (nI m) := by rw [← g3]; exact hx
      rw [if_neg hne, g3, oi_n (show m < 48 by omega) (by decide), oi_n (show m < 48 by omega) (by decide), nI_clamp (show m < 2 ^ 31 by omega)]
      by_cases h70 : τ.1 7 m = 0
      · rw [if_pos h70]
        refine ⟨nI m, Or.inl ⟨m, hmm, hxm, Or.inl h70, rfl⟩, Or.inl ⟨m, nI m, hmm, rfl, ?_, Or.inl ⟨h70, rfl⟩⟩⟩
        unfold p_X8_choose_59
        rw [oi_n (show m < 48 by omega) (by decide), nI_clamp (show m < 2 ^ 31 by omega), if_pos h70]
        rfl
      · rw [if_neg h70]
        by_cases h71 : τ.1 7 m = 1
        · rw [if_pos h71]
          refine ⟨nI m, Or.inl ⟨m, hmm, hxm, Or.inr h71, rfl⟩, Or.inl ⟨m, -4, hmm, rfl, ?_, Or.inr ⟨h70, rfl⟩⟩⟩
          unfold p_X8_choose_59
          rw [oi_n (show m < 48 by omega) (by decide), nI_clamp (show m < 2 ^ 31 by omega), if_neg h70]
          rfl
        · rw [if_neg h71]
          refine on (fun m' hmm' ho => ?_)
          have e : m = m' := (nI_eq (by omega) (by omega)).mp (isOwn_one hm hxm ho)
          subst e
          exact fun q => q.elim h70 h71
theorem ch9_nth {Q : Nat → Bool} {nm : Nat} (h48 : nm ≤ 48) (ho : ∀ k, nm ≤ k → k < 48 → Q k = false) {x : Int32} (h : ch9 Q nm x) : (cn Q 48 = 0 ∧ x = -4) ∨ (cn Q 48 = 1 ∧ isNth Q 48 0 x) ∨ (2 ≤ cn Q 48 ∧ x = -5) := by
  have e := cn_out ho h48
  rcases h with ⟨h1, h2⟩ | ⟨h1, m, h2, h3, h4⟩ | ⟨h1, h2⟩
  · exact Or.inl ⟨by omega, h2⟩
  · refine Or.inr (Or.inl ⟨by omega, Or.inr ⟨m, by omega, h3, ?_, h4⟩⟩)
    have := cn_lt h3 h2
    rw [show cn Q m = 0 by omega]
    rfl
  · exact Or.inr (Or.inr ⟨by omega, h2⟩)
theorem m_choose {τ : SS} {nt nm c f0 : Nat} (hw : wfT τ.1 nt) (hm : wfM τ.1 nt nm) (ho : okU τ.1 nt) (hc : c < nt) (hf0 : f0 < nm) : ∃ r τ', p_X8_choose_0 (nI c) (nI f0) τ = some (r, τ') ∧ kp sV τ τ' ∧ okU τ'.1 nt ∧ ((τ.1 7 f0 = 3 ∧ r = nI f0) ∨ (¬ τ.1 7 f0 = 3 ∧ isP τ.1 nt nm c (τ.1 6 f0) r)) := by
  have h16 := hw.1
  have h48 := hm.1
  unfold p_X8_choose_0
  rw [oi_n (show f0 < 48 by omega) (by decide), nI_clamp (show f0 < 2 ^ 31 by omega)]
  by_cases h3 : τ.1 7 f0 = 3
  · rw [if_pos h3]
    exact ⟨nI f0, τ, rfl, kp_rf sV τ, ho, Or.inl ⟨h3, rfl⟩⟩
  · rw [if_neg h3]
    obtain ⟨r, e1, ⟨m, x, e2, e3, e4, e5⟩ | ⟨e2, f, e3⟩⟩ := choose_14 hw hm (nI c) hf0 16 c 100000 (by omega) hc (by omega)
    · rw [e3] at e1
      exact ⟨x, τ, e4, kp_rf sV τ, ho, Or.inr ⟨h3, Or.inl ⟨m, e2, e1, e5⟩⟩⟩
    · subst e2
      obtain ⟨τ', q1, q2, q3, q4⟩ := m_findLeft hw hm ho hc (τ.1 6 f0)
      rw [e3, p_X8_choose_14]
      try dsimp only
      rw [if_pos rfl, oi_n (show f0 < 48 by omega) (by decide), nI_clamp (show f0 < 2 ^ 31 by omega), oc_s q1]
      obtain ⟨x, w1, w2⟩ := choose_119 (σ := τ') (kp_wfM q2 sV14 hm).2.1 h48 (L := lfB τ.1 nt nm c (τ.1 6 f0)) (Q := lpB τ.1 nt nm c (τ.1 6 f0)) (fun m hmm => q4 m (by omega)) (fun m _ => by rw [kp_c q2 sV14 (by decide) (by decide : 7 < 14)]; exact lpB_iff) nm 0 100000 (-4) (by omega) (by omega) (Or.inl ⟨rfl, rfl⟩)
      exact ⟨x, τ', w1, q2, q3, Or.inr ⟨h3, Or.inr ⟨e1, ch9_nth h48 (fun k h1 _ => lpB_out h1) w2⟩⟩⟩
theorem isC_mem {P : Nat → Nat → Int32} {nm : Nat} (hnm : nm ≤ 48) {name : Int32} {G : Nat → Prop} : ∀ (n t : Nat) (r : Int32), isC P nm name G n t r → r = -1 ∨ ∃ f, f < nm ∧ r = nI f ∧ P 6 f = name ∧ G f := by
  intro n
  induction n with
  | zero => intro t r h; exact absurd h id
  | succ n ih =>
    intro t r h
    rcases h with ⟨m, hm, h1, h2, h3⟩ | ⟨h1, ⟨-, h2⟩ | ⟨u, hu, h3, h4⟩⟩
    · rcases h1 with ⟨h1, h4⟩ | ⟨m', hm', h4, h5, h6⟩
      · exact Or.inl (h3.trans h1)
      · have : m = m' := (nI_eq (by omega) (by omega)).mp h6
        subst this
        exact Or.inr ⟨m, hm, h3, h5, h2⟩
    · exact Or.inl h2
    · exact ih u r h4
theorem isF_mem {P : Nat → Nat → Int32} {nt nm t : Nat} (hnm : nm ≤ 48) {name r : Int32} (h : isF P nt nm t name r) : r = -1 ∨ ∃ f, f < nm ∧ r = nI f ∧ P 6 f = name := by
  rcases h with ⟨h1, -⟩ | ⟨-, ⟨-, h2⟩ | ⟨-, h2⟩⟩
  · rcases isC_mem hnm 16 t r h1 with h | ⟨f, h2, h3, h4, -⟩
    · exact Or.inl h
    · exact Or.inr ⟨f, h2, h3, h4⟩
  · rcases h2 with ⟨h2, -⟩ | ⟨k, -, hk, -, hr⟩
    · exact Or.inl h2
    · have q := (pb_t.mp hk).1.1
      exact Or.inr ⟨k, q.1, hr, q.2.1⟩
  · rcases h2 with ⟨h2, -⟩ | ⟨k, -, hk, -, hr⟩
    · exact Or.inl h2
    · have q := (pb_t.mp hk).1
      exact Or.inr ⟨k, q.1, hr, q.2.1⟩
/-- what chosenOf answers -/
def isH (P : Nat → Nat → Int32) (nt nm c t : Nat) (name r : Int32) : Prop := ∃ f0, isF P nt nm t name f0 ∧ ((f0 = -1 ∧ r = -2) ∨ ∃ f, f < nm ∧ f0 = nI f ∧ P 6 f = name ∧ ((P 7 f = 2 ∧ r = -3) ∨ (P 7 f = 3 ∧ r = nI f) ∨ (¬ P 7 f = 2 ∧ ¬ P 7 f = 3 ∧ isP P nt nm c name r)))
theorem isH_one {P : Nat → Nat → Int32} {nt nm c t : Nat} (hw : wfM P nt nm) (hc : c < 16) (ht : t < 16) {name r r' : Int32} (h : isH P nt nm c t name r) (h' : isH P nt nm c t name r') : r = r' := by
  have h48 := hw.1
  obtain ⟨f0, h1, h2⟩ := h
  obtain ⟨g0, g1, g2⟩ := h'
  have e := isF_one hw ht h1 g1
  subst e
  rcases h2 with ⟨h2, h3⟩ | ⟨f, h2, h3, h4, h5⟩ <;> rcases g2 with ⟨g2, g3⟩ | ⟨g, g2, g3, g4, g5⟩
  · rw [h3, g3]
  · exact absurd (h2.symm.trans g3) (nI_m1 (by omega))
  · exact absurd (g2.symm.trans h3) (nI_m1 (by omega))
  · have e : f = g := (nI_eq (by omega) (by omega)).mp (h3.symm.trans g3)
    subst e
    rcases h5 with ⟨h5, h6⟩ | ⟨h5, h6⟩ | ⟨h5, h6, h7⟩ <;> rcases g5 with ⟨g5, g6⟩ | ⟨g5, g6⟩ | ⟨g5, g6, g7⟩
    · rw [h6, g6]
    · rw [h5] at g5; exact absurd g5 (by decide)
    · exact absurd h5 g5
    · rw [h5] at g5; exact absurd g5 (by decide)
    · rw [h6, g6]
    · exact absurd h5 g6
    · exact absurd g5 h5
    · exact absurd g5 h6
    · exact isP_one hw hc h7 g7
theorem lft_c {P P' : Nat → Nat → Int32} (hu : und P' = und P) (h : ∀ c, c ≠ 0 → c < 14 → P' c = P c) : lft P' = lft P := by
  have h1 := h 1 (by decide) (by decide)
  have h5 := h 5 (by decide) (by decide)
  have h6 := h 6 (by decide) (by decide)
  have h7 := h 7 (by decide) (by decide)
  funext nt nm t name m
  unfold lft hold fab pbs
  rw [hu, h1, h5, h6, h7]
theorem lpB_c {P P' : Nat → Nat → Int32} (hu : und P' = und P) (h : ∀ c, c ≠ 0 → c < 14 → P' c = P c) : lpB P' = lpB P := by
  funext nt nm t name m
  unfold lpB
  rw [lft_c hu h, h 7 (by decide) (by decide)]
theorem isOwn_c {P P' : Nat → Nat → Int32} (h : ∀ c, c ≠ 0 → c < 14 → P' c = P c) : isOwn P' = isOwn P := by
  funext nm v name r
  unfold isOwn
  rw [h 5 (by decide) (by decide), h 6 (by decide) (by decide)]
theorem isC_c {P P' : Nat → Nat → Int32} (h : ∀ c, c ≠ 0 → c < 14 → P' c = P c) : isC P' = isC P := by
  funext nm name G n
  induction n with
  | zero => rfl
  | succ n ih =>
    funext t r
    show (_ ∨ _) = (_ ∨ _)
    rw [isOwn_c h, h 2 (by decide) (by decide), ih]
theorem isP_c {P P' : Nat → Nat → Int32} {nt nm c : Nat} {name r : Int32} (hp : isP P' nt nm c name r) (hu : und P' = und P) (h : ∀ c, c ≠ 0 → c < 14 → P' c = P c) : isP P nt nm c name r := by
  have hpb : pbs P' = pbs P := by funext m; unfold pbs; rw [h 7 (by decide) (by decide)]
  unfold isP at hp ⊢
  rw [isC_c h, hpb, lpB_c hu h, h 7 (by decide) (by decide)] at hp
  exact hp
theorem m_chosenOf {τ : SS} {nt nm c t : Nat} (hw : wfT τ.1 nt) (hm : wfM τ.1 nt nm) (ho : okU τ.1 nt) (hc : c < nt) (ht : t < nt) (name : Int32) : ∃ r τ', p_X8_chosenOf_0 (nI c) (nI t) name τ = some (r, τ') ∧ kp sV τ τ' ∧ okU τ'.1 nt ∧ isH τ.1 nt nm c t name r := by
  have h48 := hm.1
  obtain ⟨f0, τ1, e1, e2, e3, e4⟩ := m_find hw hm ho ht name
  unfold p_X8_chosenOf_0
  rw [oc_s e1]
  dsimp only
  rcases isF_mem h48 e4 with h | ⟨f, hf, h1, h2⟩
  · rw [if_pos h]
    exact ⟨-2, τ1, rfl, e2, e3, f0, e4, Or.inl ⟨h, rfl⟩⟩
  · have h7 : τ1.1 7 = τ.1 7 := kp_c e2 sV14 (by decide) (by decide)
    have h6 : τ1.1 6 = τ.1 6 := kp_c e2 sV14 (by decide) (by decide)
    rw [h1, if_neg (fun q => nI_m1 (u := f) (by omega) q.symm), oi_n (show f < 48 by omega) (by decide), nI_clamp (show f < 2 ^ 31 by omega), h7]
    by_cases h72 : τ.1 7 f = 2
    · rw [if_pos h72]
      exact ⟨-3, τ1, rfl, e2, e3, f0, e4, Or.inr ⟨f, hf, h1, h2, Or.inl ⟨h72, rfl⟩⟩⟩
    · rw [if_neg h72]
      obtain ⟨r, τ2, q1, q2, q3, q4⟩ := m_choose (kp_wfT e2 sV14 hw) (kp_wfM e2 sV14 hm) e3 hc hf
      rw [oc_s q1]
      refine ⟨r, τ2, rfl, kp_tr e2 q2, q3, f0, e4, Or.inr ⟨f, hf, h1, h2, ?_⟩⟩
      rw [h7] at q4
      rcases q4 with ⟨q4, q5⟩ | ⟨q4, q5⟩
      · exact Or.inr (Or.inl ⟨q4, q5⟩)
      · refine Or.inr (Or.inr ⟨h72, q4, ?_⟩)
        rw [h6, h2] at q5
        exact isP_c q5 (kp_und e2 sV14) (fun k h0 h14 => kp_c e2 sV14 h0 h14)
