/-! pure: members; the reference's ownOf and findLeft -/
def wfM (P : Nat → Nat → Int32) (nt nm : Nat) : Prop := nm ≤ 48 ∧ P 0 5 = nI nm ∧ (∀ m, m < nm → (∃ t, t < nt ∧ P 5 m = nI t ∧ (P 7 m = 1 → ¬ P 1 t = 0)) ∧ ((P 7 m = 4 ∧ P 6 m = -1) ∨ ((P 7 m = 0 ∨ P 7 m = 1 ∨ P 7 m = 2 ∨ P 7 m = 3) ∧ ∃ n, n < 10 ∧ P 6 m = nI n)) ∧ (P 8 m = 0 ∨ P 8 m = 1)) ∧ ∀ m m', m < nm → m' < nm → P 5 m = P 5 m' → P 6 m = P 6 m' → m = m'
theorem wfM_c {P P' : Nat → Nat → Int32} {nt nm : Nat} (h : wfM P nt nm) (h0 : P' 0 5 = P 0 5) (h1 : P' 1 = P 1) (h5 : P' 5 = P 5) (h6 : P' 6 = P 6) (h7 : P' 7 = P 7) (h8 : P' 8 = P 8) : wfM P' nt nm := by
  unfold wfM at h ⊢
  rw [h0, h1, h5, h6, h7, h8]
  exact h
theorem kp_wfM {S : List Nat} {τ τ' : SS} {nt nm : Nat} (h : kp S τ τ') (hS : ∀ x ∈ S, 14 ≤ x) (hw : wfM τ.1 nt nm) : wfM τ'.1 nt nm := wfM_c hw (h.2.2 5 (by decide)) (kp_c h hS (by decide) (by decide)) (kp_c h hS (by decide) (by decide)) (kp_c h hS (by decide) (by decide)) (kp_c h hS (by decide) (by decide)) (kp_c h hS (by decide) (by decide))
/-- the type's own member of a name -/
def isOwn (P : Nat → Nat → Int32) (nm : Nat) (v name r : Int32) : Prop := (r = -1 ∧ ∀ m, m < nm → ¬ (P 5 m = v ∧ P 6 m = name)) ∨ ∃ m, m < nm ∧ P 5 m = v ∧ P 6 m = name ∧ r = nI m
theorem isOwn_one {P : Nat → Nat → Int32} {nt nm : Nat} (hw : wfM P nt nm) {v name r r' : Int32} (h : isOwn P nm v name r) (h' : isOwn P nm v name r') : r = r' := by
  rcases h with ⟨h1, h2⟩ | ⟨m, hm, h1, h2, h3⟩ <;> rcases h' with ⟨g1, g2⟩ | ⟨m', hm', g1, g2, g3⟩
  · rw [h1, g1]
  · exact absurd ⟨g1, g2⟩ (h2 m' hm')
  · exact absurd ⟨h1, h2⟩ (g2 m hm)
  · rw [h3, g3, hw.2.2.2 m m' hm hm' (h1.trans g1.symm) (h2.trans g2.symm)]
theorem ownOf_2 {σ : SS} {nm : Nat} (h5 : σ.1 0 5 = nI nm) (hnm : nm ≤ 48) (v name : Int32) : ∀ (r k fuel : Nat), k + r = nm → r < fuel → (∀ m, m < k → ¬ (σ.1 5 m = v ∧ σ.1 6 m = name)) → ∃ x, p_X8_ownOf_2 σ fuel v name (nI k) = some x ∧ isOwn σ.1 nm v name x := by
  intro r
  induction r with
  | zero =>
    intro k fuel hk hf hn
    obtain ⟨f, rfl⟩ : ∃ f, fuel = f + 1 := ⟨fuel - 1, by omega⟩
    have e : k = nm := by omega
    subst e
    refine ⟨-1, ?_, Or.inl ⟨rfl, hn⟩⟩
    rw [p_X8_ownOf_2]
    try dsimp only
    rw [h5, if_pos (nI_le (Nat.le_refl _) (by omega))]
  | succ r ih =>
    intro k fuel hk hf hn
    obtain ⟨f, rfl⟩ : ∃ f, fuel = f + 1 := ⟨fuel - 1, by omega⟩
    rw [p_X8_ownOf_2]
    try dsimp only
    rw [h5, if_neg (nI_ge (by omega) (by omega)), oi_n (show k < 48 by omega) (by decide), oi_n (show k < 48 by omega) (by decide), nI_clamp (show k < 2 ^ 31 by omega)]
    have go : ¬ (σ.1 5 k = v ∧ σ.1 6 k = name) → ∃ x, p_X8_ownOf_32 σ (p_X8_ownOf_2 σ f) v name (nI k) = some x ∧ isOwn σ.1 nm v name x := by
      intro hne
      unfold p_X8_ownOf_32
      rw [nI_1]
      exact ih (k + 1) f (by omega) (by omega) (fun m hm => by
        by_cases e : m = k
        · rw [e]; exact hne
        · exact hn m (by omega))
    by_cases e1 : σ.1 5 k = v
    · rw [if_pos e1]
      by_cases e2 : σ.1 6 k = name
      · rw [if_pos e2]
        exact ⟨nI k, rfl, Or.inr ⟨k, by omega, e1, e2, rfl⟩⟩
      · rw [if_neg e2]
        exact go (fun q => e2 q.2)
    · rw [if_neg e1]
      exact go (fun q => e1 q.1)
theorem m_ownOf {τ : SS} {nt nm : Nat} (hw : wfM τ.1 nt nm) (v name : Int32) : ∃ x, p_X8_ownOf_0 τ v name = some x ∧ isOwn τ.1 nm v name x :=
  ownOf_2 hw.2.1 hw.1 v name nm 0 100000 (by omega) (by have := hw.1; omega) (fun m hm => absurd hm (Nat.not_lt_zero _))
def pbs (P : Nat → Nat → Int32) (m : Nat) : Prop := P 7 m = 0 ∨ P 7 m = 1
/-- f is a face above t -/
def fab (P : Nat → Nat → Int32) (nt t f : Nat) : Prop := f < nt ∧ ¬ f = t ∧ P 1 f = 2 ∧ und P t f
def hold (P : Nat → Nat → Int32) (nt nm t : Nat) (name : Int32) (m : Nat) : Prop := m < nm ∧ P 6 m = name ∧ pbs P m ∧ ∃ f, f < nt ∧ P 5 m = nI f ∧ fab P nt t f
def lft (P : Nat → Nat → Int32) (nt nm t : Nat) (name : Int32) (m : Nat) : Prop := hold P nt nm t name m ∧ ¬ ∃ o, hold P nt nm t name o ∧ ∃ f g, f < nt ∧ g < nt ∧ P 5 m = nI f ∧ P 5 o = nI g ∧ ¬ g = f ∧ und P g f
def sV : List Nat := [20, 21, 22, 23]
theorem sV14 : ∀ x ∈ sV, 14 ≤ x := by decide
theorem sUV : ∀ x ∈ sU, x ∈ sV := by decide
/-- which faces are above -/
theorem findLeft_2 {τ : SS} {nt t : Nat} (hw : wfT τ.1 nt) (ht : t < nt) (name : Int32) : ∀ (r k fuel : Nat) (s : SS), k + r = 16 → r < fuel → kp sV τ s → okU s.1 nt → (∀ j, j < k → s.1 23 j = b2 (pb (fab τ.1 nt t j))) →
    ∃ s', p_X8_findLeft_2 fuel (nI t) name (nI k) s = p_X8_findLeft_59 100000 name 0 s' ∧ kp sV τ s' ∧ okU s'.1 nt ∧ ∀ j, j < 16 → s'.1 23 j = b2 (pb (fab τ.1 nt t j)) := by
  have h16 := hw.1
  intro r
  induction r with
  | zero =>
    intro k fuel s hk hf hkp ho hz
    obtain ⟨f, rfl⟩ : ∃ f, fuel = f + 1 := ⟨fuel - 1, by omega⟩
    refine ⟨s, ?_, hkp, ho, fun j hj => hz j (by omega)⟩
    rw [p_X8_findLeft_2]
    try dsimp only
    rw [if_pos (show (16 : Int32) ≤ nI k from nI_le (a := 16) (by omega) (by omega))]
  | succ r ih =>
    intro k fuel s hk hf hkp ho hz
    obtain ⟨f, rfl⟩ : ∃ f, fuel = f + 1 := ⟨fuel - 1, by omega⟩
    have hk16 : k < 16 := by omega
    have hws := kp_wfT hkp sV14 hw
    -- a store at k, and on
    have go : ∀ (s1 : SS) (x : Int32), (x = 0 ∨ x = 1) → kp sV τ s1 → okU s1.1 nt → (∀ j, j < k → s1.1 23 j = b2 (pb (fab τ.1 nt t j))) → x = b2 (pb (fab τ.1 nt t k)) →
        ∃ s', p_X8_findLeft_50 (p_X8_findLeft_2 f) (nI t) name (nI k) x (nI k) s1 = p_X8_findLeft_59 100000 name 0 s' ∧ kp sV τ s' ∧ okU s'.1 nt ∧ ∀ j, j < 16 → s'.1 23 j = b2 (pb (fab τ.1 nt t j)) := by
      intro s1 x hx h1 h2 h3 h4
      obtain ⟨s', q1, q2, q3, q4⟩ := ih (k + 1) f (sI s1 23 k x) (by omega) (by omega) (kp_tr h1 (by rw [sI_p]; exact kp_pI s1 _ (by decide) (by decide))) (by
          rcases h2 with h2 | ⟨h2, h5⟩
          · exact Or.inl h2
          · exact Or.inr ⟨h2, h5⟩) (fun j hj => by
          rw [sI_p, pI_at]
          unfold upd
          by_cases e : j = k
          · rw [if_pos e, e, h4]
          · rw [if_neg e]; exact h3 j (by omega))
      refine ⟨s', ?_, q2, q3, q4⟩
      unfold p_X8_findLeft_50
      rw [oi_n hk16 (by decide), ob_ok hx, nI_clamp (show k < 2 ^ 31 by omega)]
      unfold os
      rw [nI_1]
      exact q1
    have no : ¬ fab τ.1 nt t k → ∃ s', p_X8_findLeft_49 (p_X8_findLeft_2 f) (nI t) name (nI k) (nI k) s = p_X8_findLeft_59 100000 name 0 s' ∧ kp sV τ s' ∧ okU s'.1 nt ∧ ∀ j, j < 16 → s'.1 23 j = b2 (pb (fab τ.1 nt t j)) := by
      intro hn
      exact go s 0 (Or.inl rfl) hkp ho hz (by rw [pb_f.mpr hn]; rfl)
    rw [p_X8_findLeft_2]
    try dsimp only
    rw [if_neg (show ¬ (16 : Int32) ≤ nI k from nI_ge (b := 16) (by omega) (by omega)), hws.2.1]
    by_cases hkn : k < nt
    · rw [if_neg (nI_ge hkn (by omega))]
      by_cases hkt : k = t
      · rw [if_pos (by rw [hkt])]
        exact no (fun q => q.2.1 hkt)
      · rw [if_neg (fun q => hkt ((nI_eq (by omega) (by omega)).mp q)), oi_n hk16 (by decide), nI_clamp (show k < 2 ^ 31 by omega), kp_c hkp sV14 (by decide) (by decide)]
        by_cases hk2 : τ.1 1 k = 2
        · rw [if_pos hk2]
          obtain ⟨s1, e1, e2, e3, e4⟩ := m_isUnder hws ho ht hk16
          rw [oc_s e1, kp_und hkp sV14]
          have h23 : s1.1 23 = s.1 23 := e2.2.1 23 (by decide) (by decide)
          have h1 : kp sV τ s1 := kp_tr hkp (kp_up sUV e2)
          by_cases hu : und τ.1 t k
          · rw [if_neg (fun q => by have := b2_0.mp q; rw [pb_t.mpr hu] at this; cases this)]
            exact go s1 1 (Or.inr rfl) h1 (Or.inr ⟨e3, e4⟩) (fun j hj => by rw [h23]; exact hz j hj) (by rw [pb_t.mpr (show fab τ.1 nt t k from ⟨hkn, hkt, hk2, hu⟩)]; rfl)
          · rw [if_pos (b2_0.mpr (pb_f.mpr hu))]
            exact go s1 0 (Or.inl rfl) h1 (Or.inr ⟨e3, e4⟩) (fun j hj => by rw [h23]; exact hz j hj) (by rw [pb_f.mpr (fun q : fab τ.1 nt t k => hu q.2.2.2)]; rfl)
        · rw [if_neg hk2]
          exact no (fun q => hk2 q.2.2.1)
    · rw [if_pos (nI_le (by omega) (by omega))]
      exact no (fun q => hkn q.1)
