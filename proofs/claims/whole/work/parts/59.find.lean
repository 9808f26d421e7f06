/-! pure: find and choose of the reference -/
/-- along the SUPERs: the first own member of the name that G takes; -1 without one -/
def isC (P : Nat → Nat → Int32) (nm : Nat) (name : Int32) (G : Nat → Prop) : Nat → Nat → Int32 → Prop
  | 0, _, _ => False
  | n + 1, t, r => (∃ m, m < nm ∧ isOwn P nm (nI t) name (nI m) ∧ G m ∧ r = nI m) ∨ ((∀ m, m < nm → isOwn P nm (nI t) name (nI m) → ¬ G m) ∧ ((P 2 t = -1 ∧ r = -1) ∨ ∃ u, u < t ∧ P 2 t = nI u ∧ isC P nm name G n u r))
theorem isC_one {P : Nat → Nat → Int32} {nt nm : Nat} (hw : wfM P nt nm) {name : Int32} {G : Nat → Prop} : ∀ (n t : Nat), t < 2 ^ 31 → ∀ (r r' : Int32), isC P nm name G n t r → isC P nm name G n t r' → r = r' := by
  have h48 := hw.1
  intro n
  induction n with
  | zero => intro t _ r r' h; exact absurd h id
  | succ n ih =>
    intro t ht r r' h h'
    rcases h with ⟨m, hm, h1, h2, h3⟩ | ⟨h1, h2⟩ <;> rcases h' with ⟨m', hm', g1, g2, g3⟩ | ⟨g1, g2⟩
    · rw [h3, g3, isOwn_one hw h1 g1]
    · exact absurd h2 (g1 m hm h1)
    · exact absurd g2 (h1 m' hm' g1)
    · rcases h2 with ⟨h2, h3⟩ | ⟨u, hu, h2, h3⟩ <;> rcases g2 with ⟨g2, g3⟩ | ⟨u', hu', g2, g3⟩
      · rw [h3, g3]
      · exact absurd (h2.symm.trans g2) (nI_m1 (by omega))
      · exact absurd (g2.symm.trans h2) (nI_m1 (by omega))
      · have : u = u' := (nI_eq (by omega) (by omega)).mp (h2.symm.trans g2)
        subst this
        exact ih u (by omega) r r' h3 g3
theorem isC_f {P : Nat → Nat → Int32} {nm : Nat} {name : Int32} {G : Nat → Prop} : ∀ (n n' t : Nat), t < n → t < n' → ∀ r, isC P nm name G n t r → isC P nm name G n' t r := by
  intro n
  induction n with
  | zero => intro n' t h; omega
  | succ n ih =>
    intro n' t ht ht' r h
    obtain ⟨k, rfl⟩ : ∃ k, n' = k + 1 := ⟨n' - 1, by omega⟩
    rcases h with h | ⟨h1, h2 | ⟨u, hu, h3, h4⟩⟩
    · exact Or.inl h
    · exact Or.inr ⟨h1, Or.inl h2⟩
    · exact Or.inr ⟨h1, Or.inr ⟨u, hu, h3, ih k u (by omega) (by omega) r h4⟩⟩
noncomputable def lfB (P : Nat → Nat → Int32) (nt nm t : Nat) (name : Int32) (m : Nat) : Bool := pb (lft P nt nm t name m)
noncomputable def lpB (P : Nat → Nat → Int32) (nt nm t : Nat) (name : Int32) (m : Nat) : Bool := pb (lft P nt nm t name m ∧ P 7 m = 0)
def isF (P : Nat → Nat → Int32) (nt nm t : Nat) (name r : Int32) : Prop := (isC P nm name (fun _ => True) 16 t r ∧ ¬ r = -1) ∨ (isC P nm name (fun _ => True) 16 t (-1) ∧ ((cn (lpB P nt nm t name) 48 = 1 ∧ isNth (lpB P nt nm t name) 48 0 r) ∨ (¬ cn (lpB P nt nm t name) 48 = 1 ∧ isNth (lfB P nt nm t name) 48 0 r)))
theorem isF_one {P : Nat → Nat → Int32} {nt nm t : Nat} (hw : wfM P nt nm) (ht : t < 16) {name r r' : Int32} (h : isF P nt nm t name r) (h' : isF P nt nm t name r') : r = r' := by
  rcases h with ⟨h1, h2⟩ | ⟨h1, h2⟩ <;> rcases h' with ⟨g1, g2⟩ | ⟨g1, g2⟩
  · exact isC_one hw 16 t (by omega) r r' h1 g1
  · exact absurd (isC_one hw 16 t (by omega) r (-1) h1 g1) h2
  · exact absurd (isC_one hw 16 t (by omega) r' (-1) g1 h1) g2
  · rcases h2 with ⟨h2, h3⟩ | ⟨h2, h3⟩ <;> rcases g2 with ⟨g2, g3⟩ | ⟨g2, g3⟩
    · exact isNth_one (by decide) h3 g3
    · exact absurd h2 g2
    · exact absurd g2 h2
    · exact isNth_one (by decide) h3 g3
def isLe (f : Nat → Bool) (k N : Nat) (r : Int32) : Prop := (r = -1 ∧ ∀ m, k ≤ m → m < N → f m = false) ∨ ∃ m, k ≤ m ∧ m < N ∧ f m = true ∧ (∀ j, k ≤ j → j < m → f j = false) ∧ r = nI m
theorem cn_zero {f : Nat → Bool} {n : Nat} (h : ∀ j, j < n → f j = false) : cn f n = 0 := by
  rw [cn_out (M := 0) (fun k _ hk => h k hk) (Nat.zero_le _)]; rfl
theorem isLe_nth {f : Nat → Bool} {N : Nat} {r : Int32} (h : isLe f 0 N r) : isNth f N 0 r := by
  rcases h with ⟨h1, h2⟩ | ⟨m, -, h2, h3, h4, h5⟩
  · exact Or.inl ⟨h1, Or.inr (by rw [cn_zero (fun j hj => h2 j (Nat.zero_le _) hj)]; decide)⟩
  · exact Or.inr ⟨m, h2, h3, by rw [cn_zero (fun j hj => h4 j (Nat.zero_le _) hj)]; rfl, h5⟩
theorem isLe_step {f : Nat → Bool} {k N : Nat} {r : Int32} (h : isLe f (k + 1) N r) (hk : k < N) : (f k = true → isLe f k N (nI k)) ∧ (f k = false → isLe f k N r) := by
  constructor
  · intro hf
    exact Or.inr ⟨k, Nat.le_refl _, hk, hf, fun j h1 h2 => by omega, rfl⟩
  · intro hf
    rcases h with ⟨h1, h2⟩ | ⟨m, h1, h2, h3, h4, h5⟩
    · exact Or.inl ⟨h1, fun m hm1 hm2 => by
        by_cases e : m = k
        · rw [e]; exact hf
        · exact h2 m (by omega) hm2⟩
    · exact Or.inr ⟨m, by omega, h2, h3, fun j hj1 hj2 => by
        by_cases e : j = k
        · rw [e]; exact hf
        · exact h4 j (by omega) hj2, h5⟩
theorem find_71 {σ : SS} {nm : Nat} (hnm : nm ≤ 48) {L Q : Nat → Bool} (hL : ∀ m, m < nm → σ.1 22 m = b2 (L m)) (hQ : ∀ m, m < nm → (Q m = true ↔ L m = true ∧ σ.1 7 m = 0)) : ∀ (k fuel : Nat) (v4 v5 : Int32) (c : Nat), k ≤ nm → k < fuel → isLe L k nm v4 → isLe Q k nm v5 → c + cn Q k = cn Q nm →
    ∃ r, p_X8_find_71 fuel v4 v5 (nI c) (nI k + (-1)) σ = some (r, σ) ∧ ((cn Q nm = 1 ∧ isLe Q 0 nm r) ∨ (¬ cn Q nm = 1 ∧ isLe L 0 nm r)) := by
  intro k
  induction k with
  | zero =>
    intro fuel v4 v5 c hk hf h4 h5 hc
    obtain ⟨f, rfl⟩ : ∃ f, fuel = f + 1 := ⟨fuel - 1, by omega⟩
    have hcc : c = cn Q nm := hc
    have hle := cn_le Q nm
    rw [p_X8_find_71]
    try dsimp only
    rw [if_pos (by decide)]
    by_cases e : c = 1
    · rw [if_pos (by rw [e]; rfl)]
      exact ⟨v5, rfl, Or.inl ⟨by omega, h5⟩⟩
    · rw [if_neg (show ¬ nI c = 1 from fun q => e ((nI_eq (b := 1) (by omega) (by omega)).mp q))]
      exact ⟨v4, rfl, Or.inr ⟨by omega, h4⟩⟩
  | succ k ih =>
    intro fuel v4 v5 c hk hf h4 h5 hc
    obtain ⟨f, rfl⟩ : ∃ f, fuel = f + 1 := ⟨fuel - 1, by omega⟩
    have hk48 : k < 48 := by omega
    have s4 := isLe_step h4 (show k < nm by omega)
    have s5 := isLe_step h5 (show k < nm by omega)
    have hcs : cn Q (k + 1) = cn Q k + (if Q k = true then 1 else 0) := rfl
    rw [p_X8_find_71]
    try dsimp only
    rw [pk_m1, if_neg (nI_pos (by omega)), oi_n hk48 (by decide), nI_clamp (show k < 2 ^ 31 by omega), hL k (by omega)]
    cases hl : L k with
    | false =>
      have hq : Q k = false := by
        cases hq : Q k with
        | false => rfl
        | true => have := ((hQ k (by omega)).mp hq).1; rw [hl] at this; cases this
      rw [hq] at hcs
      rw [if_pos (show b2 false = 0 from rfl)]
      unfold p_X8_find_93
      rw [oi_n hk48 (by decide), nI_clamp (show k < 2 ^ 31 by omega), hL k (by omega), hl, if_pos (show b2 false = 0 from rfl)]
      unfold p_X8_find_120 p_X8_find_122
      rw [oi_n hk48 (by decide), nI_clamp (show k < 2 ^ 31 by omega), hL k (by omega), hl, if_pos (show b2 false = 0 from rfl)]
      unfold p_X8_find_150 p_X8_find_151
      rw [show nI c + 0 = nI c from nI_add c 0]
      exact ih f v4 v5 c (by omega) (by omega) (s4.2 hl) (s5.2 hq) (by simp at hcs; omega)
    | true =>
      rw [if_neg (show ¬ b2 true = 0 by decide)]
      unfold p_X8_find_93
      rw [oi_n hk48 (by decide), nI_clamp (show k < 2 ^ 31 by omega), hL k (by omega), hl, if_neg (show ¬ b2 true = 0 by decide), oi_n hk48 (by decide)]
      by_cases h7 : σ.1 7 k = 0
      · have hq : Q k = true := (hQ k (by omega)).mpr ⟨hl, h7⟩
        rw [hq] at hcs
        rw [if_pos h7]
        unfold p_X8_find_122
        rw [oi_n hk48 (by decide), nI_clamp (show k < 2 ^ 31 by omega), hL k (by omega), hl, if_neg (show ¬ b2 true = 0 by decide), oi_n hk48 (by decide), if_pos h7]
        unfold p_X8_find_151
        rw [nI_1]
        exact ih f (nI k) (nI k) (c + 1) (by omega) (by omega) (s4.1 hl) (s5.1 hq) (by simp at hcs; omega)
      · have hq : Q k = false := by
          cases hq : Q k with
          | false => rfl
          | true => exact absurd ((hQ k (by omega)).mp hq).2 h7
        rw [hq] at hcs
        rw [if_neg h7]
        unfold p_X8_find_120 p_X8_find_122
        rw [oi_n hk48 (by decide), nI_clamp (show k < 2 ^ 31 by omega), hL k (by omega), hl, if_neg (show ¬ b2 true = 0 by decide), oi_n hk48 (by decide), if_neg h7]
        unfold p_X8_find_150 p_X8_find_151
        rw [show nI c + 0 = nI c from nI_add c 0]
        exact ih f (nI k) v5 c (by omega) (by omega) (s4.1 hl) (s5.2 hq) (by simp at hcs; omega)
theorem find_2 {τ : SS} {nt nm : Nat} (hw : wfT τ.1 nt) (hm : wfM τ.1 nt nm) (v1 name : Int32) : ∀ (n t fuel : Nat), t < n → t < nt → n < fuel → ∃ r, isC τ.1 nm name (fun _ => True) n t r ∧ ((¬ r = -1 ∧ p_X8_find_2 fuel v1 name (nI t) τ = some (r, τ)) ∨ (r = -1 ∧ ∃ f, p_X8_find_2 fuel v1 name (nI t) τ = p_X8_find_2 (f + 1) v1 name (-1) τ)) := by
  have h16 := hw.1
  have h48 := hm.1
  intro n
  induction n with
  | zero => intro t fuel h; omega
  | succ n ih =>
    intro t fuel ht htn hf
    obtain ⟨f, rfl⟩ : ∃ f, fuel = f + 1 := ⟨fuel - 1, by omega⟩
    obtain ⟨x, e1, e2⟩ := m_ownOf hm (nI t) name
    obtain ⟨-, hs, hk2, -⟩ := hw.2.2 t htn
    rw [p_X8_find_2]
    try dsimp only
    rw [if_neg (fun q => nI_m1 (u := t) (by omega) q.symm), oc_s e1]
    have hx := e2
    rcases e2 with ⟨g1, g2⟩ | ⟨m, hmm, g1, g2, g3⟩
    · have hno : ∀ m, m < nm → isOwn τ.1 nm (nI t) name (nI m) → ¬ (fun _ : Nat => True) m := by
        intro m hmm ho
        have := isOwn_one hm hx ho
        rw [g1] at this
        exact absurd this (nI_m1 (by omega))
      rw [if_pos g1, oi_n (show t < 16 by omega) (by decide), oi_n (show t < 16 by omega) (by decide), nI_clamp (show t < 2 ^ 31 by omega)]
      have nx : (if τ.1 1 t = 2 then p_X8_find_44 (p_X8_find_2 f) v1 name (-1) τ else p_X8_find_44 (p_X8_find_2 f) v1 name (τ.1 2 t) τ) = p_X8_find_2 f v1 name (τ.1 2 t) τ := by
        by_cases q : τ.1 1 t = 2
        · rw [if_pos q, hk2 q]; rfl
        · rw [if_neg q]; rfl
      rw [nx]
      rcases hs with hs | ⟨u, hu, hs, -⟩
      · obtain ⟨f', rfl⟩ : ∃ f', f = f' + 1 := ⟨f - 1, by omega⟩
        exact ⟨-1, Or.inr ⟨hno, Or.inl ⟨hs, rfl⟩⟩, Or.inr ⟨rfl, f', by rw [hs]⟩⟩
      · obtain ⟨r, q1, q2⟩ := ih u f (by omega) (by omega) (by omega)
        exact ⟨r, Or.inr ⟨hno, Or.inr ⟨u, hu, hs, q1⟩⟩, by rw [hs]; exact q2⟩
    · have hne : ¬ x = -1 := fun q => nI_m1 (u := m) (by omega) (q.symm.trans g3)
      rw [if_neg hne]
      exact ⟨x, Or.inl ⟨m, hmm, by rw [← g3]; exact hx, trivial, g3⟩, Or.inl ⟨hne, rfl⟩⟩
theorem isLe_cut {f : Nat → Bool} {M N : Nat} {r : Int32} (h : isLe f 0 M r) (hMN : M ≤ N) (ho : ∀ k, M ≤ k → k < N → f k = false) : isNth f N 0 r := (isNth_cut ho hMN).mpr (isLe_nth h)
theorem lfB_out {P : Nat → Nat → Int32} {nt nm t : Nat} {name : Int32} {k : Nat} (h : nm ≤ k) : lfB P nt nm t name k = false := pb_f.mpr (fun q => by have := q.1.1; omega)
theorem lpB_out {P : Nat → Nat → Int32} {nt nm t : Nat} {name : Int32} {k : Nat} (h : nm ≤ k) : lpB P nt nm t name k = false := pb_f.mpr (fun q => by have := q.1.1.1; omega)
theorem lpB_iff {P : Nat → Nat → Int32} {nt nm t : Nat} {name : Int32} {m : Nat} : lpB P nt nm t name m = true ↔ lfB P nt nm t name m = true ∧ P 7 m = 0 := by
  unfold lpB lfB
  rw [pb_t, pb_t]
theorem m_find {τ : SS} {nt nm t : Nat} (hw : wfT τ.1 nt) (hm : wfM τ.1 nt nm) (ho : okU τ.1 nt) (ht : t < nt) (name : Int32) : ∃ r τ', p_X8_find_0 (nI t) name τ = some (r, τ') ∧ kp sV τ τ' ∧ okU τ'.1 nt ∧ isF τ.1 nt nm t name r := by
  have h16 := hw.1
  have h48 := hm.1
  unfold p_X8_find_0
  obtain ⟨r, e1, e2 | ⟨e2, f, e3⟩⟩ := find_2 hw hm (nI t) name 16 t 100000 (by omega) ht (by omega)
  · exact ⟨r, τ, e2.2, kp_rf sV τ, ho, Or.inl ⟨e1, e2.1⟩⟩
  · subst e2
    obtain ⟨τ', q1, q2, q3, q4⟩ := m_findLeft hw hm ho ht name
    rw [e3, p_X8_find_2]
    try dsimp only
    rw [if_pos rfl, oc_s q1, (kp_wfM q2 sV14 hm).2.1, show nI nm - 1 = nI nm + (-1) from by rw [Int32.sub_eq_add_neg]]
    have hQ : ∀ m, m < nm → (lpB τ.1 nt nm t name m = true ↔ lfB τ.1 nt nm t name m = true ∧ τ'.1 7 m = 0) := fun m _ => by rw [kp_c q2 sV14 (by decide) (by decide : 7 < 14)]; exact lpB_iff
    obtain ⟨r, w1, w2⟩ := find_71 (σ := τ') (nm := nm) h48 (L := lfB τ.1 nt nm t name) (Q := lpB τ.1 nt nm t name) (fun m hmm => q4 m (by omega)) hQ nm 100000 (-1) (-1) 0 (Nat.le_refl _) (by omega) (Or.inl ⟨rfl, fun m h1 h2 => by omega⟩) (Or.inl ⟨rfl, fun m h1 h2 => by omega⟩) (by omega)
    refine ⟨r, τ', w1, q2, q3, Or.inr ⟨e1, ?_⟩⟩
    have hcn : cn (lpB τ.1 nt nm t name) 48 = cn (lpB τ.1 nt nm t name) nm := cn_out (fun k h1 _ => lpB_out h1) h48
    rw [hcn]
    rcases w2 with ⟨w2, w3⟩ | ⟨w2, w3⟩
    · exact Or.inl ⟨w2, isLe_cut w3 h48 (fun k h1 _ => lpB_out h1)⟩
    · exact Or.inr ⟨w2, isLe_cut w3 h48 (fun k h1 _ => lfB_out h1)⟩
