/-! pure: cells put whole; types and what is above them, by the reference's rows -/
def pI (σ : SS) (k : Nat) (f : Nat → Int32) : SS := (va_up σ.1 k f, σ.2)
def pL (σ : SS) (k : Nat) (f : Nat → Int64) : SS := (σ.1, va_up σ.2 k f)
theorem pI_s (σ : SS) (k : Nat) (f : Nat → Int32) (j : Nat) (x : Int32) : sI (pI σ k f) k j x = pI σ k (upd f j x) := by
  have h : va_up (va_up σ.1 k f) k (upd (va_up σ.1 k f k) j x) = va_up σ.1 k (upd f j x) := by
    funext c
    by_cases e : c = k
    · subst e; simp [va_up]
    · simp [va_up, e]
  show (va_up (va_up σ.1 k f) k (upd (va_up σ.1 k f k) j x), σ.2) = _
  rw [h]; rfl
theorem pL_s (σ : SS) (k : Nat) (f : Nat → Int64) (j : Nat) (x : Int64) : sL (pL σ k f) k j x = pL σ k (vp_updL f j x) := by
  have h : va_up (va_up σ.2 k f) k (vp_updL (va_up σ.2 k f k) j x) = va_up σ.2 k (vp_updL f j x) := by
    funext c
    by_cases e : c = k
    · subst e; simp [va_up]
    · simp [va_up, e]
  show (σ.1, va_up (va_up σ.2 k f) k (vp_updL (va_up σ.2 k f k) j x)) = _
  rw [h]; rfl
theorem pI_self (σ : SS) (k : Nat) : pI σ k (σ.1 k) = σ := by
  have h : va_up σ.1 k (σ.1 k) = σ.1 := by
    funext c
    by_cases e : c = k
    · subst e; simp [va_up]
    · simp [va_up, e]
  show (va_up σ.1 k (σ.1 k), σ.2) = σ
  rw [h]
theorem pL_self (σ : SS) (k : Nat) : pL σ k (σ.2 k) = σ := by
  have h : va_up σ.2 k (σ.2 k) = σ.2 := by
    funext c
    by_cases e : c = k
    · subst e; simp [va_up]
    · simp [va_up, e]
  show (σ.1, va_up σ.2 k (σ.2 k)) = σ
  rw [h]
theorem sI_p (σ : SS) (k j : Nat) (x : Int32) : sI σ k j x = pI σ k (upd (σ.1 k) j x) := rfl
theorem sL_p (σ : SS) (k j : Nat) (x : Int64) : sL σ k j x = pL σ k (vp_updL (σ.2 k) j x) := rfl
theorem pI_pI (σ : SS) (k : Nat) (f g : Nat → Int32) : pI (pI σ k f) k g = pI σ k g := by
  have h : va_up (va_up σ.1 k f) k g = va_up σ.1 k g := by
    funext c
    by_cases e : c = k
    · subst e; simp [va_up]
    · simp [va_up, e]
  show (va_up (va_up σ.1 k f) k g, σ.2) = _
  rw [h]; rfl
theorem pL_pL (σ : SS) (k : Nat) (f g : Nat → Int64) : pL (pL σ k f) k g = pL σ k g := by
  have h : va_up (va_up σ.2 k f) k g = va_up σ.2 k g := by
    funext c
    by_cases e : c = k
    · subst e; simp [va_up]
    · simp [va_up, e]
  show (σ.1, va_up (va_up σ.2 k f) k g) = _
  rw [h]; rfl
theorem pI_at (σ : SS) (k : Nat) (f : Nat → Int32) : (pI σ k f).1 k = f := by show va_up σ.1 k f k = f; simp [va_up]
theorem pL_at (σ : SS) (k : Nat) (f : Nat → Int64) : (pL σ k f).2 k = f := by show va_up σ.2 k f k = f; simp [va_up]
theorem pI_ne (σ : SS) {k c : Nat} (f : Nat → Int32) (h : c ≠ k) : (pI σ k f).1 c = σ.1 c := by show va_up σ.1 k f c = _; simp [va_up, h]
theorem pL_ne (σ : SS) {k c : Nat} (f : Nat → Int64) (h : c ≠ k) : (pL σ k f).2 c = σ.2 c := by show va_up σ.2 k f c = _; simp [va_up, h]
noncomputable def pb (p : Prop) : Bool := @decide p (Classical.propDecidable p)
theorem pb_t {p : Prop} : pb p = true ↔ p := by unfold pb; simp
theorem pb_f {p : Prop} : pb p = false ↔ ¬ p := by unfold pb; simp
def zn (N : Nat) (f : Nat → Int32) : Prop := ∀ j, j < N → f j = 0 ∨ f j = 1
theorem zn_u {N : Nat} {f : Nat → Int32} (h : zn N f) {k : Nat} {x : Int32} (hx : x = 0 ∨ x = 1) : zn N (upd f k x) := fun j hj => by
  unfold upd
  by_cases e : j = k
  · rw [if_pos e]; exact hx
  · rw [if_neg e]; exact h j hj
theorem n01 {x : Int32} (h : x = 0 ∨ x = 1) : ¬ x = 0 ↔ x = 1 := by
  rcases h with rfl | rfl <;> decide
theorem zn_b {N : Nat} {f : Nat → Int32} (h : zn N f) {j : Nat} (hj : j < N) {p : Prop} (hp : f j = 1 ↔ p) : f j = b2 (pb p) := by
  rcases h j hj with e | e
  · have h1 : pb p = false := pb_f.mpr (fun q => by have := hp.mpr q; rw [e] at this; exact absurd this (by decide))
    rw [e, h1]; rfl
  · have h1 : pb p = true := pb_t.mpr (hp.mp e)
    rw [e, h1]; rfl
/-- u is the SUPER or a FACE of t -/
def nxt (P : Nat → Nat → Int32) (t u : Nat) : Prop := P 2 t = nI u ∨ ∃ m i, P 3 t = nI m ∧ m ≤ 3 ∧ i < m ∧ P 4 (3 * t + i) = nI u
def abv (P : Nat → Nat → Int32) : Nat → Nat → Prop := Relation.TransGen (fun t u => u < t ∧ nxt P t u)
def und (P : Nat → Nat → Int32) (t u : Nat) : Prop := t = u ∨ abv P t u
/-- the types are as they may be -/
def wfT (P : Nat → Nat → Int32) (nt : Nat) : Prop := nt ≤ 16 ∧ P 0 0 = nI nt ∧ ∀ t, t < nt → (P 1 t = 0 ∨ P 1 t = 1 ∨ P 1 t = 2) ∧ (P 2 t = -1 ∨ ∃ u, u < t ∧ P 2 t = nI u ∧ ¬ P 1 u = 2) ∧ (P 1 t = 2 → P 2 t = -1) ∧ ∃ m, m ≤ 3 ∧ P 3 t = nI m ∧ ∀ i, i < m → ∃ f, f < t ∧ P 4 (3 * t + i) = nI f ∧ P 1 f = 2
theorem abv_lt {P : Nat → Nat → Int32} {t u : Nat} (h : abv P t u) : u < t := by
  induction h with
  | single h => exact h.1
  | tail _ h ih => exact Nat.lt_trans h.1 ih
theorem und_le {P : Nat → Nat → Int32} {t u : Nat} (h : und P t u) : u ≤ t := by
  rcases h with h | h
  · omega
  · have := abv_lt h; omega
theorem und_step {P : Nat → Nat → Int32} {t i j : Nat} (h : und P t i) (hj : j < i) (hn : nxt P i j) : und P t j := by
  rcases h with rfl | h
  · exact Or.inr (Relation.TransGen.single ⟨hj, hn⟩)
  · exact Or.inr (Relation.TransGen.tail h ⟨hj, hn⟩)
theorem und_last {P : Nat → Nat → Int32} {t j : Nat} (h : und P t j) : t = j ∨ ∃ i, und P t i ∧ j < i ∧ nxt P i j := by
  rcases h with h | h
  · exact Or.inl h
  · cases h with
    | single h => exact Or.inr ⟨t, Or.inl rfl, h.1, h.2⟩
    | tail h1 h2 => exact Or.inr ⟨_, Or.inr h1, h2.1, h2.2⟩
theorem nxt_lt {P : Nat → Nat → Int32} {nt t u : Nat} (hw : wfT P nt) (ht : t < nt) (hu : u < 2 ^ 31) (h : nxt P t u) : u < t := by
  obtain ⟨h16, -, hT⟩ := hw
  obtain ⟨-, h2, -, m, hm, h3, h4⟩ := hT t ht
  rcases h with h | ⟨m', i, e3, hm', hi, e4⟩
  · rcases h2 with h2 | ⟨v, hv, h2, -⟩
    · rw [h2] at h
      exact absurd (show (nI u) < 0 by rw [← h]; decide) (nI_pos hu)
    · rw [h2] at h
      have : v = u := (nI_eq (by omega) hu).mp h
      omega
  · rw [h3] at e3
    have : m = m' := (nI_eq (by omega) (by omega)).mp e3
    subst this
    obtain ⟨f, hf, e5, -⟩ := h4 i hi
    rw [e5] at e4
    have : f = u := (nI_eq (by omega) hu).mp e4
    omega
