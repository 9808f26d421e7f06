/-! pure: the i-th of a set -/
/-- r is the i-th number of a set of numbers below N, or -1 -/
def isNth (f : Nat → Bool) (N : Nat) (i r : Int32) : Prop := (r = -1 ∧ (i < 0 ∨ nI (cn f N) ≤ i)) ∨ ∃ k, k < N ∧ f k = true ∧ i = nI (cn f k) ∧ r = nI k
theorem cn_lt {f : Nat → Bool} {a b : Nat} (ha : f a = true) (h : a < b) : cn f a < cn f b := by
  have h1 := cn_mono f (show a + 1 ≤ b from h)
  have h2 : cn f (a + 1) = cn f a + 1 := by show cn f a + (if f a = true then 1 else 0) = _; rw [if_pos ha]
  omega
theorem cn_pos {f : Nat → Bool} {n : Nat} (h : 0 < cn f n) : ∃ k, k < n ∧ f k = true := by
  induction n with
  | zero => exact absurd h (Nat.lt_irrefl 0)
  | succ n ih =>
    by_cases hf : f n = true
    · exact ⟨n, by omega, hf⟩
    · have h1 : cn f (n + 1) = cn f n := by show cn f n + (if f n = true then 1 else 0) = _; rw [if_neg hf]; rfl
      obtain ⟨k, hk, e⟩ := ih (by omega)
      exact ⟨k, by omega, e⟩
theorem isNth_one {f : Nat → Bool} {N : Nat} (hN : N < 2 ^ 30) {i r r' : Int32} (h : isNth f N i r) (h' : isNth f N i r') : r = r' := by
  have hle := fun k => cn_le f k
  rcases h with ⟨h1, h2⟩ | ⟨k, hk, hf, hi, hr⟩ <;> rcases h' with ⟨g1, g2⟩ | ⟨k', hk', hf', hi', hr'⟩
  · rw [h1, g1]
  · exfalso
    rw [hi'] at h2
    have e1 := cn_lt hf' hk'
    have e2 := hle N
    have e3 := hle k'
    rcases h2 with h2 | h2
    · exact nI_pos (by omega) h2
    · exact nI_ge e1 (by omega) h2
  · exfalso
    rw [hi] at g2
    have e1 := cn_lt hf hk
    have e2 := hle N
    have e3 := hle k
    rcases g2 with g2 | g2
    · exact nI_pos (by omega) g2
    · exact nI_ge e1 (by omega) g2
  · have e2 := hle k
    have e3 := hle k'
    have e4 : cn f k = cn f k' := by
      rw [hi] at hi'
      exact (nI_eq (by omega) (by omega)).mp hi'
    have e5 : k = k' := by
      rcases Nat.lt_trichotomy k k' with q | q | q
      · have := cn_lt hf q; omega
      · exact q
      · have := cn_lt hf' q; omega
    rw [hr, hr', e5]
theorem isNth_congr {f g : Nat → Bool} {N : Nat} {i r : Int32} (h : ∀ k, k < N → f k = g k) (hn : isNth f N i r) : isNth g N i r := by
  rcases hn with ⟨h1, h2⟩ | ⟨k, hk, hf, hi, hr⟩
  · exact Or.inl ⟨h1, by rw [← cn_congr h]; exact h2⟩
  · exact Or.inr ⟨k, hk, by rw [← h k hk]; exact hf, by rw [hi, cn_congr (fun j hj => h j (by omega))], hr⟩
/-- a set whose members all lie below M -/
theorem cn_out {f : Nat → Bool} {M N : Nat} (h : ∀ k, M ≤ k → k < N → f k = false) (hMN : M ≤ N) : cn f N = cn f M := by
  induction N with
  | zero => rw [show M = 0 by omega]
  | succ N ih =>
    by_cases e : M = N + 1
    · rw [e]
    · show cn f N + (if f N = true then 1 else 0) = _
      rw [h N (by omega) (by omega), ih (fun k h1 h2 => h k h1 (by omega)) (by omega)]
      rfl
theorem isNth_cut {f : Nat → Bool} {M N : Nat} {i r : Int32} (h : ∀ k, M ≤ k → k < N → f k = false) (hMN : M ≤ N) : isNth f N i r ↔ isNth f M i r := by
  have e := cn_out h hMN
  constructor
  · rintro (⟨h1, h2⟩ | ⟨k, hk, hf, hi, hr⟩)
    · exact Or.inl ⟨h1, by rw [← e]; exact h2⟩
    · have hkM : k < M := by
        rcases Nat.lt_or_ge k M with q | q
        · exact q
        · rw [h k q hk] at hf; cases hf
      exact Or.inr ⟨k, hkM, hf, hi, hr⟩
  · rintro (⟨h1, h2⟩ | ⟨k, hk, hf, hi, hr⟩)
    · exact Or.inl ⟨h1, by rw [e]; exact h2⟩
    · exact Or.inr ⟨k, by omega, hf, hi, hr⟩
theorem nth_loop (x : Int64) (i : Nat) (hi : i < cn (lb x) 64) : ∀ (m n fuel : Nat), n + m = 64 → m < fuel → cn (lb x) n ≤ i → ∃ k, k < 64 ∧ lb x k = true ∧ cn (lb x) k = i ∧ p_X0_nth_19 fuel x (nI i) (nI (cn (lb x) n)) (nI n) = some (nI k) := by
  have h64 := cn_le (lb x) 64
  intro m
  induction m with
  | zero =>
    intro n fuel hn hf hc
    exfalso
    rw [show n = 64 by omega] at hc
    omega
  | succ m ih =>
    intro n fuel hn hf hc
    obtain ⟨f, rfl⟩ : ∃ f, fuel = f + 1 := ⟨fuel - 1, by omega⟩
    have hn64 : n < 64 := by omega
    have hcn := cn_le (lb x) n
    have hs : cn (lb x) (n + 1) = cn (lb x) n + (if lb x n = true then 1 else 0) := rfl
    rw [p_X0_nth_19]
    try dsimp only
    rw [if_neg (show ¬ (64 : Int32) ≤ nI n from nI_ge (b := 64) hn64 (by decide)), oc_s (p_has hn64)]
    cases hb : lb x n with
    | false =>
      rw [if_pos (b2_0.mpr rfl)]
      unfold p_X0_nth_49
      rw [hb] at hs
      have hs' : cn (lb x) (n + 1) = cn (lb x) n := hs
      rw [nI_1, ← hs']
      exact ih (n + 1) f (by omega) (by omega) (by omega)
    | true =>
      rw [if_neg (fun e => by have := b2_0.mp e; cases this)]
      rw [hb] at hs
      have hs' : cn (lb x) (n + 1) = cn (lb x) n + 1 := hs
      by_cases e : cn (lb x) n = i
      · rw [if_pos (by rw [e])]
        exact ⟨n, hn64, hb, e, rfl⟩
      · rw [if_neg (fun q => e ((nI_eq (by omega) (by omega)).mp q))]
        unfold p_X0_nth_49
        rw [nI_1, nI_1, ← hs']
        exact ih (n + 1) f (by omega) (by omega) (by omega)
theorem p_nth (x : Int64) (v : Int32) : ∃ r, p_X0_nth_0 x v = some r ∧ isNth (lb x) 64 v r := by
  have h64 := cn_le (lb x) 64
  unfold p_X0_nth_0
  by_cases h0 : v < 0
  · rw [if_pos h0]
    exact ⟨-1, rfl, Or.inl ⟨rfl, Or.inl h0⟩⟩
  · rw [if_neg h0, oc_s (p_bitCount x)]
    by_cases h1 : v < nI (cn (lb x) 64)
    · rw [if_pos h1]
      obtain ⟨j, hj, rfl⟩ := nI_of h0
      have hj2 : j < cn (lb x) 64 := (nI_ltI hj (by omega)).mp h1
      obtain ⟨k, hk, hb, hc, he⟩ := nth_loop x j hj2 64 0 100000 (by omega) (by omega) (Nat.zero_le _)
      exact ⟨nI k, he, Or.inr ⟨k, hk, hb, by rw [hc], rfl⟩⟩
    · rw [if_neg h1]
      exact ⟨-1, rfl, Or.inl ⟨rfl, Or.inr (Int32.not_lt.mp h1)⟩⟩
theorem p_least (x : Int64) : ∃ r, p_X0_least_0 x = some r ∧ isNth (lb x) 64 0 r := by
  obtain ⟨r, h1, h2⟩ := p_nth x 0
  exact ⟨r, by unfold p_X0_least_0; rw [oc_s h1], h2⟩
