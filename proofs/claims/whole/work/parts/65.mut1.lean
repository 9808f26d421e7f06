/-! pure: type, face: both sides alike -/
theorem n10 : ¬ (1 : Int32) = 0 := by decide
theorem rng {α : Type} {n : Nat} {c : Int32} (hc : c = nI n) (hn : n < 2 ^ 20) (v : Int32) (A B : α) : ((∃ k, k < n + 1 ∧ v = nI k) → (if v < 0 then A else if v ≤ c then B else A) = B) ∧ ((¬ ∃ k, k < n + 1 ∧ v = nI k) → (if v < 0 then A else if v ≤ c then B else A) = A) := by
  subst hc
  constructor
  · rintro ⟨k, hk, rfl⟩
    rw [if_neg (nI_pos (by omega)), if_pos (nI_le (by omega) (by omega))]
  · intro h
    rcases ge_neg (n := n + 1) (by omega) h with q | ⟨q1, q2⟩
    · rw [if_pos q]
    · rw [if_neg q1, if_neg (fun q => by
        have h3 : nI (n + 1) ≤ nI n := Int32.le_trans q2 q
        exact nI_ge (Nat.lt_succ_self n) (by omega) h3)]
theorem k_isFace {σ : SS} {P : Nat → Nat → Int32} {nt t : Nat} (hT : cT σ P nt) (h16 : nt ≤ 16) (ht : t < nt) : p_X6_isFace_0 σ (nI t) = some (b2 (decide (P 1 t = 2))) := by
  unfold p_X6_isFace_0 p_X6_isFace_15
  rw [oi_n (show t < 16 by omega) (by decide), nI_clamp (show t < 2 ^ 31 by omega), (hT.2.1 t ht).1]
  by_cases h : P 1 t = 2
  · rw [if_pos h, ob_ok (Or.inr rfl), decide_eq_true h]; rfl
  · rw [if_neg h, ob_ok (Or.inl rfl), decide_eq_false h]; rfl
theorem k_kindOf {σ : SS} {P : Nat → Nat → Int32} {nt t : Nat} (hT : cT σ P nt) (h16 : nt ≤ 16) (ht : t < nt) : p_X6_kindOf_0 σ (nI t) = some (P 1 t) := by
  unfold p_X6_kindOf_0
  rw [oi_n (show t < 16 by omega) (by decide), nI_clamp (show t < 2 ^ 31 by omega), (hT.2.1 t ht).1]
/-- sums -/
def sm (f : Nat → Nat) : Nat → Nat
  | 0 => 0
  | n + 1 => sm f n + f n
theorem sm_congr {f g : Nat → Nat} {n : Nat} (h : ∀ k, k < n → f k = g k) : sm f n = sm g n := by
  induction n with
  | zero => rfl
  | succ n ih => unfold sm; rw [ih (fun k hk => h k (by omega)), h n (by omega)]
theorem sm_upd {f g : Nat → Nat} {n k c : Nat} (hk : k < n) (h : ∀ j, j < n → j ≠ k → g j = f j) (hg : g k = f k + c) : sm g n = sm f n + c := by
  induction n with
  | zero => omega
  | succ n ih =>
    unfold sm
    by_cases e : k = n
    · subst e
      rw [sm_congr (f := g) (g := f) (fun j hj => h j (by omega) (by omega)), hg]
      omega
    · rw [ih (by omega) (fun j hj hne => h j (by omega) hne), h n (by omega) (fun q => e q.symm)]
      omega
/-- a set and one number more -/
theorem cn_more {f g : Nat → Bool} {n k : Nat} (hk : k < n) (h : ∀ j, j < n → j ≠ k → g j = f j) (hf : f k = false) (hg : g k = true) : cn g n = cn f n + 1 := by
  induction n with
  | zero => omega
  | succ n ih =>
    unfold cn
    by_cases e : k = n
    · subst e
      rw [cn_congr (f := g) (g := f) (fun j hj => h j (by omega) (by omega)), hg, hf]
      simp
    · rw [ih (by omega) (fun j hj hne => h j (by omega) hne), h n (by omega) (fun q => e q.symm)]
      omega
/-- no face comes twice -/
def cF (P : Nat → Nat → Int32) (nt : Nat) : Prop := ∀ t, t < nt → ∀ m, P 3 t = nI m → m ≤ 3 → cn (fun u => pb (fce P t u)) 64 = m
/-- every OP has one place -/
def wfS (P : Nat → Nat → Int32) (nm no : Nat) : Prop := ∀ f : Nat → Nat, sm f no = sm (fun m => sm (fun i => f (P 10 (24 * m + i)).toNatClampNeg) (P 9 m).toNatClampNeg) nm
def Inv1 (σ τ : SS) (nt nm no : Nat) : Prop := Inv0 σ τ nt nm no ∧ cF τ.1 nt ∧ wfS τ.1 nm no
theorem wfS_c {P P' : Nat → Nat → Int32} {nm no : Nat} (h : wfS P nm no) (h9 : P' 9 = P 9) (h10 : P' 10 = P 10) : wfS P' nm no := by
  unfold wfS
  rw [h9, h10]
  exact h
theorem mT_cF {τ : SS} {nt : Nat} (hnt : nt < 16) {v1 v2 : Int32} (h : cF τ.1 nt) : cF (mT τ nt v1 v2).1 (nt + 1) := by
  intro t ht m hm hm3
  rw [show (mT τ nt v1 v2).1 3 = upd (τ.1 3) nt 0 from rfl] at hm
  by_cases e : t = nt
  · subst e
    rw [upd_at] at hm
    have hm0 : 0 = m := (nI_eq (a := 0) (by omega) (by omega)).mp hm
    rw [← hm0]
    refine cn_zero (fun u _ => pb_f.mpr ?_)
    rintro ⟨m', i, q1, q2, q3, -⟩
    rw [show (mT τ t v1 v2).1 3 = upd (τ.1 3) t 0 from rfl, upd_at] at q1
    have : 0 = m' := (nI_eq (a := 0) (by omega) (by omega)).mp q1
    omega
  · rw [upd_lt (by omega)] at hm
    rw [← h t (by omega) m hm hm3]
    refine cn_congr (fun u _ => ?_)
    congr 1
    unfold fce
    rw [show (mT τ nt v1 v2).1 3 = upd (τ.1 3) nt 0 from rfl, show (mT τ nt v1 v2).1 4 = τ.1 4 from rfl, upd_lt (show t < nt by omega)]
/-- nothing changed, or both graphs are to be made anew -/
def chg (σ τ σ' τ' : SS) : Prop := (σ' = σ ∧ τ' = τ) ∨ (σ'.1 5 12 = 0 ∧ τ'.1 0 16 = 0)
theorem size_T {σ : SS} {P : Nat → Nat → Int32} {nt : Nat} (hT : cT σ P nt) : p_X6_size_0 σ = some (nI nt) := by unfold p_X6_size_0; rw [hT.1]
theorem size_M {σ : SS} {P : Nat → Nat → Int32} {nm : Nat} (hc : cM σ P nm) : p_X4_size_0 σ = some (nI nm) := by unfold p_X4_size_0; rw [hc.1]
theorem size_O {σ : SS} {P : Nat → Nat → Int32} {nm no : Nat} (hc : cO σ P nm no) : p_X5_size_0 σ = some (nI no) := by unfold p_X5_size_0; rw [hc.1]
theorem m_in2 (v : Int32) : (∃ n, n < 3 ∧ v = nI n ∧ p_X8_in_0 v 0 2 = some 1) ∨ ((¬ ∃ n, n < 3 ∧ v = nI n) ∧ p_X8_in_0 v 0 2 = some 0) := m_in0 (n := 3) (by decide) v
theorem m_in3 (v : Int32) : (∃ n, n < 4 ∧ v = nI n ∧ p_X8_in_0 v 0 3 = some 1) ∨ ((¬ ∃ n, n < 4 ∧ v = nI n) ∧ p_X8_in_0 v 0 3 = some 0) := m_in0 (n := 4) (by decide) v
theorem m_in4 (v : Int32) : (∃ n, n < 5 ∧ v = nI n ∧ p_X8_in_0 v 0 4 = some 1) ∨ ((¬ ∃ n, n < 5 ∧ v = nI n) ∧ p_X8_in_0 v 0 4 = some 0) := m_in0 (n := 5) (by decide) v
theorem q_type {σ τ : SS} {nt nm no : Nat} (hI : Inv1 σ τ nt nm no) (v1 v2 : Int32) : ∃ r σ' τ' nt', p_X7_type_0 v1 v2 σ = some (r, σ') ∧ p_X8_type_0 v1 v2 τ = some (r, τ') ∧ Inv1 σ' τ' nt' nm no ∧ chg σ τ σ' τ' := by
  obtain ⟨hI0, hF, hS⟩ := id hI
  obtain ⟨hw, hM, hO, ho, hT, hc, hcO, hC⟩ := id hI0
  have h16 := hw.1
  have go : (v2 = -1 ∨ ∃ u, u < nt ∧ v2 = nI u) → ∃ r σ' τ' nt', p_X7_type_19 v1 v2 σ = some (r, σ') ∧ p_X8_type_16 v1 v2 τ = some (r, τ') ∧ Inv1 σ' τ' nt' nm no ∧ chg σ τ σ' τ' := by
    intro h2
    unfold p_X7_type_19 p_X8_type_16
    rcases m_in2 v1 with ⟨k, hk, rfl, e1⟩ | ⟨hn, e1⟩
    · have hk3 : nI k = 0 ∨ nI k = 1 ∨ nI k = 2 := by
        rcases (show k = 0 ∨ k = 1 ∨ k = 2 by omega) with rfl | rfl | rfl
        · exact Or.inl rfl
        · exact Or.inr (Or.inl rfl)
        · exact Or.inr (Or.inr rfl)
      rw [(rng (n := 2) (c := 2) rfl (by decide) _ _ _).1 ⟨k, hk, rfl⟩, oc_s e1, if_neg n10]
      have fin : (v2 = -1 ∨ (¬ nI k = 2 ∧ ∃ u, u < nt ∧ v2 = nI u ∧ ¬ τ.1 1 u = 2)) → ∃ r σ' τ' nt', p_X7_type_55 (nI k) v2 σ = some (r, σ') ∧ p_X8_type_48 (nI k) v2 τ = some (r, τ') ∧ Inv1 σ' τ' nt' nm no ∧ chg σ τ σ' τ' := by
        intro h3
        by_cases hnt : nt < 16
        · obtain ⟨σ', q1, q2, q3⟩ := k_type55 hI0 hnt hk3 h3
          exact ⟨nI nt, σ', _, nt + 1, q1, m_type48 hw.2.1 hnt (nI k) v2, ⟨q2, mT_cF hnt hF, wfS_c hS rfl rfl⟩, Or.inr ⟨q3, rfl⟩⟩
        · have e : nt = 16 := by omega
          refine ⟨-104, σ, τ, nt, ?_, ?_, hI, Or.inl ⟨rfl, rfl⟩⟩
          · unfold p_X7_type_55
            rw [oc_s (size_T hT), e, if_neg (by decide)]
          · unfold p_X8_type_48
            rw [hw.2.1, e, if_pos (by decide)]
      rcases h2 with h2 | ⟨u, hu, h2⟩
      · rw [if_pos h2, if_pos h2]
        exact fin (Or.inl h2)
      · have hne : ¬ v2 = -1 := fun q => nI_m1 (u := u) (by omega) (q.symm.trans h2)
        rw [if_neg hne, if_neg hne]
        by_cases hk2 : nI k = 2
        · rw [if_pos hk2, if_pos hk2]
          exact ⟨-102, σ, τ, nt, rfl, rfl, hI, Or.inl ⟨rfl, rfl⟩⟩
        · rw [if_neg hk2, if_neg hk2, h2, oi_n (show u < 16 by omega) (by decide), nI_clamp (show u < 2 ^ 31 by omega), oc_s (k_isFace hT h16 hu), ← h2]
          by_cases hf : τ.1 1 u = 2
          · rw [decide_eq_true hf, if_neg (show ¬ b2 true = 0 by decide), if_pos hf]
            exact ⟨-102, σ, τ, nt, rfl, rfl, hI, Or.inl ⟨rfl, rfl⟩⟩
          · rw [decide_eq_false hf, if_pos (show b2 false = 0 from rfl), if_neg hf]
            exact fin (Or.inr ⟨hk2, u, hu, h2, hf⟩)
    · rw [(rng (n := 2) (c := 2) rfl (by decide) _ _ _).2 hn, oc_s e1, if_pos rfl]
      exact ⟨-102, σ, τ, nt, rfl, rfl, hI, Or.inl ⟨rfl, rfl⟩⟩
  unfold p_X7_type_0 p_X8_type_0
  by_cases h : v2 = -1
  · rw [if_pos h, if_pos h]
    exact go (Or.inl h)
  · rw [if_neg h, if_neg h]
    rcases m_isType hw v2 with ⟨u, hu, e, e1⟩ | ⟨hn, e1⟩
    · rw [oc_s e1, oc_s ((k_knowsT hT h16 _).1 ⟨u, hu, e⟩), if_neg n10, if_neg n10]
      exact go (Or.inr ⟨u, hu, e⟩)
    · rw [oc_s e1, oc_s ((k_knowsT hT h16 _).2 hn), if_pos rfl, if_pos rfl]
      exact ⟨-101, σ, τ, nt, rfl, rfl, hI, Or.inl ⟨rfl, rfl⟩⟩
