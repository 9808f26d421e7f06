/-! pure: type on both sides -/
def opw (P : Nat → Nat → Int32) (nt nm o : Nat) : Prop := (P 11 o = 0 ∧ ∃ t, t < nt ∧ P 12 o = nI t ∧ P 1 t = 0) ∨ ((P 11 o = 1 ∨ P 11 o = 2 ∨ P 11 o = 3 ∨ P 11 o = 4) ∧ ∃ t n, t < nt ∧ n < 10 ∧ P 12 o = nI t ∧ P 13 o = nI n) ∨ (P 11 o = 5 ∧ ∃ a m, a < 4 ∧ m < nm ∧ P 12 o = nI a ∧ P 13 o = nI m ∧ (P 7 m = 0 ∨ P 7 m = 2 ∨ P 7 m = 3)) ∨ (P 11 o = 6 ∧ ∃ a, a < 4 ∧ P 12 o = nI a) ∨ (P 11 o = 7 ∧ ∃ n, n < 10 ∧ P 13 o = nI n)
def wfO (P : Nat → Nat → Int32) (nt nm no : Nat) : Prop := no ≤ 160 ∧ P 0 12 = nI no ∧ (∀ m, m < nm → ∃ c, c ≤ 24 ∧ P 9 m = nI c ∧ (0 < c → ¬ P 7 m = 1) ∧ ∀ i, i < c → ∃ o, o < no ∧ P 10 (24 * m + i) = nI o) ∧ ∀ o, o < no → opw P nt nm o
def cO (σ : SS) (P : Nat → Nat → Int32) (nm no : Nat) : Prop := σ.1 4 5 = nI no ∧ (∀ o, o < no → σ.1 19 o = P 11 o ∧ σ.1 20 o = P 12 o ∧ σ.1 21 o = P 13 o) ∧ (∀ m, m < nm → σ.1 22 m = P 9 m) ∧ (∀ m, m < nm → ∀ c i, P 9 m = nI c → c ≤ 24 → i < c → σ.1 23 (m * 24 + i) = P 10 (24 * m + i)) ∧ ∀ m, nm ≤ m → m < 48 → σ.1 22 m = 0
def Inv0 (σ τ : SS) (nt nm no : Nat) : Prop := wfT τ.1 nt ∧ wfM τ.1 nt nm ∧ wfO τ.1 nt nm no ∧ okU τ.1 nt ∧ cT σ τ.1 nt ∧ cM σ τ.1 nm ∧ cO σ τ.1 nm no ∧ cC σ τ.1 nt nm
theorem abv_loc1 {P P' : Nat → Nat → Int32} {nt : Nat} (h : ∀ t, t < nt → ∀ u, nxt P t u → nxt P' t u) {t u : Nat} (ht : t < nt) (ha : abv P t u) : abv P' t u := by
  induction ha with
  | single h1 => exact Relation.TransGen.single ⟨h1.1, h t ht _ h1.2⟩
  | tail h1 h2 ih =>
    have := abv_lt h1
    exact Relation.TransGen.tail ih ⟨h2.1, h _ (by omega) _ h2.2⟩
theorem abv_loc {P P' : Nat → Nat → Int32} {nt : Nat} (h : ∀ t, t < nt → ∀ u, nxt P' t u ↔ nxt P t u) {t u : Nat} (ht : t < nt) : abv P' t u ↔ abv P t u :=
  ⟨abv_loc1 (fun t ht u => (h t ht u).mp) ht, abv_loc1 (fun t ht u => (h t ht u).mpr) ht⟩
def mT (τ : SS) (nt : Nat) (v1 v2 : Int32) : SS := sI (sI (sI (sI (sI (sI τ 1 nt v1) 2 nt v2) 3 nt 0) 0 0 (nI (nt + 1))) 0 16 0) 0 26 0
theorem m_type48 {τ : SS} {nt : Nat} (h0 : τ.1 0 0 = nI nt) (hnt : nt < 16) (v1 v2 : Int32) : p_X8_type_48 v1 v2 τ = some (nI nt, mT τ nt v1 v2) := by
  unfold p_X8_type_48
  rw [h0, if_neg (show ¬ nI nt = 16 from fun q => by have := (nI_eq (b := 16) (by omega) (by omega)).mp q; omega), oi_n hnt (by decide), nI_clamp (show nt < 2 ^ 31 by omega)]
  unfold os
  dsimp only
  rw [show (sI τ 1 nt v1).1 0 0 = nI nt from h0, oi_n hnt (by decide), nI_clamp (show nt < 2 ^ 31 by omega)]
  rw [show (sI (sI τ 1 nt v1) 2 nt v2).1 0 0 = nI nt from h0, oi_n hnt (by decide), nI_clamp (show nt < 2 ^ 31 by omega)]
  rw [show (sI (sI (sI τ 1 nt v1) 2 nt v2) 3 nt 0).1 0 0 = nI nt from h0, nI_1]
  rw [show (sI (sI (sI (sI (sI (sI τ 1 nt v1) 2 nt v2) 3 nt 0) 0 0 (nI (nt + 1))) 0 16 0) 0 26 0).1 0 0 = nI (nt + 1) from rfl, nI_pred]
  rfl
theorem upd_lt {f : Nat → Int32} {k j : Nat} {x : Int32} (h : j < k) : upd f k x j = f j := by unfold upd; rw [if_neg (by omega)]
theorem upd_at {f : Nat → Int32} {k : Nat} {x : Int32} : upd f k x k = x := by unfold upd; rw [if_pos rfl]
theorem mT_nxt (τ : SS) (nt : Nat) (v1 v2 : Int32) : ∀ t, t < nt → ∀ u, nxt (mT τ nt v1 v2).1 t u ↔ nxt τ.1 t u := by
  intro t ht u
  unfold nxt
  rw [show (mT τ nt v1 v2).1 2 = upd (τ.1 2) nt v2 from rfl, show (mT τ nt v1 v2).1 3 = upd (τ.1 3) nt 0 from rfl, show (mT τ nt v1 v2).1 4 = τ.1 4 from rfl, upd_lt ht, upd_lt ht]
theorem mT_wfT {τ : SS} {nt : Nat} (hw : wfT τ.1 nt) (hnt : nt < 16) {v1 v2 : Int32} (h1 : v1 = 0 ∨ v1 = 1 ∨ v1 = 2) (h2 : v2 = -1 ∨ (¬ v1 = 2 ∧ ∃ u, u < nt ∧ v2 = nI u ∧ ¬ τ.1 1 u = 2)) : wfT (mT τ nt v1 v2).1 (nt + 1) := by
  refine ⟨by omega, rfl, fun t ht => ?_⟩
  rw [show (mT τ nt v1 v2).1 1 = upd (τ.1 1) nt v1 from rfl, show (mT τ nt v1 v2).1 2 = upd (τ.1 2) nt v2 from rfl, show (mT τ nt v1 v2).1 3 = upd (τ.1 3) nt 0 from rfl, show (mT τ nt v1 v2).1 4 = τ.1 4 from rfl]
  by_cases e : t = nt
  · subst e
    rw [upd_at, upd_at, upd_at]
    refine ⟨h1, ?_, ?_, 0, by omega, rfl, fun i hi => absurd hi (Nat.not_lt_zero _)⟩
    · rcases h2 with h2 | ⟨-, u, hu, h3, h4⟩
      · exact Or.inl h2
      · exact Or.inr ⟨u, hu, h3, by rw [upd_lt hu]; exact h4⟩
    · intro q
      rcases h2 with h2 | ⟨h3, -⟩
      · exact h2
      · exact absurd q h3
  · have htn : t < nt := by omega
    rw [upd_lt htn, upd_lt htn, upd_lt htn]
    obtain ⟨a1, a2, a3, m, a4, a5, a6⟩ := hw.2.2 t htn
    refine ⟨a1, ?_, a3, m, a4, a5, fun i hi => ?_⟩
    · rcases a2 with a2 | ⟨u, hu, b1, b2⟩
      · exact Or.inl a2
      · exact Or.inr ⟨u, hu, b1, by rw [upd_lt (by omega)]; exact b2⟩
    · obtain ⟨f, b1, b2, b3⟩ := a6 i hi
      exact ⟨f, b1, b2, by rw [upd_lt (by omega)]; exact b3⟩
theorem wfM_up {P P' : Nat → Nat → Int32} {nt nt' nm : Nat} (h : wfM P nt nm) (hn : nt ≤ nt') (h0 : P' 0 5 = P 0 5) (h1 : ∀ t, t < nt → P' 1 t = P 1 t) (h5 : P' 5 = P 5) (h6 : P' 6 = P 6) (h7 : P' 7 = P 7) (h8 : P' 8 = P 8) : wfM P' nt' nm := by
  unfold wfM
  rw [h0, h5, h6, h7, h8]
  refine ⟨h.1, h.2.1, fun m hm => ?_, h.2.2.2⟩
  obtain ⟨⟨t, a1, a2, a3⟩, a4, a5⟩ := h.2.2.1 m hm
  exact ⟨⟨t, by omega, a2, fun q => by rw [h1 t a1]; exact a3 q⟩, a4, a5⟩
theorem wfO_up {P P' : Nat → Nat → Int32} {nt nt' nm no : Nat} (h : wfO P nt nm no) (hn : nt ≤ nt') (h0 : P' 0 12 = P 0 12) (h1 : ∀ t, t < nt → P' 1 t = P 1 t) (h7 : P' 7 = P 7) (h9 : P' 9 = P 9) (h10 : P' 10 = P 10) (h11 : P' 11 = P 11) (h12 : P' 12 = P 12) (h13 : P' 13 = P 13) : wfO P' nt' nm no := by
  unfold wfO opw
  rw [h0, h7, h9, h10, h11, h12, h13]
  refine ⟨h.1, h.2.1, h.2.2.1, fun o ho => ?_⟩
  rcases h.2.2.2 o ho with ⟨a1, t, a2, a3, a4⟩ | ⟨a1, t, n, a2, a3, a4⟩ | a | a
  · exact Or.inl ⟨a1, t, by omega, a3, by rw [h1 t a2]; exact a4⟩
  · exact Or.inr (Or.inl ⟨a1, t, n, by omega, a3, a4⟩)
  · exact Or.inr (Or.inr (Or.inl a))
  · exact Or.inr (Or.inr (Or.inr a))
theorem cM_P {σ : SS} {P P' : Nat → Nat → Int32} {nm : Nat} (h : cM σ P nm) (h5 : P' 5 = P 5) (h6 : P' 6 = P 6) (h7 : P' 7 = P 7) (h8 : P' 8 = P 8) : cM σ P' nm := by
  unfold cM isOwn pbs at h ⊢
  rw [h5, h6, h7, h8]
  exact h
theorem cO_P {σ : SS} {P P' : Nat → Nat → Int32} {nm no : Nat} (h : cO σ P nm no) (h9 : P' 9 = P 9) (h10 : P' 10 = P 10) (h11 : P' 11 = P 11) (h12 : P' 12 = P 12) (h13 : P' 13 = P 13) : cO σ P' nm no := by
  unfold cO at h ⊢
  rw [h9, h10, h11, h12, h13]
  exact h
theorem cO_c {σ σ' : SS} {P : Nat → Nat → Int32} {nm no : Nat} (h : cO σ P nm no) (h4 : σ'.1 4 5 = σ.1 4 5) (h19 : σ'.1 19 = σ.1 19) (h20 : σ'.1 20 = σ.1 20) (h21 : σ'.1 21 = σ.1 21) (h22 : σ'.1 22 = σ.1 22) (h23 : σ'.1 23 = σ.1 23) : cO σ' P nm no := by
  unfold cO at h ⊢
  rw [h4, h19, h20, h21, h22, h23]
  exact h
theorem sL_same (σ : SS) (k j : Nat) : sL σ k j (σ.2 k j) = σ := by
  rw [sL_p]
  have : vp_updL (σ.2 k) j (σ.2 k j) = σ.2 k := by
    funext i
    unfold vp_updL
    by_cases e : i = j
    · rw [if_pos e, e]
    · rw [if_neg e]
  rw [this, pL_self]
theorem os_s {α : Type} (s : SS) (k : SS → Option α) : os s k = k s := rfl
theorem with_s (x : Int64) (v : Int32) : p_X0_with_0 x v = some (x ||| jshl 1 v) := rfl
theorem k_add {σ : SS} {nt : Nat} (h : σ.1 1 5 = nI nt) (hnt : nt < 16) (v1 v2 : Int32) : p_X6_add_0 v1 v2 σ = p_X6_add_36 (nI nt) (sL (sI (sI σ 7 nt v1) 8 nt v2) 1 4 (if v1 = 2 then σ.2 1 4 ||| jshl 1 (nI nt) else σ.2 1 4)) := by
  have hid := sL_same (sI (sI σ 7 nt v1) 8 nt v2) 1 4
  have haf : (sI (sI σ 7 nt v1) 8 nt v2).2 1 4 = σ.2 1 4 := rfl
  rw [haf] at hid
  rw [p_X6_add_0, h, oi_n hnt (by decide), nI_clamp (show nt < 2 ^ 31 by omega), os_s, oi_n hnt (by decide), os_s, haf]
  generalize sI (sI σ 7 nt v1) 8 nt v2 = z at hid ⊢
  by_cases hk : v1 = 2
  · rw [if_pos hk, if_pos hk, with_s, oc_s rfl, os_s]
  · rw [if_neg hk, if_neg hk, hid]
/-- a type comes to the class -/
theorem k_type55 {σ τ : SS} {nt nm no : Nat} (hI : Inv0 σ τ nt nm no) (hnt : nt < 16) {v1 v2 : Int32} (h1 : v1 = 0 ∨ v1 = 1 ∨ v1 = 2) (h2 : v2 = -1 ∨ (¬ v1 = 2 ∧ ∃ u, u < nt ∧ v2 = nI u ∧ ¬ τ.1 1 u = 2)) : ∃ σ', p_X7_type_55 v1 v2 σ = some (nI nt, σ') ∧ Inv0 σ' (mT τ nt v1 v2) (nt + 1) nm no ∧ σ'.1 5 12 = 0 := by
  obtain ⟨hw, hM, hO, ho, hT, hc, hcO, hC⟩ := hI
  have hw' := mT_wfT hw hnt h1 h2
  have hM' : wfM (mT τ nt v1 v2).1 (nt + 1) nm := wfM_up hM (by omega) rfl (fun t ht => upd_lt ht) rfl rfl rfl rfl
  have hO' : wfO (mT τ nt v1 v2).1 (nt + 1) nm no := wfO_up hO (by omega) rfl (fun t ht => upd_lt ht) rfl rfl rfl rfl rfl rfl
  -- the class's state ahead of tellAbove
  have main : ∀ (af : Int64), (∀ u, u < 64 → (lb af u = true ↔ u < nt + 1 ∧ (mT τ nt v1 v2).1 1 u = 2)) → ∃ σ', oc (p_X6_add_36 (nI nt) (sL (sI (sI (sI σ 5 12 0) 7 nt v1) 8 nt v2) 1 4 af)) (fun r_83 => oc (p_X1_tellAll_0 r_83.2) (fun r_91 => some (r_83.1, r_91))) = some (nI nt, σ') ∧ Inv0 σ' (mT τ nt v1 v2) (nt + 1) nm no ∧ σ'.1 5 12 = 0 := by
    intro af haf
    obtain ⟨s0, es0⟩ : ∃ z, z = sI (sL (sI (sI (sI σ 5 12 0) 7 nt v1) 8 nt v2) 1 4 af) 1 5 (nI (nt + 1)) := ⟨_, rfl⟩
    have h15 : s0.1 1 5 = nI (nt + 1) := by rw [es0]; rfl
    have r7 : s0.1 7 = upd (σ.1 7) nt v1 := by rw [es0]; rfl
    have r8 : s0.1 8 = upd (σ.1 8) nt v2 := by rw [es0]; rfl
    have r9 : s0.2 9 = σ.2 9 := by rw [es0]; rfl
    have r14 : s0.2 1 4 = af := by rw [es0]; rfl
    have h8 : ∀ t, t < nt + 1 → s0.1 8 t = (mT τ nt v1 v2).1 2 t := fun t ht => by
      rw [r8, show (mT τ nt v1 v2).1 2 = upd (τ.1 2) nt v2 from rfl]
      by_cases e : t = nt
      · rw [e, upd_at, upd_at]
      · rw [upd_lt (by omega), upd_lt (by omega)]; exact (hT.2.1 t (by omega)).2
    have h7 : ∀ t, t < nt + 1 → s0.1 7 t = (mT τ nt v1 v2).1 1 t := fun t ht => by
      rw [r7, show (mT τ nt v1 v2).1 1 = upd (τ.1 1) nt v1 from rfl]
      by_cases e : t = nt
      · rw [e, upd_at, upd_at]
      · rw [upd_lt (by omega), upd_lt (by omega)]; exact (hT.2.1 t (by omega)).1
    have h9 : ∀ t, t < nt + 1 → ∀ u, u < 64 → (lb (s0.2 9 t) u = true ↔ fce (mT τ nt v1 v2).1 t u) := fun t ht u hu => by
      rw [r9]
      unfold fce
      rw [show (mT τ nt v1 v2).1 3 = upd (τ.1 3) nt 0 from rfl, show (mT τ nt v1 v2).1 4 = τ.1 4 from rfl]
      by_cases e : t = nt
      · subst e
        rw [hT.2.2.2.1 t (Nat.le_refl _) hnt, upd_at]
        constructor
        · intro h; exact (no_lb h).elim
        · rintro ⟨m, i, q1, q2, q3, -⟩
          have : 0 = m := (nI_eq (a := 0) (by omega) (by omega)).mp q1
          omega
      · rw [upd_lt (by omega)]; exact hT.2.2.1 t (by omega) u hu
    obtain ⟨g, e1, e2⟩ := k_tellAbove hw' h15 h8 h9
    have hT1 : cT (pL s0 10 g) (mT τ nt v1 v2).1 (nt + 1) := by
      refine ⟨h15, fun t ht => ⟨h7 t ht, h8 t ht⟩, fun t ht u hu => ?_, fun t ht1 ht2 => ?_, fun u hu => ?_, fun t ht u hu => ?_⟩
      · rw [pL_ne _ _ (by decide : (9 : Nat) ≠ 10)]; exact h9 t ht u hu
      · rw [pL_ne _ _ (by decide : (9 : Nat) ≠ 10), r9]; exact hT.2.2.2.1 t (by omega) ht2
      · rw [pL_ne _ _ (by decide : (1 : Nat) ≠ 10), r14]; exact haf u hu
      · rw [pL_at]; exact e2 t ht u hu
    have hc1 : cM (pL s0 10 g) (mT τ nt v1 v2).1 nm := cM_P (cM_c hc (by rw [es0]; rfl) (by rw [es0]; rfl) (by rw [es0]; rfl) (by rw [es0]; rfl) (by rw [es0]; rfl) (by rw [es0]; rfl) (by rw [es0]; rfl) (by rw [es0]; rfl)) rfl rfl rfl rfl
    obtain ⟨s', q1, q2, q3⟩ := k_tellAll hw' hM' hT1 hc1
    have hadd : p_X6_add_36 (nI nt) (sL (sI (sI (sI σ 5 12 0) 7 nt v1) 8 nt v2) 1 4 af) = some (nI nt, pL s0 10 g) := by
      unfold p_X6_add_36 os
      dsimp only
      rw [show (sL (sI (sI (sI σ 5 12 0) 7 nt v1) 8 nt v2) 1 4 af).1 1 5 = nI nt from hT.1, nI_1, ← es0, oc_s e1]
    refine ⟨s', ?_, ⟨hw', hM', hO', Or.inl rfl, kq_cT q2 hT1, kq_cM q2 hc1, ?_, q3⟩, ?_⟩
    · rw [oc_s hadd, oc_s q1]
    · refine cO_P (cO_c hcO ?_ ?_ ?_ ?_ ?_ ?_) rfl rfl rfl rfl rfl
      · rw [q2.2 4 (by decide), es0]; rfl
      · rw [q2.2 19 (by decide), es0]; rfl
      · rw [q2.2 20 (by decide), es0]; rfl
      · rw [q2.2 21 (by decide), es0]; rfl
      · rw [q2.2 22 (by decide), es0]; rfl
      · rw [q2.2 23 (by decide), es0]; rfl
    · rw [q2.2 5 (by decide), es0]; rfl
  unfold p_X7_type_55
  rw [oc_s (show p_X6_size_0 σ = some (nI nt) by unfold p_X6_size_0; rw [hT.1]), if_pos (show nI nt < 16 from nI_lt (b := 16) hnt (by decide)), oc_s (show p_X3_forget_0 σ = some (sI σ 5 12 0) from rfl), k_add (σ := sI σ 5 12 0) hT.1 hnt]
  refine main _ (fun u hu => ?_)
  rw [show (sI σ 5 12 0).2 1 4 = σ.2 1 4 from rfl, show (mT τ nt v1 v2).1 1 = upd (τ.1 1) nt v1 from rfl]
  by_cases hk : v1 = 2
  · rw [if_pos hk, lb_with (show nt < 64 by omega), Bool.or_eq_true, hT.2.2.2.2.1 u hu]
    constructor
    · rintro (⟨a, b⟩ | h)
      · exact ⟨by omega, by rw [upd_lt a]; exact b⟩
      · have e : u = nt := by simpa using h
        subst e
        exact ⟨by omega, by rw [upd_at]; exact hk⟩
    · rintro ⟨a, b⟩
      by_cases e : u = nt
      · exact Or.inr (by simp [e])
      · rw [upd_lt (by omega)] at b
        exact Or.inl ⟨by omega, b⟩
  · rw [if_neg hk, hT.2.2.2.2.1 u hu]
    constructor
    · rintro ⟨a, b⟩
      exact ⟨by omega, by rw [upd_lt a]; exact b⟩
    · rintro ⟨a, b⟩
      by_cases e : u = nt
      · subst e
        rw [upd_at] at b
        exact absurd b hk
      · rw [upd_lt (by omega)] at b
        exact ⟨by omega, b⟩
