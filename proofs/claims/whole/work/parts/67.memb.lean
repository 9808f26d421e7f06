/-! pure: a member more -/
def agM (P P' : Nat → Nat → Int32) (nm : Nat) : Prop := P' 1 = P 1 ∧ P' 2 = P 2 ∧ P' 3 = P 3 ∧ P' 4 = P 4 ∧ (∀ m, m < nm → P' 5 m = P 5 m) ∧ (∀ m, m < nm → P' 6 m = P 6 m) ∧ ∀ m, m < nm → P' 7 m = P 7 m
theorem agM.k1 {P P' : Nat → Nat → Int32} {nm : Nat} (h : agM P P' nm) : P' 1 = P 1 := h.1
theorem agM.k2 {P P' : Nat → Nat → Int32} {nm : Nat} (h : agM P P' nm) : P' 2 = P 2 := h.2.1
theorem agM.k3 {P P' : Nat → Nat → Int32} {nm : Nat} (h : agM P P' nm) : P' 3 = P 3 := h.2.2.1
theorem agM.k4 {P P' : Nat → Nat → Int32} {nm : Nat} (h : agM P P' nm) : P' 4 = P 4 := h.2.2.2.1
theorem agM.k5 {P P' : Nat → Nat → Int32} {nm : Nat} (h : agM P P' nm) : ∀ m, m < nm → P' 5 m = P 5 m := h.2.2.2.2.1
theorem agM.k6 {P P' : Nat → Nat → Int32} {nm : Nat} (h : agM P P' nm) : ∀ m, m < nm → P' 6 m = P 6 m := h.2.2.2.2.2.1
theorem agM.k7 {P P' : Nat → Nat → Int32} {nm : Nat} (h : agM P P' nm) : ∀ m, m < nm → P' 7 m = P 7 m := h.2.2.2.2.2.2
theorem isOwn_up {P P' : Nat → Nat → Int32} {nm : Nat} (h : agM P P' nm) {v name r : Int32} (hx : ¬ (P' 5 nm = v ∧ P' 6 nm = name)) : isOwn P' (nm + 1) v name r ↔ isOwn P nm v name r := by
  constructor
  · rintro (⟨h1, h2⟩ | ⟨m, hm, h1, h2, h3⟩)
    · exact Or.inl ⟨h1, fun m hm q => h2 m (by omega) (by rw [h.k5 m hm, h.k6 m hm]; exact q)⟩
    · by_cases e : m = nm
      · subst e; exact absurd ⟨h1, h2⟩ hx
      · have hm' : m < nm := by omega
        rw [h.k5 m hm'] at h1
        rw [h.k6 m hm'] at h2
        exact Or.inr ⟨m, hm', h1, h2, h3⟩
  · rintro (⟨h1, h2⟩ | ⟨m, hm, h1, h2, h3⟩)
    · refine Or.inl ⟨h1, fun m hm q => ?_⟩
      by_cases e : m = nm
      · subst e; exact hx q
      · have hm' : m < nm := by omega
        rw [h.k5 m hm', h.k6 m hm'] at q
        exact h2 m hm' q
    · exact Or.inr ⟨m, by omega, by rw [h.k5 m hm]; exact h1, by rw [h.k6 m hm]; exact h2, h3⟩
theorem isC_up {P P' : Nat → Nat → Int32} {nm : Nat} (hnm : nm ≤ 48) (h : agM P P' nm) {name : Int32} (hx : ¬ P' 6 nm = name) {G G' : Nat → Prop} (hG : ∀ m, m < nm → (G' m ↔ G m)) : ∀ n t r, isC P nm name G n t r → isC P' (nm + 1) name G' n t r := by
  intro n
  induction n with
  | zero => intro t r q; exact q
  | succ n ih =>
    intro t r q
    rcases q with ⟨m, hm, h1, h2, h3⟩ | ⟨h1, h2⟩
    · exact Or.inl ⟨m, by omega, (isOwn_up h (fun q => hx q.2)).mpr h1, (hG m hm).mpr h2, h3⟩
    · refine Or.inr ⟨fun m hm q => ?_, ?_⟩
      · have q' := (isOwn_up h (fun q => hx q.2)).mp q
        have hm' : m < nm := by
          rcases q' with ⟨q1, -⟩ | ⟨m', q1, -, -, q2⟩
          · exact absurd q1.symm (nI_m1 (by omega))
          · have := (nI_eq (by omega) (by omega)).mp q2
            omega
        exact fun g => h1 m hm' q' ((hG m hm').mp g)
      · rw [h.k2]
        rcases h2 with h2 | ⟨u, hu, h3, h4⟩
        · exact Or.inl h2
        · exact Or.inr ⟨u, hu, h3, ih u r h4⟩
theorem hold_up {P P' : Nat → Nat → Int32} {nt nm : Nat} (h : agM P P' nm) {name : Int32} (hx : ¬ P' 6 nm = name) (t m : Nat) : hold P' nt (nm + 1) t name m ↔ hold P nt nm t name m := by
  have hu : und P' = und P := und_c h.k2 h.k3 h.k4
  unfold hold fab pbs
  rw [hu, h.k1]
  constructor
  · rintro ⟨h1, h2, h3, h4⟩
    have e : m ≠ nm := fun e => hx (by rw [← e]; exact h2)
    have hm : m < nm := by omega
    rw [h.k6 m hm] at h2
    rw [h.k7 m hm] at h3
    rw [h.k5 m hm] at h4
    exact ⟨hm, h2, h3, h4⟩
  · rintro ⟨hm, h2, h3, h4⟩
    rw [h.k6 m hm, h.k7 m hm, h.k5 m hm]
    exact ⟨by omega, h2, h3, h4⟩
theorem lft_up {P P' : Nat → Nat → Int32} {nt nm : Nat} (h : agM P P' nm) {name : Int32} (hx : ¬ P' 6 nm = name) (t m : Nat) : lft P' nt (nm + 1) t name m ↔ lft P nt nm t name m := by
  have hu : und P' = und P := und_c h.k2 h.k3 h.k4
  unfold lft
  rw [hold_up h hx, hu]
  refine and_congr_right (fun hm => not_congr (exists_congr (fun o => ?_)))
  rw [hold_up h hx]
  refine and_congr_right (fun ho => ?_)
  rw [h.k5 m hm.1, h.k5 o ho.1]
theorem lfB_up {P P' : Nat → Nat → Int32} {nt nm : Nat} (h : agM P P' nm) {name : Int32} (hx : ¬ P' 6 nm = name) (t : Nat) : lfB P' nt (nm + 1) t name = lfB P nt nm t name := by
  funext m
  unfold lfB
  rw [propext (lft_up (nt := nt) h hx t m)]
theorem lpB_up {P P' : Nat → Nat → Int32} {nt nm : Nat} (h : agM P P' nm) {name : Int32} (hx : ¬ P' 6 nm = name) (t : Nat) : lpB P' nt (nm + 1) t name = lpB P nt nm t name := by
  funext m
  unfold lpB
  congr 1
  rw [propext (lft_up (nt := nt) h hx t m)]
  exact propext (and_congr_right (fun hm => by rw [h.k7 m hm.1.1]))
theorem isF_up {P P' : Nat → Nat → Int32} {nt nm : Nat} (hnm : nm ≤ 48) (h : agM P P' nm) {name : Int32} (hx : ¬ P' 6 nm = name) {t : Nat} {r : Int32} (q : isF P nt nm t name r) : isF P' nt (nm + 1) t name r := by
  unfold isF at q ⊢
  rw [lfB_up h hx, lpB_up h hx]
  rcases q with ⟨h1, h2⟩ | ⟨h1, h2⟩
  · exact Or.inl ⟨isC_up hnm h hx (fun _ _ => Iff.rfl) _ _ _ h1, h2⟩
  · exact Or.inr ⟨isC_up hnm h hx (fun _ _ => Iff.rfl) _ _ _ h1, h2⟩
theorem isP_up {P P' : Nat → Nat → Int32} {nt nm : Nat} (hnm : nm ≤ 48) (h : agM P P' nm) {name : Int32} (hx : ¬ P' 6 nm = name) {t : Nat} {r : Int32} (q : isP P nt nm t name r) : isP P' nt (nm + 1) t name r := by
  have hG : ∀ m, m < nm → (pbs P' m ↔ pbs P m) := fun m hm => by unfold pbs; rw [h.k7 m hm]
  unfold isP at q ⊢
  rw [lpB_up h hx]
  rcases q with ⟨m, hm, h1, h2⟩ | ⟨h1, h2⟩
  · exact Or.inl ⟨m, by omega, isC_up hnm h hx hG _ _ _ h1, by rw [h.k7 m hm]; exact h2⟩
  · exact Or.inr ⟨isC_up hnm h hx hG _ _ _ h1, h2⟩
/-- the reference's member -/
def mbT (τ : SS) (nm : Nat) (t nam sort : Int32) : SS := sI (sI (sI (sI (sI (sI (sI τ 5 nm t) 6 nm nam) 7 nm sort) 8 nm 0) 9 nm 0) 0 5 (nI (nm + 1))) 0 16 0
theorem m_memb62 {τ : SS} {nt nm : Nat} (hM : wfM τ.1 nt nm) (hnm : nm < 48) {v1 v3 t0 : Int32} (hn : isOwn τ.1 nm v1 t0 (-1)) : p_X8_member_62 v1 v3 t0 τ = some (nI nm, mbT τ nm v1 t0 v3) := by
  have h5 := hM.2.1
  obtain ⟨x, e1, e2⟩ := m_ownOf hM v1 t0
  rw [p_X8_member_62, oc_s e1, if_pos (isOwn_one hM e2 hn), h5, if_neg (show ¬ nI nm = 48 from fun q => by have := (nI_eq (b := 48) (by omega) (by omega)).mp q; omega), oi_n hnm (by decide), nI_clamp (show nm < 2 ^ 31 by omega), os_s]
  rw [show (sI τ 5 nm v1).1 0 5 = nI nm from h5, oi_n hnm (by decide), nI_clamp (show nm < 2 ^ 31 by omega), os_s]
  rw [show (sI (sI τ 5 nm v1) 6 nm t0).1 0 5 = nI nm from h5, oi_n hnm (by decide), nI_clamp (show nm < 2 ^ 31 by omega), os_s]
  rw [show (sI (sI (sI τ 5 nm v1) 6 nm t0) 7 nm v3).1 0 5 = nI nm from h5, oi_n hnm (by decide), nI_clamp (show nm < 2 ^ 31 by omega), os_s]
  rw [show (sI (sI (sI (sI τ 5 nm v1) 6 nm t0) 7 nm v3) 8 nm 0).1 0 5 = nI nm from h5, oi_n hnm (by decide), nI_clamp (show nm < 2 ^ 31 by omega), os_s]
  rw [show (sI (sI (sI (sI (sI τ 5 nm v1) 6 nm t0) 7 nm v3) 8 nm 0) 9 nm 0).1 0 5 = nI nm from h5, nI_1, os_s, os_s]
  show some (nI (nm + 1) - 1, mbT τ nm v1 t0 v3) = _
  rw [nI_pred]
theorem m_memb62s {τ : SS} {nt nm : Nat} (hM : wfM τ.1 nt nm) {v1 v3 t0 x : Int32} (hn : isOwn τ.1 nm v1 t0 x) (hx : ¬ x = -1) : p_X8_member_62 v1 v3 t0 τ = some (-103, τ) := by
  obtain ⟨y, e1, e2⟩ := m_ownOf hM v1 t0
  rw [p_X8_member_62, oc_s e1, if_neg (fun q => hx ((isOwn_one hM hn e2).trans q))]
theorem m_memb62r {τ : SS} {nt nm : Nat} (hM : wfM τ.1 nt nm) (hnm : nm = 48) {v1 v3 t0 : Int32} (hn : isOwn τ.1 nm v1 t0 (-1)) : p_X8_member_62 v1 v3 t0 τ = some (-104, τ) := by
  have h5 := hM.2.1
  obtain ⟨x, e1, e2⟩ := m_ownOf hM v1 t0
  rw [p_X8_member_62, oc_s e1, if_pos (isOwn_one hM e2 hn), h5, if_pos (by rw [hnm]; decide)]
theorem mbT_ag (τ : SS) (nm : Nat) (t nam sort : Int32) : agM τ.1 (mbT τ nm t nam sort).1 nm := ⟨rfl, rfl, rfl, rfl, fun _ h => upd_lt h, fun _ h => upd_lt h, fun _ h => upd_lt h⟩
theorem mbT_wfM {τ : SS} {nt nm t : Nat} (hM : wfM τ.1 nt nm) (hnm : nm < 48) (ht : t < nt) {nam sort : Int32} (hs : (sort = 4 ∧ nam = -1) ∨ ((sort = 0 ∨ sort = 1 ∨ sort = 2 ∨ sort = 3) ∧ ∃ n, n < 10 ∧ nam = nI n)) (hb : sort = 1 → ¬ τ.1 1 t = 0) (hn : isOwn τ.1 nm (nI t) nam (-1)) : wfM (mbT τ nm (nI t) nam sort).1 nt (nm + 1) := by
  have hno : ∀ m, m < nm → ¬ (τ.1 5 m = nI t ∧ τ.1 6 m = nam) := by
    rcases hn with ⟨-, h⟩ | ⟨m, hm, -, -, h⟩
    · exact h
    · exact absurd h (nI_m1 (by omega))
  refine ⟨by omega, rfl, fun m hm => ?_, fun m m' hm hm' => ?_⟩
  · rw [show (mbT τ nm (nI t) nam sort).1 5 = upd (τ.1 5) nm (nI t) from rfl, show (mbT τ nm (nI t) nam sort).1 6 = upd (τ.1 6) nm nam from rfl, show (mbT τ nm (nI t) nam sort).1 7 = upd (τ.1 7) nm sort from rfl, show (mbT τ nm (nI t) nam sort).1 8 = upd (τ.1 8) nm 0 from rfl, show (mbT τ nm (nI t) nam sort).1 1 = τ.1 1 from rfl]
    by_cases e : m = nm
    · subst e
      rw [upd_at, upd_at, upd_at, upd_at]
      exact ⟨⟨t, ht, rfl, hb⟩, hs, Or.inl rfl⟩
    · rw [upd_lt (by omega), upd_lt (by omega), upd_lt (by omega), upd_lt (by omega)]
      exact hM.2.2.1 m (by omega)
  · rw [show (mbT τ nm (nI t) nam sort).1 5 = upd (τ.1 5) nm (nI t) from rfl, show (mbT τ nm (nI t) nam sort).1 6 = upd (τ.1 6) nm nam from rfl]
    intro h1 h2
    by_cases e : m = nm <;> by_cases e' : m' = nm
    · omega
    · rw [e, upd_at, upd_lt (by omega)] at h1 h2
      exact absurd ⟨h1.symm, h2.symm⟩ (hno m' (by omega))
    · rw [e', upd_at, upd_lt (by omega)] at h1 h2
      exact absurd ⟨h1, h2⟩ (hno m (by omega))
    · rw [upd_lt (by omega), upd_lt (by omega)] at h1 h2
      exact hM.2.2.2 m m' (by omega) (by omega) h1 h2
theorem mbT_wfO {τ : SS} {nt nm no : Nat} (hO : wfO τ.1 nt nm no) (hnm : nm < 48) {t nam sort : Int32} : wfO (mbT τ nm t nam sort).1 nt (nm + 1) no := by
  refine ⟨hO.1, hO.2.1, fun m hm => ?_, fun o ho => ?_⟩
  · rw [show (mbT τ nm t nam sort).1 9 = upd (τ.1 9) nm 0 from rfl, show (mbT τ nm t nam sort).1 10 = τ.1 10 from rfl, show (mbT τ nm t nam sort).1 7 = upd (τ.1 7) nm sort from rfl]
    by_cases e : m = nm
    · subst e
      rw [upd_at]
      exact ⟨0, by omega, rfl, fun h => absurd h (Nat.lt_irrefl 0), fun i hi => absurd hi (Nat.not_lt_zero _)⟩
    · rw [upd_lt (by omega), upd_lt (by omega)]
      exact hO.2.2.1 m (by omega)
  · unfold opw
    rw [show (mbT τ nm t nam sort).1 7 = upd (τ.1 7) nm sort from rfl]
    rcases hO.2.2.2 o ho with h | h | ⟨h1, a, m, h2, h3, h4, h5, h6⟩ | h
    · exact Or.inl h
    · exact Or.inr (Or.inl h)
    · exact Or.inr (Or.inr (Or.inl ⟨h1, a, m, h2, by omega, h4, h5, by rw [upd_lt h3]; exact h6⟩))
    · exact Or.inr (Or.inr (Or.inr h))
theorem mbT_wfS {τ : SS} {nm no : Nat} (hS : wfS τ.1 nm no) {t nam sort : Int32} : wfS (mbT τ nm t nam sort).1 (nm + 1) no := by
  intro f
  rw [show (mbT τ nm t nam sort).1 9 = upd (τ.1 9) nm 0 from rfl, show (mbT τ nm t nam sort).1 10 = τ.1 10 from rfl, hS f]
  show _ = sm _ nm + sm _ _
  rw [upd_at]
  show _ = sm _ nm + 0
  rw [Nat.add_zero]
  exact sm_congr (fun k hk => by rw [upd_lt hk])
theorem mbT_cO {σ τ : SS} {nm no : Nat} (hO : cO σ τ.1 nm no) (hnm : nm < 48) {t nam sort : Int32} : cO σ (mbT τ nm t nam sort).1 (nm + 1) no := by
  refine ⟨hO.1, hO.2.1, fun m hm => ?_, fun m hm c i => ?_, fun m h1 h2 => hO.2.2.2.2 m (by omega) h2⟩
  · rw [show (mbT τ nm t nam sort).1 9 = upd (τ.1 9) nm 0 from rfl]
    by_cases e : m = nm
    · subst e
      rw [upd_at]
      exact hO.2.2.2.2 m (Nat.le_refl _) hnm
    · rw [upd_lt (by omega)]
      exact hO.2.2.1 m (by omega)
  · rw [show (mbT τ nm t nam sort).1 9 = upd (τ.1 9) nm 0 from rfl, show (mbT τ nm t nam sort).1 10 = τ.1 10 from rfl]
    by_cases e : m = nm
    · subst e
      rw [upd_at]
      intro h1 h2 h3
      have : 0 = c := (nI_eq (a := 0) (by omega) (by omega)).mp h1
      omega
    · rw [upd_lt (by omega)]
      exact hO.2.2.2.1 m (by omega) c i
