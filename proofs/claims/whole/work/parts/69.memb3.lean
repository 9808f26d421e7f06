/-! pure: a named member comes -/
theorem updL_ne {f : Nat → Int64} {k j : Nat} {x : Int64} (h : ¬ j = k) : vp_updL f k x j = f j := by unfold vp_updL; rw [if_neg h]
theorem updL_at {f : Nat → Int64} {k : Nat} {x : Int64} : vp_updL f k x k = x := by unfold vp_updL; rw [if_pos rfl]
def mbN (s : SS) (nm t n : Nat) (v : Int32) : SS := sL (sL (sL (sL (sI s 13 (t * 10 + n) (nI nm)) 15 n (if v = 1 then s.2 15 n else s.2 15 n ||| jshl 1 (nI nm))) 16 n (if v = 0 ∨ v = 1 then s.2 16 n ||| jshl 1 (nI t) else s.2 16 n)) 2 7 (if v = 0 then s.2 2 7 ||| jshl 1 (nI nm) else s.2 2 7)) 2 8 (if v = 0 then s.2 2 8 ||| jshl 1 (nI t) else s.2 2 8)
theorem mb_cMn {σ τ : SS} {nt nm t n : Nat} (hM : wfM τ.1 nt nm) (hc : cM σ τ.1 nm) (hnm : nm < 48) (ht : t < 16) (hn : n < 10) {v : Int32} (h4 : v = 0 ∨ v = 1 ∨ v = 2 ∨ v = 3) : cM (mbN (mb0 σ nm t v) nm t n v) (mbT τ nm (nI t) (nI n) v).1 (nm + 1) := by
  have ag := mbT_ag τ nm (nI t) (nI n) v
  have e5 : (mbT τ nm (nI t) (nI n) v).1 5 nm = nI t := upd_at
  have e6 : (mbT τ nm (nI t) (nI n) v).1 6 nm = nI n := upd_at
  have e7 : (mbT τ nm (nI t) (nI n) v).1 7 nm = v := upd_at
  have e8 : (mbT τ nm (nI t) (nI n) v).1 8 = upd (τ.1 8) nm 0 := rfl
  generalize (mbT τ nm (nI t) (nI n) v).1 = P' at *
  obtain ⟨c1, c2, c3, c4, c5, c6, c7, c8, c9⟩ := hc
  refine ⟨rfl, fun m hm => ?_, fun t' ht' n' hn' => ?_, fun t' ht' => ?_, fun n' hn' m hm => ?_, fun n' hn' t' ht' => ?_, fun m hm => ?_, fun t' ht' => ?_, fun m hm => ?_⟩
  · show upd (σ.1 11) nm (nI t) m = P' 5 m ∧ upd (σ.1 12) nm v m = P' 7 m
    by_cases e : m = nm
    · subst e
      rw [upd_at, upd_at, e5, e7]
      exact ⟨rfl, rfl⟩
    · rw [upd_lt (by omega), upd_lt (by omega), ag.k5 m (by omega), ag.k7 m (by omega)]
      exact c2 m (by omega)
  · show isOwn P' (nm + 1) (nI t') (nI n') (upd (σ.1 13) (t * 10 + n) (nI nm) (t' * 10 + n'))
    by_cases e : t' = t ∧ n' = n
    · obtain ⟨rfl, rfl⟩ := e
      rw [upd_at]
      exact Or.inr ⟨nm, by omega, e5, e6, rfl⟩
    · rw [upd_ne (by omega)]
      refine (isOwn_up ag (fun q => e ?_)).mpr (c3 t' ht' n' hn')
      exact ⟨((nI_eq (by omega) (by omega)).mp (e5.symm.trans q.1)).symm, ((nI_eq (by omega) (by omega)).mp (e6.symm.trans q.2)).symm⟩
  · show isOwn P' (nm + 1) (nI t') (-1) (σ.1 14 t')
    exact (isOwn_up ag (fun q => nI_m1 (u := n) (by omega) (q.2.symm.trans e6))).mpr (c4 t' ht')
  · show lb (vp_updL (σ.2 15) n (if v = 1 then σ.2 15 n else σ.2 15 n ||| jshl 1 (nI nm)) n') m = true ↔ _
    have old : lb (σ.2 15 n') m = true ↔ (m < nm ∧ P' 6 m = nI n' ∧ (P' 7 m = 0 ∨ P' 7 m = 2 ∨ P' 7 m = 3)) := by
      rw [c5 n' hn' m hm]
      refine and_congr_right (fun h1 => ?_)
      rw [ag.k6 m h1, ag.k7 m h1]
    by_cases e : n' = n
    · subst e
      rw [updL_at]
      by_cases hv : v = 1
      · rw [if_pos hv, old]
        refine ⟨fun h => ⟨by omega, h.2⟩, fun h => ⟨?_, h.2⟩⟩
        have e : m ≠ nm := fun e => by
          have h3 := h.2.2
          rw [e, e7, hv] at h3
          exact absurd h3 (by decide)
        have := h.1
        omega
      · rw [if_neg hv, lb_with (show nm < 64 by omega), Bool.or_eq_true, old]
        constructor
        · rintro (h | h)
          · exact ⟨by omega, h.2⟩
          · have e : m = nm := by simpa using h
            subst e
            refine ⟨by omega, e6, ?_⟩
            rw [e7]
            rcases h4 with h | h | h | h
            · exact Or.inl h
            · exact absurd h hv
            · exact Or.inr (Or.inl h)
            · exact Or.inr (Or.inr h)
        · intro h
          by_cases e : m = nm
          · exact Or.inr (by simp [e])
          · exact Or.inl ⟨by omega, h.2⟩
    · rw [updL_ne e, old]
      refine ⟨fun h => ⟨by omega, h.2⟩, fun h => ⟨?_, h.2⟩⟩
      have q : m ≠ nm := fun q => by
        have h3 := h.2.1
        rw [q, e6] at h3
        exact e ((nI_eq (by omega) (by omega)).mp h3).symm
      have := h.1
      omega
  · show lb (vp_updL (σ.2 16) n (if v = 0 ∨ v = 1 then σ.2 16 n ||| jshl 1 (nI t) else σ.2 16 n) n') t' = true ↔ _
    have old : lb (σ.2 16 n') t' = true ↔ ∃ m, m < nm ∧ P' 5 m = nI t' ∧ P' 6 m = nI n' ∧ pbs P' m := by
      rw [c6 n' hn' t' ht']
      refine exists_congr (fun m => and_congr_right (fun h1 => ?_))
      unfold pbs
      rw [ag.k5 m h1, ag.k6 m h1, ag.k7 m h1]
    by_cases e : n' = n
    · subst e
      rw [updL_at]
      by_cases hv : v = 0 ∨ v = 1
      · rw [if_pos hv, lb_with (show t < 64 by omega), Bool.or_eq_true, old]
        constructor
        · rintro (⟨m, h1, h⟩ | h)
          · exact ⟨m, by omega, h⟩
          · have e : t' = t := by simpa using h
            subst e
            exact ⟨nm, by omega, e5, e6, by unfold pbs; rw [e7]; exact hv⟩
        · rintro ⟨m, h1, h2, h3, h5⟩
          by_cases e : m = nm
          · rw [e, e5] at h2
            exact Or.inr (by have := (nI_eq (by omega) (by omega)).mp h2; simp [this])
          · exact Or.inl ⟨m, by omega, h2, h3, h5⟩
      · rw [if_neg hv, old]
        constructor
        · rintro ⟨m, h1, h⟩
          exact ⟨m, by omega, h⟩
        · rintro ⟨m, h1, h2, h3, h5⟩
          have e : m ≠ nm := fun e => by
            unfold pbs at h5
            rw [e, e7] at h5
            exact hv h5
          exact ⟨m, by omega, h2, h3, h5⟩
    · rw [updL_ne e, old]
      constructor
      · rintro ⟨m, h1, h⟩
        exact ⟨m, by omega, h⟩
      · rintro ⟨m, h1, h2, h3, h5⟩
        have q : m ≠ nm := fun q => by
          rw [q, e6] at h3
          exact e ((nI_eq (by omega) (by omega)).mp h3).symm
        exact ⟨m, by omega, h2, h3, h5⟩
  · show lb (if v = 0 then σ.2 2 7 ||| jshl 1 (nI nm) else σ.2 2 7) m = true ↔ _
    have old : lb (σ.2 2 7) m = true ↔ (m < nm ∧ P' 7 m = 0) := by
      rw [c7 m hm]
      exact and_congr_right (fun h1 => by rw [ag.k7 m h1])
    by_cases hv : v = 0
    · rw [if_pos hv, lb_with (show nm < 64 by omega), Bool.or_eq_true, old]
      constructor
      · rintro (h | h)
        · exact ⟨by omega, h.2⟩
        · have e : m = nm := by simpa using h
          subst e
          exact ⟨by omega, by rw [e7]; exact hv⟩
      · intro h
        by_cases e : m = nm
        · exact Or.inr (by simp [e])
        · exact Or.inl ⟨by omega, h.2⟩
    · rw [if_neg hv, old]
      refine ⟨fun h => ⟨by omega, h.2⟩, fun h => ⟨?_, h.2⟩⟩
      have e : m ≠ nm := fun e => by
        have h3 := h.2
        rw [e, e7] at h3
        exact hv h3
      have := h.1
      omega
  · show lb (if v = 0 then σ.2 2 8 ||| jshl 1 (nI t) else σ.2 2 8) t' = true ↔ _
    have old : lb (σ.2 2 8) t' = true ↔ ∃ m, m < nm ∧ P' 5 m = nI t' ∧ P' 7 m = 0 := by
      rw [c8 t' ht']
      refine exists_congr (fun m => and_congr_right (fun h1 => ?_))
      rw [ag.k5 m h1, ag.k7 m h1]
    by_cases hv : v = 0
    · rw [if_pos hv, lb_with (show t < 64 by omega), Bool.or_eq_true, old]
      constructor
      · rintro (⟨m, h1, h⟩ | h)
        · exact ⟨m, by omega, h⟩
        · have e : t' = t := by simpa using h
          subst e
          exact ⟨nm, by omega, e5, by rw [e7]; exact hv⟩
      · rintro ⟨m, h1, h2, h3⟩
        by_cases e : m = nm
        · rw [e, e5] at h2
          exact Or.inr (by have := (nI_eq (by omega) (by omega)).mp h2; simp [this])
        · exact Or.inl ⟨m, by omega, h2, h3⟩
    · rw [if_neg hv, old]
      constructor
      · rintro ⟨m, h1, h⟩
        exact ⟨m, by omega, h⟩
      · rintro ⟨m, h1, h2, h3⟩
        have e : m ≠ nm := fun e => by
          rw [e, e7] at h3
          exact hv h3
        exact ⟨m, by omega, h2, h3⟩
  · show lb (σ.2 2 9) m = true ↔ _
    rw [c9 m hm, e8]
    by_cases e : m = nm
    · subst e
      rw [upd_at]
      exact ⟨fun h => absurd h.1 (Nat.lt_irrefl _), fun h => absurd h.2 (by decide)⟩
    · rw [upd_ne e]
      exact ⟨fun h => ⟨by omega, h.2⟩, fun h => ⟨by omega, h.2⟩⟩
theorem mb_cC {σ τ : SS} {nt nm : Nat} (hnm : nm < 48) {t nam sort : Int32} (hC : cC σ τ.1 nt nm) {σ' : SS} (n0 : Option Nat) (hx : ∀ n, n < 10 → n0 ≠ some n → ¬ nam = nI n) (h17 : ∀ t' n, t' < nt → n < 10 → n0 ≠ some n → σ'.1 17 (t' * 10 + n) = σ.1 17 (t' * 10 + n) ∧ σ'.1 18 (t' * 10 + n) = σ.1 18 (t' * 10 + n)) (h0 : ∀ n, n0 = some n → ∀ t', t' < nt → isF (mbT τ nm t nam sort).1 nt (nm + 1) t' (nI n) (σ'.1 17 (t' * 10 + n)) ∧ isP (mbT τ nm t nam sort).1 nt (nm + 1) t' (nI n) (σ'.1 18 (t' * 10 + n))) : cC σ' (mbT τ nm t nam sort).1 nt (nm + 1) := by
  have ag := mbT_ag τ nm t nam sort
  intro t' ht' n hn
  by_cases e : n0 = some n
  · exact h0 n e t' ht'
  · obtain ⟨q1, q2⟩ := h17 t' n ht' hn e
    rw [q1, q2]
    have e6 : ¬ (mbT τ nm t nam sort).1 6 nm = nI n := by
      rw [show (mbT τ nm t nam sort).1 6 nm = nam from upd_at]
      exact hx n hn e
    exact ⟨isF_up (by omega) ag e6 (hC t' ht' n hn).1, isP_up (by omega) ag e6 (hC t' ht' n hn).2⟩
theorem okU_c {P P' : Nat → Nat → Int32} {nt : Nat} (h : okU P nt) (h26 : P' 0 26 = P 0 26) (h21 : P' 21 = P 21) (hu : und P' = und P) : okU P' nt := by
  unfold okU laid at h ⊢
  rw [h26, h21, hu]
  exact h
theorem cF_c {P P' : Nat → Nat → Int32} {nt : Nat} (h : cF P nt) (h3 : P' 3 = P 3) (h4 : P' 4 = P 4) : cF P' nt := by
  unfold cF fce at h ⊢
  rw [h3, h4]
  exact h
theorem k_member {σ τ : SS} {nt nm no t : Nat} (hI : Inv1 σ τ nt nm no) (hnm : nm < 48) (ht : t < nt) {v2 v3 nam : Int32} (hs : (v3 = 4 ∧ nam = -1) ∨ ((v3 = 0 ∨ v3 = 1 ∨ v3 = 2 ∨ v3 = 3) ∧ nam = v2 ∧ ∃ n, n < 10 ∧ v2 = nI n)) (hb : v3 = 1 → ¬ τ.1 1 t = 0) (hn : isOwn τ.1 nm (nI t) nam (-1)) : ∃ σ', p_X7_member_85 (nI t) v2 v3 (-1) σ = some (nI nm, σ') ∧ Inv1 σ' (mbT τ nm (nI t) nam v3) nt (nm + 1) no ∧ σ'.1 5 12 = 0 := by
  obtain ⟨⟨hw, hM, hO, ho, hT, hc, hcO, hC⟩, hF, hS⟩ := hI
  have h16 := hw.1
  have hM' : wfM (mbT τ nm (nI t) nam v3).1 nt (nm + 1) := mbT_wfM hM hnm ht (by
    rcases hs with h | ⟨h1, h2, n, h3, h4⟩
    · exact Or.inl h
    · exact Or.inr ⟨h1, n, h3, h2.trans h4⟩) hb hn
  have hw' : wfT (mbT τ nm (nI t) nam v3).1 nt := wfT_c hw rfl rfl rfl rfl rfl
  have hO' := mbT_wfO (t := nI t) (nam := nam) (sort := v3) hO hnm
  have ho' : okU (mbT τ nm (nI t) nam v3).1 nt := okU_c ho rfl rfl (und_c rfl rfl rfl)
  have hF' : cF (mbT τ nm (nI t) nam v3).1 nt := cF_c hF rfl rfl
  have hS' := mbT_wfS (t := nI t) (nam := nam) (sort := v3) hS
  unfold p_X7_member_85
  rw [if_pos rfl, oc_s (size_M hc), if_pos (show nI nm < 48 from nI_lt (b := 48) hnm (by decide)), oc_s (show p_X3_forget_0 σ = some (sI σ 5 12 0) from rfl), k_addM hc.1 hnm (show t < 16 by omega)]
  rcases hs with ⟨h4, hna⟩ | ⟨h4, hna, n, hn10, h2⟩
  · subst h4
    subst hna
    rw [if_pos rfl, oc_s rfl, if_pos rfl]
    refine ⟨_, rfl, ⟨⟨hw', hM', hO', ho', mb_cT hT rfl rfl rfl rfl rfl rfl, mb_cMs hM hc hnm (by omega) hn, cO_c (mbT_cO hcO hnm) rfl rfl rfl rfl rfl rfl, ?_⟩, hF', hS'⟩, rfl⟩
    exact mb_cC hnm hC none (fun n hn _ => nI_m1 (by omega)) (fun _ _ _ _ _ => ⟨rfl, rfl⟩) (fun n e => by cases e)
  · subst hna
    subst h2
    have hne : ¬ v3 = 4 := by rcases h4 with h | h | h | h <;> rw [h] <;> decide
    have hadd := k_addNamed (s := mb0 σ nm t v3) (nm := nm) (t := t) (n := n) hnm (by omega) hn10 (v := v3) upd_at h4
    rw [if_neg hne, hadd, oc_s rfl, oc_s rfl, if_neg hne]
    have hT1 : cT (mbN (mb0 σ nm t v3) nm t n v3) (mbT τ nm (nI t) (nI n) v3).1 nt := mb_cT hT rfl rfl rfl rfl rfl rfl
    have hc1 := mb_cMn hM hc hnm (show t < 16 by omega) hn10 h4
    obtain ⟨s', q1, q2, q3, q4⟩ := k_tell hw' hM' hn10 hT1 hc1
    refine ⟨s', ?_, ⟨⟨hw', hM', hO', ho', kq_cT q2 hT1, kq_cM q2 hc1, ?_, ?_⟩, hF', hS'⟩, ?_⟩
    · show oc (p_X1_tell_0 (nI n) (mbN (mb0 σ nm t v3) nm t n v3)) _ = _
      rw [oc_s q1]; rfl
    · refine cO_c (mbT_cO hcO hnm) ?_ ?_ ?_ ?_ ?_ ?_
      · rw [q2.2 4 (by decide)]; rfl
      · rw [q2.2 19 (by decide)]; rfl
      · rw [q2.2 20 (by decide)]; rfl
      · rw [q2.2 21 (by decide)]; rfl
      · rw [q2.2 22 (by decide)]; rfl
      · rw [q2.2 23 (by decide)]; rfl
    · refine mb_cC hnm hC (some n) (fun n' hn' e q => e (by rw [(nI_eq (by omega) (by omega)).mp q])) (fun t' n' ht' hn' e => ?_) (fun n' e t' ht' => by cases e; exact q3 t' ht')
      have hne' : n' ≠ n := fun q => e (by rw [q])
      have h := q4 (t' * 10 + n') (fun t2 ht2 => by omega)
      exact h
    · rw [q2.2 5 (by decide)]; rfl
theorem q_member {σ τ : SS} {nt nm no : Nat} (hI : Inv1 σ τ nt nm no) (v1 v2 v3 : Int32) : ∃ r σ' τ' nm', p_X7_member_0 v1 v2 v3 σ = some (r, σ') ∧ p_X8_member_0 v1 v2 v3 τ = some (r, τ') ∧ Inv1 σ' τ' nt nm' no ∧ chg σ τ σ' τ' := by
  obtain ⟨⟨hw, hM, hO, ho, hT, hc, hcO, hC⟩, hF, hS⟩ := id hI
  have h16 := hw.1
  have h48 := hM.1
  have keep : ∀ r : Int32, some (r, σ) = some (r, σ) ∧ some (r, τ) = some (r, τ) ∧ Inv1 σ τ nt nm no ∧ chg σ τ σ τ := fun r => ⟨rfl, rfl, hI, Or.inl ⟨rfl, rfl⟩⟩
  unfold p_X7_member_0 p_X8_member_0
  rcases m_isType hw v1 with ⟨t, ht, rfl, e1⟩ | ⟨hn, e1⟩
  · rw [oc_s e1, oc_s ((k_knowsT hT h16 _).1 ⟨t, ht, rfl⟩), if_neg n10, if_neg n10]
    rcases m_in4 v3 with ⟨k, hk, e3, e2⟩ | ⟨hn, e2⟩
    · rw [(rng (n := 4) (c := 4) rfl (by decide) _ _ _).1 ⟨k, hk, e3⟩, oc_s e2, if_neg n10]
      -- with the parts right
      have go : ((v3 = 4) ∨ ((v3 = 0 ∨ v3 = 1 ∨ v3 = 2 ∨ v3 = 3) ∧ ∃ n, n < 10 ∧ v2 = nI n)) → ∃ r σ' τ' nm', p_X7_member_41 (nI t) v2 v3 σ = some (r, σ') ∧ p_X8_member_35 (nI t) v2 v3 τ = some (r, τ') ∧ Inv1 σ' τ' nt nm' no ∧ chg σ τ σ' τ' := by
        intro hs
        have g2 : (v3 = 1 → ¬ τ.1 1 t = 0) → ∃ r σ' τ' nm', p_X7_member_60 (nI t) v2 v3 σ = some (r, σ') ∧ p_X8_member_52 (nI t) v2 v3 τ = some (r, τ') ∧ Inv1 σ' τ' nt nm' no ∧ chg σ τ σ' τ' := by
          intro hb
          unfold p_X7_member_60 p_X8_member_52
          -- what both look up
          have fin : ∀ (nam x : Int32), isOwn τ.1 nm (nI t) nam x → ((v3 = 4 ∧ nam = -1) ∨ ((v3 = 0 ∨ v3 = 1 ∨ v3 = 2 ∨ v3 = 3) ∧ nam = v2 ∧ ∃ n, n < 10 ∧ v2 = nI n)) → ∃ r σ' τ' nm', p_X7_member_85 (nI t) v2 v3 x σ = some (r, σ') ∧ p_X8_member_62 (nI t) v3 nam τ = some (r, τ') ∧ Inv1 σ' τ' nt nm' no ∧ chg σ τ σ' τ' := by
            intro nam x hx hs'
            by_cases hx1 : x = -1
            · subst hx1
              by_cases hnm : nm < 48
              · obtain ⟨σ', q1, q2, q3⟩ := k_member hI hnm ht hs' hb hx
                exact ⟨nI nm, σ', _, nm + 1, q1, m_memb62 hM hnm hx, q2, Or.inr ⟨q3, rfl⟩⟩
              · have e : nm = 48 := by omega
                refine ⟨-104, σ, τ, nm, ?_, m_memb62r hM e hx, hI, Or.inl ⟨rfl, rfl⟩⟩
                unfold p_X7_member_85
                rw [if_pos rfl, oc_s (size_M hc), e, if_neg (by decide)]
            · refine ⟨-103, σ, τ, nm, ?_, m_memb62s hM hx hx1, hI, Or.inl ⟨rfl, rfl⟩⟩
              unfold p_X7_member_85
              rw [if_neg hx1]
          rcases hs with h4 | ⟨h4, n, hn, h2⟩
          · rw [if_pos h4, if_pos h4, oc_s (show p_X4_startOf_0 σ (nI t) = some (σ.1 14 t) by unfold p_X4_startOf_0; rw [oi_n (show t < 16 by omega) (by decide), nI_clamp (show t < 2 ^ 31 by omega)])]
            exact fin (-1) _ (hc.2.2.2.1 t (by omega)) (Or.inl ⟨h4, rfl⟩)
          · have hne : ¬ v3 = 4 := by rcases h4 with h | h | h | h <;> rw [h] <;> decide
            rw [if_neg hne, if_neg hne, h2, oc_s (k_named (show t < 16 by omega) hn), ← h2]
            exact fin v2 _ (by rw [h2]; exact hc.2.2.1 t (by omega) n hn) (Or.inr ⟨h4, rfl, n, hn, h2⟩)
        unfold p_X7_member_41 p_X8_member_35
        by_cases h1 : v3 = 1
        · rw [if_pos h1, if_pos h1, oc_s (k_kindOf hT h16 ht), oi_n (show t < 16 by omega) (by decide), nI_clamp (show t < 2 ^ 31 by omega)]
          by_cases hk0 : τ.1 1 t = 0
          · rw [if_pos hk0, if_pos hk0]
            exact ⟨-102, σ, τ, nm, keep _⟩
          · rw [if_neg hk0, if_neg hk0]
            exact g2 (fun _ => hk0)
        · rw [if_neg h1, if_neg h1]
          exact g2 (fun q => absurd q h1)
      by_cases h4 : v3 = 4
      · rw [if_pos h4, if_pos h4]
        exact go (Or.inl h4)
      · rw [if_neg h4, if_neg h4]
        rcases m_inN v2 with ⟨n, hn, h2, e4⟩ | ⟨hn, e4⟩
        · rw [oc_s e4, oc_s ((k_isName _).1 ⟨n, hn, h2⟩), if_neg n10, if_neg n10]
          refine go (Or.inr ⟨?_, n, hn, h2⟩)
          rw [e3] at h4 ⊢
          rcases (show k = 0 ∨ k = 1 ∨ k = 2 ∨ k = 3 ∨ k = 4 by omega) with rfl | rfl | rfl | rfl | rfl
          · exact Or.inl rfl
          · exact Or.inr (Or.inl rfl)
          · exact Or.inr (Or.inr (Or.inl rfl))
          · exact Or.inr (Or.inr (Or.inr rfl))
          · exact absurd rfl h4
        · rw [oc_s e4, oc_s ((k_isName _).2 hn), if_pos rfl, if_pos rfl]
          exact ⟨-102, σ, τ, nm, keep _⟩
    · rw [(rng (n := 4) (c := 4) rfl (by decide) _ _ _).2 hn, oc_s e2, if_pos rfl]
      exact ⟨-102, σ, τ, nm, keep _⟩
  · rw [oc_s e1, oc_s ((k_knowsT hT h16 _).2 hn), if_pos rfl, if_pos rfl]
    exact ⟨-101, σ, τ, nm, keep _⟩
