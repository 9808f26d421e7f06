/-! pure: member: both sides alike -/
theorem sL_id {z : SS} {k j : Nat} {x : Int64} (h : z.2 k j = x) : sL z k j x = z := by rw [← h]; exact sL_same z k j
theorem k_addNamed {s : SS} {nm t n : Nat} (hnm : nm < 48) (ht : t < 16) (hn : n < 10) {v : Int32} (hv : s.1 12 nm = v) (h4 : v = 0 ∨ v = 1 ∨ v = 2 ∨ v = 3) : p_X4_addNamed_0 (nI nm) (nI t) (nI n) s = some (sL (sL (sL (sL (sI s 13 (t * 10 + n) (nI nm)) 15 n (if v = 1 then s.2 15 n else s.2 15 n ||| jshl 1 (nI nm))) 16 n (if v = 0 ∨ v = 1 then s.2 16 n ||| jshl 1 (nI t) else s.2 16 n)) 2 7 (if v = 0 then s.2 2 7 ||| jshl 1 (nI nm) else s.2 2 7)) 2 8 (if v = 0 then s.2 2 8 ||| jshl 1 (nI t) else s.2 2 8)) := by
  obtain ⟨s1, es⟩ : ∃ z, z = sI s 13 (t * 10 + n) (nI nm) := ⟨_, rfl⟩
  have h12 : s1.1 12 nm = v := by rw [es]; exact hv
  have h15 : s.2 15 n = s1.2 15 n := by rw [es]; rfl
  have h16 : s.2 16 n = s1.2 16 n := by rw [es]; rfl
  have h27 : s.2 2 7 = s1.2 2 7 := by rw [es]; rfl
  have h28 : s.2 2 8 = s1.2 2 8 := by rw [es]; rfl
  rw [p_X4_addNamed_0, c10, oi_n (show t * 10 + n < 160 by omega) (by decide), nI_clamp (show t * 10 + n < 2 ^ 31 by omega), os_s, oi_n hnm (by decide), nI_clamp (show nm < 2 ^ 31 by omega), ← es, h12, h15, h16, h27, h28]
  have hH : p_X4_isHandle_0 s1 (nI nm) = some (if v = 1 then 0 else 1) := by
    unfold p_X4_isHandle_0 p_X4_isHandle_24 p_X4_isHandle_25
    rw [oi_n hnm (by decide), nI_clamp (show nm < 2 ^ 31 by omega), h12, oi_n hnm (by decide)]
    rcases h4 with rfl | rfl | rfl | rfl <;> rfl
  rw [oc_s hH]
  clear es hv
  rcases h4 with rfl | rfl | rfl | rfl
  · rw [if_neg (by decide), if_neg (show ¬ (0 : Int32) = 1 by decide), if_pos (show (0 : Int32) = 0 ∨ (0 : Int32) = 1 from Or.inl rfl), if_pos (show (0 : Int32) = 0 from rfl), if_pos (show (0 : Int32) = 0 from rfl), oi_n hn (by decide), nI_clamp (show n < 2 ^ 31 by omega), with_s, oc_s rfl, oi_n hn (by decide), os_s]
    rw [p_X4_addNamed_44, if_pos rfl, p_X4_addNamed_55, oi_n hn (by decide), nI_clamp (show n < 2 ^ 31 by omega), with_s, oc_s rfl, oi_n hn (by decide), os_s]
    rw [p_X4_addNamed_71, if_pos rfl, with_s, oc_s rfl, os_s, with_s, oc_s rfl, os_s]
    rfl
  · rw [if_pos (by decide), if_pos (show (1 : Int32) = 1 by decide), if_pos (show (1 : Int32) = 0 ∨ (1 : Int32) = 1 from Or.inr rfl), if_neg (show ¬ (1 : Int32) = 0 by decide), if_neg (show ¬ (1 : Int32) = 0 by decide)]
    rw [p_X4_addNamed_44, if_neg (by decide), if_pos rfl, p_X4_addNamed_55, oi_n hn (by decide), nI_clamp (show n < 2 ^ 31 by omega), with_s, oc_s rfl, oi_n hn (by decide), os_s]
    rw [p_X4_addNamed_71, if_neg (by decide), sL_id (z := s1) (k := 15) (j := n) rfl]
    rw [sL_id (z := sL s1 16 n (s1.2 16 n ||| jshl 1 (nI t))) (k := 2) (j := 7) (x := s1.2 2 7) rfl, sL_id (z := sL s1 16 n (s1.2 16 n ||| jshl 1 (nI t))) (k := 2) (j := 8) (x := s1.2 2 8) rfl]
    rfl
  · rw [if_neg (by decide), if_neg (show ¬ (2 : Int32) = 1 by decide), if_neg (show ¬ ((2 : Int32) = 0 ∨ (2 : Int32) = 1) by decide), if_neg (show ¬ (2 : Int32) = 0 by decide), if_neg (show ¬ (2 : Int32) = 0 by decide), oi_n hn (by decide), nI_clamp (show n < 2 ^ 31 by omega), with_s, oc_s rfl, oi_n hn (by decide), os_s]
    rw [p_X4_addNamed_44, if_neg (by decide), if_neg (by decide), p_X4_addNamed_71, if_neg (by decide)]
    rw [sL_id (z := sL s1 15 n (s1.2 15 n ||| jshl 1 (nI nm))) (k := 16) (j := n) (x := s1.2 16 n) rfl, sL_id (z := sL s1 15 n (s1.2 15 n ||| jshl 1 (nI nm))) (k := 2) (j := 7) (x := s1.2 2 7) rfl, sL_id (z := sL s1 15 n (s1.2 15 n ||| jshl 1 (nI nm))) (k := 2) (j := 8) (x := s1.2 2 8) rfl]
    rfl
  · rw [if_neg (by decide), if_neg (show ¬ (3 : Int32) = 1 by decide), if_neg (show ¬ ((3 : Int32) = 0 ∨ (3 : Int32) = 1) by decide), if_neg (show ¬ (3 : Int32) = 0 by decide), if_neg (show ¬ (3 : Int32) = 0 by decide), oi_n hn (by decide), nI_clamp (show n < 2 ^ 31 by omega), with_s, oc_s rfl, oi_n hn (by decide), os_s]
    rw [p_X4_addNamed_44, if_neg (by decide), if_neg (by decide), p_X4_addNamed_71, if_neg (by decide)]
    rw [sL_id (z := sL s1 15 n (s1.2 15 n ||| jshl 1 (nI nm))) (k := 16) (j := n) (x := s1.2 16 n) rfl, sL_id (z := sL s1 15 n (s1.2 15 n ||| jshl 1 (nI nm))) (k := 2) (j := 7) (x := s1.2 2 7) rfl, sL_id (z := sL s1 15 n (s1.2 15 n ||| jshl 1 (nI nm))) (k := 2) (j := 8) (x := s1.2 2 8) rfl]
    rfl
/-- the class's members ahead of what a name or a start puts -/
def mb0 (σ : SS) (nm t : Nat) (sort : Int32) : SS := sI (sI (sI (sI σ 5 12 0) 11 nm (nI t)) 12 nm sort) 2 10 (nI (nm + 1))
theorem k_addM {σ : SS} {nm t : Nat} (h : σ.1 2 10 = nI nm) (hnm : nm < 48) (ht : t < 16) (v2 sort : Int32) : p_X4_add_0 (nI t) v2 sort (sI σ 5 12 0) = if sort = 4 then some (nI nm, sI (mb0 σ nm t sort) 14 t (nI nm)) else oc (p_X4_addNamed_0 (nI nm) (nI t) v2 (mb0 σ nm t sort)) (fun r => some (nI nm, r)) := by
  rw [p_X4_add_0, show (sI σ 5 12 0).1 2 10 = nI nm from h, oi_n hnm (by decide), nI_clamp (show nm < 2 ^ 31 by omega), os_s, oi_n hnm (by decide), os_s]
  rw [show (sI (sI (sI σ 5 12 0) 11 nm (nI t)) 12 nm sort).1 2 10 = nI nm from h, nI_1, os_s]
  show (if sort = 4 then oi (nI t) 16 (os (sI (mb0 σ nm t sort) 14 (nI t).toNatClampNeg (nI nm)) fun s_44 => p_X4_add_56 (nI nm) s_44) else oc (p_X4_addNamed_0 (nI nm) (nI t) v2 (mb0 σ nm t sort)) fun r_53 => p_X4_add_56 (nI nm) r_53) = _
  rw [oi_n ht (by decide), nI_clamp (show t < 2 ^ 31 by omega), os_s]
  rfl
theorem mb_cT {σ σ' τ : SS} {nt nm : Nat} {t nam sort : Int32} (hT : cT σ τ.1 nt) (h1 : σ'.1 1 5 = σ.1 1 5) (h7 : σ'.1 7 = σ.1 7) (h8 : σ'.1 8 = σ.1 8) (h9 : σ'.2 9 = σ.2 9) (h4 : σ'.2 1 4 = σ.2 1 4) (h10 : σ'.2 10 = σ.2 10) : cT σ' (mbT τ nm t nam sort).1 nt := by
  have h := cT_c hT h1 h7 h8 h9 h4 h10
  exact h
/-- a START comes -/
theorem mb_cMs {σ τ : SS} {nt nm t : Nat} (hM : wfM τ.1 nt nm) (hc : cM σ τ.1 nm) (hnm : nm < 48) (ht : t < 16) (hn : isOwn τ.1 nm (nI t) (-1) (-1)) : cM (sI (mb0 σ nm t 4) 14 t (nI nm)) (mbT τ nm (nI t) (-1) 4).1 (nm + 1) := by
  have ag := mbT_ag τ nm (nI t) (-1) 4
  have e5 : (mbT τ nm (nI t) (-1) 4).1 5 nm = nI t := upd_at
  have e6 : (mbT τ nm (nI t) (-1) 4).1 6 nm = -1 := upd_at
  have e7 : (mbT τ nm (nI t) (-1) 4).1 7 nm = 4 := upd_at
  have e8 : (mbT τ nm (nI t) (-1) 4).1 8 = upd (τ.1 8) nm 0 := rfl
  generalize (mbT τ nm (nI t) (-1) 4).1 = P' at *
  obtain ⟨c1, c2, c3, c4, c5, c6, c7, c8, c9⟩ := hc
  refine ⟨rfl, fun m hm => ?_, fun t' ht' n hn' => ?_, fun t' ht' => ?_, fun n hn' m hm => ?_, fun n hn' t' ht' => ?_, fun m hm => ?_, fun t' ht' => ?_, fun m hm => ?_⟩
  · show upd (σ.1 11) nm (nI t) m = P' 5 m ∧ upd (σ.1 12) nm 4 m = P' 7 m
    by_cases e : m = nm
    · subst e
      rw [upd_at, upd_at, e5, e7]
      exact ⟨rfl, rfl⟩
    · rw [upd_lt (by omega), upd_lt (by omega), ag.k5 m (by omega), ag.k7 m (by omega)]
      exact c2 m (by omega)
  · show isOwn P' (nm + 1) (nI t') (nI n) (σ.1 13 (t' * 10 + n))
    exact (isOwn_up ag (fun q => nI_m1 (u := n) (by omega) (e6.symm.trans q.2))).mpr (c3 t' ht' n hn')
  · show isOwn P' (nm + 1) (nI t') (-1) (upd (σ.1 14) t (nI nm) t')
    by_cases e : t' = t
    · subst e
      rw [upd_at]
      exact Or.inr ⟨nm, by omega, e5, e6, rfl⟩
    · rw [upd_ne e]
      exact (isOwn_up ag (fun q => e ((nI_eq (by omega) (by omega)).mp (e5.symm.trans q.1)).symm)).mpr (c4 t' ht')
  · show lb (σ.2 15 n) m = true ↔ _
    rw [c5 n hn' m hm]
    constructor
    · rintro ⟨h1, h2, h3⟩
      exact ⟨by omega, by rw [ag.k6 m h1]; exact h2, by rw [ag.k7 m h1]; exact h3⟩
    · rintro ⟨h1, h2, h3⟩
      have e : m ≠ nm := fun e => by rw [e, e6] at h2; exact nI_m1 (by omega) h2
      have h1' : m < nm := by omega
      rw [ag.k6 m h1'] at h2
      rw [ag.k7 m h1'] at h3
      exact ⟨h1', h2, h3⟩
  · show lb (σ.2 16 n) t' = true ↔ _
    rw [c6 n hn' t' ht']
    constructor
    · rintro ⟨m, h1, h2, h3, h4⟩
      exact ⟨m, by omega, by rw [ag.k5 m h1]; exact h2, by rw [ag.k6 m h1]; exact h3, by unfold pbs; rw [ag.k7 m h1]; exact h4⟩
    · rintro ⟨m, h1, h2, h3, h4⟩
      have e : m ≠ nm := fun e => by rw [e, e6] at h3; exact nI_m1 (by omega) h3
      have h1' : m < nm := by omega
      rw [ag.k5 m h1'] at h2
      rw [ag.k6 m h1'] at h3
      unfold pbs at h4
      rw [ag.k7 m h1'] at h4
      exact ⟨m, h1', h2, h3, h4⟩
  · show lb (σ.2 2 7) m = true ↔ _
    rw [c7 m hm]
    constructor
    · rintro ⟨h1, h2⟩
      exact ⟨by omega, by rw [ag.k7 m h1]; exact h2⟩
    · rintro ⟨h1, h2⟩
      have e : m ≠ nm := fun e => by rw [e, e7] at h2; exact absurd h2 (by decide)
      have h1' : m < nm := by omega
      rw [ag.k7 m h1'] at h2
      exact ⟨h1', h2⟩
  · show lb (σ.2 2 8) t' = true ↔ _
    rw [c8 t' ht']
    constructor
    · rintro ⟨m, h1, h2, h3⟩
      exact ⟨m, by omega, by rw [ag.k5 m h1]; exact h2, by rw [ag.k7 m h1]; exact h3⟩
    · rintro ⟨m, h1, h2, h3⟩
      have e : m ≠ nm := fun e => by rw [e, e7] at h3; exact absurd h3 (by decide)
      have h1' : m < nm := by omega
      rw [ag.k5 m h1'] at h2
      rw [ag.k7 m h1'] at h3
      exact ⟨m, h1', h2, h3⟩
  · show lb (σ.2 2 9) m = true ↔ _
    rw [c9 m hm, e8]
    by_cases e : m = nm
    · subst e
      rw [upd_at]
      exact ⟨fun h => absurd h.1 (Nat.lt_irrefl _), fun h => absurd h.2 (by decide)⟩
    · rw [upd_ne e]
      exact ⟨fun h => ⟨by omega, h.2⟩, fun h => ⟨by omega, h.2⟩⟩
