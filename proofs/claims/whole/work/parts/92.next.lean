/-! pure: drawn runs: one step of the reference's stack -/
theorem nx_end {τ : SS} {D m c : Nat} {b : Int32} (h : τ.1 0 37 = nI (D + 1)) (hD : D < 1000) (hi : it τ D 0 (nI m) (nI c) b) (hm : m < 48) (h9 : τ.1 9 m = nI c) {w : Nat} (hw : τ.1 0 40 = nI (w + 1)) : p_X8_doNext_0 τ = some (sI (sI τ 0 37 (nI D)) 0 40 (nI w)) := by
  obtain ⟨i1, i2, i3, i4⟩ := hi
  have e40 : (sI τ 0 37 (nI D)).1 0 40 = nI (w + 1) := by rw [sI_p, pI_at, upd_ne (by decide)]; exact hw
  unfold p_X8_doNext_0
  rw [h, sub1, oi_n hD (by decide), oi_n hD (by decide), nI_clamp (show D < 2 ^ 31 by omega), i1, if_pos rfl, oi_n hD (by decide), i2, oi_n hm (by decide), nI_clamp (show m < 2 ^ 31 by omega), i3, h9, if_pos rfl, os_s, e40, sub1, os_s]
  rfl
theorem nx_op {τ : SS} {D m c i o : Nat} {b : Int32} (h : τ.1 0 37 = nI (D + 1)) (hD : D < 1000) (hi : it τ D 0 (nI m) (nI i) b) (hm : m < 48) (h9 : τ.1 9 m = nI c) (hc : c ≤ 24) (hic : i < c) (h10 : τ.1 10 (24 * m + i) = nI o) : p_X8_doNext_0 τ = oc (p_X8_draw_0 4 (sI τ 30 D (nI (i + 1)))) (fun r_90 => if r_90.1 = 0 then p_X8_doNext_101 r_90.2 else oc (p_X8_runOp_0 (nI o) r_90.2) (fun r_98 => p_X8_doNext_101 r_98)) := by
  obtain ⟨i1, i2, i3, i4⟩ := hi
  unfold p_X8_doNext_0
  rw [h, sub1, oi_n hD (by decide), oi_n hD (by decide), nI_clamp (show D < 2 ^ 31 by omega), i1, if_pos rfl, oi_n hD (by decide), i2, oi_n hm (by decide), nI_clamp (show m < 2 ^ 31 by omega), i3, h9, if_neg (fun q => by have := (nI_eq (by omega) (by omega)).mp q; omega), oi_n hD (by decide), c24, oi_n (show 24 * m + i < 1152 by omega) (by decide), oi_n hD (by decide), oi_n hD (by decide), nI_clamp (show 24 * m + i < 2 ^ 31 by omega), os_s, h10, nI_1]
theorem nx_1 {τ : SS} {D : Nat} {a n b : Int32} (h : τ.1 0 37 = nI (D + 1)) (hD : D < 1000) (hi : it τ D 1 a n b) : p_X8_doNext_0 τ = oc (p_X8_runNow_0 a b (sI τ 0 37 (nI D))) (fun r_132 => p_X8_doNext_211 r_132) := by
  obtain ⟨i1, i2, i3, i4⟩ := hi
  have e28 : (sI τ 0 37 (nI D)).1 28 = τ.1 28 := by rw [sI_p, pI_ne _ _ (by decide)]
  have e31 : (sI τ 0 37 (nI D)).1 31 = τ.1 31 := by rw [sI_p, pI_ne _ _ (by decide)]
  unfold p_X8_doNext_0
  rw [h, sub1, oi_n hD (by decide), oi_n hD (by decide), nI_clamp (show D < 2 ^ 31 by omega), i1, if_neg n10, os_s, oi_n hD (by decide), oi_n hD (by decide), e28, e31, i1, if_pos rfl, i2, i4]
theorem nx_2 {τ : SS} {D : Nat} {a n b : Int32} (h : τ.1 0 37 = nI (D + 1)) (hD : D < 1000) (hi : it τ D 2 a n b) : p_X8_doNext_0 τ = oc (p_X8_beginNow_0 a b (sI τ 0 37 (nI D))) (fun r_151 => p_X8_doNext_211 r_151) := by
  obtain ⟨i1, i2, i3, i4⟩ := hi
  have e28 : (sI τ 0 37 (nI D)).1 28 = τ.1 28 := by rw [sI_p, pI_ne _ _ (by decide)]
  have e31 : (sI τ 0 37 (nI D)).1 31 = τ.1 31 := by rw [sI_p, pI_ne _ _ (by decide)]
  unfold p_X8_doNext_0
  rw [h, sub1, oi_n hD (by decide), oi_n hD (by decide), nI_clamp (show D < 2 ^ 31 by omega), i1, if_neg (show ¬ (2 : Int32) = 0 by decide), os_s, oi_n hD (by decide), oi_n hD (by decide), e28, e31, i1, if_neg (show ¬ (2 : Int32) = 1 by decide), oi_n hD (by decide), if_pos rfl, i2, i4]
/-- an object comes into the POOL -/
theorem nx_3 {τ : SS} {D c pc : Nat} {n b : Int32} (h : τ.1 0 37 = nI (D + 1)) (hD : D < 1000) (hi : it τ D 3 (nI c) n b) (hc : c < 16) (h43 : τ.1 0 43 = 1) (h15 : τ.1 15 c = 1) (hp : τ.1 0 47 = nI pc) (hpc : pc ≤ 20) : p_X8_doNext_0 τ = some (if pc < 20 then sI (sI (sI (sI τ 0 37 (nI D)) 0 43 1) 34 pc (nI c)) 0 47 (nI (pc + 1)) else sI (sI τ 0 37 (nI D)) 0 43 1) := by
  obtain ⟨i1, i2, i3, i4⟩ := hi
  have e28 : (sI τ 0 37 (nI D)).1 28 = τ.1 28 := by rw [sI_p, pI_ne _ _ (by decide)]
  have e15 : (sI τ 0 37 (nI D)).1 15 = τ.1 15 := by rw [sI_p, pI_ne _ _ (by decide)]
  have e43 : (sI τ 0 37 (nI D)).1 0 43 = 1 := by rw [sI_p, pI_at, upd_ne (by decide)]; exact h43
  have e47 : (sI (sI τ 0 37 (nI D)) 0 43 1).1 0 47 = nI pc := by rw [sI_p, pI_at, upd_ne (by decide), sI_p, pI_at, upd_ne (by decide)]; exact hp
  have e47' : (sI (sI (sI τ 0 37 (nI D)) 0 43 1) 34 pc (nI c)).1 0 47 = nI pc := by rw [sI_p, pI_ne _ _ (by decide)]; exact e47
  unfold p_X8_doNext_0 p_X8_doNext_178
  rw [h, sub1, oi_n hD (by decide), oi_n hD (by decide), nI_clamp (show D < 2 ^ 31 by omega), i1, if_neg (show ¬ (3 : Int32) = 0 by decide), os_s, oi_n hD (by decide), oi_n hD (by decide), e28, i1, if_neg (show ¬ (3 : Int32) = 1 by decide), oi_n hD (by decide), if_neg (show ¬ (3 : Int32) = 2 by decide), e43, if_neg n10, i2, oi_n hc (by decide), nI_clamp (show c < 2 ^ 31 by omega), e15, h15, if_neg n10]
  unfold p_X8_doNext_179 p_X8_doNext_211
  rw [ob_ok (Or.inr rfl), os_s, e47]
  by_cases q : pc < 20
  · rw [if_neg (show ¬ (20 : Int32) ≤ nI pc from nI_ge (b := 20) q (by decide)), oi_n q (by decide), nI_clamp (show pc < 2 ^ 31 by omega), os_s, e47', os_s, nI_1, if_pos q]
  · rw [if_pos (show (20 : Int32) ≤ nI pc from nI_le (a := 20) (by omega) (by omega)), if_neg q]
/-- a member is run, or left out -/
theorem m_runNow {P : Nat → Nat → Int32} {nt nm m : Nat} {b : Int32} {τ : SS} (hm : m < 48) (h43 : τ.1 0 43 = 1) (hg : gM τ P nt nm) (hL : LG P nt nm 0 m 0) (hb : b = -1 ∨ ∃ o, o < 160 ∧ b = nI o ∧ LG P nt nm 4 o m) : p_X8_runNow_0 (nI m) b τ = p_X8_runNow_41 (nI m) 1 τ := by
  unfold p_X8_runNow_0 p_X8_runNow_36
  rw [h43, if_neg n10, oi_n hm (by decide), nI_clamp (show m < 2 ^ 31 by omega), gM_r hg hm, pb_t.mpr hL, if_neg (show ¬ b2 true = 0 by decide)]
  rcases hb with hb | ⟨o, ho, hb, hL4⟩
  · rw [if_pos hb]
  · rw [hb, if_neg (fun q => nI_m1 (u := o) (by omega) q.symm), c48, oi_n (show 48 * o + m < 7680 by omega) (by decide), nI_clamp (show 48 * o + m < 2 ^ 31 by omega), gM_c hg ho hm, pb_t.mpr hL4, if_neg (show ¬ b2 true = 0 by decide)]
def run1 (τ : SS) (m st w : Nat) : SS := sI (sI (sI (sI (sI τ 0 43 1) 0 39 (nI (st + 1))) 0 40 (nI (w + 1))) 32 m 1) 0 42 (nI m)
theorem m_run41 {τ : SS} {m st w D : Nat} (hm : m < 48) (hs : τ.1 0 39 = nI st) (hst : st ≤ 300) (hw : τ.1 0 40 = nI w) (hw12 : w ≤ 12) (hd : τ.1 0 37 = nI D) (hD : D < 1000) : p_X8_runNow_41 (nI m) 1 τ = some (if w = 12 ∨ st = 300 then sI (sI τ 0 43 1) 0 41 (τ.1 0 41 + 1) else psh (run1 τ m st w) D 0 (nI m) (-1)) := by
  have e40 : (sI τ 0 43 1).1 0 40 = nI w := by rw [sI_p, pI_at, upd_ne (by decide)]; exact hw
  have e39 : (sI τ 0 43 1).1 0 39 = nI st := by rw [sI_p, pI_at, upd_ne (by decide)]; exact hs
  have e41 : (sI τ 0 43 1).1 0 41 = τ.1 0 41 := by rw [sI_p, pI_at, upd_ne (by decide)]
  unfold p_X8_runNow_41 p_X8_runNow_63
  rw [ob_ok (Or.inr rfl), os_s, e40, e39, e41, os_s, os_s]
  by_cases q1 : w = 12
  · rw [if_pos (by rw [q1]; rfl), if_pos (Or.inl q1)]
  · rw [if_neg (show ¬ nI w = 12 from fun q => q1 ((nI_eq (b := 12) (by omega) (by omega)).mp q))]
    by_cases q2 : st = 300
    · rw [if_pos (by rw [q2]; rfl), if_pos (Or.inr q2)]
    · rw [if_neg (show ¬ nI st = 300 from fun q => q2 ((nI_eq (b := 300) (by omega) (by omega)).mp q)), if_neg (fun q => q.elim q1 q2), nI_1]
      have e40' : (sI (sI τ 0 43 1) 0 39 (nI (st + 1))).1 0 40 = nI w := by rw [sI_p, pI_at, upd_ne (by decide)]; exact e40
      have e37 : (run1 τ m st w).1 0 37 = nI D := by
        unfold run1
        rw [sI_p, pI_at, upd_ne (by decide), sI_p, pI_ne _ _ (by decide), sI_p, pI_at, upd_ne (by decide), sI_p, pI_at, upd_ne (by decide), sI_p, pI_at, upd_ne (by decide)]
        exact hd
      rw [e40', nI_1, os_s, oi_n hm (by decide), nI_clamp (show m < 2 ^ 31 by omega), os_s, os_s]
      exact oc_s (m_push e37 hD 0 (nI m) (-1))
/-- the faces that are begun with a type, as the reference pushes them -/
theorem beginNow_79 {P : Nat → Nat → Int32} {nt nm no t D : Nat} (hW : WF P nt nm no) (ht : t < nt) {X : Nat → Bool} (hX : ∀ f, f < nt → (X f = true ↔ und P t f ∧ P 1 f = 2 ∧ hpl P nm f)) (b : Int32) {τ : SS} (hag : ag P τ.1) (h0 : τ.1 0 0 = P 0 0) (h5 : τ.1 0 5 = P 0 5) (h12 : τ.1 0 12 = P 0 12) (hD : D + 16 < 1000) : ∀ (k fuel : Nat) (s : SS), k ≤ nt → k < fuel → kx nt τ s → sb D τ s → s.1 0 37 = nI (D + (cn X nt - cn X k)) → (∀ f, k ≤ f → f < nt → X f = true → it s (D + (cn X nt - cn X (f + 1))) 2 (nI f) 0 b) →
    ∃ s' f', p_X8_beginNow_79 fuel (nI t) b (nI k + (-1)) s = p_X8_beginNow_79 (f' + 1) (nI t) b (-1) s' ∧ kx nt τ s' ∧ sb D τ s' ∧ s'.1 0 37 = nI (D + cn X nt) ∧ ∀ f, f < nt → X f = true → it s' (D + (cn X nt - cn X (f + 1))) 2 (nI f) 0 b := by
  have h16 := hW.1.1
  have hcn := cn_le X nt
  intro k
  induction k with
  | zero =>
    intro fuel s hk hf hx hsb hd hi
    obtain ⟨f, rfl⟩ : ∃ f, fuel = f + 1 := ⟨fuel - 1, by omega⟩
    exact ⟨s, f, rfl, hx, hsb, hd, fun f hf hX' => hi f (Nat.zero_le _) hf hX'⟩
  | succ k ih =>
    intro fuel s hk hf hx hsb hd hi
    obtain ⟨f, rfl⟩ : ∃ f, fuel = f + 1 := ⟨fuel - 1, by omega⟩
    have hkn : k < nt := by omega
    have hlo : ∀ c, c ≠ 0 → c < 14 → s.1 c = P c := fun c a1 a2 => (hx.2.1 c a1 (fun q => by
      have : ∀ x ∈ sY, 20 ≤ x := by decide
      have := this c q
      omega)).trans (hag c a1 a2)
    have hWs : WF s.1 nt nm no := WF_ag hW hlo ((hx.2.2.1 0 (by decide) (by decide)).trans h0) ((hx.2.2.1 5 (by decide) (by decide)).trans h5) ((hx.2.2.1 12 (by decide) (by decide)).trans h12)
    obtain ⟨s1, e1, e2, e3, e4⟩ := m_isUnder hWs.1 hx.2.2.2 ht (show k < 16 by omega)
    have hx1 : kx nt τ s1 := kx_tr hx (kx_kp e2 sUV (Or.inr ⟨e3, e4⟩))
    obtain ⟨sb1, d1⟩ := sb_kp (D := D + (cn X nt - cn X (k + 1))) e2 sUX
    have hlo1 : ∀ c, c ≠ 0 → c < 14 → s1.1 c = P c := fun c a1 a2 => (kp_c e2 sU14 a1 a2).trans (hlo c a1 a2)
    have hmono : ∀ f, f < nt → cn X (f + 1) ≤ cn X nt := fun f hf => cn_mono X (by omega)
    rw [pk_m1, p_X8_beginNow_79]
    try dsimp only
    unfold p_X8_beginNow_122
    rw [if_neg (nI_pos (by omega)), oc_s e1, und_ag hlo]
    have skip : X k = false → ∃ s' f', p_X8_beginNow_79 f (nI t) b (nI k + (-1)) s1 = p_X8_beginNow_79 (f' + 1) (nI t) b (-1) s' ∧ kx nt τ s' ∧ sb D τ s' ∧ s'.1 0 37 = nI (D + cn X nt) ∧ ∀ f, f < nt → X f = true → it s' (D + (cn X nt - cn X (f + 1))) 2 (nI f) 0 b := by
      intro hXk
      rw [cn_s.2 hXk] at hd sb1
      refine ih f s1 (by omega) (by omega) hx1 (sb_tr hsb (sb_le sb1 (by omega))) (d1.trans hd) (fun g hg1 hg2 hg3 => ?_)
      have hgk : g ≠ k := fun q => by rw [q, hXk] at hg3; cases hg3
      refine sb_it sb1 ?_ (hi g (by omega) hg2 hg3)
      have a1 := cn_lt hg3 (show g < g + 1 by omega)
      have a2 := cn_mono X (show k ≤ g by omega)
      have a3 := hmono g hg2
      omega
    by_cases hu : und P t k
    · rw [pb_t.mpr hu, if_neg (show ¬ b2 true = 0 by decide), oi_n (show k < 16 by omega) (by decide), nI_clamp (show k < 2 ^ 31 by omega), hlo1 1 (by decide) (by decide)]
      by_cases h2 : P 1 k = 2
      · have hWs1 : wfM s1.1 nt nm := kp_wfM e2 sU14 hWs.2.1
        have hpl1 : hpl s1.1 nm k = hpl P nm k := by
          unfold hpl
          rw [hlo1 5 (by decide) (by decide), hlo1 7 (by decide) (by decide)]
        rw [if_pos h2, oc_s (m_hasPlain hWs1 k), hpl1]
        by_cases hh : hpl P nm k
        · have hXk : X k = true := (hX k hkn).mpr ⟨hu, h2, hh⟩
          have hcs := cn_s.1 hXk
          have a3 := hmono k hkn
          rw [pb_t.mpr hh, if_neg (show ¬ b2 true = 0 by decide), oc_s (m_push (d1.trans hd) (by omega) 2 (nI k) b)]
          obtain ⟨p1, p2, p3, p4⟩ := psh_f (τ := s1) (D := D + (cn X nt - cn X (k + 1))) (nt := nt) (k := 2) (a := nI k) (b := b) (Or.inr ⟨e3, e4⟩)
          refine ih f _ (by omega) (by omega) (kx_tr hx1 p1) (sb_tr hsb (sb_le (sb_tr sb1 p2) (by omega))) (by rw [p4]; congr 1; omega) (fun g hg1 hg2 hg3 => ?_)
          by_cases egk : g = k
          · rw [egk]; exact p3
          · refine sb_it (sb_tr sb1 p2) ?_ (hi g (by omega) hg2 hg3)
            have b1 := cn_lt hg3 (show g < g + 1 by omega)
            have b2 := cn_mono X (show k + 1 ≤ g by omega)
            have b3 := hmono g hg2
            omega
        · rw [pb_f.mpr hh, if_pos (show b2 false = 0 from rfl)]
          exact skip (Bool.eq_false_iff.mpr (fun q => hh ((hX k hkn).mp q).2.2))
      · rw [if_neg h2]
        exact skip (Bool.eq_false_iff.mpr (fun q => h2 ((hX k hkn).mp q).2.1))
    · rw [pb_f.mpr hu, if_pos (show b2 false = 0 from rfl)]
      exact skip (Bool.eq_false_iff.mpr (fun q => hu ((hX k hkn).mp q).1))
