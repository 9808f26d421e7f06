/-! pure: drawn runs: a member on both sides, and the whole run -/
theorem kx_30 {nt D : Nat} {τ : SS} (ho : okU τ.1 nt) (x : Int32) : kx nt τ (sI τ 30 D x) := ⟨rfl, fun c _ h1 => by rw [sI_p, pI_ne _ _ (fun e => h1 (by rw [e]; decide))], fun j _ _ => by rw [sI_p, pI_ne _ _ (by decide)], okU_s D x ho (by decide) (by decide)⟩
theorem sim_loop {P : Nat → Nat → Int32} {nt nm no w D m cc : Nat} {σ0 τ0 : SS} {E : Int32 → Int32 → SS → Option SS} (c : Cx P nt nm no σ0 τ0) (hE : SimE P nt nm σ0 τ0 E (w + 1)) (hm : m < nm) (hL : LG P nt nm 0 m 0) (h9 : P 9 m = nI cc) (hcc : cc ≤ 24) : ∀ (r i fuel : Nat) (σ τ : SS), i + r = cc → r < fuel → RS P nt nm σ0 τ0 σ τ (w + 1) → τ.1 0 37 = nI (D + 1) → it τ D 0 (nI m) (nI i) (-1) → bud (D + 2) (w + 1) σ → ∃ σ', p_X2_enter_56 E fuel (nI m) (nI w) (nI i) σ = some σ' ∧ Res P nt nm σ0 τ0 w D (1 + 3 * r) σ τ σ' := by
  have hW := c.1
  have h48 := hW.2.1.1
  have h160 := hW.2.2.1
  intro r
  induction r with
  | zero =>
    intro i fuel σ τ hi hf h hd hit hb
    obtain ⟨f, rfl⟩ : ∃ f, fuel = f + 1 := ⟨fuel - 1, by omega⟩
    have e : i = cc := by omega
    subst e
    have hD : D < 1000 := by unfold bud at hb; omega
    have hC := cx_C c h
    have hag := cx_ag c h
    obtain ⟨o1, o2, o3⟩ := pop_f (τ := τ) (D := D) h.2.1.2.2
    have e1 := nx_end hd hD hit (by omega) (by rw [hag 9 (by decide) (by decide)]; exact h9) (w := w) h.2.2.2.2.2.2.2.2.2.2.2.2.2.1
    refine ⟨σ, ?_, _, 1, Go_1 hd hD e1, RS_w (RS_x h o1) w, ?_, ?_, Up_rf σ, by omega⟩
    · rw [p_X2_enter_56]
      try dsimp only
      rw [oc_s (k_sizeOf hC.2.2.1 h48 hm), h9, if_pos (nI_le (Nat.le_refl _) (by omega))]
    · rw [sI_p, pI_at, upd_ne (by decide)]
      exact o3
    · refine sb_tr (o2 D) (fun i _ => ?_)
      have e : ∀ x, x ≠ 0 → (sI (sI τ 0 37 (nI D)) 0 40 (nI w)).1 x = (sI τ 0 37 (nI D)).1 x := fun x hx => by rw [sI_p, pI_ne _ _ hx]
      exact ⟨by rw [e 28 (by decide)], by rw [e 29 (by decide)], by rw [e 30 (by decide)], by rw [e 31 (by decide)]⟩
  | succ r ih =>
    intro i fuel σ τ hi hf h hd hit hb
    obtain ⟨f, rfl⟩ : ∃ f, fuel = f + 1 := ⟨fuel - 1, by omega⟩
    have hD : D < 1000 := by unfold bud at hb; omega
    have hC := cx_C c h
    have hag := cx_ag c h
    obtain ⟨c', w1, w2, -, w4⟩ := hW.2.2.2.2.1 m hm
    have ecc : c' = cc := (nI_eq (by omega) (by omega)).mp (w2.symm.trans h9)
    subst ecc
    obtain ⟨o, ho, h10⟩ := w4 i (by omega)
    have e1 := nx_op hd hD hit (by omega) (by rw [hag 9 (by decide) (by decide)]; exact h9) hcc (by omega) (by rw [hag 10 (by decide) (by decide)]; exact h10)
    have hR1 := RS_x h (kx_30 (D := D) h.2.1.2.2 (nI (i + 1)))
    generalize hτ1 : sI τ 30 D (nI (i + 1)) = τ1 at hR1 e1
    have c28 : ∀ x, x ≠ 30 → τ1.1 x = τ.1 x := fun x hx => by rw [← hτ1, sI_p, pI_ne _ _ hx]
    have c30 : τ1.1 30 = upd (τ.1 30) D (nI (i + 1)) := by rw [← hτ1, sI_p, pI_at]
    have hx8 : σ.2 6 8 = τ1.2 0 38 := hR1.2.2.1
    rw [show (4 : Int32) = nI 4 from rfl, oc_s (m_draw τ1 (by decide) (by decide)), ← hx8] at e1
    dsimp only at e1
    have hR2 := RS_draw hR1 (stp (σ.2 6 8))
    generalize hσ2 : sL σ 6 8 (stp (σ.2 6 8)) = σ2 at hR2
    generalize hτ2 : sL τ1 0 38 (stp (σ.2 6 8)) = τ2 at hR2 e1
    have eτ : τ2.1 = τ1.1 := by rw [← hτ2]; rfl
    have d2 : τ2.1 0 37 = nI (D + 1) := by rw [eτ, c28 0 (by decide)]; exact hd
    have it2 : it τ2 D 0 (nI m) (nI (i + 1)) (-1) := by
      refine ⟨?_, ?_, ?_, ?_⟩
      · rw [eτ, c28 28 (by decide)]; exact hit.1
      · rw [eτ, c28 29 (by decide)]; exact hit.2.1
      · rw [eτ, c30, upd_at]
      · rw [eτ, c28 31 (by decide)]; exact hit.2.2.2
    have sb2 : sb D τ τ2 := fun x hx => by
      rw [eτ]
      exact ⟨by rw [c28 28 (by decide)], by rw [c28 29 (by decide)], by rw [c30, upd_ne (by omega)], by rw [c28 31 (by decide)]⟩
    have hU2 : Up σ σ2 := by rw [← hσ2]; exact Up_rf σ
    have hP2 : Ph σ2 = Ph σ := by rw [← hσ2]; rfl
    have hC2 := cx_C c hR2
    have hcode : p_X2_enter_56 E (f + 1) (nI m) (nI w) (nI i) σ = (if drw (stp (σ.2 6 8)) 4 = 0 then p_X2_enter_56 E f (nI m) (nI w) (nI (i + 1)) σ2 else oc (p_X2_perform_0 E (nI o) (nI (w + 1)) σ2) (fun r_89 => p_X2_enter_56 E f (nI m) (nI w) (nI (i + 1)) r_89)) := by
      rw [p_X2_enter_56]
      try dsimp only
      unfold p_X2_enter_92
      rw [oc_s (k_sizeOf hC.2.2.1 h48 hm), h9, if_neg (nI_ge (by omega) (by omega)), show (4 : Int32) = nI 4 from rfl, oc_s (k_draw σ (by decide) (by decide)), hσ2]
      dsimp only
      rw [oc_s (k_opAt hC2.2.2.1 h48 hm h9 hcc (show i < c' by omega)), h10, nI_1, nI_1]
    rw [hcode]
    unfold p_X8_doNext_101 at e1
    by_cases hz : drw (stp (σ.2 6 8)) 4 = 0
    · rw [if_pos hz] at e1
      rw [if_pos hz]
      obtain ⟨σ', y1, y2⟩ := ih (i + 1) f σ2 τ2 (by omega) (by omega) hR2 d2 it2 (bud_up hb hU2)
      refine ⟨σ', y1, ?_⟩
      have := Res_tr (z := 1) (z' := 1 + 3 * r) (σ := σ) (τ := τ) ⟨τ2, 1, Go_1 hd hD e1, sb2, hU2, by omega, y2⟩
      exact Res_z this (by omega)
    · rw [if_neg hz] at e1
      rw [if_neg hz]
      have hof : ofM P m o := ⟨c', i, h9, hcc, by omega, h10, by omega⟩
      obtain ⟨σ3, τ3, p1, p2, p3, τ4, j4, g1, g2, g3, g4, g5, g6⟩ := sim_op (D := D + 1) c hE hR2 d2 ho (fun q i j hq => (LG_cls P nt nm).2.2 m hm hL o hof q i j hq) (bud_up hb hU2)
      rw [oc_s p2] at e1
      have it4 : it τ4 D 0 (nI m) (nI (i + 1)) (-1) := sb_it g4 (by omega) (sb_it p3 (by omega) it2)
      obtain ⟨σ', y1, y2⟩ := ih (i + 1) f σ3 τ4 (by omega) (by omega) g2 g3 it4 (bud_up hb (Up_tr hU2 g5))
      rw [oc_s p1]
      refine ⟨σ', y1, ?_⟩
      have := Res_tr (z := 3) (z' := 1 + 3 * r) (σ := σ) (τ := τ) ⟨τ4, 1 + j4, Go_tr 1 j4 τ τ3 τ4 (Go_1 hd hD e1) g1, sb_tr sb2 (sb_le (sb_tr p3 g4) (by omega)), Up_tr hU2 g5, by omega, y2⟩
      exact Res_z this (by omega)
theorem sim_enter {P : Nat → Nat → Int32} {nt nm no : Nat} {σ0 τ0 : SS} (c : Cx P nt nm no σ0 τ0) : ∀ (n w : Nat), 13 ≤ n + w → w ≤ 12 → SimE P nt nm σ0 τ0 (p_X2_enter n) w := by
  have hW := c.1
  have h48 := hW.2.1.1
  intro n
  induction n with
  | zero => intro w h1 h2; omega
  | succ n ih =>
    intro w hn hw σ τ D m b h hd hi hm hL hb hbud
    have hD : D < 1000 := by unfold bud at hbud; omega
    have hm48 : m < 48 := by omega
    obtain ⟨st, s1, s2, s3⟩ := id h.2.2.2.1
    obtain ⟨o1, o2, o3⟩ := pop_f (τ := τ) (D := D) h.2.1.2.2
    have hR1 := RS_x h o1
    have hg := cx_M c hR1
    have e1 := nx_1 hd hD hi
    have h39 : (sI τ 0 37 (nI D)).1 0 39 = nI st := by rw [sI_p, pI_at, upd_ne (by decide)]; exact s3
    rw [m_runNow hm48 hR1.2.2.2.2.2.2.2.2.2.2.2.2.1 hg hL hb, oc_s (m_run41 hm48 h39 s1 hR1.2.2.2.2.2.2.2.2.2.2.2.2.2.1 hw o3 hD)] at e1
    unfold p_X8_doNext_211 at e1
    have sbp : sb D τ (sI τ 0 37 (nI D)) := o2 D
    generalize hτ1 : sI τ 0 37 (nI D) = τ1 at hR1 e1 o3 sbp
    have hstn : stN σ = st := by unfold stN; rw [s2, nI_clamp (show st < 2 ^ 31 by omega)]
    rw [p_X2_enter]
    unfold p_X2_enter_0
    by_cases cut : w = 12 ∨ st = 300
    · rw [if_pos cut] at e1
      have hcode : (if (12 : Int32) ≤ nI w then p_X2_enter_16 (p_X2_enter n) σ else if (σ.1 6 12) < 300 then os (sI σ 6 12 ((σ.1 6 12) + 1)) (fun s_34 => oc (p_X0_with_0 (s_34.2 6 9) (nI m)) (fun r_43 => os (sL s_34 6 9 r_43) (fun s_46 => os (sI s_46 6 14 (nI m)) (fun s_51 => p_X2_enter_56 (p_X2_enter n) 100000 (nI m) (nI w) 0 s_51)))) else p_X2_enter_16 (p_X2_enter n) σ) = some (sI σ 6 13 (σ.1 6 13 + 1)) := by
        by_cases q : w = 12
        · rw [if_pos (show (12 : Int32) ≤ nI w by rw [q]; decide)]
          unfold p_X2_enter_16
          rw [os_s]
        · have q3 : st = 300 := cut.elim (fun x => absurd x q) id
          rw [if_neg (show ¬ (12 : Int32) ≤ nI w from nI_ge (b := 12) (by omega) (by omega)), s2, q3, if_neg (show ¬ nI 300 < 300 by decide)]
          unfold p_X2_enter_16
          rw [os_s]
      rw [hcode]
      refine ⟨_, rfl, _, 1, Go_1 hd hD e1, RS_left (RS_43 hR1), ?_, ?_, Up_rf σ, ?_⟩
      · rw [sI_p, pI_at, upd_ne (by decide), sI_p, pI_at, upd_ne (by decide)]
        exact o3
      · refine sb_tr sbp (fun i _ => ?_)
        have e : ∀ x, x ≠ 0 → (sI (sI τ1 0 43 1) 0 41 (τ1.1 0 41 + 1)).1 x = τ1.1 x := fun x hx => by rw [sI_p, pI_ne _ _ hx, sI_p, pI_ne _ _ hx]
        exact ⟨by rw [e 28 (by decide)], by rw [e 29 (by decide)], by rw [e 30 (by decide)], by rw [e 31 (by decide)]⟩
      · have : Ph (sI σ 6 13 (σ.1 6 13 + 1)) = Ph σ := rfl
        omega
    · rw [if_neg cut] at e1
      have hw12 : w < 12 := by omega
      have hst : st < 300 := by omega
      obtain ⟨cc, w1, w2, -, -⟩ := hW.2.2.2.2.1 m hm
      have hR2 : RS P nt nm σ0 τ0 (sI (sL (sI σ 6 12 (nI (st + 1))) 6 9 ((sI σ 6 12 (nI (st + 1))).2 6 9 ||| jshl 1 (nI m))) 6 14 (nI m)) (run1 τ1 m st w) (w + 1) := RS_latest (RS_ran (RS_w (RS_steps (RS_43 hR1) (by omega)) (w + 1)) hm48 hL) (nI m)
      obtain ⟨p1, p2, p3, p4⟩ := psh_f (τ := run1 τ1 m st w) (D := D) (nt := nt) (k := 0) (a := nI m) (b := -1) hR2.2.1.2.2
      have hcode : (if (12 : Int32) ≤ nI w then p_X2_enter_16 (p_X2_enter n) σ else if (σ.1 6 12) < 300 then os (sI σ 6 12 ((σ.1 6 12) + 1)) (fun s_34 => oc (p_X0_with_0 (s_34.2 6 9) (nI m)) (fun r_43 => os (sL s_34 6 9 r_43) (fun s_46 => os (sI s_46 6 14 (nI m)) (fun s_51 => p_X2_enter_56 (p_X2_enter n) 100000 (nI m) (nI w) 0 s_51)))) else p_X2_enter_16 (p_X2_enter n) σ) = p_X2_enter_56 (p_X2_enter n) 100000 (nI m) (nI w) (nI 0) (sI (sL (sI σ 6 12 (nI (st + 1))) 6 9 ((sI σ 6 12 (nI (st + 1))).2 6 9 ||| jshl 1 (nI m))) 6 14 (nI m)) := by
        rw [if_neg (show ¬ (12 : Int32) ≤ nI w from nI_ge (b := 12) (by omega) (by omega)), s2, if_pos (show nI st < 300 from nI_lt (b := 300) hst (by decide)), nI_1, os_s, with_s, oc_s rfl, os_s, os_s]
        rfl
      rw [hcode]
      generalize hσ1 : sI (sL (sI σ 6 12 (nI (st + 1))) 6 9 ((sI σ 6 12 (nI (st + 1))).2 6 9 ||| jshl 1 (nI m))) 6 14 (nI m) = σ1 at hR2
      have hst1 : stN σ1 = st + 1 := by
        rw [← hσ1]
        show (nI (st + 1)).toNatClampNeg = st + 1
        exact nI_clamp (by omega)
      have hbg1 : bgN σ1 = bgN σ := by rw [← hσ1]; rfl
      have hU1 : Up σ σ1 := ⟨by omega, by omega⟩
      have hP1 : Ph σ1 = Ph σ + 100 := by unfold Ph; rw [hst1, hbg1, hstn]; omega
      obtain ⟨σ', y1, y2⟩ := sim_loop (D := D) c (ih (w + 1) (by omega) (by omega)) hm hL w2 w1 cc 0 100000 σ1 _ (by omega) (by omega) (RS_x hR2 p1) p4 p3 (by unfold bud at hbud ⊢; omega)
      refine ⟨σ', y1, ?_⟩
      obtain ⟨τ', j, g1, g2, g3, g4, g5, g6⟩ := y2
      refine ⟨τ', 1 + j, Go_tr 1 j τ _ τ' (Go_1 hd hD e1) g1, g2, g3, sb_tr sbp (sb_tr ?_ (sb_tr p2 g4)), Up_tr hU1 g5, by omega⟩
      intro i _
      have e : ∀ x, x ≠ 0 → x ≠ 32 → (run1 τ1 m st w).1 x = τ1.1 x := fun x h0 h1 => by
        unfold run1
        rw [sI_p, pI_ne _ _ h0, sI_p, pI_ne _ _ h1, sI_p, pI_ne _ _ h0, sI_p, pI_ne _ _ h0, sI_p, pI_ne _ _ h0]
      exact ⟨by rw [e 28 (by decide) (by decide)], by rw [e 29 (by decide) (by decide)], by rw [e 30 (by decide) (by decide)], by rw [e 31 (by decide) (by decide)]⟩
theorem sim_play {P : Nat → Nat → Int32} {nt nm no : Nat} {σ0 τ0 : SS} (c : Cx P nt nm no σ0 τ0) : ∀ (r k fuel fuel' : Nat) (σ τ : SS), k + r = nm → r < fuel → r < fuel' → RS P nt nm σ0 τ0 σ τ 0 → τ.1 0 37 = nI 0 → ∃ σ' τ', p_X2_play_11 fuel (nI k) σ = some σ' ∧ p_X8_runAll_108 fuel' (nI k) τ = some τ' ∧ RS P nt nm σ0 τ0 σ' τ' 0 := by
  have hW := c.1
  have h16 := hW.1.1
  have h48 := hW.2.1.1
  intro r
  induction r with
  | zero =>
    intro k fuel fuel' σ τ hk hf hf' h hd
    obtain ⟨f, rfl⟩ : ∃ f, fuel = f + 1 := ⟨fuel - 1, by omega⟩
    obtain ⟨f', rfl⟩ : ∃ f', fuel' = f' + 1 := ⟨fuel' - 1, by omega⟩
    have e : k = nm := by omega
    subst e
    refine ⟨σ, τ, ?_, ?_, h⟩
    · rw [p_X2_play_11]
      try dsimp only
      rw [oc_s (size_M (cx_C c h).2.1), if_pos (nI_le (Nat.le_refl _) (by omega))]
    · rw [p_X8_runAll_108]
      try dsimp only
      rw [(cx_W c h).2.1.2.1, if_pos (nI_le (Nat.le_refl _) (by omega))]
  | succ r ih =>
    intro k fuel fuel' σ τ hk hf hf' h hd
    obtain ⟨f, rfl⟩ : ∃ f, fuel = f + 1 := ⟨fuel - 1, by omega⟩
    obtain ⟨f', rfl⟩ : ∃ f', fuel' = f' + 1 := ⟨fuel' - 1, by omega⟩
    have hkn : k < nm := by omega
    have hC := cx_C c h
    have hag := cx_ag c h
    have hroot : p_X4_isRoot_0 σ (nI k) = some (b2 (lb (σ.2 2 9) k)) := by
      unfold p_X4_isRoot_0
      rw [oc_s (p_has (show k < 64 by omega)), ob_ok (b2_01 _)]
    have hrt := hC.2.1.2.2.2.2.2.2.2.2 k (by omega)
    rw [p_X2_play_11, p_X8_runAll_108]
    try dsimp only
    unfold p_X2_play_39 p_X8_runAll_146
    rw [oc_s (size_M hC.2.1), if_neg (nI_ge hkn (by omega)), oc_s hroot, (cx_W c h).2.1.2.1, if_neg (nI_ge hkn (by omega)), oi_n (show k < 48 by omega) (by decide), nI_clamp (show k < 2 ^ 31 by omega), hag 8 (by decide) (by decide), nI_1]
    rcases (hW.2.1.2.2.1 k hkn).2.2 with e8 | e8
    · have hbf : lb (σ.2 2 9) k = false := Bool.eq_false_iff.mpr (fun q => by
        have := (hrt.mp q).2
        rw [e8] at this
        exact absurd this (by decide))
      rw [hbf, if_pos (show b2 false = 0 from rfl), if_pos e8]
      exact ih (k + 1) f f' σ τ (by omega) (by omega) (by omega) h hd
    · rw [hrt.mpr ⟨hkn, e8⟩, if_neg (show ¬ b2 true = 0 by decide), e8, if_neg n10]
      have hL : LG P nt nm 0 k 0 := (LG_cls P nt nm).1 k hkn e8
      obtain ⟨p1, p2, p3, p4⟩ := psh_f (τ := τ) (D := 0) (nt := nt) (k := 1) (a := nI k) (b := -1) h.2.1.2.2
      have hlim := RS_lim h16 h
      obtain ⟨σ1, y1, τ1, j, g1, g2, g3, g4, g5, g6⟩ := sim_enter c 14 0 (by decide) (by decide) σ _ 0 k (-1) (RS_x h p1) p4 p3 hkn hL (Or.inl rfl) (by unfold bud; omega)
      have y1' : p_X2_enter 14 (nI k) 0 σ = some σ1 := y1
      have hlim1 := RS_lim h16 g2
      have hPh : Ph σ1 ≤ 30640 := by unfold Ph; omega
      rw [oc_s y1', oc_s (m_push hd (by decide) 1 (nI k) (-1))]
      obtain ⟨σ', τ', z1, z2, z3⟩ := ih (k + 1) f f' σ1 τ1 (by omega) (by omega) (by omega) g2 g3
      refine ⟨σ', τ', z1, ?_, z3⟩
      rw [show (100000 : Nat) = j + ((99999 - j) + 1) by omega, Go_run (p_X8_runAll_108 f') (nI k) j _ _ _ g1, p_X8_runAll_132]
      try dsimp only
      unfold p_X8_runAll_146
      rw [g3, if_pos (show nI 0 ≤ 0 by decide), nI_1]
      exact z2
