/-! pure: drawn runs: an OP on both sides -/
/-- a member is to be run -/
theorem op_by {P : Nat → Nat → Int32} {nt nm no w D m o : Nat} {σ0 τ0 σ τ : SS} {E : Int32 → Int32 → SS → Option SS} (c : Cx P nt nm no σ0 τ0) (hE : SimE P nt nm σ0 τ0 E w) (h : RS P nt nm σ0 τ0 σ τ w) (hd : τ.1 0 37 = nI D) (hm : m < nm) (ho : o < 160) (hL : LG P nt nm 4 o m) (hb : bud D w σ) : ∃ σ' τ1, p_X2_enterBy_0 E (nI o) (nI m) (nI w) σ = some σ' ∧ p_X8_push_0 1 (nI m) (nI o) τ = some τ1 ∧ sb D τ τ1 ∧ Res P nt nm σ0 τ0 w D 2 σ τ1 σ' := by
  have hD : D < 1000 := by unfold bud at hb; omega
  obtain ⟨p1, p2, p3, p4⟩ := psh_f (τ := τ) (D := D) (nt := nt) (k := 1) (a := nI m) (b := nI o) h.2.1.2.2
  obtain ⟨σ', q1, q2⟩ := s_by c hE (RS_x h p1) p4 p3 hm ho hL hb
  exact ⟨σ', _, q1, m_push hd hD 1 (nI m) (nI o), p2, Res_z q2 (by omega)⟩
theorem oc_id (x : Option SS) : oc x (fun r => some r) = x := by cases x <;> rfl
theorem sim_call {P : Nat → Nat → Int32} {nt nm no w D o t n : Nat} {σ0 τ0 σ τ : SS} {E : Int32 → Int32 → SS → Option SS} (c : Cx P nt nm no σ0 τ0) (hE : SimE P nt nm σ0 τ0 E w) (h : RS P nt nm σ0 τ0 σ τ w) (hd : τ.1 0 37 = nI D) (ho : o < no) (ht : t < nt) (hn : n < 10) (h12 : P 12 o = nI t) (h13 : P 13 o = nI n) (hL : ∀ x m, x < nt → m < nm → LG P nt nm 1 x 0 → und P x t → isH P nt nm x t (nI n) (nI m) → LG P nt nm 4 o m) (hb : bud D w σ) : ∃ σ' τ1, p_X2_callPooled_0 E (nI o) (nI w) σ = some σ' ∧ p_X8_runCall_0 (nI o) τ = some τ1 ∧ sb D τ τ1 ∧ Res P nt nm σ0 τ0 w D 2 σ τ1 σ' := by
  have hW := c.1
  have h16 := hW.1.1
  have h48 := hW.2.1.1
  have h160 := hW.2.2.1
  have ho' : o < 160 := by omega
  have hD : D < 1000 := by unfold bud at hb; omega
  have hC := cx_C c h
  have hag := cx_ag c h
  have h00 := cx_0 c h
  have hWτ := cx_W c h
  obtain ⟨pc, k1, k2, k3, k4⟩ := h.2.2.2.2.2.2.2.2.2.2.1
  obtain ⟨pl, hpl⟩ : ∃ pl : Nat → Nat, ∀ i, i < pc → pl i < nt ∧ LG P nt nm 1 (pl i) 0 ∧ σ.1 29 i = nI (pl i) ∧ τ.1 34 i = nI (pl i) := by
    refine ⟨fun i => (σ.1 29 i).toNatClampNeg, fun i hi => ?_⟩
    obtain ⟨x, x1, x2, x3, x4⟩ := k4 i hi
    dsimp only
    rw [x3, nI_clamp (show x < 2 ^ 31 by omega)]
    exact ⟨x1, x2, rfl, x4⟩
  obtain ⟨U, hU⟩ : ∃ U : Nat → Bool, U = fun i => pb (und P (pl i) t) := ⟨_, rfl⟩
  have hUe : ∀ i, U i = pb (und P (pl i) t) := fun i => by rw [hU]
  have hcp := cn_le U pc
  obtain ⟨a1, a2, -⟩ := k_opab hC.2.2.1 h160 ho
  have cC := callPooled_15 E h16 ht hC.1 k1 k2 (pl := pl) (fun i hi => ⟨(hpl i hi).1, (hpl i hi).2.2.1⟩) (nI o) (nI w) pc 0 100000 (by omega) (by omega)
  rw [← hU] at cC
  obtain ⟨s', q1, q2, q3⟩ := runCall_12 hW ht hWτ hag k1 k3 (pl := pl) (fun i hi => ⟨(hpl i hi).1, (hpl i hi).2.2.2⟩) hUe (nI o) pc 0 100000 τ (by omega) (by omega) (kp_rf sU τ) h.2.1.2.2
  have hx1 := kx_kp q1 sUV q2
  obtain ⟨sb1, d1⟩ := sb_kp (D := D + 1) q1 sUX
  have hcode : p_X2_callPooled_0 E (nI o) (nI w) σ = p_X2_callPooled_15 E 100000 (nI o) (nI w) (nI t) (nI (cn U 0)) (nI 0) σ := by
    unfold p_X2_callPooled_0
    rw [oc_s a1, h12]
    rfl
  have rcode : p_X8_runCall_0 (nI o) τ = p_X8_runCall_12 100000 (nI o) (nI t) (nI (cn U 0)) (nI 0) τ := by
    unfold p_X8_runCall_0
    rw [oi_n ho' (by decide), nI_clamp (show o < 2 ^ 31 by omega), hag 12 (by decide) (by decide), h12]
    rfl
  rw [hcode, rcode, cC, q3]
  by_cases hz : cn U pc = 0
  · rw [if_pos (by rw [hz]; rfl), if_pos (by rw [hz]; rfl)]
    exact ⟨σ, s', rfl, rfl, sb_le sb1 (by omega), Res_0 (RS_x h hx1) (d1.trans hd)⟩
  · have hne : ¬ nI (cn U pc) = 0 := nI_ne0 (by omega) (by omega)
    have hx8 : σ.2 6 8 = s'.2 0 38 := by rw [q1.1]; exact h.2.2.1
    obtain ⟨r, hr, er⟩ := drawn (stp (σ.2 6 8)) (n := cn U pc) (by omega) (by omega)
    have er' : drw (stp (σ.2 6 8)) (cn U pc) = nI r := er
    rw [if_neg hne, if_neg hne, oc_s (k_draw σ (by omega) (by omega)), oc_s (m_draw s' (by omega) (by omega)), ← hx8, er']
    have hR2 : RS P nt nm σ0 τ0 (sL σ 6 8 (stp (σ.2 6 8))) (sL s' 0 38 (stp (σ.2 6 8))) w := RS_draw (RS_x h hx1) _
    generalize hσ2 : sL σ 6 8 (stp (σ.2 6 8)) = σ2 at hR2
    generalize hτ2 : sL s' 0 38 (stp (σ.2 6 8)) = τ2 at hR2
    have hC2 := cx_C c hR2
    have e29 : σ2.1 = σ.1 := by rw [← hσ2]; rfl
    have eτ : τ2.1 = s'.1 := by rw [← hτ2]; rfl
    have hUp : Up σ σ2 := by rw [← hσ2]; exact Up_rf σ
    have hPh : Ph σ2 = Ph σ := by rw [← hσ2]; rfl
    have hbud2 : bud D w σ2 := bud_up hb hUp
    have d2 : τ2.1 0 37 = nI D := by rw [eτ]; exact d1.trans hd
    obtain ⟨i', u1, u2, u3, u4⟩ := pooledUnder_5 h16 ht hC2.1 k1 (by rw [e29]; exact k2) (pl := pl) (fun i hi => ⟨(hpl i hi).1, by rw [e29]; exact (hpl i hi).2.2.1⟩) (U := U) (fun i => by rw [hUe]; exact pb_t) hr pc 0 100000 (by omega) (by omega) (Nat.zero_le _)
    obtain ⟨l1, l2, l3, l4⟩ := hpl i' u1
    have hund : und P (pl i') t := pb_t.mp (by rw [← hUe]; exact u2)
    have b2' : p_X5_b_0 σ2 (nI o) = some (nI n) := by rw [(k_opab hC2.2.2.1 h160 ho).2.1, h13]
    obtain ⟨rz, z1, z2⟩ := k_choose (c := pl i') (t := t) (n := n) h16 hW.2.1 hC2.2.1 hC2.2.2.2 l1 ht hn
    obtain ⟨s3, v1, v2⟩ := runCall_65 (n := n) (o := o) (D := D) (r := r) hW ht (cx_ag c hR2) (cx_0 c hR2) k1 (by rw [eτ]; exact (q1.2.2 47 (by decide)).trans k3) (pl := pl) (fun i hi => ⟨(hpl i hi).1, by rw [eτ, q1.2.1 34 (by decide) (by decide)]; exact (hpl i hi).2.2.2⟩) hUe ho' h13 hD (by omega) pc 0 100000 τ2 (by omega) (by omega) ⟨⟨rfl, fun _ _ _ => rfl, fun _ _ _ => rfl, hR2.2.1.2.2⟩, sb_rf D τ2, Or.inl ⟨Nat.zero_le _, d2⟩⟩
    have v1' : p_X8_runCall_65 100000 (nI o) (nI t) (nI r) 0 τ2 = some s3 := by
      have e0 : nI r - nI (cn U 0) = nI r := by
        show nI r - nI 0 = nI r
        rw [show nI 0 = 0 from rfl, Int32.sub_zero]
      rw [e0] at v1
      exact v1
    have hu4 : p_X2_pooledUnder_0 σ2 (nI t) (nI r) = some (nI (pl i')) := u4
    rw [oc_s hu4, if_neg (fun q => nI_m1 (u := pl i') (by omega) q.symm), oc_s b2', oc_s z1, v1']
    unfold p_X2_callPooled_100
    rw [oc_id]
    have hsb : sb D τ s3 := by
      refine sb_tr (sb_le sb1 (by omega)) (sb_tr ?_ v2.2.1)
      intro i _
      rw [eτ]
      exact ⟨rfl, rfl, rfl, rfl⟩
    rcases v2.2.2 with ⟨w1, -⟩ | ⟨i2, rz2, w1, w2, w3, w4, w5⟩
    · omega
    · have ei : i2 = i' := by
        rcases Nat.lt_trichotomy i2 i' with q | q | q
        · have := cn_lt w2 q; omega
        · exact q
        · have := cn_lt u2 q; omega
      subst ei
      have erz : rz2 = rz := isH_one hW.2.1 (by omega) (by omega) w4 z2
      subst erz
      rcases w5 with ⟨w6, w7⟩ | ⟨m, w6, w7, w8, w9⟩
      · refine ⟨σ2, s3, s_no w6 _ _ _, rfl, hsb, ?_⟩
        obtain ⟨τ', j, g1, g2, g3, g4, g5, g6⟩ := Res_0 (z := 2) (RS_x hR2 v2.1) w7
        exact ⟨τ', j, g1, g2, g3, g4, Up_tr hUp g5, by omega⟩
      · rw [w6] at z2 ⊢
        obtain ⟨σ', y1, τ', j, g1, g2, g3, g4, g5, g6⟩ := s_by c hE (RS_x hR2 v2.1) w8 w9 w7 ho' (hL (pl i2) m l1 w7 l2 hund z2) hbud2
        exact ⟨σ', s3, y1, rfl, hsb, τ', j, g1, g2, g3, g4, Up_tr hUp g5, by omega⟩
theorem sim_op {P : Nat → Nat → Int32} {nt nm no w D o : Nat} {σ0 τ0 σ τ : SS} {E : Int32 → Int32 → SS → Option SS} (c : Cx P nt nm no σ0 τ0) (hE : SimE P nt nm σ0 τ0 E w) (h : RS P nt nm σ0 τ0 σ τ w) (hd : τ.1 0 37 = nI D) (ho : o < no) (hS : ∀ q i j, opS P nt nm (LG P nt nm) o q i j → LG P nt nm q i j) (hb : bud (D + 1) w σ) : ∃ σ' τ1, p_X2_perform_0 E (nI o) (nI w) σ = some σ' ∧ p_X8_runOp_0 (nI o) τ = some τ1 ∧ sb D τ τ1 ∧ Res P nt nm σ0 τ0 w D 2 σ τ1 σ' := by
  obtain ⟨hw, hM, hO⟩ := id c.1
  have hW := c.1
  have h16 := hw.1
  have h48 := hM.1
  have h160 := hO.1
  have ho' : o < 160 := by omega
  have hD : D + 1 ≤ 900 := by unfold bud at hb; omega
  have hb0 : bud D w σ := by unfold bud at hb ⊢; omega
  have hC := cx_C c h
  have hag := cx_ag c h
  have hWτ := cx_W c h
  have hok := h.2.1.2.2
  obtain ⟨a1, a2, a3⟩ := k_opab hC.2.2.1 h160 ho
  unfold p_X2_perform_0 p_X8_runOp_0
  rw [oc_s a1, oc_s a2, oc_s a3, oi_n ho' (by decide), oi_n ho' (by decide), oi_n ho' (by decide), nI_clamp (show o < 2 ^ 31 by omega), hag 11 (by decide) (by decide), hag 12 (by decide) (by decide), hag 13 (by decide) (by decide)]
  have hcall : (P 11 o = 1 ∨ P 11 o = 4) → ∀ t n, t < nt → n < 10 → P 12 o = nI t → P 13 o = nI n → ∃ σ' τ1, p_X2_perform_104 E (nI o) (nI w) σ = some σ' ∧ p_X8_runOp_291 (nI o) τ = some τ1 ∧ sb D τ τ1 ∧ Res P nt nm σ0 τ0 w D 2 σ τ1 σ' := by
    intro hk t n ht hn h12 h13
    obtain ⟨σ', τ1, q1, q2, q3, q4⟩ := sim_call c hE h hd ho ht hn h12 h13 (fun x m hx hm w1 w2 w3 => hS 4 o m (by
      rcases hk with hk | hk
      · rw [opS_1 hk]; exact ⟨rfl, rfl, hm, t, n, x, ht, hn, hx, h12, h13, w1, w2, w3⟩
      · rw [opS_4 hk]; exact ⟨rfl, rfl, hm, t, n, x, ht, hn, hx, h12, h13, w1, w2, w3⟩)) hb0
    unfold p_X2_perform_104 p_X8_runOp_291
    rw [oc_s q1, oc_s q2]
    exact ⟨σ', τ1, rfl, rfl, q3, q4⟩
  rcases hO.2.2.2 o ho with ⟨k, t, ht, h12, h1t⟩ | ⟨k, t, n, ht, hn, h12, h13⟩ | ⟨k, a, m, ha, hm, h12, h13, h7⟩ | ⟨k, a, ha, h12⟩ | ⟨k, n, hn, h13⟩
  · -- NEW
    rw [k, if_pos rfl, if_pos rfl, h12]
    obtain ⟨p1, p2, p3, p4⟩ := psh_f (τ := τ) (D := D) (nt := nt) (k := 3) (a := nI t) (b := nI o) hok
    obtain ⟨r1, r2, r3, r4⟩ := psh_f (τ := psh τ D 3 (nI t) (nI o)) (D := D + 1) (nt := nt) (k := 2) (a := nI t) (b := nI o) p1.2.2.2
    rw [oc_s (m_push hd (by omega) 3 (nI t) (nI o)), oc_s (m_push p4 (by omega) 2 (nI t) (nI o))]
    have hL1 : LG P nt nm 1 t 0 := hS 1 t 0 (by rw [opS_0 k]; exact ⟨t, ht, h12, Or.inl ⟨rfl, rfl, rfl⟩⟩)
    obtain ⟨σ1, y1, τ2, j, g1, g2, g3, g4, g5, g6⟩ := sim_begin c hE 40 t σ _ (D + 1) o (by omega) (RS_x h (kx_tr p1 r1)) r4 r3 ht ho' (fun q i j' w => hS q i j' (by rw [opS_0 k]; exact ⟨t, ht, h12, Or.inr w⟩)) hb
    rw [oc_s y1]
    have hi3 : it τ2 D 3 (nI t) 0 (nI o) := sb_it g4 (by omega) (sb_it r2 (by omega) p3)
    obtain ⟨pc, k1, k2, k3, k4⟩ := id g2.2.2.2.2.2.2.2.2.2.2.1
    have hg := cx_M c g2
    have e3 := nx_3 g3 (by omega) hi3 (by omega) g2.2.2.2.2.2.2.2.2.2.2.2.2.1 (by rw [gM_m hg (by omega), pb_t.mpr hL1]; rfl) k3 k1
    obtain ⟨o1, o2, o3⟩ := pop_f (τ := τ2) (D := D) g2.2.1.2.2
    have hsb : sb D τ (psh (psh τ D 3 (nI t) (nI o)) (D + 1) 2 (nI t) (nI o)) := sb_tr p2 (sb_le r2 (by omega))
    rw [k2]
    by_cases q : pc < 20
    · rw [if_pos q] at e3
      have hcl : (if (20 : Int32) ≤ nI pc then p_X2_perform_187 E σ1 else os (sI σ1 6 11 (nI pc + 1)) (fun s_96 => oi (nI pc) 20 (os (sI s_96 29 ((nI pc).toNatClampNeg) (nI t)) (fun s_100 => p_X2_perform_187 E s_100)))) = some (sI (sI σ1 6 11 (nI (pc + 1))) 29 pc (nI t)) := by
        rw [if_neg (show ¬ (20 : Int32) ≤ nI pc from nI_ge (b := 20) q (by decide)), os_s, oi_n q (by decide), nI_clamp (show pc < 2 ^ 31 by omega), os_s, nI_1]
        rfl
      refine ⟨_, _, hcl, rfl, hsb, _, j + 1, Go_tr j 1 _ _ _ g1 (Go_1 g3 (by omega) e3), RS_pool (RS_43 (RS_x g2 o1)) k2 q ht hL1, ?_, ?_, g5, ?_⟩
      · rw [sI_p, pI_at, upd_ne (by decide), sI_p, pI_ne _ _ (by decide), sI_p, pI_at, upd_ne (by decide)]
        exact o3
      · refine sb_tr (sb_le g4 (by omega)) (fun i _ => ?_)
        have e : ∀ cc, cc ≠ 0 → cc ≠ 34 → (sI (sI (sI (sI τ2 0 37 (nI D)) 0 43 1) 34 pc (nI t)) 0 47 (nI (pc + 1))).1 cc = τ2.1 cc := fun cc b1 b2 => by rw [sI_p, pI_ne _ _ b1, sI_p, pI_ne _ _ b2, sI_p, pI_ne _ _ b1, sI_p, pI_ne _ _ b1]
        exact ⟨by rw [e 28 (by decide) (by decide)], by rw [e 29 (by decide) (by decide)], by rw [e 30 (by decide) (by decide)], by rw [e 31 (by decide) (by decide)]⟩
      · have : Ph (sI (sI σ1 6 11 (nI (pc + 1))) 29 pc (nI t)) = Ph σ1 := rfl
        omega
    · rw [if_neg q] at e3
      rw [if_pos (show (20 : Int32) ≤ nI pc from nI_le (a := 20) (by omega) (by omega))]
      refine ⟨_, _, rfl, rfl, hsb, _, j + 1, Go_tr j 1 _ _ _ g1 (Go_1 g3 (by omega) e3), RS_43 (RS_x g2 o1), ?_, ?_, g5, by omega⟩
      · rw [sI_p, pI_at, upd_ne (by decide)]
        exact o3
      · refine sb_tr (sb_le g4 (by omega)) (fun i _ => ?_)
        have e : ∀ cc, cc ≠ 0 → (sI (sI τ2 0 37 (nI D)) 0 43 1).1 cc = τ2.1 cc := fun cc b1 => by rw [sI_p, pI_ne _ _ b1, sI_p, pI_ne _ _ b1]
        exact ⟨by rw [e 28 (by decide)], by rw [e 29 (by decide)], by rw [e 30 (by decide)], by rw [e 31 (by decide)]⟩
  · rcases k with k | k | k | k
    · rw [k, if_neg (show ¬ (1 : Int32) = 0 by decide), if_neg (show ¬ (1 : Int32) = 0 by decide), if_pos rfl, if_pos rfl]
      exact hcall (Or.inl k) t n ht hn h12 h13
    · -- UP
      rw [k, if_neg (show ¬ (2 : Int32) = 0 by decide), if_neg (show ¬ (2 : Int32) = 0 by decide), if_neg (show ¬ (2 : Int32) = 1 by decide), if_neg (show ¬ (2 : Int32) = 1 by decide), if_pos rfl, if_pos rfl, h12, h13]
      obtain ⟨r0, q1, q2⟩ := k_choose (c := t) (t := t) (n := n) h16 hM hC.2.1 hC.2.2.2 ht ht hn
      obtain ⟨r1, s1, z1, z2, z3, z4⟩ := m_chosenOf hWτ.1 hWτ.2.1 hok ht ht (nI n)
      rw [isH_ag hag] at z4
      have er : r1 = r0 := isH_one hM (by omega) (by omega) z4 q2
      subst er
      obtain ⟨sb1, d1⟩ := sb_kp (D := D) z2 sVX
      rw [oc_s q1, oc_s z1]
      have hR := RS_x h (kx_kp z2 (fun x hx => hx) z3)
      rcases isH_rng h48 q2 with g | ⟨m, hm, g⟩
      · rw [oc_s (s_no (neg_nI g) _ _ _), if_pos (neg_nI g)]
        exact ⟨σ, s1, rfl, rfl, sb1, Res_0 hR (d1.trans hd)⟩
      · dsimp only
        rw [g, if_neg (nI_pos (by omega))]
        obtain ⟨σ', τ1, y1, y2, y3, y4⟩ := op_by c hE hR (d1.trans hd) hm ho' (hS 4 o m (by rw [opS_2 k]; exact ⟨rfl, rfl, hm, t, n, ht, hn, h12, h13, by rw [← g]; exact q2⟩)) hb0
        rw [oc_s y1, oc_s y2]
        exact ⟨σ', τ1, rfl, rfl, sb_tr sb1 y3, y4⟩
    · -- STATIC
      rw [k, if_neg (show ¬ (3 : Int32) = 0 by decide), if_neg (show ¬ (3 : Int32) = 0 by decide), if_neg (show ¬ (3 : Int32) = 1 by decide), if_neg (show ¬ (3 : Int32) = 1 by decide), if_neg (show ¬ (3 : Int32) = 2 by decide), if_neg (show ¬ (3 : Int32) = 2 by decide), if_pos rfl, if_pos rfl, h12, h13]
      obtain ⟨f0, r0, q1, q2, q3⟩ := k_chooseS h16 hM hC.2.1 hC.2.2.2 ht hn
      obtain ⟨r1, s1, z1, z2, z3, z4⟩ := m_find hWτ.1 hWτ.2.1 hok ht (nI n)
      rw [isF_ag hag] at z4
      have er : r1 = f0 := isF_one hM (by omega) z4 q1
      subst er
      obtain ⟨sb1, d1⟩ := sb_kp (D := D) z2 sVX
      rw [oc_s q2, oc_s z1]
      have hR := RS_x h (kx_kp z2 (fun x hx => hx) z3)
      have hag1 := cx_ag c hR
      dsimp only
      unfold p_X2_callStatic_0
      rcases q3 with ⟨g1, g2⟩ | ⟨f, hf, g1, ⟨g2, g3⟩ | ⟨g2, g3⟩⟩
      · rw [g2, if_neg (show ¬ (0 : Int32) ≤ -2 by decide), if_pos g1]
        exact ⟨σ, s1, rfl, rfl, sb1, Res_0 hR (d1.trans hd)⟩
      · obtain ⟨u, hu, h5⟩ := own_t hM hf
        have hty : p_X4_typeOf_0 σ (nI f) = some (nI u) := by
          unfold p_X4_typeOf_0
          rw [oi_n (show f < 48 by omega) (by decide), nI_clamp (show f < 2 ^ 31 by omega), (hC.2.1.2.1 f hf).1, h5]
        have q1' : isF P nt nm t (nI n) (nI f) := by rw [← g1]; exact q1
        have hL4 : LG P nt nm 4 o f := hS 4 o f (by rw [opS_3 k]; exact ⟨t, n, f, u, ht, hn, hf, hu, h12, h13, q1', g2, h5, Or.inl ⟨rfl, rfl, rfl⟩⟩)
        obtain ⟨p1, p2, p3, p4⟩ := psh_f (τ := s1) (D := D) (nt := nt) (k := 1) (a := nI f) (b := nI o) z3
        obtain ⟨r1, r2, r3, r4⟩ := psh_f (τ := psh s1 D 1 (nI f) (nI o)) (D := D + 1) (nt := nt) (k := 2) (a := nI u) (b := nI o) p1.2.2.2
        have e5 : (psh s1 D 1 (nI f) (nI o)).1 5 f = nI u := by
          rw [p1.2.1 5 (by decide) (by decide), hag1 5 (by decide) (by decide)]; exact h5
        rw [g3, if_pos (nI_pos' (by omega)), oc_s hty, g1, if_neg (fun q => nI_m1 (u := f) (by omega) q.symm), oi_n (show f < 48 by omega) (by decide), nI_clamp (show f < 2 ^ 31 by omega), hag1 7 (by decide) (by decide), if_pos g2, oc_s (m_push (d1.trans hd) (by omega) 1 (nI f) (nI o)), oi_n (show f < 48 by omega) (by decide), e5, oc_s (m_push p4 (by omega) 2 (nI u) (nI o))]
        obtain ⟨σ1, y1, τ2, j, b1, b2', b3, b4, b5, b6⟩ := sim_begin c hE 40 u σ _ (D + 1) o (by omega) (RS_x hR (kx_tr p1 r1)) r4 r3 hu ho' (fun q i j' w => hS q i j' (by rw [opS_3 k]; exact ⟨t, n, f, u, ht, hn, hf, hu, h12, h13, q1', g2, h5, Or.inr w⟩)) hb
        have hi1 : it τ2 D 1 (nI f) 0 (nI o) := sb_it b4 (by omega) (sb_it r2 (by omega) p3)
        obtain ⟨σ', x1, x2⟩ := s_by c hE b2' b3 hi1 hf ho' hL4 (bud_up hb0 b5)
        rw [oc_s y1, oc_s x1]
        refine ⟨σ', _, rfl, rfl, sb_tr sb1 (sb_tr p2 (sb_le r2 (by omega))), ?_⟩
        exact Res_tr (z := 1) (z' := 1) ⟨τ2, j, b1, sb_le b4 (by omega), b5, b6, x2⟩
      · rw [g3, if_neg (show ¬ (0 : Int32) ≤ -3 by decide), g1, if_neg (fun q => nI_m1 (u := f) (by omega) q.symm), oi_n (show f < 48 by omega) (by decide), nI_clamp (show f < 2 ^ 31 by omega), hag1 7 (by decide) (by decide), if_neg g2]
        exact ⟨σ, s1, rfl, rfl, sb1, Res_0 hR (d1.trans hd)⟩
    · rw [k, if_neg (show ¬ (4 : Int32) = 0 by decide), if_neg (show ¬ (4 : Int32) = 0 by decide), if_neg (show ¬ (4 : Int32) = 1 by decide), if_neg (show ¬ (4 : Int32) = 1 by decide), if_neg (show ¬ (4 : Int32) = 2 by decide), if_neg (show ¬ (4 : Int32) = 2 by decide), if_neg (show ¬ (4 : Int32) = 3 by decide), if_neg (show ¬ (4 : Int32) = 3 by decide), if_pos rfl, if_pos rfl]
      exact hcall (Or.inr k) t n ht hn h12 h13
  · -- PUT
    rw [k, if_neg (show ¬ (5 : Int32) = 0 by decide), if_neg (show ¬ (5 : Int32) = 0 by decide), if_neg (show ¬ (5 : Int32) = 1 by decide), if_neg (show ¬ (5 : Int32) = 1 by decide), if_neg (show ¬ (5 : Int32) = 2 by decide), if_neg (show ¬ (5 : Int32) = 2 by decide), if_neg (show ¬ (5 : Int32) = 3 by decide), if_neg (show ¬ (5 : Int32) = 3 by decide), if_neg (show ¬ (5 : Int32) = 4 by decide), if_neg (show ¬ (5 : Int32) = 4 by decide), if_pos rfl, if_pos rfl, h12, h13]
    obtain ⟨bc, b1, b2', b3, b4⟩ := h.2.2.2.2.2.2.2.2.2.2.2.1 a ha
    have hle := cn_le (fun m => pb (∃ i, i < bc ∧ σ.1 30 (a * 48 + i) = nI m)) nm
    have hL3 : LG P nt nm 3 a m := hS 3 a m (by rw [opS_5 k]; exact ⟨rfl, ha, hm, h12, h13⟩)
    have hiff : (∃ i, i < bc ∧ σ.1 30 (a * 48 + i) = nI m) ↔ ∃ i, i < bc ∧ τ.1 35 (48 * a + i) = nI m := by
      constructor
      · rintro ⟨i, w1, w2⟩
        obtain ⟨m', -, -, x1, x2⟩ := b4 i w1
        exact ⟨i, w1, by rw [x2, ← x1]; exact w2⟩
      · rintro ⟨i, w1, w2⟩
        obtain ⟨m', -, -, x1, x2⟩ := b4 i w1
        exact ⟨i, w1, by rw [x1, ← x2]; exact w2⟩
    have hput := fun hno : ¬ ∃ i, i < bc ∧ σ.1 30 (a * 48 + i) = nI m => RS_put h48 h ha hm hL3 b1 (by omega) (fun i w1 w2 => hno ⟨i, w1, w2⟩)
    have e1 := put_8 (m := m) ha b1 (by omega) (fun hno => (hput hno).1) bc 0 100000 (by omega) (by omega) (fun i' w => by omega)
    have e2 := put_165 (τ := τ) (m := m) ha b2' (by omega) (fun hno => (hput (fun q => hno (hiff.mp q))).1) bc 0 100000 0 (by omega) (by omega) (by
      rw [pb_f.mpr]
      · rfl
      · rintro ⟨i, w, _⟩; omega)
    have e1' : p_X2_put_0 (nI a) (nI m) σ = p_X2_put_8 100000 (nI a) (nI m) (nI (a * 48)) (nI 0) σ := by
      unfold p_X2_put_0
      rw [show nI a * 48 = nI (a * 48) from pk_mul a 48]
      rfl
    rw [oc_s (e1'.trans e1), show p_X8_runOp_165 100000 (nI a) (nI m) 0 0 τ = _ from e2, propext hiff]
    by_cases q : ∃ i, i < bc ∧ τ.1 35 (48 * a + i) = nI m
    · rw [if_pos (pb_t.mpr q), if_pos (pb_t.mpr q)]
      exact ⟨σ, τ, rfl, rfl, sb_rf D τ, Res_0 h hd⟩
    · rw [pb_f.mpr q]
      have hR := (hput (fun w => q (hiff.mp w))).2
      refine ⟨_, _, rfl, rfl, fun i _ => ?_, ?_⟩
      · have e : ∀ cc, cc ≠ 35 → cc ≠ 36 → (sI (sI τ 35 (48 * a + bc) (nI m)) 36 a (nI (bc + 1))).1 cc = τ.1 cc := fun cc b1 b2 => by rw [sI_p, pI_ne _ _ b2, sI_p, pI_ne _ _ b1]
        exact ⟨by rw [if_neg (by decide), e 28 (by decide) (by decide)], by rw [if_neg (by decide), e 29 (by decide) (by decide)], by rw [if_neg (by decide), e 30 (by decide) (by decide)], by rw [if_neg (by decide), e 31 (by decide) (by decide)]⟩
      · rw [if_neg (by decide), if_neg (by decide)]
        refine ⟨_, 0, rfl, hR, ?_, sb_rf _ _, Up_rf σ, ?_⟩
        · rw [sI_p, pI_ne _ _ (by decide), sI_p, pI_ne _ _ (by decide)]
          exact hd
        · have : Ph (sI (sI σ 30 (a * 48 + bc) (nI m)) 31 a (nI (bc + 1))) = Ph σ := rfl
          omega
  · -- OUT
    rw [k, if_neg (show ¬ (6 : Int32) = 0 by decide), if_neg (show ¬ (6 : Int32) = 0 by decide), if_neg (show ¬ (6 : Int32) = 1 by decide), if_neg (show ¬ (6 : Int32) = 1 by decide), if_neg (show ¬ (6 : Int32) = 2 by decide), if_neg (show ¬ (6 : Int32) = 2 by decide), if_neg (show ¬ (6 : Int32) = 3 by decide), if_neg (show ¬ (6 : Int32) = 3 by decide), if_neg (show ¬ (6 : Int32) = 4 by decide), if_neg (show ¬ (6 : Int32) = 4 by decide), if_neg (show ¬ (6 : Int32) = 5 by decide), if_neg (show ¬ (6 : Int32) = 5 by decide), if_pos rfl, if_pos rfl, h12]
    obtain ⟨bc, b1, b2', b3, b4⟩ := h.2.2.2.2.2.2.2.2.2.2.2.1 a ha
    have hle := cn_le (fun m => pb (∃ i, i < bc ∧ σ.1 30 (a * 48 + i) = nI m)) nm
    unfold p_X2_callBagged_0
    rw [oi_n ha (by decide), oi_n ha (by decide), oi_n ha (by decide), oi_n ha (by decide), nI_clamp (show a < 2 ^ 31 by omega), b1, b2']
    by_cases hz : bc = 0
    · rw [if_pos (by rw [hz]; rfl), if_pos (by rw [hz]; decide)]
      exact ⟨σ, τ, rfl, rfl, sb_rf D τ, Res_0 h hd⟩
    · obtain ⟨r, hr, er⟩ := drawn (stp (σ.2 6 8)) (n := bc) (by omega) (by omega)
      have er' : drw (stp (σ.2 6 8)) bc = nI r := er
      obtain ⟨m, hm, hL3, x1, x2⟩ := b4 r hr
      have hR := RS_draw h (stp (σ.2 6 8))
      rw [if_neg (show ¬ nI bc = 0 from nI_ne0 (by omega) (by omega)), if_neg (show ¬ nI bc ≤ 0 from nI_nle (by omega) (by omega)), oc_s (k_draw σ (by omega) (by omega)), oc_s (m_draw τ (by omega) (by omega)), ← h.2.2.1, er']
      dsimp only
      rw [show nI a * 48 = nI (a * 48) from pk_mul a 48, nI_add, oi_n (show a * 48 + r < 192 by omega) (by decide), nI_clamp (show a * 48 + r < 2 ^ 31 by omega), c48, oi_n (show 48 * a + r < 192 by omega) (by decide), nI_clamp (show 48 * a + r < 2 ^ 31 by omega), show (sL σ 6 8 (stp (σ.2 6 8))).1 30 (a * 48 + r) = nI m from x1, show (sL τ 0 38 (stp (σ.2 6 8))).1 35 (48 * a + r) = nI m from x2]
      obtain ⟨σ', τ1, y1, y2, y3, y4⟩ := op_by c hE hR (show (sL τ 0 38 (stp (σ.2 6 8))).1 0 37 = nI D from hd) hm ho' (hS 4 o m (by rw [opS_6 k]; exact ⟨rfl, rfl, hm, a, ha, h12, hL3⟩)) hb0
      rw [oc_s y1, oc_s y2]
      exact ⟨σ', τ1, rfl, rfl, y3, y4⟩
  · -- ANY
    rw [k, if_neg (show ¬ (7 : Int32) = 0 by decide), if_neg (show ¬ (7 : Int32) = 0 by decide), if_neg (show ¬ (7 : Int32) = 1 by decide), if_neg (show ¬ (7 : Int32) = 1 by decide), if_neg (show ¬ (7 : Int32) = 2 by decide), if_neg (show ¬ (7 : Int32) = 2 by decide), if_neg (show ¬ (7 : Int32) = 3 by decide), if_neg (show ¬ (7 : Int32) = 3 by decide), if_neg (show ¬ (7 : Int32) = 4 by decide), if_neg (show ¬ (7 : Int32) = 4 by decide), if_neg (show ¬ (7 : Int32) = 5 by decide), if_neg (show ¬ (7 : Int32) = 5 by decide), if_neg (show ¬ (7 : Int32) = 6 by decide), if_neg (show ¬ (7 : Int32) = 6 by decide), if_pos rfl, h13]
    have hh : p_X4_handlesOf_0 σ (nI n) = some (σ.2 15 n) := by
      unfold p_X4_handlesOf_0
      rw [oi_n hn (by decide), nI_clamp (show n < 2 ^ 31 by omega)]
    obtain ⟨H, hH⟩ : ∃ H : Nat → Bool, H = fun m => pb (P 6 m = nI n ∧ hdl P m) := ⟨_, rfl⟩
    have hHe : ∀ m, H m = true ↔ P 6 m = nI n ∧ hdl P m := fun m => by rw [hH]; exact pb_t
    have hx : ∀ m, m < 64 → (lb (σ.2 15 n) m = true ↔ m < nm ∧ H m = true) := fun m hm => by rw [hC.2.1.2.2.2.2.1 n hn m hm, hHe]; rfl
    have hcn : cn (lb (σ.2 15 n)) 64 = cn H nm := cn_nm h48 hx
    have hcl := cn_le H nm
    have h13' : τ.1 13 o = nI n := by rw [hag 13 (by decide) (by decide)]; exact h13
    have r4 := runAny_4 hM ho' hWτ.2.1.2.1 (hag 6 (by decide) (by decide)) (hag 7 (by decide) (by decide)) h13' nm 0 100000 (by omega) (by omega)
    rw [← hH] at r4
    have r4' : p_X8_runAny_0 (nI o) τ = p_X8_runAny_4 100000 (nI o) (nI (cn H 0)) (nI 0) τ := rfl
    unfold p_X2_callAny_0
    rw [oc_s hh, r4', r4, oc_s (p_bitCount _), hcn]
    by_cases hz : cn H nm = 0
    · have hx0 : σ.2 15 n = 0 := lb_ext (fun m hm => by
        rw [lb_0]
        cases hb : lb (σ.2 15 n) m with
        | false => rfl
        | true =>
          have := cn_lt hb hm
          omega)
      rw [if_pos ((lg_cmp_eq _ _).mpr hx0), if_pos (by rw [hz]; rfl)]
      refine ⟨σ, τ, rfl, ?_, sb_rf D τ, Res_0 h hd⟩
      unfold p_X8_runAny_66
      rw [hz, show (100000 : Nat) = 99999 + 1 from rfl, p_X8_runAny_70]
      try dsimp only
      rw [hWτ.2.1.2.1]
      by_cases q : nI nm ≤ 0
      · rw [if_pos q]; rfl
      · rw [if_neg q, if_pos (show nI 0 ≤ 0 by decide)]; rfl
    · have hx0 : ¬ σ.2 15 n = 0 := fun q => hz (by
        rw [← hcn, q]
        exact cn_zero (fun j _ => lb_0 j))
      obtain ⟨r, hr, er⟩ := drawn (stp (σ.2 6 8)) (n := cn H nm) (by omega) (by omega)
      have er' : drw (stp (σ.2 6 8)) (cn H nm) = nI r := er
      have hR := RS_draw h (stp (σ.2 6 8))
      rw [if_neg (fun q => hx0 ((lg_cmp_eq _ _).mp q)), if_neg (show ¬ nI (cn H nm) = 0 from nI_ne0 (by omega) (by omega)), oc_s (k_draw σ (by omega) (by omega)), oc_s (m_draw τ (by omega) (by omega)), ← h.2.2.1, er']
      dsimp only
      obtain ⟨rz, n1, n2⟩ := p_nth (σ.2 15 n) (nI r)
      have n3 := nth_nm h48 hx n2
      obtain ⟨m, hm, m1, m2, m3⟩ := runAny_70 (τ := sL τ 0 38 (stp (σ.2 6 8))) (n := n) (D := D) hM ho' hHe hWτ.2.1.2.1 (hag 6 (by decide) (by decide)) (hag 7 (by decide) (by decide)) h13' hd (by omega) hr nm 0 100000 _ (by omega) (by omega) (Or.inl ⟨Nat.zero_le _, rfl⟩)
      have e0 : nI r - nI (cn H 0) = nI r := by
        show nI r - nI 0 = nI r
        rw [show nI 0 = 0 from rfl, Int32.sub_zero]
      rw [e0] at m3
      have erz : rz = nI m := isNth_one (by omega) n3 (Or.inr ⟨m, hm, m1, by rw [m2], rfl⟩)
      have m3' : p_X8_runAny_66 (nI o) (nI (cn H nm)) (nI r) (sL τ 0 38 (stp (σ.2 6 8))) = some (psh (sL τ 0 38 (stp (σ.2 6 8))) D 1 (nI m) (nI o)) := m3
      obtain ⟨w1, w2⟩ := (hHe m).mp m1
      obtain ⟨σ', τ1, y1, y2, y3, y4⟩ := op_by c hE hR (show (sL τ 0 38 (stp (σ.2 6 8))).1 0 37 = nI D from hd) hm ho' (hS 4 o m (by rw [opS_7 k]; exact ⟨rfl, rfl, hm, n, hn, h13, w1, w2⟩)) hb0
      rw [m_push (show (sL τ 0 38 (stp (σ.2 6 8))).1 0 37 = nI D from hd) (by omega)] at y2
      have y2' := Option.some.inj y2
      rw [oc_s n1, erz, oc_s y1, oc_s m3', y2']
      exact ⟨σ', τ1, rfl, rfl, y3, y4⟩
