/-! pure: drawn runs: a type is begun on both sides -/
def Cx (P : Nat → Nat → Int32) (nt nm no : Nat) (σ0 τ0 : SS) : Prop := WF P nt nm no ∧ wfS P nm no ∧ CI σ0 P nt nm no ∧ gM τ0 P nt nm ∧ τ0.1 = P
theorem cx_C {P : Nat → Nat → Int32} {nt nm no w : Nat} {σ0 τ0 σ τ : SS} (c : Cx P nt nm no σ0 τ0) (h : RS P nt nm σ0 τ0 σ τ w) : CI σ P nt nm no := kr_CI h.1 c.2.2.1
theorem cx_M {P : Nat → Nat → Int32} {nt nm no w : Nat} {σ0 τ0 σ τ : SS} (c : Cx P nt nm no σ0 τ0) (h : RS P nt nm σ0 τ0 σ τ w) : gM τ P nt nm := kt_gM h.2.1 c.2.2.2.1
theorem cx_ag {P : Nat → Nat → Int32} {nt nm no w : Nat} {σ0 τ0 σ τ : SS} (c : Cx P nt nm no σ0 τ0) (h : RS P nt nm σ0 τ0 σ τ w) : ag P τ.1 := by rw [← c.2.2.2.2]; exact kt_ag h.2.1
theorem cx_0 {P : Nat → Nat → Int32} {nt nm no w : Nat} {σ0 τ0 σ τ : SS} (c : Cx P nt nm no σ0 τ0) (h : RS P nt nm σ0 τ0 σ τ w) : τ.1 0 0 = P 0 0 ∧ τ.1 0 5 = P 0 5 ∧ τ.1 0 12 = P 0 12 := by rw [← c.2.2.2.2]; exact (kt_same h.2.1).2
theorem cx_W {P : Nat → Nat → Int32} {nt nm no w : Nat} {σ0 τ0 σ τ : SS} (c : Cx P nt nm no σ0 τ0) (h : RS P nt nm σ0 τ0 σ τ w) : WF τ.1 nt nm no := WF_ag c.1 (cx_ag c h) (cx_0 c h).1 (cx_0 c h).2.1 (cx_0 c h).2.2
def SimE (P : Nat → Nat → Int32) (nt nm : Nat) (σ0 τ0 : SS) (E : Int32 → Int32 → SS → Option SS) (w : Nat) : Prop := ∀ (σ τ : SS) (D m : Nat) (b : Int32), RS P nt nm σ0 τ0 σ τ w → τ.1 0 37 = nI (D + 1) → it τ D 1 (nI m) 0 b → m < nm → LG P nt nm 0 m 0 → (b = -1 ∨ ∃ o, o < 160 ∧ b = nI o ∧ LG P nt nm 4 o m) → bud D w σ → ∃ σ', E (nI m) (nI w) σ = some σ' ∧ Res P nt nm σ0 τ0 w D 1 σ τ σ'
theorem s_by {P : Nat → Nat → Int32} {nt nm no w D m o : Nat} {σ0 τ0 σ τ : SS} {E : Int32 → Int32 → SS → Option SS} (c : Cx P nt nm no σ0 τ0) (hE : SimE P nt nm σ0 τ0 E w) (h : RS P nt nm σ0 τ0 σ τ w) (hd : τ.1 0 37 = nI (D + 1)) (hi : it τ D 1 (nI m) 0 (nI o)) (hm : m < nm) (ho : o < 160) (hL : LG P nt nm 4 o m) (hb : bud D w σ) : ∃ σ', p_X2_enterBy_0 E (nI o) (nI m) (nI w) σ = some σ' ∧ Res P nt nm σ0 τ0 w D 1 σ τ σ' := by
  have h48 := c.1.2.1.1
  obtain ⟨σ', q1, q2⟩ := hE _ τ D m (nI o) (RS_tried h ho (show m < 48 by omega) hL) hd hi hm ((LG_cls P nt nm).2.1 o m hL) (Or.inr ⟨o, ho, rfl, hL⟩) hb
  refine ⟨σ', ?_, q2⟩
  unfold p_X2_enterBy_0
  rw [if_pos (nI_pos' (by omega)), oi_n ho (by decide), nI_clamp (show o < 2 ^ 31 by omega), with_s, oc_s rfl, oi_n ho (by decide), os_s]
  exact oc_s q1
theorem s_no {E : Int32 → Int32 → SS → Option SS} {v : Int32} (hv : v < 0) (o w : Int32) (σ : SS) : p_X2_enterBy_0 E o v w σ = some σ := by
  unfold p_X2_enterBy_0
  rw [if_neg (Int32.not_le.mpr hv)]
theorem Res_0 {P : Nat → Nat → Int32} {nt nm w D z : Nat} {σ0 τ0 σ τ : SS} (h : RS P nt nm σ0 τ0 σ τ w) (hd : τ.1 0 37 = nI D) : Res P nt nm σ0 τ0 w D z σ τ σ := ⟨τ, 0, rfl, h, hd, sb_rf D τ, Up_rf σ, by omega⟩
theorem Res_z {P : Nat → Nat → Int32} {nt nm w D z z' : Nat} {σ0 τ0 σ τ σ' : SS} (h : Res P nt nm σ0 τ0 w D z σ τ σ') (hz : z ≤ z') : Res P nt nm σ0 τ0 w D z' σ τ σ' := by
  obtain ⟨τ', j, h1, h2, h3, h4, h5, h6⟩ := h
  exact ⟨τ', j, h1, h2, h3, h4, h5, by omega⟩
theorem ref_begin {P : Nat → Nat → Int32} {nt nm no t D : Nat} (hW : WF P nt nm no) (ht : t < nt) {X : Nat → Bool} (hX : ∀ f, f < nt → (X f = true ↔ ¬ P 1 t = 2 ∧ und P t f ∧ P 1 f = 2 ∧ hpl P nm f)) {b n : Int32} {τ : SS} (hag : ag P τ.1) (h00 : τ.1 0 0 = P 0 0 ∧ τ.1 0 5 = P 0 5 ∧ τ.1 0 12 = P 0 12) (hok : okU τ.1 nt) (h43 : τ.1 0 43 = 1) (hbg : τ.1 16 t = 1) (hno : τ.1 33 t = 0) (hd : τ.1 0 37 = nI (D + 1)) (hD : D + 20 < 1000) (hi : it τ D 2 (nI t) n b) :
    ∃ τ' s, p_X8_doNext_0 τ = some τ' ∧ kx nt (sI (sI (sI τ 0 37 (nI D)) 33 t 1) 0 43 1) τ' ∧ sb D (sI (sI (sI τ 0 37 (nI D)) 33 t 1) 0 43 1) τ' ∧ τ'.1 0 37 = nI (D + s + cn X nt + (if P 2 t = -1 then 0 else 1)) ∧ (∀ f, f < nt → X f = true → it τ' (D + s + (cn X nt - cn X (f + 1))) 2 (nI f) 0 b) ∧ (¬ P 2 t = -1 → it τ' (D + s + cn X nt) 2 (P 2 t) 0 b) ∧ ((s = 0 ∧ ∀ m, m < nm → ¬ (P 5 m = nI t ∧ P 6 m = -1)) ∨ (s = 1 ∧ ∃ m, m < nm ∧ P 5 m = nI t ∧ P 6 m = -1 ∧ it τ' D 1 (nI m) 0 b)) := by
  have h16 := hW.1.1
  have h48 := hW.2.1.1
  have ht16 : t < 16 := by omega
  have hcn := cn_le X nt
  generalize hg3 : sI (sI (sI τ 0 37 (nI D)) 33 t 1) 0 43 1 = τ3
  have c3 : ∀ c, c ≠ 0 → c ≠ 33 → τ3.1 c = τ.1 c := fun c a1 a2 => by rw [← hg3, sI_p, pI_ne _ _ a1, sI_p, pI_ne _ _ a2, sI_p, pI_ne _ _ a1]
  have c30 : ∀ j, j ≠ 37 → j ≠ 43 → τ3.1 0 j = τ.1 0 j := fun j a1 a2 => by rw [← hg3, sI_p, pI_at, upd_ne a2, sI_p, pI_ne _ _ (by decide), sI_p, pI_at, upd_ne a1]
  have d3 : τ3.1 0 37 = nI D := by rw [← hg3, sI_p, pI_at, upd_ne (by decide), sI_p, pI_ne _ _ (by decide), sI_p, pI_at, upd_at]
  have hag3 : ag P τ3.1 := fun c a1 a2 => (c3 c a1 (by omega)).trans (hag c a1 a2)
  have h003 : τ3.1 0 0 = P 0 0 ∧ τ3.1 0 5 = P 0 5 ∧ τ3.1 0 12 = P 0 12 := ⟨(c30 0 (by decide) (by decide)).trans h00.1, (c30 5 (by decide) (by decide)).trans h00.2.1, (c30 12 (by decide) (by decide)).trans h00.2.2⟩
  have hok3 : okU τ3.1 nt := okU_c hok (c30 26 (by decide) (by decide)) (c3 21 (by decide) (by decide)) (und_c (c3 2 (by decide) (by decide)) (c3 3 (by decide) (by decide)) (c3 4 (by decide) (by decide)))
  have hW3 : WF τ3.1 nt nm no := WF_ag hW hag3 h003.1 h003.2.1 h003.2.2
  -- the start
  obtain ⟨r, r1, r2⟩ := m_ownOf hW3.2.1 (nI t) (-1)
  rw [isOwn_c hag3] at r2
  have hA : ∃ τ4 s, p_X8_doNext_0 τ = p_X8_beginNow_61 (nI t) b τ4 ∧ kx nt τ3 τ4 ∧ sb D τ3 τ4 ∧ τ4.1 0 37 = nI (D + s) ∧ ((s = 0 ∧ ∀ m, m < nm → ¬ (P 5 m = nI t ∧ P 6 m = -1)) ∨ (s = 1 ∧ ∃ m, m < nm ∧ P 5 m = nI t ∧ P 6 m = -1 ∧ it τ4 D 1 (nI m) 0 b)) := by
    have e33 : (sI τ 0 37 (nI D)).1 33 t = 0 := by rw [sI_p, pI_ne _ _ (by decide)]; exact hno
    have e43 : (sI (sI τ 0 37 (nI D)) 33 t 1).1 0 43 = 1 := by rw [sI_p, pI_ne _ _ (by decide), sI_p, pI_at, upd_ne (by decide)]; exact h43
    have e16 : (sI (sI τ 0 37 (nI D)) 33 t 1).1 16 t = 1 := by rw [sI_p, pI_ne _ _ (by decide), sI_p, pI_ne _ _ (by decide)]; exact hbg
    have code : p_X8_doNext_0 τ = oc (if r = (-1) then p_X8_beginNow_61 (nI t) b τ3 else oc (p_X8_push_0 1 r b τ3) (fun r_58 => p_X8_beginNow_61 (nI t) b r_58)) (fun r_151 => p_X8_doNext_211 r_151) := by
      rw [nx_2 hd (by omega) hi]
      unfold p_X8_beginNow_0
      rw [oi_n ht16 (by decide), nI_clamp (show t < 2 ^ 31 by omega), e33, if_pos rfl, oi_n ht16 (by decide), os_s, e43, if_neg n10, oi_n ht16 (by decide), e16, if_neg n10]
      unfold p_X8_beginNow_39
      rw [ob_ok (Or.inr rfl), os_s, hg3, oc_s r1]
    have tail : ∀ x : Option SS, oc x (fun r_151 => p_X8_doNext_211 r_151) = x := fun x => by cases x <;> rfl
    rw [tail] at code
    rcases r2 with ⟨z1, z2⟩ | ⟨m, hm, z1, z2, z3⟩
    · exact ⟨τ3, 0, by rw [code, if_pos z1], ⟨rfl, fun _ _ _ => rfl, fun _ _ _ => rfl, hok3⟩, sb_rf D τ3, d3, Or.inl ⟨rfl, z2⟩⟩
    · obtain ⟨p1, p2, p3, p4⟩ := psh_f (τ := τ3) (D := D) (nt := nt) (k := 1) (a := nI m) (b := b) hok3
      refine ⟨psh τ3 D 1 (nI m) b, 1, ?_, p1, p2, p4, Or.inr ⟨rfl, m, hm, z1, z2, p3⟩⟩
      rw [code, z3, if_neg (fun q => nI_m1 (u := m) (by omega) q.symm), oc_s (m_push d3 (by omega) 1 (nI m) b)]
  obtain ⟨τ4, s, a1, a2, a3, a4, a5⟩ := hA
  have hs1 : s ≤ 1 := by rcases a5 with ⟨q, -⟩ | ⟨q, -⟩ <;> omega
  have hag4 : ag P τ4.1 := fun c q1 q2 => (a2.2.1 c q1 (fun q => by
    have : ∀ x ∈ sY, 20 ≤ x := by decide
    have := this c q
    omega)).trans (hag3 c q1 q2)
  have h004 : τ4.1 0 0 = P 0 0 ∧ τ4.1 0 5 = P 0 5 ∧ τ4.1 0 12 = P 0 12 := ⟨(a2.2.2.1 0 (by decide) (by decide)).trans h003.1, (a2.2.2.1 5 (by decide) (by decide)).trans h003.2.1, (a2.2.2.1 12 (by decide) (by decide)).trans h003.2.2⟩
  have keepS : ∀ τ' : SS, sb (D + s) τ4 τ' → ((s = 0 ∧ ∀ m, m < nm → ¬ (P 5 m = nI t ∧ P 6 m = -1)) ∨ (s = 1 ∧ ∃ m, m < nm ∧ P 5 m = nI t ∧ P 6 m = -1 ∧ it τ' D 1 (nI m) 0 b)) := by
    intro τ' hsb
    rcases a5 with q | ⟨q1, m, q2, q3, q4, q5⟩
    · exact Or.inl q
    · exact Or.inr ⟨q1, m, q2, q3, q4, sb_it hsb (by omega) q5⟩
  by_cases hk2 : P 1 t = 2
  · have h2 : P 2 t = -1 := (hW.1.2.2 t ht).2.2.1 hk2
    have hX0 : cn X nt = 0 := cn_zero (fun f hf => Bool.eq_false_iff.mpr (fun q => ((hX f hf).mp q).1 hk2))
    refine ⟨τ4, s, ?_, a2, a3, by rw [a4, hX0, if_pos h2]; rfl, fun f hf q => absurd hk2 ((hX f hf).mp q).1, fun q => absurd h2 q, keepS τ4 (sb_rf _ _)⟩
    rw [a1]
    unfold p_X8_beginNow_61
    rw [oi_n ht16 (by decide), nI_clamp (show t < 2 ^ 31 by omega), hag4 1 (by decide) (by decide), if_pos hk2]
    rfl
  · obtain ⟨τ5, f', q1, q2, q3, q4, q5⟩ := beginNow_79 (D := D + s) hW ht (X := X) (fun f hf => (hX f hf).trans ⟨fun q => q.2, fun q => ⟨hk2, q⟩⟩) b hag4 h004.1 h004.2.1 h004.2.2 (by omega) nt 100000 τ4 (Nat.le_refl _) (by omega) ⟨rfl, fun _ _ _ => rfl, fun _ _ _ => rfl, a2.2.2.2⟩ (sb_rf _ _) (by rw [a4, Nat.sub_self]; rfl) (fun f h1 h2 => by omega)
    have hag5 : ag P τ5.1 := fun c z1 z2 => (q2.2.1 c z1 (fun q => by
      have : ∀ x ∈ sY, 20 ≤ x := by decide
      have := this c q
      omega)).trans (hag4 c z1 z2)
    have code : p_X8_doNext_0 τ = oi (nI t) 16 (if (P 2 t) = (-1) then p_X8_beginNow_150 τ5 else oi (nI t) 16 (oc (p_X8_push_0 2 (P 2 t) b τ5) (fun r_147 => p_X8_beginNow_150 r_147))) := by
      rw [a1]
      unfold p_X8_beginNow_61
      rw [oi_n ht16 (by decide), nI_clamp (show t < 2 ^ 31 by omega), hag4 1 (by decide) (by decide), if_neg hk2, h004.1, hW.1.2.1, show nI nt - 1 = nI nt + (-1) from by rw [Int32.sub_eq_add_neg], q1, p_X8_beginNow_79]
      try dsimp only
      rw [if_pos (show (-1 : Int32) < 0 by decide), nI_clamp (show t < 2 ^ 31 by omega), hag5 2 (by decide) (by decide)]
    rw [oi_n ht16 (by decide), oi_n ht16 (by decide)] at code
    by_cases h2 : P 2 t = -1
    · refine ⟨τ5, s, ?_, kx_tr a2 q2, sb_tr a3 (sb_le q3 (by omega)), by rw [q4, if_pos h2]; rfl, q5, fun q => absurd h2 q, keepS τ5 q3⟩
      rw [code, if_pos h2]
      rfl
    · obtain ⟨p1, p2, p3, p4⟩ := psh_f (τ := τ5) (D := D + s + cn X nt) (nt := nt) (k := 2) (a := P 2 t) (b := b) q2.2.2.2
      refine ⟨psh τ5 (D + s + cn X nt) 2 (P 2 t) b, s, ?_, kx_tr a2 (kx_tr q2 p1), sb_tr a3 (sb_le (sb_tr q3 (sb_le p2 (by omega))) (by omega)), by rw [p4, if_neg h2], fun f hf hXf => ?_, fun _ => p3, keepS _ (sb_tr q3 (sb_le p2 (by omega)))⟩
      · rw [code, if_neg h2, oc_s (m_push q4 (by omega) 2 (P 2 t) b)]
        rfl
      · refine sb_it p2 ?_ (q5 f hf hXf)
        have b1 := cn_lt hXf (show f < f + 1 by omega)
        have b2 := cn_mono X (show f + 1 ≤ nt by omega)
        omega
theorem sim_faces {P : Nat → Nat → Int32} {nt nm no w t D s o : Nat} {σ0 τ0 : SS} {E : Int32 → Int32 → SS → Option SS} {B : Int32 → Int32 → Int32 → SS → Option SS} (c : Cx P nt nm no σ0 τ0) (hE : SimE P nt nm σ0 τ0 E w) (ht : t < nt) (ho : o < 160) {X : Nat → Bool} (hXt : ∀ f, t ≤ f → f < nt → X f = false) {x : Int64} (hx : ∀ f, f < 64 → f < nt → lb x f = X f) (hB : ∀ (f : Nat) (σ τ : SS) (D : Nat), f < t → X f = true → RS P nt nm σ0 τ0 σ τ w → τ.1 0 37 = nI (D + 1) → it τ D 2 (nI f) 0 (nI o) → bud D w σ → ∃ σ', B (nI f) (nI o) (nI w) σ = some σ' ∧ Res P nt nm σ0 τ0 w D 1 σ τ σ') (hst : ∀ m, m < nm → P 5 m = nI t → P 6 m = -1 → LG P nt nm 4 o m) (hs1 : s ≤ 1) :
    ∀ (r k fuel : Nat) (σ τ : SS), k + r = t → r < fuel → RS P nt nm σ0 τ0 σ τ w → τ.1 0 37 = nI (D + s + (cn X nt - cn X k)) → (∀ f, k ≤ f → f < nt → X f = true → it τ (D + s + (cn X nt - cn X (f + 1))) 2 (nI f) 0 (nI o)) → ((s = 0 ∧ ∀ m, m < nm → ¬ (P 5 m = nI t ∧ P 6 m = -1)) ∨ (s = 1 ∧ ∃ m, m < nm ∧ P 5 m = nI t ∧ P 6 m = -1 ∧ it τ D 1 (nI m) 0 (nI o))) → bud (D + 17) w σ →
    ∃ σ', p_X2_begin_56 E B fuel (nI t) (nI o) (nI w) x (nI k) σ = some σ' ∧ Res P nt nm σ0 τ0 w D (1 + (cn X nt - cn X k)) σ τ σ' := by
  have h16 := c.1.1.1
  have h48 := c.1.2.1.1
  have hcn := cn_le X nt
  intro r
  induction r with
  | zero =>
    intro k fuel σ τ hk hf h hd hi hs hb
    obtain ⟨f, rfl⟩ : ∃ f, fuel = f + 1 := ⟨fuel - 1, by omega⟩
    have e : k = t := by omega
    subst e
    have e0 : cn X nt - cn X k = 0 := by rw [cn_out (f := X) (M := k) (N := nt) hXt (by omega), Nat.sub_self]
    have hC := cx_C c h
    rw [p_X2_begin_56]
    try dsimp only
    rw [if_pos (nI_le (Nat.le_refl _) (by omega)), oc_s (k_start hC.2.1 (show k < 16 by omega)), e0]
    rw [e0] at hd
    rcases hs with ⟨s0, hno⟩ | ⟨s1, m, hm, m1, m2, m3⟩
    · have e14 : σ.1 14 k = -1 := by
        rcases hC.2.1.2.2.2.1 k (by omega) with ⟨q, -⟩ | ⟨m, hm, q1, q2, -⟩
        · exact q
        · exact absurd ⟨q1, q2⟩ (hno m hm)
      rw [e14, oc_s (s_no (by decide) _ _ _)]
      refine ⟨σ, rfl, Res_0 h ?_⟩
      rw [hd, s0]
      rfl
    · have e14 : σ.1 14 k = nI m := (start_iff c.1.2.1 hC.2.1 (by omega) (by omega)).mpr ⟨hm, m1, m2⟩
      obtain ⟨σ', q1, q2⟩ := s_by c hE h (D := D) (by rw [hd, s1]) m3 hm ho (hst m hm m1 m2) (by unfold bud at hb ⊢; omega)
      rw [e14, oc_s q1]
      exact ⟨σ', rfl, q2⟩
  | succ r ih =>
    intro k fuel σ τ hk hf h hd hi hs hb
    obtain ⟨f, rfl⟩ : ∃ f, fuel = f + 1 := ⟨fuel - 1, by omega⟩
    have hkt : k < t := by omega
    have hmk := cn_mono X (show k + 1 ≤ nt by omega)
    rw [p_X2_begin_56]
    try dsimp only
    unfold p_X2_begin_80
    rw [if_neg (nI_ge hkt (by omega)), oc_s (p_has (show k < 64 by omega)), hx k (by omega) (by omega), nI_1]
    cases hXk : X k with
    | false =>
      rw [if_pos (show b2 false = 0 from rfl)]
      rw [← cn_s.2 hXk] at hd ⊢
      exact ih (k + 1) f σ τ (by omega) (by omega) h hd (fun g h1 h2 h3 => hi g (by omega) h2 h3) hs hb
    | true =>
      rw [if_neg (show ¬ b2 true = 0 by decide)]
      have hcs := cn_s.1 hXk
      obtain ⟨σ1, q1, τ1, j, g1, g2, g3, g4, g5, g6⟩ := hB k σ τ (D + s + (cn X nt - cn X (k + 1))) hkt hXk h (by rw [hd]; congr 1; omega) (hi k (Nat.le_refl _) (by omega) hXk) (by unfold bud at hb ⊢; omega)
      obtain ⟨σ', z1, z2⟩ := ih (k + 1) f σ1 τ1 (by omega) (by omega) g2 g3 (fun g h1 h2 h3 => sb_it g4 (by
        have b1 := cn_lt h3 (show g < g + 1 by omega)
        have b2 := cn_mono X (show k + 1 ≤ g by omega)
        have b3 := cn_mono X (show g + 1 ≤ nt by omega)
        omega) (hi g (by omega) h2 h3)) (by
        rcases hs with q | ⟨p1, m, p2, p3, p4, p5⟩
        · exact Or.inl q
        · exact Or.inr ⟨p1, m, p2, p3, p4, sb_it g4 (by omega) p5⟩) (bud_up hb g5)
      rw [oc_s q1]
      refine ⟨σ', z1, ?_⟩
      have := Res_tr (P := P) (nt := nt) (nm := nm) (w := w) (D := D) (z := 1) (z' := 1 + (cn X nt - cn X (k + 1))) (σ0 := σ0) (τ0 := τ0) ⟨τ1, j, g1, sb_le g4 (by omega), g5, g6, z2⟩
      exact Res_z this (by omega)
theorem beg_sub {P : Nat → Nat → Int32} {nt nm o t u : Nat} (h : ∀ k, wth P nt nm u k → wth P nt nm t k) (q i j : Nat) (hb : beg P nt nm o u q i j) : beg P nt nm o t q i j := by
  obtain ⟨k, hk, w⟩ := hb
  exact ⟨k, h k hk, w⟩
theorem und_tr {P : Nat → Nat → Int32} {a b c : Nat} (h : und P a b) (g : und P b c) : und P a c := by
  rcases h with rfl | h
  · exact g
  · rcases g with rfl | g
    · exact Or.inr h
    · exact Or.inr (Relation.TransGen.trans h g)
theorem sim_begin {P : Nat → Nat → Int32} {nt nm no w : Nat} {σ0 τ0 : SS} {E : Int32 → Int32 → SS → Option SS} (c : Cx P nt nm no σ0 τ0) (hE : SimE P nt nm σ0 τ0 E w) : ∀ (n t : Nat) (σ τ : SS) (D o : Nat), t + 2 ≤ n → RS P nt nm σ0 τ0 σ τ w → τ.1 0 37 = nI (D + 1) → it τ D 2 (nI t) 0 (nI o) → t < nt → o < 160 → (∀ q i j, beg P nt nm o t q i j → LG P nt nm q i j) → bud D w σ → ∃ σ', p_X2_begin E n (nI t) (nI o) (nI w) σ = some σ' ∧ Res P nt nm σ0 τ0 w D 1 σ τ σ' := by
  have hW := c.1
  have h16 := hW.1.1
  have h48 := hW.2.1.1
  intro n
  induction n with
  | zero => intro t σ τ D o h; omega
  | succ n ih =>
    intro t σ τ D o hn h hd hi ht ho hL hb
    have ht16 : t < 16 := by omega
    have hD9 : D ≤ 900 := by unfold bud at hb; omega
    have hb33 := h.2.2.2.2.2.2.2.2.1 t ht16
    have hL2 : LG P nt nm 2 t 0 := hL 2 t 0 ⟨t, ⟨ht, Or.inl rfl⟩, Or.inl ⟨rfl, rfl, rfl⟩⟩
    rw [p_X2_begin]
    unfold p_X2_begin_0
    rw [if_neg (fun q => nI_m1 (u := t) (by omega) q.symm), oc_s (p_has (show t < 64 by omega))]
    cases hbt : lb (σ.2 6 10) t with
    | true =>
      rw [if_neg (show ¬ b2 true = 0 by decide)]
      rw [hbt] at hb33
      obtain ⟨p1, p2, p3⟩ := pop_f (τ := τ) (D := D) h.2.1.2.2
      refine ⟨σ, rfl, sI τ 0 37 (nI D), 1, Go_1 hd (by omega) ?_, RS_x h p1, p3, p2 D, Up_rf σ, by omega⟩
      rw [nx_2 hd (by omega) hi]
      unfold p_X8_beginNow_0
      have e33 : (sI τ 0 37 (nI D)).1 33 t = 1 := by rw [sI_p, pI_ne _ _ (by decide)]; exact hb33
      rw [oi_n ht16 (by decide), nI_clamp (show t < 2 ^ 31 by omega), e33, if_neg n10]
      rfl
    | false =>
      rw [if_pos (show b2 false = 0 from rfl), with_s, oc_s rfl, os_s]
      rw [hbt] at hb33
      generalize hσ1 : sL σ 6 10 (σ.2 6 10 ||| jshl 1 (nI t)) = σ1
      have hbg1 : bgN σ1 = bgN σ + 1 := by
        rw [← hσ1]
        unfold bgN
        rw [sL_at]
        refine cn_more (k := t) (by omega) (fun j hj hne => ?_) hbt ?_
        · rw [lb_with (show t < 64 by omega), decide_eq_false hne, Bool.or_false]
        · rw [lb_with (show t < 64 by omega), decide_eq_true rfl, Bool.or_true]
      have hst1 : stN σ1 = stN σ := by rw [← hσ1]; rfl
      have hU1 : Up σ σ1 := ⟨by omega, by omega⟩
      have hag := cx_ag c h
      have hg := cx_M c h
      -- the reference's step
      obtain ⟨X, hX⟩ : ∃ X : Nat → Bool, X = fun f => pb (¬ P 1 t = 2 ∧ f < nt ∧ P 1 f = 2 ∧ abv P t f ∧ hpl P nm f) := ⟨_, rfl⟩
      have hXe : ∀ f, X f = true ↔ ¬ P 1 t = 2 ∧ f < nt ∧ P 1 f = 2 ∧ abv P t f ∧ hpl P nm f := fun f => by rw [hX]; exact pb_t
      obtain ⟨τ', s, r1, r2, r3, r4, r5, r6, r7⟩ := ref_begin (X := X) hW ht (fun f hf => by
        rw [hXe]
        constructor
        · rintro ⟨a1, a2, a3, a4, a5⟩; exact ⟨a1, Or.inr a4, a3, a5⟩
        · rintro ⟨a1, a2, a3, a4⟩
          rcases a2 with a2 | a2
          · exact absurd (by rw [a2]; exact a3) a1
          · exact ⟨a1, hf, a3, a2, a4⟩) hag (cx_0 c h) h.2.1.2.2 h.2.2.2.2.2.2.2.2.2.2.2.2.1 (by rw [gM_b hg ht16, pb_t.mpr hL2]; rfl) hb33 hd (by omega) hi
      have hXt : ∀ f, t ≤ f → f < nt → X f = false := fun f h1 _ => Bool.eq_false_iff.mpr (fun q => by have := abv_lt ((hXe f).mp q).2.2.2.1; omega)
      have hcn : cn X nt ≤ t := by
        rw [cn_out (f := X) (M := t) (N := nt) hXt (by omega)]
        exact cn_le X t
      have hs1 : s ≤ 1 := by rcases r7 with ⟨q, -⟩ | ⟨q, -⟩ <;> omega
      have hp := pop_f (τ := τ) (D := D) h.2.1.2.2
      have hR : RS P nt nm σ0 τ0 σ1 τ' w := by
        rw [← hσ1]
        exact RS_x (RS_43 (RS_beg (RS_x h hp.1) ht16 hL2)) r2
      have hsb : sb D τ τ' := by
        refine sb_tr (fun i hi => ?_) r3
        have e : ∀ cc, cc ≠ 0 → cc ≠ 33 → (sI (sI (sI τ 0 37 (nI D)) 33 t 1) 0 43 1).1 cc = τ.1 cc := fun cc a1 a2 => by rw [sI_p, pI_ne _ _ a1, sI_p, pI_ne _ _ a2, sI_p, pI_ne _ _ a1]
        exact ⟨by rw [e 28 (by decide) (by decide)], by rw [e 29 (by decide) (by decide)], by rw [e 30 (by decide) (by decide)], by rw [e 31 (by decide) (by decide)]⟩
      have hlim := (RS_lim h16 hR).2
      have hb1 : bud (D + 17) w σ1 := by unfold bud at hb ⊢; omega
      have hC1 := cx_C c hR
      rw [oc_s (k_superOf hC1.1 h16 ht)]
      -- the SUPER
      have hsup : ∃ σ2, p_X2_begin E n (P 2 t) (nI o) (nI w) σ1 = some σ2 ∧ Res P nt nm σ0 τ0 w (D + s + cn X nt) 1 σ1 τ' σ2 := by
        rcases (hW.1.2.2 t ht).2.1 with h2 | ⟨u, hu, h2, hu2⟩
        · refine ⟨σ1, ?_, Res_0 hR (by rw [r4, if_pos h2]; rfl)⟩
          obtain ⟨n', rfl⟩ : ∃ n', n = n' + 1 := ⟨n - 1, by omega⟩
          rw [h2, p_X2_begin]
          unfold p_X2_begin_0
          rw [if_pos rfl]
          rfl
        · have hne : ¬ P 2 t = -1 := fun q => nI_m1 (u := u) (by omega) (by rw [← q, h2])
          have i6 := r6 hne
          rw [h2] at i6 ⊢
          have hnf : ¬ P 1 t = 2 := fun q => by
            have := (hW.1.2.2 t ht).2.2.1 q
            exact hne this
          have hut : und P t u := Or.inr (Relation.TransGen.single ⟨hu, Or.inl h2⟩)
          refine ih u σ1 τ' (D + s + cn X nt) o (by omega) hR (by rw [r4, if_neg hne]) i6 (by omega) ho (fun q i j hbq => hL q i j (beg_sub (fun k hk => ⟨hk.1, ?_⟩) q i j hbq)) (by unfold bud at hb1 ⊢; omega)
          rcases hk.2 with rfl | ⟨a1, a2, a3⟩
          · exact Or.inr ⟨hnf, hut, Or.inl hu2⟩
          · exact Or.inr ⟨hnf, und_tr hut a2, a3⟩
      obtain ⟨σ2, y1, τ2, j2, g1, g2, g3, g4, g5, g6⟩ := hsup
      have hC2 := cx_C c g2
      obtain ⟨x, f1, f2⟩ := k_facesBegun hW hC2 ht
      rw [oc_s y1, oc_s f1]
      obtain ⟨σ', z1, z2⟩ := sim_faces (D := D) (s := s) (o := o) c hE ht ho hXt (x := x) (fun f hf hfn => by
        exact (Bool.eq_iff_iff).mpr ((f2 f hf).trans (hXe f).symm)) (B := p_X2_begin E n) (fun f σ3 τ3 D3 hft hXf hR3 hd3 hi3 hb3 => by
          obtain ⟨a1, a2, a3, a4, a5⟩ := (hXe f).mp hXf
          refine ih f σ3 τ3 D3 o (by omega) hR3 hd3 hi3 a2 ho (fun q i j hbq => hL q i j (beg_sub (fun k hk => ⟨hk.1, ?_⟩) q i j hbq)) hb3
          rcases hk.2 with rfl | ⟨b1, -⟩
          · exact Or.inr ⟨a1, Or.inr a4, Or.inr a5⟩
          · exact absurd a3 b1) (fun m hm m1 m2 => hL 4 o m ⟨t, ⟨ht, Or.inl rfl⟩, Or.inr ⟨rfl, rfl, hm, m1, m2⟩⟩) hs1 t 0 100000 σ2 τ2 (by omega) (by omega) g2 (by rw [g3]; rfl) (fun f _ hf hXf => sb_it g4 (by
          have b1 := cn_lt hXf (show f < f + 1 by omega)
          have b2 := cn_mono X (show f + 1 ≤ nt by omega)
          omega) (r5 f hf hXf)) (by
          rcases r7 with q | ⟨p1, m, p2, p3, p4, p5⟩
          · exact Or.inl q
          · exact Or.inr ⟨p1, m, p2, p3, p4, sb_it g4 (by omega) p5⟩) (bud_up hb1 g5)
      refine ⟨σ', z1, ?_⟩
      obtain ⟨τ5, j5, v1, v2, v3, v4, v5, v6⟩ := z2
      refine ⟨τ5, 1 + (j2 + j5), Go_tr 1 (j2 + j5) τ τ' τ5 (Go_1 hd (by omega) r1) (Go_tr j2 j5 τ' τ2 τ5 g1 v1), v2, v3, sb_tr hsb (sb_tr (sb_le g4 (by omega)) v4), Up_tr hU1 (Up_tr g5 v5), ?_⟩
      have e1 : Ph σ1 = Ph σ + 40 := by unfold Ph; rw [hst1, hbg1]; omega
      have e2 : cn X 0 = 0 := rfl
      omega
