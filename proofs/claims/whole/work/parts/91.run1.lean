/-! pure: drawn runs: steps on both sides -/
def sZ : List Nat := [28, 29, 30, 31, 32, 33, 34, 35, 36]
theorem sZK : ∀ x ∈ sZ, x ∈ sK := by decide
theorem kt_sI {nt : Nat} {τ0 τ : SS} (h : kt nt τ0 τ) {c : Nat} (hc : c ∈ sZ) (j : Nat) (x : Int32) : kt nt τ0 (sI τ c j x) := by
  have h28 : 28 ≤ c := by
    have : ∀ x ∈ sZ, 28 ≤ x := by decide
    exact this c hc
  refine ⟨fun k h0 h1 => ?_, fun k hk => ?_, okU_s j x h.2.2 (by omega) (by omega)⟩
  · rw [sI_p, pI_ne _ _ (fun e => h1 (by rw [e]; exact sZK c hc))]; exact h.1 k h0 h1
  · rw [sI_p, pI_ne _ _ (by omega)]; exact h.2.1 k hk
theorem kt_s0 {nt : Nat} {τ0 τ : SS} (h : kt nt τ0 τ) {j : Nat} (hj : 27 ≤ j) (x : Int32) : kt nt τ0 (sI τ 0 j x) := by
  have hc : ∀ c, c ≠ 0 → (sI τ 0 j x).1 c = τ.1 c := fun c hc => by rw [sI_p, pI_ne _ _ hc]
  have h0 : ∀ k, k ≠ j → (sI τ 0 j x).1 0 k = τ.1 0 k := fun k hk => by rw [sI_p, pI_at, upd_ne hk]
  exact ⟨fun k h1 h2 => (hc k h1).trans (h.1 k h1 h2), fun k hk => (h0 k (by omega)).trans (h.2.1 k hk), okU_c h.2.2 (h0 26 (by omega)) (hc 21 (by decide)) (und_c (hc 2 (by decide)) (hc 3 (by decide)) (hc 4 (by decide)))⟩
theorem kt_sL {nt : Nat} {τ0 τ : SS} (h : kt nt τ0 τ) (c j : Nat) (x : Int64) : kt nt τ0 (sL τ c j x) := h
theorem RS_draw {P : Nat → Nat → Int32} {nt nm w : Nat} {σ0 τ0 σ τ : SS} (h : RS P nt nm σ0 τ0 σ τ w) (x : Int64) : RS P nt nm σ0 τ0 (sL σ 6 8 x) (sL τ 0 38 x) w := by
  obtain ⟨h1, h2, h3, h4, h5, h6, h7, h8, h9, h10, h11, h12, h13, h14, h15⟩ := h
  exact ⟨kr_sL h1 (by decide) 8 x, kt_sL h2 0 38 x, by rw [sL_at, sL_at], h4, h5, h6, h7, h8, h9, h10, h11, h12, h13, h14, h15⟩
theorem RS_left {P : Nat → Nat → Int32} {nt nm w : Nat} {σ0 τ0 σ τ : SS} (h : RS P nt nm σ0 τ0 σ τ w) : RS P nt nm σ0 τ0 (sI σ 6 13 (σ.1 6 13 + 1)) (sI τ 0 41 (τ.1 0 41 + 1)) w := by
  obtain ⟨h1, h2, h3, h4, h5, h6, h7, h8, h9, h10, h11, h12, h13, h14, h15⟩ := h
  refine ⟨kr_sI h1 (by decide) 13 _, kt_s0 h2 (by decide) _, h3, h4, ?_, h6, h7, h8, h9, h10, h11, h12, h13, h14, h15⟩
  rw [sI_p, pI_at, upd_at, sI_p, pI_at, upd_at, h5]
theorem RS_43 {P : Nat → Nat → Int32} {nt nm w : Nat} {σ0 τ0 σ τ : SS} (h : RS P nt nm σ0 τ0 σ τ w) : RS P nt nm σ0 τ0 σ (sI τ 0 43 1) w := by
  obtain ⟨h1, h2, h3, h4, h5, h6, h7, h8, h9, h10, h11, h12, h13, h14, h15⟩ := h
  refine ⟨h1, kt_s0 h2 (by decide) _, h3, h4, h5, h6, h7, h8, h9, h10, h11, h12, ?_, h14, h15⟩
  rw [sI_p, pI_at, upd_at]
theorem RS_w {P : Nat → Nat → Int32} {nt nm w : Nat} {σ0 τ0 σ τ : SS} (h : RS P nt nm σ0 τ0 σ τ w) (w' : Nat) : RS P nt nm σ0 τ0 σ (sI τ 0 40 (nI w')) w' := by
  obtain ⟨h1, h2, h3, h4, h5, h6, h7, h8, h9, h10, h11, h12, h13, h14, h15⟩ := h
  refine ⟨h1, kt_s0 h2 (by decide) _, h3, h4, h5, h6, h7, h8, h9, h10, h11, h12, h13, ?_, h15⟩
  rw [sI_p, pI_at, upd_at]
theorem RS_steps {P : Nat → Nat → Int32} {nt nm w st : Nat} {σ0 τ0 σ τ : SS} (h : RS P nt nm σ0 τ0 σ τ w) (hst : st ≤ 300) : RS P nt nm σ0 τ0 (sI σ 6 12 (nI st)) (sI τ 0 39 (nI st)) w := by
  obtain ⟨h1, h2, h3, h4, h5, h6, h7, h8, h9, h10, h11, h12, h13, h14, h15⟩ := h
  refine ⟨kr_sI h1 (by decide) 12 _, kt_s0 h2 (by decide) _, h3, ⟨st, hst, ?_, ?_⟩, h5, h6, h7, h8, h9, h10, h11, h12, h13, h14, h15⟩
  · rw [sI_p, pI_at, upd_at]
  · rw [sI_p, pI_at, upd_at]
theorem b2_or {x : Int64} {m k : Nat} (hm : m < 64) : b2 (lb (x ||| jshl 1 (nI m)) k) = if k = m then 1 else b2 (lb x k) := by
  rw [lb_with hm]
  by_cases e : k = m
  · rw [if_pos e, decide_eq_true e, Bool.or_true]; rfl
  · rw [if_neg e, decide_eq_false e, Bool.or_false]
theorem lb_new {x : Int64} {m k : Nat} (hm : m < 64) {p : Nat → Prop} (h : ∀ k, lb x k = true → p k) (hp : p m) (hk : lb (x ||| jshl 1 (nI m)) k = true) : p k := by
  rw [lb_with hm, Bool.or_eq_true, decide_eq_true_iff] at hk
  rcases hk with hk | rfl
  · exact h k hk
  · exact hp
theorem RS_ran {P : Nat → Nat → Int32} {nt nm w m : Nat} {σ0 τ0 σ τ : SS} (h : RS P nt nm σ0 τ0 σ τ w) (hm : m < 48) (hL : LG P nt nm 0 m 0) : RS P nt nm σ0 τ0 (sL σ 6 9 (σ.2 6 9 ||| jshl 1 (nI m))) (sI τ 32 m 1) w := by
  obtain ⟨h1, h2, h3, h4, h5, h6, h7, h8, h9, h10, h11, h12, h13, h14, h15⟩ := h
  refine ⟨kr_sL h1 (by decide) 9 _, kt_sI h2 (by decide) _ _, h3, h4, h5, h6, fun k hk => ?_, fun k hk => ?_, h9, h10, h11, h12, h13, h14, h15⟩
  · rw [sL_at, b2_or (by omega), sI_p, pI_at]
    by_cases e : k = m
    · rw [if_pos e, e, upd_at]
    · rw [if_neg e, upd_ne e]; exact h7 k hk
  · rw [sL_at] at hk
    exact lb_new (p := fun k => LG P nt nm 0 k 0) (by omega) h8 hL hk
theorem RS_latest {P : Nat → Nat → Int32} {nt nm w : Nat} {σ0 τ0 σ τ : SS} (h : RS P nt nm σ0 τ0 σ τ w) (x : Int32) : RS P nt nm σ0 τ0 (sI σ 6 14 x) (sI τ 0 42 x) w := by
  obtain ⟨h1, h2, h3, h4, h5, h6, h7, h8, h9, h10, h11, h12, h13, h14, h15⟩ := h
  refine ⟨kr_sI h1 (by decide) 14 _, kt_s0 h2 (by decide) _, h3, h4, h5, ?_, h7, h8, h9, h10, h11, h12, h13, h14, h15⟩
  rw [sI_p, pI_at, upd_at, sI_p, pI_at, upd_at]
theorem RS_beg {P : Nat → Nat → Int32} {nt nm w t : Nat} {σ0 τ0 σ τ : SS} (h : RS P nt nm σ0 τ0 σ τ w) (ht : t < 16) (hL : LG P nt nm 2 t 0) : RS P nt nm σ0 τ0 (sL σ 6 10 (σ.2 6 10 ||| jshl 1 (nI t))) (sI τ 33 t 1) w := by
  obtain ⟨h1, h2, h3, h4, h5, h6, h7, h8, h9, h10, h11, h12, h13, h14, h15⟩ := h
  refine ⟨kr_sL h1 (by decide) 10 _, kt_sI h2 (by decide) _ _, h3, h4, h5, h6, h7, h8, fun k hk => ?_, fun k hk => ?_, h11, h12, h13, h14, h15⟩
  · rw [sL_at, b2_or (by omega), sI_p, pI_at]
    by_cases e : k = t
    · rw [if_pos e, e, upd_at]
    · rw [if_neg e, upd_ne e]; exact h9 k hk
  · rw [sL_at] at hk
    exact lb_new (p := fun k => LG P nt nm 2 k 0) (by omega) h10 hL hk
theorem RS_tried {P : Nat → Nat → Int32} {nt nm w o m : Nat} {σ0 τ0 σ τ : SS} (h : RS P nt nm σ0 τ0 σ τ w) (ho : o < 160) (hm : m < 48) (hL : LG P nt nm 4 o m) : RS P nt nm σ0 τ0 (sL σ 32 o (σ.2 32 o ||| jshl 1 (nI m))) τ w := by
  obtain ⟨h1, h2, h3, h4, h5, h6, h7, h8, h9, h10, h11, h12, h13, h14, h15⟩ := h
  refine ⟨kr_sL h1 (by decide) o _, h2, h3, h4, h5, h6, h7, h8, h9, h10, h11, h12, h13, h14, fun o' ho' k hk => ?_⟩
  rw [sL_p, pL_at] at hk
  by_cases e : o' = o
  · subst e
    rw [updL_at] at hk
    exact lb_new (p := fun k => LG P nt nm 4 o' k) (by omega) (h15 o' ho') hL hk
  · rw [updL_ne e] at hk
    exact h15 o' ho' k hk
theorem RS_pool {P : Nat → Nat → Int32} {nt nm w pc c : Nat} {σ0 τ0 σ τ : SS} (h : RS P nt nm σ0 τ0 σ τ w) (hp1 : σ.1 6 11 = nI pc) (hp : pc < 20) (hc : c < nt) (hL : LG P nt nm 1 c 0) : RS P nt nm σ0 τ0 (sI (sI σ 6 11 (nI (pc + 1))) 29 pc (nI c)) (sI (sI τ 34 pc (nI c)) 0 47 (nI (pc + 1))) w := by
  obtain ⟨h1, h2, h3, h4, h5, h6, h7, h8, h9, h10, ⟨pc', a1, a2, a3, a4⟩, h12, h13, h14, h15⟩ := h
  have e : pc' = pc := (nI_eq (by omega) (by omega)).mp (a2.symm.trans hp1)
  subst e
  refine ⟨kr_sI (kr_sI h1 (by decide) 11 _) (by decide) pc' _, kt_s0 (kt_sI h2 (by decide) _ _) (by decide) _, h3, h4, h5, h6, h7, h8, h9, h10, ⟨pc' + 1, by omega, ?_, ?_, fun i hi => ?_⟩, h12, h13, h14, h15⟩
  · rw [sI_p, pI_ne _ _ (by decide), sI_p, pI_at, upd_at]
  · rw [sI_p, pI_at, upd_at]
  · have e29 : (sI (sI σ 6 11 (nI (pc' + 1))) 29 pc' (nI c)).1 29 = upd (σ.1 29) pc' (nI c) := by rw [sI_p, pI_at, sI_p, pI_ne _ _ (by decide)]
    have e34 : (sI (sI τ 34 pc' (nI c)) 0 47 (nI (pc' + 1))).1 34 = upd (τ.1 34) pc' (nI c) := by rw [sI_p, pI_ne _ _ (by decide), sI_p, pI_at]
    rw [e29, e34]
    by_cases e : i = pc'
    · rw [e, upd_at, upd_at]
      exact ⟨c, hc, hL, rfl, rfl⟩
    · rw [upd_ne e, upd_ne e]
      exact a4 i (by omega)
theorem RS_put {P : Nat → Nat → Int32} {nt nm w a m bc : Nat} (h48 : nm ≤ 48) {σ0 τ0 σ τ : SS} (h : RS P nt nm σ0 τ0 σ τ w) (ha : a < 4) (hm : m < nm) (hL : LG P nt nm 3 a m) (hb : σ.1 31 a = nI bc) (hbc : bc ≤ 48) (hn : ∀ i, i < bc → ¬ σ.1 30 (a * 48 + i) = nI m) : bc < 48 ∧ RS P nt nm σ0 τ0 (sI (sI σ 30 (a * 48 + bc) (nI m)) 31 a (nI (bc + 1))) (sI (sI τ 35 (48 * a + bc) (nI m)) 36 a (nI (bc + 1))) w := by
  obtain ⟨h1, h2, h3, h4, h5, h6, h7, h8, h9, h10, h11, h12, h13, h14, h15⟩ := h
  obtain ⟨bc', b1, b2', b3, b4⟩ := h12 a ha
  have hle := cn_le (fun m => pb (∃ i, i < bc' ∧ σ.1 30 (a * 48 + i) = nI m)) nm
  have e : bc' = bc := (nI_eq (by omega) (by omega)).mp (b1.symm.trans hb)
  subst e
  have c30 : (sI (sI σ 30 (a * 48 + bc') (nI m)) 31 a (nI (bc' + 1))).1 30 = upd (σ.1 30) (a * 48 + bc') (nI m) := by rw [sI_p, pI_ne _ _ (by decide), sI_p, pI_at]
  have c31 : (sI (sI σ 30 (a * 48 + bc') (nI m)) 31 a (nI (bc' + 1))).1 31 = upd (σ.1 31) a (nI (bc' + 1)) := by rw [sI_p, pI_at, sI_p, pI_ne _ _ (by decide)]
  have c35 : (sI (sI τ 35 (48 * a + bc') (nI m)) 36 a (nI (bc' + 1))).1 35 = upd (τ.1 35) (48 * a + bc') (nI m) := by rw [sI_p, pI_ne _ _ (by decide), sI_p, pI_at]
  have c36 : (sI (sI τ 35 (48 * a + bc') (nI m)) 36 a (nI (bc' + 1))).1 36 = upd (τ.1 36) a (nI (bc' + 1)) := by rw [sI_p, pI_at, sI_p, pI_ne _ _ (by decide)]
  have hcn : cn (fun k => pb (∃ i, i < bc' + 1 ∧ upd (σ.1 30) (a * 48 + bc') (nI m) (a * 48 + i) = nI k)) nm = bc' + 1 := by
    have := cn_more (f := fun k => pb (∃ i, i < bc' ∧ σ.1 30 (a * 48 + i) = nI k)) (g := fun k => pb (∃ i, i < bc' + 1 ∧ upd (σ.1 30) (a * 48 + bc') (nI m) (a * 48 + i) = nI k)) hm (fun j hj hne => ?_) (pb_f.mpr (fun ⟨i, w1, w2⟩ => hn i w1 w2)) (pb_t.mpr ⟨bc', by omega, upd_at⟩)
    · rw [this, ← b3]
    · refine congrArg pb (propext ⟨fun ⟨i, w1, w2⟩ => ?_, fun ⟨i, w1, w2⟩ => ⟨i, by omega, by rw [upd_ne (by omega)]; exact w2⟩⟩)
      by_cases ei : i = bc'
      · rw [ei, upd_at] at w2
        exact absurd ((nI_eq (by omega) (by omega)).mp w2).symm hne
      · rw [upd_ne (by omega)] at w2
        exact ⟨i, by omega, w2⟩
  have hle' := cn_le (fun k => pb (∃ i, i < bc' + 1 ∧ upd (σ.1 30) (a * 48 + bc') (nI m) (a * 48 + i) = nI k)) nm
  refine ⟨by omega, kr_sI (kr_sI h1 (by decide) _ _) (by decide) _ _, kt_sI (kt_sI h2 (by decide) _ _) (by decide) _ _, h3, h4, h5, h6, h7, h8, h9, h10, h11, fun x hx => ?_, h13, h14, h15⟩
  rw [c30, c31, c35, c36]
  by_cases ex : x = a
  · subst ex
    refine ⟨bc' + 1, by rw [upd_at], by rw [upd_at], hcn.symm, fun i hi => ?_⟩
    by_cases ei : i = bc'
    · rw [ei, upd_at, upd_at]
      exact ⟨m, hm, hL, rfl, rfl⟩
    · rw [upd_ne (by omega), upd_ne (by omega)]
      exact b4 i (by omega)
  · obtain ⟨bx, d1, d2, d3, d4⟩ := h12 x hx
    have hlx := cn_le (fun m => pb (∃ i, i < bx ∧ σ.1 30 (x * 48 + i) = nI m)) nm
    rw [upd_ne ex, upd_ne ex]
    have hidx : ∀ i, i < bx → upd (σ.1 30) (a * 48 + bc') (nI m) (x * 48 + i) = σ.1 30 (x * 48 + i) := fun i hi => upd_ne (by omega)
    refine ⟨bx, d1, d2, ?_, fun i hi => ?_⟩
    · refine d3.trans (cn_congr (fun k _ => congrArg pb (propext ⟨fun ⟨i, w1, w2⟩ => ⟨i, w1, by rw [hidx i w1]; exact w2⟩, fun ⟨i, w1, w2⟩ => ⟨i, w1, by rw [hidx i w1] at w2; exact w2⟩⟩)))
    · rw [hidx i hi, upd_ne (by omega)]
      exact d4 i hi
/-- what is spent -/
def stN (σ : SS) : Nat := (σ.1 6 12).toNatClampNeg
def bgN (σ : SS) : Nat := cn (lb (σ.2 6 10)) 64
def Ph (σ : SS) : Nat := 100 * stN σ + 40 * bgN σ
def Up (σ σ' : SS) : Prop := stN σ ≤ stN σ' ∧ bgN σ ≤ bgN σ'
theorem Up_rf (σ : SS) : Up σ σ := ⟨Nat.le_refl _, Nat.le_refl _⟩
theorem Up_tr {a b c : SS} (h : Up a b) (g : Up b c) : Up a c := ⟨Nat.le_trans h.1 g.1, Nat.le_trans h.2 g.2⟩
theorem RS_lim {P : Nat → Nat → Int32} {nt nm w : Nat} (h16 : nt ≤ 16) {σ0 τ0 σ τ : SS} (h : RS P nt nm σ0 τ0 σ τ w) : stN σ ≤ 300 ∧ bgN σ ≤ 16 := by
  obtain ⟨st, a1, a2, -⟩ := h.2.2.2.1
  refine ⟨by unfold stN; rw [a2, nI_clamp (show st < 2 ^ 31 by omega)]; exact a1, ?_⟩
  unfold bgN
  rw [cn_out (f := lb (σ.2 6 10)) (M := 16) (N := 64) (fun k h1 h2 => by
    cases hb : lb (σ.2 6 10) k with
    | false => rfl
    | true =>
      have := (LG_lt (h.2.2.2.2.2.2.2.2.2.1 k hb)).2.2.1 rfl
      omega) (by decide)]
  exact cn_le _ _
/-- room on the stack -/
def bud (D w : Nat) (σ : SS) : Prop := D + 4 * (12 - w) + 20 * (16 - bgN σ) ≤ 900
theorem bud_up {D w : Nat} {σ σ' : SS} (h : bud D w σ) (u : Up σ σ') : bud D w σ' := by
  unfold bud at h ⊢
  have := u.2
  omega
/-- what a call comes to: j steps of the stack, which is then D high again -/
def Res (P : Nat → Nat → Int32) (nt nm : Nat) (σ0 τ0 : SS) (w D z : Nat) (σ τ σ' : SS) : Prop := ∃ τ' j, Go j τ τ' ∧ RS P nt nm σ0 τ0 σ' τ' w ∧ τ'.1 0 37 = nI D ∧ sb D τ τ' ∧ Up σ σ' ∧ j + Ph σ ≤ z + Ph σ'
theorem Res_tr {P : Nat → Nat → Int32} {nt nm w D z z' : Nat} {σ0 τ0 σ τ σ1 σ2 : SS} (h : ∃ τ1 j, Go j τ τ1 ∧ sb D τ τ1 ∧ Up σ σ1 ∧ j + Ph σ ≤ z + Ph σ1 ∧ Res P nt nm σ0 τ0 w D z' σ1 τ1 σ2) : Res P nt nm σ0 τ0 w D (z + z') σ τ σ2 := by
  obtain ⟨τ1, j, h1, h2, h3, h4, τ', j', g1, g2, g3, g4, g5, g6⟩ := h
  exact ⟨τ', j + j', Go_tr j j' τ τ1 τ' h1 g1, g2, g3, sb_tr h2 g4, Up_tr h3 g5, by omega⟩
