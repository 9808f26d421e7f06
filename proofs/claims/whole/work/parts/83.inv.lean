/-! pure: the invariant of all calls -/
def ag (P P' : Nat → Nat → Int32) : Prop := ∀ c, c ≠ 0 → c < 14 → P' c = P c
theorem und_ag {P P' : Nat → Nat → Int32} (a : ag P P') : und P' = und P := und_c (a 2 (by decide) (by decide)) (a 3 (by decide) (by decide)) (a 4 (by decide) (by decide))
theorem isH_ag {P P' : Nat → Nat → Int32} (a : ag P P') : isH P' = isH P := by
  have hu := und_ag a
  funext x b c d e f
  exact propext ⟨fun q => isH_c q hu a, fun q => isH_c q hu.symm (fun c h0 h1 => (a c h0 h1).symm)⟩
theorem isP_ag {P P' : Nat → Nat → Int32} (a : ag P P') : isP P' = isP P := by
  have hu := und_ag a
  funext x b c d e
  exact propext ⟨fun q => isP_c q hu a, fun q => isP_c q hu.symm (fun c h0 h1 => (a c h0 h1).symm)⟩
theorem isF_ag {P P' : Nat → Nat → Int32} (a : ag P P') : isF P' = isF P := by
  have hu := und_ag a
  have hlf : lfB P' = lfB P := by
    funext nt nm t name m
    unfold lfB
    rw [lft_c hu a]
  funext nt nm t name r
  unfold isF
  rw [isC_c a, lpB_c hu a, hlf]
theorem cT_ag {σ : SS} {P P' : Nat → Nat → Int32} {nt : Nat} (h : cT σ P nt) (a : ag P P') : cT σ P' nt := by
  have hn : nxt P' = nxt P := nxt_c (a 2 (by decide) (by decide)) (a 3 (by decide) (by decide)) (a 4 (by decide) (by decide))
  have ha : abv P' = abv P := by unfold abv; rw [hn]
  have hf : fce P' = fce P := by
    funext t u
    unfold fce
    rw [a 3 (by decide) (by decide), a 4 (by decide) (by decide)]
  unfold cT at h ⊢
  rw [ha, hf, a 1 (by decide) (by decide), a 2 (by decide) (by decide)]
  exact h
theorem cC_ag {σ : SS} {P P' : Nat → Nat → Int32} {nt nm : Nat} (h : cC σ P nt nm) (a : ag P P') : cC σ P' nt nm := by
  unfold cC at h ⊢
  rw [isF_ag a, isP_ag a]
  exact h
theorem WF_ag {P P' : Nat → Nat → Int32} {nt nm no : Nat} (hW : WF P nt nm no) (a : ag P P') (h0 : P' 0 0 = P 0 0) (h5 : P' 0 5 = P 0 5) (h12 : P' 0 12 = P 0 12) : WF P' nt nm no :=
  ⟨wfT_c hW.1 h0 (a 1 (by decide) (by decide)) (a 2 (by decide) (by decide)) (a 3 (by decide) (by decide)) (a 4 (by decide) (by decide)), wfM_c hW.2.1 h5 (a 1 (by decide) (by decide)) (a 5 (by decide) (by decide)) (a 6 (by decide) (by decide)) (a 7 (by decide) (by decide)) (a 8 (by decide) (by decide)), wfO_up hW.2.2 (Nat.le_refl _) h12 (fun t _ => by rw [a 1 (by decide) (by decide)]) (a 7 (by decide) (by decide)) (a 9 (by decide) (by decide)) (a 10 (by decide) (by decide)) (a 11 (by decide) (by decide)) (a 12 (by decide) (by decide)) (a 13 (by decide) (by decide))⟩
theorem Inv1_W {σ τ : SS} {nt nm no : Nat} (h : Inv1 σ τ nt nm no) : WF τ.1 nt nm no := ⟨h.1.1, h.1.2.1, h.1.2.2.1⟩
theorem Inv1_C {σ τ : SS} {nt nm no : Nat} (h : Inv1 σ τ nt nm no) : CI σ τ.1 nt nm no := ⟨h.1.2.2.2.2.1, h.1.2.2.2.2.2.1, h.1.2.2.2.2.2.2.1, h.1.2.2.2.2.2.2.2⟩
theorem CI_ag {σ : SS} {P P' : Nat → Nat → Int32} {nt nm no : Nat} (h : CI σ P nt nm no) (a : ag P P') : CI σ P' nt nm no :=
  ⟨cT_ag h.1 a, cM_P h.2.1 (a 5 (by decide) (by decide)) (a 6 (by decide) (by decide)) (a 7 (by decide) (by decide)) (a 8 (by decide) (by decide)), cO_P h.2.2.1 (a 9 (by decide) (by decide)) (a 10 (by decide) (by decide)) (a 11 (by decide) (by decide)) (a 12 (by decide) (by decide)) (a 13 (by decide) (by decide)), cC_ag h.2.2.2 a⟩
theorem Inv1_mk {σ τ : SS} {nt nm no : Nat} (hW : WF τ.1 nt nm no) (ho : okU τ.1 nt) (hC : CI σ τ.1 nt nm no) (hF : cF τ.1 nt) (hS : wfS τ.1 nm no) : Inv1 σ τ nt nm no := ⟨⟨hW.1, hW.2.1, hW.2.2, ho, hC.1, hC.2.1, hC.2.2.1, hC.2.2.2⟩, hF, hS⟩
theorem Inv1_same {σ τ τ' : SS} {nt nm no : Nat} (h : Inv1 σ τ nt nm no) (s : same τ τ') (ho : okU τ'.1 nt) : Inv1 σ τ' nt nm no :=
  Inv1_mk (WF_ag (Inv1_W h) s.1 s.2.1 s.2.2.1 s.2.2.2) ho (CI_ag (Inv1_C h) s.1) (cF_c h.2.1 (s.1 3 (by decide) (by decide)) (s.1 4 (by decide) (by decide))) (wfS_c h.2.2 (s.1 9 (by decide) (by decide)) (s.1 10 (by decide) (by decide)))
theorem fcN_ag {P P' : Nat → Nat → Int32} {nt nm : Nat} {S : G3} (a : ag P P') : fcN P' nt nm S = fcN P nt nm S := by
  funext o b
  unfold fcN fcM sF
  rw [und_ag a, isH_ag a, isF_ag a, a 7 (by decide) (by decide), a 11 (by decide) (by decide), a 12 (by decide) (by decide), a 13 (by decide) (by decide)]
theorem ofM_ag {P P' : Nat → Nat → Int32} (a : ag P P') : ofM P' = ofM P := by
  funext m o
  unfold ofM
  rw [a 9 (by decide) (by decide), a 10 (by decide) (by decide)]
theorem dirP_ag {P P' : Nat → Nat → Int32} {nt nm : Nat} (a : ag P P') : dirP P' nt nm = dirP P nt nm := by
  funext m j
  unfold dirP
  rw [LG_c a, ofM_ag a]
theorem gC_ag {σ : SS} {P P' : Nat → Nat → Int32} {nt nm : Nat} (h : gC σ P nt nm) (a : ag P P') : gC σ P' nt nm := by
  unfold gC at h ⊢
  rw [LG_c a, dirP_ag a]
  exact h
theorem gM_ag {τ : SS} {P P' : Nat → Nat → Int32} {nt nm : Nat} (h : gM τ P nt nm) (a : ag P P') : gM τ P' nt nm := by
  unfold gM FM at h ⊢
  rw [LG_c a, dirP_ag a, fcN_ag a, ofM_ag a]
  exact h
def Inv (σ τ : SS) (nt nm no : Nat) : Prop := Inv1 σ τ nt nm no ∧ (σ.1 5 12 = 0 ∨ (σ.1 5 12 = 1 ∧ gC σ τ.1 nt nm)) ∧ (τ.1 0 16 = 0 ∨ (τ.1 0 16 = 1 ∧ gM τ τ.1 nt nm))
theorem same_rf (τ : SS) : same τ τ := ⟨fun _ _ _ => rfl, rfl, rfl, rfl⟩
theorem same_tr {a b c : SS} (h : same a b) (g : same b c) : same a c := ⟨fun k h0 h1 => (g.1 k h0 h1).trans (h.1 k h0 h1), g.2.1.trans h.2.1, g.2.2.1.trans h.2.2.1, g.2.2.2.trans h.2.2.2⟩
theorem i_refresh {σ τ : SS} {nt nm no : Nat} (h : Inv σ τ nt nm no) : ∃ σ', p_X3_refresh_0 σ = some σ' ∧ Inv σ' τ nt nm no ∧ gC σ' τ.1 nt nm ∧ σ'.1 5 12 = 1 := by
  obtain ⟨σ', q1, q2, q3, q4⟩ := k_refresh (Inv1_W h.1) (Inv1_C h.1) h.2.1
  exact ⟨σ', q1, ⟨Inv1_mk (Inv1_W h.1) h.1.1.2.2.2.1 q2 h.1.2.1 h.1.2.2, Or.inr ⟨q4, q3⟩, h.2.2⟩, q3, q4⟩
theorem i_freshen {σ τ : SS} {nt nm no : Nat} (h : Inv σ τ nt nm no) : ∃ τ', p_X8_freshen_0 τ = some τ' ∧ Inv σ τ' nt nm no ∧ gM τ' τ'.1 nt nm ∧ same τ τ' := by
  obtain ⟨τ', q1, q2, q3, q4, q5⟩ := m_freshen (Inv1_W h.1) h.1.2.2 h.1.1.2.2.2.1 h.2.2
  have g := gM_ag q3 q5.1
  exact ⟨τ', q1, ⟨Inv1_same h.1 q5 q4, h.2.1.elim Or.inl (fun w => Or.inr ⟨w.1, gC_ag w.2 q5.1⟩), Or.inr ⟨q2, g⟩⟩, g, q5⟩
/-- both sides anew -/
theorem i_both {σ τ : SS} {nt nm no : Nat} (h : Inv σ τ nt nm no) : ∃ σ' τ', p_X3_refresh_0 σ = some σ' ∧ p_X8_freshen_0 τ = some τ' ∧ Inv σ' τ' nt nm no ∧ gC σ' τ'.1 nt nm ∧ gM τ' τ'.1 nt nm ∧ same τ τ' := by
  obtain ⟨σ', q1, q2, q3, q4⟩ := i_refresh h
  obtain ⟨τ', w1, w2, w3, w4⟩ := i_freshen q2
  exact ⟨σ', τ', q1, w1, w2, gC_ag q3 w4.1, w3, w4⟩
/-! reading the graph -/
theorem gC_r {σ : SS} {P : Nat → Nat → Int32} {nt nm : Nat} (h : gC σ P nt nm) (m : Nat) : lb (σ.2 5 9) m = pb (LG P nt nm 0 m 0) := by
  rw [← h.1]
  exact (Bool.eq_iff_iff).mpr ⟨fun w => pb_t.mpr ⟨rfl, w⟩, fun w => (pb_t.mp w).2⟩
theorem gC_m {σ : SS} {P : Nat → Nat → Int32} {nt nm : Nat} (h : gC σ P nt nm) (t : Nat) : lb (σ.2 5 10) t = pb (LG P nt nm 1 t 0) := by
  rw [← h.1]
  exact (Bool.eq_iff_iff).mpr ⟨fun w => pb_t.mpr ⟨rfl, w⟩, fun w => (pb_t.mp w).2⟩
theorem gC_b {σ : SS} {P : Nat → Nat → Int32} {nt nm : Nat} (h : gC σ P nt nm) (t : Nat) : lb (σ.2 5 11) t = pb (LG P nt nm 2 t 0) := by
  rw [← h.1]
  exact (Bool.eq_iff_iff).mpr ⟨fun w => pb_t.mpr ⟨rfl, w⟩, fun w => (pb_t.mp w).2⟩
theorem gC_c {σ : SS} {P : Nat → Nat → Int32} {nt nm o : Nat} (h : gC σ P nt nm) (ho : o < 160) (j : Nat) : lb (σ.2 25 o) j = pb (LG P nt nm 4 o j) := by
  rw [← h.1]
  exact (Bool.eq_iff_iff).mpr ⟨fun w => pb_t.mpr ⟨ho, w⟩, fun w => (pb_t.mp w).2⟩
theorem gC_d {σ : SS} {P : Nat → Nat → Int32} {nt nm m : Nat} (h : gC σ P nt nm) (hm : m < nm) (j : Nat) : lb (σ.2 26 m) j = pb (dirP P nt nm m j) := (Bool.eq_iff_iff).mpr ((h.2.1 m hm j).trans pb_t.symm)
theorem gC_w {σ : SS} {P : Nat → Nat → Int32} {nt nm m : Nat} (h : gC σ P nt nm) (hm : m < nm) (j : Nat) : lb (σ.2 27 m) j = pb (wsh (dirP P nt nm) nm m j) := (Bool.eq_iff_iff).mpr ((h.2.2 m hm j).trans pb_t.symm)
theorem gM_r {τ : SS} {P : Nat → Nat → Int32} {nt nm m : Nat} (h : gM τ P nt nm) (hm : m < 48) : τ.1 14 m = b2 (pb (LG P nt nm 0 m 0)) := zn_b (h.2.1 0 (by decide)) hm (by rw [← h.1]; exact (SM_0 hm).symm)
theorem gM_m {τ : SS} {P : Nat → Nat → Int32} {nt nm t : Nat} (h : gM τ P nt nm) (ht : t < 16) : τ.1 15 t = b2 (pb (LG P nt nm 1 t 0)) := zn_b (h.2.1 1 (by decide)) ht (by rw [← h.1]; exact ⟨fun w => ⟨⟨rfl, ht⟩, w⟩, fun w => w.2⟩)
theorem gM_b {τ : SS} {P : Nat → Nat → Int32} {nt nm t : Nat} (h : gM τ P nt nm) (ht : t < 16) : τ.1 16 t = b2 (pb (LG P nt nm 2 t 0)) := zn_b (h.2.1 2 (by decide)) ht (by rw [← h.1]; exact ⟨fun w => ⟨⟨rfl, ht⟩, w⟩, fun w => w.2⟩)
theorem gM_c {τ : SS} {P : Nat → Nat → Int32} {nt nm o j : Nat} (h : gM τ P nt nm) (ho : o < 160) (hj : j < 48) : τ.1 18 (48 * o + j) = b2 (pb (LG P nt nm 4 o j)) := zn_b (h.2.1 4 (by decide)) (show 48 * o + j < 7680 by omega) (by rw [← h.1]; exact ⟨fun w => ⟨⟨ho, hj⟩, w⟩, fun w => w.2⟩)
theorem LG_lt {P : Nat → Nat → Int32} {nt nm q i j : Nat} (h : LG P nt nm q i j) : (q = 0 → i < nm) ∧ (q = 1 → i < nt) ∧ (q = 2 → i < nt) ∧ (q = 4 → i < 160 ∧ j < nm) := by
  rcases LG_bnd h with ⟨a, b, -⟩ | ⟨a, b, -⟩ | ⟨a, b, -⟩ | ⟨a, b, -⟩ | ⟨a, b, c⟩
  · exact ⟨fun _ => b, fun e => by omega, fun e => by omega, fun e => by omega⟩
  · exact ⟨fun e => by omega, fun _ => b, fun e => by omega, fun e => by omega⟩
  · exact ⟨fun e => by omega, fun e => by omega, fun _ => b, fun e => by omega⟩
  · exact ⟨fun e => by omega, fun e => by omega, fun e => by omega, fun e => by omega⟩
  · exact ⟨fun e => by omega, fun e => by omega, fun e => by omega, fun _ => ⟨b, c⟩⟩
theorem dir_lt {P : Nat → Nat → Int32} {nt nm m j : Nat} (h : dirP P nt nm m j) : j < nm := by
  obtain ⟨o, -, w⟩ := h
  exact ((LG_lt w).2.2.2 rfl).2
theorem if_b2 {α : Type} (b : Bool) (K : Int32 → α) : (if b2 b = 0 then K 0 else K 1) = K (b2 b) := by
  cases b
  · rw [if_pos (show b2 false = 0 from rfl)]; rfl
  · rw [if_neg (show ¬ b2 true = 0 by decide)]; rfl
theorem q_made {σ τ : SS} {nt nm no : Nat} (hI : Inv σ τ nt nm no) (v1 v2 : Int32) : ∃ r σ' τ', p_X7_made_0 v1 v2 σ = some (r, σ') ∧ p_X8_made_0 v1 v2 τ = some (r, τ') ∧ Inv σ' τ' nt nm no := by
  have h16 := hI.1.1.1.1
  have hT := (Inv1_C hI.1).1
  unfold p_X7_made_0 p_X8_made_0
  rcases m_isType hI.1.1.1 v1 with ⟨t, ht, hv1, e1⟩ | ⟨hn, e1⟩
  · rw [oc_s ((k_knowsT hT h16 v1).1 ⟨t, ht, hv1⟩), oc_s e1, if_neg n10, if_neg n10]
    obtain ⟨k1, k2⟩ := rng (n := 1) (c := 1) rfl (by decide) v2 (p_X7_made_23 σ) (oc (p_X3_refresh_0 σ) (fun r_30 => if v2 = 0 then oc (p_X3_madeClasses_0 r_30) (fun r_41 => p_X7_made_54 v1 r_41 r_30) else oc (p_X3_begunTypes_0 r_30) (fun r_51 => p_X7_made_54 v1 r_51 r_30)))
    by_cases hv : ∃ k, k < 2 ∧ v2 = nI k
    · rw [k1 hv]
      obtain ⟨σ', τ', q1, q2, q3, q4, q5, q6⟩ := i_both hI
      rw [oc_s q1, oc_s q2]
      obtain ⟨k, hk, e⟩ := hv
      have h54 : ∀ x : Int64, p_X7_made_54 v1 x σ' = some (b2 (lb x t), σ') := fun x => by
        unfold p_X7_made_54
        rw [hv1, oc_s (p_has (show t < 64 by omega))]
        exact if_b2 (lb x t) (fun z => some (z, σ'))
      rcases (show k = 0 ∨ k = 1 by omega) with rfl | rfl
      · rw [if_pos (show v2 = 0 from e), if_pos (show v2 = 0 from e)]
        refine ⟨_, σ', τ', h54 _, ?_, q3⟩
        rw [hv1, oi_n (show t < 16 by omega) (by decide), nI_clamp (show t < 2 ^ 31 by omega), gM_m q5 (show t < 16 by omega), gC_m q4]
        exact if_b2 _ (fun z => some (z, τ'))
      · rw [if_neg (by rw [e]; decide), if_neg (by rw [e]; decide), if_pos (show v2 = 1 from e)]
        refine ⟨_, σ', τ', h54 _, ?_, q3⟩
        rw [hv1, oi_n (show t < 16 by omega) (by decide), nI_clamp (show t < 2 ^ 31 by omega), gM_b q5 (show t < 16 by omega), gC_b q4]
        exact if_b2 _ (fun z => some (z, τ'))
    · rw [k2 hv]
      obtain ⟨τ', q2, q3, -, -⟩ := i_freshen hI
      rw [oc_s q2, if_neg (show ¬ v2 = 0 from fun e => hv ⟨0, by decide, e⟩), if_neg (show ¬ v2 = 1 from fun e => hv ⟨1, by decide, e⟩)]
      exact ⟨-102, σ, τ', rfl, rfl, q3⟩
  · rw [oc_s ((k_knowsT hT h16 v1).2 hn), oc_s e1, if_pos rfl, if_pos rfl]
    exact ⟨-101, σ, τ, rfl, rfl, hI⟩
