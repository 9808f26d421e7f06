/-! pure: op, root: both sides alike -/
def opT (τ : SS) (m c no : Nat) (k a b : Int32) : SS := sI (sI (sI (sI (sI (sI (sI τ 11 no k) 12 no a) 13 no b) 10 (24 * m + c) (nI no)) 0 12 (nI (no + 1))) 9 m (nI (c + 1))) 0 16 0
def opC (σ : SS) (m c no : Nat) (k a b : Int32) : SS := sI (sI (sI (sI (sI (sI (sI σ 5 12 0) 19 no k) 20 no a) 21 no b) 23 (m * 24 + c) (nI no)) 4 5 (nI (no + 1))) 22 m (nI (c + 1))
theorem m_op134 {τ : SS} {m c no : Nat} (hm : m < 48) (hc : c < 24) (hno : no < 160) (h9 : τ.1 9 m = nI c) (h12 : τ.1 0 12 = nI no) (k a b : Int32) : p_X8_op_134 (nI m) b (nI no) (sI (sI τ 11 no k) 12 no a) = some (nI c, opT τ m c no k a b) := by
  rw [p_X8_op_134, oi_n hno (by decide), nI_clamp (show no < 2 ^ 31 by omega), os_s, oi_n hm (by decide), nI_clamp (show m < 2 ^ 31 by omega)]
  rw [show (sI (sI (sI τ 11 no k) 12 no a) 13 no b).1 9 m = nI c from h9, c24, oi_n (show 24 * m + c < 1152 by omega) (by decide), nI_clamp (show 24 * m + c < 2 ^ 31 by omega)]
  rw [show (sI (sI (sI τ 11 no k) 12 no a) 13 no b).1 0 12 = nI no from h12, os_s]
  rw [show (sI (sI (sI (sI τ 11 no k) 12 no a) 13 no b) 10 (24 * m + c) (nI no)).1 0 12 = nI no from h12, nI_1, os_s, oi_n hm (by decide), oi_n hm (by decide)]
  rw [show (sI (sI (sI (sI (sI τ 11 no k) 12 no a) 13 no b) 10 (24 * m + c) (nI no)) 0 12 (nI (no + 1))).1 9 m = nI c from h9, nI_1, os_s, os_s, oi_n hm (by decide)]
  show some ((upd (τ.1 9) m (nI (c + 1))) m - 1, opT τ m c no k a b) = _
  rw [upd_at, nI_pred]
theorem k_op110 {σ : SS} {m c no : Nat} (hm : m < 48) (hc : c < 24) (hno : no < 160) (h22 : σ.1 22 m = nI c) (h4 : σ.1 4 5 = nI no) (k a b : Int32) : p_X7_op_110 b a k (nI m) (sI σ 5 12 0) = some (nI c, opC σ m c no k a b) := by
  rw [p_X7_op_110, oc_s (a := (nI c, opC σ m c no k a b))]
  rw [p_X5_add_0, oi_n hm (by decide), nI_clamp (show m < 2 ^ 31 by omega)]
  rw [show (sI σ 5 12 0).1 4 5 = nI no from h4, show (sI σ 5 12 0).1 22 m = nI c from h22, oi_n hno (by decide), nI_clamp (show no < 2 ^ 31 by omega), os_s]
  rw [show (sI (sI σ 5 12 0) 19 no k).1 4 5 = nI no from h4, oi_n hno (by decide), nI_clamp (show no < 2 ^ 31 by omega), os_s]
  rw [show (sI (sI (sI σ 5 12 0) 19 no k) 20 no a).1 4 5 = nI no from h4, oi_n hno (by decide), nI_clamp (show no < 2 ^ 31 by omega), os_s]
  rw [show (sI (sI (sI (sI σ 5 12 0) 19 no k) 20 no a) 21 no b).1 4 5 = nI no from h4, c24', oi_n (show m * 24 + c < 1152 by omega) (by decide), nI_clamp (show m * 24 + c < 2 ^ 31 by omega), os_s]
  rw [show (sI (sI (sI (sI (sI σ 5 12 0) 19 no k) 20 no a) 21 no b) 23 (m * 24 + c) (nI no)).1 4 5 = nI no from h4, nI_1, os_s, oi_n hm (by decide), oi_n hm (by decide)]
  rw [show (sI (sI (sI (sI (sI (sI σ 5 12 0) 19 no k) 20 no a) 21 no b) 23 (m * 24 + c) (nI no)) 4 5 (nI (no + 1))).1 22 m = nI c from h22, nI_1, os_s]
  rfl
theorem op_Inv {σ τ : SS} {nt nm no m c : Nat} (hI : Inv1 σ τ nt nm no) (hm : m < nm) (hc24 : c < 24) (hno : no < 160) (h9 : τ.1 9 m = nI c) (h7 : ¬ τ.1 7 m = 1) {k a b : Int32} (hq : opq τ.1 nt nm k a b) : Inv1 (opC σ m c no k a b) (opT τ m c no k a b) nt nm (no + 1) := by
  obtain ⟨⟨hw, hM, hO, ho, hT, hc, hcO, hC⟩, hF, hS⟩ := hI
  have h48 := hM.1
  have p9 : (opT τ m c no k a b).1 9 = upd (τ.1 9) m (nI (c + 1)) := rfl
  have p10 : (opT τ m c no k a b).1 10 = upd (τ.1 10) (24 * m + c) (nI no) := rfl
  have hw' : wfT (opT τ m c no k a b).1 nt := wfT_c hw rfl rfl rfl rfl rfl
  have hM' : wfM (opT τ m c no k a b).1 nt nm := wfM_c hM rfl rfl rfl rfl rfl rfl
  refine ⟨⟨hw', hM', ?_, okU_c ho rfl rfl (und_c rfl rfl rfl), ?_, ?_, ?_, ?_⟩, cF_c hF rfl rfl, ?_⟩
  · refine ⟨by omega, rfl, fun m' hm' => ?_, fun o ho' => ?_⟩
    · rw [p9, p10, show (opT τ m c no k a b).1 7 = τ.1 7 from rfl]
      obtain ⟨c', q1, q2, q3, q4⟩ := hO.2.2.1 m' hm'
      by_cases e : m' = m
      · subst e
        have e1 : c' = c := (nI_eq (by omega) (by omega)).mp (q2.symm.trans h9)
        subst e1
        rw [upd_at]
        refine ⟨c' + 1, by omega, rfl, fun _ => h7, fun i hi => ?_⟩
        by_cases e2 : i = c'
        · subst e2
          exact ⟨no, by omega, upd_at⟩
        · rw [upd_ne (by omega)]
          obtain ⟨o, w1, w2⟩ := q4 i (by omega)
          exact ⟨o, by omega, w2⟩
      · rw [upd_ne e]
        refine ⟨c', q1, q2, q3, fun i hi => ?_⟩
        rw [upd_ne (by omega)]
        obtain ⟨o, w1, w2⟩ := q4 i hi
        exact ⟨o, by omega, w2⟩
    · rw [opq_w]
      show opq τ.1 nt nm (upd (τ.1 11) no k o) (upd (τ.1 12) no a o) (upd (τ.1 13) no b o)
      by_cases e : o = no
      · subst e
        rw [upd_at, upd_at, upd_at]
        exact hq
      · rw [upd_ne e, upd_ne e, upd_ne e]
        exact hO.2.2.2 o (by omega)
  · exact cT_c (σ := σ) (σ' := opC σ m c no k a b) hT rfl rfl rfl rfl rfl rfl
  · exact cM_c (σ := σ) (σ' := opC σ m c no k a b) hc rfl rfl rfl rfl rfl rfl rfl rfl
  · refine ⟨rfl, fun o ho' => ?_, fun m' hm' => ?_, fun m' hm' c' i => ?_, fun m' h1 h2 => ?_⟩
    · show upd (σ.1 19) no k o = upd (τ.1 11) no k o ∧ upd (σ.1 20) no a o = upd (τ.1 12) no a o ∧ upd (σ.1 21) no b o = upd (τ.1 13) no b o
      by_cases e : o = no
      · subst e
        rw [upd_at, upd_at, upd_at, upd_at, upd_at, upd_at]
        exact ⟨rfl, rfl, rfl⟩
      · rw [upd_ne e, upd_ne e, upd_ne e, upd_ne e, upd_ne e, upd_ne e]
        exact hcO.2.1 o (by omega)
    · show upd (σ.1 22) m (nI (c + 1)) m' = upd (τ.1 9) m (nI (c + 1)) m'
      by_cases e : m' = m
      · rw [e, upd_at, upd_at]
      · rw [upd_ne e, upd_ne e]
        exact hcO.2.2.1 m' hm'
    · rw [p9, p10]
      show _ → _ → _ → upd (σ.1 23) (m * 24 + c) (nI no) (m' * 24 + i) = _
      by_cases e : m' = m
      · subst e
        rw [upd_at]
        intro q1 q2 q3
        have e1 : c + 1 = c' := (nI_eq (by omega) (by omega)).mp q1
        by_cases e2 : i = c
        · rw [e2, upd_at, upd_at]
        · rw [upd_ne (by omega), upd_ne (by omega)]
          exact hcO.2.2.2.1 m' hm' c i h9 (by omega) (by omega)
      · rw [upd_ne e]
        intro q1 q2 q3
        rw [upd_ne (by omega), upd_ne (by omega)]
        exact hcO.2.2.2.1 m' hm' c' i q1 q2 q3
    · show upd (σ.1 22) m (nI (c + 1)) m' = 0
      rw [upd_ne (by omega)]
      exact hcO.2.2.2.2 m' h1 h2
  · intro t ht n hn
    obtain ⟨q1, q2⟩ := hC t ht n hn
    exact ⟨q1, q2⟩
  · intro f
    have h := hS f
    show sm f no + f no = _
    rw [p9, p10, h]
    refine (sm_upd (k := m) hm (fun j hj hne => ?_) ?_).symm
    · rw [upd_ne hne]
      obtain ⟨c', q1, q2, -, -⟩ := hO.2.2.1 j hj
      rw [q2, nI_clamp (by omega)]
      exact sm_congr (fun i hi => by rw [upd_ne (by omega)])
    · show sm _ (upd (τ.1 9) m (nI (c + 1)) m).toNatClampNeg = _
      rw [upd_at, h9, nI_clamp (by omega), nI_clamp (by omega)]
      show sm _ c + f (upd (τ.1 10) (24 * m + c) (nI no) (24 * m + c)).toNatClampNeg = _
      rw [upd_at, nI_clamp (show no < 2 ^ 31 by omega)]
      congr 1
      exact sm_congr (fun i hi => by rw [upd_ne (by omega)])
theorem k_sizeOf {σ : SS} {P : Nat → Nat → Int32} {nm no m : Nat} (hc : cO σ P nm no) (h48 : nm ≤ 48) (hm : m < nm) : p_X5_sizeOf_0 σ (nI m) = some (P 9 m) := by
  unfold p_X5_sizeOf_0
  rw [oi_n (show m < 48 by omega) (by decide), nI_clamp (show m < 2 ^ 31 by omega), hc.2.2.1 m hm]
theorem q_op {σ τ : SS} {nt nm no : Nat} (hI : Inv1 σ τ nt nm no) (v1 v2 v3 v4 : Int32) : ∃ r σ' τ' no', p_X7_op_0 v1 v2 v3 v4 σ = some (r, σ') ∧ p_X8_op_0 v1 v2 v3 v4 τ = some (r, τ') ∧ Inv1 σ' τ' nt nm no' ∧ chg σ τ σ' τ' := by
  obtain ⟨⟨hw, hM, hO, ho, hT, hc, hcO, hC⟩, hF, hS⟩ := id hI
  have h16 := hw.1
  have h48 := hM.1
  have h160 := hO.1
  have keep : ∀ r : Int32, some (r, σ) = some (r, σ) ∧ some (r, τ) = some (r, τ) ∧ Inv1 σ τ nt nm no ∧ chg σ τ σ τ := fun r => ⟨rfl, rfl, hI, Or.inl ⟨rfl, rfl⟩⟩
  unfold p_X7_op_0 p_X8_op_0
  rcases m_isMember hM v1 with ⟨m, hm, rfl, e1⟩ | ⟨hn, e1⟩
  · rw [oc_s e1, oc_s ((k_knowsM hc h48 _).1 ⟨m, hm, rfl⟩), if_neg n10, if_neg n10]
    -- once the parts are known
    have go : ((∃ k, k < 5 ∧ v2 = nI k) → ∃ a, a < nt ∧ v3 = nI a) → (v2 = 5 → ∃ b, b < nm ∧ v4 = nI b) → ∃ r σ' τ' no', (oc (p_X7_partsFit_0 σ (nI m) v2 v3 v4) (fun r_31 => if r_31 = 0 then some ((-102), σ) else oc (p_X4_sortOf_0 σ (nI m)) (fun r_45 => if r_45 = 1 then some ((-103), σ) else oc (p_X5_sizeOf_0 σ (nI m)) (fun r_60 => if 24 ≤ r_60 then p_X7_op_81 σ else oc (p_X5_size_0 σ) (fun r_72 => if r_72 < 160 then oc (p_X3_forget_0 σ) (fun r_88 => if v2 = 4 then p_X7_op_110 9 v3 v2 (nI m) r_88 else p_X7_op_110 v4 v3 v2 (nI m) r_88) else p_X7_op_81 σ))))) = some (r, σ') ∧ p_X8_op_42 (nI m) v2 v3 v4 τ = some (r, τ') ∧ Inv1 σ' τ' nt nm no' ∧ chg σ τ σ' τ' := by
      intro ha hb
      obtain ⟨x, q1, q2, q3⟩ := q_fit hI hm v2 v3 v4 ha hb
      unfold p_X8_op_42
      rw [oc_s q1, oc_s q2]
      cases hx : x with
      | false =>
        rw [if_pos (show b2 false = 0 from rfl), if_pos (show b2 false = 0 from rfl)]
        exact ⟨-102, σ, τ, no, keep _⟩
      | true =>
        have hq := q3 hx
        rw [if_neg (show ¬ b2 true = 0 by decide), if_neg (show ¬ b2 true = 0 by decide), oc_s (k_sortOf hc h48 hm), oi_n (show m < 48 by omega) (by decide), nI_clamp (show m < 2 ^ 31 by omega)]
        by_cases h7 : τ.1 7 m = 1
        · rw [if_pos h7, if_pos h7]
          exact ⟨-103, σ, τ, no, keep _⟩
        · obtain ⟨c, w1, w2, -, -⟩ := hO.2.2.1 m hm
          rw [if_neg h7, if_neg h7, oc_s (k_sizeOf hcO h48 hm), oc_s (size_O hcO), hO.2.1, oi_n (show m < 48 by omega) (by decide), w2]
          by_cases hno : no < 160
          · rw [if_neg (show ¬ nI no = 160 from fun q => by have := (nI_eq (b := 160) (by omega) (by omega)).mp q; omega), if_pos (show nI no < 160 from nI_lt (b := 160) hno (by decide))]
            by_cases hc24 : c < 24
            · rw [if_neg (show ¬ (24 : Int32) ≤ nI c from nI_ge (b := 24) hc24 (by decide)), if_neg (show ¬ nI c = 24 from fun q => by have := (nI_eq (b := 24) (by omega) (by omega)).mp q; omega), oc_s (show p_X3_forget_0 σ = some (sI σ 5 12 0) from rfl), oi_n hno (by decide), nI_clamp (show no < 2 ^ 31 by omega), os_s]
              rw [show (sI τ 11 no v2).1 0 12 = nI no from hO.2.1, oi_n hno (by decide), nI_clamp (show no < 2 ^ 31 by omega), os_s]
              rw [show (sI (sI τ 11 no v2) 12 no v3).1 0 12 = nI no from hO.2.1]
              by_cases k4 : v2 = 4
              · rw [if_pos k4, if_pos k4, m_op134 (show m < 48 by omega) hc24 hno w2 hO.2.1, k_op110 (show m < 48 by omega) hc24 hno ((hcO.2.2.1 m hm).trans w2) hcO.1]
                rw [if_pos k4] at hq
                exact ⟨nI c, _, _, no + 1, rfl, rfl, op_Inv hI hm hc24 hno w2 h7 hq, Or.inr ⟨rfl, rfl⟩⟩
              · rw [if_neg k4, if_neg k4, m_op134 (show m < 48 by omega) hc24 hno w2 hO.2.1, k_op110 (show m < 48 by omega) hc24 hno ((hcO.2.2.1 m hm).trans w2) hcO.1]
                rw [if_neg k4] at hq
                exact ⟨nI c, _, _, no + 1, rfl, rfl, op_Inv hI hm hc24 hno w2 h7 hq, Or.inr ⟨rfl, rfl⟩⟩
            · have e : c = 24 := by omega
              rw [if_pos (show (24 : Int32) ≤ nI c by rw [e]; decide), if_pos (show nI c = 24 by rw [e]; decide)]
              exact ⟨-104, σ, τ, no, keep _⟩
          · have e : no = 160 := by omega
            rw [if_pos (show nI no = 160 by rw [e]; decide), if_neg (show ¬ nI no < 160 by rw [e]; decide), ite_self]
            exact ⟨-104, σ, τ, no, keep _⟩
    have h25 : ((∃ k, k < 5 ∧ v2 = nI k) → ∃ a, a < nt ∧ v3 = nI a) → ∃ r σ' τ' no', (oc (p_X7_partsKnown_0 σ v2 v3 v4) (fun r_16 => if r_16 = 0 then p_X7_op_22 σ else oc (p_X7_partsFit_0 σ (nI m) v2 v3 v4) (fun r_31 => if r_31 = 0 then some ((-102), σ) else oc (p_X4_sortOf_0 σ (nI m)) (fun r_45 => if r_45 = 1 then some ((-103), σ) else oc (p_X5_sizeOf_0 σ (nI m)) (fun r_60 => if 24 ≤ r_60 then p_X7_op_81 σ else oc (p_X5_size_0 σ) (fun r_72 => if r_72 < 160 then oc (p_X3_forget_0 σ) (fun r_88 => if v2 = 4 then p_X7_op_110 9 v3 v2 (nI m) r_88 else p_X7_op_110 v4 v3 v2 (nI m) r_88) else p_X7_op_81 σ)))))) = some (r, σ') ∧ p_X8_op_25 (nI m) v2 v3 v4 τ = some (r, τ') ∧ Inv1 σ' τ' nt nm no' ∧ chg σ τ σ' τ' := by
      intro ha
      unfold p_X8_op_25
      by_cases k5 : v2 = 5
      · have hk : p_X7_partsKnown_0 σ v2 v3 v4 = oc (p_X4_knows_0 σ v4) (fun r_54 => ob r_54 (some r_54)) := by
          unfold p_X7_partsKnown_0
          rw [k5]; rfl
        rw [if_pos k5, hk]
        rcases m_isMember hM v4 with ⟨b, hb, h4, e2⟩ | ⟨hn, e2⟩
        · rw [oc_s e2, oc_s ((k_knowsM hc h48 _).1 ⟨b, hb, h4⟩), if_neg n10, ob_ok (Or.inr rfl), oc_s rfl, if_neg n10]
          exact go ha (fun _ => ⟨b, hb, h4⟩)
        · rw [oc_s e2, oc_s ((k_knowsM hc h48 _).2 hn), if_pos rfl, ob_ok (Or.inl rfl), oc_s rfl, if_pos rfl]
          exact ⟨-101, σ, τ, no, keep _⟩
      · rw [if_neg k5]
        have hk : p_X7_partsKnown_0 σ v2 v3 v4 = some 1 := by
          unfold p_X7_partsKnown_0 p_X7_partsKnown_40
          by_cases k0 : ∃ k, k < 5 ∧ v2 = nI k
          · have hkn := (k_knowsT hT h16 v3).1 (ha k0)
            obtain ⟨k, hk, h2⟩ := k0
            rw [oc_s hkn, ob_ok (Or.inr rfl), h2]
            rcases (show k = 0 ∨ k = 1 ∨ k = 2 ∨ k = 3 ∨ k = 4 by omega) with rfl | rfl | rfl | rfl | rfl <;> rfl
          · rw [if_neg (show ¬ v2 = 0 from fun q => k0 ⟨0, by omega, q⟩), if_neg (show ¬ v2 = 1 from fun q => k0 ⟨1, by omega, q⟩), if_neg (show ¬ v2 = 2 from fun q => k0 ⟨2, by omega, q⟩), if_neg (show ¬ v2 = 3 from fun q => k0 ⟨3, by omega, q⟩), if_neg (show ¬ v2 = 4 from fun q => k0 ⟨4, by omega, q⟩), if_neg k5]
        rw [oc_s hk, if_neg n10]
        exact go ha (fun q => absurd q k5)
    rcases m_in4 v2 with ⟨k, hk, h2, e2⟩ | ⟨hn, e2⟩
    · rw [oc_s e2, if_neg n10]
      rcases m_isType hw v3 with ⟨a, han, h3, e3⟩ | ⟨hn, e3⟩
      · rw [oc_s e3, if_neg n10]
        exact h25 (fun _ => ⟨a, han, h3⟩)
      · have hk : p_X7_partsKnown_0 σ v2 v3 v4 = some 0 := by
          unfold p_X7_partsKnown_0 p_X7_partsKnown_40
          rw [oc_s ((k_knowsT hT h16 v3).2 hn), ob_ok (Or.inl rfl), h2]
          rcases (show k = 0 ∨ k = 1 ∨ k = 2 ∨ k = 3 ∨ k = 4 by omega) with rfl | rfl | rfl | rfl | rfl <;> rfl
        rw [oc_s e3, if_pos rfl, oc_s hk, if_pos rfl]
        exact ⟨-101, σ, τ, no, keep _⟩
    · rw [oc_s e2, if_pos rfl]
      exact h25 (fun q => absurd q hn)
  · rw [oc_s e1, oc_s ((k_knowsM hc h48 _).2 hn), if_pos rfl, if_pos rfl]
    exact ⟨-101, σ, τ, no, keep _⟩
/-- root: the class leaves all as it is when nothing turns -/
def rtT (τ : SS) (m : Nat) (v : Int32) : SS := sI (sI τ 8 m v) 0 16 0
theorem q_root {σ τ : SS} {nt nm no : Nat} (hI : Inv1 σ τ nt nm no) (v1 v2 : Int32) (h01 : v2 = 0 ∨ v2 = 1) : ∃ r σ' τ', p_X7_root_0 v1 v2 σ = some (r, σ') ∧ p_X8_root_0 v1 v2 τ = some (r, τ') ∧ Inv1 σ' τ' nt nm no ∧ (chg σ τ σ' τ' ∨ (σ' = σ ∧ τ'.1 0 16 = 0 ∧ ∀ c, c ≠ 0 → τ'.1 c = τ.1 c)) := by
  obtain ⟨⟨hw, hM, hO, ho, hT, hc, hcO, hC⟩, hF, hS⟩ := id hI
  have h16 := hw.1
  have h48 := hM.1
  have keep : ∀ r : Int32, some (r, σ) = some (r, σ) ∧ some (r, τ) = some (r, τ) ∧ Inv1 σ τ nt nm no ∧ (chg σ τ σ τ ∨ (σ = σ ∧ τ.1 0 16 = 0 ∧ ∀ c, c ≠ 0 → τ.1 c = τ.1 c)) := fun r => ⟨rfl, rfl, hI, Or.inl (Or.inl ⟨rfl, rfl⟩)⟩
  unfold p_X7_root_0 p_X8_root_0
  rcases m_isMember hM v1 with ⟨m, hm, rfl, e1⟩ | ⟨hn, e1⟩
  · rw [oc_s e1, oc_s ((k_knowsM hc h48 _).1 ⟨m, hm, rfl⟩), if_neg n10, if_neg n10, oc_s (k_sortOf hc h48 hm), oi_n (show m < 48 by omega) (by decide), oi_n (show m < 48 by omega) (by decide), oi_n (show m < 48 by omega) (by decide), oi_n (show m < 48 by omega) (by decide), nI_clamp (show m < 2 ^ 31 by omega), ob_ok h01]
    by_cases h1 : τ.1 7 m = 1
    · rw [if_pos h1, if_pos h1]
      exact ⟨-102, σ, τ, keep _⟩
    · rw [if_neg h1, if_neg h1]
      by_cases h4 : τ.1 7 m = 4
      · rw [if_pos h4, if_pos h4]
        exact ⟨-102, σ, τ, keep _⟩
      · rw [if_neg h4, if_neg h4, os_s, os_s]
        have h8 := (hM.2.2.1 m hm).2.2
        have hb : lb (σ.2 2 9) m = pb (τ.1 8 m = 1) := by
          have q := hc.2.2.2.2.2.2.2.2 m (by omega)
          cases hx : lb (σ.2 2 9) m with
          | true => exact (pb_t.mpr (q.mp hx).2).symm
          | false => exact (pb_f.mpr (fun w => by have := q.mpr ⟨hm, w⟩; rw [hx] at this; cases this)).symm
        have hr : p_X4_isRoot_0 σ (nI m) = some (τ.1 8 m) := by
          unfold p_X4_isRoot_0
          rw [oc_s (p_has (show m < 64 by omega)), ob_ok (b2_01 _), hb]
          rcases h8 with h8 | h8
          · rw [h8, pb_f.mpr (by decide)]; rfl
          · rw [h8, pb_t.mpr rfl]; rfl
        rw [oc_s hr]
        have hT' : ∀ s : SS, s.1 0 0 = τ.1 0 0 → True := fun _ _ => trivial
        by_cases e : τ.1 8 m = v2
        · rw [if_pos e, if_pos e]
          have hcell : ∀ c, c ≠ 0 → (rtT τ m v2).1 c = τ.1 c := by
            intro c hc0
            unfold rtT
            rw [sI_p, pI_ne _ _ hc0, sI_p]
            by_cases q : c = 8
            · subst q
              rw [pI_at]
              funext j
              unfold upd
              by_cases q2 : j = m
              · rw [if_pos q2, q2, e]
              · rw [if_neg q2]
            · rw [pI_ne _ _ q]
          refine ⟨0, σ, rtT τ m v2, rfl, rfl, ?_, Or.inr ⟨rfl, rfl, hcell⟩⟩
          have c0 : ∀ j, j ≠ 16 → (rtT τ m v2).1 0 j = τ.1 0 j := fun j hj => by
            unfold rtT
            rw [sI_p, pI_at, sI_p, pI_ne _ _ (by decide : (0 : Nat) ≠ 8)]
            exact upd_ne hj
          generalize rtT τ m v2 = τ' at hcell c0 ⊢
          refine ⟨⟨wfT_c hw (c0 0 (by decide)) (hcell 1 (by decide)) (hcell 2 (by decide)) (hcell 3 (by decide)) (hcell 4 (by decide)), wfM_c hM (c0 5 (by decide)) (hcell 1 (by decide)) (hcell 5 (by decide)) (hcell 6 (by decide)) (hcell 7 (by decide)) (hcell 8 (by decide)), wfO_up hO (Nat.le_refl _) (c0 12 (by decide)) (fun t _ => by rw [hcell 1 (by decide)]) (hcell 7 (by decide)) (hcell 9 (by decide)) (hcell 10 (by decide)) (hcell 11 (by decide)) (hcell 12 (by decide)) (hcell 13 (by decide)), okU_c ho (c0 26 (by decide)) (hcell 21 (by decide)) (und_c (hcell 2 (by decide)) (hcell 3 (by decide)) (hcell 4 (by decide))), ?_, cM_P hc (hcell 5 (by decide)) (hcell 6 (by decide)) (hcell 7 (by decide)) (hcell 8 (by decide)), cO_P hcO (hcell 9 (by decide)) (hcell 10 (by decide)) (hcell 11 (by decide)) (hcell 12 (by decide)) (hcell 13 (by decide)), ?_⟩, cF_c hF (hcell 3 (by decide)) (hcell 4 (by decide)), wfS_c hS (hcell 9 (by decide)) (hcell 10 (by decide))⟩
          · unfold cT fce abv at hT ⊢
            rw [nxt_c (hcell 2 (by decide)) (hcell 3 (by decide)) (hcell 4 (by decide)), hcell 1 (by decide), hcell 2 (by decide), hcell 3 (by decide), hcell 4 (by decide)]
            exact hT
          · have hu : und τ'.1 = und τ.1 := und_c (hcell 2 (by decide)) (hcell 3 (by decide)) (hcell 4 (by decide))
            intro t ht n hn
            obtain ⟨q1, q2⟩ := hC t ht n hn
            refine ⟨?_, isP_c q2 hu.symm (fun c h0 _ => (hcell c h0).symm)⟩
            have hlf : lfB τ'.1 = lfB τ.1 := by
              funext nt nm t name m
              unfold lfB
              rw [lft_c hu (fun c h0 _ => hcell c h0)]
            unfold isF at q1 ⊢
            rw [isC_c (fun c h0 _ => hcell c h0), lpB_c hu (fun c h0 _ => hcell c h0), hlf]
            exact q1
        · rw [if_neg e, if_neg e, oc_s (show p_X3_forget_0 σ = some (sI σ 5 12 0) from rfl)]
          rw [oc_s (show p_X4_turnRoot_0 (nI m) (sI σ 5 12 0) = some (sL (sI σ 5 12 0) 2 9 (σ.2 2 9 ^^^ jshl 1 (nI m))) from rfl)]
          refine ⟨1, _, rtT τ m v2, rfl, rfl, ?_, Or.inl (Or.inr ⟨rfl, rfl⟩)⟩
          refine ⟨⟨wfT_c hw rfl rfl rfl rfl rfl, ?_, wfO_up hO (Nat.le_refl _) rfl (fun t _ => rfl) rfl rfl rfl rfl rfl rfl, okU_c ho rfl rfl (und_c rfl rfl rfl), cT_c hT rfl rfl rfl rfl rfl rfl, ?_, cO_c hcO rfl rfl rfl rfl rfl rfl, ?_⟩, cF_c hF rfl rfl, wfS_c hS rfl rfl⟩
          · obtain ⟨a1, a2, a3, a4⟩ := hM
            refine ⟨a1, a2, fun m' hm' => ?_, a4⟩
            obtain ⟨b1, b2', b3⟩ := a3 m' hm'
            refine ⟨b1, b2', ?_⟩
            show upd (τ.1 8) m v2 m' = 0 ∨ upd (τ.1 8) m v2 m' = 1
            by_cases q : m' = m
            · rw [q, upd_at]; exact h01
            · rw [upd_ne q]; exact b3
          · obtain ⟨c1, c2, c3, c4, c5, c6, c7, c8, c9⟩ := hc
            refine ⟨c1, c2, c3, c4, c5, c6, c7, c8, fun m' hm' => ?_⟩
            show lb (σ.2 2 9 ^^^ jshl 1 (nI m)) m' = true ↔ m' < nm ∧ upd (τ.1 8) m v2 m' = 1
            rw [lb_xor, lb_tp (show m < 64 by omega)]
            by_cases q : m' = m
            · subst q
              rw [upd_at, decide_eq_true rfl, hb]
              rcases h8 with h8 | h8 <;> rcases h01 with h | h
              · exact absurd (h8.trans h.symm) e
              · rw [pb_f.mpr (by rw [h8]; decide), h]
                exact ⟨fun _ => ⟨hm, rfl⟩, fun _ => rfl⟩
              · rw [pb_t.mpr h8, h]
                exact ⟨fun q => (by cases q), fun q => absurd q.2 (by decide)⟩
              · exact absurd (h8.trans h.symm) e
            · rw [upd_ne q, decide_eq_false q, Bool.xor_false]
              exact c9 m' hm'
          · intro t ht n hn
            exact hC t ht n hn
  · rw [oc_s e1, oc_s ((k_knowsM hc h48 _).2 hn), if_pos rfl, if_pos rfl]
    exact ⟨-101, σ, τ, keep _⟩
