/-! pure: every script -/
theorem Inv_0 : Inv s0C s0M 0 0 0 := by
  have hab : ∀ t u, ¬ abv s0M.1 t u → True := fun _ _ _ => trivial
  refine ⟨⟨⟨⟨by decide, rfl, fun t ht => by omega⟩, ⟨by decide, rfl, fun m hm => by omega, fun m m' hm => by omega⟩, ⟨by decide, rfl, fun m hm => by omega, fun o ho => by omega⟩, Or.inl rfl, ⟨rfl, fun t ht => by omega, fun t ht => by omega, fun t _ _ => rfl, fun u _ => ⟨fun w => (no_lb (k := u) w).elim, fun w => by omega⟩, fun t ht => by omega⟩, ⟨rfl, fun m hm => by omega, fun t ht n hn => Or.inl ⟨?_, fun m hm => by omega⟩, fun t ht => Or.inl ⟨?_, fun m hm => by omega⟩, fun n _ m _ => ⟨fun w => (no_lb (k := m) w).elim, fun w => by omega⟩, fun n _ t _ => ⟨fun w => (no_lb (k := t) w).elim, fun ⟨m, w, _⟩ => by omega⟩, fun m _ => ⟨fun w => (no_lb (k := m) w).elim, fun w => by omega⟩, fun t _ => ⟨fun w => (no_lb (k := t) w).elim, fun ⟨m, w, _⟩ => by omega⟩, fun m _ => ⟨fun w => (no_lb (k := m) w).elim, fun w => by omega⟩⟩, ⟨rfl, fun o ho => by omega, fun m hm => by omega, fun m hm => by omega, fun m _ _ => rfl⟩, fun t ht => by omega⟩, fun t ht => by omega, fun f => rfl⟩, Or.inl rfl, Or.inl rfl⟩
  · show (if t * 10 + n < 160 then (-1 : Int32) else 0) = -1
    rw [if_pos (by omega)]
  · show (if t < 16 then (-1 : Int32) else 0) = -1
    rw [if_pos ht]
theorem Inv_chg {σ τ σ' τ' : SS} {nt nm no nt' nm' no' : Nat} (h : Inv σ τ nt nm no) (h1 : Inv1 σ' τ' nt' nm' no') (hc : chg σ τ σ' τ') : ∃ a b c, Inv σ' τ' a b c := by
  rcases hc with ⟨rfl, rfl⟩ | ⟨e1, e2⟩
  · exact ⟨nt, nm, no, h⟩
  · exact ⟨nt', nm', no', h1, Or.inl e1, Or.inl e2⟩
theorem kp_gM {τ τ' : SS} {P : Nat → Nat → Int32} {nt nm : Nat} (h : kp sV τ τ') (hg : gM τ P nt nm) : gM τ' P nt nm := by
  have hc : ∀ c, c ≠ 0 → c < 20 → τ'.1 c = τ.1 c := fun c h0 h1 => h.2.1 c h0 (fun q => by
    have : ∀ x ∈ sV, 20 ≤ x := by decide
    have := this c q
    omega)
  refine ⟨(SM_same (fun q hq => hc (14 + q) (by omega) (by omega))).trans hg.1, fun q hq => by rw [hc (14 + q) (by omega) (by omega)]; exact hg.2.1 q hq, ?_, ?_, ?_⟩
  · unfold FM
    rw [hc 19 (by decide) (by decide)]
    exact hg.2.2.1
  · rw [h.2.1 26 (by decide) (by decide)]; exact hg.2.2.2.1
  · rw [h.2.1 25 (by decide) (by decide)]; exact hg.2.2.2.2
theorem Inv_kp {σ τ τ' : SS} {nt nm no : Nat} (h : Inv σ τ nt nm no) (hk : kp sV τ τ') (ho : okU τ'.1 nt) : Inv σ τ' nt nm no := by
  have hs : same τ τ' := ⟨fun c h0 h1 => kp_c hk sV14 h0 h1, hk.2.2 0 (by decide), hk.2.2 5 (by decide), hk.2.2 12 (by decide)⟩
  refine ⟨Inv1_same h.1 hs ho, h.2.1.elim Or.inl (fun w => Or.inr ⟨w.1, gC_ag w.2 hs.1⟩), ?_⟩
  rw [hk.2.2 16 (by decide)]
  exact h.2.2.elim Or.inl (fun w => Or.inr ⟨w.1, gM_ag (kp_gM hk w.2) hs.1⟩)
theorem nIk (k i : Nat) : nI k + nI i = nI (k + i) := nI_add k i
theorem cmpL {L k : Nat} (hL : L ≤ 2560) (hk : k ≤ 2570) : (Int32.ofNat L - 5 < nI k) ↔ L < k + 5 := by
  show (nI L - 5 < nI k) ↔ _
  by_cases h : 5 ≤ L
  · have e : nI L - 5 = nI (L - 5) := by
      have : nI L = nI (L - 5) + nI 5 := by rw [nI_add]; congr 1; omega
      rw [this, show (5 : Int32) = nI 5 from rfl, Int32.add_sub_cancel]
    rw [e, nI_ltI (by omega) (by omega)]
    omega
  · have key : ∀ L, L < 5 → nI L - 5 < 0 := by decide +kernel
    refine ⟨fun _ => by omega, fun _ => ?_⟩
    exact Int32.lt_of_lt_of_le (key L (by omega)) (nI_pos' (by omega))
theorem law_loop (xs : Nat → Int32) {L : Nat} (hL : L ≤ 2560) : ∀ (fuel k : Nat) (σ τ : SS) (nt nm no : Nat), k ≤ 2565 → L < k + 5 * (fuel + 1) → Inv σ τ nt nm no → p_L_18 xs L (fuel + 1) (nI k) σ τ = some 1 := by
  intro fuel
  induction fuel with
  | zero =>
    intro k σ τ nt nm no hk hf hI
    rw [p_L_18]
    try dsimp only
    rw [if_pos ((cmpL hL (by omega)).mpr (by omega))]
  | succ fuel ih =>
    intro k σ τ nt nm no hk hf hI
    rw [p_L_18]
    try dsimp only
    by_cases hend : L < k + 5
    · rw [if_pos ((cmpL hL (by omega)).mpr hend)]
    · rw [if_neg (fun q => hend ((cmpL hL (by omega)).mp q)), oi_n (show k < L by omega) (by omega), nI_clamp (show k < 2 ^ 31 by omega)]
      have nx : ∀ σ' τ', (∃ a b c, Inv σ' τ' a b c) → p_L_793 xs L (p_L_18 xs L (fuel + 1)) (nI k) σ' τ' = some 1 := by
        rintro σ' τ' ⟨a, b, c, h⟩
        unfold p_L_793
        rw [show (5 : Int32) = nI 5 from rfl, nI_add]
        exact ih (k + 5) σ' τ' a b c (by omega) (by omega) h
      have e1 : nI k + 1 = nI (k + 1) := nI_1 k
      have e2 : nI k + 2 = nI (k + 2) := nI_add k 2
      have e3 : nI k + 3 = nI (k + 3) := nI_add k 3
      have e4 : nI k + 4 = nI (k + 4) := nI_add k 4
      have o1 : ∀ {α : Type} {x : Option α}, oi (nI (k + 1)) L x = x := fun {_} {_} => oi_n (by omega) (by omega)
      have o2 : ∀ {α : Type} {x : Option α}, oi (nI (k + 2)) L x = x := fun {_} {_} => oi_n (by omega) (by omega)
      have o3 : ∀ {α : Type} {x : Option α}, oi (nI (k + 3)) L x = x := fun {_} {_} => oi_n (by omega) (by omega)
      have o4 : ∀ {α : Type} {x : Option α}, oi (nI (k + 4)) L x = x := fun {_} {_} => oi_n (by omega) (by omega)
      by_cases q0 : ((xs k) &&& 31) = 0
      · rw [if_pos q0]
        unfold p_L_116
        obtain ⟨r, σ', τ', nt', z1, z2, z3, z4⟩ := q_type hI.1 (xs (nI (k + 1)).toNatClampNeg) (xs (nI (k + 2)).toNatClampNeg)
        rw [e1, e2, o1, o2, oc_s z1, o1, o2, oc_s z2, if_pos rfl]
        exact nx _ _ (Inv_chg hI z3 z4)
      rw [if_neg q0]
      by_cases q1 : ((xs k) &&& 31) = 1
      · rw [if_pos q1]
        unfold p_L_149
        obtain ⟨r, σ', τ', z1, z2, z3, z4⟩ := q_face hI.1 (xs (nI (k + 1)).toNatClampNeg) (xs (nI (k + 2)).toNatClampNeg)
        rw [e1, e2, o1, o2, oc_s z1, o1, o2, oc_s z2, if_pos rfl]
        exact nx _ _ (Inv_chg hI z3 z4)
      rw [if_neg q1]
      by_cases q2 : ((xs k) &&& 31) = 2
      · rw [if_pos q2]
        unfold p_L_182
        obtain ⟨r, σ', τ', nm', z1, z2, z3, z4⟩ := q_member hI.1 (xs (nI (k + 1)).toNatClampNeg) (xs (nI (k + 2)).toNatClampNeg) (xs (nI (k + 3)).toNatClampNeg)
        rw [e1, e2, e3, o1, o2, o3, oc_s z1, o1, o2, o3, oc_s z2, if_pos rfl]
        exact nx _ _ (Inv_chg hI z3 z4)
      rw [if_neg q2]
      by_cases q3 : ((xs k) &&& 31) = 3
      · rw [if_pos q3]
        unfold p_L_225
        obtain ⟨r, σ', τ', no', z1, z2, z3, z4⟩ := q_op hI.1 (xs (nI (k + 1)).toNatClampNeg) (xs (nI (k + 2)).toNatClampNeg) (xs (nI (k + 3)).toNatClampNeg) (xs (nI (k + 4)).toNatClampNeg)
        rw [e1, e2, e3, e4, o1, o2, o3, o4, oc_s z1, o1, o2, o3, o4, oc_s z2, if_pos rfl]
        exact nx _ _ (Inv_chg hI z3 z4)
      rw [if_neg q3]
      by_cases q4 : ((xs k) &&& 31) = 4
      · rw [if_pos q4]
        unfold p_L_278
        have go : ∀ b : Int32, (b = 0 ∨ b = 1) → ∃ r σ' τ', p_X7_root_0 (xs (nI (k + 1)).toNatClampNeg) b σ = some (r, σ') ∧ p_X8_root_0 (xs (nI (k + 1)).toNatClampNeg) b τ = some (r, τ') ∧ ∃ x y z, Inv σ' τ' x y z := by
          intro b hb
          obtain ⟨r, σ', τ', z1, z2, z3, z4⟩ := q_root hI.1 (xs (nI (k + 1)).toNatClampNeg) b hb
          refine ⟨r, σ', τ', z1, z2, ?_⟩
          rcases z4 with z4 | ⟨y1, y2, y3⟩
          · exact Inv_chg hI z3 z4
          · subst y1
            exact ⟨nt, nm, no, z3, hI.2.1.elim Or.inl (fun w => Or.inr ⟨w.1, gC_ag w.2 (fun c h0 _ => y3 c h0)⟩), Or.inl y2⟩
        rw [e1, e2, o1, o2]
        by_cases hb : (xs (nI (k + 2)).toNatClampNeg) = 0
        · rw [if_pos hb]
          unfold p_L_297 p_L_319
          obtain ⟨r, σ', τ', z1, z2, z3⟩ := go 0 (Or.inl rfl)
          rw [oc_s z1, e1, e2, o1, o2, if_pos hb, oc_s z2, if_pos rfl]
          exact nx _ _ z3
        · rw [if_neg hb]
          unfold p_L_297 p_L_319
          obtain ⟨r, σ', τ', z1, z2, z3⟩ := go 1 (Or.inr rfl)
          rw [oc_s z1, e1, e2, o1, o2, if_neg hb, oc_s z2, if_pos rfl]
          exact nx _ _ z3
      rw [if_neg q4]
      by_cases q5 : ((xs k) &&& 31) = 5
      · rw [if_pos q5]
        unfold p_L_327
        obtain ⟨r, σ', τ', z1, z2, z3⟩ := q_count hI (xs (nI (k + 1)).toNatClampNeg)
        rw [e1, o1, oc_s z1, o1, oc_s z2, if_pos rfl]
        exact nx _ _ ⟨nt, nm, no, z3⟩
      rw [if_neg q5]
      by_cases q6 : ((xs k) &&& 31) = 6
      · rw [if_pos q6]
        unfold p_L_350
        obtain ⟨r, τ', z1, z2, z3, z4⟩ := q_under hI.1.1.1 hI.1.1.2.2.2.1 hI.1.1.2.2.2.2.1 (xs (nI (k + 1)).toNatClampNeg) (xs (nI (k + 2)).toNatClampNeg)
        rw [e1, e2, o1, o2, oc_s z1, o1, o2, oc_s z2, if_pos rfl]
        exact nx _ _ ⟨nt, nm, no, Inv_kp hI z3 z4⟩
      rw [if_neg q6]
      by_cases q7 : ((xs k) &&& 31) = 7
      · rw [if_pos q7]
        unfold p_L_383
        obtain ⟨r, τ', z1, z2, z3, z4⟩ := q_found hI.1.1.1 hI.1.1.2.1 hI.1.1.2.2.2.1 hI.1.1.2.2.2.2.1 (Inv1_C hI.1).2.2.2 (xs (nI (k + 1)).toNatClampNeg) (xs (nI (k + 2)).toNatClampNeg)
        rw [e1, e2, o1, o2, oc_s z1, o1, o2, oc_s z2, if_pos rfl]
        exact nx _ _ ⟨nt, nm, no, Inv_kp hI z3 z4⟩
      rw [if_neg q7]
      by_cases q8 : ((xs k) &&& 31) = 8
      · rw [if_pos q8]
        unfold p_L_416
        obtain ⟨r, τ', z1, z2, z3, z4⟩ := q_chosen hI.1.1.1 hI.1.1.2.1 hI.1.1.2.2.2.1 hI.1.1.2.2.2.2.1 (Inv1_C hI.1).2.1 (Inv1_C hI.1).2.2.2 (xs (nI (k + 1)).toNatClampNeg) (xs (nI (k + 2)).toNatClampNeg) (xs (nI (k + 3)).toNatClampNeg)
        rw [e1, e2, e3, o1, o2, o3, oc_s z1, o1, o2, o3, oc_s z2, if_pos rfl]
        exact nx _ _ ⟨nt, nm, no, Inv_kp hI z3 z4⟩
      rw [if_neg q8]
      by_cases q9 : ((xs k) &&& 31) = 9
      · rw [if_pos q9]
        unfold p_L_459
        obtain ⟨r, σ', τ', z1, z2, z3⟩ := q_about hI (xs (nI (k + 1)).toNatClampNeg) (xs (nI (k + 2)).toNatClampNeg)
        rw [e1, e2, o1, o2, oc_s z1, o1, o2, oc_s z2, if_pos rfl]
        exact nx _ _ ⟨nt, nm, no, z3⟩
      rw [if_neg q9]
      by_cases q10 : ((xs k) &&& 31) = 10
      · rw [if_pos q10]
        unfold p_L_492
        obtain ⟨r, σ', τ', z1, z2, z3⟩ := q_made hI (xs (nI (k + 1)).toNatClampNeg) (xs (nI (k + 2)).toNatClampNeg)
        rw [e1, e2, o1, o2, oc_s z1, o1, o2, oc_s z2, if_pos rfl]
        exact nx _ _ ⟨nt, nm, no, z3⟩
      rw [if_neg q10]
      by_cases q11 : ((xs k) &&& 31) = 11
      · rw [if_pos q11]
        unfold p_L_525
        obtain ⟨r, σ', τ', z1, z2, z3⟩ := q_callee hI (xs (nI (k + 1)).toNatClampNeg) (xs (nI (k + 2)).toNatClampNeg) (xs (nI (k + 3)).toNatClampNeg)
        rw [e1, e2, e3, o1, o2, o3, oc_s z1, o1, o2, o3, oc_s z2, if_pos rfl]
        exact nx _ _ ⟨nt, nm, no, z3⟩
      rw [if_neg q11]
      by_cases q12 : ((xs k) &&& 31) = 12
      · rw [if_pos q12]
        unfold p_L_568
        obtain ⟨r, σ', τ', z1, z2, z3⟩ := q_faults hI (xs (nI (k + 1)).toNatClampNeg) (xs (nI (k + 2)).toNatClampNeg) (xs (nI (k + 3)).toNatClampNeg)
        rw [e1, e2, e3, o1, o2, o3, oc_s z1, o1, o2, o3, oc_s z2, if_pos rfl]
        exact nx _ _ ⟨nt, nm, no, z3⟩
      rw [if_neg q12]
      by_cases q13 : ((xs k) &&& 31) = 13
      · rw [if_pos q13]
        unfold p_L_611
        obtain ⟨r, σ', τ', z1, z2, z3⟩ := q_caller hI (xs (nI (k + 1)).toNatClampNeg) (xs (nI (k + 2)).toNatClampNeg)
        rw [e1, e2, o1, o2, oc_s z1, o1, o2, oc_s z2, if_pos rfl]
        exact nx _ _ ⟨nt, nm, no, z3⟩
      rw [if_neg q13]
      by_cases q14 : ((xs k) &&& 31) = 14
      · rw [if_pos q14]
        unfold p_L_644
        obtain ⟨r, σ', τ', z1, z2, z3⟩ := q_way hI (xs (nI (k + 1)).toNatClampNeg) (xs (nI (k + 2)).toNatClampNeg)
        rw [e1, e2, o1, o2, oc_s z1, o1, o2, oc_s z2, if_pos rfl]
        exact nx _ _ ⟨nt, nm, no, z3⟩
      rw [if_neg q14]
      by_cases q15 : ((xs k) &&& 31) = 15
      · rw [if_pos q15]
        unfold p_L_677
        rw [e1, e2, e3, o1, o2, o3]
        obtain ⟨r, σ', τ', z1, z2, z3⟩ := q_run hI ((jshl ((xs (nI (k + 1)).toNatClampNeg).toInt64) 32) ||| (((xs (nI (k + 2)).toNatClampNeg).toInt64) &&& (4294967295))) (xs (nI (k + 3)).toNatClampNeg)
        rw [oc_s z1, o1, o2, o3, oc_s z2, if_pos rfl]
        exact nx _ _ ⟨nt, nm, no, z3⟩
      rw [if_neg q15]
      by_cases q16 : ((xs k) &&& 31) = 16
      · rw [if_pos q16]
        unfold p_L_740
        rw [e1, e2, o1, o2]
        obtain ⟨r, σ', τ', z1, z2, z3⟩ := q_holds hI ((jshl ((xs (nI (k + 1)).toNatClampNeg).toInt64) 32) ||| (((xs (nI (k + 2)).toNatClampNeg).toInt64) &&& (4294967295)))
        rw [oc_s z1, o1, o2, oc_s z2, if_pos rfl]
        exact nx _ _ ⟨nt, nm, no, z3⟩
      rw [if_neg q16]
      exact nx _ _ ⟨nt, nm, no, hI⟩
theorem law_pure (xs : Nat → Int32) (L : Nat) (hL : L ≤ 2560) : p_L_18 xs L 4096 0 s0C s0M = some 1 := law_loop xs hL 4095 0 s0C s0M 0 0 0 (by omega) (by omega) Inv_0
