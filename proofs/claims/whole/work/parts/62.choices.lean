/-! pure: the class's Choices tell what find and choose of the reference answer -/
def kq (S : List Nat) (σ σ' : SS) : Prop := σ'.2 = σ.2 ∧ ∀ c, c ∉ S → σ'.1 c = σ.1 c
theorem kq_rf (S : List Nat) (σ : SS) : kq S σ σ := ⟨rfl, fun _ _ => rfl⟩
theorem kq_tr {S : List Nat} {a b c : SS} (h : kq S a b) (g : kq S b c) : kq S a c := ⟨g.1.trans h.1, fun k hk => (g.2 k hk).trans (h.2 k hk)⟩
theorem kq_pI {S : List Nat} (σ : SS) {k : Nat} (f : Nat → Int32) (hk : k ∈ S) : kq S σ (pI σ k f) := ⟨rfl, fun c hc => pI_ne σ f (fun e => hc (by rw [e]; exact hk))⟩
theorem cT_c {σ σ' : SS} {P : Nat → Nat → Int32} {nt : Nat} (h : cT σ P nt) (h1 : σ'.1 1 5 = σ.1 1 5) (h7 : σ'.1 7 = σ.1 7) (h8 : σ'.1 8 = σ.1 8) (h9 : σ'.2 9 = σ.2 9) (h4 : σ'.2 1 4 = σ.2 1 4) (h10 : σ'.2 10 = σ.2 10) : cT σ' P nt := by
  unfold cT at h ⊢
  rw [h1, h7, h8, h9, h4, h10]
  exact h
theorem cM_c {σ σ' : SS} {P : Nat → Nat → Int32} {nm : Nat} (h : cM σ P nm) (h1 : σ'.1 2 10 = σ.1 2 10) (h11 : σ'.1 11 = σ.1 11) (h12 : σ'.1 12 = σ.1 12) (h13 : σ'.1 13 = σ.1 13) (h14 : σ'.1 14 = σ.1 14) (h15 : σ'.2 15 = σ.2 15) (h16 : σ'.2 16 = σ.2 16) (h2 : σ'.2 2 = σ.2 2) : cM σ' P nm := by
  unfold cM at h ⊢
  rw [h1, h11, h12, h13, h14, h15, h16, h2]
  exact h
def sQ : List Nat := [17, 18]
theorem kq_cT {σ σ' : SS} {P : Nat → Nat → Int32} {nt : Nat} (hk : kq sQ σ σ') (h : cT σ P nt) : cT σ' P nt := cT_c h (by rw [hk.2 1 (by decide)]) (hk.2 7 (by decide)) (hk.2 8 (by decide)) (by rw [hk.1]) (by rw [hk.1]) (by rw [hk.1])
theorem kq_cM {σ σ' : SS} {P : Nat → Nat → Int32} {nm : Nat} (hk : kq sQ σ σ') (h : cM σ P nm) : cM σ' P nm := cM_c h (by rw [hk.2 2 (by decide)]) (hk.2 11 (by decide)) (hk.2 12 (by decide)) (hk.2 13 (by decide)) (hk.2 14 (by decide)) (by rw [hk.1]) (by rw [hk.1]) (by rw [hk.1])
theorem lb_bool {x : Int64} {f : Nat → Bool} {N : Nat} (h : ∀ m, m < N → (lb x m = true ↔ f m = true)) : ∀ m, m < N → lb x m = f m := fun m hm => by
  cases hx : lb x m with
  | true => exact ((h m hm).mp hx).symm
  | false =>
    cases hf : f m with
    | false => rfl
    | true => rw [(h m hm).mpr hf] at hx; cases hx
theorem cn_lb {x : Int64} {f : Nat → Bool} (h : ∀ m, m < 64 → (lb x m = true ↔ f m = true)) (ho : ∀ k, 48 ≤ k → f k = false) : cn (lb x) 64 = cn f 48 := by
  rw [cn_congr (lb_bool h)]
  exact cn_out (fun k h1 _ => ho k h1) (by decide)
theorem nth_lb {x : Int64} {f : Nat → Bool} (h : ∀ m, m < 64 → (lb x m = true ↔ f m = true)) (ho : ∀ k, 48 ≤ k → f k = false) {i r : Int32} (hn : isNth (lb x) 64 i r) : isNth f 48 i r :=
  (isNth_cut (fun k h1 _ => ho k h1) (by decide)).mp (isNth_congr (lb_bool h) hn)
theorem k_superOf {σ : SS} {P : Nat → Nat → Int32} {nt t : Nat} (hT : cT σ P nt) (h16 : nt ≤ 16) (ht : t < nt) : p_X6_superOf_0 σ (nI t) = some (P 2 t) := by
  unfold p_X6_superOf_0
  rw [oi_n (show t < 16 by omega) (by decide), nI_clamp (show t < 2 ^ 31 by omega), (hT.2.1 t ht).2]
theorem k_sortOf {σ : SS} {P : Nat → Nat → Int32} {nm m : Nat} (hc : cM σ P nm) (h48 : nm ≤ 48) (hm : m < nm) : p_X4_sortOf_0 σ (nI m) = some (P 7 m) := by
  unfold p_X4_sortOf_0
  rw [oi_n (show m < 48 by omega) (by decide), nI_clamp (show m < 2 ^ 31 by omega), (hc.2.1 m hm).2]
theorem tellFound_6 {σ : SS} {P : Nat → Nat → Int32} {nt nm n : Nat} (hw : wfT P nt) (hM : wfM P nt nm) (hT : cT σ P nt) (hc : cM σ P nm) (hn : n < 10) (v3 v5 : Int64) : ∀ (k u c fuel : Nat), u < k → u < nt → u + c < 16 → k < fuel → ∃ r, isC P nm (nI n) (fun _ => True) k u r ∧ ((¬ r = -1 ∧ p_X1_tellFound_6 σ fuel (nI n) v3 v5 (nI u) (nI c) = some r) ∨ (r = -1 ∧ p_X1_tellFound_6 σ fuel (nI n) v3 v5 (nI u) (nI c) = p_X1_tellFound_57 σ v3 v5)) := by
  have h16 := hw.1
  have h48 := hM.1
  intro k
  induction k with
  | zero => intro u c fuel h; omega
  | succ k ih =>
    intro u c fuel hu hun hc16 hf
    obtain ⟨f, rfl⟩ : ∃ f, fuel = f + 1 := ⟨fuel - 1, by omega⟩
    have ho := hc.2.2.1 u (by omega) n hn
    obtain ⟨-, hs, -⟩ := hw.2.2 u hun
    rw [p_X1_tellFound_6]
    try dsimp only
    rw [if_neg (show ¬ (16 : Int32) ≤ nI c from nI_ge (b := 16) (by omega) (by omega)), if_neg (fun q => nI_m1 (u := u) (by omega) q.symm), oc_s (k_named (show u < 16 by omega) hn)]
    have hx := ho
    rcases ho with ⟨g1, g2⟩ | ⟨m, hmm, g1, g2, g3⟩
    · rw [if_pos g1, oc_s (k_superOf hT h16 hun)]
      have hno : ∀ m, m < nm → isOwn P nm (nI u) (nI n) (nI m) → ¬ (fun _ : Nat => True) m := by
        intro m hmm ho'
        have := isOwn_one hM hx ho'
        rw [g1] at this
        exact absurd this (nI_m1 (by omega))
      rcases hs with hs | ⟨w, hw', hs, -⟩
      · obtain ⟨f', rfl⟩ : ∃ f', f = f' + 1 := ⟨f - 1, by omega⟩
        refine ⟨-1, Or.inr ⟨hno, Or.inl ⟨hs, rfl⟩⟩, Or.inr ⟨rfl, ?_⟩⟩
        rw [hs, nI_1, p_X1_tellFound_6]
        try dsimp only
        by_cases q : (16 : Int32) ≤ nI (c + 1)
        · rw [if_pos q]
        · rw [if_neg q, if_pos rfl]
      · rw [hs, nI_1]
        obtain ⟨r, q1, q2⟩ := ih w (c + 1) f (by omega) (by omega) (by omega) (by omega)
        exact ⟨r, Or.inr ⟨hno, Or.inr ⟨w, hw', hs, q1⟩⟩, q2⟩
    · have hne : ¬ σ.1 13 (u * 10 + n) = -1 := fun q => nI_m1 (u := m) (by omega) (q.symm.trans g3)
      rw [if_neg hne]
      exact ⟨_, Or.inl ⟨m, hmm, by rw [← g3]; exact hx, trivial, g3⟩, Or.inl ⟨hne, rfl⟩⟩
theorem k_tellFound {σ : SS} {P : Nat → Nat → Int32} {nt nm t n : Nat} (hw : wfT P nt) (hM : wfM P nt nm) (hT : cT σ P nt) (hc : cM σ P nm) (ht : t < nt) (hn : n < 10) {x y : Int64} (hx : ∀ m, m < 64 → (lb x m = true ↔ lfB P nt nm t (nI n) m = true)) (hy : ∀ m, m < 64 → (lb y m = true ↔ lpB P nt nm t (nI n) m = true)) : ∃ r, p_X1_tellFound_0 σ (nI t) (nI n) x y = some r ∧ isF P nt nm t (nI n) r := by
  have h16 := hw.1
  have h48 := hM.1
  unfold p_X1_tellFound_0
  obtain ⟨r, e1, ⟨e2, e3⟩ | ⟨e2, e3⟩⟩ := tellFound_6 hw hM hT hc hn x y 16 t 0 100000 (by omega) ht (by omega) (by omega)
  · exact ⟨r, e3, Or.inl ⟨e1, e2⟩⟩
  · subst e2
    have e3' : p_X1_tellFound_6 σ 100000 (nI n) x y (nI t) 0 = p_X1_tellFound_57 σ x y := e3
    rw [e3']
    unfold p_X1_tellFound_57
    have hcn := cn_lb hy (fun k h1 => lpB_out (by omega))
    have hle := cn_le (lb y) 64
    rw [oc_s (p_bitCount y)]
    by_cases q : cn (lb y) 64 = 1
    · rw [if_pos (by rw [q]; rfl)]
      obtain ⟨r, q1, q2⟩ := p_least y
      unfold p_X1_tellFound_72
      rw [oc_s q1]
      exact ⟨r, rfl, Or.inr ⟨e1, Or.inl ⟨by omega, nth_lb hy (fun k h1 => lpB_out (by omega)) q2⟩⟩⟩
    · rw [if_neg (show ¬ nI (cn (lb y) 64) = 1 from fun e => q ((nI_eq (b := 1) (by omega) (by omega)).mp e))]
      obtain ⟨r, q1, q2⟩ := p_least x
      unfold p_X1_tellFound_72
      rw [oc_s q1]
      exact ⟨r, rfl, Or.inr ⟨e1, Or.inr ⟨by omega, nth_lb hx (fun k h1 => lfB_out (by omega)) q2⟩⟩⟩
theorem tellPicked_16 {σ : SS} {P : Nat → Nat → Int32} {nt nm n : Nat} (hw : wfT P nt) (hM : wfM P nt nm) (hT : cT σ P nt) (hc : cM σ P nm) (hn : n < 10) (v3 : Int64) : ∀ (k u c fuel : Nat), u < k → u < nt → u + c < 16 → k < fuel → ∃ r, isC P nm (nI n) (pbs P) k u r ∧ ((∃ m x, m < nm ∧ r = nI m ∧ p_X1_tellPicked_16 σ fuel (nI n) v3 (σ.2 16 n) (nI u) (nI c) = some x ∧ ((P 7 m = 0 ∧ x = nI m) ∨ (¬ P 7 m = 0 ∧ x = -4))) ∨ (r = -1 ∧ p_X1_tellPicked_16 σ fuel (nI n) v3 (σ.2 16 n) (nI u) (nI c) = p_X1_tellPicked_71 σ v3)) := by
  have h16 := hw.1
  have h48 := hM.1
  intro k
  induction k with
  | zero => intro u c fuel h; omega
  | succ k ih =>
    intro u c fuel hu hun hc16 hf
    obtain ⟨f, rfl⟩ : ∃ f, fuel = f + 1 := ⟨fuel - 1, by omega⟩
    have hp := hc.2.2.2.2.2.1 n hn u (by omega)
    obtain ⟨-, hs, -⟩ := hw.2.2 u hun
    rw [p_X1_tellPicked_16]
    try dsimp only
    rw [if_neg (show ¬ (16 : Int32) ≤ nI c from nI_ge (b := 16) (by omega) (by omega)), if_neg (fun q => nI_m1 (u := u) (by omega) q.symm), oc_s (p_has (show u < 64 by omega))]
    cases hb : lb (σ.2 16 n) u with
    | false =>
      have hno : ∀ m, m < nm → isOwn P nm (nI u) (nI n) (nI m) → ¬ pbs P m := by
        rintro m hmm (⟨q, -⟩ | ⟨m', hm', q1, q2, q3⟩) hpb
        · exact nI_m1 (u := m) (by omega) q.symm
        · have e : m = m' := (nI_eq (by omega) (by omega)).mp q3
          subst e
          have := hp.mpr ⟨m, hmm, q1, q2, hpb⟩
          rw [hb] at this
          cases this
      rw [if_pos (show b2 false = 0 from rfl), oc_s (k_superOf hT h16 hun)]
      rcases hs with hs | ⟨w, hw', hs, -⟩
      · obtain ⟨f', rfl⟩ : ∃ f', f = f' + 1 := ⟨f - 1, by omega⟩
        refine ⟨-1, Or.inr ⟨hno, Or.inl ⟨hs, rfl⟩⟩, Or.inr ⟨rfl, ?_⟩⟩
        rw [hs, nI_1, p_X1_tellPicked_16]
        try dsimp only
        by_cases q : (16 : Int32) ≤ nI (c + 1)
        · rw [if_pos q]
        · rw [if_neg q, if_pos rfl]
      · rw [hs, nI_1]
        obtain ⟨r, q1, q2⟩ := ih w (c + 1) f (by omega) (by omega) (by omega) (by omega)
        exact ⟨r, Or.inr ⟨hno, Or.inr ⟨w, hw', hs, q1⟩⟩, q2⟩
    | true =>
      obtain ⟨m, hmm, g1, g2, g3⟩ := hp.mp hb
      have hown := own_of hM hc (show u < 16 by omega) hn hmm g1 g2
      rw [if_neg (show ¬ b2 true = 0 by decide), oc_s (k_named (show u < 16 by omega) hn), hown]
      have hso := k_sortOf hc h48 hmm
      refine ⟨nI m, Or.inl ⟨m, hmm, Or.inr ⟨m, hmm, g1, g2, rfl⟩, g3, rfl⟩, Or.inl ?_⟩
      by_cases h70 : P 7 m = 0
      · refine ⟨m, nI m, hmm, rfl, ?_, Or.inl ⟨h70, rfl⟩⟩
        have : p_X1_plainOrBare_0 σ (nI m) = some (nI m) := by
          unfold p_X1_plainOrBare_0
          rw [oc_s hso, if_pos h70]; rfl
        rw [oc_s this]
      · refine ⟨m, -4, hmm, rfl, ?_, Or.inr ⟨h70, rfl⟩⟩
        have : p_X1_plainOrBare_0 σ (nI m) = some (-4) := by
          unfold p_X1_plainOrBare_0
          rw [oc_s hso, if_neg h70]; rfl
        rw [oc_s this]
theorem lb_some {y : Int64} (h : ¬ y = 0) : ∃ k, k < 64 ∧ lb y k = true := by
  apply Classical.byContradiction
  intro hn
  apply h
  apply lb_ext
  intro k hk
  rw [lb_0]
  cases hb : lb y k with
  | false => rfl
  | true => exact absurd ⟨k, hk, hb⟩ hn
theorem k_tellPicked {σ : SS} {P : Nat → Nat → Int32} {nt nm t n : Nat} (hw : wfT P nt) (hM : wfM P nt nm) (hT : cT σ P nt) (hc : cM σ P nm) (ht : t < nt) (hn : n < 10) {y : Int64} (hy : ∀ m, m < 64 → (lb y m = true ↔ lpB P nt nm t (nI n) m = true)) : ∃ r, p_X1_tellPicked_0 σ (nI t) (nI n) y = some r ∧ isP P nt nm t (nI n) r := by
  have h16 := hw.1
  have h48 := hM.1
  have e3 : p_X4_passersOf_0 σ (nI n) = some (σ.2 16 n) := by
    unfold p_X4_passersOf_0
    rw [oi_n hn (by decide), nI_clamp (show n < 2 ^ 31 by omega)]
  unfold p_X1_tellPicked_0
  rw [oc_s e3]
  obtain ⟨r, e1, ⟨m, x, q1, q2, q3, q4⟩ | ⟨e2, e4⟩⟩ := tellPicked_16 hw hM hT hc hn y 16 t 0 100000 (by omega) ht (by omega) (by omega)
  · rw [q2] at e1
    exact ⟨x, q3, Or.inl ⟨m, q1, e1, q4⟩⟩
  · subst e2
    have e4' : p_X1_tellPicked_16 σ 100000 (nI n) y (σ.2 16 n) (nI t) 0 = p_X1_tellPicked_71 σ y := e4
    rw [e4']
    have hcn := cn_lb hy (fun k h1 => lpB_out (by omega))
    have hle := cn_le (lb y) 64
    unfold p_X1_tellPicked_71
    by_cases hz : y = 0
    · rw [if_pos ((lg_cmp_eq _ _).mpr hz)]
      refine ⟨-4, rfl, Or.inr ⟨e1, Or.inl ⟨?_, rfl⟩⟩⟩
      rw [← hcn, hz]
      exact cn_zero (fun j _ => lb_0 j)
    · rw [if_neg (fun q => hz ((lg_cmp_eq _ _).mp q)), oc_s (p_bitCount y)]
      obtain ⟨k, hk, hb⟩ := lb_some hz
      have hpos := cn_lt hb hk
      by_cases q : cn (lb y) 64 = 1
      · rw [if_pos (by rw [q]; rfl)]
        obtain ⟨r, w1, w2⟩ := p_least y
        rw [oc_s w1]
        exact ⟨r, rfl, Or.inr ⟨e1, Or.inr (Or.inl ⟨by omega, nth_lb hy (fun k h1 => lpB_out (by omega)) w2⟩)⟩⟩
      · rw [if_neg (show ¬ nI (cn (lb y) 64) = 1 from fun e => q ((nI_eq (b := 1) (by omega) (by omega)).mp e))]
        exact ⟨-5, rfl, Or.inr ⟨e1, Or.inr (Or.inr ⟨by omega, rfl⟩)⟩⟩
theorem tell_n {P : Nat → Nat → Int32} {nt nm n : Nat} (hw : wfT P nt) (hM : wfM P nt nm) (hn : n < 10) {σ : SS} (hT : cT σ P nt) (hc : cM σ P nm) : ∀ (r k fuel : Nat) (s : SS), k + r = nt → r < fuel → kq sQ σ s → (∀ t, t < k → isF P nt nm t (nI n) (s.1 17 (t * 10 + n)) ∧ isP P nt nm t (nI n) (s.1 18 (t * 10 + n))) → (∀ j, (∀ t, t < nt → j ≠ t * 10 + n) → s.1 17 j = σ.1 17 j ∧ s.1 18 j = σ.1 18 j) →
    ∃ s', p_X1_tell_2 fuel (nI n) (nI k) s = some s' ∧ kq sQ σ s' ∧ (∀ t, t < nt → isF P nt nm t (nI n) (s'.1 17 (t * 10 + n)) ∧ isP P nt nm t (nI n) (s'.1 18 (t * 10 + n))) ∧ ∀ j, (∀ t, t < nt → j ≠ t * 10 + n) → s'.1 17 j = σ.1 17 j ∧ s'.1 18 j = σ.1 18 j := by
  have h16 := hw.1
  intro r
  induction r with
  | zero =>
    intro k fuel s hk hf hkq hd hr
    obtain ⟨f, rfl⟩ : ∃ f, fuel = f + 1 := ⟨fuel - 1, by omega⟩
    have e : k = nt := by omega
    subst e
    refine ⟨s, ?_, hkq, hd, hr⟩
    rw [p_X1_tell_2]
    try dsimp only
    rw [oc_s (show p_X6_size_0 s = some (nI k) by unfold p_X6_size_0; rw [(kq_cT hkq hT).1]), if_pos (nI_le (Nat.le_refl _) (by omega))]
  | succ r ih =>
    intro k fuel s hk hf hkq hd hr
    obtain ⟨f, rfl⟩ : ∃ f, fuel = f + 1 := ⟨fuel - 1, by omega⟩
    have hkn : k < nt := by omega
    have hTs := kq_cT hkq hT
    have hcs := kq_cM hkq hc
    obtain ⟨x, e1, e2⟩ := k_leftOf hw hM hTs hcs hkn hn
    have hx : ∀ m, m < 64 → (lb x m = true ↔ lfB P nt nm k (nI n) m = true) := fun m hm => (e2 m hm).trans pb_t.symm
    have hy : ∀ m, m < 64 → (lb (x &&& s.2 2 7) m = true ↔ lpB P nt nm k (nI n) m = true) := fun m hm => by
      rw [lb_and, Bool.and_eq_true, e2 m hm, hcs.2.2.2.2.2.2.1 m hm]
      unfold lpB
      rw [pb_t]
      exact ⟨fun h => ⟨h.1, h.2.2⟩, fun h => ⟨h.1, h.1.1.1, h.2⟩⟩
    obtain ⟨ra, a1, a2⟩ := k_tellFound hw hM hTs hcs hkn hn hx hy
    have hk1 : kq sQ s (sI s 17 (k * 10 + n) ra) := by rw [sI_p]; exact kq_pI s _ (by decide)
    have hT1 := kq_cT hk1 hTs
    have hc1 := kq_cM hk1 hcs
    obtain ⟨rb, b1, b2'⟩ := k_tellPicked hw hM hT1 hc1 hkn hn hy
    have hk2 : kq sQ (sI s 17 (k * 10 + n) ra) (sI (sI s 17 (k * 10 + n) ra) 18 (k * 10 + n) rb) := by rw [sI_p (sI s 17 (k * 10 + n) ra)]; exact kq_pI _ _ (by decide)
    have r17 : (sI (sI s 17 (k * 10 + n) ra) 18 (k * 10 + n) rb).1 17 = upd (s.1 17) (k * 10 + n) ra := by
      rw [sI_p (sI s 17 (k * 10 + n) ra), pI_ne _ _ (by decide : (17 : Nat) ≠ 18), sI_p, pI_at]
    have r18 : (sI (sI s 17 (k * 10 + n) ra) 18 (k * 10 + n) rb).1 18 = upd (s.1 18) (k * 10 + n) rb := by
      rw [sI_p (sI s 17 (k * 10 + n) ra), pI_at, sI_p, pI_ne _ _ (by decide : (18 : Nat) ≠ 17)]
    obtain ⟨s', q1, q2, q3, q4⟩ := ih (k + 1) f (sI (sI s 17 (k * 10 + n) ra) 18 (k * 10 + n) rb) (by omega) (by omega) (kq_tr hkq (kq_tr hk1 hk2)) (fun t ht => by
        rw [r17, r18]
        unfold upd
        by_cases e : t = k
        · subst e
          rw [if_pos rfl, if_pos rfl]
          exact ⟨a2, b2'⟩
        · rw [if_neg (by omega), if_neg (by omega)]
          exact hd t (by omega)) (fun j hj => by
        rw [r17, r18]
        unfold upd
        rw [if_neg (hj k hkn), if_neg (hj k hkn)]
        exact hr j hj)
    refine ⟨s', ?_, q2, q3, q4⟩
    rw [p_X1_tell_2]
    try dsimp only
    rw [oc_s (show p_X6_size_0 s = some (nI nt) by unfold p_X6_size_0; rw [hTs.1]), if_neg (nI_ge hkn (by omega)), oc_s e1, oc_s (show p_X4_plainOnes_0 s = some (s.2 2 7) from rfl), oc_s a1, c10, oi_n (show k * 10 + n < 160 by omega) (by decide), nI_clamp (show k * 10 + n < 2 ^ 31 by omega)]
    unfold os
    dsimp only
    rw [oc_s b1, oi_n (show k * 10 + n < 160 by omega) (by decide), nI_1]
    exact q1
def cC (σ : SS) (P : Nat → Nat → Int32) (nt nm : Nat) : Prop := ∀ t, t < nt → ∀ n, n < 10 → isF P nt nm t (nI n) (σ.1 17 (t * 10 + n)) ∧ isP P nt nm t (nI n) (σ.1 18 (t * 10 + n))
theorem k_tell {P : Nat → Nat → Int32} {nt nm n : Nat} (hw : wfT P nt) (hM : wfM P nt nm) (hn : n < 10) {σ : SS} (hT : cT σ P nt) (hc : cM σ P nm) : ∃ s', p_X1_tell_0 (nI n) σ = some s' ∧ kq sQ σ s' ∧ (∀ t, t < nt → isF P nt nm t (nI n) (s'.1 17 (t * 10 + n)) ∧ isP P nt nm t (nI n) (s'.1 18 (t * 10 + n))) ∧ ∀ j, (∀ t, t < nt → j ≠ t * 10 + n) → s'.1 17 j = σ.1 17 j ∧ s'.1 18 j = σ.1 18 j :=
  tell_n hw hM hn hT hc nt 0 100000 σ (by omega) (by have := hw.1; omega) (kq_rf sQ σ) (fun t ht => absurd ht (Nat.not_lt_zero _)) (fun j _ => ⟨rfl, rfl⟩)
theorem tellAll_2 {P : Nat → Nat → Int32} {nt nm : Nat} (hw : wfT P nt) (hM : wfM P nt nm) {σ : SS} (hT : cT σ P nt) (hc : cM σ P nm) : ∀ (r k fuel : Nat) (s : SS), k + r = 10 → r < fuel → kq sQ σ s → (∀ t, t < nt → ∀ n, n < k → isF P nt nm t (nI n) (s.1 17 (t * 10 + n)) ∧ isP P nt nm t (nI n) (s.1 18 (t * 10 + n))) → ∃ s', p_X1_tellAll_2 fuel (nI k) s = some s' ∧ kq sQ σ s' ∧ cC s' P nt nm := by
  intro r
  induction r with
  | zero =>
    intro k fuel s hk hf hkq hd
    obtain ⟨f, rfl⟩ : ∃ f, fuel = f + 1 := ⟨fuel - 1, by omega⟩
    refine ⟨s, ?_, hkq, fun t ht n hn => hd t ht n (by omega)⟩
    rw [p_X1_tellAll_2]
    try dsimp only
    rw [if_pos (show (10 : Int32) ≤ nI k from nI_le (a := 10) (by omega) (by omega))]
  | succ r ih =>
    intro k fuel s hk hf hkq hd
    obtain ⟨f, rfl⟩ : ∃ f, fuel = f + 1 := ⟨fuel - 1, by omega⟩
    obtain ⟨s1, e1, e2, e3, e4⟩ := k_tell (n := k) hw hM (by omega) (kq_cT hkq hT) (kq_cM hkq hc)
    obtain ⟨s', q1, q2, q3⟩ := ih (k + 1) f s1 (by omega) (by omega) (kq_tr hkq e2) (fun t ht n hn => by
      by_cases e : n = k
      · subst e; exact e3 t ht
      · have h := e4 (t * 10 + n) (fun t' ht' => by omega)
        rw [h.1, h.2]
        exact hd t ht n (by omega))
    refine ⟨s', ?_, q2, q3⟩
    rw [p_X1_tellAll_2]
    try dsimp only
    rw [if_neg (show ¬ (10 : Int32) ≤ nI k from nI_ge (b := 10) (by omega) (by omega)), oc_s e1, nI_1]
    exact q1
theorem k_tellAll {P : Nat → Nat → Int32} {nt nm : Nat} (hw : wfT P nt) (hM : wfM P nt nm) {σ : SS} (hT : cT σ P nt) (hc : cM σ P nm) : ∃ s', p_X1_tellAll_0 σ = some s' ∧ kq sQ σ s' ∧ cC s' P nt nm :=
  tellAll_2 hw hM hT hc 10 0 100000 σ (by omega) (by omega) (kq_rf sQ σ) (fun t _ n hn => absurd hn (Nat.not_lt_zero _))
