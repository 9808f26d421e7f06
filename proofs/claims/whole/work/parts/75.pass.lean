/-! pure: the class's passes come to the graph -/
theorem Tr_bnd {P : Nat → Nat → Int32} {nt nm o : Nat} {S S' : G3} (hT : Tr P nt nm S o S') (ho : o < 160) (hB : sub3 S (bnd nt nm)) : sub3 S' (bnd nt nm) := by
  intro q i j h
  have h4 : ∀ i, bnd nt nm 4 o i → bnd nt nm 0 i 0 := by
    rintro i (⟨h, -⟩ | ⟨h, -⟩ | ⟨h, -⟩ | ⟨h, -⟩ | ⟨-, -, h⟩)
    · cases h
    · cases h
    · cases h
    · cases h
    · exact Or.inl ⟨rfl, h, rfl⟩
  rcases hT.2.1 q i j h with g | g | ⟨rfl, rfl, g | g⟩
  · exact hB _ _ _ g
  · exact opS_bnd ho g
  · exact h4 i (hB _ _ _ g)
  · exact h4 i (opS_bnd ho g)
theorem SC_r {σ : SS} {o : Nat} (q i j : Nat) : SC (sL σ 5 9 (σ.2 5 9 ||| σ.2 25 o)) q i j ↔ SC σ q i j ∨ (q = 0 ∧ j = 0 ∧ lb (σ.2 25 o) i = true) := by
  rcases q with _ | _ | _ | _ | _ | q
  · show j = 0 ∧ lb (σ.2 5 9 ||| σ.2 25 o) i = true ↔ (j = 0 ∧ lb (σ.2 5 9) i = true) ∨ _
    rw [lb_or, Bool.or_eq_true]
    exact ⟨fun h => h.2.elim (fun w => Or.inl ⟨h.1, w⟩) (fun w => Or.inr ⟨rfl, h.1, w⟩), fun h => h.elim (fun w => ⟨w.1, Or.inl w.2⟩) (fun w => ⟨w.2.1, Or.inr w.2.2⟩)⟩
  · exact ⟨Or.inl, fun q => q.elim id (fun w => by cases w.1)⟩
  · exact ⟨Or.inl, fun q => q.elim id (fun w => by cases w.1)⟩
  · exact ⟨Or.inl, fun q => q.elim id (fun w => by cases w.1)⟩
  · exact ⟨Or.inl, fun q => q.elim id (fun w => by cases w.1)⟩
  · exact ⟨Or.inl, fun q => q.elim id (fun w => by have := w.1; omega)⟩
theorem k_opAt {σ : SS} {P : Nat → Nat → Int32} {nm no m c i : Nat} (hO : cO σ P nm no) (h48 : nm ≤ 48) (hm : m < nm) (h9 : P 9 m = nI c) (hc : c ≤ 24) (hi : i < c) : p_X5_at_0 σ (nI m) (nI i) = some (P 10 (24 * m + i)) := by
  unfold p_X5_at_0
  rw [c24', oi_n (show m * 24 + i < 1152 by omega) (by decide), nI_clamp (show m * 24 + i < 2 ^ 31 by omega), hO.2.2.2.1 m hm c i h9 hc hi]
theorem serveR_29 (k2 : Int32 → SS → Option SS) {P : Nat → Nat → Int32} {nt nm no m c : Nat} (hW : WF P nt nm no) (hm : m < nm) (h9 : P 9 m = nI c) (hc : c ≤ 24) {S0 : G3} : ∀ (r i fuel : Nat) (σ : SS) (D : Nat → Prop), i + r = c → r < fuel → CI σ P nt nm no → sub3 (SC σ) (bnd nt nm) → SC σ 0 m 0 → PD P nt nm D S0 (SC σ) →
    ∃ σ', p_X3_serveReached_29 k2 fuel (nI m) (nI i) σ = k2 (nI (m + 1)) σ' ∧ kg sG σ σ' ∧ sub3 (SC σ') (bnd nt nm) ∧ PD P nt nm (fun o => D o ∨ ∃ i', i ≤ i' ∧ i' < c ∧ P 10 (24 * m + i') = nI o ∧ o < 160) S0 (SC σ') := by
  obtain ⟨hw, hM, hO⟩ := id hW
  have h48 := hM.1
  have h160 := hO.1
  intro r
  induction r with
  | zero =>
    intro i fuel σ D hi hf hC hB hr hP
    obtain ⟨f, rfl⟩ : ∃ f, fuel = f + 1 := ⟨fuel - 1, by omega⟩
    refine ⟨σ, ?_, kg_rf sG σ, hB, PD_w hP (fun o h => h.elim id (fun ⟨i', h1, h2, _⟩ => by omega))⟩
    rw [p_X3_serveReached_29]
    try dsimp only
    rw [oc_s (k_sizeOf hC.2.2.1 h48 hm), h9, if_pos (nI_le (by omega) (by omega))]
    unfold p_X3_serveReached_77
    rw [nI_1]
  | succ r ih =>
    intro i fuel σ D hi hf hC hB hr hP
    obtain ⟨f, rfl⟩ : ∃ f, fuel = f + 1 := ⟨fuel - 1, by omega⟩
    obtain ⟨c', w1, w2, -, w4⟩ := hO.2.2.1 m hm
    have hcc : c' = c := (nI_eq (by omega) (by omega)).mp (w2.symm.trans h9)
    subst hcc
    obtain ⟨o, ho, h10⟩ := w4 i (by omega)
    obtain ⟨s1, e1, e2, e3⟩ := k_serve hW ho hC hB
    have hT : Tr P nt nm (SC σ) o (SC (sL s1 5 9 (s1.2 5 9 ||| s1.2 25 o))) := by
      have h4 : ∀ i, lb (s1.2 25 o) i = true ↔ SC σ 4 o i ∨ opS P nt nm (SC σ) o 4 o i := fun i => by
        rw [← e3 4 o i]
        exact ⟨fun h => ⟨by omega, h⟩, fun h => h.2⟩
      refine ⟨fun q i j h => (SC_r q i j).mpr (Or.inl ((e3 q i j).mpr (Or.inl h))), fun q i j h => ?_, fun q i j h => (SC_r q i j).mpr (Or.inl ((e3 q i j).mpr (Or.inr h))), fun i h => ?_⟩
      · rcases (SC_r q i j).mp h with g | ⟨g1, g2, g3⟩
        · rcases (e3 q i j).mp g with g | g
          · exact Or.inl g
          · exact Or.inr (Or.inl g)
        · exact Or.inr (Or.inr ⟨g1, g2, (h4 i).mp g3⟩)
      · rcases (SC_r 4 o i).mp h with g | ⟨g1, -⟩
        · exact (SC_r 0 i 0).mpr (Or.inr ⟨rfl, rfl, g.2⟩)
        · cases g1
    have hP' := PD_s hP hT hm hr ⟨c', i, h9, hc, by omega, h10, by omega⟩
    have hk : kg sG σ (sL s1 5 9 (s1.2 5 9 ||| s1.2 25 o)) := kg_tr e2 (kg_sL s1 9 _ (by decide))
    obtain ⟨σ', q1, q2, q3, q4⟩ := ih (i + 1) f _ _ (by omega) (by omega) (kg_CI hk hC) (Tr_bnd hT (by omega) hB) (hT.1 _ _ _ hr) hP'
    refine ⟨σ', ?_, kg_tr hk q2, q3, PD_w q4 (fun o' h => ?_)⟩
    · rw [p_X3_serveReached_29]
      try dsimp only
      rw [oc_s (k_sizeOf hC.2.2.1 h48 hm), h9, if_neg (nI_ge (by omega) (by omega)), oc_s (k_opAt hC.2.2.1 h48 hm h9 hc (show i < c' by omega)), h10, oc_s e1, oi_n (show o < 160 by omega) (by decide), nI_clamp (show o < 2 ^ 31 by omega), os_s, nI_1]
      exact q1
    · rcases h with h | ⟨i', h1, h2, h3, h4⟩
      · exact Or.inl (Or.inl h)
      · by_cases e : i' = i
        · subst e
          exact Or.inl (Or.inr ((nI_eq (by omega) (by omega)).mp (h3.symm.trans h10)))
        · exact Or.inr ⟨i', by omega, h2, h3, h4⟩
theorem serveR_2 {P : Nat → Nat → Int32} {nt nm no : Nat} (hW : WF P nt nm no) {S0 : G3} : ∀ (r k fuel : Nat) (σ : SS), k + r = nm → r < fuel → CI σ P nt nm no → sub3 (SC σ) (bnd nt nm) → PD P nt nm (fun o => ∃ m, m < k ∧ S0 0 m 0 ∧ ofM P m o) S0 (SC σ) →
    ∃ σ', p_X3_serveReached_2 fuel (nI k) σ = some σ' ∧ kg sG σ σ' ∧ sub3 (SC σ') (bnd nt nm) ∧ PD P nt nm (fun o => ∃ m, m < nm ∧ S0 0 m 0 ∧ ofM P m o) S0 (SC σ') := by
  obtain ⟨hw, hM, hO⟩ := id hW
  have h48 := hM.1
  intro r
  induction r with
  | zero =>
    intro k fuel σ hk hf hC hB hP
    obtain ⟨f, rfl⟩ : ∃ f, fuel = f + 1 := ⟨fuel - 1, by omega⟩
    have e : k = nm := by omega
    subst e
    refine ⟨σ, ?_, kg_rf sG σ, hB, hP⟩
    rw [p_X3_serveReached_2]
    try dsimp only
    rw [oc_s (size_M hC.2.1), if_pos (nI_le (Nat.le_refl _) (by omega))]
  | succ r ih =>
    intro k fuel σ hk hf hC hB hP
    obtain ⟨f, rfl⟩ : ∃ f, fuel = f + 1 := ⟨fuel - 1, by omega⟩
    have hkn : k < nm := by omega
    rw [p_X3_serveReached_2]
    try dsimp only
    rw [oc_s (size_M hC.2.1), if_neg (nI_ge hkn (by omega)), oc_s (p_has (show k < 64 by omega))]
    cases hb : lb (σ.2 5 9) k with
    | false =>
      rw [if_pos (show b2 false = 0 from rfl)]
      unfold p_X3_serveReached_77
      rw [nI_1]
      refine ih (k + 1) f σ (by omega) (by omega) hC hB (PD_w hP (fun o h => ?_))
      obtain ⟨m, h1, h2, h3⟩ := h
      by_cases e : m = k
      · subst e
        have := (hP.1 _ _ _ h2).2
        rw [hb] at this
        cases this
      · exact ⟨m, by omega, h2, h3⟩
    | true =>
      obtain ⟨c, w1, w2, -, -⟩ := hO.2.2.1 k hkn
      rw [if_neg (show ¬ b2 true = 0 by decide)]
      obtain ⟨s1, q1, q2, q3, q4⟩ := serveR_29 (p_X3_serveReached_2 f) hW hkn w2 w1 c 0 100000 σ _ (by omega) (by omega) hC hB ⟨rfl, hb⟩ hP
      obtain ⟨σ', z1, z2, z3, z4⟩ := ih (k + 1) f s1 (by omega) (by omega) (kg_CI q2 hC) q3 (PD_w q4 (fun o h => by
        obtain ⟨m, h1, h2, h3⟩ := h
        by_cases e : m = k
        · subst e
          obtain ⟨c', i, y1, y2, y3, y4, y5⟩ := h3
          have : c' = c := (nI_eq (by omega) (by omega)).mp (y1.symm.trans w2)
          exact Or.inr ⟨i, Nat.zero_le _, by omega, y4, y5⟩
        · exact Or.inl ⟨m, by omega, h2, h3⟩))
      refine ⟨σ', ?_, kg_tr q2 z2, z3, z4⟩
      rw [← z1]
      exact q1
/-- how much there is -/
def sz (σ : SS) : Nat := cn (lb (σ.2 5 9)) 64 + cn (lb (σ.2 5 10)) 64 + cn (lb (σ.2 5 11)) 64 + cn (lb (σ.2 24 0)) 64 + cn (lb (σ.2 24 1)) 64 + cn (lb (σ.2 24 2)) 64 + cn (lb (σ.2 24 3)) 64
theorem k_size (σ : SS) : p_X3_sizeOfAll_0 σ = some (nI (sz σ)) := by
  have st : ∀ (f : Nat) (v : Nat) (k : Nat), k < 4 → p_X3_sizeOfAll_26 σ (f + 1) (nI v) (nI k) = p_X3_sizeOfAll_26 σ f (nI (v + cn (lb (σ.2 24 k)) 64)) (nI (k + 1)) := by
    intro f v k hk
    rw [p_X3_sizeOfAll_26]
    try dsimp only
    rw [if_neg (show ¬ (4 : Int32) ≤ nI k from nI_ge (b := 4) hk (by decide)), oi_n hk (by decide), nI_clamp (show k < 2 ^ 31 by omega), oc_s (p_bitCount _), nI_add, nI_1]
  unfold p_X3_sizeOfAll_0
  rw [oc_s (p_bitCount _), oc_s (p_bitCount _), oc_s (p_bitCount _), nI_add, nI_add]
  show p_X3_sizeOfAll_26 σ (99995 + 1 + 1 + 1 + 1 + 1) (nI _) (nI 0) = _
  rw [st _ _ _ (by decide), st _ _ _ (by decide), st _ _ _ (by decide), st _ _ _ (by decide), p_X3_sizeOfAll_26]
  try dsimp only
  rw [if_pos (by decide)]
  rfl
theorem sz_bnd {σ : SS} {nt nm : Nat} (h16 : nt ≤ 16) (h48 : nm ≤ 48) (hB : sub3 (SC σ) (bnd nt nm)) : sz σ ≤ 272 := by
  have key : ∀ (x : Int64) (N M : Nat), N ≤ M → M ≤ 64 → (∀ j, lb x j = true → j < N) → cn (lb x) 64 ≤ M := fun x N M h h64 hx => by
    rw [cn_out (f := lb x) (M := N) (N := 64) (fun k h1 h2 => by
      cases hb : lb x k with
      | false => rfl
      | true => have := hx k hb; omega) (by omega)]
    have := cn_le (lb x) N
    omega
  have r0 := key (σ.2 5 9) nm 48 h48 (by omega) (fun j hj => by
    rcases hB 0 j 0 ⟨rfl, hj⟩ with ⟨-, h, -⟩ | ⟨h, -⟩ | ⟨h, -⟩ | ⟨h, -⟩ | ⟨h, -⟩
    · exact h
    · cases h
    · cases h
    · cases h
    · cases h)
  have r1 := key (σ.2 5 10) nt 16 h16 (by omega) (fun j hj => by
    rcases hB 1 j 0 ⟨rfl, hj⟩ with ⟨h, -⟩ | ⟨-, h, -⟩ | ⟨h, -⟩ | ⟨h, -⟩ | ⟨h, -⟩
    · cases h
    · exact h
    · cases h
    · cases h
    · cases h)
  have r2 := key (σ.2 5 11) nt 16 h16 (by omega) (fun j hj => by
    rcases hB 2 j 0 ⟨rfl, hj⟩ with ⟨h, -⟩ | ⟨h, -⟩ | ⟨-, h, -⟩ | ⟨h, -⟩ | ⟨h, -⟩
    · cases h
    · cases h
    · exact h
    · cases h
    · cases h)
  have r3 : ∀ a, a < 4 → cn (lb (σ.2 24 a)) 64 ≤ 48 := fun a ha => key (σ.2 24 a) nm 48 h48 (by omega) (fun j hj => by
    rcases hB 3 a j ⟨ha, hj⟩ with ⟨h, -⟩ | ⟨h, -⟩ | ⟨h, -⟩ | ⟨-, -, h⟩ | ⟨h, -⟩
    · cases h
    · cases h
    · cases h
    · exact h
    · cases h)
  have a0 := r3 0 (by omega)
  have a1 := r3 1 (by omega)
  have a2 := r3 2 (by omega)
  have a3 := r3 3 (by omega)
  unfold sz
  omega
/-- more is more, and as many is the same -/
theorem sz_sub {σ σ' : SS} (h : sub3 (SC σ) (SC σ')) : sz σ ≤ sz σ' ∧ (sz σ' = sz σ → ∀ q i j, q < 4 → SC σ' q i j → SC σ q i j) := by
  have r0 : ∀ k, k < 64 → lb (σ.2 5 9) k = true → lb (σ'.2 5 9) k = true := fun k _ hk => (h 0 k 0 ⟨rfl, hk⟩).2
  have r1 : ∀ k, k < 64 → lb (σ.2 5 10) k = true → lb (σ'.2 5 10) k = true := fun k _ hk => (h 1 k 0 ⟨rfl, hk⟩).2
  have r2 : ∀ k, k < 64 → lb (σ.2 5 11) k = true → lb (σ'.2 5 11) k = true := fun k _ hk => (h 2 k 0 ⟨rfl, hk⟩).2
  have r3 : ∀ a, a < 4 → ∀ k, k < 64 → lb (σ.2 24 a) k = true → lb (σ'.2 24 a) k = true := fun a ha k _ hk => (h 3 a k ⟨ha, hk⟩).2
  have c0 := cn_sub r0
  have c1 := cn_sub r1
  have c2 := cn_sub r2
  have d0 := cn_sub (r3 0 (by omega))
  have d1 := cn_sub (r3 1 (by omega))
  have d2 := cn_sub (r3 2 (by omega))
  have d3 := cn_sub (r3 3 (by omega))
  refine ⟨by unfold sz; omega, fun e => ?_⟩
  unfold sz at e
  have lift : ∀ (x y : Int64), (∀ k, k < 64 → lb x k = true → lb y k = true) → cn (lb x) 64 = cn (lb y) 64 → ∀ k, lb y k = true → lb x k = true := by
    intro x y hxy he k hk
    by_cases hk64 : k < 64
    · rw [cn_same hxy he k hk64]; exact hk
    · rw [lb_big (by omega)] at hk; cases hk
  intro q i j hq hs
  rcases q with _ | _ | _ | _ | q
  · exact ⟨hs.1, lift _ _ r0 (by omega) i hs.2⟩
  · exact ⟨hs.1, lift _ _ r1 (by omega) i hs.2⟩
  · exact ⟨hs.1, lift _ _ r2 (by omega) i hs.2⟩
  · have hi : i < 4 := hs.1
    refine ⟨hi, lift _ _ (r3 i hi) ?_ j hs.2⟩
    rcases (show i = 0 ∨ i = 1 ∨ i = 2 ∨ i = 3 by omega) with rfl | rfl | rfl | rfl <;> omega
  · omega
/-- the passes end with the graph -/
theorem refresh_16 {P : Nat → Nat → Int32} {nt nm no : Nat} (hW : WF P nt nm no) : ∀ (r p fuel : Nat) (σ : SS) (v1 : Int32), p + r = 273 → r < fuel → CI σ P nt nm no → sub3 (SC σ) (bnd nt nm) → sub3 (SC σ) (LG P nt nm) → crS (SC σ) → (∀ m, m < nm → P 8 m = 1 → SC σ 0 m 0) → ((p = 0 ∧ v1 = -1) ∨ ∃ s0, v1 = nI (sz s0) ∧ p ≤ sz s0 + 1 ∧ sub3 (SC s0) (SC σ) ∧ (sz σ = sz s0 → SC σ = LG P nt nm)) →
    ∃ σ', p_X3_refresh_16 fuel v1 (nI p) σ = p_X3_refresh_46 σ' ∧ kg sG σ σ' ∧ SC σ' = LG P nt nm := by
  obtain ⟨hw, hM, hO⟩ := id hW
  have h16 := hw.1
  have h48 := hM.1
  intro r
  induction r with
  | zero =>
    intro p fuel σ v1 hp hf hC hB hL hc hr hb
    obtain ⟨f, rfl⟩ : ∃ f, fuel = f + 1 := ⟨fuel - 1, by omega⟩
    have hz := sz_bnd h16 h48 hB
    refine ⟨σ, ?_, kg_rf sG σ, ?_⟩
    · rw [p_X3_refresh_16]
      try dsimp only
      rw [if_pos (show (273 : Int32) ≤ nI p from nI_le (a := 273) (by omega) (by omega))]
    · rcases hb with ⟨h, -⟩ | ⟨s0, h1, h2, h3, h4⟩
      · omega
      · refine h4 ?_
        have := (sz_sub h3).1
        omega
  | succ r ih =>
    intro p fuel σ v1 hp hf hC hB hL hc hr hb
    obtain ⟨f, rfl⟩ : ∃ f, fuel = f + 1 := ⟨fuel - 1, by omega⟩
    have hz := sz_bnd h16 h48 hB
    rw [p_X3_refresh_16]
    try dsimp only
    rw [if_neg (show ¬ (273 : Int32) ≤ nI p from nI_ge (b := 273) (by omega) (by omega)), oc_s (k_size σ), oc_s (k_size σ)]
    by_cases e : v1 = nI (sz σ)
    · rw [if_pos e]
      refine ⟨σ, rfl, kg_rf sG σ, ?_⟩
      rcases hb with ⟨h, h'⟩ | ⟨s0, h1, h2, h3, h4⟩
      · rw [h'] at e
        exact absurd e (nI_m1 (by omega))
      · have hz0 := (sz_sub h3).1
        refine h4 ((nI_eq (by omega) (by omega)).mp (e.symm.trans h1))
    · rw [if_neg e]
      obtain ⟨s1, q1, q2, q3, q4⟩ := serveR_2 hW (S0 := SC σ) nm 0 100000 σ (by omega) (by omega) hC hB (PD_w (PD_0 P nt nm (SC σ)) (fun o ⟨m, h, _⟩ => by omega))
      have q1' : p_X3_serveReached_0 σ = some s1 := q1
      obtain ⟨σ', z1, z2, z3⟩ := ih (p + 1) f s1 (nI (sz σ)) (by omega) (by omega) (kg_CI q2 hC) q3 (q4.2.1 hL) (q4.2.2.1 hc) (fun m hm h8 => q4.1 _ _ _ (hr m hm h8)) (Or.inr ⟨σ, rfl, by
          rcases hb with ⟨h, -⟩ | ⟨s0, h1, h2, h3, h4⟩
          · omega
          · have hz0 := (sz_sub h3).1
            have : sz σ ≠ sz s0 := fun q => e (by rw [h1, q])
            omega, q4.1, fun q => PD_end q4 hL hc hr ((sz_sub q4.1).2 q)⟩)
      rw [oc_s q1', nI_1]
      exact ⟨σ', z1, kg_tr q2 z2, z3⟩
