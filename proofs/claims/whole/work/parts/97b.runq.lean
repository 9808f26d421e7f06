/-! pure: run and holds -/
def clR (σ : SS) : SS := sI (sI (sI (sI (sL (sL (fL (fI σ 31 4 0) 32 160 0) 6 9 0) 6 10 0) 6 11 0) 6 12 0) 6 13 0) 6 14 (-1)
theorem k_clearR (σ : SS) : p_X2_clear_0 σ = some (clR σ) := by
  unfold p_X2_clear_0
  rw [os_s, os_s, os_s, os_s, os_s, os_s, os_s, os_s]
  rfl
theorem kr_clR (σ : SS) (x : Int64) : kr σ (sL (clR σ) 6 8 x) := by
  have h0 : kr σ (fL (fI σ 31 4 0) 32 160 0) := ⟨fun c hc => by
      show va_up σ.1 31 _ c = σ.1 c
      unfold va_up
      rw [if_neg (fun e => hc (by rw [e]; decide))], fun c hc => by
      show va_up σ.2 32 _ c = σ.2 c
      unfold va_up
      rw [if_neg (fun e => hc (by rw [e]; decide))]⟩
  exact kr_sL (kr_sI (kr_sI (kr_sI (kr_sI (kr_sL (kr_sL h0 (by decide) _ _) (by decide) _ _) (by decide) _ _) (by decide) _ _) (by decide) _ _) (by decide) _ _) (by decide) _ _
theorem runAll_88 {s0 : SS} : ∀ (r k fuel : Nat) (s : SS), k + r = 4 → r < fuel → zf [36] s0 s → (∀ j, j < k → s.1 36 j = 0) → ∃ s', p_X8_runAll_88 fuel (nI k) s = p_X8_runAll_108 100000 0 s' ∧ zf [36] s0 s' ∧ ∀ j, j < 4 → s'.1 36 j = 0 := by
  intro r
  induction r with
  | zero =>
    intro k fuel s hk hf hz h
    obtain ⟨f, rfl⟩ : ∃ f, fuel = f + 1 := ⟨fuel - 1, by omega⟩
    refine ⟨s, ?_, hz, fun j hj => h j (by omega)⟩
    rw [p_X8_runAll_88]
    try dsimp only
    rw [if_pos (show (4 : Int32) ≤ nI k from nI_le (a := 4) (by omega) (by omega))]
  | succ r ih =>
    intro k fuel s hk hf hz h
    obtain ⟨f, rfl⟩ : ∃ f, fuel = f + 1 := ⟨fuel - 1, by omega⟩
    rw [p_X8_runAll_88]
    try dsimp only
    rw [if_neg (show ¬ (4 : Int32) ≤ nI k from nI_ge (b := 4) (by omega) (by omega)), oi_n (show k < 4 by omega) (by decide), nI_clamp (show k < 2 ^ 31 by omega), os_s, nI_1]
    exact ih (k + 1) f _ (by omega) (by omega) (zf_s hz (by decide) _ _) (fun j hj => sI_lt (p := fun x => x = 0) h rfl hj)
theorem runAll_67 {s0 : SS} : ∀ (r k fuel : Nat) (s : SS), k + r = 16 → r < fuel → zf [33] s0 s → (∀ j, j < k → s.1 33 j = 0) → ∃ s', p_X8_runAll_67 fuel (nI k) s = p_X8_runAll_88 100000 0 s' ∧ zf [33] s0 s' ∧ ∀ j, j < 16 → s'.1 33 j = 0 := by
  intro r
  induction r with
  | zero =>
    intro k fuel s hk hf hz h
    obtain ⟨f, rfl⟩ : ∃ f, fuel = f + 1 := ⟨fuel - 1, by omega⟩
    refine ⟨s, ?_, hz, fun j hj => h j (by omega)⟩
    rw [p_X8_runAll_67]
    try dsimp only
    rw [if_pos (show (16 : Int32) ≤ nI k from nI_le (a := 16) (by omega) (by omega))]
  | succ r ih =>
    intro k fuel s hk hf hz h
    obtain ⟨f, rfl⟩ : ∃ f, fuel = f + 1 := ⟨fuel - 1, by omega⟩
    rw [p_X8_runAll_67]
    try dsimp only
    rw [if_neg (show ¬ (16 : Int32) ≤ nI k from nI_ge (b := 16) (by omega) (by omega)), oi_n (show k < 16 by omega) (by decide), nI_clamp (show k < 2 ^ 31 by omega), os_s, nI_1]
    exact ih (k + 1) f _ (by omega) (by omega) (zf_s hz (by decide) _ _) (fun j hj => sI_lt (p := fun x => x = 0) h rfl hj)
theorem runAll_46 {s0 : SS} : ∀ (r k fuel : Nat) (s : SS), k + r = 48 → r < fuel → zf [32] s0 s → (∀ j, j < k → s.1 32 j = 0) → ∃ s', p_X8_runAll_46 fuel (nI k) s = p_X8_runAll_67 100000 0 s' ∧ zf [32] s0 s' ∧ ∀ j, j < 48 → s'.1 32 j = 0 := by
  intro r
  induction r with
  | zero =>
    intro k fuel s hk hf hz h
    obtain ⟨f, rfl⟩ : ∃ f, fuel = f + 1 := ⟨fuel - 1, by omega⟩
    refine ⟨s, ?_, hz, fun j hj => h j (by omega)⟩
    rw [p_X8_runAll_46]
    try dsimp only
    rw [if_pos (show (48 : Int32) ≤ nI k from nI_le (a := 48) (by omega) (by omega))]
  | succ r ih =>
    intro k fuel s hk hf hz h
    obtain ⟨f, rfl⟩ : ∃ f, fuel = f + 1 := ⟨fuel - 1, by omega⟩
    rw [p_X8_runAll_46]
    try dsimp only
    rw [if_neg (show ¬ (48 : Int32) ≤ nI k from nI_ge (b := 48) (by omega) (by omega)), oi_n (show k < 48 by omega) (by decide), nI_clamp (show k < 2 ^ 31 by omega), os_s, nI_1]
    exact ih (k + 1) f _ (by omega) (by omega) (zf_s hz (by decide) _ _) (fun j hj => sI_lt (p := fun x => x = 0) h rfl hj)
def inR (τ : SS) (v : Int64) : SS := sI (sI (sI (sI (sI (sI (sI (sL τ 0 38 v) 0 39 0) 0 40 0) 0 41 0) 0 42 (-1)) 0 43 1) 0 47 0) 0 37 0
/-- the run on both sides -/
theorem sim_run {σ τ : SS} {nt nm no : Nat} (hI : Inv σ τ nt nm no) (v : Int64) : ∃ σ' τ0 τ', p_X2_play_0 v σ = some σ' ∧ p_X8_runAll_0 v τ = some τ' ∧ RS τ0.1 nt nm σ τ0 σ' τ' 0 ∧ same τ τ0 ∧ gM τ0 τ0.1 nt nm ∧ Inv σ' τ' nt nm no := by
  obtain ⟨τ0, q1, q2, q3, q4⟩ := i_freshen hI
  have hW := Inv1_W q2.1
  have h48 := hW.2.1.1
  have hc : Cx τ0.1 nt nm no σ τ0 := ⟨hW, q2.1.2.2, Inv1_C q2.1, q3, rfl⟩
  have ho := q2.1.1.2.2.2.1
  have kt0 : kt nt τ0 τ0 := ⟨fun _ _ _ => rfl, fun _ _ => rfl, ho⟩
  have ktI : kt nt τ0 (inR τ0 v) := kt_s0 (kt_s0 (kt_s0 (kt_s0 (kt_s0 (kt_s0 (kt_s0 (kt_sL kt0 0 38 v) (by decide) _) (by decide) _) (by decide) _) (by decide) _) (by decide) _) (by decide) _) (by decide) _
  obtain ⟨a1, b1, c1, d1⟩ := runAll_46 (s0 := inR τ0 v) 48 0 100000 (inR τ0 v) (by omega) (by omega) (zf_rf _ _) (fun j hj => by omega)
  obtain ⟨a2, b2', c2, d2⟩ := runAll_67 (s0 := a1) 16 0 100000 a1 (by omega) (by omega) (zf_rf _ _) (fun j hj => by omega)
  obtain ⟨a3, b3, c3, d3⟩ := runAll_88 (s0 := a2) 4 0 100000 a2 (by omega) (by omega) (zf_rf _ _) (fun j hj => by omega)
  have hz : zf [32, 33, 36] (inR τ0 v) a3 := zf_tr (zf_tr (zf_up c1 (by decide)) (zf_up c2 (by decide))) (zf_up c3 (by decide))
  have hc0 : a3.1 0 = (inR τ0 v).1 0 := hz.2 0 (by decide)
  have kt3 : kt nt τ0 a3 := by
    refine ⟨fun c h0 h1 => (hz.2 c (fun q => h1 ?_)).trans (ktI.1 c h0 h1), fun j hj => by rw [hc0]; exact ktI.2.1 j hj, okU_c ktI.2.2 (by rw [hc0]) (hz.2 21 (by decide)) (und_c (hz.2 2 (by decide)) (hz.2 3 (by decide)) (hz.2 4 (by decide)))⟩
    have : ∀ x ∈ [32, 33, 36], x ∈ sK := by decide
    exact this c q
  have e32 : ∀ j, j < 48 → a3.1 32 j = 0 := fun j hj => by rw [c3.2 32 (by decide), c2.2 32 (by decide)]; exact d1 j hj
  have e33 : ∀ j, j < 16 → a3.1 33 j = 0 := fun j hj => by rw [c3.2 33 (by decide)]; exact d2 j hj
  have hR : RS τ0.1 nt nm σ τ0 (sL (clR σ) 6 8 v) a3 0 := by
    refine ⟨kr_clR σ v, kt3, ?_, ⟨0, by decide, rfl, by rw [hc0]; rfl⟩, by rw [hc0]; rfl, by rw [hc0]; rfl, fun k hk => ?_, fun k hk => ?_, fun k hk => ?_, fun k hk => ?_, ⟨0, by decide, rfl, by rw [hc0]; rfl, fun i hi => by omega⟩, fun a ha => ⟨0, ?_, ?_, ?_, fun i hi => by omega⟩, by rw [hc0]; rfl, by rw [hc0]; rfl, fun o ho m hm => ?_⟩
    · rw [sL_at, hz.1]; rfl
    · rw [e32 k hk]
      show (0 : Int32) = b2 (lb 0 k)
      rw [lb_0]; rfl
    · exact (no_lb (k := k) hk).elim
    · rw [e33 k hk]
      show (0 : Int32) = b2 (lb 0 k)
      rw [lb_0]; rfl
    · exact (no_lb (k := k) hk).elim
    · show (if a < 4 then (0 : Int32) else σ.1 31 a) = nI 0
      rw [if_pos ha]; rfl
    · exact d3 a ha
    · refine (cn_zero (fun j _ => pb_f.mpr ?_)).symm
      rintro ⟨i, h, _⟩; omega
    · have e : (sL (clR σ) 6 8 v).2 32 o = (if o < 160 then 0 else σ.2 32 o) := rfl
      rw [e, if_pos ho] at hm
      exact (no_lb hm).elim
  obtain ⟨σ', τ', y1, y2, y3⟩ := sim_play hc nm 0 100000 100000 (sL (clR σ) 6 8 v) a3 (by omega) (by omega) (by omega) hR (by rw [hc0]; rfl)
  refine ⟨σ', τ0, τ', ?_, ?_, y3, q4, q3, ?_⟩
  · unfold p_X2_play_0
    rw [oc_s (k_clearR σ), os_s]
    exact y1
  · unfold p_X8_runAll_0
    rw [oc_s q1, os_s, os_s, os_s, os_s, os_s, os_s, os_s, os_s]
    exact b1.trans (b2'.trans (b3.trans y2))
  · have hs := kt_same y3.2.1
    have i1 := Inv1_same q2.1 hs y3.2.1.2.2
    refine ⟨Inv1_mk (Inv1_W i1) y3.2.1.2.2 (kr_CI y3.1 (Inv1_C i1)) i1.2.1 i1.2.2, ?_, Or.inr ⟨?_, gM_ag (kt_gM y3.2.1 q3) hs.1⟩⟩
    · rw [y3.1.1 5 (by decide)]
      exact q2.2.1.elim Or.inl (fun w => Or.inr ⟨w.1, gC_ag (kr_gC y3.1 w.2) hs.1⟩)
    · rw [y3.2.1.2.1 16 (by decide)]
      obtain ⟨τ1, z1, z2, -⟩ := m_freshen (Inv1_W hI.1) hI.1.2.2 hI.1.1.2.2.2.1 hI.2.2
      have : τ1 = τ0 := Option.some.inj (z1.symm.trans q1)
      rw [← this]; exact z2
theorem run_64 {s : SS} {nt : Nat} (h16 : nt ≤ 16) (h0 : s.1 0 0 = nI nt) {g : Nat → Bool} (hg : ∀ k, k < 16 → s.1 33 k = b2 (g k)) (v3 v4 : Int32) : ∀ (r k fuel : Nat), k + r = nt → r < fuel → p_X8_run_64 fuel v3 v4 (nI (cn g k)) (nI k) s = (if v3 = 0 then p_X8_run_158 (s.1 0 39) s else if v3 = 1 then p_X8_run_158 v4 s else if v3 = 2 then p_X8_run_158 (s.1 0 47) s else if v3 = 3 then p_X8_run_158 (nI (cn g nt)) s else if v3 = 4 then p_X8_run_158 (s.1 0 41) s else p_X8_run_158 (s.1 0 42) s) := by
  intro r
  induction r with
  | zero =>
    intro k fuel hk hf
    obtain ⟨f, rfl⟩ : ∃ f, fuel = f + 1 := ⟨fuel - 1, by omega⟩
    have e : k = nt := by omega
    subst e
    rw [p_X8_run_64]
    try dsimp only
    rw [h0, if_pos (nI_le (Nat.le_refl _) (by omega))]
  | succ r ih =>
    intro k fuel hk hf
    obtain ⟨f, rfl⟩ : ∃ f, fuel = f + 1 := ⟨fuel - 1, by omega⟩
    rw [← ih (k + 1) f (by omega) (by omega), p_X8_run_64]
    try dsimp only
    unfold p_X8_run_90
    rw [h0, if_neg (nI_ge (by omega) (by omega)), oi_n (show k < 16 by omega) (by decide), nI_clamp (show k < 2 ^ 31 by omega), hg k (by omega), nI_1, nI_1, show nI (cn g k) + 0 = nI (cn g k) from nI_add _ 0]
    cases hb : g k with
    | false => rw [if_pos (show b2 false = 0 from rfl), cn_s.2 hb]
    | true => rw [if_neg (show ¬ b2 true = 0 by decide), cn_s.1 hb]
theorem run_23 {s : SS} {nm : Nat} (h48 : nm ≤ 48) (h5 : s.1 0 5 = nI nm) {g : Nat → Bool} (hg : ∀ k, k < 48 → s.1 32 k = b2 (g k)) (v3 : Int32) : ∀ (r k fuel : Nat), k + r = nm → r < fuel → p_X8_run_23 fuel v3 (nI (cn g k)) (nI k) s = p_X8_run_64 100000 v3 (nI (cn g nm)) 0 0 s := by
  intro r
  induction r with
  | zero =>
    intro k fuel hk hf
    obtain ⟨f, rfl⟩ : ∃ f, fuel = f + 1 := ⟨fuel - 1, by omega⟩
    have e : k = nm := by omega
    subst e
    rw [p_X8_run_23]
    try dsimp only
    rw [h5, if_pos (nI_le (Nat.le_refl _) (by omega))]
  | succ r ih =>
    intro k fuel hk hf
    obtain ⟨f, rfl⟩ : ∃ f, fuel = f + 1 := ⟨fuel - 1, by omega⟩
    rw [← ih (k + 1) f (by omega) (by omega), p_X8_run_23]
    try dsimp only
    unfold p_X8_run_49
    rw [h5, if_neg (nI_ge (by omega) (by omega)), oi_n (show k < 48 by omega) (by decide), nI_clamp (show k < 2 ^ 31 by omega), hg k (by omega), nI_1, nI_1, show nI (cn g k) + 0 = nI (cn g k) from nI_add _ 0]
    cases hb : g k with
    | false => rw [if_pos (show b2 false = 0 from rfl), cn_s.2 hb]
    | true => rw [if_neg (show ¬ b2 true = 0 by decide), cn_s.1 hb]
theorem cn_bd {x : Int64} {n : Nat} (hn : n ≤ 64) (h : ∀ k, lb x k = true → k < n) : cn (lb x) 64 = cn (lb x) n := cn_out (fun k h1 h2 => by
  cases hb : lb x k with
  | false => rfl
  | true => have := h k hb; omega) hn
theorem q_run {σ τ : SS} {nt nm no : Nat} (hI : Inv σ τ nt nm no) (v1 : Int64) (v3 : Int32) : ∃ r σ' τ', p_X7_run_0 v1 v3 σ = some (r, σ') ∧ p_X8_run_0 v1 v3 τ = some (r, τ') ∧ Inv σ' τ' nt nm no := by
  have h16 := hI.1.1.1.1
  have h48 := hI.1.1.2.1.1
  unfold p_X7_run_0 p_X8_run_0
  generalize hB : (oc (p_X2_play_0 v1 σ) (fun r_17 => (if v3 = 0 then oc (p_X2_steps_0 r_17) (fun r_60 => some (r_60, r_17)) else if v3 = 1 then oc (p_X2_ran_0 r_17) (fun r_68 => oc (p_J13_bitCount_95d88_0 r_68) (fun r_71 => some (r_71, r_17))) else if v3 = 2 then oc (p_X2_poolSize_0 r_17) (fun r_79 => some (r_79, r_17)) else if v3 = 3 then oc (p_X2_begunTypes_0 r_17) (fun r_87 => oc (p_J13_bitCount_95d88_0 r_87) (fun r_90 => some (r_90, r_17))) else if v3 = 4 then oc (p_X2_leftCalls_0 r_17) (fun r_98 => some (r_98, r_17)) else oc (p_X2_latest_0 r_17) (fun r_106 => some (r_106, r_17))))) = B
  obtain ⟨k1, k2⟩ := rng (n := 5) (c := 5) rfl (by decide) v3 (p_X7_run_9 σ) B
  rcases (show (∃ n, n < 6 ∧ v3 = nI n ∧ p_X8_in_0 v3 0 5 = some 1) ∨ ((¬ ∃ n, n < 6 ∧ v3 = nI n) ∧ p_X8_in_0 v3 0 5 = some 0) from m_in0 (n := 6) (by decide) v3) with ⟨n, hn, en, e1⟩ | ⟨hno, e1⟩
  · rw [k1 ⟨n, hn, en⟩, ← hB, oc_s e1, if_neg n10]
    obtain ⟨σ', τ0, τ', q1, q2, hR, q4, q5, q6⟩ := sim_run hI v1
    rw [oc_s q1, oc_s q2]
    have hW := Inv1_W q6.1
    obtain ⟨-, -, -, ⟨st, -, s1, s2⟩, hl, hla, hr1, hr2, hb1, hb2, ⟨pc, -, p1, p2, -⟩, -, -, -, -⟩ := hR
    have e23 := run_23 h48 hW.2.1.2.1 hr1 v3 nm 0 100000 (by omega) (by omega)
    have e64 := run_64 h16 hW.1.2.1 hb1 v3 (nI (cn (lb (σ'.2 6 9)) nm)) nt 0 100000 (by omega) (by omega)
    rw [show p_X8_run_23 100000 v3 0 0 τ' = _ from e23.trans e64]
    by_cases e0 : v3 = 0
    · rw [if_pos e0, if_pos e0, oc_s (show p_X2_steps_0 σ' = some (σ'.1 6 12) from rfl), s1, s2]
      exact ⟨_, σ', τ', rfl, rfl, q6⟩
    · rw [if_neg e0, if_neg e0]
      by_cases e1 : v3 = 1
      · rw [if_pos e1, if_pos e1, oc_s (show p_X2_ran_0 σ' = some (σ'.2 6 9) from rfl), oc_s (p_bitCount _), cn_bd (n := nm) (by omega) (fun k hk => (LG_lt (hr2 k hk)).1 rfl)]
        exact ⟨_, σ', τ', rfl, rfl, q6⟩
      · rw [if_neg e1, if_neg e1]
        by_cases e2 : v3 = 2
        · rw [if_pos e2, if_pos e2, oc_s (show p_X2_poolSize_0 σ' = some (σ'.1 6 11) from rfl), p1, p2]
          exact ⟨_, σ', τ', rfl, rfl, q6⟩
        · rw [if_neg e2, if_neg e2]
          by_cases e3 : v3 = 3
          · rw [if_pos e3, if_pos e3, oc_s (show p_X2_begunTypes_0 σ' = some (σ'.2 6 10) from rfl), oc_s (p_bitCount _), cn_bd (n := nt) (by omega) (fun k hk => (LG_lt (hb2 k hk)).2.2.1 rfl)]
            exact ⟨_, σ', τ', rfl, rfl, q6⟩
          · rw [if_neg e3, if_neg e3]
            by_cases e4 : v3 = 4
            · rw [if_pos e4, if_pos e4, oc_s (show p_X2_leftCalls_0 σ' = some (σ'.1 6 13) from rfl), hl]
              exact ⟨_, σ', τ', rfl, rfl, q6⟩
            · rw [if_neg e4, if_neg e4, oc_s (show p_X2_latest_0 σ' = some (σ'.1 6 14) from rfl), hla]
              exact ⟨_, σ', τ', rfl, rfl, q6⟩
  · rw [k2 hno, oc_s e1, if_pos rfl]
    exact ⟨-102, σ, τ, rfl, rfl, hI⟩
theorem within_t {x y : Int64} (h : ∀ k, lb x k = true → lb y k = true) : p_X0_within_0 x y = some 1 := by
  obtain ⟨b, q1, q2⟩ := p_within x y
  have : b = true := q2.mpr (fun k _ hk => h k hk)
  rw [q1, this]
  rfl
theorem pooled_4 {P : Nat → Nat → Int32} {nt nm pc : Nat} (h16 : nt ≤ 16) {σ : SS} (hp : pc ≤ 20) (h11 : σ.1 6 11 = nI pc) (hpl : ∀ i, i < pc → ∃ c, c < nt ∧ LG P nt nm 1 c 0 ∧ σ.1 29 i = nI c) : ∀ (r i fuel : Nat) (x : Int64), i + r = pc → r < fuel → (∀ k, lb x k = true → LG P nt nm 1 k 0) → ∃ x', p_X2_pooledClasses_4 σ fuel x (nI i) = some x' ∧ ∀ k, lb x' k = true → LG P nt nm 1 k 0 := by
  intro r
  induction r with
  | zero =>
    intro i fuel x hi hf hx
    obtain ⟨f, rfl⟩ : ∃ f, fuel = f + 1 := ⟨fuel - 1, by omega⟩
    have e : i = pc := by omega
    subst e
    refine ⟨x, ?_, hx⟩
    rw [p_X2_pooledClasses_4]
    try dsimp only
    rw [h11, if_pos (nI_le (Nat.le_refl _) (by omega))]
  | succ r ih =>
    intro i fuel x hi hf hx
    obtain ⟨f, rfl⟩ : ∃ f, fuel = f + 1 := ⟨fuel - 1, by omega⟩
    obtain ⟨c, c1, c2, c3⟩ := hpl i (by omega)
    rw [p_X2_pooledClasses_4]
    try dsimp only
    rw [h11, if_neg (nI_ge (by omega) (by omega)), oi_n (show i < 20 by omega) (by decide), nI_clamp (show i < 2 ^ 31 by omega), c3, with_s, oc_s rfl, nI_1]
    exact ih (i + 1) f _ (by omega) (by omega) (fun k hk => lb_new (p := fun k => LG P nt nm 1 k 0) (show c < 64 by omega) hx c2 hk)
theorem callsHold_2 {P : Nat → Nat → Int32} {nt nm no : Nat} (h160 : no ≤ 160) {σ : SS} (hs : σ.1 4 5 = nI no) (hg : gC σ P nt nm) (ht : ∀ o, o < 160 → ∀ m, lb (σ.2 32 o) m = true → LG P nt nm 4 o m) : ∀ (r k fuel : Nat), k + r = no → r < fuel → p_X7_callsHold_2 σ fuel (nI k) = some 1 := by
  intro r
  induction r with
  | zero =>
    intro k fuel hk hf
    obtain ⟨f, rfl⟩ : ∃ f, fuel = f + 1 := ⟨fuel - 1, by omega⟩
    have e : k = no := by omega
    subst e
    rw [p_X7_callsHold_2]
    try dsimp only
    rw [oc_s (show p_X5_size_0 σ = some (nI k) by unfold p_X5_size_0; rw [hs]), if_pos (nI_le (Nat.le_refl _) (by omega))]
  | succ r ih =>
    intro k fuel hk hf
    obtain ⟨f, rfl⟩ : ∃ f, fuel = f + 1 := ⟨fuel - 1, by omega⟩
    have h1 : p_X2_triedBy_0 σ (nI k) = some (σ.2 32 k) := by
      unfold p_X2_triedBy_0
      rw [oi_n (show k < 160 by omega) (by decide), nI_clamp (show k < 2 ^ 31 by omega)]
    have h2 : p_X3_calleesOf_0 σ (nI k) = some (σ.2 25 k) := by
      unfold p_X3_calleesOf_0
      rw [oi_n (show k < 160 by omega) (by decide), nI_clamp (show k < 2 ^ 31 by omega)]
    rw [p_X7_callsHold_2]
    try dsimp only
    rw [oc_s (show p_X5_size_0 σ = some (nI no) by unfold p_X5_size_0; rw [hs]), if_neg (nI_ge (by omega) (by omega)), oc_s h1, oc_s h2, oc_s (within_t (fun m hm => by rw [gC_c hg (show k < 160 by omega)]; exact pb_t.mpr (ht k (by omega) m hm))), if_neg n10, nI_1]
    exact ih (k + 1) f (by omega) (by omega)
theorem q_holds {σ τ : SS} {nt nm no : Nat} (hI : Inv σ τ nt nm no) (v : Int64) : ∃ r σ' τ', p_X7_holds_0 v σ = some (r, σ') ∧ p_X8_holds_0 v τ = some (r, τ') ∧ Inv σ' τ' nt nm no := by
  have h16 := hI.1.1.1.1
  have h48 := hI.1.1.2.1.1
  obtain ⟨σ1, w1, w2, w3, w4⟩ := i_refresh hI
  obtain ⟨σ', τ0, τ', q1, q2, hR, q4, q5, q6⟩ := sim_run w2 v
  have hag : ag τ.1 τ0.1 := q4.1
  have hgC : gC σ' τ0.1 nt nm := kr_gC hR.1 (gC_ag w3 hag)
  obtain ⟨hkr, -, -, -, -, -, -, hr2, -, hb2, ⟨pc, p0, p1, p2, p3⟩, -, h43, -, htr⟩ := hR
  have hC' := Inv1_C q6.1
  have h160 := (Inv1_W q6.1).2.2.1
  obtain ⟨x, x1, x2⟩ := pooled_4 (P := τ0.1) (nm := nm) h16 p0 p1 (fun i hi => by
    obtain ⟨c, c1, c2, c3, -⟩ := p3 i hi
    exact ⟨c, c1, c2, c3⟩) pc 0 100000 0 (by omega) (by omega) (fun k hk => (no_lb hk).elim)
  have x1' : p_X2_pooledClasses_0 σ' = some x := x1
  have hch : p_X7_callsHold_0 σ' = some 1 := callsHold_2 h160 hC'.2.2.1.1 hgC htr no 0 100000 (by omega) (by omega)
  unfold p_X7_holds_0 p_X8_holds_0
  rw [oc_s w1, oc_s q1, oc_s (show p_X2_ran_0 σ' = some (σ'.2 6 9) from rfl), oc_s (show p_X3_reached_0 σ' = some (σ'.2 5 9) from rfl), oc_s (within_t (fun k hk => by rw [gC_r hgC]; exact pb_t.mpr (hr2 k hk))), if_neg n10, oc_s (show p_X2_begunTypes_0 σ' = some (σ'.2 6 10) from rfl), oc_s (show p_X3_begunTypes_0 σ' = some (σ'.2 5 11) from rfl), oc_s (within_t (fun k hk => by rw [gC_b hgC]; exact pb_t.mpr (hb2 k hk))), if_neg n10, oc_s x1', oc_s (show p_X3_madeClasses_0 σ' = some (σ'.2 5 10) from rfl), oc_s (within_t (fun k hk => by rw [gC_m hgC]; exact pb_t.mpr (x2 k hk))), if_neg n10, oc_s hch, if_neg n10, oc_s q2, h43, ob_ok (Or.inr rfl)]
  exact ⟨1, σ', τ', ob_ok (Or.inr rfl), rfl, q6⟩
