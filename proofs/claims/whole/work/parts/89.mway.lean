/-! pure: the reference's way -/
def FS (D : Nat → Nat → Prop) (nm m : Nat) (s : SS) (F : Nat → Nat) : Prop := F m = 0 ∧ ∀ j, j < nm → s.1 27 j = nI (F j) ∧ F j ≤ 99 ∧ (F j < 99 → wk D (F j) j m)
theorem far_54 (k35 : Int32 → SS → Option SS) (k43 : Int32 → Int32 → SS → Option SS) {P : Nat → Nat → Int32} {nt nm m k : Nat} (h48 : nm ≤ 48) (hm : m < nm) (hk : k < nm) {s0 : SS} (h5 : s0.1 0 5 = nI nm) (hg : gM s0 P nt nm) : ∀ (r c fuel : Nat) (s : SS) (F : Nat → Nat) (v2 : Int32), c + r = nm → r < fuel → zf [27] s0 s → FS (dirP P nt nm) nm m s F →
    ∃ s' F' v2', p_X8_findFar_54 k35 k43 fuel v2 (nI k) (nI c) s = k43 v2' (nI (k + 1)) s' ∧ zf [27] s0 s' ∧ FS (dirP P nt nm) nm m s' F' ∧ ((v2' = v2 ∧ F' = F ∧ ∀ c', c ≤ c' → c' < nm → F c' + 1 < F k → ¬ dirP P nt nm k c') ∨ (v2' = 1 ∧ sm F' nm < sm F nm)) := by
  intro r
  induction r with
  | zero =>
    intro c fuel s F v2 hc hf hz hF
    obtain ⟨f, rfl⟩ : ∃ f, fuel = f + 1 := ⟨fuel - 1, by omega⟩
    have e : c = nm := by omega
    subst e
    refine ⟨s, F, v2, ?_, hz, hF, Or.inl ⟨rfl, rfl, fun c' h1 h2 => by omega⟩⟩
    rw [p_X8_findFar_54]
    try dsimp only
    rw [hz.2 0 (by decide), h5, if_pos (nI_le (Nat.le_refl _) (by omega)), nI_1]
  | succ r ih =>
    intro c fuel s F v2 hc hf hz hF
    obtain ⟨f, rfl⟩ : ∃ f, fuel = f + 1 := ⟨fuel - 1, by omega⟩
    have hcn : c < nm := by omega
    obtain ⟨ek, lk, wk1⟩ := hF.2 k hk
    obtain ⟨ec, lc, wc⟩ := hF.2 c hcn
    have hcal : p_X8_isCallee_0 s (nI k) (nI c) = some (b2 (pb (dirP P nt nm k c))) := by
      unfold p_X8_isCallee_0
      rw [hz.2 26 (by decide)]
      exact m_isCallee h48 hk hcn hg
    rw [p_X8_findFar_54]
    try dsimp only
    unfold p_X8_findFar_108
    rw [hz.2 0 (by decide), h5, if_neg (nI_ge hcn (by omega)), oi_n (show c < 48 by omega) (by decide), oi_n (show k < 48 by omega) (by decide), oi_n (show c < 48 by omega) (by decide), oi_n (show k < 48 by omega) (by decide), nI_clamp (show c < 2 ^ 31 by omega), nI_clamp (show k < 2 ^ 31 by omega), ek, ec, oc_s hcal, nI_1, nI_1]
    have skip : (F c + 1 < F k → ¬ dirP P nt nm k c) → ∃ s' F' v2', p_X8_findFar_54 k35 k43 f v2 (nI k) (nI (c + 1)) s = k43 v2' (nI (k + 1)) s' ∧ zf [27] s0 s' ∧ FS (dirP P nt nm) nm m s' F' ∧ ((v2' = v2 ∧ F' = F ∧ ∀ c', c ≤ c' → c' < nm → F c' + 1 < F k → ¬ dirP P nt nm k c') ∨ (v2' = 1 ∧ sm F' nm < sm F nm)) := by
      intro hn
      obtain ⟨s', F', v2', q1, q2, q3, q4⟩ := ih (c + 1) f s F v2 (by omega) (by omega) hz hF
      refine ⟨s', F', v2', q1, q2, q3, q4.elim (fun ⟨a, b, w⟩ => Or.inl ⟨a, b, fun c' h1 h2 h3 => ?_⟩) Or.inr⟩
      by_cases e : c' = c
      · subst e; exact hn h3
      · exact w c' (by omega) h2 h3
    by_cases hle : F k ≤ F c + 1
    · rw [if_pos (nI_le hle (by omega))]
      exact skip (fun q => by omega)
    · rw [if_neg (nI_ge (by omega) (by omega))]
      by_cases hd : dirP P nt nm k c
      · rw [pb_t.mpr hd, if_neg (show ¬ b2 true = 0 by decide), os_s]
        have hkm : k ≠ m := fun q => by rw [q, hF.1] at hle; omega
        have hF2 : FS (dirP P nt nm) nm m (sI s 27 k (nI (F c + 1))) (fun j => if j = k then F c + 1 else F j) := by
          refine ⟨by dsimp only; rw [if_neg (fun q => hkm q.symm)]; exact hF.1, fun j hj => ?_⟩
          rw [sI_p, pI_at]
          dsimp only
          by_cases e : j = k
          · rw [e, upd_at, if_pos rfl]
            exact ⟨rfl, by omega, fun _ => ⟨c, hd, wc (by omega)⟩⟩
          · rw [upd_ne e, if_neg e]
            exact hF.2 j hj
        have hsum : sm (fun j => if j = k then F c + 1 else F j) nm < sm F nm := by
          have := sm_upd (f := fun j => if j = k then F c + 1 else F j) (g := F) (c := F k - (F c + 1)) hk (fun j _ hne => by rw [if_neg hne]) (by rw [if_pos rfl]; omega)
          omega
        obtain ⟨s', F', v2', q1, q2, q3, q4⟩ := ih (c + 1) f _ _ 1 (by omega) (by omega) (zf_s hz (by decide) k (nI (F c + 1))) hF2
        refine ⟨s', F', v2', q1, q2, q3, Or.inr ?_⟩
        rcases q4 with ⟨a, b, -⟩ | ⟨a, b⟩
        · exact ⟨a, by rw [b]; exact hsum⟩
        · exact ⟨a, by omega⟩
      · rw [pb_f.mpr hd, if_pos (show b2 false = 0 from rfl)]
        exact skip (fun _ => hd)
theorem far_43 (k35 : Int32 → SS → Option SS) {P : Nat → Nat → Int32} {nt nm m : Nat} (h48 : nm ≤ 48) (hm : m < nm) {s0 : SS} (h5 : s0.1 0 5 = nI nm) (hg : gM s0 P nt nm) : ∀ (r k fuel : Nat) (s : SS) (F : Nat → Nat) (v2 : Int32), k + r = nm → r < fuel → zf [27] s0 s → FS (dirP P nt nm) nm m s F →
    ∃ s' F' v2', p_X8_findFar_43 k35 fuel v2 (nI k) s = k35 v2' s' ∧ zf [27] s0 s' ∧ FS (dirP P nt nm) nm m s' F' ∧ ((v2' = v2 ∧ F' = F ∧ ∀ k' c', k ≤ k' → k' < nm → c' < nm → F c' + 1 < F k' → ¬ dirP P nt nm k' c') ∨ (v2' = 1 ∧ sm F' nm < sm F nm)) := by
  intro r
  induction r with
  | zero =>
    intro k fuel s F v2 hc hf hz hF
    obtain ⟨f, rfl⟩ : ∃ f, fuel = f + 1 := ⟨fuel - 1, by omega⟩
    have e : k = nm := by omega
    subst e
    refine ⟨s, F, v2, ?_, hz, hF, Or.inl ⟨rfl, rfl, fun k' c' h1 h2 => by omega⟩⟩
    rw [p_X8_findFar_43]
    try dsimp only
    rw [hz.2 0 (by decide), h5, if_pos (nI_le (Nat.le_refl _) (by omega))]
  | succ r ih =>
    intro k fuel s F v2 hc hf hz hF
    obtain ⟨f, rfl⟩ : ∃ f, fuel = f + 1 := ⟨fuel - 1, by omega⟩
    have hkn : k < nm := by omega
    obtain ⟨s1, F1, v1, q1, q2, q3, q4⟩ := far_54 k35 (p_X8_findFar_43 k35 f) h48 hm hkn h5 hg nm 0 100000 s F v2 (by omega) (by omega) hz hF
    obtain ⟨s2, F2, v3, z1, z2, z3, z4⟩ := ih (k + 1) f s1 F1 v1 (by omega) (by omega) q2 q3
    refine ⟨s2, F2, v3, ?_, z2, z3, ?_⟩
    · rw [p_X8_findFar_43]
      try dsimp only
      rw [hz.2 0 (by decide), h5, if_neg (nI_ge hkn (by omega))]
      exact q1.trans z1
    · rcases q4 with ⟨a1, a2, a3⟩ | ⟨a1, a2⟩
      · subst a1; subst a2
        rcases z4 with ⟨b1, b2', b3⟩ | ⟨b1, b2'⟩
        · refine Or.inl ⟨b1, b2', fun k' c' h1 h2 h3 h4 => ?_⟩
          by_cases e : k' = k
          · subst e; exact a3 c' (Nat.zero_le _) h3 h4
          · exact b3 k' c' (by omega) h2 h3 h4
        · exact Or.inr ⟨b1, b2'⟩
      · rcases z4 with ⟨b1, b2', b3⟩ | ⟨b1, b2'⟩
        · exact Or.inr ⟨b1.trans a1, by rw [b2']; exact a2⟩
        · exact Or.inr ⟨b1, by omega⟩
theorem far_35 {P : Nat → Nat → Int32} {nt nm m : Nat} (h48 : nm ≤ 48) (hm : m < nm) {s0 : SS} (h5 : s0.1 0 5 = nI nm) (hg : gM s0 P nt nm) : ∀ (r fuel : Nat) (s : SS) (F : Nat → Nat), sm F nm ≤ r → r + 1 < fuel → zf [27] s0 s → FS (dirP P nt nm) nm m s F →
    ∃ s' F', p_X8_findFar_35 fuel 1 s = some s' ∧ zf [27] s0 s' ∧ FS (dirP P nt nm) nm m s' F' ∧ ∀ k c, k < nm → c < nm → dirP P nt nm k c → F' k ≤ F' c + 1 := by
  intro r
  induction r with
  | zero =>
    intro fuel s F hr hf hz hF
    obtain ⟨f, rfl⟩ : ∃ f, fuel = f + 1 + 1 := ⟨fuel - 2, by omega⟩
    obtain ⟨s1, F1, v1, q1, q2, q3, q4⟩ := far_43 (p_X8_findFar_35 (f + 1)) h48 hm h5 hg nm 0 100000 s F 0 (by omega) (by omega) hz hF
    rcases q4 with ⟨a1, a2, a3⟩ | ⟨a1, a2⟩
    · refine ⟨s1, F1, ?_, q2, q3, fun k c h1 h2 h3 => ?_⟩
      · rw [p_X8_findFar_35]
        try dsimp only
        rw [if_neg n10]
        refine q1.trans ?_
        rw [a1, p_X8_findFar_35]
        try dsimp only
        rw [if_pos rfl]
      · rw [a2]
        exact Nat.le_of_not_lt (fun w => a3 k c (Nat.zero_le _) h1 h2 w h3)
    · omega
  | succ r ih =>
    intro fuel s F hr hf hz hF
    obtain ⟨f, rfl⟩ : ∃ f, fuel = f + 1 + 1 := ⟨fuel - 2, by omega⟩
    obtain ⟨s1, F1, v1, q1, q2, q3, q4⟩ := far_43 (p_X8_findFar_35 (f + 1)) h48 hm h5 hg nm 0 100000 s F 0 (by omega) (by omega) hz hF
    rcases q4 with ⟨a1, a2, a3⟩ | ⟨a1, a2⟩
    · refine ⟨s1, F1, ?_, q2, q3, fun k c h1 h2 h3 => ?_⟩
      · rw [p_X8_findFar_35]
        try dsimp only
        rw [if_neg n10]
        refine q1.trans ?_
        rw [a1, p_X8_findFar_35]
        try dsimp only
        rw [if_pos rfl]
      · rw [a2]
        exact Nat.le_of_not_lt (fun w => a3 k c (Nat.zero_le _) h1 h2 w h3)
    · obtain ⟨s2, F2, z1, z2, z3⟩ := ih (f + 1) s1 F1 (by omega) (by omega) q2 q3
      refine ⟨s2, F2, ?_, z2, z3⟩
      rw [p_X8_findFar_35]
      try dsimp only
      rw [if_neg n10, ← z1, ← a1]
      exact q1
theorem far_2 {nm m : Nat} (h48 : nm ≤ 48) (hm : m < nm) {s0 : SS} (h5 : s0.1 0 5 = nI nm) : ∀ (r k fuel : Nat) (s : SS), k + r = nm → r < fuel → zf [27] s0 s → (∀ j, j < k → s.1 27 j = nI (if j = m then 0 else 99)) → ∃ s', p_X8_findFar_2 fuel (nI m) (nI k) s = p_X8_findFar_35 100000 1 s' ∧ zf [27] s0 s' ∧ ∀ j, j < nm → s'.1 27 j = nI (if j = m then 0 else 99) := by
  intro r
  induction r with
  | zero =>
    intro k fuel s hk hf hz h
    obtain ⟨f, rfl⟩ : ∃ f, fuel = f + 1 := ⟨fuel - 1, by omega⟩
    have e : k = nm := by omega
    subst e
    refine ⟨s, ?_, hz, h⟩
    rw [p_X8_findFar_2]
    try dsimp only
    rw [hz.2 0 (by decide), h5, if_pos (nI_le (Nat.le_refl _) (by omega))]
  | succ r ih =>
    intro k fuel s hk hf hz h
    obtain ⟨f, rfl⟩ : ∃ f, fuel = f + 1 := ⟨fuel - 1, by omega⟩
    have hkn : k < nm := by omega
    have go : ∀ x : Nat, x = (if k = m then 0 else 99) → ∃ s', p_X8_findFar_26 (p_X8_findFar_2 f) (nI m) (nI k) (nI x) (nI k) s = p_X8_findFar_35 100000 1 s' ∧ zf [27] s0 s' ∧ ∀ j, j < nm → s'.1 27 j = nI (if j = m then 0 else 99) := by
      intro x hx
      rw [p_X8_findFar_26, oi_n (show k < 48 by omega) (by decide), nI_clamp (show k < 2 ^ 31 by omega), os_s, nI_1]
      refine ih (k + 1) f _ (by omega) (by omega) (zf_s hz (by decide) _ _) (fun j hj => ?_)
      rw [sI_p, pI_at]
      by_cases e : j = k
      · rw [e, upd_at, hx]
      · rw [upd_ne e]; exact h j (by omega)
    rw [p_X8_findFar_2]
    try dsimp only
    rw [hz.2 0 (by decide), h5, if_neg (nI_ge hkn (by omega))]
    by_cases e : k = m
    · rw [if_pos (by rw [e])]
      exact go 0 (by rw [if_pos e])
    · rw [if_neg (fun q => e ((nI_eq (by omega) (by omega)).mp q))]
      exact go 99 (by rw [if_neg e])
theorem sm_le {f : Nat → Nat} {n B : Nat} (h : ∀ k, k < n → f k ≤ B) : sm f n ≤ B * n := by
  induction n with
  | zero => exact Nat.zero_le _
  | succ n ih =>
    have h1 := ih (fun k hk => h k (by omega))
    have h2 := h n (by omega)
    show sm f n + f n ≤ B * (n + 1)
    rw [Nat.mul_succ]
    omega
/-- the reference's distances -/
theorem m_findFar {P : Nat → Nat → Int32} {nt nm m : Nat} (h48 : nm ≤ 48) (hm : m < nm) {s : SS} (h5 : s.1 0 5 = nI nm) (hg : gM s P nt nm) : ∃ s' F, p_X8_findFar_0 (nI m) s = some s' ∧ zf [27] s s' ∧ FS (dirP P nt nm) nm m s' F ∧ ∀ d k, k < nm → wk (dirP P nt nm) d k m → F k ≤ d := by
  obtain ⟨s1, q1, q2, q3⟩ := far_2 h48 hm (s0 := s) h5 nm 0 100000 s (by omega) (by omega) (zf_rf _ _) (fun j hj => by omega)
  have hF : FS (dirP P nt nm) nm m s1 (fun j => if j = m then 0 else 99) := by
    refine ⟨if_pos rfl, fun j hj => ⟨q3 j hj, ?_, ?_⟩⟩
    · dsimp only
      by_cases e : j = m
      · rw [if_pos e]; omega
      · rw [if_neg e]; omega
    · dsimp only
      by_cases e : j = m
      · rw [if_pos e]; exact fun _ => e
      · rw [if_neg e]; intro q; omega
  have hs : sm (fun j => if j = m then 0 else 99) nm ≤ 99 * nm := sm_le (fun k hk => by
    by_cases e : k = m
    · rw [if_pos e]; omega
    · rw [if_neg e]; omega)
  obtain ⟨s2, F, z1, z2, z3, z4⟩ := far_35 h48 hm h5 hg 4752 100000 s1 _ (by omega) (by omega) q2 hF
  refine ⟨s2, F, q1.trans z1, z2, z3, fun d => ?_⟩
  induction d with
  | zero =>
    intro k hk w
    have e : k = m := w
    rw [e, z3.1]
    exact Nat.le_refl _
  | succ d ih =>
    rintro k hk ⟨j, w1, w2⟩
    have hj := dir_lt w1
    have h1 := ih j hj w2
    have h2 := z4 k j hk hj w1
    omega
/-- the root that is next -/
def bst (R : Nat → Prop) (F : Nat → Nat) (k nm : Nat) (v : Int32) : Prop := (v = -1 ∧ ∀ j, k ≤ j → j < nm → ¬ R j) ∨ ∃ a, k ≤ a ∧ a < nm ∧ R a ∧ v = nI a ∧ ∀ j, k ≤ j → j < nm → R j → F a ≤ F j ∧ (F j = F a → a ≤ j)
theorem way_45 {P : Nat → Nat → Int32} {nm : Nat} (h48 : nm ≤ 48) {s : SS} {F : Nat → Nat} (h8 : ∀ m, m < nm → s.1 8 m = P 8 m ∧ (P 8 m = 0 ∨ P 8 m = 1)) (hF : ∀ j, j < nm → s.1 27 j = nI (F j) ∧ F j ≤ 99) (v2 : Int32) : ∀ (k fuel : Nat) (v3 : Int32), k ≤ nm → k < fuel → bst (fun j => P 8 j = 1) F k nm v3 → ∃ v3' f, p_X8_way_45 fuel v2 v3 (nI k + (-1)) s = p_X8_way_45 (f + 1) v2 v3' (-1) s ∧ bst (fun j => P 8 j = 1) F 0 nm v3' := by
  intro k
  induction k with
  | zero =>
    intro fuel v3 hk hf hb
    obtain ⟨f, rfl⟩ : ∃ f, fuel = f + 1 := ⟨fuel - 1, by omega⟩
    exact ⟨v3, f, rfl, hb⟩
  | succ k ih =>
    intro fuel v3 hk hf hb
    obtain ⟨f, rfl⟩ : ∃ f, fuel = f + 1 := ⟨fuel - 1, by omega⟩
    have hkn : k < nm := by omega
    obtain ⟨e8, c8⟩ := h8 k hkn
    obtain ⟨e27, l27⟩ := hF k hkn
    rw [pk_m1, p_X8_way_45]
    try dsimp only
    unfold p_X8_way_86 p_X8_way_81 p_X8_way_87
    rw [if_neg (nI_pos (by omega)), oi_n (show k < 48 by omega) (by decide), oi_n (show k < 48 by omega) (by decide), nI_clamp (show k < 2 ^ 31 by omega), e8, e27]
    rcases c8 with c8 | c8
    · rw [if_pos c8]
      refine ih f v3 (by omega) (by omega) ?_
      have hno : ¬ P 8 k = 1 := by rw [c8]; decide
      rcases hb with ⟨h1, h2⟩ | ⟨a, h1, h2, h3, h4, h5⟩
      · refine Or.inl ⟨h1, fun j w1 w2 => ?_⟩
        by_cases e : j = k
        · rw [e]; exact hno
        · exact h2 j (by omega) w2
      · refine Or.inr ⟨a, by omega, h2, h3, h4, fun j w1 w2 w3 => ?_⟩
        by_cases e : j = k
        · rw [e] at w3; exact absurd w3 hno
        · exact h5 j (by omega) w2 w3
    · rw [c8, if_neg n10]
      rcases hb with ⟨h1, h2⟩ | ⟨a, h1, h2, h3, h4, h5⟩
      · rw [if_pos h1]
        refine ih f (nI k) (by omega) (by omega) (Or.inr ⟨k, Nat.le_refl _, hkn, c8, rfl, fun j w1 w2 w3 => ?_⟩)
        by_cases e : j = k
        · rw [e]; exact ⟨Nat.le_refl _, fun _ => Nat.le_refl _⟩
        · exact absurd w3 (h2 j (by omega) w2)
      · obtain ⟨ea, la⟩ := hF a h2
        rw [if_neg (show ¬ v3 = -1 from fun q => nI_m1 (u := a) (by omega) (by rw [← q, h4])), h4, oi_n (show a < 48 by omega) (by decide), nI_clamp (show a < 2 ^ 31 by omega), ea]
        by_cases hlt : F a < F k
        · rw [if_pos (nI_lt hlt (by omega))]
          refine ih f (nI a) (by omega) (by omega) (Or.inr ⟨a, by omega, h2, h3, rfl, fun j w1 w2 w3 => ?_⟩)
          by_cases e : j = k
          · rw [e]; exact ⟨by omega, fun q => by omega⟩
          · exact h5 j (by omega) w2 w3
        · rw [if_neg (nI_nlt (by omega) (by omega))]
          refine ih f (nI k) (by omega) (by omega) (Or.inr ⟨k, Nat.le_refl _, hkn, c8, rfl, fun j w1 w2 w3 => ?_⟩)
          by_cases e : j = k
          · rw [e]; exact ⟨Nat.le_refl _, fun _ => Nat.le_refl _⟩
          · have := h5 j (by omega) w2 w3
            exact ⟨by omega, fun q => by omega⟩
/-- the least callee that is one call nearer -/
theorem way_126 (k109 : Int32 → Int32 → Int32 → SS → Option (Int32 × SS)) {P : Nat → Nat → Int32} {nt nm a e : Nat} (h48 : nm ≤ 48) (ha : a < nm) {s : SS} {F : Nat → Nat} (hcal : ∀ k c, k < nm → c < nm → p_X8_isCallee_0 s (nI k) (nI c) = some (b2 (pb (dirP P nt nm k c)))) (hF : ∀ j, j < nm → s.1 27 j = nI (F j) ∧ F j ≤ 99) (he : F a = e + 1) (v2 v4 : Int32) : ∀ (k fuel : Nat) (v5 : Int32), k ≤ nm → k < fuel → isLe (fun c => pb (dirP P nt nm a c ∧ F c = e)) k nm v5 → ∃ v5', p_X8_way_126 k109 fuel v2 (nI a) v4 v5 (nI k + (-1)) s = k109 v2 v5' (v4 + 1) s ∧ isLe (fun c => pb (dirP P nt nm a c ∧ F c = e)) 0 nm v5' := by
  intro k
  induction k with
  | zero =>
    intro fuel v5 hk hf hb
    obtain ⟨f, rfl⟩ : ∃ f, fuel = f + 1 := ⟨fuel - 1, by omega⟩
    refine ⟨v5, ?_, hb⟩
    rw [p_X8_way_126]
    try dsimp only
    rw [if_pos (by decide)]
  | succ k ih =>
    intro fuel v5 hk hf hb
    obtain ⟨f, rfl⟩ : ∃ f, fuel = f + 1 := ⟨fuel - 1, by omega⟩
    have hkn : k < nm := by omega
    obtain ⟨ek, lk⟩ := hF k hkn
    obtain ⟨ea, la⟩ := hF a ha
    have st := isLe_step hb hkn
    have hsub : nI (F a) - 1 = nI e := by rw [he, ← nI_1, Int32.add_sub_cancel]
    rw [pk_m1, p_X8_way_126]
    try dsimp only
    unfold p_X8_way_164 p_X8_way_166
    rw [if_neg (nI_pos (by omega)), oi_n (show k < 48 by omega) (by decide), oi_n (show a < 48 by omega) (by decide), nI_clamp (show k < 2 ^ 31 by omega), nI_clamp (show a < 2 ^ 31 by omega), ek, ea, hsub, oc_s (hcal a k ha hkn)]
    by_cases h1 : F k = e
    · rw [if_pos (by rw [h1])]
      by_cases h2 : dirP P nt nm a k
      · rw [pb_t.mpr h2, if_neg (show ¬ b2 true = 0 by decide)]
        exact ih f (nI k) (by omega) (by omega) (st.1 (pb_t.mpr ⟨h2, h1⟩))
      · rw [pb_f.mpr h2, if_pos (show b2 false = 0 from rfl)]
        exact ih f v5 (by omega) (by omega) (st.2 (pb_f.mpr (fun q => h2 q.1)))
    · rw [if_neg (fun q => h1 ((nI_eq (by omega) (by omega)).mp q))]
      exact ih f v5 (by omega) (by omega) (st.2 (pb_f.mpr (fun q => h1 q.2)))
theorem way_109 {P : Nat → Nat → Int32} {nt nm m d i : Nat} (h48 : nm ≤ 48) {s : SS} {F : Nat → Nat} {R : Nat → Prop} (h5 : s.1 0 5 = nI nm) (hcal : ∀ k c, k < nm → c < nm → p_X8_isCallee_0 s (nI k) (nI c) = some (b2 (pb (dirP P nt nm k c)))) (hF : ∀ j, j < nm → s.1 27 j = nI (F j) ∧ F j ≤ 99 ∧ (F j < 99 → wk (dirP P nt nm) (F j) j m)) (hmin : ∀ d k, k < nm → wk (dirP P nt nm) d k m → F k ≤ d) (hd : d < 48) (hi : i ≤ d) : ∀ (r n fuel a : Nat), n + r = i → r < fuel → Wy (dirP P nt nm) R nm m d n a → F a = d - n → ∃ x, p_X8_way_109 fuel (nI i) (nI a) (nI n) s = some (nI x, s) ∧ Wy (dirP P nt nm) R nm m d i x := by
  intro r
  induction r with
  | zero =>
    intro n fuel a hn hf hw hFa
    obtain ⟨f, rfl⟩ : ∃ f, fuel = f + 1 := ⟨fuel - 1, by omega⟩
    have e : n = i := by omega
    subst e
    refine ⟨a, ?_, hw⟩
    rw [p_X8_way_109]
    try dsimp only
    rw [if_pos (nI_le (Nat.le_refl _) (by omega))]
  | succ r ih =>
    intro n fuel a hn hf hw hFa
    obtain ⟨f, rfl⟩ : ∃ f, fuel = f + 1 := ⟨fuel - 1, by omega⟩
    have ha := (Wy_lt n a (by omega) hw).1
    obtain ⟨c0, w1, w2, w3⟩ := Wy_next (fun k j w => dir_lt w) (by omega) hw
    have key : ∀ c, c < nm → dirP P nt nm a c → (F c = d - (n + 1) ↔ wk (dirP P nt nm) (d - (n + 1)) c m) := by
      intro c hc hdir
      constructor
      · intro e
        rw [← e]
        exact (hF c hc).2.2 (by omega)
      · intro w
        have h1 := hmin _ c hc w
        have h2 := hmin (F c + 1) a ha ⟨c, hdir, (hF c hc).2.2 (by omega)⟩
        omega
    obtain ⟨v5', q1, q2⟩ := way_126 (p_X8_way_109 f) (e := d - (n + 1)) h48 ha hcal (fun j hj => ⟨(hF j hj).1, (hF j hj).2.1⟩) (by omega) (nI i) (nI n) nm 100000 (-1) (Nat.le_refl _) (by omega) (Or.inl ⟨rfl, fun j h1 h2 => by omega⟩)
    rcases q2 with ⟨-, q2⟩ | ⟨c, -, hc, q3, q4, q5⟩
    · have := q2 c0 (Nat.zero_le _) w1
      exact absurd ⟨w2, (key c0 w1 w2).mpr w3⟩ (pb_f.mp this)
    · obtain ⟨p1, p2⟩ := pb_t.mp q3
      have hl : lst (fun c => dirP P nt nm a c ∧ wk (dirP P nt nm) (d - (n + 1)) c m) nm c := ⟨hc, ⟨p1, (key c hc p1).mp p2⟩, fun j hj w => pb_f.mp (q4 j (Nat.zero_le _) hj) ⟨w.1, (key j (by omega) w.1).mpr w.2⟩⟩
      obtain ⟨x, z1, z2⟩ := ih (n + 1) f c (by omega) (by omega) ⟨a, hw, hl⟩ p2
      refine ⟨x, ?_, z2⟩
      rw [p_X8_way_109]
      try dsimp only
      rw [if_neg (nI_ge (by omega) (by omega)), h5, show nI nm - 1 = nI nm + (-1) from by rw [Int32.sub_eq_add_neg]]
      refine q1.trans ?_
      rw [q5, nI_1]
      exact z1
theorem zf27_gM {s s' : SS} {P : Nat → Nat → Int32} {nt nm : Nat} (hz : zf [27] s s') (hg : gM s P nt nm) : gM s' P nt nm := by
  have hc : ∀ c, c ≠ 27 → s'.1 c = s.1 c := fun c h => hz.2 c (fun q => h (by simpa using q))
  refine ⟨(SM_same (fun q hq => hc (14 + q) (by omega))).trans hg.1, fun q hq => by rw [hc (14 + q) (by omega)]; exact hg.2.1 q hq, ?_, ?_, ?_⟩
  · unfold FM
    rw [hc 19 (by decide)]
    exact hg.2.2.1
  · rw [hc 26 (by decide)]; exact hg.2.2.2.1
  · rw [hc 25 (by decide)]; exact hg.2.2.2.2
theorem m_way {P : Nat → Nat → Int32} {nt nm no m : Nat} (hW : WF P nt nm no) (hm : m < nm) {s : SS} (h5 : s.1 0 5 = nI nm) (h8 : s.1 8 = P 8) (hg : gM s P nt nm) (v : Int32) : ∃ r s', oi (nI m) 48 (if (s.1 14 (nI m).toNatClampNeg) = 0 then p_X8_way_28 s else if 0 ≤ v then oc (p_X8_findFar_0 (nI m) s) (fun r_32 => p_X8_way_45 100000 v (-1) ((r_32.1 0 5) - 1) r_32) else p_X8_way_28 s) = some (r, s') ∧ zf [27] s s' ∧ isWay P nt nm m v r := by
  have h48 := hW.2.1.1
  rw [oi_n (show m < 48 by omega) (by decide), nI_clamp (show m < 2 ^ 31 by omega), gM_r hg (show m < 48 by omega)]
  by_cases hr : LG P nt nm 0 m 0
  · rw [pb_t.mpr hr, if_neg (show ¬ b2 true = 0 by decide)]
    by_cases hv : v < 0
    · rw [if_neg (Int32.not_le.mpr hv)]
      exact ⟨-1, s, rfl, zf_rf _ _, Or.inl ⟨rfl, Or.inr hv⟩⟩
    · rw [if_pos (Int32.not_lt.mp hv)]
      obtain ⟨i, hi, e⟩ := nI_of hv
      obtain ⟨d, hd, hrt⟩ := rtd_of h48 hr
      obtain ⟨s1, F, q1, q2, q3, q4⟩ := m_findFar h48 hm h5 hg
      have h5' : s1.1 0 5 = nI nm := by rw [q2.2 0 (by decide)]; exact h5
      have hcal : ∀ k c, k < nm → c < nm → p_X8_isCallee_0 s1 (nI k) (nI c) = some (b2 (pb (dirP P nt nm k c))) := fun k c hk hc => m_isCallee h48 hk hc (zf27_gM q2 hg)
      obtain ⟨v3, f, y1, y2⟩ := way_45 (P := P) h48 (s := s1) (F := F) (fun j hj => ⟨by rw [q2.2 8 (by decide), h8], (hW.2.1.2.2.1 j hj).2.2⟩) (fun j hj => ⟨(q3.2 j hj).1, (q3.2 j hj).2.1⟩) v nm 100000 (-1) (Nat.le_refl _) (by omega) (Or.inl ⟨rfl, fun j h1 h2 => by omega⟩)
      obtain ⟨r0, ⟨a1, a2⟩, a3⟩ := id hrt.1
      rcases y2 with ⟨-, y2⟩ | ⟨a, -, b1, b2', b3, b4⟩
      · exact absurd a2 (y2 r0 (Nat.zero_le _) a1)
      · have hFr := q4 d r0 a1 a3
        have hFa : F a = d := by
          have h1 := (b4 r0 (Nat.zero_le _) a1 a2).1
          have h2 := (q3.2 a b1).2.2 (by omega)
          by_cases q : F a < d
          · exact absurd h2 (hrt.2 (F a) a q ⟨b1, b2'⟩)
          · omega
        have hW0 : Wy (dirP P nt nm) (fun k => k < nm ∧ P 8 k = 1) nm m d 0 a := by
          refine ⟨b1, ⟨⟨b1, b2'⟩, by rw [← hFa]; exact (q3.2 a b1).2.2 (by omega)⟩, fun j hj w => ?_⟩
          have h1 := q4 d j w.1.1 w.2
          have h2 := b4 j (Nat.zero_le _) w.1.1 w.1.2
          have := h2.2 (by omega)
          omega
        have hcode : ∀ x, p_X8_way_45 (f + 1) v v3 (-1) s1 = x → oc (p_X8_findFar_0 (nI m) s) (fun r_32 => p_X8_way_45 100000 v (-1) ((r_32.1 0 5) - 1) r_32) = x := by
          intro x hx
          rw [oc_s q1, h5', show nI nm - 1 = nI nm + (-1) from by rw [Int32.sub_eq_add_neg]]
          exact y1.trans hx
        have hlast : p_X8_way_45 (f + 1) v v3 (-1) s1 = if v ≤ nI d then p_X8_way_109 100000 v (nI a) 0 s1 else some (-1, s1) := by
          rw [p_X8_way_45]
          try dsimp only
          rw [if_pos (by decide), b3, oi_n (show a < 48 by omega) (by decide), nI_clamp (show a < 2 ^ 31 by omega), (q3.2 a b1).1, hFa]
        by_cases hle : i ≤ d
        · obtain ⟨x, z1, z2⟩ := way_109 (R := fun k => k < nm ∧ P 8 k = 1) h48 h5' hcal q3.2 q4 hd hle i 0 100000 a (by omega) (by omega) hW0 (by omega)
          refine ⟨nI x, s1, hcode _ ?_, q2, Or.inr ⟨hr, i, d, e, hi, hrt, Or.inr ⟨hle, x, rfl, z2⟩⟩⟩
          rw [hlast, if_pos (show v ≤ nI d by rw [e]; exact nI_le hle (by omega)), e]
          exact z1
        · refine ⟨-1, s1, hcode _ ?_, q2, Or.inr ⟨hr, i, d, e, hi, hrt, Or.inl ⟨by omega, rfl⟩⟩⟩
          rw [hlast, if_neg (show ¬ v ≤ nI d by rw [e]; exact nI_ge (by omega) hi)]
  · rw [pb_f.mpr hr, if_pos (show b2 false = 0 from rfl)]
    exact ⟨-1, s, rfl, zf_rf _ _, Or.inl ⟨rfl, Or.inl hr⟩⟩
theorem q_way {σ τ : SS} {nt nm no : Nat} (hI : Inv σ τ nt nm no) (v1 v2 : Int32) : ∃ r σ' τ', p_X7_way_0 v1 v2 σ = some (r, σ') ∧ p_X8_way_0 v1 v2 τ = some (r, τ') ∧ Inv σ' τ' nt nm no := by
  have h48 := hI.1.1.2.1.1
  unfold p_X7_way_0 p_X8_way_0
  rcases m_isMember hI.1.1.2.1 v1 with ⟨m, hm, rfl, e1⟩ | ⟨hn, e1⟩
  · rw [oc_s e1, oc_s ((k_knowsM (Inv1_C hI.1).2.1 h48 (nI m)).1 ⟨m, hm, rfl⟩), if_neg n10, if_neg n10]
    obtain ⟨σ1, q1, q2, q3, q3'⟩ := i_refresh hI
    obtain ⟨τ1, w1, w2, w3, w4⟩ := i_freshen q2
    have q4 := gC_ag q3 w4.1
    have hW := Inv1_W w2.1
    have hC := Inv1_C w2.1
    obtain ⟨r, g, y1, y2⟩ := k_onWay h48 hm hC.2.1.1 q4 hC.2.1.2.2.2.2.2.2.2.2 v2
    obtain ⟨r', s', z1, z2, z3⟩ := m_way hW hm hW.2.1.2.1 rfl w3 v2
    have hz : ∀ c, c ≠ 27 → s'.1 c = τ1.1 c := fun c h => z2.2 c (fun q => h (by simpa using q))
    have hsame : same τ1 s' := ⟨fun c h0 h1 => hz c (by omega), by rw [hz 0 (by decide)], by rw [hz 0 (by decide)], by rw [hz 0 (by decide)]⟩
    have hok : okU s'.1 nt := okU_c w2.1.1.2.2.2.1 (by rw [hz 0 (by decide)]) (hz 21 (by decide)) (und_c (hz 2 (by decide)) (hz 3 (by decide)) (hz 4 (by decide)))
    have h16f : τ1.1 0 16 = 1 → s'.1 0 16 = 1 := fun h => by rw [hz 0 (by decide)]; exact h
    have hk : kg sH σ1 (pL σ1 28 g) := ⟨rfl, fun c hc => pL_ne σ1 g (fun e => hc (by rw [e]; decide))⟩
    rw [oc_s q1, oc_s w1, oc_s y1]
    refine ⟨r, pL σ1 28 g, s', rfl, by rw [isWay_one y2 z3]; exact z1, ?_, Or.inr ⟨q3', gC_ag (gC_28 q4 g) hsame.1⟩, ?_⟩
    · have i1 := Inv1_same w2.1 hsame hok
      exact Inv1_mk (Inv1_W i1) hok (kg_CIh hk (Inv1_C i1)) i1.2.1 i1.2.2
    · rcases w2.2.2 with h | ⟨h, -⟩
      · exact Or.inl (by rw [hz 0 (by decide)]; exact h)
      · exact Or.inr ⟨h16f h, gM_ag (zf27_gM z2 w3) hsame.1⟩
  · rw [oc_s e1, oc_s ((k_knowsM (Inv1_C hI.1).2.1 h48 v1).2 hn), if_pos rfl, if_pos rfl]
    exact ⟨-101, σ, τ, rfl, rfl, hI⟩
