/-! pure: the reference's passes come to the graph -/
def FA (P : Nat → Nat → Int32) (nm : Nat) (s : SS) : Prop := ∀ o b, o < 160 → b < 4 → s.1 19 (4 * o + b) = 0 ∨ ∃ m, m < nm ∧ SM s 0 m 0 ∧ ofM P m o
def PS (P : Nat → Nat → Int32) (nt nm : Nat) (s0 s : SS) (D : Nat → Prop) : Prop := (∃ E, gr P nt E (s.1 19) s0 s) ∧ PD P nt nm D (SM s0) (SM s) ∧ FA P nm s ∧ (sub3 (SM s) (SM s0) → ∀ o, D o → o < 160 → ∀ b, b < 4 → s.1 19 (4 * o + b) = nI (fcN P nt nm (SM s0) o b))
theorem sub3_eq {A B : G3} (h : sub3 A B) (g : sub3 B A) : A = B := by
  funext q i j
  exact propext ⟨h q i j, g q i j⟩
theorem PS_w {P : Nat → Nat → Int32} {nt nm : Nat} {s0 s : SS} {D D' : Nat → Prop} (h : PS P nt nm s0 s D) (hD : ∀ o, D' o → D o) : PS P nt nm s0 s D' := ⟨h.1, PD_w h.2.1 hD, h.2.2.1, fun w o ho => h.2.2.2 w o (hD o ho)⟩
theorem PS_s {P : Nat → Nat → Int32} {nt nm no m o : Nat} (hW : WF P nt nm no) {s0 s : SS} {D : Nat → Prop} (h : PS P nt nm s0 s D) (hc : crS (SM s0)) (hm : m < nm) (hr : SM s 0 m 0) (ho : o < no) (hof : ofM P m o) : ∃ s', p_X8_follow_0 (nI o) s = some s' ∧ PS P nt nm s0 s' (fun x => D x ∨ x = o) ∧ SM s' 0 m 0 := by
  have h160 := hW.2.2.1
  obtain ⟨⟨E, hg⟩, hP, hA, hF⟩ := h
  obtain ⟨s', q1, q2⟩ := m_follow hW ho hg.2.1
  have hcS : crS (SM s) := hP.2.2.1 hc
  have sS : sub3 (SM s) (SM s') := gr_sub q2
  have hT : Tr P nt nm (SM s) o (SM s') := by
    refine ⟨sS, fun q i j w => ?_, fun q i j w => (q2.2.2.1 q i j).mpr (Or.inr (Or.inl w)), fun i w => ?_⟩
    · rcases (q2.2.2.1 q i j).mp w with w | w | ⟨w1, w2, w3⟩
      · exact Or.inl w
      · exact Or.inr (Or.inl w)
      · exact Or.inr (Or.inr ⟨w1, w2, Or.inr w3⟩)
    · rcases (q2.2.2.1 4 o i).mp w with w | w | ⟨w, -⟩
      · exact sS _ _ _ (hcS o i w)
      · exact (q2.2.2.1 0 i 0).mpr (Or.inr (Or.inr ⟨rfl, rfl, w⟩))
      · cases w
  have h19 : s'.1 19 = fF (s.1 19) o (fcN P nt nm (SM s) o) := q2.2.2.2.2
  have hne : ∀ o' b, b < 4 → o' ≠ o → s'.1 19 (4 * o' + b) = s.1 19 (4 * o' + b) := fun o' b hb hn => by
    rw [h19]
    unfold fF
    rw [if_neg (by omega)]
  refine ⟨s', q1, ⟨⟨_, by rw [h19]; exact gr_tr hg q2⟩, PD_s hP hT hm hr hof, fun o' b ho' hb => ?_, fun w o' ho' h1 b hb => ?_⟩, sS _ _ _ hr⟩
  · by_cases e : o' = o
    · exact Or.inr ⟨m, hm, sS _ _ _ hr, by rw [e]; exact hof⟩
    · rw [hne o' b hb e]
      rcases hA o' b ho' hb with w | ⟨m', w1, w2, w3⟩
      · exact Or.inl w
      · exact Or.inr ⟨m', w1, sS _ _ _ w2, w3⟩
  · have e0 : SM s = SM s0 := sub3_eq (sub3_tr sS w) hP.1
    by_cases e : o' = o
    · rw [e, h19, fF_at hb, e0]
    · rw [hne o' b hb e]
      rcases ho' with ho' | ho'
      · exact hF (by rw [e0]; exact sub3_rf _) o' ho' h1 b hb
      · exact absurd ho' e
theorem SM_0 {s : SS} {m : Nat} (hm : m < 48) : SM s 0 m 0 ↔ s.1 14 m = 1 := ⟨fun h => h.2, fun h => ⟨⟨rfl, hm⟩, h⟩⟩
theorem freshen_178 (k154 : SS → Option SS) (k168 : Int32 → SS → Option SS) {P : Nat → Nat → Int32} {nt nm no m c : Nat} (hW : WF P nt nm no) (hm : m < nm) (h9 : P 9 m = nI c) (hc : c ≤ 24) {s0 : SS} (hcr : crS (SM s0)) : ∀ (r i fuel : Nat) (s : SS) (D : Nat → Prop), i + r = c → r < fuel → PS P nt nm s0 s D → SM s 0 m 0 →
    ∃ s', p_X8_freshen_178 k154 k168 fuel (nI m) (nI i) s = k168 (nI (m + 1)) s' ∧ PS P nt nm s0 s' (fun o => D o ∨ ∃ i', i ≤ i' ∧ i' < c ∧ P 10 (24 * m + i') = nI o ∧ o < 160) := by
  have h48 := hW.2.1.1
  have h160 := hW.2.2.1
  have hm48 : m < 48 := by omega
  intro r
  induction r with
  | zero =>
    intro i fuel s D hi hf hP hr
    obtain ⟨f, rfl⟩ : ∃ f, fuel = f + 1 := ⟨fuel - 1, by omega⟩
    obtain ⟨E, hg⟩ := hP.1
    refine ⟨s, ?_, PS_w hP (fun o h => h.elim id (fun ⟨i', h1, h2, _⟩ => by omega))⟩
    rw [p_X8_freshen_178]
    try dsimp only
    rw [oi_n hm48 (by decide), nI_clamp (show m < 2 ^ 31 by omega), hg.2.1.1 9 (by decide) (by decide), h9, if_pos (nI_le (by omega) (by omega))]
    unfold p_X8_freshen_218
    rw [nI_1]
  | succ r ih =>
    intro i fuel s D hi hf hP hr
    obtain ⟨f, rfl⟩ : ∃ f, fuel = f + 1 := ⟨fuel - 1, by omega⟩
    obtain ⟨E, hg⟩ := id hP.1
    obtain ⟨c', w1, w2, -, w4⟩ := hW.2.2.2.2.1 m hm
    have hcc : c' = c := (nI_eq (by omega) (by omega)).mp (w2.symm.trans h9)
    subst hcc
    obtain ⟨o, ho, h10⟩ := w4 i (by omega)
    obtain ⟨s1, e1, e2, e3⟩ := PS_s hW hP hcr hm hr ho ⟨c', i, h9, hc, by omega, h10, by omega⟩
    obtain ⟨s', q1, q2⟩ := ih (i + 1) f s1 _ (by omega) (by omega) e2 e3
    refine ⟨s', ?_, PS_w q2 (fun o' h => ?_)⟩
    · rw [p_X8_freshen_178]
      try dsimp only
      rw [oi_n hm48 (by decide), nI_clamp (show m < 2 ^ 31 by omega), hg.2.1.1 9 (by decide) (by decide), h9, if_neg (nI_ge (by omega) (by omega)), oi_n hm48 (by decide), (SM_0 hm48).mp hr, if_neg n10, c24, oi_n (show 24 * m + i < 1152 by omega) (by decide), nI_clamp (show 24 * m + i < 2 ^ 31 by omega), hg.2.1.1 10 (by decide) (by decide), h10, oc_s e1, nI_1]
      exact q1
    · rcases h with h | ⟨i', h1, h2, h3, h4⟩
      · exact Or.inl (Or.inl h)
      · by_cases e : i' = i
        · subst e
          exact Or.inl (Or.inr ((nI_eq (by omega) (by omega)).mp (h3.symm.trans h10)))
        · exact Or.inr ⟨i', by omega, h2, h3, h4⟩
theorem freshen_168 (k154 : SS → Option SS) {P : Nat → Nat → Int32} {nt nm no : Nat} (hW : WF P nt nm no) {s0 : SS} (hcr : crS (SM s0)) : ∀ (r k fuel : Nat) (s : SS), k + r = nm → r < fuel → PS P nt nm s0 s (fun o => ∃ m, m < k ∧ SM s0 0 m 0 ∧ ofM P m o) →
    ∃ s', p_X8_freshen_168 k154 fuel (nI k) s = k154 s' ∧ PS P nt nm s0 s' (fun o => ∃ m, m < nm ∧ SM s0 0 m 0 ∧ ofM P m o) := by
  have h48 := hW.2.1.1
  intro r
  induction r with
  | zero =>
    intro k fuel s hk hf hP
    obtain ⟨f, rfl⟩ : ∃ f, fuel = f + 1 := ⟨fuel - 1, by omega⟩
    obtain ⟨E, hg⟩ := id hP.1
    have e : k = nm := by omega
    subst e
    refine ⟨s, ?_, hP⟩
    rw [p_X8_freshen_168]
    try dsimp only
    rw [(MI_W hW hg.2.1).2.1.2.1, if_pos (nI_le (Nat.le_refl _) (by omega))]
  | succ r ih =>
    intro k fuel s hk hf hP
    obtain ⟨f, rfl⟩ : ∃ f, fuel = f + 1 := ⟨fuel - 1, by omega⟩
    obtain ⟨E, hg⟩ := id hP.1
    have hkn : k < nm := by omega
    have hk48 : k < 48 := by omega
    rw [p_X8_freshen_168]
    try dsimp only
    rw [(MI_W hW hg.2.1).2.1.2.1, if_neg (nI_ge hkn (by omega))]
    obtain ⟨c, w1, w2, -, -⟩ := hW.2.2.2.2.1 k hkn
    by_cases hr : SM s 0 k 0
    · obtain ⟨s1, q1, q2⟩ := freshen_178 k154 (p_X8_freshen_168 k154 f) hW hkn w2 w1 hcr c 0 100000 s _ (by omega) (by omega) hP hr
      obtain ⟨s', z1, z2⟩ := ih (k + 1) f s1 (by omega) (by omega) (PS_w q2 (fun o h => by
        obtain ⟨m, h1, h2, h3⟩ := h
        by_cases e : m = k
        · subst e
          obtain ⟨c', i, y1, y2, y3, y4, y5⟩ := h3
          have : c' = c := (nI_eq (by omega) (by omega)).mp (y1.symm.trans w2)
          exact Or.inr ⟨i, Nat.zero_le _, by omega, y4, y5⟩
        · exact Or.inl ⟨m, by omega, h2, h3⟩))
      exact ⟨s', by rw [← z1]; exact q1, z2⟩
    · have e0 : s.1 14 k = 0 := (hg.2.1.2.2.2.1 0 (by decide) k hk48).elim id (fun q => absurd ((SM_0 hk48).mpr q) hr)
      have e178 : p_X8_freshen_178 k154 (p_X8_freshen_168 k154 f) 100000 (nI k) 0 s = p_X8_freshen_168 k154 f (nI (k + 1)) s := by
        rw [show (100000 : Nat) = 99999 + 1 from rfl, p_X8_freshen_178]
        try dsimp only
        rw [oi_n hk48 (by decide), nI_clamp (show k < 2 ^ 31 by omega)]
        unfold p_X8_freshen_218
        rw [nI_1]
        by_cases q : s.1 9 k ≤ 0
        · rw [if_pos q]
        · rw [if_neg q, oi_n hk48 (by decide), if_pos e0]
      rw [e178]
      refine ih (k + 1) f s (by omega) (by omega) (PS_w hP (fun o h => ?_))
      obtain ⟨m, h1, h2, h3⟩ := h
      by_cases e : m = k
      · subst e
        exact absurd (hP.2.1.1 _ _ _ h2) hr
      · exact ⟨m, by omega, h2, h3⟩
/-- the FAULTS of the graph -/
def FM (P : Nat → Nat → Int32) (nt nm : Nat) (s : SS) : Prop := ∀ o b, o < 160 → b < 4 → ((∃ m, m < nm ∧ LG P nt nm 0 m 0 ∧ ofM P m o) → s.1 19 (4 * o + b) = nI (fcN P nt nm (LG P nt nm) o b)) ∧ ((¬ ∃ m, m < nm ∧ LG P nt nm 0 m 0 ∧ ofM P m o) → s.1 19 (4 * o + b) = 0)
theorem MI_17 {P : Nat → Nat → Int32} {nt : Nat} {s : SS} (h : MI P nt s) {x : Int32} (hx : x = 0 ∨ x = 1) : MI P nt (sI s 0 17 x) ∧ SM (sI s 0 17 x) = SM s ∧ (sI s 0 17 x).1 19 = s.1 19 ∧ fr s (sI s 0 17 x) ∧ (sI s 0 17 x).1 0 17 = x := by
  have hc : ∀ c, c ≠ 0 → (sI s 0 17 x).1 c = s.1 c := fun c hc => by rw [sI_p, pI_ne _ _ hc]
  have h0 : ∀ j, j ≠ 17 → (sI s 0 17 x).1 0 j = s.1 0 j := fun j hj => by rw [sI_p, pI_at, upd_ne hj]
  have h17 : (sI s 0 17 x).1 0 17 = x := by rw [sI_p, pI_at, upd_at]
  refine ⟨⟨fun c a b => (hc c a).trans (h.1 c a b), ⟨(h0 0 (by decide)).trans h.2.1.1, (h0 5 (by decide)).trans h.2.1.2.1, (h0 12 (by decide)).trans h.2.1.2.2⟩, okU_c h.2.2.1 (h0 26 (by decide)) (hc 21 (by decide)) (und_c (hc 2 (by decide)) (hc 3 (by decide)) (hc 4 (by decide))), fun q hq => ?_, ?_⟩, SM_same (fun q _ => hc (14 + q) (by omega)), hc 19 (by decide), ⟨rfl, fun c a _ => hc c a, fun j a _ => h0 j a⟩, h17⟩
  · rw [hc (14 + q) (by omega)]
    exact h.2.2.2.1 q hq
  · rw [h17]
    exact hx
theorem freshen_154 {P : Nat → Nat → Int32} {nt nm no : Nat} (hW : WF P nt nm no) : ∀ (r fuel : Nat) (s : SS), 7952 ≤ NM s + r → r + 1 < fuel → MI P nt s → sub3 (SM s) (LG P nt nm) → crS (SM s) → (∀ m, m < nm → P 8 m = 1 → SM s 0 m 0) → FA P nm s → s.1 0 17 = 1 →
    ∃ s', p_X8_freshen_154 fuel s = oc (p_X8_findComes_0 s') (fun r_228 => some r_228) ∧ fr s s' ∧ MI P nt s' ∧ SM s' = LG P nt nm ∧ FM P nt nm s' := by
  have h48 := hW.2.1.1
  intro r
  induction r with
  | zero =>
    intro fuel s hr hf hI hL hc hro hA h17
    obtain ⟨f, rfl⟩ : ∃ f, fuel = f + 1 + 1 := ⟨fuel - 2, by omega⟩
    obtain ⟨i1, i2, i3, i4, i5⟩ := MI_17 hI (x := 0) (Or.inl rfl)
    obtain ⟨s2, q1, ⟨E, hg⟩, hP, hA2, hF⟩ := freshen_168 (p_X8_freshen_154 (f + 1)) hW (s0 := sI s 0 17 0) (by rw [i2]; exact hc) nm 0 100000 (sI s 0 17 0) (by omega) (by omega) ⟨⟨_, gr_rf i1⟩, PD_w (PD_0 P nt nm _) (fun o ⟨m, h, _⟩ => by omega), fun o b ho hb => by
      rw [i3, i2]; exact hA o b ho hb, fun _ o ⟨m, h, _⟩ => by omega⟩
    have n2 := NM_le s2
    have e1 : NM (sI s 0 17 0) = NM s := Nat.le_antisymm (NM_sub (by rw [i2]; exact sub3_rf _)) (NM_sub (by rw [i2]; exact sub3_rf _))
    rcases hg.2.2.2.1 with ⟨g1, g2⟩ | ⟨g1, g2⟩
    · have eL : SM s2 = LG P nt nm := PD_end hP (by rw [i2]; exact hL) (by rw [i2]; exact hc) (by rw [i2]; exact hro) (fun q i j _ w => g2 q i j w)
      have eL' : SM (sI s 0 17 0) = LG P nt nm := (sub3_eq hP.1 g2).trans eL
      refine ⟨s2, ?_, fr_tr i4 hg.1, hg.2.1, eL, fun o b ho hb => ⟨fun w => ?_, fun w => ?_⟩⟩
      · rw [p_X8_freshen_154]
        try dsimp only
        rw [h17, if_neg n10, os_s]
        refine q1.trans ?_
        rw [p_X8_freshen_154]
        try dsimp only
        rw [g1, i5, if_pos rfl]
      · rw [hF g2 o (by rw [eL']; exact w) ho b hb, eL']
      · rcases hA2 o b ho hb with h | ⟨m, h1, h2, h3⟩
        · exact h
        · rw [eL] at h2
          exact absurd ⟨m, h1, h2, h3⟩ w
    · omega
  | succ r ih =>
    intro fuel s hr hf hI hL hc hro hA h17
    obtain ⟨f, rfl⟩ : ∃ f, fuel = f + 1 + 1 := ⟨fuel - 2, by omega⟩
    obtain ⟨i1, i2, i3, i4, i5⟩ := MI_17 hI (x := 0) (Or.inl rfl)
    obtain ⟨s2, q1, ⟨E, hg⟩, hP, hA2, hF⟩ := freshen_168 (p_X8_freshen_154 (f + 1)) hW (s0 := sI s 0 17 0) (by rw [i2]; exact hc) nm 0 100000 (sI s 0 17 0) (by omega) (by omega) ⟨⟨_, gr_rf i1⟩, PD_w (PD_0 P nt nm _) (fun o ⟨m, h, _⟩ => by omega), fun o b ho hb => by
      rw [i3, i2]; exact hA o b ho hb, fun _ o ⟨m, h, _⟩ => by omega⟩
    have n2 := NM_le s2
    have e1 : NM (sI s 0 17 0) = NM s := Nat.le_antisymm (NM_sub (by rw [i2]; exact sub3_rf _)) (NM_sub (by rw [i2]; exact sub3_rf _))
    rcases hg.2.2.2.1 with ⟨g1, g2⟩ | ⟨g1, g2⟩
    · have eL : SM s2 = LG P nt nm := PD_end hP (by rw [i2]; exact hL) (by rw [i2]; exact hc) (by rw [i2]; exact hro) (fun q i j _ w => g2 q i j w)
      have eL' : SM (sI s 0 17 0) = LG P nt nm := (sub3_eq hP.1 g2).trans eL
      refine ⟨s2, ?_, fr_tr i4 hg.1, hg.2.1, eL, fun o b ho hb => ⟨fun w => ?_, fun w => ?_⟩⟩
      · rw [p_X8_freshen_154]
        try dsimp only
        rw [h17, if_neg n10, os_s]
        refine q1.trans ?_
        rw [p_X8_freshen_154]
        try dsimp only
        rw [g1, i5, if_pos rfl]
      · rw [hF g2 o (by rw [eL']; exact w) ho b hb, eL']
      · rcases hA2 o b ho hb with h | ⟨m, h1, h2, h3⟩
        · exact h
        · rw [eL] at h2
          exact absurd ⟨m, h1, h2, h3⟩ w
    · obtain ⟨s', z1, z2, z3⟩ := ih (f + 1) s2 (by omega) (by omega) hg.2.1 (hP.2.1 (by rw [i2]; exact hL)) (hP.2.2.1 (by rw [i2]; exact hc)) (fun m hm h8 => hP.1 _ _ _ (by rw [i2]; exact hro m hm h8)) hA2 g1
      refine ⟨s', ?_, fr_tr (fr_tr i4 hg.1) z2, z3⟩
      rw [p_X8_freshen_154]
      try dsimp only
      rw [h17, if_neg n10, os_s, ← z1]
      exact q1
/-! the start of it -/
def zf (C : List Nat) (s s' : SS) : Prop := s'.2 = s.2 ∧ ∀ c, c ∉ C → s'.1 c = s.1 c
theorem zf_rf (C : List Nat) (s : SS) : zf C s s := ⟨rfl, fun _ _ => rfl⟩
theorem zf_tr {C : List Nat} {a b c : SS} (h : zf C a b) (g : zf C b c) : zf C a c := ⟨g.1.trans h.1, fun k hk => (g.2 k hk).trans (h.2 k hk)⟩
theorem zf_s {C : List Nat} {s0 s : SS} (h : zf C s0 s) {c : Nat} (hc : c ∈ C) (j : Nat) (x : Int32) : zf C s0 (sI s c j x) := ⟨h.1, fun k hk => by
  rw [sI_p, pI_ne _ _ (fun e => hk (by rw [e]; exact hc))]; exact h.2 k hk⟩
theorem zf_up {C C' : List Nat} {a b : SS} (h : zf C a b) (hs : ∀ x ∈ C, x ∈ C') : zf C' a b := ⟨h.1, fun k hk => h.2 k (fun q => hk (hs k q))⟩
theorem sI_lt {s : SS} {c k j : Nat} {x : Int32} {p : Int32 → Prop} (h : ∀ j, j < k → p (s.1 c j)) (hx : p x) (hj : j < k + 1) : p ((sI s c k x).1 c j) := by
  rw [sI_p, pI_at]
  by_cases e : j = k
  · rw [e, upd_at]; exact hx
  · rw [upd_ne e]; exact h j (by omega)
theorem freshen_129 {s0 : SS} : ∀ (r k fuel : Nat) (s : SS), k + r = 640 → r < fuel → zf [19] s0 s → (∀ j, j < k → s.1 19 j = 0) → ∃ s', p_X8_freshen_129 fuel (nI k) s = p_X8_freshen_154 100000 (sI s' 0 17 1) ∧ zf [19] s0 s' ∧ ∀ j, j < 640 → s'.1 19 j = 0 := by
  intro r
  induction r with
  | zero =>
    intro k fuel s hk hf hz h
    obtain ⟨f, rfl⟩ : ∃ f, fuel = f + 1 := ⟨fuel - 1, by omega⟩
    refine ⟨s, ?_, hz, fun j hj => h j (by omega)⟩
    rw [p_X8_freshen_129]
    try dsimp only
    rw [if_pos (show (640 : Int32) ≤ nI k from nI_le (a := 640) (by omega) (by omega)), os_s]
  | succ r ih =>
    intro k fuel s hk hf hz h
    obtain ⟨f, rfl⟩ : ∃ f, fuel = f + 1 := ⟨fuel - 1, by omega⟩
    rw [p_X8_freshen_129]
    try dsimp only
    rw [if_neg (show ¬ (640 : Int32) ≤ nI k from nI_ge (b := 640) (by omega) (by omega)), oi_n (show k < 640 by omega) (by decide), nI_clamp (show k < 2 ^ 31 by omega), os_s, nI_1]
    exact ih (k + 1) f _ (by omega) (by omega) (zf_s hz (by decide) _ _) (fun j hj => sI_lt (p := fun x => x = 0) h rfl hj)
theorem freshen_107 {s0 : SS} : ∀ (r k fuel : Nat) (s : SS), k + r = 7680 → r < fuel → zf [18] s0 s → (∀ j, j < k → s.1 18 j = 0) → ∃ s', p_X8_freshen_107 fuel (nI k) s = p_X8_freshen_129 100000 0 s' ∧ zf [18] s0 s' ∧ ∀ j, j < 7680 → s'.1 18 j = 0 := by
  intro r
  induction r with
  | zero =>
    intro k fuel s hk hf hz h
    obtain ⟨f, rfl⟩ : ∃ f, fuel = f + 1 := ⟨fuel - 1, by omega⟩
    refine ⟨s, ?_, hz, fun j hj => h j (by omega)⟩
    rw [p_X8_freshen_107]
    try dsimp only
    rw [if_pos (show (7680 : Int32) ≤ nI k from nI_le (a := 7680) (by omega) (by omega))]
  | succ r ih =>
    intro k fuel s hk hf hz h
    obtain ⟨f, rfl⟩ : ∃ f, fuel = f + 1 := ⟨fuel - 1, by omega⟩
    rw [p_X8_freshen_107]
    try dsimp only
    rw [if_neg (show ¬ (7680 : Int32) ≤ nI k from nI_ge (b := 7680) (by omega) (by omega)), oi_n (show k < 7680 by omega) (by decide), nI_clamp (show k < 2 ^ 31 by omega), os_s, nI_1]
    exact ih (k + 1) f _ (by omega) (by omega) (zf_s hz (by decide) _ _) (fun j hj => sI_lt (p := fun x => x = 0) h rfl hj)
theorem freshen_85 {s0 : SS} : ∀ (r k fuel : Nat) (s : SS), k + r = 192 → r < fuel → zf [17] s0 s → (∀ j, j < k → s.1 17 j = 0) → ∃ s', p_X8_freshen_85 fuel (nI k) s = p_X8_freshen_107 100000 0 s' ∧ zf [17] s0 s' ∧ ∀ j, j < 192 → s'.1 17 j = 0 := by
  intro r
  induction r with
  | zero =>
    intro k fuel s hk hf hz h
    obtain ⟨f, rfl⟩ : ∃ f, fuel = f + 1 := ⟨fuel - 1, by omega⟩
    refine ⟨s, ?_, hz, fun j hj => h j (by omega)⟩
    rw [p_X8_freshen_85]
    try dsimp only
    rw [if_pos (show (192 : Int32) ≤ nI k from nI_le (a := 192) (by omega) (by omega))]
  | succ r ih =>
    intro k fuel s hk hf hz h
    obtain ⟨f, rfl⟩ : ∃ f, fuel = f + 1 := ⟨fuel - 1, by omega⟩
    rw [p_X8_freshen_85]
    try dsimp only
    rw [if_neg (show ¬ (192 : Int32) ≤ nI k from nI_ge (b := 192) (by omega) (by omega)), oi_n (show k < 192 by omega) (by decide), nI_clamp (show k < 2 ^ 31 by omega), os_s, nI_1]
    exact ih (k + 1) f _ (by omega) (by omega) (zf_s hz (by decide) _ _) (fun j hj => sI_lt (p := fun x => x = 0) h rfl hj)
theorem freshen_57 {s0 : SS} : ∀ (r k fuel : Nat) (s : SS), k + r = 16 → r < fuel → zf [15, 16] s0 s → (∀ j, j < k → s.1 15 j = 0) → (∀ j, j < k → s.1 16 j = 0) → ∃ s', p_X8_freshen_57 fuel (nI k) s = p_X8_freshen_85 100000 0 s' ∧ zf [15, 16] s0 s' ∧ (∀ j, j < 16 → s'.1 15 j = 0) ∧ ∀ j, j < 16 → s'.1 16 j = 0 := by
  intro r
  induction r with
  | zero =>
    intro k fuel s hk hf hz h g
    obtain ⟨f, rfl⟩ : ∃ f, fuel = f + 1 := ⟨fuel - 1, by omega⟩
    refine ⟨s, ?_, hz, fun j hj => h j (by omega), fun j hj => g j (by omega)⟩
    rw [p_X8_freshen_57]
    try dsimp only
    rw [if_pos (show (16 : Int32) ≤ nI k from nI_le (a := 16) (by omega) (by omega))]
  | succ r ih =>
    intro k fuel s hk hf hz h g
    obtain ⟨f, rfl⟩ : ∃ f, fuel = f + 1 := ⟨fuel - 1, by omega⟩
    rw [p_X8_freshen_57]
    try dsimp only
    rw [if_neg (show ¬ (16 : Int32) ≤ nI k from nI_ge (b := 16) (by omega) (by omega)), oi_n (show k < 16 by omega) (by decide), nI_clamp (show k < 2 ^ 31 by omega), os_s, oi_n (show k < 16 by omega) (by decide), os_s, nI_1]
    refine ih (k + 1) f _ (by omega) (by omega) (zf_s (zf_s hz (by decide) _ _) (by decide) _ _) (fun j hj => ?_) (fun j hj => sI_lt (p := fun x => x = 0) (fun j hj => ?_) rfl hj)
    · rw [sI_p, pI_ne _ _ (by decide)]
      exact sI_lt (p := fun x => x = 0) h rfl hj
    · rw [sI_p, pI_ne _ _ (by decide)]
      exact g j hj
theorem freshen_15 {P : Nat → Nat → Int32} {nt nm : Nat} (hM : wfM P nt nm) {s0 : SS} (h05 : s0.1 0 5 = nI nm) (h8 : s0.1 8 = P 8) : ∀ (r k fuel : Nat) (s : SS), k + r = 48 → r < fuel → zf [14] s0 s → (∀ j, j < k → s.1 14 j = b2 (pb (j < nm ∧ P 8 j = 1))) → ∃ s', p_X8_freshen_15 fuel (nI k) s = p_X8_freshen_57 100000 0 s' ∧ zf [14] s0 s' ∧ ∀ j, j < 48 → s'.1 14 j = b2 (pb (j < nm ∧ P 8 j = 1)) := by
  have h48 := hM.1
  intro r
  induction r with
  | zero =>
    intro k fuel s hk hf hz h
    obtain ⟨f, rfl⟩ : ∃ f, fuel = f + 1 := ⟨fuel - 1, by omega⟩
    refine ⟨s, ?_, hz, fun j hj => h j (by omega)⟩
    rw [p_X8_freshen_15]
    try dsimp only
    rw [if_pos (show (48 : Int32) ≤ nI k from nI_le (a := 48) (by omega) (by omega))]
  | succ r ih =>
    intro k fuel s hk hf hz h
    obtain ⟨f, rfl⟩ : ∃ f, fuel = f + 1 := ⟨fuel - 1, by omega⟩
    have hk48 : k < 48 := by omega
    have go : ∀ x : Int32, (x = 0 ∨ x = 1) → x = b2 (pb (k < nm ∧ P 8 k = 1)) → ∃ s', p_X8_freshen_48 (p_X8_freshen_15 f) (nI k) x (nI k) s = p_X8_freshen_57 100000 0 s' ∧ zf [14] s0 s' ∧ ∀ j, j < 48 → s'.1 14 j = b2 (pb (j < nm ∧ P 8 j = 1)) := by
      intro x hx e
      rw [p_X8_freshen_48, oi_n hk48 (by decide), ob_ok hx, nI_clamp (show k < 2 ^ 31 by omega), os_s, nI_1]
      refine ih (k + 1) f _ (by omega) (by omega) (zf_s hz (by decide) _ _) (fun j hj => ?_)
      rw [sI_p, pI_at]
      by_cases ej : j = k
      · rw [ej, upd_at, e]
      · rw [upd_ne ej]; exact h j (by omega)
    rw [p_X8_freshen_15]
    try dsimp only
    unfold p_X8_freshen_47
    rw [if_neg (show ¬ (48 : Int32) ≤ nI k from nI_ge (b := 48) (by omega) (by omega)), hz.2 0 (by decide), hz.2 8 (by decide), h05, h8]
    by_cases hkn : k < nm
    · rw [if_neg (nI_ge hkn (by omega)), oi_n hk48 (by decide), nI_clamp (show k < 2 ^ 31 by omega)]
      rcases (hM.2.2.1 k hkn).2.2 with e | e
      · rw [if_pos e]
        refine go 0 (Or.inl rfl) ?_
        rw [pb_f.mpr]
        · rfl
        · rintro ⟨-, w⟩; rw [e] at w; exact absurd w (by decide)
      · rw [e, if_neg n10]
        exact go 1 (Or.inr rfl) (by rw [pb_t.mpr ⟨hkn, e⟩]; rfl)
    · rw [if_pos (nI_le (by omega) (by omega))]
      refine go 0 (Or.inl rfl) ?_
      rw [pb_f.mpr]
      · rfl
      · rintro ⟨w, -⟩; exact hkn w
def sT : List Nat := [14, 15, 16, 17, 18, 19]
/-- up to findComes -/
theorem freshen_run {τ : SS} {nt nm no : Nat} (hW : WF τ.1 nt nm no) (ho : okU τ.1 nt) : ∃ s', p_X8_freshen_15 100000 0 (sI τ 0 16 1) = oc (p_X8_findComes_0 s') (fun r_228 => some r_228) ∧ fr (sI τ 0 16 1) s' ∧ MI τ.1 nt s' ∧ SM s' = LG τ.1 nt nm ∧ FM τ.1 nt nm s' := by
  have h48 := hW.2.1.1
  have hc0 : ∀ c, c ≠ 0 → (sI τ 0 16 1).1 c = τ.1 c := fun c hc => by rw [sI_p, pI_ne _ _ hc]
  have h00 : ∀ j, j ≠ 16 → (sI τ 0 16 1).1 0 j = τ.1 0 j := fun j hj => by rw [sI_p, pI_at, upd_ne hj]
  obtain ⟨a1, b1, c1, d1⟩ := freshen_15 hW.2.1 (s0 := sI τ 0 16 1) ((h00 5 (by decide)).trans hW.2.1.2.1) (hc0 8 (by decide)) 48 0 100000 (sI τ 0 16 1) (by omega) (by omega) (zf_rf _ _) (fun j hj => by omega)
  obtain ⟨a2, b2', c2, d2, e2⟩ := freshen_57 (s0 := a1) 16 0 100000 a1 (by omega) (by omega) (zf_rf _ _) (fun j hj => by omega) (fun j hj => by omega)
  obtain ⟨a3, b3, c3, d3⟩ := freshen_85 (s0 := a2) 192 0 100000 a2 (by omega) (by omega) (zf_rf _ _) (fun j hj => by omega)
  obtain ⟨a4, b4, c4, d4⟩ := freshen_107 (s0 := a3) 7680 0 100000 a3 (by omega) (by omega) (zf_rf _ _) (fun j hj => by omega)
  obtain ⟨a5, b5, c5, d5⟩ := freshen_129 (s0 := a4) 640 0 100000 a4 (by omega) (by omega) (zf_rf _ _) (fun j hj => by omega)
  have hz : zf sT (sI τ 0 16 1) a5 := zf_tr (zf_tr (zf_tr (zf_tr (zf_up c1 (by decide)) (zf_up c2 (by decide))) (zf_up c3 (by decide))) (zf_up c4 (by decide))) (zf_up c5 (by decide))
  have k14 : a5.1 14 = a1.1 14 := by rw [c5.2 14 (by decide), c4.2 14 (by decide), c3.2 14 (by decide), c2.2 14 (by decide)]
  have k15 : a5.1 15 = a2.1 15 := by rw [c5.2 15 (by decide), c4.2 15 (by decide), c3.2 15 (by decide)]
  have k16 : a5.1 16 = a2.1 16 := by rw [c5.2 16 (by decide), c4.2 16 (by decide), c3.2 16 (by decide)]
  have k17 : a5.1 17 = a3.1 17 := by rw [c5.2 17 (by decide), c4.2 17 (by decide)]
  have k18 : a5.1 18 = a4.1 18 := by rw [c5.2 18 (by decide)]
  have hlo : ∀ c, c < 14 → c ≠ 0 → a5.1 c = τ.1 c := fun c hc h0 => by
    rw [hz.2 c (fun q => by
      have : ∀ x ∈ sT, 14 ≤ x := by decide
      have := this c q
      omega)]
    exact hc0 c h0
  have h0j : ∀ j, j ≠ 16 → a5.1 0 j = τ.1 0 j := fun j hj => by rw [hz.2 0 (by decide)]; exact h00 j hj
  have hc : ∀ c, c ≠ 0 → (sI a5 0 17 1).1 c = a5.1 c := fun c hc => by rw [sI_p, pI_ne _ _ hc]
  have hj : ∀ j, j ≠ 17 → (sI a5 0 17 1).1 0 j = a5.1 0 j := fun j hj => by rw [sI_p, pI_at, upd_ne hj]
  have eS : ∀ q i j, SM (sI a5 0 17 1) q i j ↔ q = 0 ∧ j = 0 ∧ i < nm ∧ τ.1 8 i = 1 := by
    intro q i j
    constructor
    · rintro ⟨h1, h2⟩
      have hq := in5_q h1
      have hlt := in5_lt h1
      rw [hc (14 + q) (by omega)] at h2
      match q, hq, h1, hlt, h2 with
      | 0, _, h1, hlt, h2 =>
        have h2' : a5.1 14 i = 1 := h2
        rw [k14, d1 i h1.2, b2_1, pb_t] at h2'
        exact ⟨rfl, h1.1, h2'⟩
      | 1, _, h1, hlt, h2 =>
        have h2' : a5.1 15 i = 1 := h2
        rw [k15, d2 i h1.2] at h2'
        exact absurd h2' (by decide)
      | 2, _, h1, hlt, h2 =>
        have h2' : a5.1 16 i = 1 := h2
        rw [k16, e2 i h1.2] at h2'
        exact absurd h2' (by decide)
      | 3, _, h1, hlt, h2 =>
        have h2' : a5.1 17 (ix5 3 i j) = 1 := h2
        rw [k17, d3 _ hlt] at h2'
        exact absurd h2' (by decide)
      | 4, _, h1, hlt, h2 =>
        have h2' : a5.1 18 (ix5 4 i j) = 1 := h2
        rw [k18, d4 _ hlt] at h2'
        exact absurd h2' (by decide)
      | q + 5, hq, _, _, _ => omega
    · rintro ⟨rfl, rfl, h1, h2⟩
      refine ⟨⟨rfl, by omega⟩, ?_⟩
      rw [hc (14 + 0) (by decide)]
      show a5.1 14 i = 1
      rw [k14, d1 i (by omega), b2_1, pb_t]
      exact ⟨h1, h2⟩
  have hI : MI τ.1 nt (sI a5 0 17 1) := by
    refine ⟨fun c a b => (hc c a).trans (hlo c b a), ⟨(hj 0 (by decide)).trans (h0j 0 (by decide)), (hj 5 (by decide)).trans (h0j 5 (by decide)), (hj 12 (by decide)).trans (h0j 12 (by decide))⟩, okU_c ho ((hj 26 (by decide)).trans (h0j 26 (by decide))) ?_ (und_c ((hc 2 (by decide)).trans (hlo 2 (by decide) (by decide))) ((hc 3 (by decide)).trans (hlo 3 (by decide) (by decide))) ((hc 4 (by decide)).trans (hlo 4 (by decide) (by decide)))), fun q hq k hk => ?_, ?_⟩
    · rw [hc 21 (by decide), hz.2 21 (by decide)]
      exact hc0 21 (by decide)
    · rw [hc (14 + q) (by omega)]
      match q, hq, hk with
      | 0, _, hk =>
        show a5.1 14 k = 0 ∨ a5.1 14 k = 1
        rw [k14, d1 k hk]
        exact b2_01 _
      | 1, _, hk => exact Or.inl (show a5.1 15 k = 0 by rw [k15]; exact d2 k hk)
      | 2, _, hk => exact Or.inl (show a5.1 16 k = 0 by rw [k16]; exact e2 k hk)
      | 3, _, hk => exact Or.inl (show a5.1 17 k = 0 by rw [k17]; exact d3 k hk)
      | 4, _, hk => exact Or.inl (show a5.1 18 k = 0 by rw [k18]; exact d4 k hk)
      | q + 5, hq, _ => omega
    · exact Or.inr (by rw [sI_p, pI_at, upd_at])
  have hL := LG_cls τ.1 nt nm
  obtain ⟨s', q1, q2, q3, q4, q5⟩ := freshen_154 hW 7952 100000 (sI a5 0 17 1) (by omega) (by omega) hI (fun q i j w => by
    obtain ⟨rfl, rfl, w3, w4⟩ := (eS q i j).mp w
    exact hL.1 i w3 w4) (fun o m w => by have := ((eS 4 o m).mp w).1; omega) (fun m hm h8 => (eS 0 m 0).mpr ⟨rfl, rfl, hm, h8⟩) (fun o b ho hb => Or.inl (by
    rw [hc 19 (by decide)]
    exact d5 _ (by omega))) (by rw [sI_p, pI_at, upd_at])
  refine ⟨s', ?_, ⟨q2.1.trans (show (sI a5 0 17 1).2 = _ from hz.1), fun c h0 h1 => ?_, fun j h1 h2 => ?_⟩, q3, q4, q5⟩
  · exact b1.trans (b2'.trans (b3.trans (b4.trans (b5.trans q1))))
  · rw [q2.2.1 c h0 h1, hc c h0, hz.2 c (fun q => h1 (by
      have : ∀ x ∈ sT, x ∈ sR := by decide
      exact this c q))]
  · rw [q2.2.2 j h1 h2, hj j h1, hz.2 0 (by decide)]
