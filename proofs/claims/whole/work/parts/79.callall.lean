/-! pure: the reference: calls by made classes, and FAULTS -/
def cd (b : Nat) : Int32 := -2 - nI b
theorem cd_ix : ∀ o, o < 160 → ∀ b, b < 4 → ((4 * nI o) - 2) - cd b = nI (4 * o + b) := by decide +kernel
theorem cd_neg : ∀ b, b < 4 → cd b < 0 := by decide +kernel
theorem cd_inj : ∀ b, b < 4 → ∀ b', b' < 4 → cd b = cd b' → b = b' := by decide +kernel
theorem cd_lo : ∀ b, b < 4 → (cd b ≤ -4 ↔ 2 ≤ b) := by decide +kernel
theorem isH_cd {P : Nat → Nat → Int32} {nt nm c t : Nat} (hnm : nm ≤ 48) {name r : Int32} (h : isH P nt nm c t name r) : (∃ b, b < 4 ∧ r = cd b) ∨ ∃ j, j < nm ∧ r = nI j := by
  rcases isH_rng hnm h with (h | h | h | h) | h
  · exact Or.inl ⟨0, by decide, h⟩
  · exact Or.inl ⟨1, by decide, h⟩
  · exact Or.inl ⟨2, by decide, h⟩
  · exact Or.inl ⟨3, by decide, h⟩
  · exact Or.inr h
/-- what is MISSING or UNLIKE for one class is so for all -/
theorem isH_all {P : Nat → Nat → Int32} {nt nm c c' t b : Nat} (h48 : nm ≤ 48) (hb : b < 2) {name : Int32} (h : isH P nt nm c t name (cd b)) : isH P nt nm c' t name (cd b) := by
  have hneg : cd b < 0 := cd_neg b (by omega)
  have hlo : ¬ cd b ≤ -4 := fun q => by have := (cd_lo b (by omega)).mp q; omega
  obtain ⟨f0, h1, h2⟩ := h
  refine ⟨f0, h1, ?_⟩
  rcases h2 with h2 | ⟨f, hf, h3, h4, h5 | ⟨-, h5⟩ | ⟨-, -, h5⟩⟩
  · exact Or.inl h2
  · exact Or.inr ⟨f, hf, h3, h4, Or.inl h5⟩
  · rw [h5] at hneg
    exact absurd hneg (nI_pos (by omega))
  · exfalso
    rcases h5 with ⟨m, hm, -, ⟨-, h⟩ | ⟨-, h⟩⟩ | ⟨-, ⟨-, h⟩ | ⟨h1, h⟩ | ⟨-, h⟩⟩
    · rw [h] at hneg; exact nI_pos (by omega) hneg
    · exact hlo (by rw [h]; decide)
    · exact hlo (by rw [h]; decide)
    · rcases h with ⟨h, h'⟩ | ⟨k, hk, hf, -, h⟩
      · have : 0 < cn (lpB P nt nm c name) 48 := by omega
        rcases h' with h' | h'
        · exact absurd h' (by decide)
        · have := cn_le (lpB P nt nm c name) 48
          exact nI_ge (b := cn (lpB P nt nm c name) 48) (a := 0) (by omega) (by omega) h'
      · rw [h] at hneg; exact nI_pos (by omega) hneg
    · exact hlo (by rw [h]; decide)
theorem gr_f {P : Nat → Nat → Int32} {nt : Nat} {τ : SS} (h : MI P nt τ) (x : Nat) (v : Int32) : gr P nt (fun _ _ _ => False) (upd (τ.1 19) x v) τ (sI τ 19 x v) := by
  have hc : ∀ c, c ≠ 19 → (sI τ 19 x v).1 c = τ.1 c := fun c hc => by rw [sI_p, pI_ne _ _ hc]
  have e : SM (sI τ 19 x v) = SM τ := SM_same (fun q hq => hc (14 + q) (by omega))
  refine ⟨⟨rfl, fun c _ h1 => hc c (fun q => h1 (by rw [q]; decide)), fun j _ _ => by rw [hc 0 (by decide)]⟩, ⟨fun c h0 h1 => (hc c (by omega)).trans (h.1 c h0 h1), ⟨by rw [hc 0 (by decide)]; exact h.2.1.1, by rw [hc 0 (by decide)]; exact h.2.1.2.1, by rw [hc 0 (by decide)]; exact h.2.1.2.2⟩, okU_s x v h.2.2.1 (by decide) (by decide), fun q hq => ?_, ?_⟩, fun q i j => by rw [e]; exact ⟨Or.inl, fun x => x.elim id False.elim⟩, Or.inl ⟨by rw [hc 0 (by decide)], by rw [e]; exact sub3_rf _⟩, by rw [sI_p, pI_at]⟩
  · rw [hc (14 + q) (by omega)]
    exact h.2.2.2.1 q hq
  · rw [hc 0 (by decide)]
    exact h.2.2.2.2
theorem m_fault {o b : Nat} (ho : o < 160) (hb : b < 4) (τ : SS) : p_X8_fault_0 (nI o) (cd b) τ = some (sI τ 19 (4 * o + b) (τ.1 19 (4 * o + b) + 1)) := by
  unfold p_X8_fault_0
  rw [cd_ix o ho b hb, oi_n (show 4 * o + b < 640 by omega) (by decide), oi_n (show 4 * o + b < 640 by omega) (by decide), nI_clamp (show 4 * o + b < 2 ^ 31 by omega), os_s]
noncomputable def fcM (P : Nat → Nat → Int32) (nt nm : Nat) (S : G3) (t : Nat) (name : Int32) (k b : Nat) : Nat := if b < 2 then min (cn (fun c => pb (S 1 c 0 ∧ und P c t ∧ isH P nt nm c t name (cd b))) k) 1 else cn (fun c => pb (S 1 c 0 ∧ und P c t ∧ isH P nt nm c t name (cd b))) k
def fF (f : Nat → Int32) (o : Nat) (g : Nat → Nat) : Nat → Int32 := fun x => if 4 * o ≤ x ∧ x < 4 * o + 4 then nI (g (x - 4 * o)) else f x
theorem fF_cg {f : Nat → Int32} {o : Nat} {g g' : Nat → Nat} (h : ∀ b, b < 4 → g b = g' b) : fF f o g = fF f o g' := by
  funext x
  unfold fF
  by_cases e : 4 * o ≤ x ∧ x < 4 * o + 4
  · rw [if_pos e, if_pos e, h _ (by omega)]
  · rw [if_neg e, if_neg e]
theorem fF_at {f : Nat → Int32} {o b : Nat} {g : Nat → Nat} (h : b < 4) : fF f o g (4 * o + b) = nI (g b) := by
  unfold fF
  rw [if_pos (by omega), show 4 * o + b - 4 * o = b by omega]
theorem fF_up {f : Nat → Int32} {o b : Nat} {g g' : Nat → Nat} (hb : b < 4) (h : ∀ k, k < 4 → k ≠ b → g' k = g k) (hg : g' b = g b + 1) : upd (fF f o g) (4 * o + b) (fF f o g (4 * o + b) + 1) = fF f o g' := by
  funext x
  by_cases e : x = 4 * o + b
  · rw [e, upd_at, fF_at hb, fF_at hb, hg, nI_1]
  · rw [upd_ne e]
    unfold fF
    by_cases e2 : 4 * o ≤ x ∧ x < 4 * o + 4
    · rw [if_pos e2, if_pos e2, h _ (by omega) (by omega)]
    · rw [if_neg e2, if_neg e2]
theorem cn_s {f : Nat → Bool} {k : Nat} : (f k = true → cn f (k + 1) = cn f k + 1) ∧ (f k = false → cn f (k + 1) = cn f k) := by
  constructor
  · intro h; show cn f k + (if f k = true then 1 else 0) = _; rw [if_pos h]
  · intro h; show cn f k + (if f k = true then 1 else 0) = _; rw [h, if_neg (by decide)]; rfl
theorem fcM_no {P : Nat → Nat → Int32} {nt nm t k b : Nat} {S : G3} {name : Int32} (h : ¬ (S 1 k 0 ∧ und P k t ∧ isH P nt nm k t name (cd b))) : fcM P nt nm S t name (k + 1) b = fcM P nt nm S t name k b := by
  unfold fcM
  rw [cn_s.2 (pb_f.mpr h)]
theorem fcM_yes {P : Nat → Nat → Int32} {nt nm t k b : Nat} {S : G3} {name : Int32} (h : S 1 k 0 ∧ und P k t ∧ isH P nt nm k t name (cd b)) (hb : 2 ≤ b ∨ ¬ ∃ c, c < k ∧ S 1 c 0 ∧ und P c t) : fcM P nt nm S t name (k + 1) b = fcM P nt nm S t name k b + 1 := by
  unfold fcM
  rw [cn_s.1 (pb_t.mpr h)]
  rcases hb with hb | hb
  · rw [if_neg (by omega), if_neg (by omega)]
  · rw [cn_zero (fun j hj => pb_f.mpr (fun q => hb ⟨j, hj, q.1, q.2.1⟩))]
    by_cases e : b < 2
    · rw [if_pos e, if_pos e]; rfl
    · rw [if_neg e, if_neg e]
theorem fcM_skip {P : Nat → Nat → Int32} {nt nm t k b : Nat} {S : G3} {name : Int32} (h48 : nm ≤ 48) (hb : b < 2) (h : S 1 k 0 ∧ und P k t ∧ isH P nt nm k t name (cd b)) (hs : ∃ c, c < k ∧ S 1 c 0 ∧ und P c t) : fcM P nt nm S t name (k + 1) b = fcM P nt nm S t name k b := by
  unfold fcM
  rw [cn_s.1 (pb_t.mpr h), if_pos hb, if_pos hb]
  obtain ⟨c, h1, h2, h3⟩ := hs
  have : cn (fun c => pb (S 1 c 0 ∧ und P c t ∧ isH P nt nm c t name (cd b))) c < cn (fun c => pb (S 1 c 0 ∧ und P c t ∧ isH P nt nm c t name (cd b))) k := cn_lt (pb_t.mpr ⟨h2, h3, isH_all h48 hb h.2.2⟩) h1
  omega
theorem to_of {P : Nat → Nat → Int32} {nt nm no c t : Nat} (hW : WF P nt nm no) (hc : c < nt) (ht : t < nt) {name f0 : Int32} (hf0 : isF P nt nm t name f0) {s : SS} (h : MI P nt s) : ∃ r s2, isH P nt nm c t name r ∧ gr P nt (fun _ _ _ => False) (s.1 19) s s2 ∧ ∀ K : Int32 → SS → Option SS, (if f0 = (-1) then K (-2) s else oi f0 48 (if (s.1 7 f0.toNatClampNeg) = 2 then K (-3) s else oc (p_X8_choose_0 (nI c) f0 s) (fun r_75 => K r_75.1 r_75.2))) = K r s2 := by
  have h48 := hW.2.1.1
  have hWs := MI_W hW h
  rcases isF_mem h48 hf0 with e | ⟨f, hf, e, h6⟩
  · exact ⟨-2, s, ⟨f0, hf0, Or.inl ⟨e, rfl⟩⟩, gr_rf h, fun K => by rw [if_pos e]⟩
  · have hne : ¬ f0 = (-1) := fun q => nI_m1 (u := f) (by omega) (by rw [← q, e])
    by_cases h2 : P 7 f = 2
    · refine ⟨-3, s, ⟨f0, hf0, Or.inr ⟨f, hf, e, h6, Or.inl ⟨h2, rfl⟩⟩⟩, gr_rf h, fun K => ?_⟩
      rw [if_neg hne, e, oi_n (show f < 48 by omega) (by decide), nI_clamp (show f < 2 ^ 31 by omega), h.1 7 (by decide) (by decide), if_pos h2]
    · obtain ⟨r, s2, q1, q2, q3, q4⟩ := m_choose hWs.1 hWs.2.1 h.2.2.1 hc hf
      rw [MI_isP h, h.1 6 (by decide) (by decide), h.1 7 (by decide) (by decide), h6] at q4
      refine ⟨r, s2, ⟨f0, hf0, Or.inr ⟨f, hf, e, h6, ?_⟩⟩, gr_kp h q2 sVX q3, fun K => ?_⟩
      · rcases q4 with ⟨w1, w2⟩ | ⟨w1, w2⟩
        · exact Or.inr (Or.inl ⟨w1, w2⟩)
        · exact Or.inr (Or.inr ⟨h2, w1, w2⟩)
      · rw [if_neg hne, e, oi_n (show f < 48 by omega) (by decide), nI_clamp (show f < 2 ^ 31 by omega), h.1 7 (by decide) (by decide), if_neg h2, oc_s q1]
/-- what the made classes up to k bring -/
def caE (P : Nat → Nat → Int32) (nt nm o t : Nat) (name : Int32) (S : G3) (k : Nat) : G3 := fun q i j => ∃ c m, c < k ∧ S 1 c 0 ∧ und P c t ∧ m < nm ∧ isH P nt nm c t name (nI m) ∧ ((q = 4 ∧ i = o ∧ j = m) ∨ (q = 0 ∧ i = m ∧ j = 0))
theorem caE_no {P : Nat → Nat → Int32} {nt nm o t k : Nat} {name : Int32} {S : G3} (h : ∀ m, m < nm → ¬ (S 1 k 0 ∧ und P k t ∧ isH P nt nm k t name (nI m))) (q i j : Nat) : caE P nt nm o t name S k q i j ↔ caE P nt nm o t name S (k + 1) q i j := by
  constructor
  · rintro ⟨c, m, h1, h2⟩
    exact ⟨c, m, by omega, h2⟩
  · rintro ⟨c, m, h1, h2, h3, h4, h5, h6⟩
    by_cases e : c = k
    · subst e; exact absurd ⟨h2, h3, h5⟩ (h m h4)
    · exact ⟨c, m, by omega, h2, h3, h4, h5, h6⟩
theorem callAll_14 {P : Nat → Nat → Int32} {nt nm no o t : Nat} (hW : WF P nt nm no) (ho : o < 160) (ht : t < nt) {name f0 : Int32} (hf0 : isF P nt nm t name f0) {τ : SS} {f : Nat → Int32} : ∀ (r k fuel : Nat) (s : SS) (v5 : Int32), k + r = nt → r < fuel → gr P nt (caE P nt nm o t name (SM τ) k) (fF f o (fcM P nt nm (SM τ) t name k)) τ s → v5 = b2 (pb (∃ c, c < k ∧ SM τ 1 c 0 ∧ und P c t)) →
    ∃ s', p_X8_callAll_14 fuel (nI o) (nI t) f0 v5 (nI k) s = some s' ∧ gr P nt (caE P nt nm o t name (SM τ) nt) (fF f o (fcM P nt nm (SM τ) t name nt)) τ s' := by
  have h16 := hW.1.1
  have h48 := hW.2.1.1
  intro r
  induction r with
  | zero =>
    intro k fuel s v5 hk hf hg hv
    obtain ⟨g, rfl⟩ : ∃ g, fuel = g + 1 := ⟨fuel - 1, by omega⟩
    have e : k = nt := by omega
    subst e
    refine ⟨s, ?_, hg⟩
    rw [p_X8_callAll_14]
    try dsimp only
    rw [(MI_W hW hg.2.1).1.2.1, if_pos (nI_le (Nat.le_refl _) (by omega))]
  | succ r ih =>
    intro k fuel s v5 hk hf hg hv
    obtain ⟨g, rfl⟩ : ∃ g, fuel = g + 1 := ⟨fuel - 1, by omega⟩
    have hkn : k < nt := by omega
    have hk16 : k < 16 := by omega
    have hWs := MI_W hW hg.2.1
    -- nothing new at k
    have skip : ∀ s1, ¬ (SM τ 1 k 0 ∧ und P k t) → gr P nt (caE P nt nm o t name (SM τ) k) (fF f o (fcM P nt nm (SM τ) t name k)) τ s1 → ∃ s', p_X8_callAll_117 (p_X8_callAll_14 g) (nI o) (nI t) f0 v5 (nI k) s1 = some s' ∧ gr P nt (caE P nt nm o t name (SM τ) nt) (fF f o (fcM P nt nm (SM τ) t name nt)) τ s' := by
      intro s1 hno h1
      unfold p_X8_callAll_117
      rw [nI_1]
      refine ih (k + 1) g s1 v5 (by omega) (by omega) ?_ ?_
      · rw [← fF_cg (fun b hb => (fcM_no (b := b) (fun q => hno ⟨q.1, q.2.1⟩)).symm)]
        exact gr_cg h1 (caE_no (fun m hm q => hno ⟨q.1, q.2.1⟩))
      · rw [hv]
        congr 2
        refine propext ⟨fun ⟨c, h1, h2⟩ => ⟨c, by omega, h2⟩, ?_⟩
        rintro ⟨c, h1, h2⟩
        by_cases e : c = k
        · subst e; exact absurd h2 hno
        · exact ⟨c, by omega, h2⟩
    have h15 : s.1 15 k = 1 ↔ SM τ 1 k 0 := by
      have := hg.2.2.1 1 k 0
      constructor
      · intro e
        rcases this.mp ⟨⟨rfl, hk16⟩, e⟩ with h | ⟨c, m, -, -, -, -, -, ⟨h, -⟩ | ⟨h, -⟩⟩
        · exact h
        · cases h
        · cases h
      · intro e
        exact (this.mpr (Or.inl e)).2
    rw [p_X8_callAll_14]
    try dsimp only
    rw [hWs.1.2.1, if_neg (nI_ge hkn (by omega)), oi_n hk16 (by decide), nI_clamp (show k < 2 ^ 31 by omega)]
    by_cases hm : SM τ 1 k 0
    · rw [h15.mpr hm, if_neg n10]
      obtain ⟨s1, e1, e2, e3, e4⟩ := m_isUnder hWs.1 hg.2.1.2.2.1 hkn (show t < 16 by omega)
      have g1 := gr_kp hg.2.1 e2 sUX (Or.inr ⟨e3, e4⟩)
      rw [hg.2.2.2.2] at g1
      have g1' := gr_cg (gr_tr hg g1) (fun q i j => ⟨fun w => w.elim id False.elim, Or.inl⟩)
      rw [oc_s e1, MI_und hg.2.1]
      by_cases hu : und P k t
      · rw [pb_t.mpr hu, if_neg (show ¬ b2 true = 0 by decide)]
        obtain ⟨rr, s2, w1, w2, w3⟩ := to_of hW hkn ht hf0 g1.2.1 (c := k)
        have e19 : s1.1 19 = fF f o (fcM P nt nm (SM τ) t name k) := g1.2.2.2.2
        rw [e19] at w2
        have g2 := gr_cg (gr_tr g1' w2) (fun q i j => ⟨fun w => w.elim id False.elim, Or.inl⟩)
        have e19' : s2.1 19 = fF f o (fcM P nt nm (SM τ) t name k) := w2.2.2.2.2
        have one : ∀ r', isH P nt nm k t name r' → r' = rr := fun r' h => isH_one hW.2.1 (by omega) (by omega) h w1
        have hs1 : (1 : Int32) = b2 (pb (∃ c, c < k + 1 ∧ SM τ 1 c 0 ∧ und P c t)) := by rw [pb_t.mpr ⟨k, by omega, hm, hu⟩]; rfl
        have fin : ∀ s3, gr P nt (caE P nt nm o t name (SM τ) (k + 1)) (fF f o (fcM P nt nm (SM τ) t name (k + 1))) τ s3 → ∃ s', p_X8_callAll_114 (p_X8_callAll_14 g) (nI o) (nI t) f0 (nI k) s3 = some s' ∧ gr P nt (caE P nt nm o t name (SM τ) nt) (fF f o (fcM P nt nm (SM τ) t name nt)) τ s' := by
          intro s3 h3
          unfold p_X8_callAll_114 p_X8_callAll_117
          rw [nI_1]
          exact ih (k + 1) g s3 1 (by omega) (by omega) h3 hs1
        have go : ∃ s', p_X8_callAll_78 (p_X8_callAll_14 g) (nI o) (nI t) f0 v5 (nI k) rr s2 = some s' ∧ gr P nt (caE P nt nm o t name (SM τ) nt) (fF f o (fcM P nt nm (SM τ) t name nt)) τ s' := by
          unfold p_X8_callAll_78
          rcases isH_cd h48 w1 with ⟨b, hb, e⟩ | ⟨m, hm', e⟩
          · have hE : ∀ q i j, caE P nt nm o t name (SM τ) k q i j ↔ caE P nt nm o t name (SM τ) (k + 1) q i j := caE_no (fun m hm' q => by
              have := one _ q.2.2
              rw [e] at this
              exact nI_pos (n := m) (by omega) (by rw [this]; exact cd_neg b hb))
            have hF : ∀ b', b' < 4 → b' ≠ b → fcM P nt nm (SM τ) t name (k + 1) b' = fcM P nt nm (SM τ) t name k b' := fun b' hb' hne => fcM_no (fun q => hne (cd_inj b' hb' b hb ((one _ q.2.2).trans e)))
            have flt : (2 ≤ b ∨ ¬ ∃ c, c < k ∧ SM τ 1 c 0 ∧ und P c t) → ∃ s', p_X8_callAll_107 (p_X8_callAll_14 g) (nI o) (nI t) f0 (nI k) rr s2 = some s' ∧ gr P nt (caE P nt nm o t name (SM τ) nt) (fF f o (fcM P nt nm (SM τ) t name nt)) τ s' := by
              intro hb2
              unfold p_X8_callAll_107
              rw [e, oc_s (m_fault ho hb s2)]
              have g3 := gr_f w2.2.1 (4 * o + b) (s2.1 19 (4 * o + b) + 1)
              rw [e19', fF_up hb hF (fcM_yes ⟨hm, hu, by rw [← e]; exact w1⟩ hb2)] at g3
              rw [e19']
              exact fin _ (gr_cg (gr_tr g2 g3) (fun q i j => by rw [← hE]; exact ⟨fun w => w.elim id False.elim, Or.inl⟩))
            rw [if_pos (by rw [e]; exact cd_neg b hb)]
            by_cases hb2 : 2 ≤ b
            · rw [if_pos (by rw [e]; exact (cd_lo b hb).mpr hb2)]
              exact flt (Or.inl hb2)
            · rw [if_neg (by rw [e]; exact fun q => hb2 ((cd_lo b hb).mp q)), hv]
              by_cases hs : ∃ c, c < k ∧ SM τ 1 c 0 ∧ und P c t
              · rw [pb_t.mpr hs, if_neg (show ¬ b2 true = 0 by decide)]
                refine fin s2 ?_
                rw [← fF_cg (fun b' hb' => ?_)]
                · exact gr_cg g2 hE
                · by_cases eb : b' = b
                  · rw [eb]
                    exact (fcM_skip h48 (by omega) ⟨hm, hu, by rw [← e]; exact w1⟩ hs).symm
                  · exact (hF b' hb' eb).symm
              · rw [pb_f.mpr hs, if_pos (show b2 false = 0 from rfl)]
                exact flt (Or.inr hs)
          · rw [e, if_neg (nI_pos (by omega))]
            obtain ⟨s3, c1, c2, -⟩ := m_call w2.2.1 ho (show m < 48 by omega)
            rw [oc_s c1]
            rw [e19'] at c2
            refine fin s3 ?_
            rw [← fF_cg (fun b' hb' => (fcM_no (fun q => ?_)).symm)]
            · refine gr_cg (gr_tr g2 c2) (fun q i j => ⟨?_, ?_⟩)
              · rintro (⟨c, m', h1, h2⟩ | h)
                · exact ⟨c, m', by omega, h2⟩
                · exact ⟨k, m, by omega, hm, hu, hm', by rw [← e]; exact w1, h⟩
              · rintro ⟨c, m', h1, h2, h3, h4, h5, h6⟩
                by_cases ek : c = k
                · subst ek
                  have : m' = m := (nI_eq (by omega) (by omega)).mp ((one _ h5).trans e)
                  subst this
                  exact Or.inr h6
                · exact Or.inl ⟨c, m', by omega, h2, h3, h4, h5, h6⟩
            · have := (one _ q.2.2).trans e
              exact nI_pos (n := m) (by omega) (by rw [← this]; exact cd_neg b' hb')
        obtain ⟨s', q1, q2⟩ := go
        exact ⟨s', (w3 (fun a b => p_X8_callAll_78 (p_X8_callAll_14 g) (nI o) (nI t) f0 v5 (nI k) a b)).trans q1, q2⟩
      · rw [pb_f.mpr hu, if_pos (show b2 false = 0 from rfl)]
        exact skip s1 (fun q => hu q.2) g1'
    · have e0 : s.1 15 k = 0 := (hg.2.1.2.2.2.1 1 (by decide) k hk16).elim id (fun q => absurd (h15.mp q) hm)
      rw [e0, if_pos rfl]
      exact skip s (fun q => hm q.1) hg
theorem m_callAll {P : Nat → Nat → Int32} {nt nm no o t : Nat} (hW : WF P nt nm no) (ho : o < 160) (ht : t < nt) (name : Int32) {τ : SS} {f : Nat → Int32} (h : MI P nt τ) (h19 : τ.1 19 = fF f o (fun _ => 0)) : ∃ s', p_X8_callAll_0 (nI o) (nI t) name τ = some s' ∧ gr P nt (caE P nt nm o t name (SM τ) nt) (fF f o (fcM P nt nm (SM τ) t name nt)) τ s' := by
  have h16 := hW.1.1
  have hWt := MI_W hW h
  obtain ⟨r, s1, q1, q2, q3, q4⟩ := m_find hWt.1 hWt.2.1 h.2.2.1 ht name
  rw [MI_isF h] at q4
  have g1 := gr_kp h q2 sVX q3
  have e : fF f o (fun _ => 0) = fF f o (fcM P nt nm (SM τ) t name 0) := fF_cg (fun b _ => by
    unfold fcM
    show 0 = if b < 2 then min 0 1 else 0
    by_cases e : b < 2
    · rw [if_pos e]; rfl
    · rw [if_neg e])
  rw [h19, e] at g1
  obtain ⟨s', w1, w2⟩ := callAll_14 hW ho ht q4 (τ := τ) (f := f) nt 0 100000 s1 0 (by omega) (by omega) (gr_cg g1 (fun q i j => ⟨False.elim, fun ⟨c, m, w, _⟩ => by omega⟩)) (by
    rw [pb_f.mpr]
    · rfl
    · rintro ⟨c, w, _⟩; omega)
  refine ⟨s', ?_, w2⟩
  unfold p_X8_callAll_0
  rw [oc_s q1]
  exact w1
