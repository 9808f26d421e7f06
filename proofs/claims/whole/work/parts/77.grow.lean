/-! pure: the reference's graph: what grows -/
def sz5 (q : Nat) : Nat := match q with
  | 0 => 48
  | 1 => 16
  | 2 => 16
  | 3 => 192
  | 4 => 7680
  | _ => 0
def ix5 (q i j : Nat) : Nat := match q with
  | 0 => i
  | 1 => i
  | 2 => i
  | _ => 48 * i + j
def in5 (q i j : Nat) : Prop := match q with
  | 0 => j = 0 ∧ i < 48
  | 1 => j = 0 ∧ i < 16
  | 2 => j = 0 ∧ i < 16
  | 3 => i < 4 ∧ j < 48
  | 4 => i < 160 ∧ j < 48
  | _ => False
def SM (τ : SS) : G3 := fun q i j => in5 q i j ∧ τ.1 (14 + q) (ix5 q i j) = 1
theorem in5_q {q i j : Nat} (h : in5 q i j) : q < 5 := by
  match q, h with
  | 0, _ => decide
  | 1, _ => decide
  | 2, _ => decide
  | 3, _ => decide
  | 4, _ => decide
  | q + 5, h => exact (show False from h).elim
theorem in5_lt {q i j : Nat} (h : in5 q i j) : ix5 q i j < sz5 q := by
  match q, h with
  | 0, h => exact h.2
  | 1, h => exact h.2
  | 2, h => exact h.2
  | 3, h =>
    have h1 : i < 4 := h.1
    have h2 : j < 48 := h.2
    show 48 * i + j < 192
    omega
  | 4, h =>
    have h1 : i < 160 := h.1
    have h2 : j < 48 := h.2
    show 48 * i + j < 7680
    omega
  | q + 5, h => exact (show False from h).elim
theorem ix5_inj {q i j i' j' : Nat} (h : in5 q i j) (h' : in5 q i' j') (e : ix5 q i j = ix5 q i' j') : i = i' ∧ j = j' := by
  match q, h, h', e with
  | 0, h, h', e => exact ⟨e, h.1.trans h'.1.symm⟩
  | 1, h, h', e => exact ⟨e, h.1.trans h'.1.symm⟩
  | 2, h, h', e => exact ⟨e, h.1.trans h'.1.symm⟩
  | 3, h, h', e =>
    have h2 : j < 48 := h.2
    have h2' : j' < 48 := h'.2
    have e' : 48 * i + j = 48 * i' + j' := e
    omega
  | 4, h, h', e =>
    have h2 : j < 48 := h.2
    have h2' : j' < 48 := h'.2
    have e' : 48 * i + j = 48 * i' + j' := e
    omega
  | q + 5, h, _, _ => exact (show False from h).elim
theorem in5_of {q k : Nat} (hk : k < sz5 q) : ∃ i j, in5 q i j ∧ ix5 q i j = k := by
  match q, hk with
  | 0, h => exact ⟨k, 0, ⟨rfl, h⟩, rfl⟩
  | 1, h => exact ⟨k, 0, ⟨rfl, h⟩, rfl⟩
  | 2, h => exact ⟨k, 0, ⟨rfl, h⟩, rfl⟩
  | 3, h =>
    have h' : k < 192 := h
    exact ⟨k / 48, k % 48, ⟨show k / 48 < 4 by omega, show k % 48 < 48 by omega⟩, show 48 * (k / 48) + k % 48 = k by omega⟩
  | 4, h =>
    have h' : k < 7680 := h
    exact ⟨k / 48, k % 48, ⟨show k / 48 < 160 by omega, show k % 48 < 48 by omega⟩, show 48 * (k / 48) + k % 48 = k by omega⟩
  | q + 5, h => exact absurd h (Nat.not_lt_zero k)
def zz (τ : SS) : Prop := (∀ q, q < 5 → zn (sz5 q) (τ.1 (14 + q))) ∧ (τ.1 0 17 = 0 ∨ τ.1 0 17 = 1)
noncomputable def nq (τ : SS) (q : Nat) : Nat := cn (fun k => pb (τ.1 (14 + q) k = 1)) (sz5 q)
/-- how much there is -/
noncomputable def NM (τ : SS) : Nat := sm (nq τ) 5
theorem NM_le (τ : SS) : NM τ ≤ 7952 := by
  have h0 : nq τ 0 ≤ 48 := cn_le _ _
  have h1 : nq τ 1 ≤ 16 := cn_le _ _
  have h2 : nq τ 2 ≤ 16 := cn_le _ _
  have h3 : nq τ 3 ≤ 192 := cn_le _ _
  have h4 : nq τ 4 ≤ 7680 := cn_le _ _
  show 0 + nq τ 0 + nq τ 1 + nq τ 2 + nq τ 3 + nq τ 4 ≤ 7952
  omega
theorem sm_mono {f g : Nat → Nat} {n : Nat} (h : ∀ k, k < n → f k ≤ g k) : sm f n ≤ sm g n := by
  induction n with
  | zero => exact Nat.le_refl _
  | succ n ih => unfold sm; exact Nat.add_le_add (ih (fun k hk => h k (by omega))) (h n (by omega))
theorem NM_sub {τ τ' : SS} (h : sub3 (SM τ) (SM τ')) : NM τ ≤ NM τ' := by
  refine sm_mono (fun q _ => cn_sub (fun k hk hf => ?_))
  obtain ⟨i, j, h1, h2⟩ := in5_of hk
  have := (h q i j ⟨h1, by rw [h2]; exact pb_t.mp hf⟩).2
  rw [h2] at this
  exact pb_t.mpr this
def sR : List Nat := [14, 15, 16, 17, 18, 19, 20, 21, 22, 23, 24]
def fr (τ τ' : SS) : Prop := τ'.2 = τ.2 ∧ (∀ c, c ≠ 0 → c ∉ sR → τ'.1 c = τ.1 c) ∧ ∀ j, j ≠ 17 → j ≠ 26 → τ'.1 0 j = τ.1 0 j
theorem fr_rf (τ : SS) : fr τ τ := ⟨rfl, fun _ _ _ => rfl, fun _ _ _ => rfl⟩
theorem fr_tr {a b c : SS} (h : fr a b) (g : fr b c) : fr a c := ⟨g.1.trans h.1, fun k h0 h1 => (g.2.1 k h0 h1).trans (h.2.1 k h0 h1), fun j h1 h2 => (g.2.2 j h1 h2).trans (h.2.2 j h1 h2)⟩
def MI (P : Nat → Nat → Int32) (nt : Nat) (τ : SS) : Prop := (∀ c, c ≠ 0 → c < 14 → τ.1 c = P c) ∧ (τ.1 0 0 = P 0 0 ∧ τ.1 0 5 = P 0 5 ∧ τ.1 0 12 = P 0 12) ∧ okU τ.1 nt ∧ zz τ
/-- E comes into the graph; the FAULTS are then F -/
def gr (P : Nat → Nat → Int32) (nt : Nat) (E : G3) (F : Nat → Int32) (τ τ' : SS) : Prop := fr τ τ' ∧ MI P nt τ' ∧ (∀ q i j, SM τ' q i j ↔ SM τ q i j ∨ E q i j) ∧ ((τ'.1 0 17 = τ.1 0 17 ∧ sub3 (SM τ') (SM τ)) ∨ (τ'.1 0 17 = 1 ∧ NM τ < NM τ')) ∧ τ'.1 19 = F
theorem gr_sub {P : Nat → Nat → Int32} {nt : Nat} {E : G3} {F : Nat → Int32} {a b : SS} (h : gr P nt E F a b) : sub3 (SM a) (SM b) := fun q i j x => (h.2.2.1 q i j).mpr (Or.inl x)
theorem gr_tr {P : Nat → Nat → Int32} {nt : Nat} {E E' : G3} {F F' : Nat → Int32} {a b c : SS} (h : gr P nt E F a b) (g : gr P nt E' F' b c) : gr P nt (fun q i j => E q i j ∨ E' q i j) F' a c := by
  have s1 := gr_sub h
  have s2 := gr_sub g
  have n1 := NM_sub s1
  have n2 := NM_sub s2
  obtain ⟨h1, h2, h3, h4, h5⟩ := h
  obtain ⟨g1, g2, g3, g4, g5⟩ := g
  refine ⟨fr_tr h1 g1, g2, fun q i j => by rw [g3, h3, or_assoc], ?_, g5⟩
  rcases h4 with ⟨x1, x2⟩ | ⟨x1, x2⟩
  · rcases g4 with ⟨y1, y2⟩ | ⟨y1, y2⟩
    · exact Or.inl ⟨y1.trans x1, sub3_tr y2 x2⟩
    · exact Or.inr ⟨y1, by omega⟩
  · rcases g4 with ⟨y1, y2⟩ | ⟨y1, y2⟩
    · exact Or.inr ⟨y1.trans x1, by omega⟩
    · exact Or.inr ⟨y1, by omega⟩
theorem gr_cg {P : Nat → Nat → Int32} {nt : Nat} {E E' : G3} {F : Nat → Int32} {a b : SS} (h : gr P nt E F a b) (e : ∀ q i j, E q i j ↔ E' q i j) : gr P nt E' F a b := ⟨h.1, h.2.1, fun q i j => by rw [h.2.2.1, e], h.2.2.2.1, h.2.2.2.2⟩
theorem gr_rf {P : Nat → Nat → Int32} {nt : Nat} {τ : SS} (h : MI P nt τ) : gr P nt (fun _ _ _ => False) (τ.1 19) τ τ := ⟨fr_rf τ, h, fun q i j => ⟨Or.inl, fun x => x.elim id False.elim⟩, Or.inl ⟨rfl, sub3_rf _⟩, rfl⟩
def sX : List Nat := [20, 21, 22, 23, 24]
theorem sXR : ∀ x ∈ sX, x ∈ sR := by decide
theorem sX_lo {c : Nat} (h : c < 20) : c ∉ sX := by
  intro q
  have : ∀ x ∈ sX, 20 ≤ x := by decide
  have := this c q
  omega
theorem SM_same {τ τ' : SS} (h : ∀ q, q < 5 → τ'.1 (14 + q) = τ.1 (14 + q)) : SM τ' = SM τ := by
  funext q i j
  unfold SM
  exact propext (and_congr_right (fun hi => by rw [h q (in5_q hi)]))
theorem gr_kp {P : Nat → Nat → Int32} {nt : Nat} {S : List Nat} {τ τ' : SS} (h : MI P nt τ) (hk : kp S τ τ') (hS : ∀ x ∈ S, x ∈ sX) (ho : okU τ'.1 nt) : gr P nt (fun _ _ _ => False) (τ.1 19) τ τ' := by
  have hc : ∀ c, c ≠ 0 → c < 20 → τ'.1 c = τ.1 c := fun c h0 h1 => hk.2.1 c h0 (fun q => sX_lo h1 (hS c q))
  have e : SM τ' = SM τ := SM_same (fun q hq => hc (14 + q) (by omega) (by omega))
  refine ⟨⟨hk.1, fun c h0 h1 => hk.2.1 c h0 (fun q => h1 (sXR c (hS c q))), fun j _ h2 => hk.2.2 j h2⟩, ⟨fun c h0 h1 => (hc c h0 (by omega)).trans (h.1 c h0 h1), ⟨(hk.2.2 0 (by decide)).trans h.2.1.1, (hk.2.2 5 (by decide)).trans h.2.1.2.1, (hk.2.2 12 (by decide)).trans h.2.1.2.2⟩, ho, fun q hq => ?_, ?_⟩, fun q i j => by rw [e]; exact ⟨Or.inl, fun x => x.elim id False.elim⟩, Or.inl ⟨hk.2.2 17 (by decide), by rw [e]; exact sub3_rf _⟩, hc 19 (by decide) (by decide)⟩
  · rw [hc (14 + q) (by omega) (by omega)]
    exact h.2.2.2.1 q hq
  · rw [hk.2.2 17 (by decide)]
    exact h.2.2.2.2
theorem gr_set {P : Nat → Nat → Int32} {nt q i j : Nat} {τ : SS} (h : MI P nt τ) (hin : in5 q i j) {x : Int32} (hx : (τ.1 (14 + q) (ix5 q i j) = 0 ∧ x = 1) ∨ (τ.1 (14 + q) (ix5 q i j) = 1 ∧ x = τ.1 0 17)) : gr P nt (fun q' i' j' => q' = q ∧ i' = i ∧ j' = j) (τ.1 19) τ (sI (sI τ 0 17 x) (14 + q) (ix5 q i j) 1) := by
  have hq := in5_q hin
  have hlt := in5_lt hin
  have z := h.2.2.2
  have hq1 : (sI (sI τ 0 17 x) (14 + q) (ix5 q i j) 1).1 (14 + q) = upd (τ.1 (14 + q)) (ix5 q i j) 1 := by rw [sI_p, pI_at, sI_p, pI_ne _ _ (by omega)]
  have hne : ∀ c, c ≠ 0 → c ≠ 14 + q → (sI (sI τ 0 17 x) (14 + q) (ix5 q i j) 1).1 c = τ.1 c := fun c h0 h1 => by rw [sI_p, pI_ne _ _ h1, sI_p, pI_ne _ _ h0]
  have h0 : (sI (sI τ 0 17 x) (14 + q) (ix5 q i j) 1).1 0 = upd (τ.1 0) 17 x := by rw [sI_p, pI_ne _ _ (by omega), sI_p, pI_at]
  have h0j : ∀ k, k ≠ 17 → (sI (sI τ 0 17 x) (14 + q) (ix5 q i j) 1).1 0 k = τ.1 0 k := fun k hk => by rw [h0, upd_ne hk]
  have hx01 : x = 0 ∨ x = 1 := by
    rcases hx with ⟨-, e⟩ | ⟨-, e⟩
    · exact Or.inr e
    · rw [e]; exact z.2
  have hu : und (sI (sI τ 0 17 x) (14 + q) (ix5 q i j) 1).1 = und τ.1 := und_c (hne 2 (by decide) (by omega)) (hne 3 (by decide) (by omega)) (hne 4 (by decide) (by omega))
  have hS : ∀ q' i' j', SM (sI (sI τ 0 17 x) (14 + q) (ix5 q i j) 1) q' i' j' ↔ SM τ q' i' j' ∨ (q' = q ∧ i' = i ∧ j' = j) := by
    intro q' i' j'
    unfold SM
    by_cases e : q' = q
    · subst e
      rw [hq1]
      by_cases e2 : ix5 q' i' j' = ix5 q' i j
      · rw [e2, upd_at]
        refine ⟨fun w => Or.inr ?_, fun w => ⟨?_, rfl⟩⟩
        · obtain ⟨a, b⟩ := ix5_inj w.1 hin e2
          exact ⟨rfl, a, b⟩
        · rcases w with w | ⟨-, a, b⟩
          · exact w.1
          · rw [a, b]; exact hin
      · rw [upd_ne e2]
        exact ⟨Or.inl, fun w => w.elim id (fun ⟨_, a, b⟩ => absurd (by rw [a, b]) e2)⟩
    · by_cases h5 : q' < 5
      · rw [hne (14 + q') (by omega) (by omega)]
        exact ⟨Or.inl, fun w => w.elim id (fun ⟨a, _⟩ => absurd a e)⟩
      · exact ⟨fun w => absurd (in5_q w.1) h5, fun w => w.elim (fun w => absurd (in5_q w.1) h5) (fun ⟨a, _⟩ => absurd a e)⟩
  refine ⟨⟨rfl, fun c hc hcs => hne c hc (fun e => hcs (by
      rw [e]
      rcases (show q = 0 ∨ q = 1 ∨ q = 2 ∨ q = 3 ∨ q = 4 by omega) with e | e | e | e | e <;> rw [e] <;> decide)), fun k hk _ => h0j k hk⟩, ⟨fun c hc h14 => (hne c hc (by omega)).trans (h.1 c hc h14), ⟨(h0j 0 (by decide)).trans h.2.1.1, (h0j 5 (by decide)).trans h.2.1.2.1, (h0j 12 (by decide)).trans h.2.1.2.2⟩, okU_c h.2.2.1 (h0j 26 (by decide)) (hne 21 (by decide) (by omega)) hu, fun q' hq' => ?_, ?_⟩, hS, ?_, hne 19 (by decide) (by omega)⟩
  · by_cases e : q' = q
    · subst e
      rw [hq1]
      exact zn_u (z.1 q' hq') (Or.inr rfl)
    · rw [hne (14 + q') (by omega) (by omega)]
      exact z.1 q' hq'
  · rw [h0, upd_at]
    exact hx01
  · rw [h0, upd_at]
    rcases hx with ⟨e1, e2⟩ | ⟨e1, e2⟩
    · refine Or.inr ⟨e2, ?_⟩
      have : NM (sI (sI τ 0 17 x) (14 + q) (ix5 q i j) 1) = NM τ + 1 := by
        refine sm_upd hq (fun q' hq' hne' => ?_) ?_
        · unfold nq
          rw [hne (14 + q') (by omega) (by omega)]
        · refine cn_more hlt (fun k _ hk => ?_) (pb_f.mpr (by rw [e1]; decide)) (pb_t.mpr (by rw [hq1, upd_at]))
          rw [hq1, upd_ne hk]
      omega
    · refine Or.inl ⟨e2, fun q' i' j' w => ((hS q' i' j').mp w).elim id ?_⟩
      rintro ⟨rfl, rfl, rfl⟩
      exact ⟨hin, e1⟩
/-- how the code sets -/
theorem pick {α : Type} {g c : Int32} (hg : g = 0 ∨ g = 1) (hc : c = 0 ∨ c = 1) (K : Int32 → α) : ∃ x, (x = 0 ∨ x = 1) ∧ ((c = 0 ∧ x = 1) ∨ (c = 1 ∧ x = g)) ∧ (if g = 0 then (if c = 0 then K 1 else K 0) else K 1) = K x := by
  rcases hg with rfl | rfl
  · rcases hc with rfl | rfl
    · exact ⟨1, Or.inr rfl, Or.inl ⟨rfl, rfl⟩, by rw [if_pos rfl, if_pos rfl]⟩
    · exact ⟨0, Or.inl rfl, Or.inr ⟨rfl, rfl⟩, by rw [if_pos rfl, if_neg n10]⟩
  · rcases hc with rfl | rfl
    · exact ⟨1, Or.inr rfl, Or.inl ⟨rfl, rfl⟩, by rw [if_neg n10]⟩
    · exact ⟨1, Or.inr rfl, Or.inr ⟨rfl, rfl⟩, by rw [if_neg n10]⟩
theorem MI_W {P : Nat → Nat → Int32} {nt nm no : Nat} {τ : SS} (hW : WF P nt nm no) (h : MI P nt τ) : WF τ.1 nt nm no :=
  ⟨wfT_c hW.1 h.2.1.1 (h.1 1 (by decide) (by decide)) (h.1 2 (by decide) (by decide)) (h.1 3 (by decide) (by decide)) (h.1 4 (by decide) (by decide)), wfM_c hW.2.1 h.2.1.2.1 (h.1 1 (by decide) (by decide)) (h.1 5 (by decide) (by decide)) (h.1 6 (by decide) (by decide)) (h.1 7 (by decide) (by decide)) (h.1 8 (by decide) (by decide)), wfO_up hW.2.2 (Nat.le_refl _) h.2.1.2.2 (fun t _ => by rw [h.1 1 (by decide) (by decide)]) (h.1 7 (by decide) (by decide)) (h.1 9 (by decide) (by decide)) (h.1 10 (by decide) (by decide)) (h.1 11 (by decide) (by decide)) (h.1 12 (by decide) (by decide)) (h.1 13 (by decide) (by decide))⟩
theorem MI_und {P : Nat → Nat → Int32} {nt : Nat} {τ : SS} (h : MI P nt τ) : und τ.1 = und P := und_c (h.1 2 (by decide) (by decide)) (h.1 3 (by decide) (by decide)) (h.1 4 (by decide) (by decide))
theorem MI_isH {P : Nat → Nat → Int32} {nt : Nat} {τ : SS} (h : MI P nt τ) : isH τ.1 = isH P := by
  have hu := MI_und h
  funext a b c d e f
  exact propext ⟨fun q => isH_c q hu h.1, fun q => isH_c q hu.symm (fun c h0 h1 => (h.1 c h0 h1).symm)⟩
theorem MI_isF {P : Nat → Nat → Int32} {nt : Nat} {τ : SS} (h : MI P nt τ) : isF τ.1 = isF P := by
  have hu := MI_und h
  have hlf : lfB τ.1 = lfB P := by
    funext nt nm t name m
    unfold lfB
    rw [lft_c hu h.1]
  funext nt nm t name r
  unfold isF
  rw [isC_c h.1, lpB_c hu h.1, hlf]
theorem MI_isP {P : Nat → Nat → Int32} {nt : Nat} {τ : SS} (h : MI P nt τ) : isP τ.1 = isP P := by
  have hu := MI_und h
  funext a b c d e
  exact propext ⟨fun q => isP_c q hu h.1, fun q => isP_c q hu.symm (fun c h0 h1 => (h.1 c h0 h1).symm)⟩
theorem MI_hpl {P : Nat → Nat → Int32} {nt : Nat} {τ : SS} (h : MI P nt τ) : hpl τ.1 = hpl P := by
  funext a b
  unfold hpl
  rw [h.1 5 (by decide) (by decide), h.1 7 (by decide) (by decide)]
theorem MI_wth {P : Nat → Nat → Int32} {nt : Nat} {τ : SS} (h : MI P nt τ) : wth τ.1 = wth P := by
  funext a b c d
  unfold wth
  rw [MI_und h, MI_hpl h, h.1 1 (by decide) (by decide)]
theorem c48 (o m : Nat) : (48 * nI o + nI m) = nI (48 * o + m) := by rw [show (48 : Int32) = nI 48 from rfl, pk_mul, nI_add]
theorem m_reach {P : Nat → Nat → Int32} {nt m : Nat} {τ : SS} (h : MI P nt τ) (hm : m < 48) : ∃ τ', p_X8_reach_0 (nI m) τ = some τ' ∧ gr P nt (fun q i j => q = 0 ∧ i = m ∧ j = 0) (τ.1 19) τ τ' ∧ τ'.1 24 = τ.1 24 := by
  have hin : in5 0 m 0 := ⟨rfl, hm⟩
  obtain ⟨x, hx, hx', e⟩ := pick h.2.2.2.2 (h.2.2.2.1 0 (by decide) m hm) (fun t => p_X8_reach_22 (nI m) t τ)
  refine ⟨_, ?_, gr_set h hin hx', ?_⟩
  · unfold p_X8_reach_0 p_X8_reach_17
    rw [oi_n hm (by decide), nI_clamp (show m < 2 ^ 31 by omega)]
    refine e.trans ?_
    show p_X8_reach_22 (nI m) x τ = _
    rw [p_X8_reach_22, ob_ok hx, os_s, oi_n hm (by decide), nI_clamp (show m < 2 ^ 31 by omega), os_s]
    rfl
  · rw [sI_p, pI_ne _ _ (by decide), sI_p, pI_ne _ _ (by decide)]
theorem m_call {P : Nat → Nat → Int32} {nt o m : Nat} {τ : SS} (h : MI P nt τ) (ho : o < 160) (hm : m < 48) : ∃ τ', p_X8_call_0 (nI o) (nI m) τ = some τ' ∧ gr P nt (fun q i j => (q = 4 ∧ i = o ∧ j = m) ∨ (q = 0 ∧ i = m ∧ j = 0)) (τ.1 19) τ τ' ∧ τ'.1 24 = τ.1 24 := by
  have hin : in5 4 o m := ⟨ho, hm⟩
  obtain ⟨x, hx, hx', e⟩ := pick h.2.2.2.2 (h.2.2.2.1 4 (by decide) (48 * o + m) (show 48 * o + m < 7680 by omega)) (fun t => p_X8_call_27 (nI o) (nI m) t τ)
  have g := gr_set h hin hx'
  obtain ⟨τ', q1, q2, q3⟩ := m_reach g.2.1 hm
  have h24 : (sI (sI τ 0 17 x) (14 + 4) (ix5 4 o m) 1).1 24 = τ.1 24 := by rw [sI_p, pI_ne _ _ (by decide), sI_p, pI_ne _ _ (by decide)]
  refine ⟨τ', ?_, ?_, q3.trans h24⟩
  · unfold p_X8_call_0 p_X8_call_22
    rw [c48, oi_n (show 48 * o + m < 7680 by omega) (by decide), nI_clamp (show 48 * o + m < 2 ^ 31 by omega)]
    refine e.trans ?_
    show p_X8_call_27 (nI o) (nI m) x τ = _
    rw [p_X8_call_27, ob_ok hx, os_s, c48, oi_n (show 48 * o + m < 7680 by omega) (by decide), nI_clamp (show 48 * o + m < 2 ^ 31 by omega), os_s]
    exact oc_s q1
  · have e19 : (sI (sI τ 0 17 x) (14 + 4) (ix5 4 o m) 1).1 19 = τ.1 19 := g.2.2.2.2
    rw [e19] at q2
    exact gr_tr g q2
