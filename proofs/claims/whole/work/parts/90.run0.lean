/-! pure: drawn runs: what both sides hold -/
theorem drawn (x : Int64) {n : Nat} (h0 : 0 < n) (hn : n < 2 ^ 31) : ∃ r, r < n ∧ ((jush x 33) - (jush x 33) / ((nI n).toInt64) * ((nI n).toInt64)).toInt32 = nI r := by
  obtain ⟨a, ha, e⟩ := wb_of x
  have h33 : jush x 33 = lN (a / 2 ^ 33) := by rw [e]; exact js ha (show 33 < 64 by decide)
  have hlt : a / 2 ^ 33 < 2 ^ 31 := by omega
  rw [h33, nI_l hn, pk_lRem (by omega) h0 (by omega), lN_i]
  exact ⟨_, Nat.mod_lt _ h0, rfl⟩
def stp (x : Int64) : Int64 := (x * (6364136223846793005)) + (1442695040888963407)
def drw (x : Int64) (n : Nat) : Int32 := ((jush x 33) - (jush x 33) / ((nI n).toInt64) * ((nI n).toInt64)).toInt32
theorem nz_l {n : Nat} (h0 : 0 < n) (hn : n < 2 ^ 31) : ¬ (nI n).toInt64 = 0 := by
  rw [nI_l hn]
  intro q
  have := (lN_eq hn (show 0 < 2 ^ 31 by decide)).mp q
  omega
theorem k_draw (σ : SS) {n : Nat} (h0 : 0 < n) (hn : n < 2 ^ 31) : p_X2_draw_0 (nI n) σ = some (drw (stp (σ.2 6 8)) n, sL σ 6 8 (stp (σ.2 6 8))) := by
  unfold p_X2_draw_0 p_X2_draw_35
  rw [os_s, if_pos (show 0 < nI n from nI_lt (a := 0) h0 hn), oz_ok (nz_l h0 hn)]
  rw [sL_at]
  rfl
theorem m_draw (τ : SS) {n : Nat} (h0 : 0 < n) (hn : n < 2 ^ 31) : p_X8_draw_0 (nI n) τ = some (drw (stp (τ.2 0 38)) n, sL τ 0 38 (stp (τ.2 0 38))) := by
  unfold p_X8_draw_0
  rw [os_s, oz_ok (nz_l h0 hn)]
  rw [sL_at]
  rfl
/-- the class's cells that a run leaves -/
def kr (σ0 σ : SS) : Prop := (∀ c, c ∉ [6, 29, 30, 31] → σ.1 c = σ0.1 c) ∧ ∀ c, c ∉ [6, 32] → σ.2 c = σ0.2 c
theorem kr_rf (σ : SS) : kr σ σ := ⟨fun _ _ => rfl, fun _ _ => rfl⟩
theorem kr_tr {a b c : SS} (h : kr a b) (g : kr b c) : kr a c := ⟨fun k hk => (g.1 k hk).trans (h.1 k hk), fun k hk => (g.2 k hk).trans (h.2 k hk)⟩
theorem kr_sI {σ0 σ : SS} (h : kr σ0 σ) {c : Nat} (hc : c ∈ [6, 29, 30, 31]) (j : Nat) (x : Int32) : kr σ0 (sI σ c j x) := ⟨fun k hk => by
  rw [sI_p, pI_ne _ _ (fun e => hk (by rw [e]; exact hc))]; exact h.1 k hk, h.2⟩
theorem kr_sL {σ0 σ : SS} (h : kr σ0 σ) {c : Nat} (hc : c ∈ [6, 32]) (j : Nat) (x : Int64) : kr σ0 (sL σ c j x) := ⟨h.1, fun k hk => by
  rw [sL_p, pL_ne _ _ (fun e => hk (by rw [e]; exact hc))]; exact h.2 k hk⟩
theorem kr_CI {σ0 σ : SS} {P : Nat → Nat → Int32} {nt nm no : Nat} (hk : kr σ0 σ) (h : CI σ0 P nt nm no) : CI σ P nt nm no := by
  obtain ⟨h1, h2, h3, h4⟩ := h
  refine ⟨cT_c h1 (by rw [hk.1 1 (by decide)]) (hk.1 7 (by decide)) (hk.1 8 (by decide)) (hk.2 9 (by decide)) (by rw [hk.2 1 (by decide)]) (hk.2 10 (by decide)), cM_c h2 (by rw [hk.1 2 (by decide)]) (hk.1 11 (by decide)) (hk.1 12 (by decide)) (hk.1 13 (by decide)) (hk.1 14 (by decide)) (hk.2 15 (by decide)) (hk.2 16 (by decide)) (hk.2 2 (by decide)), cO_c h3 (by rw [hk.1 4 (by decide)]) (hk.1 19 (by decide)) (hk.1 20 (by decide)) (hk.1 21 (by decide)) (hk.1 22 (by decide)) (hk.1 23 (by decide)), ?_⟩
  unfold cC at h4 ⊢
  rw [hk.1 17 (by decide), hk.1 18 (by decide)]
  exact h4
theorem kr_gC {σ0 σ : SS} {P : Nat → Nat → Int32} {nt nm : Nat} (hk : kr σ0 σ) (h : gC σ0 P nt nm) : gC σ P nt nm := by
  have eS : SC σ = SC σ0 := by
    funext q i j
    unfold SC
    rw [hk.2 5 (by decide), hk.2 24 (by decide), hk.2 25 (by decide)]
  unfold gC at h ⊢
  rw [eS, hk.2 26 (by decide), hk.2 27 (by decide)]
  exact h
/-- the reference's -/
def sK : List Nat := [20, 21, 22, 23, 28, 29, 30, 31, 32, 33, 34, 35, 36]
def kt (nt : Nat) (τ0 τ : SS) : Prop := (∀ c, c ≠ 0 → c ∉ sK → τ.1 c = τ0.1 c) ∧ (∀ j, j < 26 → τ.1 0 j = τ0.1 0 j) ∧ okU τ.1 nt
theorem kt_lo {nt : Nat} {τ0 τ : SS} (h : kt nt τ0 τ) {c : Nat} (h0 : c ≠ 0) (h1 : c < 20) : τ.1 c = τ0.1 c := h.1 c h0 (fun q => by
  have : ∀ x ∈ sK, 20 ≤ x := by decide
  have := this c q
  omega)
theorem kt_ag {nt : Nat} {τ0 τ : SS} (h : kt nt τ0 τ) : ag τ0.1 τ.1 := fun c h0 h1 => kt_lo h h0 (by omega)
theorem kt_same {nt : Nat} {τ0 τ : SS} (h : kt nt τ0 τ) : same τ0 τ := ⟨kt_ag h, h.2.1 0 (by decide), h.2.1 5 (by decide), h.2.1 12 (by decide)⟩
theorem kt_gM {nt nm : Nat} {τ0 τ : SS} {P : Nat → Nat → Int32} (h : kt nt τ0 τ) (hg : gM τ0 P nt nm) : gM τ P nt nm := by
  refine ⟨(SM_same (fun q hq => kt_lo h (by omega) (by omega))).trans hg.1, fun q hq => by rw [kt_lo h (by omega) (by omega)]; exact hg.2.1 q hq, ?_, ?_, ?_⟩
  · unfold FM
    rw [kt_lo h (by decide) (by decide)]
    exact hg.2.2.1
  · rw [h.1 26 (by decide) (by decide)]; exact hg.2.2.2.1
  · rw [h.1 25 (by decide) (by decide)]; exact hg.2.2.2.2
theorem kt_W {nt nm no : Nat} {τ0 τ : SS} (h : kt nt τ0 τ) (hW : WF τ0.1 nt nm no) : WF τ.1 nt nm no := WF_ag hW (kt_ag h) (h.2.1 0 (by decide)) (h.2.1 5 (by decide)) (h.2.1 12 (by decide))
/-- the run so far, alike on both sides -/
def RS (P : Nat → Nat → Int32) (nt nm : Nat) (σ0 τ0 σ τ : SS) (w : Nat) : Prop := kr σ0 σ ∧ kt nt τ0 τ ∧ σ.2 6 8 = τ.2 0 38 ∧ (∃ st, st ≤ 300 ∧ σ.1 6 12 = nI st ∧ τ.1 0 39 = nI st) ∧ σ.1 6 13 = τ.1 0 41 ∧ σ.1 6 14 = τ.1 0 42 ∧ (∀ k, k < 48 → τ.1 32 k = b2 (lb (σ.2 6 9) k)) ∧ (∀ k, lb (σ.2 6 9) k = true → LG P nt nm 0 k 0) ∧ (∀ k, k < 16 → τ.1 33 k = b2 (lb (σ.2 6 10) k)) ∧ (∀ k, lb (σ.2 6 10) k = true → LG P nt nm 2 k 0) ∧ (∃ pc, pc ≤ 20 ∧ σ.1 6 11 = nI pc ∧ τ.1 0 47 = nI pc ∧ ∀ i, i < pc → ∃ c, c < nt ∧ LG P nt nm 1 c 0 ∧ σ.1 29 i = nI c ∧ τ.1 34 i = nI c) ∧ (∀ a, a < 4 → ∃ bc, σ.1 31 a = nI bc ∧ τ.1 36 a = nI bc ∧ bc = cn (fun m => pb (∃ i, i < bc ∧ σ.1 30 (a * 48 + i) = nI m)) nm ∧ ∀ i, i < bc → ∃ m, m < nm ∧ LG P nt nm 3 a m ∧ σ.1 30 (a * 48 + i) = nI m ∧ τ.1 35 (48 * a + i) = nI m) ∧ τ.1 0 43 = 1 ∧ τ.1 0 40 = nI w ∧ ∀ o, o < 160 → ∀ m, lb (σ.2 32 o) m = true → LG P nt nm 4 o m
/-- the reference changes its stack and its scratch alone -/
def sY : List Nat := [20, 21, 22, 23, 28, 29, 30, 31]
theorem sYK : ∀ x ∈ sY, x ∈ sK := by decide
def kx (nt : Nat) (τ τ' : SS) : Prop := τ'.2 = τ.2 ∧ (∀ c, c ≠ 0 → c ∉ sY → τ'.1 c = τ.1 c) ∧ (∀ j, j ≠ 26 → j ≠ 37 → τ'.1 0 j = τ.1 0 j) ∧ okU τ'.1 nt
theorem kx_tr {nt : Nat} {a b c : SS} (h : kx nt a b) (g : kx nt b c) : kx nt a c := ⟨g.1.trans h.1, fun k h0 h1 => (g.2.1 k h0 h1).trans (h.2.1 k h0 h1), fun j h1 h2 => (g.2.2.1 j h1 h2).trans (h.2.2.1 j h1 h2), g.2.2.2⟩
theorem RS_x {P : Nat → Nat → Int32} {nt nm w : Nat} {σ0 τ0 σ τ τ' : SS} (h : RS P nt nm σ0 τ0 σ τ w) (hx : kx nt τ τ') : RS P nt nm σ0 τ0 σ τ' w := by
  obtain ⟨h1, h2, h3, h4, h5, h6, h7, h8, h9, h10, h11, h12, h13, h14, h15⟩ := h
  obtain ⟨x1, x2, x3, x4⟩ := hx
  refine ⟨h1, ⟨fun c a b => (x2 c a (fun q => b (sYK c q))).trans (h2.1 c a b), fun j hj => (x3 j (by omega) (by omega)).trans (h2.2.1 j hj), x4⟩, ?_, ?_, ?_, ?_, ?_, h8, ?_, h10, ?_, ?_, ?_, ?_, h15⟩
  · rw [x1]; exact h3
  · rw [x3 39 (by decide) (by decide)]; exact h4
  · rw [x3 41 (by decide) (by decide)]; exact h5
  · rw [x3 42 (by decide) (by decide)]; exact h6
  · rw [x2 32 (by decide) (by decide)]; exact h7
  · rw [x2 33 (by decide) (by decide)]; exact h9
  · rw [x3 47 (by decide) (by decide), x2 34 (by decide) (by decide)]; exact h11
  · rw [x2 36 (by decide) (by decide), x2 35 (by decide) (by decide)]; exact h12
  · rw [x3 43 (by decide) (by decide)]; exact h13
  · rw [x3 40 (by decide) (by decide)]; exact h14
/-! the stack -/
def it (τ : SS) (i : Nat) (k a n b : Int32) : Prop := τ.1 28 i = k ∧ τ.1 29 i = a ∧ τ.1 30 i = n ∧ τ.1 31 i = b
/-- alike below D -/
def sb (D : Nat) (τ τ' : SS) : Prop := ∀ i, i < D → τ'.1 28 i = τ.1 28 i ∧ τ'.1 29 i = τ.1 29 i ∧ τ'.1 30 i = τ.1 30 i ∧ τ'.1 31 i = τ.1 31 i
theorem sb_rf (D : Nat) (τ : SS) : sb D τ τ := fun _ _ => ⟨rfl, rfl, rfl, rfl⟩
theorem sb_tr {D : Nat} {a b c : SS} (h : sb D a b) (g : sb D b c) : sb D a c := fun i hi => ⟨(g i hi).1.trans (h i hi).1, (g i hi).2.1.trans (h i hi).2.1, (g i hi).2.2.1.trans (h i hi).2.2.1, (g i hi).2.2.2.trans (h i hi).2.2.2⟩
theorem sb_le {D D' : Nat} {a b : SS} (h : sb D a b) (hD : D' ≤ D) : sb D' a b := fun i hi => h i (by omega)
theorem sb_it {D i : Nat} {τ τ' : SS} {k a n b : Int32} (h : sb D τ τ') (hi : i < D) (g : it τ i k a n b) : it τ' i k a n b := ⟨(h i hi).1.trans g.1, (h i hi).2.1.trans g.2.1, (h i hi).2.2.1.trans g.2.2.1, (h i hi).2.2.2.trans g.2.2.2⟩
/-- scratch leaves the stack -/
theorem sb_kp {S : List Nat} {D : Nat} {τ τ' : SS} (h : kp S τ τ') (hS : ∀ x ∈ S, x ∈ sX) : sb D τ τ' ∧ τ'.1 0 37 = τ.1 0 37 := by
  have hc : ∀ c, 25 ≤ c → τ'.1 c = τ.1 c := fun c hc => h.2.1 c (by omega) (fun q => by
    have : ∀ x ∈ sX, x ≤ 24 := by decide
    have := this c (hS c q)
    omega)
  exact ⟨fun i _ => ⟨by rw [hc 28 (by decide)], by rw [hc 29 (by decide)], by rw [hc 30 (by decide)], by rw [hc 31 (by decide)]⟩, h.2.2 37 (by decide)⟩
theorem kx_kp {S : List Nat} {nt : Nat} {τ τ' : SS} (h : kp S τ τ') (hS : ∀ x ∈ S, x ∈ sV) (ho : okU τ'.1 nt) : kx nt τ τ' := ⟨h.1, fun c h0 h1 => h.2.1 c h0 (fun q => h1 (by
  have : ∀ x ∈ sV, x ∈ sY := by decide
  exact this c (hS c q))), fun j h1 _ => h.2.2 j h1, ho⟩
def psh (τ : SS) (D : Nat) (k a b : Int32) : SS := sI (sI (sI (sI (sI τ 28 D k) 29 D a) 30 D 0) 31 D b) 0 37 (nI (D + 1))
theorem m_push {τ : SS} {D : Nat} (h : τ.1 0 37 = nI D) (hD : D < 1000) (k a b : Int32) : p_X8_push_0 k a b τ = some (psh τ D k a b) := by
  unfold p_X8_push_0
  have e : ∀ s : SS, s.1 0 = τ.1 0 → s.1 0 37 = nI D := fun s hs => by rw [hs]; exact h
  have a1 : (sI τ 28 D k).1 0 = τ.1 0 := by rw [sI_p, pI_ne _ _ (by decide)]
  have a2 : (sI (sI τ 28 D k) 29 D a).1 0 = τ.1 0 := by rw [sI_p, pI_ne _ _ (by decide), a1]
  have a3 : (sI (sI (sI τ 28 D k) 29 D a) 30 D 0).1 0 = τ.1 0 := by rw [sI_p, pI_ne _ _ (by decide), a2]
  have a4 : (sI (sI (sI (sI τ 28 D k) 29 D a) 30 D 0) 31 D b).1 0 = τ.1 0 := by rw [sI_p, pI_ne _ _ (by decide), a3]
  rw [h, oi_n hD (by decide), nI_clamp (show D < 2 ^ 31 by omega), os_s, e _ a1, oi_n hD (by decide), nI_clamp (show D < 2 ^ 31 by omega), os_s, e _ a2, oi_n hD (by decide), nI_clamp (show D < 2 ^ 31 by omega), os_s, e _ a3, oi_n hD (by decide), nI_clamp (show D < 2 ^ 31 by omega), os_s, e _ a4, os_s, nI_1]
  rfl
theorem psh_f {τ : SS} {D nt : Nat} {k a b : Int32} (ho : okU τ.1 nt) : kx nt τ (psh τ D k a b) ∧ sb D τ (psh τ D k a b) ∧ it (psh τ D k a b) D k a 0 b ∧ (psh τ D k a b).1 0 37 = nI (D + 1) := by
  have c28 : (psh τ D k a b).1 28 = upd (τ.1 28) D k := by
    unfold psh
    rw [sI_p, pI_ne _ _ (by decide), sI_p, pI_ne _ _ (by decide), sI_p, pI_ne _ _ (by decide), sI_p, pI_ne _ _ (by decide), sI_p, pI_at]
  have c29 : (psh τ D k a b).1 29 = upd (τ.1 29) D a := by
    unfold psh
    rw [sI_p, pI_ne _ _ (by decide), sI_p, pI_ne _ _ (by decide), sI_p, pI_ne _ _ (by decide), sI_p, pI_at, sI_p, pI_ne _ _ (by decide)]
  have c30 : (psh τ D k a b).1 30 = upd (τ.1 30) D 0 := by
    unfold psh
    rw [sI_p, pI_ne _ _ (by decide), sI_p, pI_ne _ _ (by decide), sI_p, pI_at, sI_p, pI_ne _ _ (by decide), sI_p, pI_ne _ _ (by decide)]
  have c31 : (psh τ D k a b).1 31 = upd (τ.1 31) D b := by
    unfold psh
    rw [sI_p, pI_ne _ _ (by decide), sI_p, pI_at, sI_p, pI_ne _ _ (by decide), sI_p, pI_ne _ _ (by decide), sI_p, pI_ne _ _ (by decide)]
  have c0 : (psh τ D k a b).1 0 = upd (τ.1 0) 37 (nI (D + 1)) := by
    unfold psh
    rw [sI_p, pI_at, sI_p, pI_ne _ _ (by decide), sI_p, pI_ne _ _ (by decide), sI_p, pI_ne _ _ (by decide), sI_p, pI_ne _ _ (by decide)]
  have cx : ∀ c, c ≠ 0 → c ∉ sY → (psh τ D k a b).1 c = τ.1 c := fun c h0 h1 => by
    have e : ∀ x ∈ sY, c ≠ x := fun x hx q => h1 (by rw [q]; exact hx)
    unfold psh
    rw [sI_p, pI_ne _ _ h0, sI_p, pI_ne _ _ (e 31 (by decide)), sI_p, pI_ne _ _ (e 30 (by decide)), sI_p, pI_ne _ _ (e 29 (by decide)), sI_p, pI_ne _ _ (e 28 (by decide))]
  have c21 : (psh τ D k a b).1 21 = τ.1 21 := by
    unfold psh
    rw [sI_p, pI_ne _ _ (by decide), sI_p, pI_ne _ _ (by decide), sI_p, pI_ne _ _ (by decide), sI_p, pI_ne _ _ (by decide), sI_p, pI_ne _ _ (by decide)]
  refine ⟨⟨rfl, cx, fun j _ h2 => by rw [c0, upd_ne h2], okU_c ho (by rw [c0, upd_ne (by decide)]) c21 (und_c (cx 2 (by decide) (by decide)) (cx 3 (by decide) (by decide)) (cx 4 (by decide) (by decide)))⟩, fun i hi => ⟨by rw [c28, upd_ne (by omega)], by rw [c29, upd_ne (by omega)], by rw [c30, upd_ne (by omega)], by rw [c31, upd_ne (by omega)]⟩, ⟨by rw [c28, upd_at], by rw [c29, upd_at], by rw [c30, upd_at], by rw [c31, upd_at]⟩, by rw [c0, upd_at]⟩
/-- the stack one lower -/
theorem pop_f {τ : SS} {D nt : Nat} (ho : okU τ.1 nt) : kx nt τ (sI τ 0 37 (nI D)) ∧ (∀ D', sb D' τ (sI τ 0 37 (nI D))) ∧ (sI τ 0 37 (nI D)).1 0 37 = nI D := by
  have c0 : (sI τ 0 37 (nI D)).1 0 = upd (τ.1 0) 37 (nI D) := by rw [sI_p, pI_at]
  have cx : ∀ c, c ≠ 0 → (sI τ 0 37 (nI D)).1 c = τ.1 c := fun c h0 => by rw [sI_p, pI_ne _ _ h0]
  refine ⟨⟨rfl, fun c h0 _ => cx c h0, fun j _ h2 => by rw [c0, upd_ne h2], okU_c ho (by rw [c0, upd_ne (by decide)]) (cx 21 (by decide)) (und_c (cx 2 (by decide)) (cx 3 (by decide)) (cx 4 (by decide)))⟩, fun D' i _ => ⟨by rw [cx 28 (by decide)], by rw [cx 29 (by decide)], by rw [cx 30 (by decide)], by rw [cx 31 (by decide)]⟩, by rw [c0, upd_at]⟩
theorem sub1 {n : Nat} : nI (n + 1) - 1 = nI n := by rw [← nI_1, Int32.add_sub_cancel]
/-- doNext so many times -/
def Go : Nat → SS → SS → Prop
  | 0, a, b => b = a
  | j + 1, a, b => ¬ a.1 0 37 ≤ 0 ∧ ∃ s, p_X8_doNext_0 a = some s ∧ Go j s b
theorem Go_tr : ∀ (i j : Nat) (a b c : SS), Go i a b → Go j b c → Go (i + j) a c := by
  intro i
  induction i with
  | zero =>
    intro j a b c h g
    have e : b = a := h
    subst e
    rw [Nat.zero_add]; exact g
  | succ i ih =>
    rintro j a b c ⟨h1, s, h2, h3⟩ g
    rw [show i + 1 + j = (i + j) + 1 by omega]
    exact ⟨h1, s, h2, ih j s b c h3 g⟩
theorem Go_1 {D : Nat} {a b : SS} (h : a.1 0 37 = nI (D + 1)) (hD : D < 1000) (e : p_X8_doNext_0 a = some b) : Go 1 a b := ⟨by rw [h]; exact nI_nle (by omega) (by omega), b, e, rfl⟩
theorem Go_run (k108 : Int32 → SS → Option SS) (v3 : Int32) : ∀ (j f : Nat) (a b : SS), Go j a b → p_X8_runAll_132 k108 (j + f) v3 a = p_X8_runAll_132 k108 f v3 b := by
  intro j
  induction j with
  | zero =>
    intro f a b h
    have e : b = a := h
    rw [e, Nat.zero_add]
  | succ j ih =>
    rintro f a b ⟨h1, s, h2, h3⟩
    rw [show j + 1 + f = (j + f) + 1 by omega, p_X8_runAll_132]
    try dsimp only
    rw [if_neg h1, oc_s h2]
    exact ih f s b h3
