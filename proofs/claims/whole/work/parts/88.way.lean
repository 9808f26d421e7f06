/-! pure: THE WAY -/
/-- one comes from k to i in d calls -/
def wk (D : Nat → Nat → Prop) : Nat → Nat → Nat → Prop
  | 0, k, i => k = i
  | d + 1, k, i => ∃ j, D k j ∧ wk D d j i
theorem wk_app {D : Nat → Nat → Prop} : ∀ (d k i j : Nat), wk D d k i → D i j → wk D (d + 1) k j := by
  intro d
  induction d with
  | zero =>
    intro k i j h g
    have h' : k = i := h
    subst h'
    exact ⟨j, g, rfl⟩
  | succ d ih =>
    rintro k i j ⟨x, h1, h2⟩ g
    exact ⟨x, h1, ih x i j h2 g⟩
/-- to a REACHED member one comes from a root -/
theorem LG_root {P : Nat → Nat → Int32} {nt nm m : Nat} (h : LG P nt nm 0 m 0) : ∃ r d, r < nm ∧ P 8 r = 1 ∧ wk (dirP P nt nm) d r m := by
  have hL := LG_cls P nt nm
  refine (h (fun q i j => LG P nt nm q i j ∧ (q = 0 → ∃ r d, r < nm ∧ P 8 r = 1 ∧ wk (dirP P nt nm) d r i) ∧ (q = 4 → ∃ m', ofM P m' i ∧ ∃ r d, r < nm ∧ P 8 r = 1 ∧ wk (dirP P nt nm) d r m')) ⟨fun m hm h8 => ⟨hL.1 m hm h8, fun _ => ⟨m, 0, hm, h8, rfl⟩, fun q => by cases q⟩, fun o m w => ⟨hL.2.1 o m w.1, fun _ => ?_, fun q => by cases q⟩, fun m hm w o ho q i j hq => ?_⟩).2.1 rfl
  · obtain ⟨w1, -, w3⟩ := w
    obtain ⟨m', a1, r, d, a2, a3, a4⟩ := w3 rfl
    exact ⟨r, d + 1, a2, a3, wk_app d r m' m a4 ⟨o, a1, w1⟩⟩
  · have hq' : opS P nt nm (LG P nt nm) o q i j := opS_dep (fun c w => w.1) (fun a m w => w.1) hq
    refine ⟨hL.2.2 m hm w.1 o ho q i j hq', fun e => ?_, fun e => ?_⟩
    · subst e; exact (opS_n0 hq').elim
    · subst e
      have : i = o := opS_o hq'
      subst this
      exact ⟨m, ho, w.2.1 rfl⟩
/-- the least number of calls -/
def mnd (D : Nat → Nat → Prop) (m e v : Nat) : Prop := wk D e v m ∧ ∀ e', e' < e → ¬ wk D e' v m
theorem mnd_down {D : Nat → Nat → Prop} {m d k : Nat} (h : mnd D m (d + 1) k) : ∃ j, D k j ∧ mnd D m d j := by
  obtain ⟨⟨j, h1, h2⟩, h3⟩ := h
  exact ⟨j, h1, h2, fun e' he w => h3 (e' + 1) (by omega) ⟨j, h1, w⟩⟩
theorem mnd_all {D : Nat → Nat → Prop} {m nm : Nat} (hD : ∀ k j, D k j → j < nm) : ∀ (d k : Nat), k < nm → mnd D m d k → ∀ e, e ≤ d → ∃ v, v < nm ∧ mnd D m e v := by
  intro d
  induction d with
  | zero => intro k hk h e he; exact ⟨k, hk, by rw [show e = 0 by omega]; exact h⟩
  | succ d ih =>
    intro k hk h e he
    by_cases q : e = d + 1
    · rw [q]; exact ⟨k, hk, h⟩
    · obtain ⟨j, h1, h2⟩ := mnd_down h
      exact ih j (hD k j h1) h2 e (by omega)
theorem mnd_lt {D : Nat → Nat → Prop} {m nm d k : Nat} (hD : ∀ k j, D k j → j < nm) (hk : k < nm) (h : mnd D m d k) : d < nm := by
  have key : ∀ E, E ≤ d + 1 → E ≤ cn (fun v => pb (∃ e, e < E ∧ mnd D m e v)) nm := by
    intro E
    induction E with
    | zero => intro _; exact Nat.zero_le _
    | succ E ih =>
      intro hE
      have h1 := ih (by omega)
      obtain ⟨v, hv, hm⟩ := mnd_all hD d k hk h E (by omega)
      have hsub : ∀ u, u < nm → pb (∃ e, e < E ∧ mnd D m e u) = true → pb (∃ e, e < E + 1 ∧ mnd D m e u) = true := fun u _ w => by
        obtain ⟨e, a, b⟩ := pb_t.mp w
        exact pb_t.mpr ⟨e, by omega, b⟩
      have hle := cn_sub hsub
      by_cases q : cn (fun v => pb (∃ e, e < E ∧ mnd D m e v)) nm = cn (fun v => pb (∃ e, e < E + 1 ∧ mnd D m e v)) nm
      · exfalso
        have hs := cn_same hsub q v hv
        have ht : pb (∃ e, e < E + 1 ∧ mnd D m e v) = true := pb_t.mpr ⟨E, by omega, hm⟩
        rw [← hs] at ht
        obtain ⟨e, a, b⟩ := pb_t.mp ht
        exact hm.2 e a b.1
      · omega
  have h1 := key (d + 1) (Nat.le_refl _)
  have h2 := cn_le (fun v => pb (∃ e, e < d + 1 ∧ mnd D m e v)) nm
  omega
theorem mnd_ex {D : Nat → Nat → Prop} {m : Nat} : ∀ (d k : Nat), wk D d k m → ∃ e, e ≤ d ∧ mnd D m e k := by
  intro d
  induction d using Nat.strongRecOn with
  | ind d ih =>
    intro k h
    by_cases q : ∃ e, e < d ∧ wk D e k m
    · obtain ⟨e, a, b⟩ := q
      obtain ⟨e', a', b'⟩ := ih e a k b
      exact ⟨e', by omega, b'⟩
    · exact ⟨d, Nat.le_refl _, h, fun e' he w => q ⟨e', he, w⟩⟩
/-- the first root distance -/
def rtd (D : Nat → Nat → Prop) (R : Nat → Prop) (m d : Nat) : Prop := (∃ r, R r ∧ wk D d r m) ∧ ∀ d' r, d' < d → R r → ¬ wk D d' r m
theorem rtd_ex {D : Nat → Nat → Prop} {R : Nat → Prop} {m : Nat} : ∀ (d r : Nat), R r → wk D d r m → ∃ e, e ≤ d ∧ rtd D R m e := by
  intro d
  induction d using Nat.strongRecOn with
  | ind d ih =>
    intro r hr h
    by_cases q : ∃ e r', e < d ∧ R r' ∧ wk D e r' m
    · obtain ⟨e, r', a, b, c⟩ := q
      obtain ⟨e', a', b'⟩ := ih e a r' b c
      exact ⟨e', by omega, b'⟩
    · exact ⟨d, Nat.le_refl _, ⟨r, hr, h⟩, fun d' r' a b w => q ⟨d', r', a, b, w⟩⟩
/-- the least number with X -/
def lst (X : Nat → Prop) (nm a : Nat) : Prop := a < nm ∧ X a ∧ ∀ j, j < a → ¬ X j
theorem lst_one {X : Nat → Prop} {nm a b : Nat} (h : lst X nm a) (g : lst X nm b) : a = b := by
  rcases Nat.lt_trichotomy a b with q | q | q
  · exact absurd h.2.1 (g.2.2 a q)
  · exact q
  · exact absurd g.2.1 (h.2.2 b q)
/-- THE WAY: its n-th member -/
def Wy (D : Nat → Nat → Prop) (R : Nat → Prop) (nm m d : Nat) : Nat → Nat → Prop
  | 0, a => lst (fun k => R k ∧ wk D d k m) nm a
  | n + 1, a => ∃ a', Wy D R nm m d n a' ∧ lst (fun c => D a' c ∧ wk D (d - (n + 1)) c m) nm a
theorem Wy_one {D : Nat → Nat → Prop} {R : Nat → Prop} {nm m d : Nat} : ∀ (n a b : Nat), Wy D R nm m d n a → Wy D R nm m d n b → a = b := by
  intro n
  induction n with
  | zero => intro a b h g; exact lst_one h g
  | succ n ih =>
    rintro a b ⟨a', h1, h2⟩ ⟨b', g1, g2⟩
    have := ih a' b' h1 g1
    subst this
    exact lst_one h2 g2
theorem Wy_lt {D : Nat → Nat → Prop} {R : Nat → Prop} {nm m d : Nat} : ∀ (n a : Nat), n ≤ d → Wy D R nm m d n a → a < nm ∧ wk D (d - n) a m := by
  intro n
  cases n with
  | zero => intro a _ h; exact ⟨h.1, h.2.1.2⟩
  | succ n => rintro a hn ⟨a', -, h⟩; exact ⟨h.1, h.2.1.2⟩
/-- the next one is there -/
theorem Wy_next {D : Nat → Nat → Prop} {R : Nat → Prop} {nm m d n a : Nat} (hD : ∀ k j, D k j → j < nm) (hn : n < d) (h : Wy D R nm m d n a) : ∃ c, c < nm ∧ D a c ∧ wk D (d - (n + 1)) c m := by
  obtain ⟨h1, h2⟩ := Wy_lt n a (by omega) h
  rw [show d - n = (d - (n + 1)) + 1 by omega] at h2
  obtain ⟨c, h3, h4⟩ := h2
  exact ⟨c, hD a c h3, h3, h4⟩
/-! the class: layers -/
theorem gC_28 {σ : SS} {P : Nat → Nat → Int32} {nt nm : Nat} (h : gC σ P nt nm) (g : Nat → Int64) : gC (pL σ 28 g) P nt nm := by
  have e : ∀ c, c ≠ 28 → (pL σ 28 g).2 c = σ.2 c := fun c hc => pL_ne σ g hc
  have eS : SC (pL σ 28 g) = SC σ := by
    funext q i j
    unfold SC
    rw [e 5 (by decide), e 24 (by decide), e 25 (by decide)]
  unfold gC at h ⊢
  rw [eS, e 26 (by decide), e 27 (by decide)]
  exact h
theorem layWay_7 {P : Nat → Nat → Int32} {nt nm m d : Nat} (h48 : nm ≤ 48) (hm : m < nm) {σ : SS} (hs : σ.1 2 10 = nI nm) (hg : gC σ P nt nm) (hR : ∀ k, k < 64 → (lb (σ.2 2 9) k = true ↔ k < nm ∧ P 8 k = 1)) (hd : d < 48) (hr : rtd (dirP P nt nm) (fun k => k < nm ∧ P 8 k = 1) m d) : ∀ (r a fuel : Nat) (x : Int64) (g : Nat → Int64), a + r = d → r < fuel → (∀ k, k < 64 → (lb x k = true ↔ wk (dirP P nt nm) a k m ∧ k < nm)) → (∀ a', a' < a → ∀ k, k < 64 → (lb (g a') k = true ↔ wk (dirP P nt nm) a' k m ∧ k < nm)) →
    ∃ g', p_X3_layWay_7 fuel x (nI a) (pL σ 28 g) = some (nI d, pL σ 28 g') ∧ ∀ a', a' ≤ d → ∀ k, k < 64 → (lb (g' a') k = true ↔ wk (dirP P nt nm) a' k m ∧ k < nm) := by
  have hstep : ∀ (a : Nat) (x : Int64) (g : Nat → Int64), (∀ k, k < 64 → (lb x k = true ↔ wk (dirP P nt nm) a k m ∧ k < nm)) → (∀ a', a' < a → ∀ k, k < 64 → (lb (g a') k = true ↔ wk (dirP P nt nm) a' k m ∧ k < nm)) → ∀ a', a' < a + 1 → ∀ k, k < 64 → (lb (vp_updL g a x a') k = true ↔ wk (dirP P nt nm) a' k m ∧ k < nm) := by
    intro a x g hx hgg a' ha' k hk
    by_cases e : a' = a
    · rw [e, updL_at]; exact hx k hk
    · rw [updL_ne e]; exact hgg a' (by omega) k hk
  intro r
  induction r with
  | zero =>
    intro a fuel x g ha hf hx hgg
    obtain ⟨f, rfl⟩ : ∃ f, fuel = f + 1 := ⟨fuel - 1, by omega⟩
    have e : a = d := by omega
    subst e
    refine ⟨vp_updL g a x, ?_, fun a' ha' => hstep a x g hx hgg a' (by omega)⟩
    rw [p_X3_layWay_7]
    try dsimp only
    rw [if_neg (show ¬ (48 : Int32) ≤ nI a from nI_ge (b := 48) (by omega) (by omega)), oi_n hd (by decide), nI_clamp (show a < 2 ^ 31 by omega), os_s, pL_s]
    have hro : p_X4_roots_0 (pL σ 28 (vp_updL g a x)) = some (σ.2 2 9) := by
      unfold p_X4_roots_0
      rw [pL_ne _ _ (by decide)]
    rw [oc_s hro]
    have hne : ¬ (x &&& σ.2 2 9) = 0 := by
      obtain ⟨⟨rr, ⟨q1, q2⟩, q3⟩, -⟩ := hr
      intro q
      have : lb (x &&& σ.2 2 9) rr = true := by rw [lb_and, (hx rr (by omega)).mpr ⟨q3, q1⟩, (hR rr (by omega)).mpr ⟨q1, q2⟩]; rfl
      rw [q, lb_0] at this
      cases this
    rw [if_neg (fun q => hne ((lg_cmp_eq _ _).mp q))]
  | succ r ih =>
    intro a fuel x g ha hf hx hgg
    obtain ⟨f, rfl⟩ : ∃ f, fuel = f + 1 := ⟨fuel - 1, by omega⟩
    rw [p_X3_layWay_7]
    try dsimp only
    rw [if_neg (show ¬ (48 : Int32) ≤ nI a from nI_ge (b := 48) (by omega) (by omega)), oi_n (show a < 48 by omega) (by decide), nI_clamp (show a < 2 ^ 31 by omega), os_s, pL_s]
    have hro : p_X4_roots_0 (pL σ 28 (vp_updL g a x)) = some (σ.2 2 9) := by
      unfold p_X4_roots_0
      rw [pL_ne _ _ (by decide)]
    rw [oc_s hro]
    have h0 : (x &&& σ.2 2 9) = 0 := by
      refine lb_ext (fun k hk => ?_)
      rw [lb_0]
      cases hb : lb (x &&& σ.2 2 9) k with
      | false => rfl
      | true =>
        rw [lb_and, Bool.and_eq_true] at hb
        exact absurd ((hx k hk).mp hb.1).1 (hr.2 a k (by omega) ((hR k hk).mp hb.2))
    rw [if_pos ((lg_cmp_eq _ _).mpr h0)]
    obtain ⟨x', q1, q2⟩ := k_callersOfAny (σ := pL σ 28 (vp_updL g a x)) h48 hs (gC_28 hg _) x
    rw [oc_s q1, nI_1]
    refine ih (a + 1) f x' (vp_updL g a x) (by omega) (by omega) (fun k hk => ?_) (hstep a x g hx hgg)
    rw [q2 k hk]
    constructor
    · rintro ⟨w1, j, w2, w3⟩
      have hj := dir_lt w3
      exact ⟨⟨j, w3, ((hx j (by omega)).mp w2).1⟩, w1⟩
    · rintro ⟨⟨j, w1, w2⟩, w3⟩
      have hj := dir_lt w1
      exact ⟨w3, j, (hx j (by omega)).mpr ⟨w2, hj⟩, w1⟩
theorem least_lst {x : Int64} {X : Nat → Prop} {nm : Nat} (h48 : nm ≤ 48) (h : ∀ k, k < 64 → (lb x k = true ↔ X k ∧ k < nm)) (hex : ∃ k, k < nm ∧ X k) : ∃ a, p_X0_least_0 x = some (nI a) ∧ lst X nm a := by
  obtain ⟨r, n1, n2⟩ := p_least x
  obtain ⟨k0, hk0, hX0⟩ := hex
  have hb0 : lb x k0 = true := (h k0 (by omega)).mpr ⟨hX0, hk0⟩
  rcases n2 with ⟨-, h1 | h1⟩ | ⟨k, hk, hf, hi, hr⟩
  · exact absurd h1 (by decide)
  · exfalso
    have h2 := cn_lt hb0 (show k0 < 64 by omega)
    have h3 := cn_le (lb x) 64
    exact nI_ge (a := 0) (b := cn (lb x) 64) (by omega) (by omega) h1
  · refine ⟨k, by rw [n1, hr], ((h k hk).mp hf).2, ((h k hk).mp hf).1, fun j hj w => ?_⟩
    have hjn : j < nm := by have := ((h k hk).mp hf).2; omega
    have h2 := cn_lt ((h j (by omega)).mpr ⟨w, hjn⟩) hj
    have h3 := cn_le (lb x) k
    have : 0 = cn (lb x) k := (nI_eq (by omega) (by omega)).mp hi
    omega
theorem onWay_52 {P : Nat → Nat → Int32} {nt nm m d i : Nat} (h48 : nm ≤ 48) {σ : SS} {R : Nat → Prop} (hg : gC σ P nt nm) (hd : d < 48) (hi : i ≤ d) (hl : ∀ a', a' ≤ d → ∀ k, k < 64 → (lb (σ.2 28 a') k = true ↔ wk (dirP P nt nm) a' k m ∧ k < nm)) : ∀ (r n fuel a : Nat), n + r = i → r < fuel → Wy (dirP P nt nm) R nm m d n a → ∃ x, p_X3_onWay_52 fuel (nI i) (nI d) (nI a) (nI (n + 1)) σ = some (nI x, σ) ∧ Wy (dirP P nt nm) R nm m d i x := by
  intro r
  induction r with
  | zero =>
    intro n fuel a hn hf hw
    obtain ⟨f, rfl⟩ : ∃ f, fuel = f + 1 := ⟨fuel - 1, by omega⟩
    have e : n = i := by omega
    subst e
    refine ⟨a, ?_, hw⟩
    rw [p_X3_onWay_52]
    try dsimp only
    rw [if_pos (nI_lt (by omega) (by omega))]
    rfl
  | succ r ih =>
    intro n fuel a hn hf hw
    obtain ⟨f, rfl⟩ : ∃ f, fuel = f + 1 := ⟨fuel - 1, by omega⟩
    have ha := (Wy_lt n a (by omega) hw).1
    rw [p_X3_onWay_52]
    try dsimp only
    have hsub : nI d - nI (n + 1) = nI (d - (n + 1)) := by
      have : nI d = nI (d - (n + 1)) + nI (n + 1) := by rw [nI_add]; congr 1; omega
      rw [this, Int32.add_sub_cancel]
    rw [if_neg (nI_nlt (by omega) (by omega)), if_neg (fun q => nI_m1 (u := a) (by omega) q.symm), hsub, oi_n (show d - (n + 1) < 48 by omega) (by decide), oi_n (show a < 48 by omega) (by decide), nI_clamp (show d - (n + 1) < 2 ^ 31 by omega), nI_clamp (show a < 2 ^ 31 by omega)]
    obtain ⟨c0, w1, w2, w3⟩ := Wy_next (fun k j w => dir_lt w) (by omega) hw
    obtain ⟨c, q1, q2⟩ := least_lst (X := fun c => dirP P nt nm a c ∧ wk (dirP P nt nm) (d - (n + 1)) c m) h48 (x := σ.2 28 (d - (n + 1)) &&& σ.2 26 a) (fun k hk => by
      rw [lb_and, Bool.and_eq_true, hl _ (by omega) k hk, gC_d hg ha, pb_t]
      exact ⟨fun w => ⟨⟨w.2, w.1.1⟩, w.1.2⟩, fun w => ⟨⟨w.1.2, w.2⟩, w.1.1⟩⟩) ⟨c0, w1, w2, w3⟩
    rw [oc_s q1, nI_1]
    exact ih (n + 1) f c (by omega) (by omega) ⟨a, hw, q2⟩
/-- what way answers -/
def isWay (P : Nat → Nat → Int32) (nt nm m : Nat) (v r : Int32) : Prop := (r = -1 ∧ (¬ LG P nt nm 0 m 0 ∨ v < 0)) ∨ (LG P nt nm 0 m 0 ∧ ∃ i d, v = nI i ∧ i < 2 ^ 31 ∧ rtd (dirP P nt nm) (fun k => k < nm ∧ P 8 k = 1) m d ∧ ((d < i ∧ r = -1) ∨ (i ≤ d ∧ ∃ x, r = nI x ∧ Wy (dirP P nt nm) (fun k => k < nm ∧ P 8 k = 1) nm m d i x)))
theorem rtd_one {D : Nat → Nat → Prop} {R : Nat → Prop} {m d e : Nat} (h : rtd D R m d) (g : rtd D R m e) : d = e := by
  obtain ⟨⟨r, h1, h2⟩, h3⟩ := h
  obtain ⟨⟨s, g1, g2⟩, g3⟩ := g
  rcases Nat.lt_trichotomy d e with q | q | q
  · exact absurd h2 (g3 d r q h1)
  · exact q
  · exact absurd g2 (h3 e s q g1)
theorem isWay_one {P : Nat → Nat → Int32} {nt nm m : Nat} {v r r' : Int32} (h : isWay P nt nm m v r) (h' : isWay P nt nm m v r') : r = r' := by
  rcases h with ⟨h1, h2⟩ | ⟨h1, i, d, h2, h3, h4, h5⟩
  · rcases h' with ⟨g1, g2⟩ | ⟨g1, i', d', g2, g3, g4, g5⟩
    · rw [h1, g1]
    · rcases h2 with h2 | h2
      · exact absurd g1 h2
      · rw [g2] at h2; exact absurd h2 (nI_pos g3)
  · rcases h' with ⟨g1, g2 | g2⟩ | ⟨g1, i', d', g2, g3, g4, g5⟩
    · exact absurd h1 g2
    · rw [h2] at g2; exact absurd g2 (nI_pos h3)
    · have e1 : i = i' := (nI_eq h3 g3).mp (h2.symm.trans g2)
      have e2 := rtd_one h4 g4
      subst e1; subst e2
      rcases h5 with ⟨a, b⟩ | ⟨a, x, b, c⟩
      · rcases g5 with ⟨a', b'⟩ | ⟨a', x', b', c'⟩
        · rw [b, b']
        · omega
      · rcases g5 with ⟨a', b'⟩ | ⟨a', x', b', c'⟩
        · omega
        · rw [b, b', Wy_one i x x' c c']
theorem rtd_of {P : Nat → Nat → Int32} {nt nm m : Nat} (h48 : nm ≤ 48) (h : LG P nt nm 0 m 0) : ∃ d, d < 48 ∧ rtd (dirP P nt nm) (fun k => k < nm ∧ P 8 k = 1) m d := by
  obtain ⟨r, d0, h1, h2, h3⟩ := LG_root h
  obtain ⟨d, -, hd⟩ := rtd_ex (R := fun k => k < nm ∧ P 8 k = 1) d0 r ⟨h1, h2⟩ h3
  obtain ⟨r', ⟨g1, g2⟩, g3⟩ := hd.1
  obtain ⟨e, q1, q2⟩ := mnd_ex d r' g3
  have q3 := mnd_lt (nm := nm) (fun k j w => dir_lt w) g1 q2
  have : ¬ e < d := fun q => hd.2 e r' q ⟨g1, g2⟩ q2.1
  exact ⟨d, by omega, hd⟩
theorem k_onWay {P : Nat → Nat → Int32} {nt nm m : Nat} (h48 : nm ≤ 48) (hm : m < nm) {σ : SS} (hs : σ.1 2 10 = nI nm) (hg : gC σ P nt nm) (hR : ∀ k, k < 64 → (lb (σ.2 2 9) k = true ↔ k < nm ∧ P 8 k = 1)) (v : Int32) : ∃ r g, p_X3_onWay_0 (nI m) v σ = some (r, pL σ 28 g) ∧ isWay P nt nm m v r := by
  unfold p_X3_onWay_0
  rw [oc_s (p_has (show m < 64 by omega)), gC_r hg]
  by_cases hr : LG P nt nm 0 m 0
  · rw [pb_t.mpr hr, if_neg (show ¬ b2 true = 0 by decide)]
    obtain ⟨d, hd, hrt⟩ := rtd_of h48 hr
    obtain ⟨g', q1, q2⟩ := layWay_7 h48 hm hs hg hR hd hrt d 0 100000 (jshl 1 (nI m)) (σ.2 28) (by omega) (by omega) (fun k hk => by
      rw [lb_tp (show m < 64 by omega), decide_eq_true_iff]
      exact ⟨fun w => ⟨w, by omega⟩, fun w => w.1⟩) (fun a' h => by omega)
    rw [pL_self] at q1
    have q1' : p_X3_layWay_0 (nI m) σ = some (nI d, pL σ 28 g') := q1
    rw [oc_s q1']
    dsimp only
    unfold p_X3_onWay_28
    by_cases hv : v < 0
    · rw [if_pos hv]
      exact ⟨-1, g', rfl, Or.inl ⟨rfl, Or.inr hv⟩⟩
    · rw [if_neg hv]
      obtain ⟨i, hi, e⟩ := nI_of hv
      by_cases hle : i ≤ d
      · rw [if_pos (show v ≤ nI d by rw [e]; exact nI_le hle (by omega)), oi_n hd (by decide), nI_clamp (show d < 2 ^ 31 by omega)]
        have hro : p_X4_roots_0 (pL σ 28 g') = some (σ.2 2 9) := by
          unfold p_X4_roots_0
          rw [pL_ne _ _ (by decide)]
        rw [oc_s hro, pL_at]
        obtain ⟨r0, ⟨a1, a2⟩, a3⟩ := hrt.1
        obtain ⟨a, y1, y2⟩ := least_lst (X := fun k => (k < nm ∧ P 8 k = 1) ∧ wk (dirP P nt nm) d k m) h48 (x := g' d &&& σ.2 2 9) (fun k hk => by
          rw [lb_and, Bool.and_eq_true, q2 d (Nat.le_refl _) k hk, hR k hk]
          exact ⟨fun w => ⟨⟨w.2, w.1.1⟩, w.1.2⟩, fun w => ⟨⟨w.1.2, w.2⟩, w.1.1⟩⟩) ⟨r0, a1, ⟨a1, a2⟩, a3⟩
        rw [oc_s y1]
        obtain ⟨x, z1, z2⟩ := onWay_52 (σ := pL σ 28 g') (R := fun k => k < nm ∧ P 8 k = 1) h48 (gC_28 hg g') hd hle (by rw [pL_at]; exact q2) i 0 100000 a (by omega) (by omega) y2
        refine ⟨nI x, g', ?_, Or.inr ⟨hr, i, d, e, hi, hrt, Or.inr ⟨hle, x, rfl, z2⟩⟩⟩
        rw [e]
        exact z1
      · rw [if_neg (show ¬ v ≤ nI d by rw [e]; exact nI_ge (by omega) hi)]
        exact ⟨-1, g', rfl, Or.inr ⟨hr, i, d, e, hi, hrt, Or.inl ⟨by omega, rfl⟩⟩⟩
  · rw [pb_f.mpr hr, if_pos (show b2 false = 0 from rfl)]
    exact ⟨-1, σ.2 28, by rw [pL_self], Or.inl ⟨rfl, Or.inl hr⟩⟩
