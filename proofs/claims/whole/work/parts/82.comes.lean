/-! pure: the reference: to whom one comes -/
theorem sm_ge {f : Nat → Nat} {n k : Nat} (hk : k < n) : f k ≤ sm f n := by
  induction n with
  | zero => omega
  | succ n ih =>
    unfold sm
    by_cases e : k = n
    · rw [e]; omega
    · have := ih (by omega); omega
theorem sm_ge2 {f : Nat → Nat} {n k k' : Nat} (hk : k < k') (hk' : k' < n) : f k + f k' ≤ sm f n := by
  induction n with
  | zero => omega
  | succ n ih =>
    unfold sm
    by_cases e : k' = n
    · rw [e]
      have := sm_ge (f := f) (n := n) (k := k) (by omega)
      omega
    · have := ih (by omega); omega
theorem sm_ind {o n : Nat} : sm (fun x => if x = o then 1 else 0) n ≤ 1 ∧ (n ≤ o → sm (fun x => if x = o then 1 else 0) n = 0) := by
  induction n with
  | zero => exact ⟨Nat.zero_le _, fun _ => rfl⟩
  | succ n ih =>
    unfold sm
    by_cases e : n = o
    · rw [if_pos e, ih.2 (by omega)]
      exact ⟨by omega, fun h => by omega⟩
    · rw [if_neg e]
      exact ⟨ih.1, fun h => ih.2 (by omega)⟩
/-- an OP has one member -/
theorem own_op {P : Nat → Nat → Int32} {nm no m m' o : Nat} (hS : wfS P nm no) (hm : m < nm) (hm' : m' < nm) (h : ofM P m o) (h' : ofM P m' o) : m = m' := by
  have key : ∀ m, ofM P m o → 1 ≤ sm (fun i => (fun x => if x = o then 1 else 0) (P 10 (24 * m + i)).toNatClampNeg) (P 9 m).toNatClampNeg := by
    rintro m ⟨c, i, h1, h2, h3, h4, h5⟩
    rw [h1, nI_clamp (show c < 2 ^ 31 by omega)]
    refine Nat.le_trans ?_ (sm_ge h3)
    show 1 ≤ if (P 10 (24 * m + i)).toNatClampNeg = o then 1 else 0
    rw [h4, nI_clamp (show o < 2 ^ 31 by omega), if_pos rfl]
    exact Nat.le_refl _
  have e := hS (fun x => if x = o then 1 else 0)
  have h1 := (sm_ind (o := o) (n := no)).1
  rw [e] at h1
  have a := key m h
  have b := key m' h'
  rcases Nat.lt_trichotomy m m' with hlt | heq | hgt
  · have := sm_ge2 (f := fun m => sm (fun i => (fun x => if x = o then 1 else 0) (P 10 (24 * m + i)).toNatClampNeg) (P 9 m).toNatClampNeg) hlt hm'
    dsimp only at this a b h1
    omega
  · exact heq
  · have := sm_ge2 (f := fun m => sm (fun i => (fun x => if x = o then 1 else 0) (P 10 (24 * m + i)).toNatClampNeg) (P 9 m).toNatClampNeg) hgt hm
    dsimp only at this a b h1
    omega
/-- CALLEES come from OPS of REACHED members -/
theorem LG_own {P : Nat → Nat → Int32} {nt nm o j : Nat} (h : LG P nt nm 4 o j) : ∃ m, m < nm ∧ LG P nt nm 0 m 0 ∧ ofM P m o := by
  have hL := LG_cls P nt nm
  refine (h (fun q i j => LG P nt nm q i j ∧ (q = 4 → ∃ m, m < nm ∧ LG P nt nm 0 m 0 ∧ ofM P m i)) ⟨fun m hm h8 => ⟨hL.1 m hm h8, fun q => by cases q⟩, fun o m w => ⟨hL.2.1 o m w.1, fun q => by cases q⟩, fun m hm w o' ho q i j hq => ?_⟩).2 rfl
  have hq' : opS P nt nm (LG P nt nm) o' q i j := opS_dep (fun c w => w.1) (fun a m w => w.1) hq
  refine ⟨hL.2.2 m hm w.1 o' ho q i j hq', fun e => ?_⟩
  subst e
  have : i = o' := opS_o hq'
  rw [this]
  exact ⟨m, hm, w.1, ho⟩
theorem dir_own {P : Nat → Nat → Int32} {nt nm no m j : Nat} (hS : wfS P nm no) (hm : m < nm) (h : dirP P nt nm m j) : LG P nt nm 0 m 0 := by
  obtain ⟨o, h1, h2⟩ := h
  obtain ⟨m', h3, h4, h5⟩ := LG_own h2
  rw [own_op hS hm h3 h1 h5]
  exact h4
theorem comes_25 (k2 : Int32 → SS → Option SS) (k12 : Int32 → Int32 → SS → Option SS) {P : Nat → Nat → Int32} {nt nm no m k c : Nat} (hW : WF P nt nm no) (hS : wfS P nm no) (hm : m < nm) (hk : k < nm) (h9 : P 9 m = nI c) (hc : c ≤ 24) {s : SS} (e9 : s.1 9 = P 9) (e10 : s.1 10 = P 10) (hz : zn 7680 (s.1 18)) (hz0 : zn 48 (s.1 14)) (eS : SM s = LG P nt nm) : ∀ (r i fuel : Nat) (v3 : Int32), i + r = c → r < fuel → v3 = b2 (pb (LG P nt nm 0 m 0 ∧ ∃ i' o, i' < i ∧ P 10 (24 * m + i') = nI o ∧ o < no ∧ LG P nt nm 4 o k)) →
    p_X8_findComes_25 k2 k12 fuel (nI m) (nI k) v3 (nI i) s = p_X8_findComes_86 k2 k12 (nI m) (nI k) (b2 (pb (dirP P nt nm m k))) s := by
  have h48 := hW.2.1.1
  have h160 := hW.2.2.1
  have hm48 : m < 48 := by omega
  obtain ⟨c', w1, w2, -, w4⟩ := hW.2.2.2.2.1 m hm
  have hcc : c' = c := (nI_eq (by omega) (by omega)).mp (w2.symm.trans h9)
  subst hcc
  have h14 : s.1 14 m = b2 (pb (LG P nt nm 0 m 0)) := zn_b hz0 hm48 (by rw [← eS]; exact (SM_0 hm48).symm)
  intro r
  induction r with
  | zero =>
    intro i fuel v3 hi hf hv
    obtain ⟨f, rfl⟩ : ∃ f, fuel = f + 1 := ⟨fuel - 1, by omega⟩
    rw [p_X8_findComes_25]
    try dsimp only
    rw [oi_n hm48 (by decide), nI_clamp (show m < 2 ^ 31 by omega), e9, h9, if_pos (nI_le (by omega) (by omega)), hv]
    congr 2
    refine congrArg pb (propext ⟨?_, fun h => ⟨dir_own hS hm h, ?_⟩⟩)
    · rintro ⟨a1, i', o, a2, a3, a4, a5⟩
      exact ⟨o, ⟨c', i', h9, hc, by omega, a3, by omega⟩, a5⟩
    · obtain ⟨o, ⟨c2, i', b1, b2, b3, b4, b5⟩, b6⟩ := h
      have : c2 = c' := (nI_eq (by omega) (by omega)).mp (b1.symm.trans h9)
      subst this
      obtain ⟨o2, d1, d2⟩ := w4 i' b3
      have : o2 = o := (nI_eq (by omega) (by omega)).mp (d2.symm.trans b4)
      subst this
      exact ⟨i', o2, by omega, b4, d1, b6⟩
  | succ r ih =>
    intro i fuel v3 hi hf hv
    obtain ⟨f, rfl⟩ : ∃ f, fuel = f + 1 := ⟨fuel - 1, by omega⟩
    rw [p_X8_findComes_25]
    try dsimp only
    rw [oi_n hm48 (by decide), oi_n hm48 (by decide), nI_clamp (show m < 2 ^ 31 by omega), e9, h9, if_neg (nI_ge (by omega) (by omega)), h14]
    by_cases hr : LG P nt nm 0 m 0
    · rw [pb_t.mpr hr, if_neg (show ¬ b2 true = 0 by decide)]
      unfold p_X8_findComes_74 p_X8_findComes_79
      obtain ⟨o, ho, h10⟩ := w4 i (by omega)
      rw [c24, oi_n (show 24 * m + i < 1152 by omega) (by decide), nI_clamp (show 24 * m + i < 2 ^ 31 by omega), e10, h10, c48, oi_n (show 48 * o + k < 7680 by omega) (by decide), nI_clamp (show 48 * o + k < 2 ^ 31 by omega), nI_1]
      have h18 : s.1 18 (48 * o + k) = b2 (pb (LG P nt nm 4 o k)) := zn_b hz (show 48 * o + k < 7680 by omega) (by
        rw [← eS]
        exact ⟨fun w => ⟨⟨show o < 160 by omega, show k < 48 by omega⟩, w⟩, fun w => w.2⟩)
      by_cases hp : ∃ i' o, i' < i ∧ P 10 (24 * m + i') = nI o ∧ o < no ∧ LG P nt nm 4 o k
      · rw [hv, pb_t.mpr ⟨hr, hp⟩, if_neg (show ¬ b2 true = 0 by decide)]
        refine ih (i + 1) f 1 (by omega) (by omega) ?_
        obtain ⟨i', o', a1, a2⟩ := hp
        rw [pb_t.mpr ⟨hr, i', o', by omega, a2⟩]
        rfl
      · rw [hv, pb_f.mpr (fun q => hp q.2), if_pos (show b2 false = 0 from rfl), h18]
        by_cases h4 : LG P nt nm 4 o k
        · rw [pb_t.mpr h4, if_neg (show ¬ b2 true = 0 by decide)]
          refine ih (i + 1) f 1 (by omega) (by omega) ?_
          rw [pb_t.mpr ⟨hr, i, o, by omega, h10, ho, h4⟩]
          rfl
        · rw [pb_f.mpr h4, if_pos (show b2 false = 0 from rfl)]
          refine ih (i + 1) f 0 (by omega) (by omega) ?_
          rw [pb_f.mpr]
          · rfl
          · rintro ⟨-, i', o', a1, a2, a3, a4⟩
            by_cases e : i' = i
            · subst e
              have : o' = o := (nI_eq (by omega) (by omega)).mp (a2.symm.trans h10)
              subst this
              exact h4 a4
            · exact hp ⟨i', o', by omega, a2, a3, a4⟩
    · rw [pb_f.mpr hr, if_pos (show b2 false = 0 from rfl), hv, pb_f.mpr (fun q => hr q.1), pb_f.mpr (fun q => hr (dir_own hS hm q))]
def Cc (D : Nat → Nat → Prop) (nm : Nat) (s : SS) (m k : Nat) : Prop := ∀ m' j, j < nm → (m' < m ∨ (m' = m ∧ j < k)) → s.1 26 (48 * m' + j) = b2 (pb (D m' j)) ∧ s.1 25 (48 * m' + j) = b2 (pb (D m' j))
theorem comes_86 (k2 : Int32 → SS → Option SS) (k12 : Int32 → Int32 → SS → Option SS) {D : Nat → Nat → Prop} {nm m k : Nat} (h48 : nm ≤ 48) (hm : m < nm) (hk : k < nm) {s0 s : SS} (hz : zf [25, 26] s0 s) (hC : Cc D nm s m k) : ∃ s', p_X8_findComes_86 k2 k12 (nI m) (nI k) (b2 (pb (D m k))) s = k12 (nI m) (nI (k + 1)) s' ∧ zf [25, 26] s0 s' ∧ Cc D nm s' m (k + 1) := by
  refine ⟨_, ?_, zf_s (zf_s hz (c := 26) (by decide) (48 * m + k) (b2 (pb (D m k)))) (c := 25) (by decide) (48 * m + k) (b2 (pb (D m k))), fun m' j hj h => ?_⟩
  · unfold p_X8_findComes_86
    rw [c48, oi_n (show 48 * m + k < 2304 by omega) (by decide), ob_ok (b2_01 _), nI_clamp (show 48 * m + k < 2 ^ 31 by omega), os_s, oi_n (show 48 * m + k < 2304 by omega) (by decide), ob_ok (b2_01 _), os_s, nI_1]
  · by_cases e : m' = m ∧ j = k
    · obtain ⟨rfl, rfl⟩ := e
      constructor
      · rw [sI_p, pI_ne _ _ (by decide), sI_p, pI_at, upd_at]
      · rw [sI_p, pI_at, upd_at]
    · have hne : 48 * m' + j ≠ 48 * m + k := fun q => e (by omega)
      obtain ⟨h1, h2⟩ := hC m' j hj (by omega)
      constructor
      · rw [sI_p, pI_ne _ _ (by decide), sI_p, pI_at, upd_ne hne]; exact h1
      · rw [sI_p, pI_at, upd_ne hne, sI_p, pI_ne _ _ (by decide)]; exact h2
theorem comes_12 (k2 : Int32 → SS → Option SS) {P : Nat → Nat → Int32} {nt nm no m : Nat} (hW : WF P nt nm no) (hS : wfS P nm no) (hm : m < nm) {s0 : SS} (hI : MI P nt s0) (eS : SM s0 = LG P nt nm) : ∀ (r k fuel : Nat) (s : SS), k + r = nm → r < fuel → zf [25, 26] s0 s → Cc (dirP P nt nm) nm s m k → ∃ s', p_X8_findComes_12 k2 fuel (nI m) (nI k) s = k2 (nI (m + 1)) s' ∧ zf [25, 26] s0 s' ∧ Cc (dirP P nt nm) nm s' m nm := by
  have h48 := hW.2.1.1
  intro r
  induction r with
  | zero =>
    intro k fuel s hk hf hz hC
    obtain ⟨f, rfl⟩ : ∃ f, fuel = f + 1 := ⟨fuel - 1, by omega⟩
    have e : k = nm := by omega
    subst e
    refine ⟨s, ?_, hz, hC⟩
    rw [p_X8_findComes_12]
    try dsimp only
    rw [hz.2 0 (by decide), (MI_W hW hI).2.1.2.1, if_pos (nI_le (Nat.le_refl _) (by omega)), nI_1]
  | succ r ih =>
    intro k fuel s hk hf hz hC
    obtain ⟨f, rfl⟩ : ∃ f, fuel = f + 1 := ⟨fuel - 1, by omega⟩
    have hkn : k < nm := by omega
    obtain ⟨c, w1, w2, -, -⟩ := hW.2.2.2.2.1 m hm
    have e := comes_25 k2 (p_X8_findComes_12 k2 f) hW hS hm hkn w2 w1 (s := s) ((hz.2 9 (by decide)).trans (hI.1 9 (by decide) (by decide))) ((hz.2 10 (by decide)).trans (hI.1 10 (by decide) (by decide))) (by rw [hz.2 18 (by decide)]; exact hI.2.2.2.1 4 (by decide)) (by rw [hz.2 14 (by decide)]; exact hI.2.2.2.1 0 (by decide)) ((SM_same (fun q hq => hz.2 (14 + q) (fun w => by
      have : ∀ x ∈ [25, 26], 25 ≤ x := by decide
      have := this _ w
      omega))).trans eS) c 0 100000 0 (by omega) (by omega) (by
      rw [pb_f.mpr]
      · rfl
      · rintro ⟨-, i', o, h, _⟩; omega)
    obtain ⟨s1, q1, q2, q3⟩ := comes_86 k2 (p_X8_findComes_12 k2 f) h48 hm hkn hz hC
    obtain ⟨s', z1, z2, z3⟩ := ih (k + 1) f s1 (by omega) (by omega) q2 q3
    refine ⟨s', ?_, z2, z3⟩
    rw [p_X8_findComes_12]
    try dsimp only
    rw [hz.2 0 (by decide), (MI_W hW hI).2.1.2.1, if_neg (nI_ge hkn (by omega))]
    exact e.trans (q1.trans z1)
theorem comes_2 {P : Nat → Nat → Int32} {nt nm no : Nat} (hW : WF P nt nm no) (hS : wfS P nm no) {s0 : SS} (hI : MI P nt s0) (eS : SM s0 = LG P nt nm) : ∀ (r m fuel : Nat) (s : SS), m + r = nm → r < fuel → zf [25, 26] s0 s → Cc (dirP P nt nm) nm s m 0 → ∃ s', p_X8_findComes_2 fuel (nI m) s = p_X8_findComes_124 100000 0 s' ∧ zf [25, 26] s0 s' ∧ Cc (dirP P nt nm) nm s' nm 0 := by
  have h48 := hW.2.1.1
  intro r
  induction r with
  | zero =>
    intro m fuel s hk hf hz hC
    obtain ⟨f, rfl⟩ : ∃ f, fuel = f + 1 := ⟨fuel - 1, by omega⟩
    have e : m = nm := by omega
    subst e
    refine ⟨s, ?_, hz, hC⟩
    rw [p_X8_findComes_2]
    try dsimp only
    rw [hz.2 0 (by decide), (MI_W hW hI).2.1.2.1, if_pos (nI_le (Nat.le_refl _) (by omega))]
  | succ r ih =>
    intro m fuel s hk hf hz hC
    obtain ⟨f, rfl⟩ : ∃ f, fuel = f + 1 := ⟨fuel - 1, by omega⟩
    have hmn : m < nm := by omega
    obtain ⟨s1, q1, q2, q3⟩ := comes_12 (p_X8_findComes_2 f) hW hS hmn hI eS nm 0 100000 s (by omega) (by omega) hz hC
    obtain ⟨s', z1, z2, z3⟩ := ih (m + 1) f s1 (by omega) (by omega) q2 (fun m' j hj h => q3 m' j hj (by omega))
    refine ⟨s', ?_, z2, z3⟩
    rw [p_X8_findComes_2]
    try dsimp only
    rw [hz.2 0 (by decide), (MI_W hW hI).2.1.2.1, if_neg (nI_ge hmn (by omega))]
    exact q1.trans z1
def Ws (D : Nat → Nat → Prop) (nm : Nat) (s : SS) (b m k : Nat) : Prop := ∀ m' j, m' < nm → j < nm → ((m' < m ∨ (m' = m ∧ j < k)) → s.1 25 (48 * m' + j) = b2 (pb (wsh D (b + 1) m' j))) ∧ (¬ (m' < m ∨ (m' = m ∧ j < k)) → s.1 25 (48 * m' + j) = b2 (pb (wsh D b m' j)))
theorem wsh_col {D : Nat → Nat → Prop} {b m : Nat} : wsh D (b + 1) m b ↔ wsh D b m b := ⟨fun h => h.elim id (fun q => q.1), Or.inl⟩
theorem comes_144 (k124 : Int32 → SS → Option SS) (k134 : Int32 → Int32 → SS → Option SS) {D : Nat → Nat → Prop} {nm b m : Nat} (h48 : nm ≤ 48) (hb : b < nm) (hm : m < nm) {s0 : SS} (h5 : s0.1 0 5 = nI nm) : ∀ (r k fuel : Nat) (s : SS), k + r = nm → r < fuel → zf [25] s0 s → Ws D nm s b m k → ∃ s', p_X8_findComes_144 k124 k134 fuel (nI b) (nI m) (nI k) s = k134 (nI b) (nI (m + 1)) s' ∧ zf [25] s0 s' ∧ Ws D nm s' b (m + 1) 0 := by
  intro r
  induction r with
  | zero =>
    intro k fuel s hk hf hz hC
    obtain ⟨f, rfl⟩ : ∃ f, fuel = f + 1 := ⟨fuel - 1, by omega⟩
    have e : k = nm := by omega
    subst e
    refine ⟨s, ?_, hz, fun m' j h1 h2 => ⟨fun w => (hC m' j h1 h2).1 (by omega), fun w => (hC m' j h1 h2).2 (by omega)⟩⟩
    rw [p_X8_findComes_144]
    try dsimp only
    rw [hz.2 0 (by decide), h5, if_pos (nI_le (Nat.le_refl _) (by omega))]
    unfold p_X8_findComes_216
    rw [nI_1]
  | succ r ih =>
    intro k fuel s hk hf hz hC
    obtain ⟨f, rfl⟩ : ∃ f, fuel = f + 1 := ⟨fuel - 1, by omega⟩
    have hkn : k < nm := by omega
    have vmb : s.1 25 (48 * m + b) = b2 (pb (wsh D b m b)) := by
      by_cases e : b < k
      · rw [(hC m b hm hb).1 (Or.inr ⟨rfl, e⟩)]
        exact congrArg (fun p => b2 (pb p)) (propext wsh_col)
      · exact (hC m b hm hb).2 (by omega)
    have vbk : s.1 25 (48 * b + k) = b2 (pb (wsh D b b k)) := by
      by_cases e : b < m ∨ (b = m ∧ k < k)
      · rw [(hC b k hb hkn).1 e]
        exact congrArg (fun p => b2 (pb p)) (propext wsh_row)
      · exact (hC b k hb hkn).2 e
    have vmk : s.1 25 (48 * m + k) = b2 (pb (wsh D b m k)) := (hC m k hm hkn).2 (by omega)
    rw [p_X8_findComes_144]
    try dsimp only
    unfold p_X8_findComes_204
    rw [hz.2 0 (by decide), h5, if_neg (nI_ge hkn (by omega)), c48, c48, c48, oi_n (show 48 * m + b < 2304 by omega) (by decide), oi_n (show 48 * m + k < 2304 by omega) (by decide), oi_n (show 48 * b + k < 2304 by omega) (by decide), nI_clamp (show 48 * m + b < 2 ^ 31 by omega), nI_clamp (show 48 * m + k < 2 ^ 31 by omega), nI_clamp (show 48 * b + k < 2 ^ 31 by omega), vmb, vmk, vbk]
    by_cases hw : wsh D b m b
    · rw [pb_t.mpr hw, if_neg (show ¬ b2 true = 0 by decide)]
      have go : ∀ x : Int32, (x = 0 ∨ x = 1) → x = b2 (pb (wsh D (b + 1) m k)) → ∃ s', p_X8_findComes_209 k124 k134 (p_X8_findComes_144 k124 k134 f) (nI b) (nI m) (nI k) x (nI (48 * m + k)) s = k134 (nI b) (nI (m + 1)) s' ∧ zf [25] s0 s' ∧ Ws D nm s' b (m + 1) 0 := by
        intro x hx e
        unfold p_X8_findComes_209
        rw [oi_n (show 48 * m + k < 2304 by omega) (by decide), ob_ok hx, nI_clamp (show 48 * m + k < 2 ^ 31 by omega), os_s, nI_1]
        refine ih (k + 1) f _ (by omega) (by omega) (zf_s hz (by decide) _ _) (fun m' j h1 h2 => ⟨fun w => ?_, fun w => ?_⟩)
        · rw [sI_p, pI_at]
          by_cases e2 : m' = m ∧ j = k
          · obtain ⟨rfl, rfl⟩ := e2
            rw [upd_at, e]
          · rw [upd_ne (fun q => e2 (by omega))]
            exact (hC m' j h1 h2).1 (by omega)
        · rw [sI_p, pI_at, upd_ne (fun q => by omega)]
          exact (hC m' j h1 h2).2 (by omega)
      by_cases h1 : wsh D b m k
      · rw [pb_t.mpr h1, if_neg (show ¬ b2 true = 0 by decide)]
        exact go 1 (Or.inr rfl) (by rw [pb_t.mpr (show wsh D (b + 1) m k from Or.inl h1)]; rfl)
      · rw [pb_f.mpr h1, if_pos (show b2 false = 0 from rfl)]
        by_cases h2 : wsh D b b k
        · rw [pb_t.mpr h2, if_neg (show ¬ b2 true = 0 by decide)]
          exact go 1 (Or.inr rfl) (by rw [pb_t.mpr (show wsh D (b + 1) m k from Or.inr ⟨hw, h2⟩)]; rfl)
        · rw [pb_f.mpr h2, if_pos (show b2 false = 0 from rfl)]
          refine go 0 (Or.inl rfl) ?_
          rw [pb_f.mpr (show ¬ wsh D (b + 1) m k from fun q => q.elim h1 (fun q => h2 q.2))]
          rfl
    · rw [pb_f.mpr hw, if_pos (show b2 false = 0 from rfl)]
      unfold p_X8_findComes_216
      rw [nI_1]
      refine ⟨s, rfl, hz, fun m' j h1 h2 => ⟨fun w => ?_, fun w => (hC m' j h1 h2).2 (by omega)⟩⟩
      by_cases e : m' < m ∨ (m' = m ∧ j < k)
      · exact (hC m' j h1 h2).1 e
      · rw [(hC m' j h1 h2).2 e]
        have : m' = m := by omega
        subst this
        exact congrArg (fun p => b2 (pb p)) (propext ⟨Or.inl, fun q => q.elim id (fun q => absurd q.1 hw)⟩)
theorem comes_134 (k124 : Int32 → SS → Option SS) {D : Nat → Nat → Prop} {nm b : Nat} (h48 : nm ≤ 48) (hb : b < nm) {s0 : SS} (h5 : s0.1 0 5 = nI nm) : ∀ (r m fuel : Nat) (s : SS), m + r = nm → r < fuel → zf [25] s0 s → Ws D nm s b m 0 → ∃ s', p_X8_findComes_134 k124 fuel (nI b) (nI m) s = k124 (nI (b + 1)) s' ∧ zf [25] s0 s' ∧ Ws D nm s' b nm 0 := by
  intro r
  induction r with
  | zero =>
    intro m fuel s hk hf hz hC
    obtain ⟨f, rfl⟩ : ∃ f, fuel = f + 1 := ⟨fuel - 1, by omega⟩
    have e : m = nm := by omega
    subst e
    refine ⟨s, ?_, hz, hC⟩
    rw [p_X8_findComes_134]
    try dsimp only
    rw [hz.2 0 (by decide), h5, if_pos (nI_le (Nat.le_refl _) (by omega)), nI_1]
  | succ r ih =>
    intro m fuel s hk hf hz hC
    obtain ⟨f, rfl⟩ : ∃ f, fuel = f + 1 := ⟨fuel - 1, by omega⟩
    have hmn : m < nm := by omega
    obtain ⟨s1, q1, q2, q3⟩ := comes_144 k124 (p_X8_findComes_134 k124 f) h48 hb hmn h5 nm 0 100000 s (by omega) (by omega) hz hC
    obtain ⟨s', z1, z2, z3⟩ := ih (m + 1) f s1 (by omega) (by omega) q2 q3
    refine ⟨s', ?_, z2, z3⟩
    rw [p_X8_findComes_134]
    try dsimp only
    rw [hz.2 0 (by decide), h5, if_neg (nI_ge hmn (by omega))]
    exact q1.trans z1
theorem comes_124 {D : Nat → Nat → Prop} {nm : Nat} (h48 : nm ≤ 48) {s0 : SS} (h5 : s0.1 0 5 = nI nm) : ∀ (r b fuel : Nat) (s : SS), b + r = nm → r < fuel → zf [25] s0 s → (∀ m j, m < nm → j < nm → s.1 25 (48 * m + j) = b2 (pb (wsh D b m j))) → ∃ s', p_X8_findComes_124 fuel (nI b) s = some s' ∧ zf [25] s0 s' ∧ ∀ m j, m < nm → j < nm → s'.1 25 (48 * m + j) = b2 (pb (wsh D nm m j)) := by
  intro r
  induction r with
  | zero =>
    intro b fuel s hk hf hz hC
    obtain ⟨f, rfl⟩ : ∃ f, fuel = f + 1 := ⟨fuel - 1, by omega⟩
    have e : b = nm := by omega
    subst e
    refine ⟨s, ?_, hz, hC⟩
    rw [p_X8_findComes_124]
    try dsimp only
    rw [hz.2 0 (by decide), h5, if_pos (nI_le (Nat.le_refl _) (by omega))]
  | succ r ih =>
    intro b fuel s hk hf hz hC
    obtain ⟨f, rfl⟩ : ∃ f, fuel = f + 1 := ⟨fuel - 1, by omega⟩
    have hbn : b < nm := by omega
    obtain ⟨s1, q1, q2, q3⟩ := comes_134 (p_X8_findComes_124 f) h48 hbn h5 (D := D) nm 0 100000 s (by omega) (by omega) hz (fun m' j h1 h2 => ⟨fun w => by omega, fun _ => hC m' j h1 h2⟩)
    obtain ⟨s', z1, z2, z3⟩ := ih (b + 1) f s1 (by omega) (by omega) q2 (fun m j h1 h2 => (q3 m j h1 h2).1 (by omega))
    refine ⟨s', ?_, z2, z3⟩
    rw [p_X8_findComes_124]
    try dsimp only
    rw [hz.2 0 (by decide), h5, if_neg (nI_ge hbn (by omega))]
    exact q1.trans z1
/-- the reference holds the graph -/
def gM (τ : SS) (P : Nat → Nat → Int32) (nt nm : Nat) : Prop := SM τ = LG P nt nm ∧ (∀ q, q < 5 → zn (sz5 q) (τ.1 (14 + q))) ∧ FM P nt nm τ ∧ (∀ m j, m < nm → j < nm → τ.1 26 (48 * m + j) = b2 (pb (dirP P nt nm m j))) ∧ ∀ m j, m < nm → j < nm → τ.1 25 (48 * m + j) = b2 (pb (wsh (dirP P nt nm) nm m j))
/-- the same program -/
def same (τ τ' : SS) : Prop := (∀ c, c ≠ 0 → c < 14 → τ'.1 c = τ.1 c) ∧ τ'.1 0 0 = τ.1 0 0 ∧ τ'.1 0 5 = τ.1 0 5 ∧ τ'.1 0 12 = τ.1 0 12
theorem m_freshen {τ : SS} {nt nm no : Nat} (hW : WF τ.1 nt nm no) (hS : wfS τ.1 nm no) (ho : okU τ.1 nt) (hf : τ.1 0 16 = 0 ∨ (τ.1 0 16 = 1 ∧ gM τ τ.1 nt nm)) : ∃ τ', p_X8_freshen_0 τ = some τ' ∧ τ'.1 0 16 = 1 ∧ gM τ' τ.1 nt nm ∧ okU τ'.1 nt ∧ same τ τ' := by
  have h48 := hW.2.1.1
  unfold p_X8_freshen_0
  rcases hf with hf | ⟨hf, hg⟩
  · rw [if_pos hf, os_s]
    obtain ⟨s1, q1, q2, q3, q4, q5⟩ := freshen_run hW ho
    obtain ⟨s2, w1, w2, w3⟩ := comes_2 hW hS q3 q4 nm 0 100000 s1 (by omega) (by omega) (zf_rf _ _) (fun m' j _ h => by omega)
    have hW1 := MI_W hW q3
    have h5 : s2.1 0 5 = nI nm := by rw [w2.2 0 (by decide)]; exact hW1.2.1.2.1
    obtain ⟨s3, z1, z2, z3⟩ := comes_124 (D := dirP τ.1 nt nm) h48 h5 nm 0 100000 s2 (by omega) (by omega) (zf_rf _ _) (fun m j h1 h2 => (w3 m j h2 (Or.inl h1)).2)
    have e : p_X8_findComes_0 s1 = some s3 := w1.trans z1
    have hz : zf [25, 26] s1 s3 := zf_tr w2 (zf_up z2 (by decide))
    have h0 : s3.1 0 = s1.1 0 := hz.2 0 (by decide)
    have hc : ∀ c, c < 25 → s3.1 c = s1.1 c := fun c h => hz.2 c (fun q => by
      have : ∀ x ∈ [25, 26], 25 ≤ x := by decide
      have := this _ q
      omega)
    refine ⟨s3, by rw [q1, oc_s e], ?_, ⟨?_, fun q hq => ?_, ?_, fun m j h1 h2 => ?_, z3⟩, ?_, fun c a b => ?_, ?_, ?_, ?_⟩
    · rw [h0, q2.2.2 16 (by decide) (by decide), sI_p, pI_at, upd_at]
    · exact (SM_same (fun q hq => hc (14 + q) (by omega))).trans q4
    · rw [hc (14 + q) (by omega)]
      exact q3.2.2.2.1 q hq
    · unfold FM
      rw [hc 19 (by decide)]
      exact q5
    · rw [z2.2 26 (by decide)]
      exact (w3 m j h2 (Or.inl h1)).1
    · exact okU_c q3.2.2.1 (by rw [h0]) (hc 21 (by decide)) (und_c (hc 2 (by decide)) (hc 3 (by decide)) (hc 4 (by decide)))
    · exact (hc c (by omega)).trans (q3.1 c a b)
    · rw [h0]; exact q3.2.1.1
    · rw [h0]; exact q3.2.1.2.1
    · rw [h0]; exact q3.2.1.2.2
  · rw [hf, if_neg n10]
    exact ⟨τ, rfl, hf, hg, ho, fun _ _ _ => rfl, rfl, rfl, rfl⟩
