/-! pure: count -/
theorem sm_out {f : Nat → Nat} {n N : Nat} (h : ∀ k, n ≤ k → k < N → f k = 0) (hn : n ≤ N) : sm f N = sm f n := by
  induction N with
  | zero => rw [show n = 0 by omega]
  | succ N ih =>
    by_cases e : n = N + 1
    · rw [e]
    · show sm f N + f N = _
      rw [h N (by omega) (by omega), ih (fun k h1 h2 => h k h1 (by omega)) (by omega)]
      rfl
theorem cn_sm (f : Nat → Bool) (w n : Nat) : cn f (w * n) = sm (fun o => cn (fun j => f (w * o + j)) w) n := by
  induction n with
  | zero => rfl
  | succ n ih =>
    show _ = sm (fun o => cn (fun j => f (w * o + j)) w) n + cn (fun j => f (w * n + j)) w
    rw [Nat.mul_succ, cn_add, ih]
theorem sm_add (f : Nat → Nat) (a b : Nat) : sm f (a + b) = sm f a + sm (fun i => f (a + i)) b := by
  induction b with
  | zero => rfl
  | succ b ih =>
    show sm f (a + b) + f (a + b) = sm f a + (sm (fun i => f (a + i)) b + f (a + b))
    rw [ih]; omega
theorem sm_sm (f : Nat → Nat) (w n : Nat) : sm f (w * n) = sm (fun o => sm (fun j => f (w * o + j)) w) n := by
  induction n with
  | zero => rfl
  | succ n ih =>
    show _ = sm (fun o => sm (fun j => f (w * o + j)) w) n + sm (fun j => f (w * n + j)) w
    rw [Nat.mul_succ, sm_add, ih]
/-- what the reference counts of members, of types -/
def ctF (P : Nat → Nat → Int32) (nt nm : Nat) (w m : Nat) : Prop := (w = 3 ∧ P 8 m = 1) ∨ (w = 4 ∧ LG P nt nm 0 m 0) ∨ (w = 9 ∧ wsh (dirP P nt nm) nm m m)
def ctG (P : Nat → Nat → Int32) (nt nm : Nat) (w t : Nat) : Prop := (w = 5 ∧ LG P nt nm 1 t 0) ∨ (w = 6 ∧ LG P nt nm 2 t 0)
theorem countIn_4 {P : Nat → Nat → Int32} {nt nm no w : Nat} (hM : wfM P nt nm) (hS : wfS P nm no) (hw : w < 10) {s : SS} (h5 : s.1 0 5 = nI nm) (h8 : s.1 8 = P 8) (hg : gM s P nt nm) : ∀ (r k fuel : Nat), k + r = nm → r < fuel → p_X8_countIn_4 s fuel (nI w) (nI (cn (fun m => pb (ctF P nt nm w m)) k)) (nI k) = p_X8_countIn_70 s 100000 (nI w) (nI (cn (fun m => pb (ctF P nt nm w m)) nm)) 0 := by
  have h48 := hM.1
  intro r
  induction r with
  | zero =>
    intro k fuel hk hf
    obtain ⟨f, rfl⟩ : ∃ f, fuel = f + 1 := ⟨fuel - 1, by omega⟩
    have e : k = nm := by omega
    subst e
    rw [p_X8_countIn_4]
    try dsimp only
    rw [h5, if_pos (nI_le (Nat.le_refl _) (by omega))]
  | succ r ih =>
    intro k fuel hk hf
    obtain ⟨f, rfl⟩ : ∃ f, fuel = f + 1 := ⟨fuel - 1, by omega⟩
    have hkn : k < nm := by omega
    have nw : ∀ x, x < 10 → (nI w = nI x ↔ w = x) := fun x hx => nI_eq (by omega) (by omega)
    have yes : ctF P nt nm w k → p_X8_countIn_55 s (p_X8_countIn_4 s f) (nI w) (nI k) (nI (cn (fun m => pb (ctF P nt nm w m)) k)) = p_X8_countIn_70 s 100000 (nI w) (nI (cn (fun m => pb (ctF P nt nm w m)) nm)) 0 := by
      intro h
      unfold p_X8_countIn_55 p_X8_countIn_60
      rw [nI_1, nI_1, ← (cn_s (f := fun m => pb (ctF P nt nm w m))).1 (pb_t.mpr h)]
      exact ih (k + 1) f (by omega) (by omega)
    have no : ¬ ctF P nt nm w k → p_X8_countIn_59 s (p_X8_countIn_4 s f) (nI w) (nI k) (nI (cn (fun m => pb (ctF P nt nm w m)) k)) = p_X8_countIn_70 s 100000 (nI w) (nI (cn (fun m => pb (ctF P nt nm w m)) nm)) 0 := by
      intro h
      unfold p_X8_countIn_59 p_X8_countIn_60
      rw [nI_1, show (0 : Int32) = nI 0 from rfl, nI_add, Nat.add_zero, ← (cn_s (f := fun m => pb (ctF P nt nm w m))).2 (pb_f.mpr h)]
      exact ih (k + 1) f (by omega) (by omega)
    rw [p_X8_countIn_4]
    try dsimp only
    rw [h5, if_neg (nI_ge hkn (by omega)), oi_n (show k < 48 by omega) (by decide), nI_clamp (show k < 2 ^ 31 by omega), h8]
    unfold p_X8_countIn_27 p_X8_countIn_41
    rw [oi_n (show k < 48 by omega) (by decide), nI_clamp (show k < 2 ^ 31 by omega), gM_r hg (show k < 48 by omega), oc_s (m_isRec h48 hS hkn hg)]
    by_cases w3 : w = 3
    · rw [if_pos (show nI w = 3 from (nw 3 (by decide)).mpr w3)]
      rcases (hM.2.2.1 k hkn).2.2 with e | e
      · rw [if_pos e, if_neg (show ¬ nI w = 4 from fun q => by have := (nw 4 (by decide)).mp q; omega), if_neg (show ¬ nI w = 9 from fun q => by have := (nw 9 (by decide)).mp q; omega)]
        refine no ?_
        rintro (⟨-, h⟩ | ⟨h, -⟩ | ⟨h, -⟩)
        · rw [e] at h; exact absurd h (by decide)
        · omega
        · omega
      · rw [e, if_neg n10]
        exact yes (Or.inl ⟨w3, e⟩)
    · rw [if_neg (show ¬ nI w = 3 from fun q => w3 ((nw 3 (by decide)).mp q))]
      by_cases w4 : w = 4
      · rw [if_pos (show nI w = 4 from (nw 4 (by decide)).mpr w4)]
        by_cases h : LG P nt nm 0 k 0
        · rw [pb_t.mpr h, if_neg (show ¬ b2 true = 0 by decide)]
          exact yes (Or.inr (Or.inl ⟨w4, h⟩))
        · rw [pb_f.mpr h, if_pos (show b2 false = 0 from rfl), if_neg (show ¬ nI w = 9 from fun q => by have := (nw 9 (by decide)).mp q; omega)]
          refine no ?_
          rintro (⟨q, -⟩ | ⟨-, q⟩ | ⟨q, -⟩)
          · exact w3 q
          · exact h q
          · omega
      · rw [if_neg (show ¬ nI w = 4 from fun q => w4 ((nw 4 (by decide)).mp q))]
        by_cases w9 : w = 9
        · rw [if_pos (show nI w = 9 from (nw 9 (by decide)).mpr w9)]
          by_cases h : wsh (dirP P nt nm) nm k k
          · rw [pb_t.mpr h, if_neg (show ¬ b2 true = 0 by decide)]
            exact yes (Or.inr (Or.inr ⟨w9, h⟩))
          · rw [pb_f.mpr h, if_pos (show b2 false = 0 from rfl)]
            refine no ?_
            rintro (⟨q, -⟩ | ⟨q, -⟩ | ⟨-, q⟩)
            · exact w3 q
            · exact w4 q
            · exact h q
        · rw [if_neg (show ¬ nI w = 9 from fun q => w9 ((nw 9 (by decide)).mp q))]
          refine no ?_
          rintro (⟨q, -⟩ | ⟨q, -⟩ | ⟨q, -⟩)
          · exact w3 q
          · exact w4 q
          · exact w9 q
theorem countIn_70 {P : Nat → Nat → Int32} {nt nm w : Nat} (h16 : nt ≤ 16) (hw : w < 10) {s : SS} (h0 : s.1 0 0 = nI nt) (hg : gM s P nt nm) (x : Nat) : ∀ (r k fuel : Nat), k + r = nt → r < fuel → p_X8_countIn_70 s fuel (nI w) (nI (x + cn (fun t => pb (ctG P nt nm w t)) k)) (nI k) = p_X8_countIn_123 s 100000 (nI w) (nI (x + cn (fun t => pb (ctG P nt nm w t)) nt)) 0 := by
  intro r
  induction r with
  | zero =>
    intro k fuel hk hf
    obtain ⟨f, rfl⟩ : ∃ f, fuel = f + 1 := ⟨fuel - 1, by omega⟩
    have e : k = nt := by omega
    subst e
    rw [p_X8_countIn_70]
    try dsimp only
    rw [h0, if_pos (nI_le (Nat.le_refl _) (by omega))]
  | succ r ih =>
    intro k fuel hk hf
    obtain ⟨f, rfl⟩ : ∃ f, fuel = f + 1 := ⟨fuel - 1, by omega⟩
    have hkn : k < nt := by omega
    have nw : ∀ x, x < 10 → (nI w = nI x ↔ w = x) := fun x hx => nI_eq (by omega) (by omega)
    have yes : ctG P nt nm w k → p_X8_countIn_108 s (p_X8_countIn_70 s f) (nI w) (nI k) (nI (x + cn (fun t => pb (ctG P nt nm w t)) k)) = p_X8_countIn_123 s 100000 (nI w) (nI (x + cn (fun t => pb (ctG P nt nm w t)) nt)) 0 := by
      intro h
      unfold p_X8_countIn_108 p_X8_countIn_113
      rw [nI_1, nI_1, Nat.add_assoc, ← (cn_s (f := fun m => pb (ctG P nt nm w m))).1 (pb_t.mpr h)]
      exact ih (k + 1) f (by omega) (by omega)
    have no : ¬ ctG P nt nm w k → p_X8_countIn_112 s (p_X8_countIn_70 s f) (nI w) (nI k) (nI (x + cn (fun t => pb (ctG P nt nm w t)) k)) = p_X8_countIn_123 s 100000 (nI w) (nI (x + cn (fun t => pb (ctG P nt nm w t)) nt)) 0 := by
      intro h
      unfold p_X8_countIn_112 p_X8_countIn_113
      rw [nI_1, show (0 : Int32) = nI 0 from rfl, nI_add, Nat.add_zero, ← (cn_s (f := fun m => pb (ctG P nt nm w m))).2 (pb_f.mpr h)]
      exact ih (k + 1) f (by omega) (by omega)
    rw [p_X8_countIn_70]
    try dsimp only
    unfold p_X8_countIn_93
    rw [h0, if_neg (nI_ge hkn (by omega)), oi_n (show k < 16 by omega) (by decide), oi_n (show k < 16 by omega) (by decide), nI_clamp (show k < 2 ^ 31 by omega), gM_m hg (show k < 16 by omega), gM_b hg (show k < 16 by omega)]
    by_cases w5 : w = 5
    · rw [if_pos (show nI w = 5 from (nw 5 (by decide)).mpr w5)]
      by_cases h : LG P nt nm 1 k 0
      · rw [pb_t.mpr h, if_neg (show ¬ b2 true = 0 by decide)]
        exact yes (Or.inl ⟨w5, h⟩)
      · rw [pb_f.mpr h, if_pos (show b2 false = 0 from rfl), if_neg (show ¬ nI w = 6 from fun q => by have := (nw 6 (by decide)).mp q; omega)]
        refine no ?_
        rintro (⟨-, q⟩ | ⟨q, -⟩)
        · exact h q
        · omega
    · rw [if_neg (show ¬ nI w = 5 from fun q => w5 ((nw 5 (by decide)).mp q))]
      by_cases w6 : w = 6
      · rw [if_pos (show nI w = 6 from (nw 6 (by decide)).mpr w6)]
        by_cases h : LG P nt nm 2 k 0
        · rw [pb_t.mpr h, if_neg (show ¬ b2 true = 0 by decide)]
          exact yes (Or.inr ⟨w6, h⟩)
        · rw [pb_f.mpr h, if_pos (show b2 false = 0 from rfl)]
          refine no ?_
          rintro (⟨q, -⟩ | ⟨-, q⟩)
          · omega
          · exact h q
      · rw [if_neg (show ¬ nI w = 6 from fun q => w6 ((nw 6 (by decide)).mp q))]
        refine no ?_
        rintro (⟨q, -⟩ | ⟨q, -⟩)
        · exact w5 q
        · exact w6 q
theorem countIn_123 {s : SS} {g : Nat → Bool} (hg : ∀ k, k < 7680 → s.1 18 k = b2 (g k)) (x : Nat) : ∀ (r k fuel : Nat), k + r = 7680 → r < fuel → p_X8_countIn_123 s fuel 7 (nI (x + cn g k)) (nI k) = p_X8_countIn_159 s 7 (nI (x + cn g 7680)) := by
  intro r
  induction r with
  | zero =>
    intro k fuel hk hf
    obtain ⟨f, rfl⟩ : ∃ f, fuel = f + 1 := ⟨fuel - 1, by omega⟩
    have e : k = 7680 := by omega
    subst e
    rw [p_X8_countIn_123]
    try dsimp only
    rw [if_pos (show (7680 : Int32) ≤ nI 7680 by decide)]
  | succ r ih =>
    intro k fuel hk hf
    obtain ⟨f, rfl⟩ : ∃ f, fuel = f + 1 := ⟨fuel - 1, by omega⟩
    rw [p_X8_countIn_123]
    try dsimp only
    unfold p_X8_countIn_151
    rw [if_neg (show ¬ (7680 : Int32) ≤ nI k from nI_ge (b := 7680) (by omega) (by omega)), if_pos rfl, oi_n (show k < 7680 by omega) (by decide), nI_clamp (show k < 2 ^ 31 by omega), hg k (by omega), nI_1, nI_1, show (0 : Int32) = nI 0 from rfl, nI_add, Nat.add_zero]
    cases hb : g k with
    | false =>
      rw [if_pos (show b2 false = nI 0 from rfl), ← (cn_s (f := g)).2 hb]
      exact ih (k + 1) f (by omega) (by omega)
    | true =>
      rw [if_neg (show ¬ b2 true = nI 0 by decide), Nat.add_assoc, ← (cn_s (f := g)).1 hb]
      exact ih (k + 1) f (by omega) (by omega)
theorem countIn_161 {s : SS} {g : Nat → Nat} (hg : ∀ k, k < 640 → s.1 19 k = nI (g k)) (x : Nat) : ∀ (r k fuel : Nat), k + r = 640 → r < fuel → p_X8_countIn_161 s fuel 8 (nI (x + sm g k)) (nI k) = some (nI (x + sm g 640)) := by
  intro r
  induction r with
  | zero =>
    intro k fuel hk hf
    obtain ⟨f, rfl⟩ : ∃ f, fuel = f + 1 := ⟨fuel - 1, by omega⟩
    have e : k = 640 := by omega
    subst e
    rw [p_X8_countIn_161]
    try dsimp only
    rw [if_pos (show (640 : Int32) ≤ nI 640 by decide)]
    rfl
  | succ r ih =>
    intro k fuel hk hf
    obtain ⟨f, rfl⟩ : ∃ f, fuel = f + 1 := ⟨fuel - 1, by omega⟩
    rw [p_X8_countIn_161]
    try dsimp only
    rw [if_neg (show ¬ (640 : Int32) ≤ nI k from nI_ge (b := 640) (by omega) (by omega)), if_pos rfl, oi_n (show k < 640 by omega) (by decide), nI_clamp (show k < 2 ^ 31 by omega), hg k (by omega), nI_add, nI_1, Nat.add_assoc]
    exact ih (k + 1) f (by omega) (by omega)
theorem no123 {s : SS} {w x : Nat} (hw : w < 10) (h7 : w ≠ 7) (h8 : w ≠ 8) : p_X8_countIn_123 s 100000 (nI w) (nI x) 0 = some (nI x) := by
  rw [show (100000 : Nat) = 99999 + 1 from rfl, p_X8_countIn_123]
  try dsimp only
  unfold p_X8_countIn_159
  rw [if_neg (show ¬ (7680 : Int32) ≤ 0 by decide), if_neg (show ¬ nI w = 7 from fun q => h7 ((nI_eq (b := 7) (by omega) (by omega)).mp q)), show (100000 : Nat) = 99999 + 1 from rfl, p_X8_countIn_161]
  try dsimp only
  rw [if_neg (show ¬ (640 : Int32) ≤ 0 by decide), if_neg (show ¬ nI w = 8 from fun q => h8 ((nI_eq (b := 8) (by omega) (by omega)).mp q))]
  rfl
theorem pre_count {P : Nat → Nat → Int32} {nt nm no w : Nat} (hW : WF P nt nm no) (hS : wfS P nm no) (hw : w < 10) {s : SS} (h0 : s.1 0 0 = nI nt) (h5 : s.1 0 5 = nI nm) (h8 : s.1 8 = P 8) (hg : gM s P nt nm) : p_X8_countIn_0 s (nI w) = p_X8_countIn_123 s 100000 (nI w) (nI (cn (fun m => pb (ctF P nt nm w m)) nm + cn (fun t => pb (ctG P nt nm w t)) nt)) 0 := by
  have h16 := hW.1.1
  have h48 := hW.2.1.1
  have e1 := countIn_4 hW.2.1 hS hw h5 h8 hg nm 0 100000 (by omega) (by omega)
  have e2 := countIn_70 h16 hw h0 hg (cn (fun m => pb (ctF P nt nm w m)) nm) nt 0 100000 (by omega) (by omega)
  exact e1.trans e2
theorem ct_0 {f : Nat → Prop} {n : Nat} (h : ∀ k, ¬ f k) : cn (fun k => pb (f k)) n = 0 := cn_zero (fun k _ => pb_f.mpr (h k))
theorem ct_c {f g : Nat → Prop} {n : Nat} (h : ∀ k, f k ↔ g k) : cn (fun k => pb (f k)) n = cn (fun k => pb (g k)) n := cn_congr (fun k _ => congrArg pb (propext (h k)))
/-- all FAULTS of an OP -/
noncomputable def faA (P : Nat → Nat → Int32) (nt nm o : Nat) : Nat := fcN P nt nm (LG P nt nm) o 3 + fcN P nt nm (LG P nt nm) o 2 + fcN P nt nm (LG P nt nm) o 1 + fcN P nt nm (LG P nt nm) o 0
theorem k_allFaults {P : Nat → Nat → Int32} {nt nm no o : Nat} (hW : WF P nt nm no) {σ : SS} (hC : CI σ P nt nm no) (hg : gC σ P nt nm) (ho : o < no) : p_X3_allFaultsOf_0 σ (nI o) = some (nI (faA P nt nm o)) := by
  have st : ∀ (f x b : Nat), b < 4 → p_X3_allFaultsOf_5 σ (f + 1) (nI o) (nI x) (cd b) = p_X3_allFaultsOf_5 σ f (nI o) (nI (x + fcN P nt nm (LG P nt nm) o b)) (cd b + 1) := by
    intro f x b hb
    rw [p_X3_allFaultsOf_5]
    try dsimp only
    have hcd : ∀ b, b < 4 → ¬ (-2 : Int32) < cd b := by decide +kernel
    rw [if_neg (hcd b hb), oc_s (k_faultsOf hW hC hg ho hb), nI_add]
  show p_X3_allFaultsOf_5 σ (99995 + 1 + 1 + 1 + 1 + 1) (nI o) (nI 0) (cd 3) = _
  rw [st _ _ 3 (by decide), show cd 3 + 1 = cd 2 by decide, st _ _ 2 (by decide), show cd 2 + 1 = cd 1 by decide, st _ _ 1 (by decide), show cd 1 + 1 = cd 0 by decide, st _ _ 0 (by decide), show cd 0 + 1 = -1 by decide, p_X3_allFaultsOf_5]
  try dsimp only
  rw [if_pos (show (-2 : Int32) < -1 by decide), Nat.zero_add]
  rfl
theorem countFaults_31 (k4 : Int32 → Int32 → Option Int32) {P : Nat → Nat → Int32} {nt nm no m c : Nat} (hW : WF P nt nm no) {σ : SS} (hC : CI σ P nt nm no) (hg : gC σ P nt nm) (hm : m < nm) (h9 : P 9 m = nI c) (hc : c ≤ 24) (x : Nat) : ∀ (r i fuel : Nat), i + r = c → r < fuel → p_X3_countFaults_31 σ k4 fuel (nI (x + sm (fun i => faA P nt nm (P 10 (24 * m + i)).toNatClampNeg) i)) (nI m) (nI i) = k4 (nI (x + sm (fun i => faA P nt nm (P 10 (24 * m + i)).toNatClampNeg) c)) (nI (m + 1)) := by
  have h48 := hW.2.1.1
  have h160 := hW.2.2.1
  intro r
  induction r with
  | zero =>
    intro i fuel hi hf
    obtain ⟨f, rfl⟩ : ∃ f, fuel = f + 1 := ⟨fuel - 1, by omega⟩
    have e : i = c := by omega
    subst e
    rw [p_X3_countFaults_31]
    try dsimp only
    unfold p_X3_countFaults_65
    rw [oc_s (k_sizeOf hC.2.2.1 h48 hm), h9, if_pos (nI_le (Nat.le_refl _) (by omega)), nI_1]
  | succ r ih =>
    intro i fuel hi hf
    obtain ⟨f, rfl⟩ : ∃ f, fuel = f + 1 := ⟨fuel - 1, by omega⟩
    obtain ⟨c', w1, w2, -, w4⟩ := hW.2.2.2.2.1 m hm
    have hcc : c' = c := (nI_eq (by omega) (by omega)).mp (w2.symm.trans h9)
    subst hcc
    obtain ⟨o, ho, h10⟩ := w4 i (by omega)
    have e := ih (i + 1) f (by omega) (by omega)
    rw [← e, p_X3_countFaults_31]
    try dsimp only
    rw [oc_s (k_sizeOf hC.2.2.1 h48 hm), h9, if_neg (nI_ge (by omega) (by omega)), oc_s (k_opAt hC.2.2.1 h48 hm h9 hc (show i < c' by omega)), h10, oc_s (k_allFaults hW hC hg ho), nI_add, nI_1]
    congr 2
    show x + sm _ i + faA P nt nm o = x + (sm _ i + faA P nt nm (P 10 (24 * m + i)).toNatClampNeg)
    rw [h10, nI_clamp (show o < 2 ^ 31 by omega), Nat.add_assoc]
noncomputable def faM (P : Nat → Nat → Int32) (nt nm m : Nat) : Nat := if pb (LG P nt nm 0 m 0) = true then sm (fun i => faA P nt nm (P 10 (24 * m + i)).toNatClampNeg) (P 9 m).toNatClampNeg else 0
theorem countFaults_4 {P : Nat → Nat → Int32} {nt nm no : Nat} (hW : WF P nt nm no) {σ : SS} (hC : CI σ P nt nm no) (hg : gC σ P nt nm) : ∀ (r k fuel : Nat), k + r = nm → r < fuel → p_X3_countFaults_4 σ fuel (nI (sm (faM P nt nm) k)) (nI k) = some (nI (sm (faM P nt nm) nm)) := by
  have h48 := hW.2.1.1
  intro r
  induction r with
  | zero =>
    intro k fuel hk hf
    obtain ⟨f, rfl⟩ : ∃ f, fuel = f + 1 := ⟨fuel - 1, by omega⟩
    have e : k = nm := by omega
    subst e
    rw [p_X3_countFaults_4]
    try dsimp only
    rw [oc_s (size_M hC.2.1), if_pos (nI_le (Nat.le_refl _) (by omega))]
  | succ r ih =>
    intro k fuel hk hf
    obtain ⟨f, rfl⟩ : ∃ f, fuel = f + 1 := ⟨fuel - 1, by omega⟩
    have hkn : k < nm := by omega
    have e := ih (k + 1) f (by omega) (by omega)
    have es : sm (faM P nt nm) (k + 1) = sm (faM P nt nm) k + faM P nt nm k := rfl
    obtain ⟨c, w1, w2, -, -⟩ := hW.2.2.2.2.1 k hkn
    rw [p_X3_countFaults_4]
    try dsimp only
    rw [oc_s (size_M hC.2.1), if_neg (nI_ge hkn (by omega)), oc_s (p_has (show k < 64 by omega)), gC_r hg]
    cases hb : pb (LG P nt nm 0 k 0) with
    | false =>
      rw [if_pos (show b2 false = 0 from rfl)]
      unfold p_X3_countFaults_65
      rw [nI_1, ← e, es]
      unfold faM
      rw [hb]
      rfl
    | true =>
      rw [if_neg (show ¬ b2 true = 0 by decide)]
      have z := countFaults_31 (p_X3_countFaults_4 σ f) hW hC hg hkn w2 w1 (sm (faM P nt nm) k) c 0 100000 (by omega) (by omega)
      refine z.trans ?_
      rw [← e, es]
      congr 3
      unfold faM
      rw [hb, if_pos rfl, w2, nI_clamp (show c < 2 ^ 31 by omega)]
theorem countPairs_4 {P : Nat → Nat → Int32} {nt nm no : Nat} (h160 : no ≤ 160) {σ : SS} (hO : σ.1 4 5 = nI no) : ∀ (r k fuel : Nat), k + r = no → r < fuel → p_X3_countPairs_4 σ fuel (nI (sm (fun o => cn (lb (σ.2 25 o)) 64) k)) (nI k) = some (nI (sm (fun o => cn (lb (σ.2 25 o)) 64) no)) := by
  intro r
  induction r with
  | zero =>
    intro k fuel hk hf
    obtain ⟨f, rfl⟩ : ∃ f, fuel = f + 1 := ⟨fuel - 1, by omega⟩
    have e : k = no := by omega
    subst e
    rw [p_X3_countPairs_4]
    try dsimp only
    rw [oc_s (show p_X5_size_0 σ = some (nI k) by unfold p_X5_size_0; rw [hO]), if_pos (nI_le (Nat.le_refl _) (by omega))]
  | succ r ih =>
    intro k fuel hk hf
    obtain ⟨f, rfl⟩ : ∃ f, fuel = f + 1 := ⟨fuel - 1, by omega⟩
    rw [p_X3_countPairs_4]
    try dsimp only
    rw [oc_s (show p_X5_size_0 σ = some (nI no) by unfold p_X5_size_0; rw [hO]), if_neg (nI_ge (by omega) (by omega)), oi_n (show k < 160 by omega) (by decide), nI_clamp (show k < 2 ^ 31 by omega), oc_s (p_bitCount _), nI_add, nI_1]
    exact ih (k + 1) f (by omega) (by omega)
theorem countRec_4 {P : Nat → Nat → Int32} {nt nm : Nat} (h48 : nm ≤ 48) {σ : SS} (hs : σ.1 2 10 = nI nm) (hg : gC σ P nt nm) : ∀ (r k fuel : Nat), k + r = nm → r < fuel → p_X3_countRecursive_4 σ fuel (nI (cn (fun m => pb (wsh (dirP P nt nm) nm m m)) k)) (nI k) = some (nI (cn (fun m => pb (wsh (dirP P nt nm) nm m m)) nm)) := by
  intro r
  induction r with
  | zero =>
    intro k fuel hk hf
    obtain ⟨f, rfl⟩ : ∃ f, fuel = f + 1 := ⟨fuel - 1, by omega⟩
    have e : k = nm := by omega
    subst e
    rw [p_X3_countRecursive_4]
    try dsimp only
    rw [oc_s (show p_X4_size_0 σ = some (nI k) by unfold p_X4_size_0; rw [hs]), if_pos (nI_le (Nat.le_refl _) (by omega))]
  | succ r ih =>
    intro k fuel hk hf
    obtain ⟨f, rfl⟩ : ∃ f, fuel = f + 1 := ⟨fuel - 1, by omega⟩
    rw [p_X3_countRecursive_4]
    try dsimp only
    unfold p_X3_countRecursive_26
    rw [oc_s (show p_X4_size_0 σ = some (nI nm) by unfold p_X4_size_0; rw [hs]), if_neg (nI_ge (by omega) (by omega)), oc_s (k_isRec h48 (show k < nm by omega) hg), nI_1, nI_1]
    cases hb : pb (wsh (dirP P nt nm) nm k k) with
    | false =>
      rw [if_pos (show b2 false = 0 from rfl), ← (cn_s (f := fun m => pb (wsh (dirP P nt nm) nm m m))).2 hb]
      exact ih (k + 1) f (by omega) (by omega)
    | true =>
      rw [if_neg (show ¬ b2 true = 0 by decide), ← (cn_s (f := fun m => pb (wsh (dirP P nt nm) nm m m))).1 hb]
      exact ih (k + 1) f (by omega) (by omega)
/-- an owned OP is one of no -/
theorem ofM_lt {P : Nat → Nat → Int32} {nt nm no m o : Nat} (hW : WF P nt nm no) (hm : m < nm) (h : ofM P m o) : o < no := by
  have h160 := hW.2.2.1
  obtain ⟨c, i, h1, h2, h3, h4, h5⟩ := h
  obtain ⟨c', w1, w2, -, w4⟩ := hW.2.2.2.2.1 m hm
  have hcc : c' = c := (nI_eq (by omega) (by omega)).mp (w2.symm.trans h1)
  subst hcc
  obtain ⟨o', ho, h10⟩ := w4 i h3
  have : o' = o := (nI_eq (by omega) (by omega)).mp (h10.symm.trans h4)
  rw [← this]; exact ho
/-- the reference's FAULTS in all are the class's -/
noncomputable def gK (P : Nat → Nat → Int32) (nt nm k : Nat) : Nat := if pb (∃ m, m < nm ∧ LG P nt nm 0 m 0 ∧ ofM P m (k / 4)) = true then fcN P nt nm (LG P nt nm) (k / 4) (k % 4) else 0
noncomputable def gO (P : Nat → Nat → Int32) (nt nm o : Nat) : Nat := if pb (∃ m, m < nm ∧ LG P nt nm 0 m 0 ∧ ofM P m o) = true then faA P nt nm o else 0
theorem gK_t {P : Nat → Nat → Int32} {nt nm k : Nat} (h : ∃ m, m < nm ∧ LG P nt nm 0 m 0 ∧ ofM P m (k / 4)) : gK P nt nm k = fcN P nt nm (LG P nt nm) (k / 4) (k % 4) := by unfold gK; rw [if_pos (pb_t.mpr h)]
theorem gK_f {P : Nat → Nat → Int32} {nt nm k : Nat} (h : ¬ ∃ m, m < nm ∧ LG P nt nm 0 m 0 ∧ ofM P m (k / 4)) : gK P nt nm k = 0 := by unfold gK; rw [pb_f.mpr h]; rfl
theorem gO_t {P : Nat → Nat → Int32} {nt nm o : Nat} (h : ∃ m, m < nm ∧ LG P nt nm 0 m 0 ∧ ofM P m o) : gO P nt nm o = faA P nt nm o := by unfold gO; rw [if_pos (pb_t.mpr h)]
theorem gO_f {P : Nat → Nat → Int32} {nt nm o : Nat} (h : ¬ ∃ m, m < nm ∧ LG P nt nm 0 m 0 ∧ ofM P m o) : gO P nt nm o = 0 := by unfold gO; rw [pb_f.mpr h]; rfl
theorem gK_O {P : Nat → Nat → Int32} {nt nm o : Nat} : sm (fun j => gK P nt nm (4 * o + j)) 4 = gO P nt nm o := by
  show 0 + gK P nt nm (4 * o + 0) + gK P nt nm (4 * o + 1) + gK P nt nm (4 * o + 2) + gK P nt nm (4 * o + 3) = _
  have d : ∀ j, j < 4 → (4 * o + j) / 4 = o ∧ (4 * o + j) % 4 = j := fun j hj => ⟨by omega, by omega⟩
  by_cases h : ∃ m, m < nm ∧ LG P nt nm 0 m 0 ∧ ofM P m o
  · have e : ∀ j, j < 4 → gK P nt nm (4 * o + j) = fcN P nt nm (LG P nt nm) o j := fun j hj => by rw [gK_t (by rw [(d j hj).1]; exact h), (d j hj).1, (d j hj).2]
    rw [e 0 (by decide), e 1 (by decide), e 2 (by decide), e 3 (by decide), gO_t h]
    unfold faA
    omega
  · have e : ∀ j, j < 4 → gK P nt nm (4 * o + j) = 0 := fun j hj => gK_f (by rw [(d j hj).1]; exact h)
    rw [e 0 (by decide), e 1 (by decide), e 2 (by decide), e 3 (by decide), gO_f h]
theorem faults_all {P : Nat → Nat → Int32} {nt nm no : Nat} (hW : WF P nt nm no) (hS : wfS P nm no) {s : SS} (hF : FM P nt nm s) : ∃ g : Nat → Nat, (∀ k, k < 640 → s.1 19 k = nI (g k)) ∧ sm g 640 = sm (faM P nt nm) nm := by
  have h48 := hW.2.1.1
  have h160 := hW.2.2.1
  refine ⟨gK P nt nm, fun k hk => ?_, ?_⟩
  · obtain ⟨f1, f2⟩ := hF (k / 4) (k % 4) (by omega) (by omega)
    rw [show 4 * (k / 4) + k % 4 = k by omega] at f1 f2
    by_cases h : ∃ m, m < nm ∧ LG P nt nm 0 m 0 ∧ ofM P m (k / 4)
    · rw [f1 h, gK_t h]
    · rw [f2 h, gK_f h]; rfl
  · have e1 : sm (gK P nt nm) 640 = sm (gO P nt nm) 160 := by
      rw [show (640 : Nat) = 4 * 160 from rfl, sm_sm]
      exact sm_congr (fun o _ => gK_O)
    have e2 : sm (gO P nt nm) 160 = sm (gO P nt nm) no := sm_out (fun k h1 h2 => gO_f (by
      rintro ⟨m, a1, a2, a3⟩
      have := ofM_lt hW a1 a3
      omega)) h160
    rw [e1, e2, hS (gO P nt nm)]
    refine sm_congr (fun m hm => ?_)
    obtain ⟨c, w1, w2, -, w4⟩ := hW.2.2.2.2.1 m hm
    show sm (fun i => gO P nt nm (P 10 (24 * m + i)).toNatClampNeg) (P 9 m).toNatClampNeg = faM P nt nm m
    unfold faM
    rw [w2, nI_clamp (show c < 2 ^ 31 by omega)]
    by_cases hr : LG P nt nm 0 m 0
    · rw [if_pos (pb_t.mpr hr)]
      refine sm_congr (fun i hi => ?_)
      obtain ⟨o, ho, h10⟩ := w4 i hi
      show gO P nt nm (P 10 (24 * m + i)).toNatClampNeg = faA P nt nm (P 10 (24 * m + i)).toNatClampNeg
      rw [h10, nI_clamp (show o < 2 ^ 31 by omega), gO_t ⟨m, hm, hr, c, i, w2, w1, hi, h10, by omega⟩]
    · rw [pb_f.mpr hr]
      refine (sm_congr (g := fun _ => 0) (fun i hi => ?_)).trans ((sm_out (n := 0) (fun _ _ _ => rfl) (Nat.zero_le _)).trans rfl)
      obtain ⟨o, ho, h10⟩ := w4 i hi
      show gO P nt nm (P 10 (24 * m + i)).toNatClampNeg = 0
      rw [h10, nI_clamp (show o < 2 ^ 31 by omega), gO_f]
      rintro ⟨m', a1, a2, a3⟩
      have := own_op hS hm a1 ⟨c, i, w2, w1, hi, h10, by omega⟩ a3
      rw [← this] at a2
      exact hr a2
theorem pairs_all {P : Nat → Nat → Int32} {nt nm no : Nat} (hW : WF P nt nm no) {σ s : SS} (hC : gC σ P nt nm) (hg : gM s P nt nm) : ∃ g : Nat → Bool, (∀ k, k < 7680 → s.1 18 k = b2 (g k)) ∧ cn g 7680 = sm (fun o => cn (lb (σ.2 25 o)) 64) no := by
  have h48 := hW.2.1.1
  have h160 := hW.2.2.1
  refine ⟨fun k => pb (LG P nt nm 4 (k / 48) (k % 48)), fun k hk => ?_, ?_⟩
  · have := gM_c hg (show k / 48 < 160 by omega) (show k % 48 < 48 by omega)
    rw [show 48 * (k / 48) + k % 48 = k by omega] at this
    exact this
  · rw [show (7680 : Nat) = 48 * 160 from rfl, cn_sm, sm_out (n := no) (fun k h1 h2 => ?_) h160]
    · refine sm_congr (fun o ho => ?_)
      rw [cn_out (f := lb (σ.2 25 o)) (M := 48) (N := 64) (fun k h1 h2 => ?_) (by decide)]
      · refine cn_congr (fun j hj => ?_)
        rw [show (48 * o + j) / 48 = o by omega, show (48 * o + j) % 48 = j by omega, gC_c hC (show o < 160 by omega)]
      · rw [gC_c hC (show o < 160 by omega)]
        exact pb_f.mpr (fun w => by have := ((LG_lt w).2.2.2 rfl).2; omega)
    · refine cn_zero (fun j hj => pb_f.mpr (fun w => ?_))
      rw [show (48 * k + j) / 48 = k by omega] at w
      obtain ⟨m, a1, a2, a3⟩ := LG_own w
      have := ofM_lt hW a1 a3
      omega
theorem q_count {σ τ : SS} {nt nm no : Nat} (hI : Inv σ τ nt nm no) (v : Int32) : ∃ r σ' τ', p_X7_count_0 v σ = some (r, σ') ∧ p_X8_count_0 v τ = some (r, τ') ∧ Inv σ' τ' nt nm no := by
  have h16 := hI.1.1.1.1
  have h48 := hI.1.1.2.1.1
  have hC0 := Inv1_C hI.1
  unfold p_X7_count_0 p_X8_count_0
  obtain ⟨k1, k2⟩ := rng (n := 9) (c := 9) rfl (by decide) v (p_X7_count_10 σ) (if v ≤ 3 then p_X7_count_25 v σ else oc (p_X3_refresh_0 σ) (fun r_22 => p_X7_count_25 v r_22))
  by_cases hv : ∃ k, k < 10 ∧ v = nI k
  · rw [k1 hv]
    obtain ⟨w, hw, rfl⟩ := hv
    -- with both sides anew
    have main : ∀ σ' τ', Inv σ' τ' nt nm no → gM τ' τ'.1 nt nm → (3 < w → gC σ' τ'.1 nt nm) → ∃ r, p_X7_count_25 (nI w) σ' = some (r, σ') ∧ (if nI w = 0 then p_X8_count_59 (τ'.1 0 0) τ' else if nI w = 1 then p_X8_count_59 (τ'.1 0 5) τ' else if nI w = 2 then p_X8_count_59 (τ'.1 0 12) τ' else oc (p_X8_in_0 (nI w) 3 9) (fun r_43 => if r_43 = 0 then p_X8_count_59 (-102) τ' else oc (p_X8_countIn_0 τ' (nI w)) (fun r_51 => p_X8_count_59 r_51 τ'))) = some (r, τ') := by
      intro σ' τ' hI' hg hgC
      have hW := Inv1_W hI'.1
      have hC := Inv1_C hI'.1
      have hS := hI'.1.2.2
      have h160 := hW.2.2.1
      have h0 : τ'.1 0 0 = nI nt := hW.1.2.1
      have h5 : τ'.1 0 5 = nI nm := hW.2.1.2.1
      have h12 : τ'.1 0 12 = nI no := hW.2.2.2.1
      have pre := fun hw => pre_count (w := w) hW hS hw h0 h5 rfl hg
      have hin : ∀ k, 3 ≤ k → k < 10 → p_X8_in_0 (nI k) 3 9 = some 1 := by
        intro k h1 h2
        unfold p_X8_in_0
        rw [if_neg (show ¬ nI k < 3 from nI_nlt (b := 3) h1 (by omega)), if_neg (show ¬ (9 : Int32) < nI k from nI_nlt (a := 9) (by omega) (by omega))]
        exact ob_ok (Or.inr rfl)
      unfold p_X7_count_25
      rcases (show w = 0 ∨ w = 1 ∨ w = 2 ∨ w = 3 ∨ w = 4 ∨ w = 5 ∨ w = 6 ∨ w = 7 ∨ w = 8 ∨ w = 9 by omega) with rfl | rfl | rfl | rfl | rfl | rfl | rfl | rfl | rfl | rfl
      · rw [if_pos (show nI 0 = 0 by decide), if_pos (show nI 0 = 0 by decide), oc_s (size_T hC.1), h0]
        exact ⟨_, rfl, rfl⟩
      · rw [if_neg (show ¬ nI 1 = 0 by decide), if_neg (show ¬ nI 1 = 0 by decide), if_pos (show nI 1 = 1 by decide), if_pos (show nI 1 = 1 by decide), oc_s (size_M hC.2.1), h5]
        exact ⟨_, rfl, rfl⟩
      · rw [if_neg (show ¬ nI 2 = 0 by decide), if_neg (show ¬ nI 2 = 0 by decide), if_neg (show ¬ nI 2 = 1 by decide), if_neg (show ¬ nI 2 = 1 by decide), if_pos (show nI 2 = 2 by decide), if_pos (show nI 2 = 2 by decide), oc_s (size_O hC.2.2.1), h12]
        exact ⟨_, rfl, rfl⟩
      · rw [if_neg (show ¬ nI 3 = 0 by decide), if_neg (show ¬ nI 3 = 0 by decide), if_neg (show ¬ nI 3 = 1 by decide), if_neg (show ¬ nI 3 = 1 by decide), if_neg (show ¬ nI 3 = 2 by decide), if_neg (show ¬ nI 3 = 2 by decide), if_pos (show nI 3 = 3 by decide), oc_s (show p_X4_roots_0 σ' = some (σ'.2 2 9) from rfl), oc_s (p_bitCount _), oc_s (hin 3 (by decide) (by decide)), if_neg n10, pre (by decide), no123 (by decide) (by decide) (by decide), oc_s rfl]
        refine ⟨_, rfl, ?_⟩
        rw [ct_0 (f := ctG τ'.1 nt nm 3) (fun k => by rintro (⟨h, -⟩ | ⟨h, -⟩) <;> omega), cn_nm h48 (f := fun m => pb (ctF τ'.1 nt nm 3 m)) (fun k hk => (hC.2.1.2.2.2.2.2.2.2.2 k hk).trans (and_congr Iff.rfl (Iff.trans ?_ pb_t.symm)))]
        · rfl
        · exact ⟨fun h => Or.inl ⟨rfl, h⟩, fun h => h.elim (fun h => h.2) (fun h => h.elim (fun h => by omega) (fun h => by omega))⟩
      · have g := hgC (by decide)
        rw [if_neg (show ¬ nI 4 = 0 by decide), if_neg (show ¬ nI 4 = 0 by decide), if_neg (show ¬ nI 4 = 1 by decide), if_neg (show ¬ nI 4 = 1 by decide), if_neg (show ¬ nI 4 = 2 by decide), if_neg (show ¬ nI 4 = 2 by decide), if_neg (show ¬ nI 4 = 3 by decide), if_pos (show nI 4 = 4 by decide), oc_s (show p_X3_reached_0 σ' = some (σ'.2 5 9) from rfl), oc_s (p_bitCount _), oc_s (hin 4 (by decide) (by decide)), if_neg n10, pre (by decide), no123 (by decide) (by decide) (by decide), oc_s rfl]
        refine ⟨_, rfl, ?_⟩
        rw [ct_0 (f := ctG τ'.1 nt nm 4) (fun k => by rintro (⟨h, -⟩ | ⟨h, -⟩) <;> omega), cn_nm h48 (f := fun m => pb (ctF τ'.1 nt nm 4 m)) (fun k hk => ?_)]
        · rfl
        · rw [gC_r g, pb_t, pb_t]
          exact ⟨fun h => ⟨(LG_lt h).1 rfl, Or.inr (Or.inl ⟨rfl, h⟩)⟩, fun h => h.2.elim (fun h => by omega) (fun h => h.elim (fun h => h.2) (fun h => by omega))⟩
      · have g := hgC (by decide)
        rw [if_neg (show ¬ nI 5 = 0 by decide), if_neg (show ¬ nI 5 = 0 by decide), if_neg (show ¬ nI 5 = 1 by decide), if_neg (show ¬ nI 5 = 1 by decide), if_neg (show ¬ nI 5 = 2 by decide), if_neg (show ¬ nI 5 = 2 by decide), if_neg (show ¬ nI 5 = 3 by decide), if_neg (show ¬ nI 5 = 4 by decide), if_pos (show nI 5 = 5 by decide), oc_s (show p_X3_madeClasses_0 σ' = some (σ'.2 5 10) from rfl), oc_s (p_bitCount _), oc_s (hin 5 (by decide) (by decide)), if_neg n10, pre (by decide), no123 (by decide) (by decide) (by decide), oc_s rfl]
        refine ⟨_, rfl, ?_⟩
        rw [ct_0 (f := ctF τ'.1 nt nm 5) (fun k => by rintro (⟨h, -⟩ | ⟨h, -⟩ | ⟨h, -⟩) <;> omega), cn_nm (nm := nt) (by omega) (f := fun m => pb (ctG τ'.1 nt nm 5 m)) (fun k hk => ?_), Nat.zero_add]
        · rfl
        · rw [gC_m g, pb_t, pb_t]
          exact ⟨fun h => ⟨(LG_lt h).2.1 rfl, Or.inl ⟨rfl, h⟩⟩, fun h => h.2.elim (fun h => h.2) (fun h => by omega)⟩
      · have g := hgC (by decide)
        rw [if_neg (show ¬ nI 6 = 0 by decide), if_neg (show ¬ nI 6 = 0 by decide), if_neg (show ¬ nI 6 = 1 by decide), if_neg (show ¬ nI 6 = 1 by decide), if_neg (show ¬ nI 6 = 2 by decide), if_neg (show ¬ nI 6 = 2 by decide), if_neg (show ¬ nI 6 = 3 by decide), if_neg (show ¬ nI 6 = 4 by decide), if_neg (show ¬ nI 6 = 5 by decide), if_pos (show nI 6 = 6 by decide), oc_s (show p_X3_begunTypes_0 σ' = some (σ'.2 5 11) from rfl), oc_s (p_bitCount _), oc_s (hin 6 (by decide) (by decide)), if_neg n10, pre (by decide), no123 (by decide) (by decide) (by decide), oc_s rfl]
        refine ⟨_, rfl, ?_⟩
        rw [ct_0 (f := ctF τ'.1 nt nm 6) (fun k => by rintro (⟨h, -⟩ | ⟨h, -⟩ | ⟨h, -⟩) <;> omega), cn_nm (nm := nt) (by omega) (f := fun m => pb (ctG τ'.1 nt nm 6 m)) (fun k hk => ?_), Nat.zero_add]
        · rfl
        · rw [gC_b g, pb_t, pb_t]
          exact ⟨fun h => ⟨(LG_lt h).2.2.1 rfl, Or.inr ⟨rfl, h⟩⟩, fun h => h.2.elim (fun h => by omega) (fun h => h.2)⟩
      · have g := hgC (by decide)
        obtain ⟨gg, g1, g2⟩ := pairs_all hW g hg
        have cp : p_X3_countPairs_0 σ' = some (nI (sm (fun o => cn (lb (σ'.2 25 o)) 64) no)) := countPairs_4 (P := τ'.1) (nt := nt) (nm := nm) h160 hC.2.2.1.1 no 0 100000 (by omega) (by omega)
        have rp : p_X8_countIn_123 τ' 100000 (nI 7) (nI 0) 0 = some (nI (cn gg 7680)) := by
          have e := countIn_123 g1 0 7680 0 100000 (by omega) (by omega)
          rw [Nat.zero_add, Nat.zero_add] at e
          refine e.trans ?_
          unfold p_X8_countIn_159
          rw [show (100000 : Nat) = 99999 + 1 from rfl, p_X8_countIn_161]
          try dsimp only
          rw [if_neg (show ¬ (640 : Int32) ≤ 0 by decide), if_neg (show ¬ (7 : Int32) = 8 by decide)]
          rfl
        rw [if_neg (show ¬ nI 7 = 0 by decide), if_neg (show ¬ nI 7 = 0 by decide), if_neg (show ¬ nI 7 = 1 by decide), if_neg (show ¬ nI 7 = 1 by decide), if_neg (show ¬ nI 7 = 2 by decide), if_neg (show ¬ nI 7 = 2 by decide), if_neg (show ¬ nI 7 = 3 by decide), if_neg (show ¬ nI 7 = 4 by decide), if_neg (show ¬ nI 7 = 5 by decide), if_neg (show ¬ nI 7 = 6 by decide), if_pos (show nI 7 = 7 by decide), oc_s cp, oc_s (hin 7 (by decide) (by decide)), if_neg n10, pre (by decide), ct_0 (f := ctF τ'.1 nt nm 7) (fun k => by rintro (⟨h, -⟩ | ⟨h, -⟩ | ⟨h, -⟩) <;> omega), ct_0 (f := ctG τ'.1 nt nm 7) (fun k => by rintro (⟨h, -⟩ | ⟨h, -⟩) <;> omega), Nat.add_zero, oc_s rp, g2]
        exact ⟨_, rfl, rfl⟩
      · have g := hgC (by decide)
        obtain ⟨gg, g1, g2⟩ := faults_all hW hS hg.2.2.1
        have cp : p_X3_countFaults_0 σ' = some (nI (sm (faM τ'.1 nt nm) nm)) := countFaults_4 hW hC g nm 0 100000 (by omega) (by omega)
        have rp : p_X8_countIn_123 τ' 100000 (nI 8) (nI 0) 0 = some (nI (sm gg 640)) := by
          rw [show (100000 : Nat) = 99999 + 1 from rfl, p_X8_countIn_123]
          try dsimp only
          rw [if_neg (show ¬ (7680 : Int32) ≤ 0 by decide), if_neg (show ¬ nI 8 = 7 by decide)]
          have e := countIn_161 g1 0 640 0 100000 (by omega) (by omega)
          rw [Nat.zero_add, Nat.zero_add] at e
          exact e
        rw [if_neg (show ¬ nI 8 = 0 by decide), if_neg (show ¬ nI 8 = 0 by decide), if_neg (show ¬ nI 8 = 1 by decide), if_neg (show ¬ nI 8 = 1 by decide), if_neg (show ¬ nI 8 = 2 by decide), if_neg (show ¬ nI 8 = 2 by decide), if_neg (show ¬ nI 8 = 3 by decide), if_neg (show ¬ nI 8 = 4 by decide), if_neg (show ¬ nI 8 = 5 by decide), if_neg (show ¬ nI 8 = 6 by decide), if_neg (show ¬ nI 8 = 7 by decide), if_pos (show nI 8 = 8 by decide), oc_s cp, oc_s (hin 8 (by decide) (by decide)), if_neg n10, pre (by decide), ct_0 (f := ctF τ'.1 nt nm 8) (fun k => by rintro (⟨h, -⟩ | ⟨h, -⟩ | ⟨h, -⟩) <;> omega), ct_0 (f := ctG τ'.1 nt nm 8) (fun k => by rintro (⟨h, -⟩ | ⟨h, -⟩) <;> omega), Nat.add_zero, oc_s rp, g2]
        exact ⟨_, rfl, rfl⟩
      · have g := hgC (by decide)
        have cp : p_X3_countRecursive_0 σ' = some (nI (cn (fun m => pb (wsh (dirP τ'.1 nt nm) nm m m)) nm)) := countRec_4 h48 hC.2.1.1 g nm 0 100000 (by omega) (by omega)
        rw [if_neg (show ¬ nI 9 = 0 by decide), if_neg (show ¬ nI 9 = 0 by decide), if_neg (show ¬ nI 9 = 1 by decide), if_neg (show ¬ nI 9 = 1 by decide), if_neg (show ¬ nI 9 = 2 by decide), if_neg (show ¬ nI 9 = 2 by decide), if_neg (show ¬ nI 9 = 3 by decide), if_neg (show ¬ nI 9 = 4 by decide), if_neg (show ¬ nI 9 = 5 by decide), if_neg (show ¬ nI 9 = 6 by decide), if_neg (show ¬ nI 9 = 7 by decide), if_neg (show ¬ nI 9 = 8 by decide), oc_s cp, oc_s (hin 9 (by decide) (by decide)), if_neg n10, pre (by decide), no123 (by decide) (by decide) (by decide), oc_s rfl, ct_0 (f := ctG τ'.1 nt nm 9) (fun k => by rintro (⟨h, -⟩ | ⟨h, -⟩) <;> omega)]
        refine ⟨_, rfl, ?_⟩
        rw [ct_c (f := ctF τ'.1 nt nm 9) (g := fun m => wsh (dirP τ'.1 nt nm) nm m m) (fun k => ⟨fun h => h.elim (fun h => by omega) (fun h => h.elim (fun h => by omega) (fun h => h.2)), fun h => Or.inr (Or.inr ⟨rfl, h⟩)⟩)]
        rfl
    by_cases hw3 : w ≤ 3
    · rw [if_pos (show nI w ≤ 3 from nI_le (b := 3) hw3 (by decide))]
      obtain ⟨τ', q2, q3, q4, -⟩ := i_freshen hI
      rw [oc_s q2]
      obtain ⟨r, y1, y2⟩ := main σ τ' q3 q4 (fun h => by omega)
      exact ⟨r, σ, τ', y1, y2, q3⟩
    · rw [if_neg (show ¬ nI w ≤ 3 from nI_ge (a := 3) (by omega) (by omega))]
      obtain ⟨σ', τ', q1, q2, q3, q4, q5, q6⟩ := i_both hI
      rw [oc_s q1, oc_s q2]
      obtain ⟨r, y1, y2⟩ := main σ' τ' q3 q5 (fun _ => q4)
      exact ⟨r, σ', τ', y1, y2, q3⟩
  · rw [k2 hv]
    obtain ⟨τ', q2, q3, -, -⟩ := i_freshen hI
    have hin : p_X8_in_0 v 3 9 = some 0 := by
      unfold p_X8_in_0
      by_cases h1 : v < 3
      · rw [if_pos h1]; exact ob_ok (Or.inl rfl)
      · rw [if_neg h1]
        by_cases h2 : (9 : Int32) < v
        · rw [if_pos h2]; exact ob_ok (Or.inl rfl)
        · exfalso
          have hp : ¬ v < 0 := fun q => h1 (Int32.lt_trans q (by decide))
          obtain ⟨j, hj, e⟩ := nI_of hp
          refine hv ⟨j, ?_, e⟩
          refine Nat.lt_of_not_le (fun w => h2 ?_)
          rw [e]
          exact nI_lt (a := 9) (by omega) (by omega)
    rw [oc_s q2, if_neg (show ¬ v = 0 from fun e => hv ⟨0, by decide, e⟩), if_neg (show ¬ v = 1 from fun e => hv ⟨1, by decide, e⟩), if_neg (show ¬ v = 2 from fun e => hv ⟨2, by decide, e⟩), oc_s hin, if_pos rfl]
    exact ⟨-102, σ, τ', rfl, rfl, q3⟩
