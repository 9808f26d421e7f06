/-! pure: guards and bits (ts_, wb_ rows begun from the bits' paste) -/
theorem ts_bit {w : Int64} {s : UInt64} {j : Nat} (hj : j < 64) (hs : s.toNat = j) : ((w.toUInt64 >>> s).toInt64 &&& 1) = 0 ↔ w.toBitVec.getLsbD j = false := by
  have e : (w.toUInt64 >>> s).toInt64.toBitVec = w.toBitVec >>> j := by
    apply BitVec.eq_of_toNat_eq
    show (w.toUInt64 >>> s).toNat = _
    rw [UInt64.toNat_shiftRight, hs, Nat.mod_eq_of_lt hj, BitVec.toNat_ushiftRight]
    rfl
  rw [← Int64.toBitVec_inj, Int64.toBitVec_and, e]
  show w.toBitVec >>> j &&& 1#64 = 0#64 ↔ _
  constructor
  · intro h
    have t := congrArg (fun x => x.getLsbD 0) h
    simpa using t
  · intro h
    apply BitVec.eq_of_getLsbD_eq
    intro i hi
    cases i with
    | zero => simp [h]
    | succ i => simp
theorem wb_tb (n : Nat) : (lN n).toBitVec = BitVec.ofNat 64 n := rfl
theorem wb_inj {a b : Int64} (h : a.toBitVec = b.toBitVec) : a = b := Int64.toBitVec_inj.mp h
theorem wb_tn {n : Nat} (h : n < 2 ^ 64) : (lN n).toBitVec.toNat = n := by rw [wb_tb, BitVec.toNat_ofNat, Nat.mod_eq_of_lt h]
theorem wb_of (x : Int64) : ∃ n, n < 2 ^ 64 ∧ x = lN n := ⟨x.toBitVec.toNat, x.toBitVec.isLt, wb_inj (by rw [wb_tb]; simp)⟩
theorem wb_c : ∀ k, k < 64 → ((nI k).toInt64 &&& 63) = lN k := by decide +kernel
theorem wb_cu : ∀ k, k < 64 → ((nI k).toInt64.toUInt64 &&& Int64.toUInt64 63) = UInt64.ofNat k := by decide +kernel
theorem wb_shr {n k : Nat} (hn : n < 2 ^ 64) (hk : k < 64) : ((lN n).toUInt64 >>> ((nI k).toInt64.toUInt64 &&& Int64.toUInt64 63)).toInt64 = lN (n / 2 ^ k) := by
  rw [wb_cu k hk]
  apply wb_inj
  apply BitVec.eq_of_toNat_eq
  show ((lN n).toUInt64 >>> UInt64.ofNat k).toNat = (BitVec.ofNat 64 _).toNat
  have h1 : (UInt64.ofNat k).toNat = k := by
    show (BitVec.ofNat 64 k).toNat = k
    rw [BitVec.toNat_ofNat, Nat.mod_eq_of_lt (by omega)]
  have h2 : (lN n).toUInt64.toNat = n := wb_tn hn
  rw [UInt64.toNat_shiftRight, h1, h2, Nat.mod_eq_of_lt hk, Nat.shiftRight_eq_div_pow, BitVec.toNat_ofNat, Nat.mod_eq_of_lt (Nat.lt_of_le_of_lt (Nat.div_le_self _ _) hn)]
theorem wb_and {a b : Nat} (ha : a < 2 ^ 64) (hb : b < 2 ^ 64) : lN a &&& lN b = lN (a &&& b) := by
  apply wb_inj
  rw [Int64.toBitVec_and, wb_tb, wb_tb, wb_tb]
  apply BitVec.eq_of_toNat_eq
  rw [BitVec.toNat_and, BitVec.toNat_ofNat, BitVec.toNat_ofNat, BitVec.toNat_ofNat, Nat.mod_eq_of_lt ha, Nat.mod_eq_of_lt hb, Nat.mod_eq_of_lt (Nat.and_lt_two_pow _ hb)]
theorem oi_ok {α : Type} {i : Int32} {n : Nat} {k : Option α} (h : vp_in i n) : oi i n k = k := if_neg h
theorem oi_n {α : Type} {j n : Nat} {k : Option α} (h : j < n) (hn : n < 2 ^ 31) : oi (nI j) n k = k := oi_ok (vp_in_nI h hn)
theorem ob_ok {α : Type} {v : Int32} {k : Option α} (h : v = 0 ∨ v = 1) : ob v k = k := if_pos h
theorem oz_ok {α : Type} {y : Int64} {k : Option α} (h : ¬ y = 0) : oz y k = k := if_neg h
theorem oc_s {α β : Type} {o : Option α} {a : α} {k : α → Option β} (h : o = some a) : oc o k = k a := by rw [h]; rfl
def b2 (b : Bool) : Int32 := if b = true then 1 else 0
theorem b2_01 (b : Bool) : b2 b = 0 ∨ b2 b = 1 := by cases b <;> simp [b2]
theorem b2_0 {b : Bool} : b2 b = 0 ↔ b = false := by cases b <;> simp [b2]
theorem b2_1 {b : Bool} : b2 b = 1 ↔ b = true := by cases b <;> simp [b2]
theorem b2_inj {a b : Bool} : b2 a = b2 b ↔ a = b := by cases a <;> cases b <;> simp [b2]
def lb (x : Int64) (k : Nat) : Bool := x.toBitVec.getLsbD k
theorem lb_big {x : Int64} {k : Nat} (h : 64 ≤ k) : lb x k = false := BitVec.getLsbD_of_ge _ _ h
theorem lb_0 (k : Nat) : lb 0 k = false := by show (0#64).getLsbD k = false; simp
theorem lb_or (x y : Int64) (k : Nat) : lb (x ||| y) k = (lb x k || lb y k) := by show (x ||| y).toBitVec.getLsbD k = _; rw [Int64.toBitVec_or, BitVec.getLsbD_or]; rfl
theorem lb_and (x y : Int64) (k : Nat) : lb (x &&& y) k = (lb x k && lb y k) := by show (x &&& y).toBitVec.getLsbD k = _; rw [Int64.toBitVec_and, BitVec.getLsbD_and]; rfl
theorem lb_xor (x y : Int64) (k : Nat) : lb (x ^^^ y) k = (lb x k ^^ lb y k) := by show (x ^^^ y).toBitVec.getLsbD k = _; rw [Int64.toBitVec_xor, BitVec.getLsbD_xor]; rfl
theorem lb_m1 : ∀ k, k < 64 → lb (-1) k = true := by decide +kernel
theorem lb_ext {x y : Int64} (h : ∀ k, k < 64 → lb x k = lb y k) : x = y := wb_inj (BitVec.eq_of_getLsbD_eq h)
theorem jshl_tp : ∀ k, k < 64 → (jshl 1 (nI k)).toBitVec = BitVec.twoPow 64 k := by decide +kernel
theorem lb_tp {k j : Nat} (hk : k < 64) : lb (jshl 1 (nI k)) j = decide (j = k) := by
  show (jshl 1 (nI k)).toBitVec.getLsbD j = _
  rw [jshl_tp k hk, BitVec.getLsbD_twoPow]
  by_cases h : j = k
  · subst h; simp [hk]
  · have h2 : ¬ k = j := fun e => h e.symm
    simp [h, h2]
theorem cu_n {k : Nat} (hk : k < 64) : ((nI k).toInt64.toUInt64 &&& Int64.toUInt64 63).toNat = k := by
  rw [wb_cu k hk]
  show (BitVec.ofNat 64 k).toNat = k
  rw [BitVec.toNat_ofNat, Nat.mod_eq_of_lt (by omega)]
theorem p_has {x : Int64} {k : Nat} (hk : k < 64) : p_X0_has_0 x (nI k) = some (b2 (lb x k)) := by
  have h1 : (jush x (nI k) &&& 1) = 0 ↔ lb x k = false := ts_bit hk (cu_n hk)
  unfold p_X0_has_0
  cases hb : lb x k with
  | false => rw [if_pos ((lg_cmp_eq _ _).mpr (h1.mpr hb))]; exact ob_ok (Or.inl rfl)
  | true =>
    rw [if_neg (fun h => by
      have h2 := h1.mp ((lg_cmp_eq _ _).mp h)
      rw [hb] at h2
      cases h2)]
    exact ob_ok (Or.inr rfl)
theorem lb_with {x : Int64} {k j : Nat} (hk : k < 64) : lb (x ||| jshl 1 (nI k)) j = (lb x j || decide (j = k)) := by rw [lb_or, lb_tp hk]
theorem p_within (x y : Int64) : ∃ b : Bool, p_X0_within_0 x y = some (b2 b) ∧ (b = true ↔ ∀ k, k < 64 → lb x k = true → lb y k = true) := by
  have h1 : (x &&& (y ^^^ (-1))) = 0 ↔ ∀ k, k < 64 → lb x k = true → lb y k = true := by
    constructor
    · intro h k hk hx
      have h2 : lb (x &&& (y ^^^ (-1))) k = false := by rw [h]; exact lb_0 k
      rw [lb_and, lb_xor, lb_m1 k hk, hx] at h2
      cases hy : lb y k with
      | true => rfl
      | false => rw [hy] at h2; cases h2
    · intro h
      apply lb_ext
      intro k hk
      rw [lb_and, lb_xor, lb_m1 k hk, lb_0]
      cases hx : lb x k with
      | false => rfl
      | true => rw [h k hk hx]; rfl
  unfold p_X0_within_0
  by_cases h : ∀ k, k < 64 → lb x k = true → lb y k = true
  · rw [if_pos ((lg_cmp_eq _ _).mpr (h1.mpr h))]
    exact ⟨true, ob_ok (Or.inr rfl), ⟨fun _ => h, fun _ => rfl⟩⟩
  · rw [if_neg (fun e => h (h1.mp ((lg_cmp_eq _ _).mp e)))]
    exact ⟨false, ob_ok (Or.inl rfl), ⟨fun e => absurd e (by decide), fun e => absurd e h⟩⟩
/-- how many numbers below n are in a set -/
def cn (f : Nat → Bool) : Nat → Nat
  | 0 => 0
  | n + 1 => cn f n + (if f n = true then 1 else 0)
theorem cn_le (f : Nat → Bool) (n : Nat) : cn f n ≤ n := by
  induction n with
  | zero => exact Nat.le_refl _
  | succ n ih => unfold cn; split <;> omega
theorem cn_congr {f g : Nat → Bool} {n : Nat} (h : ∀ k, k < n → f k = g k) : cn f n = cn g n := by
  induction n with
  | zero => rfl
  | succ n ih => unfold cn; rw [ih (fun k hk => h k (by omega)), h n (by omega)]
theorem cn_mono (f : Nat → Bool) {a b : Nat} (h : a ≤ b) : cn f a ≤ cn f b := by
  induction b with
  | zero => rw [show a = 0 by omega]; exact Nat.le_refl _
  | succ b ih =>
    by_cases e : a = b + 1
    · rw [e]; exact Nat.le_refl _
    · have := ih (by omega)
      show cn f a ≤ cn f b + _
      split <;> omega
theorem cn_sub {f g : Nat → Bool} {n : Nat} (h : ∀ k, k < n → f k = true → g k = true) : cn f n ≤ cn g n := by
  induction n with
  | zero => exact Nat.le_refl _
  | succ n ih =>
    have h1 := ih (fun k hk => h k (by omega))
    have h2 := h n (by omega)
    unfold cn
    cases hf : f n with
    | false => simp; split <;> omega
    | true => rw [h2 hf]; simp; omega
/-- a set within another one, of as many: the same -/
theorem cn_same {f g : Nat → Bool} {n : Nat} (h : ∀ k, k < n → f k = true → g k = true) (e : cn f n = cn g n) : ∀ k, k < n → f k = g k := by
  induction n with
  | zero => intro k hk; omega
  | succ n ih =>
    have h1 := cn_sub (f := f) (g := g) (n := n) (fun k hk => h k (by omega))
    have h2 := h n (by omega)
    unfold cn at e
    have h3 : f n = g n := by
      cases hf : f n with
      | true => exact (h2 hf).symm
      | false =>
        cases hg : g n with
        | false => rfl
        | true => rw [hf, hg] at e; simp at e; omega
    have h4 : cn f n = cn g n := by rw [h3] at e; omega
    intro k hk
    by_cases hkn : k = n
    · rw [hkn]; exact h3
    · exact ih (fun k hk => h k (by omega)) h4 k (by omega)
