/-! pure: Long.bitCount counts -/
def mA (n : Nat) : Nat := n - (n / 2 &&& 6148914691236517205)
def mB (n : Nat) : Nat := (n &&& 3689348814741910323) + (n / 4 &&& 3689348814741910323)
def mC (n : Nat) : Nat := (n + n / 16) &&& 1085102592571150095
theorem and_split {a b c d : Nat} (ha : a < 256) (hc : c < 256) : (a + 256 * b) &&& (c + 256 * d) = (a &&& c) + 256 * (b &&& d) := by
  have hac : a &&& c < 2 ^ 8 := Nat.lt_of_le_of_lt Nat.and_le_left ha
  apply Nat.eq_of_testBit_eq
  intro i
  rw [Nat.testBit_and, show a + 256 * b = 2 ^ 8 * b + a by omega, show c + 256 * d = 2 ^ 8 * d + c by omega, show (a &&& c) + 256 * (b &&& d) = 2 ^ 8 * (b &&& d) + (a &&& c) by omega]
  rw [Nat.testBit_two_pow_mul_add b ha, Nat.testBit_two_pow_mul_add d hc, Nat.testBit_two_pow_mul_add (b &&& d) hac]
  split
  · rw [Nat.testBit_and]
  · rw [Nat.testBit_and]
theorem and_cut {x m m' : Nat} (k : Nat) (hx : x < 2 ^ k) (h : m % 2 ^ k = m' % 2 ^ k) : x &&& m = x &&& m' := by
  apply Nat.eq_of_testBit_eq
  intro i
  rw [Nat.testBit_and, Nat.testBit_and]
  by_cases hi : i < k
  · have h1 : (m % 2 ^ k).testBit i = (m' % 2 ^ k).testBit i := by rw [h]
    rw [Nat.testBit_mod_two_pow, Nat.testBit_mod_two_pow] at h1
    simp only [hi, decide_true, Bool.true_and] at h1
    rw [h1]
  · have h2 : x.testBit i = false := Nat.testBit_lt_two_pow (Nat.lt_of_lt_of_le hx (Nat.pow_le_pow_right (by decide) (by omega)))
    rw [h2]; rfl
theorem byte_1 : ∀ lo, lo < 256 → ∀ h, h < 2 → ((lo / 2 + 128 * h) &&& 85) = (lo / 2 &&& 85) ∧ (lo / 2 &&& 85) ≤ lo := by decide +kernel
theorem byte_2 : ∀ lo, lo < 256 → ∀ h, h < 4 → ((lo / 4 + 64 * h) &&& 51) = (lo / 4 &&& 51) := by decide +kernel
theorem byte_A : ∀ lo, lo < 256 → mA lo < 256 := by decide +kernel
theorem byte_B : ∀ lo, lo < 256 → mB (mA lo) < 256 ∧ mB (mA lo) + mB (mA lo) / 16 < 256 := by decide +kernel
theorem byte_C : ∀ lo, lo < 256 → mC (mB (mA lo)) = cn (fun i => lo.testBit i) 8 := by decide +kernel
theorem mA_le (n : Nat) : (n / 2 &&& 6148914691236517205) ≤ n := Nat.le_trans Nat.and_le_left (Nat.div_le_self n 2)
theorem mA_split {lo hi : Nat} (hl : lo < 256) (hh : hi < 2 ^ 56) : mA (lo + 256 * hi) = mA lo + 256 * mA hi := by
  have h1 : (lo + 256 * hi) / 2 = (lo / 2 + 128 * (hi % 2)) + 256 * (hi / 2) := by omega
  have h2 : (lo + 256 * hi) / 2 &&& 6148914691236517205 = (lo / 2 &&& 85) + 256 * (hi / 2 &&& 24019198012642645) := by
    rw [h1, show (6148914691236517205 : Nat) = 85 + 256 * 24019198012642645 by decide, and_split (by omega) (by decide), (byte_1 lo hl (hi % 2) (by omega)).1]
  have h3 : hi / 2 &&& 24019198012642645 = hi / 2 &&& 6148914691236517205 := and_cut 56 (by omega) (by decide)
  have h4 : lo / 2 &&& 6148914691236517205 = lo / 2 &&& 85 := and_cut 8 (by omega) (by decide)
  have h5 := (byte_1 lo hl 0 (by decide)).2
  have h6 := mA_le hi
  unfold mA
  rw [h2, h3, h4]
  omega
theorem mB_split {lo hi : Nat} (hl : lo < 256) (hh : hi < 2 ^ 56) : mB (lo + 256 * hi) = mB lo + 256 * mB hi := by
  have h1 : (lo + 256 * hi) / 4 = (lo / 4 + 64 * (hi % 4)) + 256 * (hi / 4) := by omega
  have h2 : (lo + 256 * hi) / 4 &&& 3689348814741910323 = (lo / 4 &&& 51) + 256 * (hi / 4 &&& 14411518807585587) := by
    rw [h1, show (3689348814741910323 : Nat) = 51 + 256 * 14411518807585587 by decide, and_split (by omega) (by decide), byte_2 lo hl (hi % 4) (by omega)]
  have h2' : (lo + 256 * hi) &&& 3689348814741910323 = (lo &&& 51) + 256 * (hi &&& 14411518807585587) := by
    rw [show (3689348814741910323 : Nat) = 51 + 256 * 14411518807585587 by decide, and_split hl (by decide)]
  have h3 : hi / 4 &&& 14411518807585587 = hi / 4 &&& 3689348814741910323 := and_cut 56 (by omega) (by decide)
  have h3' : hi &&& 14411518807585587 = hi &&& 3689348814741910323 := and_cut 56 hh (by decide)
  have h4 : lo / 4 &&& 3689348814741910323 = lo / 4 &&& 51 := and_cut 8 (by omega) (by decide)
  have h4' : lo &&& 3689348814741910323 = lo &&& 51 := and_cut 8 hl (by decide)
  unfold mB
  rw [h2, h2', h3, h3', h4, h4']
  omega
theorem and15 (x : Nat) : x &&& 15 = x % 16 := Nat.and_two_pow_sub_one_eq_mod x 4
theorem mC_split {lo hi : Nat} (hl : lo + lo / 16 + 16 * (hi % 16) < 256) (hh : hi + hi / 16 < 2 ^ 56) : mC (lo + 256 * hi) = mC lo + 256 * mC hi := by
  have h1 : (lo + 256 * hi) + (lo + 256 * hi) / 16 = (lo + lo / 16 + 16 * (hi % 16)) + 256 * (hi + hi / 16) := by omega
  have h2 : hi + hi / 16 &&& 4238682002231055 = hi + hi / 16 &&& 1085102592571150095 := and_cut 56 hh (by decide)
  have h3 : lo + lo / 16 &&& 1085102592571150095 = lo + lo / 16 &&& 15 := and_cut 8 (by omega) (by decide)
  unfold mC
  rw [h1, show (1085102592571150095 : Nat) = 15 + 256 * 4238682002231055 by decide, and_split hl (by decide)]
  rw [show (15 + 256 * 4238682002231055 : Nat) = 1085102592571150095 by decide, h2, h3, and15, and15]
  omega
def mN (n : Nat) : Nat := mB (mA n)
theorem byte_N : ∀ lo, lo < 256 → mA lo < 256 ∧ mN lo ≤ 68 ∧ mN lo % 16 ≤ 4 ∧ mN lo / 16 ≤ 4 ∧ mC (mN lo) = cn (fun i => lo.testBit i) 8 := by decide +kernel
def sB : Nat → Nat → Nat
  | 0, _ => 0
  | k + 1, n => cn (fun i => (n % 256).testBit i) 8 + 256 * sB k (n / 256)
theorem mA_self (n : Nat) : mA n ≤ n := Nat.sub_le _ _
theorem sB_ok : ∀ (k n : Nat), k ≤ 8 → n < 256 ^ k → 255 * mN n + 68 ≤ 68 * 256 ^ k ∧ mN n % 16 ≤ 4 ∧ mC (mN n) = sB k n := by
  intro k
  induction k with
  | zero =>
    intro n _ hn
    have h0 : n = 0 := by simp at hn; exact hn
    subst h0
    decide
  | succ k ih =>
    intro n hk hn
    have hp : 256 ^ (k + 1) = 256 * 256 ^ k := by rw [Nat.pow_succ, Nat.mul_comm]
    have hd : n / 256 < 256 ^ k := by rw [hp] at hn; omega
    obtain ⟨g1, g2, g3⟩ := ih (n / 256) (by omega) hd
    have hm : n % 256 < 256 := Nat.mod_lt _ (by decide)
    obtain ⟨b1, b2, b3, b4, b5⟩ := byte_N (n % 256) hm
    have h56 : (256 : Nat) ^ k ≤ 2 ^ 56 := by
      have : (256 : Nat) ^ k ≤ 256 ^ 7 := Nat.pow_le_pow_right (by decide) (by omega)
      exact this
    have e0 : n = n % 256 + 256 * (n / 256) := by omega
    have eA : mA n = mA (n % 256) + 256 * mA (n / 256) := by
      conv => lhs; rw [e0]
      exact mA_split hm (by omega)
    have hA := mA_self (n / 256)
    have eN : mN n = mN (n % 256) + 256 * mN (n / 256) := by
      unfold mN
      rw [eA]
      exact mB_split b1 (by omega)
    refine ⟨?_, ?_, ?_⟩
    · rw [eN, hp]; omega
    · rw [eN]; omega
    · rw [eN, mC_split (by omega) (by omega), b5, g3]
      rfl
theorem cn_add (f : Nat → Bool) (a b : Nat) : cn f (a + b) = cn f a + cn (fun i => f (a + i)) b := by
  induction b with
  | zero => rfl
  | succ b ih =>
    have h1 : cn f (a + (b + 1)) = cn f (a + b) + (if f (a + b) = true then 1 else 0) := rfl
    have h2 : cn (fun i => f (a + i)) (b + 1) = cn (fun i => f (a + i)) b + (if f (a + b) = true then 1 else 0) := rfl
    rw [h1, h2, ih, Nat.add_assoc]
def tB : Nat → Nat → Nat
  | 0, _ => 0
  | k + 1, n => cn (fun i => (n % 256).testBit i) 8 + tB k (n / 256)
theorem tB_ok : ∀ (k n : Nat), cn (fun i => n.testBit i) (8 * k) = tB k n := by
  intro k
  induction k with
  | zero => intro n; rfl
  | succ k ih =>
    intro n
    rw [show 8 * (k + 1) = 8 + 8 * k by omega, cn_add]
    have h1 : cn (fun i => n.testBit i) 8 = cn (fun i => (n % 256).testBit i) 8 := cn_congr (fun i hi => by
      show n.testBit i = (n % 2 ^ 8).testBit i
      rw [Nat.testBit_mod_two_pow]; simp [hi])
    have h2 : cn (fun i => n.testBit (8 + i)) (8 * k) = cn (fun i => (n / 256).testBit i) (8 * k) := cn_congr (fun i _ => by
      show n.testBit (8 + i) = (n / 2 ^ 8).testBit i
      rw [Nat.testBit_div_two_pow, Nat.add_comm])
    rw [h1, h2, ih]
    rfl
theorem yy {c d x y z w : Nat} (e : x = c + 256 * y) (e2 : w = d + 256 * z) : x + w = (c + d) + 256 * (y + z) := by rw [e, e2]; omega
theorem dd {c d x y z : Nat} (hc : c < 256) (hd : d < 256) (e : x = c + 256 * y) (e2 : y = d + 256 * z) : x / 65536 = z := by rw [e, e2]; omega
theorem d256 {c x y : Nat} (hc : c < 256) (e : x = c + 256 * y) : x / 256 = y := by rw [e]; omega
theorem f128 {a b x y v w : Nat} (e : v = a + 256 * x) (e2 : w = b + 256 * y) (h : a + b < 128) : (v + w) % 128 = a + b := by rw [e, e2]; omega
theorem fin_sum {c0 c1 c2 c3 c4 c5 c6 c7 x0 x1 x2 x3 x4 x5 x6 x7 : Nat} (h0 : c0 ≤ 8) (h1 : c1 ≤ 8) (h2 : c2 ≤ 8) (h3 : c3 ≤ 8) (h4 : c4 ≤ 8) (h5 : c5 ≤ 8) (h6 : c6 ≤ 8) (h7 : c7 ≤ 8)
    (e0 : x0 = c0 + 256 * x1) (e1 : x1 = c1 + 256 * x2) (e2 : x2 = c2 + 256 * x3) (e3 : x3 = c3 + 256 * x4) (e4 : x4 = c4 + 256 * x5) (e5 : x5 = c5 + 256 * x6) (e6 : x6 = c6 + 256 * x7) (e7 : x7 = c7 + 256 * 0) :
    (x0 + x0 / 256 + (x0 + x0 / 256) / 65536 + (x0 + x0 / 256 + (x0 + x0 / 256) / 65536) / 4294967296) % 128 = (c0 + c1 + (c2 + c3)) + (c4 + c5 + (c6 + c7)) := by
  rw [d256 (Nat.lt_of_le_of_lt h0 (by decide)) e0]
  have l2 : ∀ {a b : Nat}, a ≤ 8 → b ≤ 8 → a + b ≤ 16 := fun p q => Nat.add_le_add p q
  have l4 : ∀ {a b : Nat}, a ≤ 16 → b ≤ 16 → a + b ≤ 32 := fun p q => Nat.add_le_add p q
  have y0 := yy e0 e1
  have y1 := yy e1 e2
  have y2 := yy e2 e3
  have y3 := yy e3 e4
  have y4 := yy e4 e5
  have y5 := yy e5 e6
  have y6 := yy e6 e7
  rw [dd (Nat.lt_of_le_of_lt (l2 h0 h1) (by decide)) (Nat.lt_of_le_of_lt (l2 h1 h2) (by decide)) y0 y1]
  have w0 := yy y0 y2
  have w1 := yy y1 y3
  have w2 := yy y2 y4
  have w3 := yy y3 y5
  have w4 := yy y4 y6
  have d3 : (x0 + x1 + (x2 + x3)) / 4294967296 = x4 + x5 + (x6 + x7) := by
    rw [show (4294967296 : Nat) = 65536 * 65536 by decide, ← Nat.div_div_eq_div_mul]
    rw [dd (Nat.lt_of_le_of_lt (l4 (l2 h0 h1) (l2 h2 h3)) (by decide)) (Nat.lt_of_le_of_lt (l4 (l2 h1 h2) (l2 h3 h4)) (by decide)) w0 w1]
    exact dd (Nat.lt_of_le_of_lt (l4 (l2 h2 h3) (l2 h4 h5)) (by decide)) (Nat.lt_of_le_of_lt (l4 (l2 h3 h4) (l2 h5 h6)) (by decide)) w2 w3
  rw [d3]
  exact f128 w0 w4 (Nat.lt_of_le_of_lt (Nat.add_le_add (l4 (l2 h0 h1) (l2 h2 h3)) (l4 (l2 h4 h5) (l2 h6 h7))) (by decide))
theorem sB_le : ∀ (k n : Nat), 255 * sB k n + 8 ≤ 8 * 256 ^ k := by
  intro k
  induction k with
  | zero => intro n; exact Nat.le_refl 8
  | succ k ih =>
    intro n
    have h1 := ih (n / 256)
    have h2 := cn_le (fun i => (n % 256).testBit i) 8
    have h3 : sB (k + 1) n = cn (fun i => (n % 256).testBit i) 8 + 256 * sB k (n / 256) := rfl
    have hp : 256 ^ (k + 1) = 256 * 256 ^ k := by rw [Nat.pow_succ, Nat.mul_comm]
    rw [h3, hp]
    omega
theorem lN_7 (m : Nat) : (nI m &&& 127) = nI (m % 128) := by
  rw [pk_and (nI m) 7 (by decide)]
  have h1 : (nI m).toBitVec.toNat = m % 2 ^ 32 := by show (BitVec.ofNat 32 m).toNat = _; rw [BitVec.toNat_ofNat]
  rw [h1]
  congr 1
  omega
theorem sB_s (k n : Nat) : sB (k + 1) n = cn (fun i => (n % 256).testBit i) 8 + 256 * sB k (n / 256) := rfl
theorem tB_s (k n : Nat) : tB (k + 1) n = cn (fun i => (n % 256).testBit i) 8 + tB k (n / 256) := rfl
