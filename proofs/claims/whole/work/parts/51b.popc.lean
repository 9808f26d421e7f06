theorem js {n : Nat} (hn : n < 2 ^ 64) {k : Nat} (hk : k < 64) : jush (lN n) (nI k) = lN (n / 2 ^ k) := wb_shr hn hk
theorem p_bitCount (x : Int64) : p_J13_bitCount_95d88_0 x = some (nI (cn (lb x) 64)) := by
  obtain ⟨n, hn, rfl⟩ := wb_of x
  have hlb : cn (lb (lN n)) 64 = tB 8 n := by
    rw [← tB_ok 8 n]
    exact cn_congr (fun k _ => by show (BitVec.ofNat 64 n).getLsbD k = n.testBit k; rw [BitVec.getLsbD_ofNat]; simp; omega)
  obtain ⟨g1, g2, g3⟩ := sB_ok 8 n (Nat.le_refl _) (by omega)
  have hA : mA n ≤ n := mA_self n
  have hN : mN n < 2 ^ 64 := by omega
  have hC : mC (mN n) < 2 ^ 64 := Nat.lt_of_le_of_lt Nat.and_le_right (by decide)
  have e1 : lN n - (jush (lN n) 1 &&& 6148914691236517205) = lN (mA n) := by
    rw [show jush (lN n) 1 = lN (n / 2) from js hn (k := 1) (by decide)]
    rw [show (6148914691236517205 : Int64) = lN 6148914691236517205 from by decide, wb_and (by omega) (by decide), lN_sub (mA_le n)]
    rfl
  have e2 : (lN (mA n) &&& 3689348814741910323) + (jush (lN (mA n)) 2 &&& 3689348814741910323) = lN (mN n) := by
    rw [show jush (lN (mA n)) 2 = lN (mA n / 4) from js (by omega) (k := 2) (by decide)]
    rw [show (3689348814741910323 : Int64) = lN 3689348814741910323 from by decide, wb_and (by omega) (by decide), wb_and (by omega) (by decide), lN_add]
    rfl
  have e3 : ((lN (mN n) + jush (lN (mN n)) 4) &&& 1085102592571150095) = lN (mC (mN n)) := by
    rw [show jush (lN (mN n)) 4 = lN (mN n / 16) from js hN (k := 4) (by decide), lN_add]
    rw [show (1085102592571150095 : Int64) = lN 1085102592571150095 from by decide, wb_and (by omega) (by decide)]
    rfl
  unfold p_J13_bitCount_95d88_0
  rw [e1, e2, e3]
  obtain ⟨a3, ea3⟩ : ∃ z, z = mC (mN n) := ⟨_, rfl⟩
  rw [← ea3] at hC ⊢
  have hs : a3 = sB 8 n := by rw [ea3]; exact g3
  have hc := fun k => cn_le (fun i => (k % 256).testBit i) 8
  have hb3 : 255 * a3 + 8 ≤ 8 * 18446744073709551616 := by
    rw [hs]
    exact sB_le 8 n
  rw [show jush (lN a3) 8 = lN (a3 / 256) from js hC (k := 8) (by decide), lN_add]
  rw [show jush (lN (a3 + a3 / 256)) 16 = lN ((a3 + a3 / 256) / 65536) from js (by omega) (k := 16) (by decide), lN_add]
  rw [show jush (lN (a3 + a3 / 256 + (a3 + a3 / 256) / 65536)) 32 = lN ((a3 + a3 / 256 + (a3 + a3 / 256) / 65536) / 4294967296) from js (by omega) (k := 32) (by decide), lN_add, lN_i, lN_7, hlb]
  congr 2
  rw [hs]
  exact (fin_sum (hc n) (hc (n / 256)) (hc (n / 256 / 256)) (hc (n / 256 / 256 / 256)) (hc (n / 256 / 256 / 256 / 256)) (hc (n / 256 / 256 / 256 / 256 / 256)) (hc (n / 256 / 256 / 256 / 256 / 256 / 256)) (hc (n / 256 / 256 / 256 / 256 / 256 / 256 / 256)) (x0 := sB 8 n) (x1 := sB 7 (n / 256)) (x2 := sB 6 (n / 256 / 256)) (x3 := sB 5 (n / 256 / 256 / 256)) (x4 := sB 4 (n / 256 / 256 / 256 / 256)) (x5 := sB 3 (n / 256 / 256 / 256 / 256 / 256)) (x6 := sB 2 (n / 256 / 256 / 256 / 256 / 256 / 256)) (x7 := sB 1 (n / 256 / 256 / 256 / 256 / 256 / 256 / 256)) (sB_s 7 _) (sB_s 6 _) (sB_s 5 _) (sB_s 4 _) (sB_s 3 _) (sB_s 2 _) (sB_s 1 _) (sB_s 0 _)).trans (by rw [tB_s 7, tB_s 6, tB_s 5, tB_s 4, tB_s 3, tB_s 2, tB_s 1, tB_s 0]; show _ = _ + (_ + (_ + (_ + (_ + (_ + (_ + (_ + 0)))))));  omega)
