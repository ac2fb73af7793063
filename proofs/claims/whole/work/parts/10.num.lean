
/-! ===== numbers: longs read as integers ===== -/
theorem i64_lo (x : Int64) : -9223372036854775808 ≤ x.toInt := Int64.le_toInt x
theorem i64_hi (x : Int64) : x.toInt ≤ 9223372036854775807 := Int64.toInt_le x
theorem i64_ext {x y : Int64} (h : x.toInt = y.toInt) : x = y := Int64.toInt_inj.mp h
theorem bm_spec (n : Int) : ∃ k : Int, n.bmod (2 ^ 64) = n - 18446744073709551616 * k ∧ -9223372036854775808 ≤ n.bmod (2 ^ 64) ∧ n.bmod (2 ^ 64) ≤ 9223372036854775807 := by
  have h1 := Int.emod_add_mul_ediv n 18446744073709551616
  have h2 := Int.emod_nonneg n (b := 18446744073709551616) (by decide)
  have h3 := Int.emod_lt_of_pos n (b := 18446744073709551616) (by decide)
  rw [Int.bmod_def]
  have e : ((2 ^ 64 : Nat) : Int) = 18446744073709551616 := by decide
  rw [e]
  split
  · exact ⟨n / 18446744073709551616, by omega, by omega, by omega⟩
  · exact ⟨n / 18446744073709551616 + 1, by omega, by omega, by omega⟩
theorem bm_id {n : Int} (h1 : -9223372036854775808 ≤ n) (h2 : n ≤ 9223372036854775807) : n.bmod (2 ^ 64) = n := by
  obtain ⟨k, a, b, c⟩ := bm_spec n
  omega
theorem i64_of {n : Int} (h1 : -9223372036854775808 ≤ n) (h2 : n ≤ 9223372036854775807) : (Int64.ofInt n).toInt = n := by
  rw [Int64.toInt_ofInt]; exact bm_id h1 h2
theorem i64_add (a b : Int64) : ∃ k : Int, (a + b).toInt = a.toInt + b.toInt - 18446744073709551616 * k := by
  rw [Int64.toInt_add]; obtain ⟨k, h, _⟩ := bm_spec (a.toInt + b.toInt); exact ⟨k, h⟩
theorem i64_sub (a b : Int64) : ∃ k : Int, (a - b).toInt = a.toInt - b.toInt - 18446744073709551616 * k := by
  rw [Int64.toInt_sub]; obtain ⟨k, h, _⟩ := bm_spec (a.toInt - b.toInt); exact ⟨k, h⟩
theorem i64_mul (a b : Int64) : ∃ k : Int, (a * b).toInt = a.toInt * b.toInt - 18446744073709551616 * k := by
  rw [Int64.toInt_mul]; obtain ⟨k, h, _⟩ := bm_spec (a.toInt * b.toInt); exact ⟨k, h⟩
theorem i64_neg (a : Int64) (h : a.toInt ≠ -9223372036854775808) : (-a).toInt = -a.toInt := by
  have h1 := i64_lo a
  have h2 := i64_hi a
  rw [Int64.toInt_neg]; exact bm_id (by omega) (by omega)
theorem i64_addx {a b : Int64} (h1 : -9223372036854775808 ≤ a.toInt + b.toInt) (h2 : a.toInt + b.toInt ≤ 9223372036854775807) : (a + b).toInt = a.toInt + b.toInt := by
  rw [Int64.toInt_add]; exact bm_id h1 h2
theorem i64_subx {a b : Int64} (h1 : -9223372036854775808 ≤ a.toInt - b.toInt) (h2 : a.toInt - b.toInt ≤ 9223372036854775807) : (a - b).toInt = a.toInt - b.toInt := by
  rw [Int64.toInt_sub]; exact bm_id h1 h2
theorem i64_mulx {a b : Int64} (h1 : -9223372036854775808 ≤ a.toInt * b.toInt) (h2 : a.toInt * b.toInt ≤ 9223372036854775807) : (a * b).toInt = a.toInt * b.toInt := by
  rw [Int64.toInt_mul]; exact bm_id h1 h2
theorem i64_zero {a : Int64} : a = 0 ↔ a.toInt = 0 := ⟨fun h => by rw [h]; rfl, fun h => i64_ext (by rw [h]; rfl)⟩
theorem i64_le {a b : Int64} : a ≤ b ↔ a.toInt ≤ b.toInt := Int64.le_iff_toInt_le
theorem i64_lt {a b : Int64} : a < b ↔ a.toInt < b.toInt := Int64.lt_iff_toInt_lt
theorem i64_0 : (0 : Int64).toInt = 0 := rfl
theorem i64_1 : (1 : Int64).toInt = 1 := rfl
theorem i64_m : (-9223372036854775808 : Int64).toInt = -9223372036854775808 := rfl
theorem i64_eq {a b : Int64} : a = b ↔ a.toInt = b.toInt := ⟨fun h => by rw [h], i64_ext⟩
/-- a quotient of longs, the divisor above 0 -/
theorem i64_div {a b : Int64} (hb : 0 < b.toInt) : (a / b).toInt = a.toInt.tdiv b.toInt := by
  have h1 := i64_lo a
  have h2 := i64_hi a
  have h3 : (a.toInt.tdiv b.toInt).natAbs ≤ a.toInt.natAbs := by
    rw [Int.natAbs_tdiv]; exact Nat.div_le_self _ _
  rw [Int64.toInt_div]
  by_cases e : a.toInt.tdiv b.toInt = 9223372036854775808
  · exfalso
    have : 0 ≤ a.toInt ∨ a.toInt < 0 := by omega
    rcases this with h | h
    · omega
    · have h5 : a.toInt.tdiv b.toInt = -((-a.toInt).tdiv b.toInt) := by rw [Int.neg_tdiv, Int.neg_neg]
      have h6 := Int.tdiv_nonneg (a := -a.toInt) (b := b.toInt) (by omega) (by omega)
      omega
  · exact bm_id (by omega) (by omega)
theorem i64_divn {a b : Int64} (ha : 0 ≤ a.toInt) (hb : 0 < b.toInt) : (a / b).toInt = a.toInt / b.toInt := by
  rw [i64_div hb, Int.tdiv_eq_ediv_of_nonneg ha]
theorem i64_rem {a b : Int64} (ha : 0 ≤ a.toInt) (hb : 0 < b.toInt) : (a - a / b * b).toInt = a.toInt % b.toInt := by
  have hq := i64_divn ha hb
  have h1 := Int.emod_add_mul_ediv a.toInt b.toInt
  have h2 := Int.emod_nonneg a.toInt (b := b.toInt) (by omega)
  have h3 := Int.emod_lt_of_pos a.toInt hb
  have h4 := i64_hi a
  have h0 : 0 ≤ b.toInt * (a.toInt / b.toInt) := Int.mul_nonneg (by omega) (Int.ediv_nonneg ha (by omega))
  have h5 : (a / b * b).toInt = a.toInt / b.toInt * b.toInt := by
    rw [← hq]; rw [i64_mulx]
    · rw [hq, Int.mul_comm]; omega
    · rw [hq, Int.mul_comm]; omega
  rw [i64_subx, h5, Int.mul_comm]
  · omega
  · rw [h5, Int.mul_comm]; omega
  · rw [h5, Int.mul_comm]; omega
/-- the greatest common divisor of two longs -/
def gcL (a b : Int64) : Int64 := Int64.ofInt ((Int.gcd a.toInt b.toInt : Nat) : Int)
/-- a product, or the least long -/
abbrev fitI (n : Int) : Prop := -9223372036854775808 < n ∧ n ≤ 9223372036854775807

theorem gcL_toInt {a b : Int64} (h : a.toInt ≠ -9223372036854775808) (h' : b.toInt ≠ -9223372036854775808) : (gcL a b).toInt = (Int.gcd a.toInt b.toInt : Nat) := by
  have h1 := i64_lo a
  have h2 := i64_hi a
  have h3 := i64_lo b
  have h4 := i64_hi b
  unfold gcL
  have hle : Int.gcd a.toInt b.toInt ≤ 9223372036854775807 := by
    by_cases e : a.toInt = 0
    · rw [e, Int.gcd_zero_left]; omega
    · have := Nat.le_of_dvd (by omega) (Nat.gcd_dvd_left a.toInt.natAbs b.toInt.natAbs)
      exact Nat.le_trans this (by omega)
  exact i64_of (by omega) (by omega)
/-- the product, or the least long where it is no long or the least -/
def prL (a b : Int64) : Int64 := if fitI (a.toInt * b.toInt) then a * b else -9223372036854775808
/-- 64 steps and one: what a quotient of a product by one of its factors tells -/
theorem mul_fits {x y : Int64} (hx : x.toInt ≠ 0) : ((x * y) / x = y ∧ ¬ x * y = -9223372036854775808) ↔ fitI (x.toInt * y.toInt) := by
  have x1 := i64_lo x
  have x2 := i64_hi x
  have y1 := i64_lo y
  have y2 := i64_hi y
  have w1 := i64_lo (x * y)
  have w2 := i64_hi (x * y)
  unfold fitI
  constructor
  · rintro ⟨hd, hm⟩
    have hm' : (x * y).toInt ≠ -9223372036854775808 := fun h => hm (i64_ext (by rw [h, i64_m]))
    obtain ⟨k, hk⟩ := i64_mul x y
    have hd' : ((x * y) / x).toInt = (x * y).toInt.tdiv x.toInt := by
      rw [Int64.toInt_div]
      have h3 : ((x * y).toInt.tdiv x.toInt).natAbs ≤ (x * y).toInt.natAbs := by
        rw [Int.natAbs_tdiv]; exact Nat.div_le_self _ _
      exact bm_id (by omega) (by omega)
    rw [hd] at hd'
    have h4 := Int.tmod_add_mul_tdiv (x * y).toInt x.toInt
    rw [← hd'] at h4
    have h5 : ((x * y).toInt.tmod x.toInt).natAbs < x.toInt.natAbs := by
      rw [Int.natAbs_tmod]; exact Nat.mod_lt _ (by omega)
    have hk0 : k = 0 := by omega
    subst hk0
    omega
  · rintro ⟨h1, h2⟩
    have e := i64_mulx (a := x) (b := y) (by omega) h2
    refine ⟨i64_ext ?_, fun h => ?_⟩
    · rw [Int64.toInt_div, e, Int.mul_tdiv_cancel_left _ hx]
      exact bm_id y1 y2
    · rw [i64_eq, e, i64_m] at h; omega

/-! ints the same way -/
theorem i32_lo (x : Int32) : -2147483648 ≤ x.toInt := Int32.le_toInt x
theorem i32_hi (x : Int32) : x.toInt ≤ 2147483647 := Int32.toInt_le x
theorem i32_ext {x y : Int32} (h : x.toInt = y.toInt) : x = y := Int32.toInt_inj.mp h
theorem bw_spec (n : Int) : ∃ k : Int, n.bmod (2 ^ 32) = n - 4294967296 * k ∧ -2147483648 ≤ n.bmod (2 ^ 32) ∧ n.bmod (2 ^ 32) ≤ 2147483647 := by
  have h1 := Int.emod_add_mul_ediv n 4294967296
  have h2 := Int.emod_nonneg n (b := 4294967296) (by decide)
  have h3 := Int.emod_lt_of_pos n (b := 4294967296) (by decide)
  rw [Int.bmod_def]
  have e : ((2 ^ 32 : Nat) : Int) = 4294967296 := by decide
  rw [e]
  split
  · exact ⟨n / 4294967296, by omega, by omega, by omega⟩
  · exact ⟨n / 4294967296 + 1, by omega, by omega, by omega⟩
theorem bw_id {n : Int} (h1 : -2147483648 ≤ n) (h2 : n ≤ 2147483647) : n.bmod (2 ^ 32) = n := by
  obtain ⟨k, a, b, c⟩ := bw_spec n
  omega
theorem i32_of {n : Int} (h1 : -2147483648 ≤ n) (h2 : n ≤ 2147483647) : (Int32.ofInt n).toInt = n := by
  rw [Int32.toInt_ofInt]; exact bw_id h1 h2
theorem i32_addx {a b : Int32} (h1 : -2147483648 ≤ a.toInt + b.toInt) (h2 : a.toInt + b.toInt ≤ 2147483647) : (a + b).toInt = a.toInt + b.toInt := by
  rw [Int32.toInt_add]; exact bw_id h1 h2
theorem i32_subx {a b : Int32} (h1 : -2147483648 ≤ a.toInt - b.toInt) (h2 : a.toInt - b.toInt ≤ 2147483647) : (a - b).toInt = a.toInt - b.toInt := by
  rw [Int32.toInt_sub]; exact bw_id h1 h2
theorem i32_mulx {a b : Int32} (h1 : -2147483648 ≤ a.toInt * b.toInt) (h2 : a.toInt * b.toInt ≤ 2147483647) : (a * b).toInt = a.toInt * b.toInt := by
  rw [Int32.toInt_mul]; exact bw_id h1 h2
theorem i32_neg (a : Int32) (h : a.toInt ≠ -2147483648) : (-a).toInt = -a.toInt := by
  have h1 := i32_lo a
  have h2 := i32_hi a
  rw [Int32.toInt_neg]; exact bw_id (by omega) (by omega)
theorem i32_zero {a : Int32} : a = 0 ↔ a.toInt = 0 := ⟨fun h => by rw [h]; rfl, fun h => i32_ext (by rw [h]; rfl)⟩
theorem i32_le {a b : Int32} : a ≤ b ↔ a.toInt ≤ b.toInt := Int32.le_iff_toInt_le
theorem i32_lt {a b : Int32} : a < b ↔ a.toInt < b.toInt := Int32.lt_iff_toInt_lt
theorem i32_eq {a b : Int32} : a = b ↔ a.toInt = b.toInt := ⟨fun h => by rw [h], i32_ext⟩
theorem i32_0 : (0 : Int32).toInt = 0 := rfl
theorem i32_1 : (1 : Int32).toInt = 1 := rfl
theorem i32_inc {i : Int32} (h : i.toInt < 2147483647) : (i + 1).toInt = i.toInt + 1 := by
  have := i32_lo i
  rw [i32_addx (by rw [i32_1]; omega) (by rw [i32_1]; omega), i32_1]
theorem gcL_step {x y : Int64} (hx : 0 ≤ x.toInt) (hy : 0 < y.toInt) : gcL x y = gcL y (x - x / y * y) := by
  unfold gcL
  rw [i64_rem hx hy]
  obtain ⟨a, ha⟩ := Int.eq_ofNat_of_zero_le hx
  obtain ⟨b, hb⟩ := Int.eq_ofNat_of_zero_le (Int.le_of_lt hy)
  rw [ha, hb]
  congr 2
  show Nat.gcd a b = Nat.gcd b (a % b)
  rw [Nat.gcd_comm a b, Nat.gcd_rec b a, Nat.gcd_comm]
theorem gcL_zero {x : Int64} (hx : 0 ≤ x.toInt) : gcL x 0 = x := by
  have h1 := i64_hi x
  refine i64_ext ?_
  unfold gcL
  rw [i64_0, Int.gcd_zero_right]
  rw [i64_of (by omega) (by omega)]
  omega
theorem gcL_neg_left {x y : Int64} (h : x.toInt ≠ -9223372036854775808) : gcL (-x) y = gcL x y := by
  unfold gcL; rw [i64_neg x h, Int.neg_gcd]
theorem gcL_neg_right {x y : Int64} (h : y.toInt ≠ -9223372036854775808) : gcL x (-y) = gcL x y := by
  unfold gcL; rw [i64_neg y h, Int.gcd_neg]
theorem i64_msb (x : Int64) : x.toBitVec.msb = decide (x.toInt < 0) := BitVec.msb_eq_toInt
theorem i64_xor0 (x y : Int64) : (0 : Int64) ≤ x ^^^ y ↔ ((x.toInt < 0) ↔ (y.toInt < 0)) := by
  have h : (x ^^^ y).toBitVec.msb = (x.toBitVec.msb ^^ y.toBitVec.msb) := by rw [Int64.toBitVec_xor, BitVec.msb_xor]
  rw [i64_msb, i64_msb, i64_msb] at h
  rw [i64_le, i64_0]
  by_cases a : x.toInt < 0 <;> by_cases b : y.toInt < 0 <;> simp [a, b] at h ⊢ <;> omega
theorem i64_and0 (x y : Int64) : (0 : Int64) ≤ x &&& y ↔ ¬ (x.toInt < 0 ∧ y.toInt < 0) := by
  have h : (x &&& y).toBitVec.msb = (x.toBitVec.msb && y.toBitVec.msb) := by rw [Int64.toBitVec_and, BitVec.msb_and]
  rw [i64_msb, i64_msb, i64_msb] at h
  rw [i64_le, i64_0]
  by_cases a : x.toInt < 0 <;> by_cases b : y.toInt < 0 <;> simp [a, b] at h ⊢ <;> omega
/-- a sum, or the least long -/
def toL (a b : Int64) : Int64 := if fitI (a.toInt + b.toInt) then a + b else -9223372036854775808
theorem prL_min {a b : Int64} : prL a b = -9223372036854775808 ↔ ¬ fitI (a.toInt * b.toInt) := by
  unfold prL
  split
  · rename_i h
    refine ⟨fun e => ?_, fun e => absurd h e⟩
    rw [i64_eq, i64_mulx (by omega) h.2, i64_m] at e
    omega
  · rename_i h
    exact ⟨fun _ => h, fun _ => rfl⟩
theorem toL_min {a b : Int64} : toL a b = -9223372036854775808 ↔ ¬ fitI (a.toInt + b.toInt) := by
  unfold toL
  split
  · rename_i h
    refine ⟨fun e => ?_, fun e => absurd h e⟩
    rw [i64_eq, i64_addx (by omega) h.2, i64_m] at e
    omega
  · rename_i h
    exact ⟨fun _ => h, fun _ => rfl⟩
theorem prL_fit {a b : Int64} (h : fitI (a.toInt * b.toInt)) : (prL a b).toInt = a.toInt * b.toInt := by
  rw [prL, if_pos h]; exact i64_mulx (by omega) h.2
theorem toL_fit {a b : Int64} (h : fitI (a.toInt + b.toInt)) : (toL a b).toInt = a.toInt + b.toInt := by
  rw [toL, if_pos h]; exact i64_addx (by omega) h.2
/-- the sign of a sum's overflow -/
theorem sum_over {x y : Int64} : (0 : Int64) ≤ ((x ^^^ (x + y)) &&& (y ^^^ (x + y))) ↔ (x + y).toInt = x.toInt + y.toInt := by
  have x1 := i64_lo x
  have x2 := i64_hi x
  have y1 := i64_lo y
  have y2 := i64_hi y
  have s1 := i64_lo (x + y)
  have s2 := i64_hi (x + y)
  obtain ⟨k, hk⟩ := i64_add x y
  have e : ∀ u v : Int64, (u ^^^ v).toInt < 0 ↔ ¬ ((u.toInt < 0) ↔ (v.toInt < 0)) := fun u v => by
    rw [← i64_xor0 u v, i64_le, i64_0]; omega
  rw [i64_and0, e, e]
  generalize (x + y).toInt = s at *
  omega
