
/-! ===== fractions: the class's own arithmetic ===== -/
theorem cd_loop {d : Nat} {q : HP → Int64 → Prop} {H : HP} : ∀ (k : Nat) (x y : Int64) (i : Int32), 0 ≤ x.toInt → 0 ≤ y.toInt → y.toInt < 2 ^ k → 0 ≤ i.toInt → i.toInt + 2 * k + 1 ≤ 200 → (x.toInt ≠ 0 ∨ y.toInt ≠ 0) → q H (gcL x y) → L_X3_commonDivisor_31 d q x y i H := by
  have h200 : (200 : Int32).toInt = 200 := rfl
  have base : ∀ (x : Int64) (i : Int32), 0 < x.toInt → 0 ≤ i.toInt → q H (gcL x 0) → L_X3_commonDivisor_31 d q x 0 i H := by
    intro x i hx hi hq
    have h1 : (1 : Int64) ≤ x := by rw [i64_le, i64_1]; omega
    rw [gcL_zero (by omega)] at hq
    refine T_X3_commonDivisor_31 ?_
    unfold wb_X3_commonDivisor_31
    exact ⟨fun _ => ⟨fun _ => hq, fun h => absurd h1 h⟩, fun _ => ⟨fun _ => ⟨fun _ => hq, fun h => absurd h1 h⟩, fun h => absurd rfl h⟩⟩
  have one : ∀ (x y : Int64) (i : Int32), 0 ≤ x.toInt → 0 < y.toInt → 0 ≤ i.toInt → i.toInt < 200 → L_X3_commonDivisor_31 d q y (x - x / y * y) (i + 1) H → L_X3_commonDivisor_31 d q x y i H := by
    intro x y i hx hy hi hi2 hl
    have hy0 : ¬ y = 0 := fun h => by rw [i64_zero] at h; omega
    refine T_X3_commonDivisor_31 ?_
    unfold wb_X3_commonDivisor_31
    exact ⟨fun h => by rw [i32_le, h200] at h; omega, fun _ => ⟨fun h => absurd h hy0, fun _ => ⟨hy0, hl⟩⟩⟩
  intro k
  induction k with
  | zero =>
    intro x y i hx hy hk hi hik hne hq
    have hy0 : y = 0 := by rw [i64_zero]; simp at hk; omega
    subst hy0
    exact base x i (by rw [i64_0] at hne; omega) hi hq
  | succ k ih =>
    intro x y i hx hy hk hi hik hne hq
    by_cases hy0 : y = 0
    · subst hy0
      exact base x i (by rw [i64_0] at hne; omega) hi hq
    have hyp : 0 < y.toInt := by rw [i64_zero] at hy0; omega
    have hr := i64_rem hx hyp
    have r1 := Int.emod_nonneg x.toInt (b := y.toInt) (by omega)
    have r2 := Int.emod_lt_of_pos x.toInt hyp
    have i1 := i32_inc (i := i) (by omega)
    refine one x y i hx hyp hi (by omega) ?_
    rw [gcL_step hx hyp] at hq
    generalize x - x / y * y = r at hr hq ⊢
    by_cases hr0 : r = 0
    · subst hr0
      exact base y (i + 1) hyp (by omega) hq
    have hrp : 0 < r.toInt := by rw [i64_zero] at hr0; omega
    have hr' := i64_rem (a := y) hy hrp
    have i2 := i32_inc (i := i + 1) (by omega)
    have m1 := Int.emod_nonneg y.toInt (b := r.toInt) (by omega)
    have m2 := Int.emod_lt_of_pos y.toInt hrp
    have m3 := Int.emod_add_mul_ediv y.toInt r.toInt
    have m4 : r.toInt ≤ r.toInt * (y.toInt / r.toInt) := by
      have : 1 ≤ y.toInt / r.toInt := (Int.le_ediv_iff_mul_le hrp).mpr (by omega)
      have := Int.mul_le_mul_of_nonneg_left this (Int.le_of_lt hrp)
      omega
    refine one y r (i + 1) hy hrp (by omega) (by omega) ?_
    rw [gcL_step hy hrp] at hq
    rw [Int.pow_succ] at hk
    exact ih r _ _ (by omega) (by omega) (by omega) (by omega) (by omega) (Or.inl (by omega)) hq
/-- commonDivisor -/
theorem K_cd {d : Nat} {q : HP → Int64 → Prop} {H : HP} {x y : Int64} (hx : x.toInt ≠ -9223372036854775808) (hy : y.toInt ≠ -9223372036854775808) (hne : x.toInt ≠ 0 ∨ y.toInt ≠ 0) (hq : q H (gcL x y)) : CJ (d + 1) 0 0 mX3_commonDivisor [.long x, .long y] H q := by
  have x1 := i64_lo x
  have x2 := i64_hi x
  have y1 := i64_lo y
  have y2 := i64_hi y
  have nx := i64_neg x hx
  have ny := i64_neg y hy
  have key : ∀ u v : Int64, 0 ≤ u.toInt → 0 ≤ v.toInt → (u.toInt ≠ 0 ∨ v.toInt ≠ 0) → gcL u v = gcL x y → L_X3_commonDivisor_31 d q u v (0 : Int32) H := by
    intro u v hu hv hn he
    have v2 := i64_hi v
    exact cd_loop 63 u v 0 hu hv (by have : (2 : Int) ^ 63 = 9223372036854775808 := by decide
                                     omega) (by decide) (by decide) hn (he ▸ hq)
  refine C_X3_commonDivisor ?_
  unfold wb_X3_commonDivisor_0
  simp only [i64_le, i64_0]
  refine ⟨fun a => ⟨fun b => key _ _ a b hne rfl, fun b => key _ _ a (by omega) (by omega) (gcL_neg_right hy)⟩, fun a => ⟨fun b => key _ _ (by omega) b (by omega) (gcL_neg_left hx), fun b => key _ _ (by omega) (by omega) (by omega) ?_⟩⟩
  rw [gcL_neg_right hy, gcL_neg_left hx]
/-- product -/
theorem K_product {d : Nat} {q : HP → Int64 → Prop} {H : HP} {x y : Int64} (hq : q H (prL x y)) : CJ (d + 1) 0 0 mX3_product [.long x, .long y] H q := by
  refine C_X3_product ?_
  unfold wb_X3_product_0
  have z : ∀ u v : Int64, u.toInt * v.toInt = 0 → prL u v = 0 := fun u v h => by
    have hf : fitI (u.toInt * v.toInt) := by rw [h]; exact ⟨by decide, by decide⟩
    rw [prL, if_pos hf]
    exact i64_ext (by rw [i64_mulx (by omega) (by omega), h, i64_0])
  refine ⟨fun h => ?_, fun h => ⟨fun h2 => ⟨h, fun h3 => ?_, fun h3 => ?_⟩, fun h2 => ?_⟩⟩
  · rwa [z x y (by rw [h, i64_0, Int.zero_mul])] at hq
  · have : ¬ fitI (x.toInt * y.toInt) := fun hf => h3 ((mul_fits (fun e => h (i64_zero.mpr e))).mpr hf).1
    rwa [prL, if_neg this] at hq
  · by_cases hf : fitI (x.toInt * y.toInt)
    · rwa [prL, if_pos hf] at hq
    · rw [prL, if_neg hf] at hq
      have : x * y = -9223372036854775808 := by
        refine Classical.byContradiction fun e => hf ((mul_fits (fun e => h (i64_zero.mpr e))).mp ⟨h3, e⟩)
      rwa [this]
  · rwa [z x y (by rw [h2, i64_0, Int.mul_zero])] at hq
/-- total -/
theorem K_total {d : Nat} {q : HP → Int64 → Prop} {H : HP} {x y : Int64} (hq : q H (if x = -9223372036854775808 ∨ y = -9223372036854775808 then -9223372036854775808 else toL x y)) : CJ (d + 1) 0 0 mX3_total [.long x, .long y] H q := by
  refine C_X3_total ?_
  unfold wb_X3_total_0
  refine ⟨fun h => ?_, fun h => ⟨fun h2 => ?_, fun h2 => ?_⟩⟩
  · rwa [if_pos (Or.inl h)] at hq
  · rw [if_neg (by rintro (h' | h'); exact h h'; exact h2 h')] at hq
    rw [sum_over]
    have a1 := i64_lo (x + y)
    have a2 := i64_hi (x + y)
    refine ⟨fun h3 => ?_, fun h3 => ?_⟩
    · by_cases hf : fitI (x.toInt + y.toInt)
      · rwa [toL, if_pos hf] at hq
      · rw [toL, if_neg hf] at hq
        have : x + y = -9223372036854775808 := i64_ext (by rw [i64_m]; omega)
        rwa [this]
    · have hf : ¬ fitI (x.toInt + y.toInt) := fun hf => h3 (i64_addx (by omega) hf.2)
      rwa [toL, if_neg hf] at hq
  · rwa [if_pos (Or.inr h2)] at hq
/-- floorDiv by what is above 0 -/
theorem K_floorDiv {d : Nat} {q : HP → Int64 → Prop} {H : HP} {x y : Int64} (hy : 0 < y.toInt) (hq : ∀ r : Int64, r.toInt = x.toInt / y.toInt → q H r) : CJ (d + 1) 0 0 mJ9_floorDiv_f86c9 [.long x, .long y] H q := by
  refine C_J9_floorDiv_f86c9 ?_
  unfold wb_J9_floorDiv_f86c9_0
  have x1 := i64_lo x
  have x2 := i64_hi x
  have hd := i64_div (a := x) hy
  have h4 := Int.tmod_add_mul_tdiv x.toInt y.toInt
  have h5 := Int.emod_add_mul_ediv x.toInt y.toInt
  have m1 := Int.emod_nonneg x.toInt (b := y.toInt) (by omega)
  have m2 := Int.emod_lt_of_pos x.toInt hy
  have hnn : 0 ≤ x.toInt → x.toInt.tdiv y.toInt = x.toInt / y.toInt := fun h => Int.tdiv_eq_ediv_of_nonneg h
  have hneg : x.toInt < 0 → x.toInt.tdiv y.toInt = -((-x.toInt) / y.toInt) := fun h => by
    rw [← Int.tdiv_eq_ediv_of_nonneg (a := -x.toInt) (by omega), Int.neg_tdiv, Int.neg_neg]
  have k5 := Int.emod_add_mul_ediv (-x.toInt) y.toInt
  have k1 := Int.emod_nonneg (-x.toInt) (b := y.toInt) (by omega)
  have k2 := Int.emod_lt_of_pos (-x.toInt) hy
  have k3 : x.toInt < 0 → 0 ≤ y.toInt * ((-x.toInt) / y.toInt) := fun h => Int.mul_nonneg (by omega) (Int.ediv_nonneg (by omega) (by omega))
  refine ⟨fun h => by rw [h, i64_0] at hy; omega, fun h => ?_, fun h => ⟨fun h2 => ?_, fun h2 => ?_⟩⟩
  · rw [i64_xor0] at h
    exact hq _ (by rw [hd, hnn (by omega)])
  · rw [i64_xor0] at h
    have hx : x.toInt < 0 := by omega
    have hn := hneg hx
    have k4 := k3 hx
    have e : (x / y * y).toInt = x.toInt := by rw [h2]
    have hm : (x / y).toInt * y.toInt = x.toInt := by
      rw [← e]; symm
      refine i64_mulx ?_ ?_ <;> rw [hd, hn, Int.neg_mul, Int.mul_comm] <;> omega
    refine hq _ ?_
    rw [← hm, Int.mul_ediv_cancel _ (by omega)]
  · rw [i64_xor0] at h
    have hx : x.toInt < 0 := by omega
    have hn := hneg hx
    have k4 := k3 hx
    have hne : ¬ ((x / y).toInt * y.toInt = x.toInt) := fun e => h2 (i64_ext (by
      rw [← e]; refine i64_mulx ?_ ?_ <;> rw [hd, hn, Int.neg_mul, Int.mul_comm] <;> omega))
    rw [hd, hn, Int.neg_mul, Int.mul_comm] at hne
    have hk0 : 0 < (-x.toInt) % y.toInt := by omega
    refine hq _ ?_
    have hb : 0 ≤ (-x.toInt) / y.toInt := Int.ediv_nonneg (by omega) (by omega)
    have hb2 : (-x.toInt) / y.toInt ≤ -x.toInt := Int.ediv_le_self _ (by omega)
    have e1 : (x / y - 1).toInt = -((-x.toInt) / y.toInt) - 1 := by
      have hu : (-x.toInt) / y.toInt < 9223372036854775808 := by
        by_cases hy1 : y.toInt = 1
        · rw [hy1, Int.emod_one] at hk0; omega
        · have h7 : y.toInt * 2 ≥ 4 := by omega
          have := Int.mul_le_mul_of_nonneg_right (show 2 ≤ y.toInt by omega) hb
          omega
      rw [i64_subx] <;> rw [hd, hn, i64_1]
      · omega
      · omega
    rw [e1]
    symm
    have hu := (Int.ediv_emod_unique (a := x.toInt) (b := y.toInt) (r := y.toInt - (-x.toInt) % y.toInt) (q := -((-x.toInt) / y.toInt) - 1) hy).mpr ⟨by rw [Int.mul_sub, Int.mul_neg, Int.mul_one]; omega, by omega, by omega⟩
    exact hu.1
