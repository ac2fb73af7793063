
/-! ===== numbers c * 2^q as doubles ===== -/
def mkD (c : Nat) (q : Int) : UInt64 := FP.Core.of64 (FP.Core.roundRatio FP.Core.b64 false c 1 q)
def exD (c : Nat) (q : Int) : Prop := c < 9007199254740992 ∧ -1074 ≤ q ∧ q ≤ 971
/-- the same value -/
def VE (c : Nat) (q : Int) (c' : Nat) (q' : Int) : Prop := ∃ n m : Nat, c * 2 ^ n = c' * 2 ^ m ∧ (n : Int) - m = q - q'
theorem two_pos (n : Nat) : 0 < 2 ^ n := Nat.two_pow_pos n
theorem red2 {X Y n m : Nat} {z : Int} (h : X * 2 ^ n = Y * 2 ^ m) (hz : (n : Int) - m = z) : X * 2 ^ z.toNat = Y * 2 ^ (-z).toNat := by
  rcases Nat.le_total m n with k | k
  · have e : n = (n - m) + m := by omega
    rw [e, Nat.pow_add, ← Nat.mul_assoc] at h
    have h' := Nat.eq_of_mul_eq_mul_right (two_pos m) h
    rw [show z.toNat = n - m by omega, show (-z).toNat = 0 by omega, h']; simp
  · have e : m = (m - n) + n := by omega
    rw [e, Nat.pow_add, ← Nat.mul_assoc] at h
    have h' := Nat.eq_of_mul_eq_mul_right (two_pos n) h
    rw [show z.toNat = 0 by omega, show (-z).toNat = m - n by omega, ← h']; simp
theorem VE.red {c : Nat} {q : Int} {c' : Nat} {q' : Int} (h : VE c q c' q') : c * 2 ^ (q - q').toNat = c' * 2 ^ (q' - q).toNat := by
  obtain ⟨n, m, h, hz⟩ := h
  have := red2 h hz
  rw [this]; congr 2; omega
theorem VE.rf {c : Nat} {q : Int} : VE c q c q := ⟨0, 0, rfl, by omega⟩
theorem VE.sy {c : Nat} {q : Int} {c' : Nat} {q' : Int} (h : VE c q c' q') : VE c' q' c q := by
  obtain ⟨n, m, h, hz⟩ := h
  exact ⟨m, n, h.symm, by omega⟩
theorem VE.of {c : Nat} {q : Int} {c' : Nat} {q' : Int} (h : c * 2 ^ (q - q').toNat = c' * 2 ^ (q' - q).toNat) : VE c q c' q' := ⟨_, _, h, by omega⟩
theorem VE.shift {c : Nat} {q : Int} (k : Nat) : VE c q (c * 2 ^ k) (q - k) := ⟨k, 0, by simp, by omega⟩
theorem VE.mul {c d c' d' : Nat} {q r q' r' : Int} (h : VE c q c' q') (k : VE d r d' r') : VE (c * d) (q + r) (c' * d') (q' + r') := by
  obtain ⟨n, m, h, hz⟩ := h
  obtain ⟨n', m', k, kz⟩ := k
  refine ⟨n + n', m + m', ?_, by omega⟩
  rw [Nat.pow_add, Nat.pow_add]
  calc c * d * (2 ^ n * 2 ^ n') = (c * 2 ^ n) * (d * 2 ^ n') := by ac_rfl
    _ = (c' * 2 ^ m) * (d' * 2 ^ m') := by rw [h, k]
    _ = _ := by ac_rfl
theorem mkD_congr {c : Nat} {q : Int} {c' : Nat} {q' : Int} (h : VE c q c' q') : mkD c q = mkD c' q' := by
  unfold mkD
  rw [FP.Core.roundRatio_congr (A' := c') (B' := 1) (e' := q') (by decide) (by decide) (by rw [Nat.mul_one, Nat.mul_one]; exact h.red)]
theorem val_mkD (c : Nat) (q : Int) : FP.Core.val64 (mkD c q) = FP.Core.roundRatio FP.Core.b64 false c 1 q := FP.Core.val64_of64 (FP.Core.roundRatio_fits FP.Core.good_b64 false c (by decide) q)
theorem qmin64 : FP.Core.b64.qmin = -1074 := by decide
theorem qmax64 : FP.Core.b64.qmax = 971 := by decide
theorem ex_val {c : Nat} {q : Int} (h : exD c q) : ∃ c' q', FP.Core.val64 (mkD c q) = .fin false c' q' ∧ FP.Core.fits FP.Core.b64 (.fin false c' q') ∧ VE c q c' q' ∧ FP.Core.inUnits c' q' (-1074) = FP.Core.inUnits c q (-1074) ∧ -1074 ≤ q' := by
  obtain ⟨h1, h2, h3⟩ := h
  obtain ⟨c', q', e1, e2⟩ := FP.Core.round_exact FP.Core.good_b64 false (c := c) (q := q) (by show c < 2 ^ 53; omega) (by rw [qmin64]; exact h2) (by rw [qmax64]; exact h3)
  have e1' : FP.Core.roundRatio FP.Core.b64 false c 1 q = .fin false c' q' := e1
  have hf : FP.Core.fits FP.Core.b64 (.fin false c' q') := by
    rw [← e1']; exact FP.Core.roundRatio_fits FP.Core.good_b64 false c (by decide) q
  have hq : FP.Core.b64.qmin ≤ q' := hf.2.1
  rw [qmin64] at hq e2
  refine ⟨c', q', by rw [val_mkD, e1'], hf, ⟨(q - -1074).toNat, (q' - -1074).toNat, e2.symm, by omega⟩, e2, hq⟩
theorem mkD_fin {c : Nat} {q : Int} (h : exD c q) : FP.Core.DFin (mkD c q) := by
  obtain ⟨c', q', e, -⟩ := ex_val h
  exact ⟨_, _, _, e⟩
theorem mkD_nn {c : Nat} {q : Int} (h : exD c q) : FP.Core.val64 (mkD c q) ≠ .nan := (mkD_fin h).ne_nan
/-- a double of a number of the format, written its way -/
theorem mkD_of {x : UInt64} {c : Nat} {q : Int} (h : FP.Core.val64 x = .fin false c q) : x = mkD c q := by
  have hf := FP.Core.val64_fits x
  rw [h] at hf
  have e := FP.Core.round_of_fits FP.Core.good_b64 hf
  have e' : FP.Core.roundRatio FP.Core.b64 false c 1 q = .fin false c q := e
  unfold mkD
  rw [e', ← h, FP.Core.of64_val64 (by rw [h]; intro k; cases k)]
theorem mkD_val {c : Nat} {q : Int} (h : FP.Core.fits FP.Core.b64 (.fin false c q)) : FP.Core.val64 (mkD c q) = .fin false c q := by
  rw [val_mkD]; exact FP.Core.round_of_fits FP.Core.good_b64 h
theorem dmul_mkD {c d : Nat} {q r : Int} (hc : exD c q) (hd : exD d r) : FP.dmul (mkD c q) (mkD d r) = mkD (c * d) (q + r) := by
  obtain ⟨c1, q1, e1, -, v1, -⟩ := ex_val hc
  obtain ⟨d1, r1, e2, -, v2, -⟩ := ex_val hd
  have h : FP.dmul (mkD c q) (mkD d r) = mkD (c1 * d1) (q1 + r1) := by
    show FP.Core.of64 (FP.Core.round FP.Core.b64 (FP.Core.exactProduct (FP.Core.val64 (mkD c q)) (FP.Core.val64 (mkD d r)))) = _
    rw [e1, e2]; rfl
  rw [h]
  exact mkD_congr (v1.mul v2).sy
theorem ddiv_mkD {c : Nat} {q k : Int} (hc : exD c q) (hd : exD 1 k) : FP.ddiv (mkD c q) (mkD 1 k) = mkD c (q - k) := by
  obtain ⟨c1, q1, e1, -, v1, -⟩ := ex_val hc
  obtain ⟨d1, r1, e2, -, v2, -⟩ := ex_val hd
  have hd1 : d1 ≠ 0 := by
    rintro rfl
    obtain ⟨n, m, h, -⟩ := v2
    have := two_pos n
    rw [Nat.zero_mul, Nat.one_mul] at h; omega
  have h : FP.ddiv (mkD c q) (mkD 1 k) = FP.Core.of64 (FP.Core.roundRatio FP.Core.b64 false c1 d1 (q1 - r1)) := by
    show FP.Core.of64 (FP.Core.quotient FP.Core.b64 (FP.Core.val64 (mkD c q)) (FP.Core.val64 (mkD 1 k))) = _
    rw [e1, e2]
    show FP.Core.of64 (if d1 = 0 then _ else _) = _
    rw [if_neg hd1]; rfl
  rw [h]
  unfold mkD
  refine congrArg FP.Core.of64 (FP.Core.roundRatio_congr (by omega) (by decide) ?_)
  obtain ⟨n, m, w, wz⟩ := v1
  obtain ⟨n', m', w', wz'⟩ := v2
  have key : c1 * 2 ^ (m + n') = c * d1 * 2 ^ (n + m') := by
    rw [Nat.pow_add, Nat.pow_add]
    calc c1 * (2 ^ m * 2 ^ n') = (c1 * 2 ^ m) * (1 * 2 ^ n') := by rw [Nat.one_mul]; ac_rfl
      _ = (c * 2 ^ n) * (d1 * 2 ^ m') := by rw [w, w']
      _ = _ := by ac_rfl
  have := red2 key (z := q1 - r1 - (q - k)) (by omega)
  rw [Nat.mul_one, this]; congr 2; omega
theorem zval_mkD {c : Nat} {q : Int} (h : exD c q) : FP.Core.zval FP.Core.b64 (FP.Core.val64 (mkD c q)) = ((c * 2 ^ (q + 1074).toNat : Nat) : Int) := by
  obtain ⟨c1, q1, e1, -, -, u, -⟩ := ex_val h
  rw [e1]
  show FP.Core.signed false (FP.Core.inUnits c1 q1 FP.Core.b64.qmin) = _
  rw [qmin64, u]
  unfold FP.Core.inUnits
  rw [show q - -1074 = q + 1074 by omega]
  rfl
theorem dcmp_mkD {c d : Nat} {q r : Int} (hc : exD c q) (hd : exD d r) : FP.dcmp (mkD c q) (mkD d r) = some (compare ((c * 2 ^ (q + 1074).toNat : Nat) : Int) ((d * 2 ^ (r + 1074).toNat : Nat) : Int)) := by
  show FP.Core.dcmp _ _ = _
  rw [FP.Core.dcmp_zval (mkD_nn hc) (mkD_nn hd), zval_mkD hc, zval_mkD hd]
theorem ali64 {r x : UInt64} (h : alike64 r x = true) (hx : FP.Core.val64 x ≠ .nan) : r = x := by
  unfold alike64 at h
  rw [Bool.or_eq_true, decide_eq_true_iff, Bool.and_eq_true] at h
  rcases h with h | ⟨-, h⟩
  · exact h
  · exfalso
    refine hx ((FP.Core.dIsNaN_iff x).mp ((FP.Core.isNaN_bits x).mpr ?_))
    rw [← FP.Core.mask_toNat]
    have h' : (9218868437227405312 : UInt64) < (x &&& 9223372036854775807) := of_decide_eq_true h
    exact UInt64.lt_iff_toNat_lt.mp h'
theorem ali64n {r x : UInt64} (h : alike64 r x = true) (hx : FP.Core.val64 x = .nan) : FP.Core.val64 r = .nan := by
  unfold alike64 at h
  rw [Bool.or_eq_true, decide_eq_true_iff, Bool.and_eq_true] at h
  rcases h with h | ⟨h, -⟩
  · rw [h]; exact hx
  · refine (FP.Core.dIsNaN_iff r).mp ((FP.Core.isNaN_bits r).mpr ?_)
    rw [← FP.Core.mask_toNat]
    have h' : (9218868437227405312 : UInt64) < (r &&& 9223372036854775807) := of_decide_eq_true h
    exact UInt64.lt_iff_toNat_lt.mp h'
theorem ali32 {r x : UInt32} (h : alike32 r x = true) (hx : FP.Core.val32 x ≠ .nan) : r = x := by
  unfold alike32 at h
  rw [Bool.or_eq_true, decide_eq_true_iff, Bool.and_eq_true] at h
  rcases h with h | ⟨-, h⟩
  · exact h
  · exfalso
    refine hx ((FP.Core.fIsNaN_iff x).mp ((FP.Core.isNaN_bits32 x).mpr ?_))
    rw [← FP.Core.mask_toNat32]
    have h' : (2139095040 : UInt32) < (x &&& 2147483647) := of_decide_eq_true h
    exact UInt32.lt_iff_toNat_lt.mp h'
theorem ali32n {r x : UInt32} (h : alike32 r x = true) (hx : FP.Core.val32 x = .nan) : FP.Core.val32 r = .nan := by
  unfold alike32 at h
  rw [Bool.or_eq_true, decide_eq_true_iff, Bool.and_eq_true] at h
  rcases h with h | ⟨h, -⟩
  · rw [h]; exact hx
  · refine (FP.Core.fIsNaN_iff r).mp ((FP.Core.isNaN_bits32 r).mpr ?_)
    rw [← FP.Core.mask_toNat32]
    have h' : (2139095040 : UInt32) < (r &&& 2147483647) := of_decide_eq_true h
    exact UInt32.lt_iff_toNat_lt.mp h'
/-- one taken away, one put to -/
theorem v1_64 : FP.Core.val64 FP.dconst1 = .fin false 4503599627370496 (-52) := by decide +kernel
theorem dsub_one {c : Nat} (h1 : 4503599627370496 ≤ c) (h2 : c < 9007199254740992) : FP.dsub (mkD c (-52)) FP.dconst1 = mkD (c - 4503599627370496) (-52) := by
  have hv : FP.Core.val64 (mkD c (-52)) = .fin false c (-52) := mkD_val ⟨by show c < 2 ^ 53; omega, by rw [qmin64]; decide, by rw [qmax64]; decide, Or.inr (by show 2 ^ 52 ≤ c; omega)⟩
  show FP.Core.of64 (FP.Core.round FP.Core.b64 (FP.Core.exactSum (FP.Core.val64 (mkD c (-52))) (FP.Core.negate (FP.Core.val64 FP.dconst1)))) = _
  rw [hv, v1_64]
  have hu : FP.Core.sumUnits false c (-52) true 4503599627370496 (-52) (min (-52) (-52)) = (c : Int) - 4503599627370496 := by
    show (if false = true then _ else ((c * 1 : Nat) : Int)) + (if true = true then -((4503599627370496 * 1 : Nat) : Int) else _) = _
    rw [if_neg (by decide), if_pos rfl]; omega
  show FP.Core.of64 (FP.Core.round FP.Core.b64 (.fin (FP.Core.sumSign false true (FP.Core.sumUnits false c (-52) true 4503599627370496 (-52) (min (-52) (-52)))) (FP.Core.sumUnits false c (-52) true 4503599627370496 (-52) (min (-52) (-52))).natAbs (min (-52) (-52)))) = _
  rw [hu]
  have hs : FP.Core.sumSign false true ((c : Int) - 4503599627370496) = false := by
    unfold FP.Core.sumSign
    split
    · rfl
    · exact decide_eq_false (by omega)
  rw [hs, show ((c : Int) - 4503599627370496).natAbs = c - 4503599627370496 by omega]
  rfl
theorem dadd_one {t : Nat} (h : t < 4503599627370496) : FP.dadd FP.dconst1 (mkD t (-52)) = mkD (4503599627370496 + t) (-52) := by
  have hex : exD t (-52) := ⟨by omega, by decide, by decide⟩
  obtain ⟨c1, q1, e1, -, v, -, hq⟩ := ex_val hex
  show FP.Core.of64 (FP.Core.round FP.Core.b64 (FP.Core.exactSum (FP.Core.val64 FP.dconst1) (FP.Core.val64 (mkD t (-52))))) = _
  rw [e1, v1_64]
  obtain ⟨e, he⟩ : ∃ e : Int, e = min (-52) q1 := ⟨_, rfl⟩
  have red := v.red
  have ht : c1 * 2 ^ (q1 - e).toNat = t * 2 ^ (-52 - e).toNat := by
    rcases Int.le_total q1 (-52) with k | k
    · rw [show e = q1 by omega]
      rw [show (q1 - -52).toNat = 0 by omega] at red
      rw [show (q1 - q1).toNat = 0 by omega, red]
    · rw [show e = -52 by omega]
      rw [show (-52 - q1).toNat = 0 by omega] at red
      rw [← red]
      simp
  have hu : FP.Core.sumUnits false 4503599627370496 (-52) false c1 q1 e = (((4503599627370496 + t) * 2 ^ (-52 - e).toNat : Nat) : Int) := by
    show (if false = true then _ else ((4503599627370496 * 2 ^ (-52 - e).toNat : Nat) : Int)) + (if false = true then _ else ((c1 * 2 ^ (q1 - e).toNat : Nat) : Int)) = _
    rw [if_neg (by decide), if_neg (by decide), ht, Nat.add_mul]; rfl
  show FP.Core.of64 (FP.Core.round FP.Core.b64 (.fin (FP.Core.sumSign false false (FP.Core.sumUnits false 4503599627370496 (-52) false c1 q1 (min (-52) q1))) (FP.Core.sumUnits false 4503599627370496 (-52) false c1 q1 (min (-52) q1)).natAbs (min (-52) q1))) = _
  rw [← he, hu]
  have hs : FP.Core.sumSign false false ((((4503599627370496 + t) * 2 ^ (-52 - e).toNat : Nat) : Int)) = false := by
    unfold FP.Core.sumSign
    split
    · rfl
    · exact decide_eq_false (by omega)
  rw [hs, Int.natAbs_natCast]
  refine mkD_congr ⟨0, (-52 - e).toNat, by simp, by omega⟩
/-- whole ones as longs -/
theorem l2d_mkD {n : Nat} {x : Int64} (h : x.toInt = n) : FP.l2d x = mkD n 0 := by
  show FP.Core.of64 (FP.Core.round FP.Core.b64 (FP.Core.ofInt x.toInt)) = _
  rw [h]
  unfold FP.Core.ofInt
  rw [decide_eq_false (by omega), Int.natAbs_natCast]
  rfl
theorem d2l_mkD {n : Nat} (h : n < 9007199254740992) : FP.d2l (mkD n 0) = Int64.ofNat n := by
  have e : (Int64.ofNat n).toInt = n := by
    show (Int64.ofInt (n : Int)).toInt = n
    exact i64_of (by omega) (by omega)
  rw [← l2d_mkD e]
  exact FP.Core.d2l_l2d (by rw [e]; omega)
