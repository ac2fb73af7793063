
/-! ===== the class's bits of doubles: magnitude, sign, from bits ===== -/
def infD : UInt64 := 9218868437227405312
/-- the number without sign that bits without sign stand for, as a double -/
def magD (fig bias M : Nat) : UInt64 := if M / 2 ^ fig = 2 * bias + 1 then infD else if M / 2 ^ fig = 0 then mkD (M % 2 ^ fig) (1 - (bias : Int) - fig) else mkD (2 ^ fig + M % 2 ^ fig) (((M / 2 ^ fig : Nat) : Int) - bias - fig)
abbrev FB (fig bias : Nat) : Prop := (fig = 52 ∧ bias = 1023) ∨ (fig = 23 ∧ bias = 127)
theorem mkD_zero (q : Int) : mkD 0 q = 0 := by
  unfold mkD FP.Core.roundRatio
  rw [if_pos rfl]; decide +kernel
theorem magD_dbl {x : UInt64} (h : x.toNat ≤ 9218868437227405312) : magD 52 1023 x.toNat = x := by
  unfold magD
  by_cases hi : x.toNat = 9218868437227405312
  · rw [hi, if_pos (by decide)]
    exact (UInt64.toNat_inj.mp (by rw [hi]; rfl))
  · have hE : FP.Core.fieldE FP.Core.b64 x.toNat = x.toNat / 2 ^ 52 := by
      show x.toNat / 2 ^ 52 % 2048 = _
      omega
    have hT : FP.Core.fieldT FP.Core.b64 x.toNat = x.toNat % 2 ^ 52 := rfl
    have hS : FP.Core.fieldS FP.Core.b64 x.toNat = false := by
      show (x.toNat / 2 ^ 52 / 2048 % 2 == 1) = false
      rw [show x.toNat / 2 ^ 52 / 2048 = 0 by omega]; rfl
    have hv : FP.Core.val64 x = FP.Core.decode FP.Core.b64 x.toNat := rfl
    unfold FP.Core.decode at hv
    rw [hE, hT, hS] at hv
    have ht : FP.Core.b64.exps - 1 = 2047 := by decide
    rw [ht, if_neg (by omega)] at hv
    rw [if_neg (by omega)]
    by_cases h0 : x.toNat / 2 ^ 52 = 0
    · rw [if_pos h0] at hv ⊢
      rw [qmin64] at hv
      exact (mkD_of hv).symm
    · rw [if_neg h0] at hv ⊢
      rw [qmin64, FP.Core.tails_b64] at hv
      refine Eq.trans ?_ (mkD_of hv).symm
      refine congrArg (mkD _) ?_
      have : (x.toNat / 2 ^ 52) = x.toNat / 2 ^ 52 := rfl
      omega
theorem qmin32 : FP.Core.b32.qmin = -149 := by decide
theorem f2d_mkD {f : UInt32} {c : Nat} {q : Int} (h : FP.Core.val32 f = .fin false c q) : FP.f2d f = mkD c q := by
  have hn : FP.fIsNaN f = false := (FP.Core.notNaN_iff32 f).mpr (by rw [h]; intro k; cases k)
  rw [FP.f2d_core hn]
  show FP.Core.of64 (FP.Core.round FP.Core.b64 (FP.Core.val32 f)) = _
  rw [h]; rfl
theorem magD_flt {f : UInt32} (h : f.toNat ≤ 2139095040) : magD 23 127 f.toNat = FP.f2d f := by
  unfold magD
  by_cases hi : f.toNat = 2139095040
  · have : f = 2139095040 := UInt32.toNat_inj.mp (by rw [hi]; rfl)
    rw [this]; decide +kernel
  · have hE : FP.Core.fieldE FP.Core.b32 f.toNat = f.toNat / 2 ^ 23 := by
      show f.toNat / 2 ^ 23 % 256 = _
      omega
    have hT : FP.Core.fieldT FP.Core.b32 f.toNat = f.toNat % 2 ^ 23 := rfl
    have hS : FP.Core.fieldS FP.Core.b32 f.toNat = false := by
      show (f.toNat / 2 ^ 23 / 256 % 2 == 1) = false
      rw [show f.toNat / 2 ^ 23 / 256 = 0 by omega]; rfl
    have hv : FP.Core.val32 f = FP.Core.decode FP.Core.b32 f.toNat := rfl
    unfold FP.Core.decode at hv
    rw [hE, hT, hS] at hv
    have ht : FP.Core.b32.exps - 1 = 255 := by decide
    rw [ht, if_neg (by omega)] at hv
    rw [if_neg (by omega)]
    by_cases h0 : f.toNat / 2 ^ 23 = 0
    · rw [if_pos h0] at hv ⊢
      rw [qmin32] at hv
      exact (f2d_mkD hv).symm
    · rw [if_neg h0] at hv ⊢
      rw [qmin32, FP.Core.tails_b32] at hv
      refine Eq.trans ?_ (f2d_mkD hv).symm
      refine congrArg (mkD _) ?_
      have : (f.toNat / 2 ^ 23) = f.toNat / 2 ^ 23 := rfl
      omega
theorem inf_val : FP.Core.val64 infD = .inf false := by decide +kernel
theorem magD_nn {fig bias M : Nat} (hfb : FB fig bias) (hM : M ≤ (2 * bias + 1) * 2 ^ fig) : FP.Core.val64 (magD fig bias M) ≠ .nan := by
  unfold magD
  split
  · rw [inf_val]; intro k; cases k
  · split
    · refine mkD_nn ?_
      rcases hfb with ⟨rfl, rfl⟩ | ⟨rfl, rfl⟩
      · exact ⟨by omega, by omega, by omega⟩
      · exact ⟨by omega, by omega, by omega⟩
    · refine mkD_nn ?_
      rcases hfb with ⟨rfl, rfl⟩ | ⟨rfl, rfl⟩
      · have : M / 2 ^ 52 ≤ 2047 := by omega
        exact ⟨by omega, by omega, by omega⟩
      · have : M / 2 ^ 23 ≤ 255 := by omega
        exact ⟨by omega, by omega, by omega⟩
theorem i64N_toInt {n : Nat} (h : n < 9223372036854775808) : (Int64.ofNat n).toInt = n := by
  show (Int64.ofInt (n : Int)).toInt = n
  exact i64_of (by omega) (by omega)
theorem shl_or {a t k : Nat} (hk : k < 63) (ha : a * 2 ^ k < 18446744073709551616) (ht : t < 2 ^ k) {s : Int64} (hs : s = Int64.ofNat k) : (Int64.ofNat a <<< s) ||| Int64.ofNat t = Int64.ofNat (a * 2 ^ k + t) := by
  subst hs
  apply Int64.toBitVec_inj.mp
  rw [Int64.toBitVec_or, Int64.toBitVec_shiftLeft]
  have hm : (Int64.ofNat k).toBitVec.smod 64 = BitVec.ofNat 64 k := by
    have : ∀ k : Nat, k < 63 → (Int64.ofNat k).toBitVec.smod 64 = BitVec.ofNat 64 k := by decide +kernel
    exact this k hk
  rw [hm]
  apply BitVec.eq_of_toNat_eq
  have hp := two_pos k
  have h1 : a ≤ a * 2 ^ k := Nat.le_mul_of_pos_right a hp
  have h2 : 2 ^ k ≤ 2 ^ 62 := Nat.pow_le_pow_right (by decide) (by omega)
  rw [BitVec.toNat_or, BitVec.shiftLeft_eq', BitVec.toNat_shiftLeft]
  show ((BitVec.ofNat 64 a).toNat <<< (BitVec.ofNat 64 k).toNat) % 2 ^ 64 ||| (BitVec.ofNat 64 t).toNat = (BitVec.ofNat 64 (a * 2 ^ k + t)).toNat
  rw [BitVec.toNat_ofNat, BitVec.toNat_ofNat, BitVec.toNat_ofNat, BitVec.toNat_ofNat, Nat.mod_eq_of_lt (show a < 2 ^ 64 by omega), Nat.mod_eq_of_lt (show k < 2 ^ 64 by omega), Nat.mod_eq_of_lt (show t < 2 ^ 64 by omega), Nat.shiftLeft_eq, Nat.mod_eq_of_lt (show a * 2 ^ k < 2 ^ 64 by omega)]
  have h3 : a * 2 ^ k + t < 2 ^ 64 := by
    have h4 : 2 ^ 64 = 2 ^ (64 - k) * 2 ^ k := by rw [← Nat.pow_add]; congr 1; omega
    have h5 : a < 2 ^ (64 - k) := by
      refine Nat.lt_of_mul_lt_mul_right (a := 2 ^ k) ?_
      rw [← h4]; omega
    calc a * 2 ^ k + t < a * 2 ^ k + 2 ^ k := by omega
      _ = (a + 1) * 2 ^ k := by rw [Nat.add_mul, Nat.one_mul]
      _ ≤ 2 ^ (64 - k) * 2 ^ k := Nat.mul_le_mul_right _ h5
      _ = 2 ^ 64 := h4.symm
  rw [Nat.mod_eq_of_lt h3, Nat.mul_comm a, ← Nat.two_pow_add_eq_or_of_lt ht]
theorem K_topExponent {d : Nat} {q : HP → Int64 → Prop} {H : HP} {x : Int32} {n : Nat} (hx : x.toInt = n) (hn : n < 2000) (hq : q H (Int64.ofNat (2 * n + 1))) : CJ (d + 1) 0 0 mX2_topExponent [.int x] H q := by
  refine C_X2_topExponent ?_
  unfold wb_X2_topExponent_0
  have e2 : (2 : Int64).toInt = 2 := rfl
  have hx64 : x.toInt64.toInt = n := by rw [i64_of32, hx]
  have e : (2 : Int64) * x.toInt64 + (1 : Int64) = Int64.ofNat (2 * n + 1) := by
    refine i64_ext ?_
    have m : ((2 : Int64) * x.toInt64).toInt = 2 * n := by
      rw [i64_mulx] <;> rw [e2, hx64] <;> omega
    rw [i64_addx, m, i64_1, i64N_toInt (by omega)]
    · omega
    · rw [m, i64_1]; omega
    · rw [m, i64_1]; omega
  rw [e]; exact hq
theorem dc0 : FP.dconst0 = mkD 0 0 := by decide +kernel
theorem dc1 : FP.dconst1 = mkD 1 0 := by decide +kernel
theorem mag_inner {d : Nat} {q : HP → Int64 → Prop} {H : HP} {a0 fig bias M : Nat} {x3 x4 : Int32} {y : UInt64} (s : shBits H a0) (hfb : FB fig bias) (h3 : x3 = Int32.ofNat fig) (h4 : x4 = Int32.ofNat bias) (hM : M ≤ (2 * bias + 1) * 2 ^ fig) (hy : y = magD fig bias M) (hq : q H (Int64.ofNat M)) :
  (¬ (Op.cmpValue (FP.dcmp y FP.dconst0) .l) = 0 → tg H a0 = 3 ∧ ((¬ (Op.cmpValue (FP.dcmp y (hD H 301 a0 0)) .l) = 0 → CI (d + 2) 0 0 mX2_exponentOf [rv (some a0), .double y] H (fun H2 r3 => (((1 : Int32) - x4) ≤ r3 → tg H2 a0 = 3 ∧ (CD (d + 2) 0 0 mX2_scaled [rv (some a0), .double y, .int (-r3)] H2 (fun H4 r6 => ∀ r7, alike64 r7 (FP.dsub r6 FP.dconst1) = true → (∀ r8, alike64 r8 (FP.dmul r7 (FP.l2d ((1 : Int64) <<< (x3.toInt64 &&& 63)))) = true → (q H4 ((((r3 + x4).toInt64) <<< (x3.toInt64 &&& 63)) ||| (FP.d2l r8))))))) ∧ (¬ (((1 : Int32) - x4) ≤ r3) → tg H2 a0 = 3 ∧ (CD (d + 2) 0 0 mX2_scaled [rv (some a0), .double y, .int (x4 - (1 : Int32))] H2 (fun H9 r11 => ∀ r12, alike64 r12 (FP.dmul r11 (FP.l2d ((1 : Int64) <<< (x3.toInt64 &&& 63)))) = true → (q H9 (FP.d2l r12))))))) ∧ ((Op.cmpValue (FP.dcmp y (hD H 301 a0 0)) .l) = 0 → CJ (d + 2) 0 0 mX2_topExponent [.int x4] H (fun H13 r14 => q H13 (r14 <<< (x3.toInt64 &&& 63)))))) ∧ ((Op.cmpValue (FP.dcmp y FP.dconst0) .l) = 0 → q H (0 : Int64)) := by
  have hfig : fig < 63 := by rcases hfb with ⟨rfl, rfl⟩ | ⟨rfl, rfl⟩ <;> decide
  have hbias : bias < 2000 := by rcases hfb with ⟨rfl, rfl⟩ | ⟨rfl, rfl⟩ <;> decide
  have hsh : (x3.toInt64 &&& 63) = Int64.ofNat fig := by rcases hfb with ⟨rfl, rfl⟩ | ⟨rfl, rfl⟩ <;> (rw [h3]; decide)
  have hone : FP.l2d ((1 : Int64) <<< (x3.toInt64 &&& 63)) = mkD 1 (fig : Int) := by rw [hsh]; rcases hfb with ⟨rfl, rfl⟩ | ⟨rfl, rfl⟩ <;> decide +kernel
  have e4 : x4.toInt = bias := by rw [h4, iN_toInt (by omega)]
  have e1b : ((1 : Int32) - x4).toInt = 1 - (bias : Int) := by rw [i32_subx] <;> rw [i32_1, e4] <;> omega
  have eb1 : (x4 - (1 : Int32)).toInt = (bias : Int) - 1 := by rw [i32_subx] <;> rw [i32_1, e4] <;> omega
  obtain ⟨t, ht⟩ : ∃ t, t = M % 2 ^ fig := ⟨_, rfl⟩
  obtain ⟨e, he⟩ : ∃ e, e = M / 2 ^ fig := ⟨_, rfl⟩
  have hMe : M = e * 2 ^ fig + t := by rw [ht, he, Nat.mul_comm]; exact (Nat.div_add_mod M (2 ^ fig)).symm
  have htl : t < 2 ^ fig := by rw [ht]; exact Nat.mod_lt _ (two_pos fig)
  have hel : e ≤ 2 * bias + 1 := by
    rw [he]; exact Nat.le_trans (Nat.div_le_div_right hM) (by rw [Nat.mul_div_cancel _ (two_pos fig)]; exact Nat.le_refl _)
  unfold magD at hy
  rw [← ht, ← he] at hy
  have s5 := s.2.2.2.2
  rw [s5]
  by_cases htop : e = 2 * bias + 1
  · rw [if_pos htop] at hy
    have ht0 : t = 0 := by
      rcases hfb with ⟨rfl, rfl⟩ | ⟨rfl, rfl⟩ <;> omega
    have c1 : ¬ (Op.cmpValue (FP.dcmp y FP.dconst0) .l) = 0 := by rw [hy]; decide +kernel
    have c2 : (Op.cmpValue (FP.dcmp y 9218868437227405312) .l) = 0 := by rw [hy]; decide +kernel
    refine ⟨fun _ => ⟨s.1, fun h => absurd c2 h, fun _ => K_topExponent (n := bias) e4 hbias ?_⟩, fun h => absurd h c1⟩
    have := shl_or (a := 2 * bias + 1) (t := 0) (k := fig) hfig (by rcases hfb with ⟨rfl, rfl⟩ | ⟨rfl, rfl⟩ <;> decide) (two_pos fig) hsh
    have z : ∀ w : Int64, w ||| Int64.ofNat 0 = w := fun w => by
      apply Int64.toBitVec_inj.mp
      rw [Int64.toBitVec_or]
      show w.toBitVec ||| 0#64 = w.toBitVec
      exact BitVec.or_zero
    rw [z] at this
    rw [this, ← htop]
    rw [ht0] at hMe
    rw [← hMe]; exact hq
  · rw [if_neg htop] at hy
    -- a number other than an infinity
    have fin : ∀ c q0, y = mkD c q0 → exD c q0 → 0 < c → (¬ (Op.cmpValue (FP.dcmp y FP.dconst0) .l) = 0) ∧ ¬ (Op.cmpValue (FP.dcmp y 9218868437227405312) .l) = 0 := by
      intro c q0 e1 hx hc0
      constructor
      · rw [e1, dc0, dcmp_mkD hx ⟨by decide, by decide, by decide⟩, cmp_eq, Nat.zero_mul]
        have := Nat.mul_pos hc0 (two_pos (q0 + 1074).toNat)
        omega
      · have h := (FP.Core.fin_lt_inf (mkD_fin hx)).1
        have h' : FP.dcmp y 9218868437227405312 = some .lt := by rw [e1]; exact h
        rw [h']; decide
    by_cases hz : e = 0
    · rw [if_pos hz] at hy
      rw [hz, Nat.zero_mul, Nat.zero_add] at hMe
      have hx : exD t (1 - (bias : Int) - fig) := by rcases hfb with ⟨rfl, rfl⟩ | ⟨rfl, rfl⟩ <;> exact ⟨by omega, by omega, by omega⟩
      by_cases ht0 : t = 0
      · have c1 : (Op.cmpValue (FP.dcmp y FP.dconst0) .l) = 0 := by rw [hy, ht0, mkD_zero]; decide +kernel
        refine ⟨fun h => absurd c1 h, fun _ => ?_⟩
        rw [hMe, ht0] at hq; exact hq
      · obtain ⟨c1, c2⟩ := fin _ _ hy hx (by omega)
        refine ⟨fun _ => ⟨s.1, fun _ => ?_, fun h => absurd h c2⟩, fun h => absurd h c1⟩
        have l1 : 2 ^ t.log2 ≤ t := Nat.log2_self_le ht0
        have l2 : t < 2 ^ (t.log2 + 1) := Nat.lt_log2_self
        have l3 : t.log2 < fig := (Nat.pow_lt_pow_iff_right (by decide : 1 < 2)).mp (Nat.lt_of_le_of_lt l1 htl)
        rw [hy]
        refine K_exponentOf s l1 l2 hx.1 hx.2.1 hx.2.2 fun r hr => ⟨fun h => ?_, fun _ => ⟨s.1, K_scaled s hx.1 ?_ hx.2.1 hx.2.2 ?_ ?_ fun r12 hal => ?_⟩⟩
        · exfalso
          rw [i32_le, e1b] at h
          rcases hfb with ⟨rfl, rfl⟩ | ⟨rfl, rfl⟩ <;> omega
        · rw [eb1]; rcases hfb with ⟨rfl, rfl⟩ | ⟨rfl, rfl⟩ <;> omega
        · rw [eb1]; rcases hfb with ⟨rfl, rfl⟩ | ⟨rfl, rfl⟩ <;> omega
        · rw [eb1]; rcases hfb with ⟨rfl, rfl⟩ | ⟨rfl, rfl⟩ <;> omega
        · rw [hone, eb1, dmul_mkD (by rcases hfb with ⟨rfl, rfl⟩ | ⟨rfl, rfl⟩ <;> exact ⟨by omega, by omega, by omega⟩) (by rcases hfb with ⟨rfl, rfl⟩ | ⟨rfl, rfl⟩ <;> exact ⟨by omega, by omega, by omega⟩), Nat.mul_one] at hal
          rw [show 1 - (bias : Int) - fig + ((bias : Int) - 1) + (fig : Int) = 0 by omega] at hal
          have htl' : t < 9007199254740992 := hx.1
          rw [ali64 hal (mkD_nn ⟨htl', by decide, by decide⟩), d2l_mkD htl', ← hMe]
          exact hq
    · rw [if_neg hz] at hy
      have hx : exD (2 ^ fig + t) ((e : Int) - bias - fig) := by rcases hfb with ⟨rfl, rfl⟩ | ⟨rfl, rfl⟩ <;> exact ⟨by omega, by omega, by omega⟩
      obtain ⟨c1, c2⟩ := fin _ _ hy hx (by have := two_pos fig; omega)
      refine ⟨fun _ => ⟨s.1, fun _ => ?_, fun h => absurd h c2⟩, fun h => absurd h c1⟩
      have l2 : 2 ^ fig + t < 2 ^ (fig + 1) := by rw [Nat.pow_succ]; omega
      rw [hy]
      refine K_exponentOf s (Nat.le_add_right _ _) l2 hx.1 hx.2.1 hx.2.2 fun r hr => ?_
      have hr' : r.toInt = (e : Int) - bias := by rcases hfb with ⟨rfl, rfl⟩ | ⟨rfl, rfl⟩ <;> omega
      have hneg : (-r).toInt = (bias : Int) - e := by
        rw [i32_neg r (by rw [hr']; omega), hr']; omega
      refine ⟨fun _ => ⟨s.1, K_scaled s hx.1 ?_ hx.2.1 hx.2.2 ?_ ?_ fun r7 hal7 r8 hal8 => ?_⟩, fun h => ?_⟩
      · rw [hneg]; rcases hfb with ⟨rfl, rfl⟩ | ⟨rfl, rfl⟩ <;> omega
      · rw [hneg]; rcases hfb with ⟨rfl, rfl⟩ | ⟨rfl, rfl⟩ <;> omega
      · rw [hneg]; rcases hfb with ⟨rfl, rfl⟩ | ⟨rfl, rfl⟩ <;> omega
      · rw [hneg, show (e : Int) - bias - fig + ((bias : Int) - e) = -(fig : Int) by omega] at hal7
        have e7 : r7 = mkD t (-(fig : Int)) := by
          rcases hfb with ⟨rfl, rfl⟩ | ⟨rfl, rfl⟩
          · have h52 : (-((52 : Nat) : Int)) = -52 := rfl
            rw [h52] at hal7 ⊢
            rw [dsub_one (by omega) (by omega), show 2 ^ 52 + t - 4503599627370496 = t by omega] at hal7
            exact ali64 hal7 (mkD_nn ⟨by omega, by decide, by decide⟩)
          · have h23 : (-((23 : Nat) : Int)) = -23 := rfl
            rw [h23] at hal7 ⊢
            have c1 : mkD (2 ^ 23 + t) (-23) = mkD ((2 ^ 23 + t) * 2 ^ 29) (-52) := mkD_congr (VE.shift 29)
            have c2 : mkD t (-23) = mkD (t * 2 ^ 29) (-52) := mkD_congr (VE.shift 29)
            rw [c1, dsub_one (by omega) (by omega), show (2 ^ 23 + t) * 2 ^ 29 - 4503599627370496 = t * 2 ^ 29 by omega] at hal7
            rw [c2]
            exact ali64 hal7 (mkD_nn ⟨by omega, by decide, by decide⟩)
        have htl' : t < 9007199254740992 := by rcases hfb with ⟨rfl, rfl⟩ | ⟨rfl, rfl⟩ <;> omega
        rw [e7, hone, dmul_mkD ⟨htl', by omega, by omega⟩ ⟨by decide, by omega, by omega⟩, Nat.mul_one, show -(fig : Int) + (fig : Int) = 0 by omega] at hal8
        rw [ali64 hal8 (mkD_nn ⟨htl', by decide, by decide⟩), d2l_mkD htl']
        have er : (r + x4).toInt64 = Int64.ofNat e := by
          refine i64_ext ?_
          rw [i64_of32, i64N_toInt (by omega), i32_addx] <;> rw [hr', e4] <;> omega
        rw [er, shl_or hfig (by rcases hfb with ⟨rfl, rfl⟩ | ⟨rfl, rfl⟩ <;> omega) htl hsh, ← hMe]
        exact hq
      · exfalso
        rw [i32_le, e1b, hr'] at h
        omega
