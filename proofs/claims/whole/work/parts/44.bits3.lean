
theorem dneg_toNat (x : UInt64) : (x.toNat < 2 ^ 63 → (FP.dneg x).toNat = x.toNat + 2 ^ 63) ∧ (2 ^ 63 ≤ x.toNat → (FP.dneg x).toNat = x.toNat - 2 ^ 63) := by
  have hx : (FP.dneg x).toNat = x.toNat ^^^ 2 ^ 63 := by
    unfold FP.dneg; rw [UInt64.toNat_xor]; rfl
  have := x.toNat_lt
  rw [hx]
  exact FP.xor_top (a := x.toNat) (k := 63) (by omega)
theorem fneg_toNat (x : UInt32) : (x.toNat < 2 ^ 31 → (FP.fneg x).toNat = x.toNat + 2 ^ 31) ∧ (2 ^ 31 ≤ x.toNat → (FP.fneg x).toNat = x.toNat - 2 ^ 31) := by
  have hx : (FP.fneg x).toNat = x.toNat ^^^ 2 ^ 31 := by
    unfold FP.fneg; rw [UInt32.toNat_xor]; rfl
  have := x.toNat_lt
  rw [hx]
  exact FP.xor_top (a := x.toNat) (k := 31) (by omega)
theorem dcmp_0 {x : UInt64} (hn : FP.Core.val64 x ≠ .nan) : FP.dcmp x FP.dconst0 = some (compare (FP.Core.dkey x) 0) := by
  have h := FP.Core.dcmp_key hn (b := FP.dconst0) (by decide +kernel)
  exact h
theorem dkey_pos {x : UInt64} (h : x.toNat < 2 ^ 63) : FP.Core.dkey x = x.toNat := by
  unfold FP.Core.dkey; rw [if_neg (by omega)]
theorem dkey_neg {x : UInt64} (h : 2 ^ 63 ≤ x.toNat) : FP.Core.dkey x = 2 ^ 63 - (x.toNat : Int) := by
  unfold FP.Core.dkey; rw [if_pos h]; rfl
/-- a magnitude, of a number of either sign -/
theorem K_magnitude {d : Nat} {q : HP → Int64 → Prop} {H : HP} {a0 fig bias M : Nat} {x3 x4 : Int32} {x1 : UInt64} (s : shBits H a0) (hfb : FB fig bias) (h3 : x3 = Int32.ofNat fig) (h4 : x4 = Int32.ofNat bias) (hM : M ≤ (2 * bias + 1) * 2 ^ fig) (hn : FP.Core.val64 x1 ≠ .nan) (hp : x1.toNat < 2 ^ 63 → x1 = magD fig bias M) (hg : 2 ^ 63 ≤ x1.toNat → FP.dneg x1 = magD fig bias M) (hz : x1.toNat = 2 ^ 63 → M = 0) (hq : q H (Int64.ofNat M)) : CJ (d + 3) 0 0 mX2_magnitude [rv (some a0), .double x1, .int x3, .int x4] H q := by
  refine C_X2_magnitude ?_
  unfold wb_X2_magnitude_0
  have hc := dcmp_0 hn
  by_cases hs : x1.toNat < 2 ^ 63
  · refine ⟨fun _ => mag_inner s hfb h3 h4 hM (hp hs) hq, fun h => ?_⟩
    rw [hc, dkey_pos hs, cmp_ge] at h
    omega
  · have hs : 2 ^ 63 ≤ x1.toNat := by omega
    by_cases h0 : x1.toNat = 2 ^ 63
    · have hcz : (Op.cmpValue (FP.dcmp x1 FP.dconst0) .l) = 0 := by
        rw [hc, dkey_neg hs, cmp_eq]; omega
      refine ⟨fun _ => ⟨fun h => absurd hcz h, fun _ => ?_⟩, fun h => ?_⟩
      · rw [hz h0] at hq; exact hq
      · rw [hc, dkey_neg hs, cmp_ge] at h
        omega
    · refine ⟨fun h => ?_, fun _ => mag_inner s hfb h3 h4 hM (hg hs) hq⟩
      rw [hc, dkey_neg hs, cmp_ge] at h
      omega
theorem K_isNegative {d : Nat} {q : HP → Bool → Prop} {H : HP} {x : UInt64} (hn : FP.Core.val64 x ≠ .nan) (hq : q H (decide (2 ^ 63 ≤ x.toNat))) : CZ (d + 1) 0 0 mX2_isNegative [.double x] H q := by
  refine C_X2_isNegative ?_
  unfold wb_X2_isNegative_0
  have hc := dcmp_0 hn
  rw [hc, cmp_lt, cmp_eq]
  refine ⟨fun h => ?_, fun h => ⟨fun h2 => ?_, fun h2 r hal => ?_⟩⟩
  · by_cases hs : x.toNat < 2 ^ 63
    · rw [dkey_pos hs] at h; omega
    · rwa [decide_eq_true (by omega)] at hq
  · by_cases hs : x.toNat < 2 ^ 63
    · rwa [decide_eq_false (by omega)] at hq
    · rw [dkey_neg (by omega)] at h h2; omega
  · by_cases hs : x.toNat < 2 ^ 63
    · rw [dkey_pos hs] at h2
      have hx : x = 0 := UInt64.toNat_inj.mp (by show x.toNat = 0; omega)
      subst hx
      have er : r = infD := by
        have e : FP.ddiv FP.dconst1 0 = infD := by decide +kernel
        rw [e] at hal
        exact ali64 hal (by rw [inf_val]; intro k; cases k)
      subst er
      have c : (0 : Int32) ≤ Op.cmpValue (FP.dcmp infD FP.dconst0) .g := by decide +kernel
      rw [decide_eq_false (by decide)] at hq
      exact ⟨fun _ => hq, fun h => absurd c h⟩
    · have hs' : 2 ^ 63 ≤ x.toNat := by omega
      rw [dkey_neg hs'] at h2
      have hx : x = 9223372036854775808 := UInt64.toNat_inj.mp (by show x.toNat = 9223372036854775808; omega)
      subst hx
      have er : r = 18442240474082181120 := by
        have e : FP.ddiv FP.dconst1 9223372036854775808 = 18442240474082181120 := by decide +kernel
        rw [e] at hal
        exact ali64 hal (by decide +kernel)
      subst er
      have c : ¬ (0 : Int32) ≤ Op.cmpValue (FP.dcmp 18442240474082181120 FP.dconst0) .g := by decide +kernel
      rw [decide_eq_true (by decide)] at hq
      exact ⟨fun h => absurd h c, fun _ => hq⟩
theorem i64_or0 (w : Int64) : w ||| (0 : Int64) = w := by
  apply Int64.toBitVec_inj.mp
  rw [Int64.toBitVec_or]
  show w.toBitVec ||| 0#64 = w.toBitVec
  exact BitVec.or_zero
theorem K_ofDouble {d : Nat} {q : HP → Int64 → Prop} {H : HP} {a0 : Nat} {x : UInt64} (s : shBits H a0) (hn : FP.Core.val64 x ≠ .nan) (hq : q H x.toInt64) : CJ (d + 4) 0 0 mX2_ofDouble [rv (some a0), .double x] H q := by
  refine C_X2_ofDouble ?_
  unfold wb_X2_ofDouble_0
  have hm := (FP.Core.ne_nan x).mp hn
  have hlt := x.toNat_lt
  refine ⟨s.1, K_magnitude (M := x.toNat % 2 ^ 63) s (Or.inl ⟨rfl, rfl⟩) rfl rfl (by omega) hn (fun h => ?_) (fun h => ?_) (fun h => by omega) (K_isNegative hn ?_)⟩
  · rw [Nat.mod_eq_of_lt h, magD_dbl (by omega)]
  · have e := (dneg_toNat x).2 h
    have e2 : x.toNat % 2 ^ 63 = (FP.dneg x).toNat := by omega
    rw [e2, magD_dbl (by omega)]
  · have lo : x.toNat < 2 ^ 63 → Int64.ofNat (x.toNat % 2 ^ 63) = x.toInt64 := fun h => by
      apply Int64.toBitVec_inj.mp
      apply BitVec.eq_of_toNat_eq
      show (BitVec.ofNat 64 (x.toNat % 2 ^ 63)).toNat = x.toNat
      rw [BitVec.toNat_ofNat]; omega
    have hi : 2 ^ 63 ≤ x.toNat → (Int64.ofNat (x.toNat % 2 ^ 63) ||| (-9223372036854775808 : Int64)) = x.toInt64 := fun h => by
      apply Int64.toBitVec_inj.mp
      rw [Int64.toBitVec_or]
      apply BitVec.eq_of_toNat_eq
      rw [BitVec.toNat_or]
      show (BitVec.ofNat 64 (x.toNat % 2 ^ 63)).toNat ||| 2 ^ 63 * 1 = x.toNat
      rw [BitVec.toNat_ofNat, Nat.mod_eq_of_lt (show x.toNat % 2 ^ 63 < 2 ^ 64 by omega), Nat.or_comm, ← Nat.two_pow_add_eq_or_of_lt (show x.toNat % 2 ^ 63 < 2 ^ 63 by omega)]
      omega
    refine ⟨fun h => ?_, fun h => ?_⟩
    · have h := of_decide_eq_false h
      rw [i64_or0, lo (by omega)]; exact hq
    · have h := of_decide_eq_true h
      rw [hi h]; exact hq
theorem f2d_fneg {f : UInt32} (hn : FP.Core.val32 f ≠ .nan) : FP.dneg (FP.f2d f) = FP.f2d (FP.fneg f) := by
  have h1 : FP.fIsNaN f = false := (FP.Core.notNaN_iff32 f).mpr hn
  have h2 : FP.fIsNaN (FP.fneg f) = false := by rw [FP.fneg_nan]; exact h1
  have e1 : FP.Core.val64 (FP.f2d f) = FP.Core.round FP.Core.b64 (FP.Core.val32 f) := by rw [FP.f2d_core h1, FP.Core.val64_f2d]
  have e2 : FP.Core.val64 (FP.f2d (FP.fneg f)) = FP.Core.round FP.Core.b64 (FP.Core.negate (FP.Core.val32 f)) := by rw [FP.f2d_core h2, FP.Core.val64_f2d, FP.val32_fneg]
  have e3 : FP.Core.val64 (FP.dneg (FP.f2d f)) = FP.Core.val64 (FP.f2d (FP.fneg f)) := by rw [FP.val64_dneg, e1, e2, FP.Core.negate_round]
  refine FP.Core.val64_inj ?_ e3
  rw [e3]
  exact (FP.Core.notNaN_iff _).mp (by rw [show FP.Core.dIsNaN (FP.f2d (FP.fneg f)) = FP.dIsNaN (FP.f2d (FP.fneg f)) from rfl, FP.f2d_nan]; exact h2)
theorem f2d_nn {f : UInt32} (hn : FP.Core.val32 f ≠ .nan) : FP.Core.val64 (FP.f2d f) ≠ .nan := by
  refine (FP.Core.notNaN_iff _).mp ?_
  rw [show FP.Core.dIsNaN (FP.f2d f) = FP.dIsNaN (FP.f2d f) from rfl, FP.f2d_nan]
  exact (FP.Core.notNaN_iff32 f).mpr hn
theorem sgn_round (d : FP.Core.Datum) : FP.Core.sgn (FP.Core.round FP.Core.b64 d) = FP.Core.sgn d := by
  cases d with
  | nan => rfl
  | inf s => rfl
  | fin s c q => exact FP.Core.sgn_roundRatio _ _ _ _ _
theorem f2d_sign {f : UInt32} (hn : FP.Core.val32 f ≠ .nan) : (2 ^ 63 ≤ (FP.f2d f).toNat ↔ 2 ^ 31 ≤ f.toNat) := by
  have h1 : FP.fIsNaN f = false := (FP.Core.notNaN_iff32 f).mpr hn
  have a := FP.Core.sgn_bits (f2d_nn hn)
  have b := FP.Core.sgn_bits32 hn
  rw [FP.f2d_core h1, FP.Core.val64_f2d, sgn_round, b, ← FP.f2d_core h1] at a
  have := decide_eq_decide.mp a
  exact this.symm
theorem d2f_f2d' {f : UInt32} (hn : FP.Core.val32 f ≠ .nan) : FP.d2f (FP.f2d f) = f := by
  have h1 : FP.fIsNaN f = false := (FP.Core.notNaN_iff32 f).mpr hn
  rw [FP.d2f_core (by rw [FP.f2d_nan]; exact h1), FP.f2d_core h1]
  exact FP.Core.d2f_f2d hn
theorem f2d_inj {f g : UInt32} (hf : FP.Core.val32 f ≠ .nan) (hg : FP.Core.val32 g ≠ .nan) (h : FP.f2d f = FP.f2d g) : f = g := by
  rw [← d2f_f2d' hf, h, d2f_f2d' hg]
theorem K_ofFloat {d : Nat} {q : HP → Int64 → Prop} {H : HP} {a0 : Nat} {f : UInt32} (s : shBits H a0) (hn : FP.Core.val32 f ≠ .nan) (hq : q H f.toInt32.toInt64) : CJ (d + 4) 0 0 mX2_ofFloat [rv (some a0), .float f] H q := by
  refine C_X2_ofFloat ?_
  unfold wb_X2_ofFloat_0
  intro r1 hal
  have er := ali64 hal (f2d_nn hn)
  subst er
  have hm := (FP.Core.ne_nan32 f).mp hn
  have hlt := f.toNat_lt
  have hsg := f2d_sign hn
  refine ⟨s.1, K_magnitude (M := f.toNat % 2 ^ 31) s (Or.inr ⟨rfl, rfl⟩) rfl rfl (by omega) (f2d_nn hn) (fun h => ?_) (fun h => ?_) (fun h => ?_) ?_⟩
  · have : f.toNat < 2 ^ 31 := by omega
    rw [Nat.mod_eq_of_lt this, magD_flt (by omega)]
  · have h' := hsg.mp h
    have e := (fneg_toNat f).2 h'
    have e2 : f.toNat % 2 ^ 31 = (FP.fneg f).toNat := by omega
    rw [e2, magD_flt (by omega), f2d_fneg hn]
  · have e := (dneg_toNat (FP.f2d f)).2 (by omega)
    rw [h, f2d_fneg hn] at e
    have e0 : FP.f2d (FP.fneg f) = FP.f2d 0 := by
      refine UInt64.toNat_inj.mp ?_
      rw [e]; decide +kernel
    have h1 : FP.Core.val32 (FP.fneg f) ≠ .nan := by rw [FP.val32_fneg]; exact FP.Core.negate_ne_nan hn
    have e1 := f2d_inj h1 (by decide +kernel) e0
    have e2 := (fneg_toNat f).2 (by omega)
    rw [e1] at e2
    have : (0 : UInt32).toNat = 0 := rfl
    omega
  · intro r5 hal5
    have er := ali64 hal5 (f2d_nn hn)
    subst er
    refine K_isNegative (f2d_nn hn) ?_
    have lo : (Int64.ofNat (f.toNat % 2 ^ 31)).toInt32 = Int32.ofNat (f.toNat % 2 ^ 31) := by
      refine i32_ext ?_
      rw [Int64.toInt_toInt32, i64N_toInt (by omega), iN_toInt (by omega)]
      exact bw_id (by omega) (by omega)
    have lo2 : f.toNat < 2 ^ 31 → Int32.ofNat (f.toNat % 2 ^ 31) = f.toInt32 := fun h => by
      apply Int32.toBitVec_inj.mp
      apply BitVec.eq_of_toNat_eq
      show (BitVec.ofNat 32 (f.toNat % 2 ^ 31)).toNat = f.toNat
      rw [BitVec.toNat_ofNat]; omega
    have hi : 2 ^ 31 ≤ f.toNat → (Int64.ofNat (f.toNat % 2 ^ 31) ||| (2147483648 : Int64)).toInt32 = f.toInt32 := fun h => by
      have e : Int64.ofNat (f.toNat % 2 ^ 31) ||| (2147483648 : Int64) = Int64.ofNat f.toNat := by
        apply Int64.toBitVec_inj.mp
        rw [Int64.toBitVec_or]
        apply BitVec.eq_of_toNat_eq
        rw [BitVec.toNat_or]
        show (BitVec.ofNat 64 (f.toNat % 2 ^ 31)).toNat ||| 2 ^ 31 * 1 = (BitVec.ofNat 64 f.toNat).toNat
        rw [BitVec.toNat_ofNat, BitVec.toNat_ofNat, Nat.mod_eq_of_lt (show f.toNat % 2 ^ 31 < 2 ^ 64 by omega), Nat.or_comm, ← Nat.two_pow_add_eq_or_of_lt (show f.toNat % 2 ^ 31 < 2 ^ 31 by omega)]
        omega
      rw [e]
      apply Int32.toBitVec_inj.mp
      rw [Int64.toBitVec_toInt32, BitVec.signExtend_eq_setWidth_of_le _ (by decide)]
      apply BitVec.eq_of_toNat_eq
      rw [BitVec.toNat_setWidth]
      show (BitVec.ofNat 64 f.toNat).toNat % 2 ^ 32 = f.toNat
      rw [BitVec.toNat_ofNat]; omega
    refine ⟨fun h => ?_, fun h => ?_⟩
    · have h := of_decide_eq_false h
      rw [i64_or0, lo, lo2 (by omega)]; exact hq
    · have h := of_decide_eq_true h
      rw [hi (hsg.mp h)]; exact hq
/-! from bits -/
theorem bitsE {x s : Int64} {fig w : Nat} (hfw : fig + w ≤ 63) (hs : s = Int64.ofNat fig) : (x >>> s) &&& Int64.ofNat (2 ^ w - 1) = Int64.ofNat (x.toBitVec.toNat / 2 ^ fig % 2 ^ w) := by
  subst hs
  apply Int64.toBitVec_inj.mp
  rw [Int64.toBitVec_and, Int64.toBitVec_shiftRight]
  have hm : (Int64.ofNat fig).toBitVec.smod 64 = BitVec.ofNat 64 fig := by
    have : ∀ k : Nat, k < 64 → (Int64.ofNat k).toBitVec.smod 64 = BitVec.ofNat 64 k := by decide +kernel
    exact this fig (by omega)
  rw [hm, BitVec.sshiftRight_eq', BitVec.toNat_ofNat, Nat.mod_eq_of_lt (show fig < 2 ^ 64 by omega)]
  have hw : 2 ^ w ≤ 2 ^ 63 := Nat.pow_le_pow_right (by decide) (by omega)
  have hp := two_pos w
  have e : x.toBitVec.sshiftRight fig &&& BitVec.ofNat 64 (2 ^ w - 1) = (x.toBitVec >>> fig) &&& BitVec.ofNat 64 (2 ^ w - 1) := by
    apply BitVec.eq_of_getLsbD_eq
    intro i hi
    rw [BitVec.getLsbD_and, BitVec.getLsbD_and]
    by_cases hiw : i < w
    · rw [BitVec.getLsbD_sshiftRight, BitVec.getLsbD_ushiftRight]
      have h1 : fig + i < 64 := by omega
      have h2 : ¬ 64 ≤ i := by omega
      simp [h1, h2]
    · have : (BitVec.ofNat 64 (2 ^ w - 1)).getLsbD i = false := by
        rw [BitVec.getLsbD_ofNat, Nat.testBit_two_pow_sub_one]
        simp [hiw]
      rw [this, Bool.and_false, Bool.and_false]
  show x.toBitVec.sshiftRight fig &&& BitVec.ofNat 64 (2 ^ w - 1) = _
  rw [e]
  apply BitVec.eq_of_toNat_eq
  rw [BitVec.toNat_and, BitVec.toNat_ushiftRight, BitVec.toNat_ofNat, Nat.mod_eq_of_lt (show 2 ^ w - 1 < 2 ^ 64 by omega), Nat.and_two_pow_sub_one_eq_mod, Nat.shiftRight_eq_div_pow]
  show _ = (BitVec.ofNat 64 (x.toBitVec.toNat / 2 ^ fig % 2 ^ w)).toNat
  rw [BitVec.toNat_ofNat]
  have := Nat.mod_lt (x.toBitVec.toNat / 2 ^ fig) hp
  rw [Nat.mod_eq_of_lt (show x.toBitVec.toNat / 2 ^ fig % 2 ^ w < 2 ^ 64 by omega)]
theorem bitsT {x : Int64} {fig : Nat} (hf : fig ≤ 62) : x &&& Int64.ofNat (2 ^ fig - 1) = Int64.ofNat (x.toBitVec.toNat % 2 ^ fig) := by
  apply Int64.toBitVec_inj.mp
  rw [Int64.toBitVec_and]
  have hw : 2 ^ fig ≤ 2 ^ 62 := Nat.pow_le_pow_right (by decide) hf
  have hp := two_pos fig
  apply BitVec.eq_of_toNat_eq
  rw [BitVec.toNat_and]
  show x.toBitVec.toNat &&& (BitVec.ofNat 64 (2 ^ fig - 1)).toNat = (BitVec.ofNat 64 (x.toBitVec.toNat % 2 ^ fig)).toNat
  have := Nat.mod_lt x.toBitVec.toNat hp
  rw [BitVec.toNat_ofNat, BitVec.toNat_ofNat, Nat.mod_eq_of_lt (show 2 ^ fig - 1 < 2 ^ 64 by omega), Nat.and_two_pow_sub_one_eq_mod, Nat.mod_eq_of_lt (show x.toBitVec.toNat % 2 ^ fig < 2 ^ 64 by omega)]
theorem maskT {fig bias : Nat} (hfb : FB fig bias) {x3 : Int32} (h3 : x3 = Int32.ofNat fig) : ((1 : Int64) <<< (x3.toInt64 &&& 63)) - (1 : Int64) = Int64.ofNat (2 ^ fig - 1) ∧ (x3.toInt64 &&& 63) = Int64.ofNat fig := by
  rcases hfb with ⟨rfl, rfl⟩ | ⟨rfl, rfl⟩ <;> (rw [h3]; decide +kernel)
def expW (bias : Nat) : Nat := if bias = 1023 then 11 else 8
theorem topW {fig bias : Nat} (hfb : FB fig bias) : 2 * bias + 1 = 2 ^ expW bias - 1 ∧ fig + expW bias ≤ 63 := by
  rcases hfb with ⟨rfl, rfl⟩ | ⟨rfl, rfl⟩ <;> decide
theorem i64N_eq {a b : Nat} (ha : a < 9223372036854775808) (hb : b < 9223372036854775808) : Int64.ofNat a = Int64.ofNat b ↔ a = b := by
  rw [i64_eq, i64N_toInt ha, i64N_toInt hb]; omega
theorem K_isNoNumber {d : Nat} {q : HP → Bool → Prop} {H : HP} {fig bias : Nat} {x0 : Int64} {x2 x3 : Int32} (hfb : FB fig bias) (h2 : x2 = Int32.ofNat fig) (h3 : x3 = Int32.ofNat bias) (hq : q H (decide (x0.toBitVec.toNat / 2 ^ fig % 2 ^ expW bias = 2 * bias + 1 ∧ x0.toBitVec.toNat % 2 ^ fig ≠ 0))) : CZ (d + 2) 0 0 mX2_isNoNumber [.long x0, .int x2, .int x3] H q := by
  refine C_X2_isNoNumber ?_
  unfold wb_X2_isNoNumber_0
  have hb : bias < 2000 := by rcases hfb with ⟨rfl, rfl⟩ | ⟨rfl, rfl⟩ <;> decide
  have hf : fig ≤ 62 := by rcases hfb with ⟨rfl, rfl⟩ | ⟨rfl, rfl⟩ <;> decide
  have e3 : x3.toInt = bias := by rw [h3, iN_toInt (by omega)]
  obtain ⟨m1, m2⟩ := maskT hfb h2
  obtain ⟨w1, w2⟩ := topW hfb
  have hw : 2 ^ expW bias ≤ 2 ^ 11 := Nat.pow_le_pow_right (by decide) (by unfold expW; split <;> decide)
  have hp := two_pos (expW bias)
  have hpf : 2 ^ fig ≤ 2 ^ 62 := Nat.pow_le_pow_right (by decide) hf
  have l1 := Nat.mod_lt (x0.toBitVec.toNat / 2 ^ fig) hp
  have l2 := Nat.mod_lt x0.toBitVec.toNat (two_pos fig)
  refine K_topExponent (n := bias) e3 hb (K_topExponent (n := bias) e3 hb ?_)
  rw [m1, m2, w1, bitsE w2 rfl, bitsT hf]
  have z : (0 : Int64) = Int64.ofNat 0 := rfl
  rw [z, i64N_eq (by omega) (by omega), i64N_eq (by omega) (by omega)]
  rw [w1] at hq
  refine ⟨fun h => ?_, fun h => ⟨fun h2 => ?_, fun h2 => ?_⟩⟩
  · rwa [decide_eq_false (fun k => h k.1)] at hq
  · rwa [decide_eq_false (fun k => k.2 h2)] at hq
  · rwa [decide_eq_true ⟨h, h2⟩] at hq
theorem K_isNoDouble {d : Nat} {q : HP → Bool → Prop} {H : HP} {a : Nat} {x : Int64} (hq : q H (FP.dIsNaN x.toUInt64)) : CZ (d + 3) 0 0 mX2_isNoDouble [rv (some a), .long x] H q := by
  refine C_X2_isNoDouble ?_
  unfold wb_X2_isNoDouble_0
  refine K_isNoNumber (fig := 52) (bias := 1023) (Or.inl ⟨rfl, rfl⟩) rfl rfl ?_
  have e : decide (x.toBitVec.toNat / 2 ^ 52 % 2 ^ expW 1023 = 2 * 1023 + 1 ∧ x.toBitVec.toNat % 2 ^ 52 ≠ 0) = FP.dIsNaN x.toUInt64 := by
    rw [Bool.eq_iff_iff, decide_eq_true_iff, show FP.dIsNaN x.toUInt64 = FP.Core.dIsNaN x.toUInt64 from rfl, FP.Core.isNaN_bits]
    show _ ↔ 9218868437227405312 < x.toBitVec.toNat % 2 ^ 63
    have : expW 1023 = 11 := rfl
    rw [this]
    have := x.toBitVec.isLt
    omega
  rw [e]; exact hq
theorem K_isNoFloat {d : Nat} {q : HP → Bool → Prop} {H : HP} {a : Nat} {x : Int64} {f : UInt32} (hf : f.toNat = x.toBitVec.toNat) (hq : q H (FP.fIsNaN f)) : CZ (d + 3) 0 0 mX2_isNoFloat [rv (some a), .long x] H q := by
  refine C_X2_isNoFloat ?_
  unfold wb_X2_isNoFloat_0
  refine K_isNoNumber (fig := 23) (bias := 127) (Or.inr ⟨rfl, rfl⟩) rfl rfl ?_
  have e : decide (x.toBitVec.toNat / 2 ^ 23 % 2 ^ expW 127 = 2 * 127 + 1 ∧ x.toBitVec.toNat % 2 ^ 23 ≠ 0) = FP.fIsNaN f := by
    rw [Bool.eq_iff_iff, decide_eq_true_iff, show FP.fIsNaN f = FP.Core.fIsNaN f from rfl, FP.Core.isNaN_bits32, hf]
    have : expW 127 = 8 := rfl
    rw [this]
    have := f.toNat_lt
    omega
  rw [e]; exact hq
theorem K_fromBits {d : Nat} {q : HP → UInt64 → Prop} {H : HP} {a0 fig bias : Nat} {x1 : Int64} {x3 x4 : Int32} (s : shBits H a0) (hfb : FB fig bias) (h3 : x3 = Int32.ofNat fig) (h4 : x4 = Int32.ofNat bias) (hq : q H (magD fig bias (x1.toBitVec.toNat / 2 ^ fig % 2 ^ expW bias * 2 ^ fig + x1.toBitVec.toNat % 2 ^ fig))) : CD (d + 3) 0 0 mX2_fromBits [rv (some a0), .long x1, .int x3, .int x4] H q := by
  refine C_X2_fromBits ?_
  unfold wb_X2_fromBits_0
  have hb : bias < 2000 := by rcases hfb with ⟨rfl, rfl⟩ | ⟨rfl, rfl⟩ <;> decide
  have hf : fig ≤ 62 := by rcases hfb with ⟨rfl, rfl⟩ | ⟨rfl, rfl⟩ <;> decide
  have e4 : x4.toInt = bias := by rw [h4, iN_toInt (by omega)]
  obtain ⟨m1, m2⟩ := maskT hfb h3
  obtain ⟨w1, w2⟩ := topW hfb
  have hone : FP.l2d ((1 : Int64) <<< (x3.toInt64 &&& 63)) = mkD 1 (fig : Int) := by rw [m2]; rcases hfb with ⟨rfl, rfl⟩ | ⟨rfl, rfl⟩ <;> decide +kernel
  have hw : 2 ^ expW bias ≤ 2 ^ 11 := Nat.pow_le_pow_right (by decide) (by unfold expW; split <;> decide)
  have hp := two_pos (expW bias)
  have hpf : 2 ^ fig ≤ 2 ^ 52 := Nat.pow_le_pow_right (by decide) (by rcases hfb with ⟨rfl, rfl⟩ | ⟨rfl, rfl⟩ <;> decide)
  have l1 := Nat.mod_lt (x1.toBitVec.toNat / 2 ^ fig) hp
  have l2 := Nat.mod_lt x1.toBitVec.toNat (two_pos fig)
  obtain ⟨e, he⟩ : ∃ e, e = x1.toBitVec.toNat / 2 ^ fig % 2 ^ expW bias := ⟨_, rfl⟩
  obtain ⟨t, ht⟩ : ∃ t, t = x1.toBitVec.toNat % 2 ^ fig := ⟨_, rfl⟩
  have he2 : (e * 2 ^ fig + t) / 2 ^ fig = e := by
    rw [Nat.mul_comm, Nat.mul_add_div (two_pos fig), Nat.div_eq_of_lt (by omega)]; rfl
  have ht2 : (e * 2 ^ fig + t) % 2 ^ fig = t := by
    rw [Nat.mul_comm, Nat.mul_add_mod, Nat.mod_eq_of_lt (by omega)]
  rw [← he, ← ht] at hq
  rw [← he] at l1
  rw [← ht] at l2
  unfold magD at hq
  rw [he2, ht2] at hq
  refine K_topExponent (n := bias) e4 hb fun r3 hal => K_topExponent (n := bias) e4 hb ?_
  have eE : (x1 >>> (x3.toInt64 &&& 63)) &&& Int64.ofNat (2 * bias + 1) = Int64.ofNat e := by rw [m2, w1, bitsE w2 rfl, he]
  rw [m1, bitsT hf, hone, ← ht, l2d_mkD (i64N_toInt (n := t) (by omega)), ddiv_mkD ⟨by omega, by omega, by omega⟩ ⟨by decide, by omega, by omega⟩, show (0 : Int) - (fig : Int) = -(fig : Int) by omega] at hal
  have er := ali64 hal (mkD_nn ⟨by omega, by omega, by omega⟩)
  subst er
  rw [eE]
  have z : (0 : Int64) = Int64.ofNat 0 := rfl
  rw [z, i64N_eq (by omega) (by omega), i64N_eq (by omega) (by omega)]
  refine ⟨fun hne => ⟨fun h0 r6 hal6 => ⟨s.1, ?_⟩, fun h0 => ⟨s.1, ?_⟩⟩, fun htop => ⟨s.1, ?_⟩⟩
  · rw [if_neg hne, if_neg h0] at hq
    have e6 : r6 = mkD (2 ^ fig + t) (-(fig : Int)) := by
      rcases hfb with ⟨rfl, rfl⟩ | ⟨rfl, rfl⟩
      · have h52 : (-((52 : Nat) : Int)) = -52 := rfl
        rw [h52] at hal6 ⊢
        rw [dadd_one (by omega)] at hal6
        exact ali64 hal6 (mkD_nn ⟨by omega, by decide, by decide⟩)
      · have h23 : (-((23 : Nat) : Int)) = -23 := rfl
        rw [h23] at hal6 ⊢
        have c1 : mkD (2 ^ 23 + t) (-23) = mkD ((2 ^ 23 + t) * 2 ^ 29) (-52) := mkD_congr (VE.shift 29)
        have c2 : mkD t (-23) = mkD (t * 2 ^ 29) (-52) := mkD_congr (VE.shift 29)
        rw [c2, dadd_one (by omega), show 4503599627370496 + t * 2 ^ 29 = (2 ^ 23 + t) * 2 ^ 29 by omega] at hal6
        rw [c1]
        exact ali64 hal6 (mkD_nn ⟨by omega, by decide, by decide⟩)
    rw [e6]
    have es : ((Int64.ofNat e).toInt32 - x4).toInt = (e : Int) - bias := by
      have e1 : (Int64.ofNat e).toInt32.toInt = e := by
        rw [Int64.toInt_toInt32, i64N_toInt (by omega)]
        exact bw_id (by omega) (by omega)
      rw [i32_subx] <;> rw [e1, e4] <;> omega
    have w11 : expW 1023 = 11 := rfl
    have w8 : expW 127 = 8 := rfl
    refine K_scaled s (by omega) ?_ (by omega) (by omega) ?_ ?_ ?_
    · rw [es]; rcases hfb with ⟨rfl, rfl⟩ | ⟨rfl, rfl⟩ <;> (first | rw [w11] at l1 | rw [w8] at l1) <;> omega
    · rw [es]; rcases hfb with ⟨rfl, rfl⟩ | ⟨rfl, rfl⟩ <;> (first | rw [w11] at l1 | rw [w8] at l1) <;> omega
    · rw [es]; rcases hfb with ⟨rfl, rfl⟩ | ⟨rfl, rfl⟩ <;> (first | rw [w11] at l1 | rw [w8] at l1) <;> omega
    · rw [es, show -(fig : Int) + ((e : Int) - bias) = (e : Int) - bias - fig by omega]; exact hq
  · rw [if_neg hne, if_pos h0] at hq
    have es : ((1 : Int32) - x4).toInt = 1 - (bias : Int) := by rw [i32_subx] <;> rw [i32_1, e4] <;> omega
    refine K_scaled s (by omega) ?_ (by omega) (by omega) ?_ ?_ ?_
    · rw [es]; rcases hfb with ⟨rfl, rfl⟩ | ⟨rfl, rfl⟩ <;> omega
    · rw [es]; rcases hfb with ⟨rfl, rfl⟩ | ⟨rfl, rfl⟩ <;> omega
    · rw [es]; rcases hfb with ⟨rfl, rfl⟩ | ⟨rfl, rfl⟩ <;> omega
    · rw [es, show -(fig : Int) + (1 - (bias : Int)) = 1 - (bias : Int) - fig by omega]; exact hq
  · rw [if_pos htop] at hq
    rw [s.2.2.2.2]; exact hq
theorem i64_neg_bits (x : Int64) : (0 ≤ x) ↔ x.toBitVec.toNat < 2 ^ 63 := by
  rw [i64_le, i64_0]
  have h : x.toInt = x.toBitVec.toInt := rfl
  rw [h, BitVec.toInt_eq_toNat_cond]
  have := x.toBitVec.isLt
  split <;> omega
theorem K_toDouble {d : Nat} {q : HP → UInt64 → Prop} {H : HP} {a0 : Nat} {x : Int64} (s : shBits H a0) (hn : FP.dIsNaN x.toUInt64 = false) (hq : q H x.toUInt64) : CD (d + 4) 0 0 mX2_toDouble [rv (some a0), .long x] H q := by
  refine C_X2_toDouble ?_
  unfold wb_X2_toDouble_0
  have hn' := (FP.Core.notNaN_iff _).mp (show FP.Core.dIsNaN x.toUInt64 = false from hn)
  have hm := (FP.Core.ne_nan x.toUInt64).mp hn'
  have hx : x.toUInt64.toNat = x.toBitVec.toNat := rfl
  rw [hx] at hm
  have hlt := x.toBitVec.isLt
  have w : expW 1023 = 11 := rfl
  refine ⟨s.1, K_fromBits s (fig := 52) (bias := 1023) (Or.inl ⟨rfl, rfl⟩) rfl rfl ?_⟩
  rw [w, show x.toBitVec.toNat / 2 ^ 52 % 2 ^ 11 * 2 ^ 52 + x.toBitVec.toNat % 2 ^ 52 = x.toBitVec.toNat % 2 ^ 63 by omega, i64_neg_bits]
  refine ⟨fun h => ?_, fun h => ?_⟩
  · have := magD_dbl (x := x.toUInt64) (by rw [hx]; omega)
    rw [Nat.mod_eq_of_lt h, ← hx, this]; exact hq
  · have e := (dneg_toNat x.toUInt64).2 (by rw [hx]; omega)
    have this := magD_dbl (x := FP.dneg x.toUInt64) (by rw [e, hx]; omega)
    have e2 : x.toBitVec.toNat % 2 ^ 63 = (FP.dneg x.toUInt64).toNat := by rw [e, hx]; omega
    rw [e2, this]
    have e3 : FP.dneg (FP.dneg x.toUInt64) = x.toUInt64 := by
      refine UInt64.toNat_inj.mp ?_
      rw [(dneg_toNat (FP.dneg x.toUInt64)).1 (by rw [e, hx]; omega), e, hx]; omega
    rw [e3]; exact hq
theorem and_bit31 {x : Int64} (h : x.toBitVec.toNat < 2 ^ 32) : (x &&& (2147483648 : Int64)) = 0 ↔ x.toBitVec.toNat < 2 ^ 31 := by
  have e : (x &&& (2147483648 : Int64)).toBitVec.toNat = x.toBitVec.toNat &&& 2 ^ 31 := by
    rw [Int64.toBitVec_and, BitVec.toNat_and]; rfl
  have e2 : (x &&& (2147483648 : Int64)) = 0 ↔ x.toBitVec.toNat &&& 2 ^ 31 = 0 := by
    rw [← e]
    refine ⟨fun k => by rw [k]; rfl, fun k => ?_⟩
    apply Int64.toBitVec_inj.mp
    apply BitVec.eq_of_toNat_eq
    rw [k]; rfl
  rw [e2]
  constructor
  · intro h0
    apply Classical.byContradiction
    intro hn
    have t1 : Nat.testBit x.toBitVec.toNat 31 = true := Nat.testBit_of_two_pow_le_and_two_pow_add_one_gt (by omega) (by omega)
    have t2 : Nat.testBit (x.toBitVec.toNat &&& 2 ^ 31) 31 = true := by
      rw [Nat.testBit_and, t1, Nat.testBit_two_pow_self]; rfl
    rw [h0, Nat.zero_testBit] at t2
    cases t2
  · intro hl
    apply Nat.eq_of_testBit_eq
    intro i
    rw [Nat.testBit_and, Nat.zero_testBit, Nat.testBit_two_pow]
    by_cases hi : 31 = i
    · subst hi
      rw [Nat.testBit_lt_two_pow hl]; rfl
    · rw [decide_eq_false hi, Bool.and_false]
theorem K_toFloat {d : Nat} {q : HP → UInt64 → Prop} {H : HP} {a0 : Nat} {x : Int64} {f : UInt32} (s : shBits H a0) (hf : f.toNat = x.toBitVec.toNat) (hn : FP.fIsNaN f = false) (hq : q H (FP.f2d f)) : CD (d + 4) 0 0 mX2_toFloat [rv (some a0), .long x] H q := by
  refine C_X2_toFloat ?_
  unfold wb_X2_toFloat_0
  have hn' := (FP.Core.notNaN_iff32 _).mp (show FP.Core.fIsNaN f = false from hn)
  have hm := (FP.Core.ne_nan32 f).mp hn'
  have hlt := f.toNat_lt
  have w : expW 127 = 8 := rfl
  refine ⟨s.1, K_fromBits s (fig := 23) (bias := 127) (Or.inr ⟨rfl, rfl⟩) rfl rfl ?_⟩
  rw [w, ← hf, show f.toNat / 2 ^ 23 % 2 ^ 8 * 2 ^ 23 + f.toNat % 2 ^ 23 = f.toNat % 2 ^ 31 by omega, and_bit31 (by omega), ← hf]
  refine ⟨fun h => ?_, fun h => ?_⟩
  · have := magD_flt (f := f) (by omega)
    rw [Nat.mod_eq_of_lt h, this]; exact hq
  · have e := (fneg_toNat f).2 (by omega)
    have this := magD_flt (f := FP.fneg f) (by rw [e]; omega)
    have e2 : f.toNat % 2 ^ 31 = (FP.fneg f).toNat := by rw [e]; omega
    have e3 : FP.fneg (FP.fneg f) = f := by
      refine UInt32.toNat_inj.mp ?_
      rw [(fneg_toNat (FP.fneg f)).1 (by rw [e]; omega), e]; omega
    have hn2 : FP.Core.val32 (FP.fneg f) ≠ .nan := by rw [FP.val32_fneg]; exact FP.Core.negate_ne_nan hn'
    rw [e2, this, f2d_fneg hn2, e3]; exact hq
