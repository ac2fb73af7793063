
/-! ===== tracks: what doubles and floats they hold ===== -/
theorem and_lo (a k : Nat) : a &&& (2 ^ k - 1) = a % 2 ^ k := Nat.and_two_pow_sub_one_eq_mod a k
theorem raw_d {x : Int64} {r : UInt64} (h : raw2dAny x r) : (FP.Core.val64 x.toUInt64 ≠ .nan → r = x.toUInt64) ∧ (FP.Core.val64 x.toUInt64 = .nan → FP.Core.val64 r = .nan) := by
  rcases h with h | ⟨h, e⟩
  · rw [h]; exact ⟨fun _ => rfl, id⟩
  · unfold vn_snl2d at h
    rw [Bool.and_eq_true] at h
    have h1 := of_decide_eq_true h.1
    have h1 : (9218868437227405312 : UInt64).toNat < (x.toUInt64 &&& 9223372036854775807).toNat := h1
    have m : (x.toUInt64 &&& 9223372036854775807).toNat = x.toUInt64.toNat % 2 ^ 63 := by
      rw [UInt64.toNat_and]; exact and_lo _ 63
    rw [m] at h1
    have h1 : 9218868437227405312 < x.toUInt64.toNat % 2 ^ 63 := h1
    refine ⟨fun k => absurd ((FP.Core.dIsNaN_iff _).mp ((FP.Core.isNaN_bits _).mpr h1)) k, fun _ => (FP.Core.dIsNaN_iff _).mp ((FP.Core.isNaN_bits _).mpr ?_)⟩
    rw [e, UInt64.toNat_or, Nat.or_mod_two_pow]
    exact Nat.lt_of_lt_of_le h1 Nat.left_le_or
theorem raw_f {x : Int32} {r : UInt32} (h : raw2fAny x r) : (FP.Core.val32 x.toUInt32 ≠ .nan → r = x.toUInt32) ∧ (FP.Core.val32 x.toUInt32 = .nan → FP.Core.val32 r = .nan) := by
  rcases h with h | ⟨h, e⟩
  · rw [h]; exact ⟨fun _ => rfl, id⟩
  · unfold vn_sni2f at h
    rw [Bool.and_eq_true] at h
    have h1 := of_decide_eq_true h.1
    have h1 : (2139095040 : UInt32).toNat < (x.toUInt32 &&& 2147483647).toNat := h1
    have m : (x.toUInt32 &&& 2147483647).toNat = x.toUInt32.toNat % 2 ^ 31 := by
      rw [UInt32.toNat_and]; exact and_lo _ 31
    rw [m] at h1
    have h1 : 2139095040 < x.toUInt32.toNat % 2 ^ 31 := h1
    refine ⟨fun k => absurd ((FP.Core.fIsNaN_iff _).mp ((FP.Core.isNaN_bits32 _).mpr h1)) k, fun _ => (FP.Core.fIsNaN_iff _).mp ((FP.Core.isNaN_bits32 _).mpr ?_)⟩
    rw [e, UInt32.toNat_or, Nat.or_mod_two_pow]
    exact Nat.lt_of_lt_of_le h1 Nat.left_le_or
/-- cut off behind the point, from the smallest units -/
theorem trunc_u {c : Nat} {q : Int} (h : -1074 ≤ q) : c * 2 ^ q.toNat / 2 ^ (-q).toNat = c * 2 ^ (q - -1074).toNat / 2 ^ 1074 := by
  by_cases h0 : 0 ≤ q
  · have e1 : (q - -1074).toNat = q.toNat + 1074 := by omega
    have e2 : (-q).toNat = 0 := by omega
    rw [e1, e2, Nat.pow_add, ← Nat.mul_assoc, Nat.mul_div_cancel _ (two_pos 1074), Nat.pow_zero, Nat.div_one]
  · have e1 : q.toNat = 0 := by omega
    have e2 : (1074 : Nat) = (-q).toNat + (q - -1074).toNat := by omega
    rw [e1, Nat.pow_zero, Nat.mul_one]
    generalize (q - -1074).toNat = b at e2
    rw [e2, Nat.pow_add, Nat.mul_div_mul_right _ _ (two_pos b)]
theorem toInt_f2d {f : UInt32} {lo hi : Int} (hn : FP.Core.val32 f ≠ .nan) : FP.Core.toInt lo hi (FP.Core.val64 (FP.f2d f)) = FP.Core.toInt lo hi (FP.Core.val32 f) := by
  have h1 : FP.fIsNaN f = false := (FP.Core.notNaN_iff32 f).mpr hn
  rw [FP.f2d_core h1, FP.Core.val64_f2d]
  have hf := FP.Core.val32_fits f
  cases h : FP.Core.val32 f with
  | nan => exact absurd h hn
  | inf s => rfl
  | fin s c q =>
    rw [h] at hf
    obtain ⟨g1, g2, g3, -⟩ := hf
    have g1 : c < 2 ^ 24 := g1
    have k1 : FP.Core.b32.qmin = -149 := by decide
    have k2 : FP.Core.b32.qmax = 104 := by decide
    rw [k1] at g2
    rw [k2] at g3
    obtain ⟨c', q', e1, e2⟩ := FP.Core.round_exact FP.Core.good_b64 s (c := c) (q := q) (by show c < 2 ^ 53; omega) (by rw [qmin64]; omega) (by rw [qmax64]; omega)
    have hf2 : FP.Core.fits FP.Core.b64 (.fin s c' q') := by
      rw [← e1]; exact FP.Core.roundRatio_fits FP.Core.good_b64 s c (by decide) q
    have hq := hf2.2.1
    rw [qmin64] at e2 hq
    unfold FP.Core.inUnits at e2
    rw [e1]
    show max lo (min hi (FP.Core.truncate s c' q')) = max lo (min hi (FP.Core.truncate s c q))
    unfold FP.Core.truncate
    rw [trunc_u hq, trunc_u (by omega), e2]
theorem d2i_f2d {f : UInt32} (hn : FP.Core.val32 f ≠ .nan) : FP.d2i (FP.f2d f) = FP.f2i f := by
  show Int32.ofInt (FP.Core.toInt _ _ (FP.Core.val64 (FP.f2d f))) = Int32.ofInt (FP.Core.toInt _ _ (FP.Core.val32 f))
  rw [toInt_f2d hn]
theorem d2l_f2d {f : UInt32} (hn : FP.Core.val32 f ≠ .nan) : FP.d2l (FP.f2d f) = FP.f2l f := by
  show Int64.ofInt (FP.Core.toInt _ _ (FP.Core.val64 (FP.f2d f))) = Int64.ofInt (FP.Core.toInt _ _ (FP.Core.val32 f))
  rw [toInt_f2d hn]
theorem d2i_n {x : UInt64} (hn : FP.Core.val64 x = .nan) : FP.d2i x = 0 := by
  show Int32.ofInt (FP.Core.toInt _ _ (FP.Core.val64 x)) = _
  rw [hn]; rfl
theorem f2i_n {x : UInt32} (hn : FP.Core.val32 x = .nan) : FP.f2i x = 0 := by
  show Int32.ofInt (FP.Core.toInt _ _ (FP.Core.val32 x)) = _
  rw [hn]; rfl
theorem d2l_n {x : UInt64} (hn : FP.Core.val64 x = .nan) : FP.d2l x = 0 := by
  show Int64.ofInt (FP.Core.toInt _ _ (FP.Core.val64 x)) = _
  rw [hn]; rfl
theorem f2l_n {x : UInt32} (hn : FP.Core.val32 x = .nan) : FP.f2l x = 0 := by
  show Int64.ofInt (FP.Core.toInt _ _ (FP.Core.val32 x)) = _
  rw [hn]; rfl
theorem d2i_z : FP.d2i FP.dconst0 = 0 := by decide +kernel
theorem d2l_z : FP.d2l FP.dconst0 = 0 := by decide +kernel
theorem f2d_z : FP.f2d FP.fconst0 = FP.dconst0 := by decide +kernel
theorem fz_nn : FP.Core.val32 FP.fconst0 ≠ .nan := by decide +kernel
theorem dz_nn : FP.Core.val64 FP.dconst0 ≠ .nan := by decide +kernel
theorem deq_inf {a b : UInt64} {s : Bool} (hb : FP.Core.val64 b = .inf s) : Op.cmpValue (FP.dcmp a b) .l = 0 ↔ FP.Core.val64 a = .inf s := by
  show Op.cmpValue (FP.Core.order (FP.Core.val64 a) (FP.Core.val64 b)) .l = 0 ↔ _
  rw [hb]
  cases FP.Core.val64 a with
  | nan => cases s <;> exact ⟨fun k => absurd k (by decide), fun k => by cases k⟩
  | inf t => cases s <;> cases t <;> first | exact ⟨fun _ => rfl, fun _ => by decide⟩ | exact ⟨fun k => absurd k (by decide), fun k => by cases k⟩
  | fin t c q =>
    show Op.cmpValue (some (compare (0 : Int) (FP.Core.signed s 1))) .l = 0 ↔ _
    rw [cmp_eq]
    refine ⟨fun k => ?_, fun k => by cases k⟩
    cases s
    · exact absurd (show (0 : Int) = 1 from k) (by decide)
    · exact absurd (show (0 : Int) = -1 from k) (by decide)
theorem inf_pos : FP.Core.val64 9218868437227405312 = .inf false := by decide +kernel
theorem K_isEndless {d : Nat} {q : HP → Bool → Prop} {H : HP} {a0 : Nat} {x : UInt64} (s : shBits H a0) (h1 : ∀ b, FP.Core.val64 x = .inf b → q H true) (h0 : (∀ b, FP.Core.val64 x ≠ .inf b) → q H false) : CZ (d + 1) 0 0 mX2_isEndless [rv (some a0), .double x] H q := by
  refine C_X2_isEndless ?_
  unfold wb_X2_isEndless_0
  have n1 : FP.Core.val64 (FP.dneg 9218868437227405312) = .inf true := by rw [FP.val64_dneg, inf_pos]; rfl
  rw [s.2.2.2.2, deq_inf inf_pos, deq_inf n1]
  refine ⟨s.1, h1 false, fun h => ⟨fun h2 => h0 fun b => ?_, h1 true⟩⟩
  cases b
  · exact h
  · exact h2
theorem f2d_inf {f : UInt32} {b : Bool} (hn : FP.Core.val32 f ≠ .nan) : FP.Core.val64 (FP.f2d f) = .inf b ↔ FP.Core.val32 f = .inf b := by
  have h1 : FP.fIsNaN f = false := (FP.Core.notNaN_iff32 f).mpr hn
  rw [FP.f2d_core h1, FP.Core.val64_f2d]
  cases h : FP.Core.val32 f with
  | nan => exact absurd h hn
  | inf s => exact Iff.rfl
  | fin s c q =>
    refine ⟨fun k => ?_, fun k => by cases k⟩
    have hf : FP.Core.FFin f := ⟨s, c, q, h⟩
    have := FP.Core.f2d_fin hf
    rw [← h, ← FP.Core.val64_f2d] at k
    exact absurd k (this.ne_inf b)
theorem fadd_n {a b : UInt32} : FP.Core.val32 (FP.fadd a b) = .nan ↔ FP.Core.val32 a = .nan ∨ FP.Core.val32 b = .nan ∨ ∃ s, FP.Core.val32 a = .inf s ∧ FP.Core.val32 b = .inf (!s) := by
  rw [← FP.Core.fadd_nan_iff, ← FP.Core.fIsNaN_iff]
theorem dadd_n {a b : UInt64} : FP.Core.val64 (FP.dadd a b) = .nan ↔ FP.Core.val64 a = .nan ∨ FP.Core.val64 b = .nan ∨ ∃ s, FP.Core.val64 a = .inf s ∧ FP.Core.val64 b = .inf (!s) := by
  rw [← FP.Core.dadd_nan_iff, ← FP.Core.dIsNaN_iff]
