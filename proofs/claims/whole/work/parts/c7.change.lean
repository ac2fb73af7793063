
/-! ===== tracks: change ===== -/
def offF (u : UV) : UInt32 := FP.fdiv (FP.l2f u.2.2.2.1) (FP.l2f u.2.2.2.2)
def chF (u w : UV) (v : UInt32) : UInt32 := FP.fdiv (FP.fmul (FP.fsub (FP.fadd (FP.fdiv (FP.fmul v (FP.l2f u.2.2.1.1)) (FP.l2f u.2.2.1.2)) (offF u)) (offF w)) (FP.l2f w.2.2.1.2)) (FP.l2f w.2.2.1.1)
theorem nzF {x : Int64} (h : 0 < x.toInt) : ¬ FP.Core.FZero (FP.l2f x) := fun k => FP.Core.l2f_ne_zero (v := x) (fun e => by rw [e] at h; exact absurd h (by decide)) ((FP.Core.zero_bits232 _).mp k)
theorem offF_fin {u : UV} (h : 0 < u.2.2.2.2.toInt) : FP.Core.FFin (offF u) := by
  have hb := FP.Core.l2f_big (v := u.2.2.2.2) (by omega)
  have := FP.Core.fdiv_mag (a := FP.l2f u.2.2.2.1) (b := FP.l2f u.2.2.2.2) (K := 192) (L := 127) (FP.Core.l2f_mag _) hb.1 hb.2 (by decide) (by decide)
  rw [FP.Core.fin_bits32]
  have e : offF u = FP.Core.fdiv (FP.l2f u.2.2.2.1) (FP.l2f u.2.2.2.2) := rfl
  rw [e]
  omega
def nnF (v : UInt32) : Prop := FP.Core.val32 v ≠ .nan
theorem nnF_mul {a : UInt32} {x : Int64} (ha : nnF a) (hx : 0 < x.toInt) : nnF (FP.fmul a (FP.l2f x)) := (FP.Core.notNaN_iff32 _).mp (FP.Core.fmul_out' ((FP.Core.notNaN_iff32 _).mpr ha) (FP.Core.l2f_fin x) (nzF hx))
theorem nnF_div {a : UInt32} {x : Int64} (ha : nnF a) (hx : 0 < x.toInt) : nnF (FP.fdiv a (FP.l2f x)) := (FP.Core.notNaN_iff32 _).mp (FP.Core.fdiv_out ((FP.Core.notNaN_iff32 _).mpr ha) (FP.Core.l2f_fin x) (nzF hx))
theorem nnF_add {a b : UInt32} (ha : nnF a) (hb : FP.Core.FFin b) : nnF (FP.fadd a b) := (FP.Core.notNaN_iff32 _).mp (FP.Core.fadd_out ((FP.Core.notNaN_iff32 _).mpr ha) hb)
theorem nnF_sub {a b : UInt32} (ha : nnF a) (hb : FP.Core.FFin b) : nnF (FP.fsub a b) := (FP.Core.notNaN_iff32 _).mp (FP.Core.fsub_out ((FP.Core.notNaN_iff32 _).mpr ha) hb)
theorem chF_steps {u w : UV} {v r5 r6 r9 r10 r15 r16 r19 r20 : UInt32} (hu : okU u) (hw : okU w) (hv : nnF v) (h5 : alike32 r5 (FP.fmul v (FP.l2f u.2.2.1.1)) = true) (h6 : alike32 r6 (FP.fdiv r5 (FP.l2f u.2.2.1.2)) = true) (h9 : alike32 r9 (offF u) = true) (h10 : alike32 r10 (FP.fadd r6 r9) = true) (h15 : alike32 r15 (offF w) = true) (h16 : alike32 r16 (FP.fsub r10 r15) = true) (h19 : alike32 r19 (FP.fmul r16 (FP.l2f w.2.2.1.2)) = true) (h20 : alike32 r20 (FP.fdiv r19 (FP.l2f w.2.2.1.1)) = true) : r20 = chF u w v ∧ nnF (chF u w v) := by
  obtain ⟨-, -, -, -, u1, u2, u3⟩ := hu
  obtain ⟨-, -, -, -, w1, w2, w3⟩ := hw
  have n5 := nnF_mul hv u2
  have e5 := ali32 h5 n5
  subst e5
  have n6 := nnF_div n5 u1.1
  have e6 := ali32 h6 n6
  subst e6
  have f9 := offF_fin u3.1
  have e9 := ali32 h9 f9.ne_nan
  subst e9
  have n10 := nnF_add n6 f9
  have e10 := ali32 h10 n10
  subst e10
  have f15 := offF_fin w3.1
  have e15 := ali32 h15 f15.ne_nan
  subst e15
  have n16 := nnF_sub n10 f15
  have e16 := ali32 h16 n16
  subst e16
  have n19 := nnF_mul n16 w1.1
  have e19 := ali32 h19 n19
  subst e19
  have n20 := nnF_div n19 w2
  exact ⟨ali32 h20 n20, n20⟩
theorem chF_nan {u w : UV} {v r5 r6 r9 r10 r15 r16 r19 r20 : UInt32} (hv : FP.Core.val32 v = .nan) (h5 : alike32 r5 (FP.fmul v (FP.l2f u.2.2.1.1)) = true) (h6 : alike32 r6 (FP.fdiv r5 (FP.l2f u.2.2.1.2)) = true) (h10 : alike32 r10 (FP.fadd r6 r9) = true) (h16 : alike32 r16 (FP.fsub r10 r15) = true) (h19 : alike32 r19 (FP.fmul r16 (FP.l2f w.2.2.1.2)) = true) (h20 : alike32 r20 (FP.fdiv r19 (FP.l2f w.2.2.1.1)) = true) : FP.Core.val32 r20 = .nan := by
  have n5 := ali32n h5 (FP.Core.fmul_nan (Or.inl hv))
  have n6 := ali32n h6 ((FP.Core.fIsNaN_iff _).mp ((FP.Core.fdiv_nan_iff _ _).mpr (Or.inl n5)))
  have n10 := ali32n h10 (FP.Core.fadd_nan (Or.inl n6))
  have n16 := ali32n h16 ((FP.Core.fIsNaN_iff _).mp ((FP.Core.fsub_nan_iff _ _).mpr (Or.inl n10)))
  have n19 := ali32n h19 (FP.Core.fmul_nan (Or.inl n16))
  exact ali32n h20 ((FP.Core.fIsNaN_iff _).mp ((FP.Core.fdiv_nan_iff _ _).mpr (Or.inl n19)))
theorem K_inFloats {d : Nat} {q : HP → UInt32 → Prop} {H : HP} {x y : Nat} {u w : UV} {v : UInt32} (su : shUnit H x) (sw : shUnit H y) (cu : CUn H x u) (cw : CUn H y w) (hu : okU u) (hw : okU w) (hv : nnF v) (hq : nnF (chF u w v) → q H (chF u w v)) : CF (d + 1) 0 0 mX8_inFloats [.float v, rv (some x), rv (some y)] H q := by
  obtain ⟨s1, s2, s3, s4, s5, s6, s7, s8, s9⟩ := su
  obtain ⟨t1, t2, t3, t4, t5, t6, t7, t8, t9⟩ := sw
  have e1 : hL H 400 (x + 3) 0 = u.2.2.1.1 := congrArg (·.1) cu.2.2.2.1
  have e2 : hL H 401 (x + 3) 0 = u.2.2.1.2 := congrArg (·.2) cu.2.2.2.1
  have e3 : hL H 400 (x + 4) 0 = u.2.2.2.1 := congrArg (·.1) cu.2.2.2.2.1
  have e4 : hL H 401 (x + 4) 0 = u.2.2.2.2 := congrArg (·.2) cu.2.2.2.2.1
  have g1 : hL H 400 (y + 3) 0 = w.2.2.1.1 := congrArg (·.1) cw.2.2.2.1
  have g2 : hL H 401 (y + 3) 0 = w.2.2.1.2 := congrArg (·.2) cw.2.2.2.1
  have g3 : hL H 400 (y + 4) 0 = w.2.2.2.1 := congrArg (·.1) cw.2.2.2.2.1
  have g4 : hL H 401 (y + 4) 0 = w.2.2.2.2 := congrArg (·.2) cw.2.2.2.2.1
  refine C_X8_inFloats ?_
  unfold wb_X8_inFloats_0
  refine ⟨x, rfl, s1, x + 3, s6, s7, ?_⟩
  rw [e1, e2]
  refine fun r5 h5 r6 h6 => ⟨x + 4, s8, s9, ?_⟩
  rw [e3, e4]
  refine fun r9 h9 r10 h10 => ⟨y, rfl, t1, y + 4, t8, t9, ?_⟩
  rw [g3, g4]
  refine fun r15 h15 r16 h16 => ⟨y + 3, t6, t7, ?_⟩
  rw [g1, g2]
  refine fun r19 h19 r20 h20 => ?_
  obtain ⟨z1, z2⟩ := chF_steps hu hw hv h5 h6 h9 h10 h15 h16 h19 h20
  rw [z1]; exact hq z2
theorem K_changed {d m i j : Nat} {q : HP → UInt32 → Prop} {H : HP} {u w : UV} {v : UInt32} {o : Option UInt32} (sm : shM H m) (hi : i < 20) (hj : j < 20) (cu : MUn H m i u) (cw : MUn H m j w) (hu : okU u) (hw : okU w) (hv : mfv v o) (ho : ∀ z, o = some z → nnF z) (hq : ∀ r, mfv r (o.map (chF u w)) → q H r) : CF (d + 1) 0 0 mX12_changed [rv (some m), .float v, .int (Int32.ofNat i), .int (Int32.ofNat j)] H q := by
  obtain ⟨-, -, -, e1, e2, e3, e4⟩ := cu
  obtain ⟨-, -, -, g1, g2, g3, g4⟩ := cw
  obtain ⟨a1, a2, a3, a4⟩ := mA_factorUp sm
  obtain ⟨b1, b2, b3, b4⟩ := mA_factorLow sm
  obtain ⟨c1, c2, c3, c4⟩ := mA_offsetUp sm
  obtain ⟨d1, d2, d3, d4⟩ := mA_offsetLow sm
  have pi := vpi_of hi (by decide : (20 : Nat) < 2147483648)
  have pj := vpi_of hj (by decide : (20 : Nat) < 2147483648)
  refine C_X12_changed ?_
  unfold wb_X12_changed_0
  refine ⟨sm.1, m + 3, a1, a2, by rw [a4]; exact pi, ?_⟩
  rw [a3, iN_cl (by omega), e1]
  refine fun r5 h5 => ⟨m + 4, b1, b2, by rw [b4]; exact pi, ?_⟩
  rw [b3, e2]
  refine fun r6 h6 => ⟨m + 5, c1, c2, by rw [c4]; exact pi, m + 6, d1, d2, by rw [d4]; exact pi, ?_⟩
  rw [c3, d3, iN_cl (by omega), e3, e4, g3, g4, g1, a4, b4, c4, d4]
  refine fun r9 h9 r10 h10 => ⟨pj, pj, fun r15 h15 r16 h16 => ⟨pj, ?_⟩⟩
  rw [g2]
  refine fun r19 h19 => ⟨pj, fun r20 h20 => hq r20 ?_⟩
  cases o with
  | none => exact chF_nan (u := u) (w := w) hv h5 h6 h10 h16 h19 h20
  | some z =>
    have hv : v = z := hv
    subst hv
    exact (chF_steps hu hw (ho v rfl) h5 h6 h9 h10 h15 h16 h19 h20).1
def offD (u : UV) : UInt64 := FP.ddiv (FP.l2d u.2.2.2.1) (FP.l2d u.2.2.2.2)
def chD (u w : UV) (v : UInt64) : UInt64 := FP.ddiv (FP.dmul (FP.dsub (FP.dadd (FP.ddiv (FP.dmul v (FP.l2d u.2.2.1.1)) (FP.l2d u.2.2.1.2)) (offD u)) (offD w)) (FP.l2d w.2.2.1.2)) (FP.l2d w.2.2.1.1)
theorem nzD {x : Int64} (h : 0 < x.toInt) : ¬ FP.Core.DZero (FP.l2d x) := fun k => FP.Core.l2d_ne_zero (v := x) (fun e => by rw [e] at h; exact absurd h (by decide)) ((FP.Core.zero_bits2 _).mp k)
theorem offD_fin {u : UV} (h : 0 < u.2.2.2.2.toInt) : FP.Core.DFin (offD u) := by
  have hb := FP.Core.l2d_big (v := u.2.2.2.2) (by omega)
  have := FP.Core.ddiv_mag (a := FP.l2d u.2.2.2.1) (b := FP.l2d u.2.2.2.2) (K := 1088) (L := 1023) (FP.Core.l2d_mag _) hb.1 hb.2 (by decide) (by decide)
  rw [FP.Core.fin_bits]
  have e : offD u = FP.Core.ddiv (FP.l2d u.2.2.2.1) (FP.l2d u.2.2.2.2) := rfl
  rw [e]
  omega
def nnD (v : UInt64) : Prop := FP.Core.val64 v ≠ .nan
theorem nnD_mul {a : UInt64} {x : Int64} (ha : nnD a) (hx : 0 < x.toInt) : nnD (FP.dmul a (FP.l2d x)) := (FP.Core.notNaN_iff _).mp (FP.Core.dmul_out' ((FP.Core.notNaN_iff _).mpr ha) (FP.Core.l2d_fin x) (nzD hx))
theorem nnD_div {a : UInt64} {x : Int64} (ha : nnD a) (hx : 0 < x.toInt) : nnD (FP.ddiv a (FP.l2d x)) := (FP.Core.notNaN_iff _).mp (FP.Core.ddiv_out ((FP.Core.notNaN_iff _).mpr ha) (FP.Core.l2d_fin x) (nzD hx))
theorem nnD_add {a b : UInt64} (ha : nnD a) (hb : FP.Core.DFin b) : nnD (FP.dadd a b) := (FP.Core.notNaN_iff _).mp (FP.Core.dadd_out ((FP.Core.notNaN_iff _).mpr ha) hb)
theorem nnD_sub {a b : UInt64} (ha : nnD a) (hb : FP.Core.DFin b) : nnD (FP.dsub a b) := (FP.Core.notNaN_iff _).mp (FP.Core.dsub_out ((FP.Core.notNaN_iff _).mpr ha) hb)
theorem chD_steps {u w : UV} {v r5 r6 r9 r10 r15 r16 r19 r20 : UInt64} (hu : okU u) (hw : okU w) (hv : nnD v) (h5 : alike64 r5 (FP.dmul v (FP.l2d u.2.2.1.1)) = true) (h6 : alike64 r6 (FP.ddiv r5 (FP.l2d u.2.2.1.2)) = true) (h9 : alike64 r9 (offD u) = true) (h10 : alike64 r10 (FP.dadd r6 r9) = true) (h15 : alike64 r15 (offD w) = true) (h16 : alike64 r16 (FP.dsub r10 r15) = true) (h19 : alike64 r19 (FP.dmul r16 (FP.l2d w.2.2.1.2)) = true) (h20 : alike64 r20 (FP.ddiv r19 (FP.l2d w.2.2.1.1)) = true) : r20 = chD u w v ∧ nnD (chD u w v) := by
  obtain ⟨-, -, -, -, u1, u2, u3⟩ := hu
  obtain ⟨-, -, -, -, w1, w2, w3⟩ := hw
  have n5 := nnD_mul hv u2
  have e5 := ali64 h5 n5
  subst e5
  have n6 := nnD_div n5 u1.1
  have e6 := ali64 h6 n6
  subst e6
  have f9 := offD_fin u3.1
  have e9 := ali64 h9 f9.ne_nan
  subst e9
  have n10 := nnD_add n6 f9
  have e10 := ali64 h10 n10
  subst e10
  have f15 := offD_fin w3.1
  have e15 := ali64 h15 f15.ne_nan
  subst e15
  have n16 := nnD_sub n10 f15
  have e16 := ali64 h16 n16
  subst e16
  have n19 := nnD_mul n16 w1.1
  have e19 := ali64 h19 n19
  subst e19
  have n20 := nnD_div n19 w2
  exact ⟨ali64 h20 n20, n20⟩
theorem chD_nan {u w : UV} {v r5 r6 r9 r10 r15 r16 r19 r20 : UInt64} (hv : FP.Core.val64 v = .nan) (h5 : alike64 r5 (FP.dmul v (FP.l2d u.2.2.1.1)) = true) (h6 : alike64 r6 (FP.ddiv r5 (FP.l2d u.2.2.1.2)) = true) (h10 : alike64 r10 (FP.dadd r6 r9) = true) (h16 : alike64 r16 (FP.dsub r10 r15) = true) (h19 : alike64 r19 (FP.dmul r16 (FP.l2d w.2.2.1.2)) = true) (h20 : alike64 r20 (FP.ddiv r19 (FP.l2d w.2.2.1.1)) = true) : FP.Core.val64 r20 = .nan := by
  have n5 := ali64n h5 (FP.Core.dmul_nan (Or.inl hv))
  have n6 := ali64n h6 ((FP.Core.dIsNaN_iff _).mp ((FP.Core.ddiv_nan_iff _ _).mpr (Or.inl n5)))
  have n10 := ali64n h10 (FP.Core.dadd_nan (Or.inl n6))
  have n16 := ali64n h16 ((FP.Core.dIsNaN_iff _).mp ((FP.Core.dsub_nan_iff _ _).mpr (Or.inl n10)))
  have n19 := ali64n h19 (FP.Core.dmul_nan (Or.inl n16))
  exact ali64n h20 ((FP.Core.dIsNaN_iff _).mp ((FP.Core.ddiv_nan_iff _ _).mpr (Or.inl n19)))
theorem K_inDoubles {d : Nat} {q : HP → UInt64 → Prop} {H : HP} {x y : Nat} {u w : UV} {v : UInt64} (su : shUnit H x) (sw : shUnit H y) (cu : CUn H x u) (cw : CUn H y w) (hu : okU u) (hw : okU w) (hv : nnD v) (hq : nnD (chD u w v) → q H (chD u w v)) : CD (d + 1) 0 0 mX8_inDoubles [.double v, rv (some x), rv (some y)] H q := by
  obtain ⟨s1, s2, s3, s4, s5, s6, s7, s8, s9⟩ := su
  obtain ⟨t1, t2, t3, t4, t5, t6, t7, t8, t9⟩ := sw
  have e1 : hL H 400 (x + 3) 0 = u.2.2.1.1 := congrArg (·.1) cu.2.2.2.1
  have e2 : hL H 401 (x + 3) 0 = u.2.2.1.2 := congrArg (·.2) cu.2.2.2.1
  have e3 : hL H 400 (x + 4) 0 = u.2.2.2.1 := congrArg (·.1) cu.2.2.2.2.1
  have e4 : hL H 401 (x + 4) 0 = u.2.2.2.2 := congrArg (·.2) cu.2.2.2.2.1
  have g1 : hL H 400 (y + 3) 0 = w.2.2.1.1 := congrArg (·.1) cw.2.2.2.1
  have g2 : hL H 401 (y + 3) 0 = w.2.2.1.2 := congrArg (·.2) cw.2.2.2.1
  have g3 : hL H 400 (y + 4) 0 = w.2.2.2.1 := congrArg (·.1) cw.2.2.2.2.1
  have g4 : hL H 401 (y + 4) 0 = w.2.2.2.2 := congrArg (·.2) cw.2.2.2.2.1
  refine C_X8_inDoubles ?_
  unfold wb_X8_inDoubles_0
  refine ⟨x, rfl, s1, x + 3, s6, s7, ?_⟩
  rw [e1, e2]
  refine fun r5 h5 r6 h6 => ⟨x + 4, s8, s9, ?_⟩
  rw [e3, e4]
  refine fun r9 h9 r10 h10 => ⟨y, rfl, t1, y + 4, t8, t9, ?_⟩
  rw [g3, g4]
  refine fun r15 h15 r16 h16 => ⟨y + 3, t6, t7, ?_⟩
  rw [g1, g2]
  refine fun r19 h19 r20 h20 => ?_
  obtain ⟨z1, z2⟩ := chD_steps hu hw hv h5 h6 h9 h10 h15 h16 h19 h20
  rw [z1]; exact hq z2
theorem K_changedWide {d m i j : Nat} {q : HP → UInt64 → Prop} {H : HP} {u w : UV} {v : UInt64} {o : Option UInt64} (sm : shM H m) (hi : i < 20) (hj : j < 20) (cu : MUn H m i u) (cw : MUn H m j w) (hu : okU u) (hw : okU w) (hv : mdv v o) (ho : ∀ z, o = some z → nnD z) (hq : ∀ r, mdv r (o.map (chD u w)) → q H r) : CD (d + 1) 0 0 mX12_changedWide [rv (some m), .double v, .int (Int32.ofNat i), .int (Int32.ofNat j)] H q := by
  obtain ⟨-, -, -, e1, e2, e3, e4⟩ := cu
  obtain ⟨-, -, -, g1, g2, g3, g4⟩ := cw
  obtain ⟨a1, a2, a3, a4⟩ := mA_factorUp sm
  obtain ⟨b1, b2, b3, b4⟩ := mA_factorLow sm
  obtain ⟨c1, c2, c3, c4⟩ := mA_offsetUp sm
  obtain ⟨d1, d2, d3, d4⟩ := mA_offsetLow sm
  have pi := vpi_of hi (by decide : (20 : Nat) < 2147483648)
  have pj := vpi_of hj (by decide : (20 : Nat) < 2147483648)
  refine C_X12_changedWide ?_
  unfold wb_X12_changedWide_0
  refine ⟨sm.1, m + 3, a1, a2, by rw [a4]; exact pi, ?_⟩
  rw [a3, iN_cl (by omega), e1]
  refine fun r5 h5 => ⟨m + 4, b1, b2, by rw [b4]; exact pi, ?_⟩
  rw [b3, e2]
  refine fun r6 h6 => ⟨m + 5, c1, c2, by rw [c4]; exact pi, m + 6, d1, d2, by rw [d4]; exact pi, ?_⟩
  rw [c3, d3, iN_cl (by omega), e3, e4, g3, g4, g1, a4, b4, c4, d4]
  refine fun r9 h9 r10 h10 => ⟨pj, pj, fun r15 h15 r16 h16 => ⟨pj, ?_⟩⟩
  rw [g2]
  refine fun r19 h19 => ⟨pj, fun r20 h20 => hq r20 ?_⟩
  cases o with
  | none => exact chD_nan (u := u) (w := w) hv h5 h6 h10 h16 h19 h20
  | some z =>
    have hv : v = z := hv
    subst hv
    exact (chD_steps hu hw (ho v rfl) h5 h6 h9 h10 h15 h16 h19 h20).1
