/-- UnitProverModel.added(IIII)I: the loop at 32 -/
def L_X12_added_32 (d : Nat) (q : HP → Int32 → Prop) (a0 : Nat) (x1 : Int32) (x2 : Int32) (x3 : Int32) (x4 : Int32) (x5 : Int32) (H : HP) : Prop := WP (d + 1) mX12_added 0 0 32 [(0, rv (some a0)), (1, .int x1), (2, .int x2), (3, .int x3), (4, .int x4), (5, .int x5)] [] H (qI q)
def wb_X12_added_0 (d : Nat) (q : HP → Int32 → Prop) (a0 : Nat) (x1 : Int32) (x2 : Int32) (x3 : Int32) (x4 : Int32) (H : HP) : Prop :=
  tg H a0 = 13 ∧ (CZ d 0 0 mX12_goesOn [rv (some a0)] H (fun H1 b3 => (b3 = true → tg H1 a0 = 13 ∧ (CZ d 0 0 mX12_areLikeSteps [rv (some a0), .int x1, .int x2] H1 (fun H4 b6 => (b6 = true → tg H4 a0 = 13 ∧ (CV d 0 0 mX12_clears [rv (some a0)] H4 (fun H7 => L_X12_added_32 d q a0 x1 x2 x3 x4 (0 : Int32) H7))) ∧ (b6 = false → tg H4 a0 = 13 ∧ (CI d 0 0 mX12_ends [rv (some a0), .int (-13 : Int32)] H4 (fun H9 r11 => q H9 r11)))))) ∧ (b3 = false → q H1 (-1 : Int32))))
set_option maxRecDepth 40000 in
set_option maxHeartbeats 4000000 in
theorem T_X12_added_0 {d : Nat} {q : HP → Int32 → Prop} {a0 : Nat} {x1 : Int32} {x2 : Int32} {x3 : Int32} {x4 : Int32} {H : HP} (h : wb_X12_added_0 d q a0 x1 x2 x3 x4 H) : WP (d + 1) mX12_added 0 0 0 [(0, rv (some a0)), (1, .int x1), (2, .int x2), (3, .int x3), (4, .int x4)] [] H (qI q) := by
  unfold wb_X12_added_0 at h
  refine wp_aload_n 0 dX12_added_0 rfl ?_
  obtain ⟨ht2, h⟩ := h
  refine wp_callV (ci := 12) (As := []) (rest := []) (mc := 0) (ms := 0) dX12_added_1 lk_X12_346 rfl rfl (by decide) rfl rfl rfl ht2 rfl rfl rfl w_7_149 (Call.weaken h ?_)
  rintro H1 _ ⟨b3, rfl, h⟩
  change WP _ _ _ _ _ _ [.int (bI b3)] H1 _
  refine wp_if_ne (tgt := 9) dX12_added_4 rfl (fun c => ?_) (fun c => ?_)
  · replace h := h.1 (bI_1.mp c)
    refine wp_aload_n 0 dX12_added_9 rfl ?_
    refine wp_iload_n 1 dX12_added_10 rfl ?_
    refine wp_iload_n 2 dX12_added_11 rfl ?_
    obtain ⟨ht5, h⟩ := h
    refine wp_callV (ci := 12) (As := [.int x1, .int x2]) (rest := []) (mc := 0) (ms := 0) dX12_added_12 lk_X12_377 rfl rfl (by decide) rfl rfl rfl ht5 rfl rfl rfl w_7_201 (Call.weaken h ?_)
    rintro H4 _ ⟨b6, rfl, h⟩
    change WP _ _ _ _ _ _ [.int (bI b6)] H4 _
    refine wp_if_ne (tgt := 25) dX12_added_15 rfl (fun c => ?_) (fun c => ?_)
    · replace h := h.1 (bI_1.mp c)
      refine wp_aload_n 0 dX12_added_25 rfl ?_
      obtain ⟨ht8, h⟩ := h
      refine wp_callV (ci := 12) (As := []) (rest := []) (mc := 0) (ms := 0) dX12_added_26 lk_X12_323 rfl rfl (by decide) rfl rfl rfl ht8 rfl rfl rfl w_7_157 (Call.weaken h ?_)
      rintro H7 _ ⟨rfl, h⟩
      change WP _ _ _ _ _ _ [] H7 _
      refine wp_iconst (v := (0 : Int32)) dX12_added_29 (by decide) ?_
      refine wp_istore (ls' := [(5, .int (0 : Int32)), (0, rv (some a0)), (1, .int x1), (2, .int x2), (3, .int x3), (4, .int x4)]) dX12_added_30 (by decide) rfl ?_
      refine wp_sub (ls' := [(0, rv (some a0)), (1, .int x1), (2, .int x2), (3, .int x3), (4, .int x4), (5, .int (0 : Int32))]) [1, 2, 3, 4, 5, 0] rfl ?_
      exact h
    · replace h := h.2 (bI_0.mp c)
      refine wp_aload_n 0 dX12_added_18 rfl ?_
      refine wp_bipush (v := (-13 : Int32)) dX12_added_19 (by decide) ?_
      obtain ⟨ht10, h⟩ := h
      refine wp_callV (ci := 12) (As := [.int (-13 : Int32)]) (rest := []) (mc := 0) (ms := 0) dX12_added_21 lk_X12_326 rfl rfl (by decide) rfl rfl rfl ht10 rfl rfl rfl w_7_177 (Call.weaken h ?_)
      rintro H9 _ ⟨r11, rfl, h⟩
      change WP _ _ _ _ _ _ [.int r11] H9 _
      exact wp_ireturn (ty := .int) dX12_added_24 rfl rfl ⟨_, rfl, h⟩
  · replace h := h.2 (bI_0.mp c)
    refine wp_iconst (v := (-1 : Int32)) dX12_added_7 (by decide) ?_
    exact wp_ireturn (ty := .int) dX12_added_8 rfl rfl ⟨_, rfl, h⟩
def wb_X12_added_32 (d : Nat) (q : HP → Int32 → Prop) (a0 : Nat) (x1 : Int32) (x2 : Int32) (x3 : Int32) (x4 : Int32) (x5 : Int32) (H : HP) : Prop :=
  ((5 : Int32) ≤ x5 → tg H a0 = 13 ∧ (∃ a2, (hC H 1347 a0) = some a2 ∧ (isA H a2 3 ∧ (vp_in x1 (ln H a2) ∧ (∃ a5, (hC H 1348 a0) = some a5 ∧ (isA H a5 3 ∧ (vp_in x1 (ln H a5) ∧ (vp_in x2 (ln H a2) ∧ (vp_in x2 (ln H a5) ∧ (CV d 0 0 mX12_plus [rv (some a0), .long (hL H (tg H a2) a2 x1.toNatClampNeg), .long (hL H (tg H a5) a5 x1.toNatClampNeg), .long (hL H (tg H a2) a2 x2.toNatClampNeg), .long (hL H (tg H a5) a5 x2.toNatClampNeg), .int x3] H (fun H10 => tg H10 a0 = 13 ∧ (((hI H10 1321 a0 0) = 0 → CI d 0 0 mX12_stepComes [rv (some a0), .int x4] H10 (fun H12 r13 => q H12 r13)) ∧ (¬ ((hI H10 1321 a0 0) = 0) → CI d 0 0 mX12_ends [rv (some a0), .int (-15 : Int32)] H10 (fun H14 r15 => q H14 r15)))))))))))))) ∧ (¬ ((5 : Int32) ≤ x5) → tg H a0 = 13 ∧ (∃ a17, (hC H 1346 a0) = some a17 ∧ (isA H a17 0 ∧ (vp_in (((5 : Int32) * x1) + x5) (ln H a17) ∧ (∃ a20, (hC H 1337 a0) = some a20 ∧ (isA H a20 0 ∧ (vp_in x5 (ln H a20) ∧ (L_X12_added_32 d q a0 x1 x2 x3 x4 (x5 + 1) (sI H (tg H a20) a20 x5.toNatClampNeg (hI H (tg H a17) a17 (((5 : Int32) * x1) + x5).toNatClampNeg))))))))))
set_option maxRecDepth 40000 in
set_option maxHeartbeats 4000000 in
theorem T_X12_added_32 {d : Nat} {q : HP → Int32 → Prop} {a0 : Nat} {x1 : Int32} {x2 : Int32} {x3 : Int32} {x4 : Int32} {x5 : Int32} {H : HP} (h : wb_X12_added_32 d q a0 x1 x2 x3 x4 x5 H) : L_X12_added_32 d q a0 x1 x2 x3 x4 x5 H := by
  unfold wb_X12_added_32 at h
  unfold L_X12_added_32
  refine wp_iload 5 dX12_added_32 rfl ?_
  refine wp_iconst (v := (5 : Int32)) dX12_added_34 (by decide) ?_
  refine wp_icmp_ge (tgt := 62) dX12_added_35 rfl (fun c => ?_) (fun c => ?_)
  · replace h := h.1 c
    refine wp_aload_n 0 dX12_added_62 rfl ?_
    refine wp_aload_n 0 dX12_added_63 rfl ?_
    obtain ⟨ht1, h⟩ := h
    refine wp_getC (ci := 12) (j := 47) dX12_added_64 fi_X12_83r rfl rfl ht1 ?_
    change WP _ _ _ _ _ _ (rv (hC H 1347 a0) :: _) _ _
    refine wp_iload_n 1 dX12_added_67 rfl ?_
    obtain ⟨a2, ha2, h⟩ := h
    obtain ⟨hr3, h⟩ := h
    obtain ⟨hg4, h⟩ := h
    refine wp_laload dX12_added_68 ha2 hr3 hg4 ?_
    refine wp_aload_n 0 dX12_added_69 rfl ?_
    refine wp_getC (ci := 12) (j := 48) dX12_added_70 fi_X12_86r rfl rfl ht1 ?_
    change WP _ _ _ _ _ _ (rv (hC H 1348 a0) :: _) _ _
    refine wp_iload_n 1 dX12_added_73 rfl ?_
    obtain ⟨a5, ha5, h⟩ := h
    obtain ⟨hr6, h⟩ := h
    obtain ⟨hg7, h⟩ := h
    refine wp_laload dX12_added_74 ha5 hr6 hg7 ?_
    refine wp_aload_n 0 dX12_added_75 rfl ?_
    refine wp_getC (ci := 12) (j := 47) dX12_added_76 fi_X12_83r rfl rfl ht1 ?_
    change WP _ _ _ _ _ _ (rv (hC H 1347 a0) :: _) _ _
    refine wp_iload_n 2 dX12_added_79 rfl ?_
    obtain ⟨hg8, h⟩ := h
    refine wp_laload dX12_added_80 ha2 hr3 hg8 ?_
    refine wp_aload_n 0 dX12_added_81 rfl ?_
    refine wp_getC (ci := 12) (j := 48) dX12_added_82 fi_X12_86r rfl rfl ht1 ?_
    change WP _ _ _ _ _ _ (rv (hC H 1348 a0) :: _) _ _
    refine wp_iload_n 2 dX12_added_85 rfl ?_
    obtain ⟨hg9, h⟩ := h
    refine wp_laload dX12_added_86 ha5 hr6 hg9 ?_
    refine wp_iload_n 3 dX12_added_87 rfl ?_
    refine wp_callV (ci := 12) (As := [.long (hL H (tg H a2) a2 x1.toNatClampNeg), .long (hL H (tg H a5) a5 x1.toNatClampNeg), .long (hL H (tg H a2) a2 x2.toNatClampNeg), .long (hL H (tg H a5) a5 x2.toNatClampNeg), .int x3]) (rest := []) (mc := 0) (ms := 0) dX12_added_88 lk_X12_329 rfl rfl (by decide) rfl rfl rfl ht1 rfl rfl rfl w_7_181 (Call.weaken h ?_)
    rintro H10 _ ⟨rfl, h⟩
    change WP _ _ _ _ _ _ [] H10 _
    refine wp_aload_n 0 dX12_added_91 rfl ?_
    obtain ⟨ht11, h⟩ := h
    refine wp_getI (ci := 12) (j := 21) dX12_added_92 fi_X12_133r rfl rfl ht11 ?_
    change WP _ _ _ _ _ _ (.int (hI H10 1321 a0 0) :: _) _ _
    refine wp_if_eq (tgt := 107) dX12_added_95 rfl (fun c => ?_) (fun c => ?_)
    · replace h := h.1 c
      refine wp_aload_n 0 dX12_added_107 rfl ?_
      refine wp_iload 4 dX12_added_108 rfl ?_
      refine wp_callV (ci := 12) (As := [.int x4]) (rest := []) (mc := 0) (ms := 0) dX12_added_110 lk_X12_333 rfl rfl (by decide) rfl rfl rfl ht11 rfl rfl rfl w_7_161 (Call.weaken h ?_)
      rintro H12 _ ⟨r13, rfl, h⟩
      change WP _ _ _ _ _ _ [.int r13] H12 _
      exact wp_ireturn (ty := .int) dX12_added_113 rfl rfl ⟨_, rfl, h⟩
    · replace h := h.2 c
      refine wp_aload_n 0 dX12_added_98 rfl ?_
      refine wp_bipush (v := (-15 : Int32)) dX12_added_99 (by decide) ?_
      refine wp_callV (ci := 12) (As := [.int (-15 : Int32)]) (rest := []) (mc := 0) (ms := 0) dX12_added_101 lk_X12_326 rfl rfl (by decide) rfl rfl rfl ht11 rfl rfl rfl w_7_177 (Call.weaken h ?_)
      rintro H14 _ ⟨r15, rfl, h⟩
      change WP _ _ _ _ _ _ [.int r15] H14 _
      refine wp_goto (tgt := 113) dX12_added_104 rfl ?_
      exact wp_ireturn (ty := .int) dX12_added_113 rfl rfl ⟨_, rfl, h⟩
  · replace h := h.2 c
    refine wp_aload_n 0 dX12_added_38 rfl ?_
    obtain ⟨ht16, h⟩ := h
    refine wp_getC (ci := 12) (j := 37) dX12_added_39 fi_X12_74r rfl rfl ht16 ?_
    change WP _ _ _ _ _ _ (rv (hC H 1337 a0) :: _) _ _
    refine wp_iload 5 dX12_added_42 rfl ?_
    refine wp_aload_n 0 dX12_added_44 rfl ?_
    refine wp_getC (ci := 12) (j := 46) dX12_added_45 fi_X12_80r rfl rfl ht16 ?_
    change WP _ _ _ _ _ _ (rv (hC H 1346 a0) :: _) _ _
    refine wp_iconst (v := (5 : Int32)) dX12_added_48 (by decide) ?_
    refine wp_iload_n 1 dX12_added_49 rfl ?_
    refine wp_imul dX12_added_50 ?_
    refine wp_iload 5 dX12_added_51 rfl ?_
    refine wp_iadd dX12_added_53 ?_
    obtain ⟨a17, ha17, h⟩ := h
    obtain ⟨hr18, h⟩ := h
    obtain ⟨hg19, h⟩ := h
    refine wp_iaload dX12_added_54 ha17 hr18 hg19 ?_
    obtain ⟨a20, ha20, h⟩ := h
    obtain ⟨hr21, h⟩ := h
    obtain ⟨hg22, h⟩ := h
    refine wp_iastore dX12_added_55 ha20 hr21 hg22 ?_
    change WP _ _ _ _ _ _ _ (sI H (tg H a20) a20 x5.toNatClampNeg (hI H (tg H a17) a17 (((5 : Int32) * x1) + x5).toNatClampNeg)) _
    refine wp_iinc (v := (x5 + 1)) (ls' := [(5, .int (x5 + 1)), (0, rv (some a0)), (1, .int x1), (2, .int x2), (3, .int x3), (4, .int x4)]) 5 dX12_added_56 rfl rfl (by decide) rfl ?_
    refine wp_goto (tgt := 32) dX12_added_59 rfl ?_
    refine wp_sub (ls' := [(0, rv (some a0)), (1, .int x1), (2, .int x2), (3, .int x3), (4, .int x4), (5, .int (x5 + 1))]) [1, 2, 3, 4, 5, 0] rfl ?_
    exact h
theorem C_X12_added {d : Nat} {q : HP → Int32 → Prop} {a0 : Nat} {x1 : Int32} {x2 : Int32} {x3 : Int32} {x4 : Int32} {H : HP} (h : wb_X12_added_0 d q a0 x1 x2 x3 x4 H) : CI (d + 1) 0 0 mX12_added [rv (some a0), .int x1, .int x2, .int x3, .int x4] H q := by
  refine call_of (by decide +kernel) (by simp [lg_sl, rv_cat, vc_int, vc_long, vc_float, vc_double]) ?_
  have e : lv_args 0 [rv (some a0), .int x1, .int x2, .int x3, .int x4] = [(0, rv (some a0)), (1, .int x1), (2, .int x2), (3, .int x3), (4, .int x4)] := by simp [lv_args, rv_cat, vc_int, vc_long, vc_float, vc_double]
  rw [e]
  exact T_X12_added_0 h
/-- UnitProverModel.added(I)J: the loop at 30 -/
def L_X12_added__30 (d : Nat) (q : HP → Int64 → Prop) (a0 : Nat) (x1 : Int32) (x2 : UInt32) (x3 : UInt64) (x5 : Int32) (H : HP) : Prop := WP (d + 1) mX12_added_ 0 0 30 [(0, rv (some a0)), (1, .int x1), (2, .float x2), (3, .double x3), (5, .int x5)] [] H (qJ q)
def wb_X12_added__0 (d : Nat) (q : HP → Int64 → Prop) (a0 : Nat) (x1 : Int32) (H : HP) : Prop :=
  CZ d 0 0 mX12_isTrack [.int x1] H (fun H1 b2 => (b2 = false → q H1 (-9223372036854775808 : Int64)) ∧ (b2 = true → tg H1 a0 = 13 ∧ (∃ a4, (hC H1 1357 a0) = some a4 ∧ (isA H1 a4 0 ∧ (vp_in x1 (ln H1 a4) ∧ ((0 ≤ (hI H1 (tg H1 a4) a4 x1.toNatClampNeg) → L_X12_added__30 d q a0 x1 FP.fconst0 FP.dconst0 ((30 : Int32) * x1) H1) ∧ (¬ (0 ≤ (hI H1 (tg H1 a4) a4 x1.toNatClampNeg)) → q H1 (-9223372036854775808 : Int64))))))))
set_option maxRecDepth 40000 in
set_option maxHeartbeats 4000000 in
theorem T_X12_added__0 {d : Nat} {q : HP → Int64 → Prop} {a0 : Nat} {x1 : Int32} {H : HP} (h : wb_X12_added__0 d q a0 x1 H) : WP (d + 1) mX12_added_ 0 0 0 [(0, rv (some a0)), (1, .int x1)] [] H (qJ q) := by
  unfold wb_X12_added__0 at h
  refine wp_iload_n 1 dX12_added__0 rfl ?_
  refine wp_callS (As := [.int x1]) (rest := []) (mc := 0) (ms := 0) dX12_added__1 lk_X12_463 rfl rfl (by decide) rfl rfl rfl (Call.weaken h ?_)
  rintro H1 _ ⟨b2, rfl, h⟩
  change WP _ _ _ _ _ _ [.int (bI b2)] H1 _
  refine wp_if_eq (tgt := 16) dX12_added__4 rfl (fun c => ?_) (fun c => ?_)
  · replace h := h.1 (bI_0.mp c)
    refine wp_ldc2 dX12_added__16 w_7_55 ?_
    exact wp_lreturn dX12_added__19 rfl ⟨_, rfl, h⟩
  · replace h := h.2 (bI_1.mp c)
    refine wp_aload_n 0 dX12_added__7 rfl ?_
    obtain ⟨ht3, h⟩ := h
    refine wp_getC (ci := 12) (j := 57) dX12_added__8 fi_X12_107r rfl rfl ht3 ?_
    change WP _ _ _ _ _ _ (rv (hC H1 1357 a0) :: _) _ _
    refine wp_iload_n 1 dX12_added__11 rfl ?_
    obtain ⟨a4, ha4, h⟩ := h
    obtain ⟨hr5, h⟩ := h
    obtain ⟨hg6, h⟩ := h
    refine wp_iaload dX12_added__12 ha4 hr5 hg6 ?_
    refine wp_if_ge (tgt := 20) dX12_added__13 rfl (fun c => ?_) (fun c => ?_)
    · replace h := h.1 c
      refine wp_fconst0 dX12_added__20 ?_
      refine wp_fstore_n (ls' := [(2, .float FP.fconst0), (0, rv (some a0)), (1, .int x1)]) dX12_added__21 (by decide) rfl ?_
      refine wp_dconst0 dX12_added__22 ?_
      refine wp_dstore_n (ls' := [(3, .double FP.dconst0), (2, .float FP.fconst0), (0, rv (some a0)), (1, .int x1)]) dX12_added__23 (by decide) rfl ?_
      refine wp_bipush (v := (30 : Int32)) dX12_added__24 (by decide) ?_
      refine wp_iload_n 3 dX12_added__26 rfl ?_
      refine wp_imul dX12_added__27 ?_
      refine wp_istore (ls' := [(5, .int ((30 : Int32) * x1)), (3, .double FP.dconst0), (2, .float FP.fconst0), (0, rv (some a0)), (1, .int x1)]) dX12_added__28 (by decide) rfl ?_
      refine wp_sub (ls' := [(0, rv (some a0)), (1, .int x1), (2, .float FP.fconst0), (3, .double FP.dconst0), (5, .int ((30 : Int32) * x1))]) [3, 4, 2, 1, 0] rfl ?_
      exact h
    · replace h := h.2 c
      refine wp_ldc2 dX12_added__16 w_7_55 ?_
      exact wp_lreturn dX12_added__19 rfl ⟨_, rfl, h⟩
def wb_X12_added__30 (d : Nat) (q : HP → Int64 → Prop) (a0 : Nat) (x1 : Int32) (x2 : UInt32) (x3 : UInt64) (x5 : Int32) (H : HP) : Prop :=
  tg H a0 = 13 ∧ (∃ a2, (hC H 1358 a0) = some a2 ∧ (isA H a2 0 ∧ (vp_in x1 (ln H a2) ∧ (((((30 : Int32) * x1) + (hI H (tg H a2) a2 x1.toNatClampNeg)) ≤ x5 → ∃ a5, (hC H 1357 a0) = some a5 ∧ (isA H a5 0 ∧ (vp_in x1 (ln H a5) ∧ ((¬ (hI H (tg H a5) a5 x1.toNatClampNeg) = 0 → CJ d 0 0 mJxe99ae_doubleToLongBits_ccdee [.double x3] H (fun H8 r9 => q H8 r9)) ∧ ((hI H (tg H a5) a5 x1.toNatClampNeg) = 0 → CI d 0 0 mJxf58ca_floatToIntBits_5c35a [.float x2] H (fun H10 r11 => q H10 (r11.toInt64))))))) ∧ (¬ ((((30 : Int32) * x1) + (hI H (tg H a2) a2 x1.toNatClampNeg)) ≤ x5) → ∃ a12, (hC H 1359 a0) = some a12 ∧ (isA H a12 4 ∧ (vp_in x5 (ln H a12) ∧ (∀ r15, alike32 r15 (FP.fadd x2 (hF H (tg H a12) a12 x5.toNatClampNeg)) = true → (∃ a16, (hC H 1360 a0) = some a16 ∧ (isA H a16 5 ∧ (vp_in x5 (ln H a16) ∧ (∀ r19, alike64 r19 (FP.dadd x3 (hD H (tg H a16) a16 x5.toNatClampNeg)) = true → (L_X12_added__30 d q a0 x1 r15 r19 (x5 + 1) H)))))))))))))
set_option maxRecDepth 40000 in
set_option maxHeartbeats 4000000 in
theorem T_X12_added__30 {d : Nat} {q : HP → Int64 → Prop} {a0 : Nat} {x1 : Int32} {x2 : UInt32} {x3 : UInt64} {x5 : Int32} {H : HP} (h : wb_X12_added__30 d q a0 x1 x2 x3 x5 H) : L_X12_added__30 d q a0 x1 x2 x3 x5 H := by
  unfold wb_X12_added__30 at h
  unfold L_X12_added__30
  refine wp_iload 4 dX12_added__30 rfl ?_
  refine wp_bipush (v := (30 : Int32)) dX12_added__32 (by decide) ?_
  refine wp_iload_n 1 dX12_added__34 rfl ?_
  refine wp_imul dX12_added__35 ?_
  refine wp_aload_n 0 dX12_added__36 rfl ?_
  obtain ⟨ht1, h⟩ := h
  refine wp_getC (ci := 12) (j := 58) dX12_added__37 fi_X12_110r rfl rfl ht1 ?_
  change WP _ _ _ _ _ _ (rv (hC H 1358 a0) :: _) _ _
  refine wp_iload_n 1 dX12_added__40 rfl ?_
  obtain ⟨a2, ha2, h⟩ := h
  obtain ⟨hr3, h⟩ := h
  obtain ⟨hg4, h⟩ := h
  refine wp_iaload dX12_added__41 ha2 hr3 hg4 ?_
  refine wp_iadd dX12_added__42 ?_
  refine wp_icmp_ge (tgt := 72) dX12_added__43 rfl (fun c => ?_) (fun c => ?_)
  · replace h := h.1 c
    refine wp_aload_n 0 dX12_added__72 rfl ?_
    refine wp_getC (ci := 12) (j := 57) dX12_added__73 fi_X12_107r rfl rfl ht1 ?_
    change WP _ _ _ _ _ _ (rv (hC H 1357 a0) :: _) _ _
    refine wp_iload_n 1 dX12_added__76 rfl ?_
    obtain ⟨a5, ha5, h⟩ := h
    obtain ⟨hr6, h⟩ := h
    obtain ⟨hg7, h⟩ := h
    refine wp_iaload dX12_added__77 ha5 hr6 hg7 ?_
    refine wp_if_ne (tgt := 89) dX12_added__78 rfl (fun c => ?_) (fun c => ?_)
    · replace h := h.1 c
      refine wp_dload_n 3 dX12_added__89 rfl ?_
      refine wp_callS (As := [.double x3]) (rest := []) (mc := 0) (ms := 0) dX12_added__90 lk_X12_425 rfl rfl (by decide) rfl rfl rfl (Call.weaken h ?_)
      rintro H8 _ ⟨r9, rfl, h⟩
      change WP _ _ _ _ _ _ [.long r9] H8 _
      exact wp_lreturn dX12_added__93 rfl ⟨_, rfl, h⟩
    · replace h := h.2 c
      refine wp_fload_n 2 dX12_added__81 rfl ?_
      refine wp_callS (As := [.float x2]) (rest := []) (mc := 0) (ms := 0) dX12_added__82 lk_X12_431 rfl rfl (by decide) rfl rfl rfl (Call.weaken h ?_)
      rintro H10 _ ⟨r11, rfl, h⟩
      change WP _ _ _ _ _ _ [.int r11] H10 _
      refine wp_i2l dX12_added__85 ?_
      refine wp_goto (tgt := 93) dX12_added__86 rfl ?_
      exact wp_lreturn dX12_added__93 rfl ⟨_, rfl, h⟩
  · replace h := h.2 c
    refine wp_fload_n 2 dX12_added__46 rfl ?_
    refine wp_aload_n 0 dX12_added__47 rfl ?_
    refine wp_getC (ci := 12) (j := 59) dX12_added__48 fi_X12_113r rfl rfl ht1 ?_
    change WP _ _ _ _ _ _ (rv (hC H 1359 a0) :: _) _ _
    refine wp_iload 4 dX12_added__51 rfl ?_
    obtain ⟨a12, ha12, h⟩ := h
    obtain ⟨hr13, h⟩ := h
    obtain ⟨hg14, h⟩ := h
    refine wp_faload dX12_added__53 ha12 hr13 hg14 ?_
    refine wp_fadd dX12_added__54 (fun r15 hr15 => ?_)
    replace h := h r15 hr15
    refine wp_fstore_n (ls' := [(2, .float r15), (0, rv (some a0)), (1, .int x1), (3, .double x3), (5, .int x5)]) dX12_added__55 (by decide) rfl ?_
    refine wp_dload_n 3 dX12_added__56 rfl ?_
    refine wp_aload_n 1 dX12_added__57 rfl ?_
    refine wp_getC (ci := 12) (j := 60) dX12_added__58 fi_X12_117r rfl rfl ht1 ?_
    change WP _ _ _ _ _ _ (rv (hC H 1360 a0) :: _) _ _
    refine wp_iload 4 dX12_added__61 rfl ?_
    obtain ⟨a16, ha16, h⟩ := h
    obtain ⟨hr17, h⟩ := h
    obtain ⟨hg18, h⟩ := h
    refine wp_daload dX12_added__63 ha16 hr17 hg18 ?_
    refine wp_dadd dX12_added__64 (fun r19 hr19 => ?_)
    replace h := h r19 hr19
    refine wp_dstore_n (ls' := [(3, .double r19), (2, .float r15), (0, rv (some a0)), (1, .int x1), (5, .int x5)]) dX12_added__65 (by decide) rfl ?_
    refine wp_iinc (v := (x5 + 1)) (ls' := [(5, .int (x5 + 1)), (3, .double r19), (2, .float r15), (0, rv (some a0)), (1, .int x1)]) 4 dX12_added__66 rfl rfl (by decide) rfl ?_
    refine wp_goto (tgt := 30) dX12_added__69 rfl ?_
    refine wp_sub (ls' := [(0, rv (some a0)), (1, .int x1), (2, .float r15), (3, .double r19), (5, .int (x5 + 1))]) [3, 4, 2, 1, 0] rfl ?_
    exact h
theorem C_X12_added_ {d : Nat} {q : HP → Int64 → Prop} {a0 : Nat} {x1 : Int32} {H : HP} (h : wb_X12_added__0 d q a0 x1 H) : CJ (d + 1) 0 0 mX12_added_ [rv (some a0), .int x1] H q := by
  refine call_of (by decide +kernel) (by simp [lg_sl, rv_cat, vc_int, vc_long, vc_float, vc_double]) ?_
  have e : lv_args 0 [rv (some a0), .int x1] = [(0, rv (some a0)), (1, .int x1)] := by simp [lv_args, rv_cat, vc_int, vc_long, vc_float, vc_double]
  rw [e]
  exact T_X12_added__0 h
/-- UnitProverModel.amount()J: the loop at 60 -/
def L_X12_amount_60 (d : Nat) (q : HP → Int64 → Prop) (x1 : Int64) (x4 : Int32) (x5 : Int32) (H : HP) : Prop := WP (d + 1) mX12_amount 0 0 60 [(1, .long x1), (4, .int x4), (5, .int x5)] [] H (qJ q)
def wb_X12_amount_0 (d : Nat) (q : HP → Int64 → Prop) (a0 : Nat) (H : HP) : Prop :=
  tg H a0 = 13 ∧ (CI d 0 0 mX12_figures [rv (some a0), .int (6 : Int32)] H (fun H1 r3 => tg H1 a0 = 13 ∧ ((0 ≤ (hI H1 1325 a0 0) → q H1 ((r3.toInt64) * (1000 : Int64))) ∧ (¬ (0 ≤ (hI H1 1325 a0 0)) → CI d 0 0 mX12_here [rv (some a0)] H1 (fun H5 r6 => (r6 = (46 : Int32) → tg H5 a0 = 13 ∧ (CI d 0 0 mX12_figures [rv (some a0), .int (3 : Int32)] (sI H5 1324 a0 0 ((hI H5 1324 a0 0) + (1 : Int32))) (fun H8 r9 => tg H8 a0 = 13 ∧ (L_X12_amount_60 d q ((r3.toInt64) * (1000 : Int64)) r9 ((hI H8 1324 a0 0) - (hI (sI H5 1324 a0 0 ((hI H5 1324 a0 0) + (1 : Int32))) 1324 a0 0)) H8)))) ∧ (¬ (r6 = (46 : Int32)) → q H5 ((r3.toInt64) * (1000 : Int64))))))))
set_option maxRecDepth 40000 in
set_option maxHeartbeats 4000000 in
theorem T_X12_amount_0 {d : Nat} {q : HP → Int64 → Prop} {a0 : Nat} {H : HP} (h : wb_X12_amount_0 d q a0 H) : WP (d + 1) mX12_amount 0 0 0 [(0, rv (some a0))] [] H (qJ q) := by
  unfold wb_X12_amount_0 at h
  refine wp_aload_n 0 dX12_amount_0 rfl ?_
  refine wp_bipush (v := (6 : Int32)) dX12_amount_1 (by decide) ?_
  obtain ⟨ht2, h⟩ := h
  refine wp_callV (ci := 12) (As := [.int (6 : Int32)]) (rest := []) (mc := 0) (ms := 0) dX12_amount_3 lk_X12_206 rfl rfl (by decide) rfl rfl rfl ht2 rfl rfl rfl w_6_220 (Call.weaken h ?_)
  rintro H1 _ ⟨r3, rfl, h⟩
  change WP _ _ _ _ _ _ [.int r3] H1 _
  refine wp_i2l dX12_amount_6 ?_
  refine wp_ldc2 dX12_amount_7 w_7_148 ?_
  refine wp_lmul dX12_amount_10 ?_
  refine wp_lstore_n (ls' := [(1, .long ((r3.toInt64) * (1000 : Int64))), (0, rv (some a0))]) dX12_amount_11 (by decide) rfl ?_
  refine wp_aload_n 1 dX12_amount_12 rfl ?_
  obtain ⟨ht4, h⟩ := h
  refine wp_getI (ci := 12) (j := 25) dX12_amount_13 fi_X12_189r rfl rfl ht4 ?_
  change WP _ _ _ _ _ _ (.int (hI H1 1325 a0 0) :: _) _ _
  refine wp_if_ge (tgt := 28) dX12_amount_16 rfl (fun c => ?_) (fun c => ?_)
  · replace h := h.1 c
    refine wp_lload_n 0 dX12_amount_28 rfl ?_
    exact wp_lreturn dX12_amount_29 rfl ⟨_, rfl, h⟩
  · replace h := h.2 c
    refine wp_aload_n 1 dX12_amount_19 rfl ?_
    refine wp_callV (ci := 12) (As := []) (rest := []) (mc := 0) (ms := 0) dX12_amount_20 lk_X12_177 rfl rfl (by decide) rfl rfl rfl ht4 rfl rfl rfl w_6_206 (Call.weaken h ?_)
    rintro H5 _ ⟨r6, rfl, h⟩
    change WP _ _ _ _ _ _ [.int r6] H5 _
    refine wp_bipush (v := (46 : Int32)) dX12_amount_23 (by decide) ?_
    refine wp_icmp_eq (tgt := 30) dX12_amount_25 rfl (fun c => ?_) (fun c => ?_)
    · replace h := h.1 c
      refine wp_aload_n 1 dX12_amount_30 rfl ?_
      refine wp_dup dX12_amount_31 (rv_cat _) ?_
      obtain ⟨ht7, h⟩ := h
      refine wp_getI (ci := 12) (j := 24) dX12_amount_32 fi_X12_174r rfl rfl ht7 ?_
      change WP _ _ _ _ _ _ (.int (hI H5 1324 a0 0) :: _) _ _
      refine wp_iconst (v := (1 : Int32)) dX12_amount_35 (by decide) ?_
      refine wp_iadd dX12_amount_36 ?_
      refine wp_putI (ci := 12) (j := 24) dX12_amount_37 fi_X12_174 rfl (fun z => by cases z) rfl ht7 rfl rfl ?_
      change WP _ _ _ _ _ _ _ (sI H5 1324 a0 0 ((hI H5 1324 a0 0) + (1 : Int32))) _
      refine wp_aload_n 1 dX12_amount_40 rfl ?_
      refine wp_getI (ci := 12) (j := 24) dX12_amount_41 fi_X12_174r rfl rfl ht7 ?_
      change WP _ _ _ _ _ _ (.int (hI (sI H5 1324 a0 0 ((hI H5 1324 a0 0) + (1 : Int32))) 1324 a0 0) :: _) _ _
      refine wp_istore_n (ls' := [(3, .int (hI (sI H5 1324 a0 0 ((hI H5 1324 a0 0) + (1 : Int32))) 1324 a0 0)), (1, .long ((r3.toInt64) * (1000 : Int64))), (0, rv (some a0))]) dX12_amount_44 (by decide) rfl ?_
      refine wp_aload_n 2 dX12_amount_45 rfl ?_
      refine wp_iconst (v := (3 : Int32)) dX12_amount_46 (by decide) ?_
      refine wp_callV (ci := 12) (As := [.int (3 : Int32)]) (rest := []) (mc := 0) (ms := 0) dX12_amount_47 lk_X12_206 rfl rfl (by decide) rfl rfl rfl ht7 rfl rfl rfl w_6_220 (Call.weaken h ?_)
      rintro H8 _ ⟨r9, rfl, h⟩
      change WP _ _ _ _ _ _ [.int r9] H8 _
      refine wp_istore (ls' := [(4, .int r9), (3, .int (hI (sI H5 1324 a0 0 ((hI H5 1324 a0 0) + (1 : Int32))) 1324 a0 0)), (1, .long ((r3.toInt64) * (1000 : Int64))), (0, rv (some a0))]) dX12_amount_50 (by decide) rfl ?_
      refine wp_aload_n 3 dX12_amount_52 rfl ?_
      obtain ⟨ht10, h⟩ := h
      refine wp_getI (ci := 12) (j := 24) dX12_amount_53 fi_X12_174r rfl rfl ht10 ?_
      change WP _ _ _ _ _ _ (.int (hI H8 1324 a0 0) :: _) _ _
      refine wp_iload_n 1 dX12_amount_56 rfl ?_
      refine wp_isub dX12_amount_57 ?_
      refine wp_istore (ls' := [(5, .int ((hI H8 1324 a0 0) - (hI (sI H5 1324 a0 0 ((hI H5 1324 a0 0) + (1 : Int32))) 1324 a0 0))), (4, .int r9), (3, .int (hI (sI H5 1324 a0 0 ((hI H5 1324 a0 0) + (1 : Int32))) 1324 a0 0)), (1, .long ((r3.toInt64) * (1000 : Int64))), (0, rv (some a0))]) dX12_amount_58 (by decide) rfl ?_
      refine wp_sub (ls' := [(1, .long ((r3.toInt64) * (1000 : Int64))), (4, .int r9), (5, .int ((hI H8 1324 a0 0) - (hI (sI H5 1324 a0 0 ((hI H5 1324 a0 0) + (1 : Int32))) 1324 a0 0)))]) [3, 1, 0] rfl ?_
      exact h
    · replace h := h.2 c
      refine wp_lload_n 0 dX12_amount_28 rfl ?_
      exact wp_lreturn dX12_amount_29 rfl ⟨_, rfl, h⟩
def wb_X12_amount_60 (d : Nat) (q : HP → Int64 → Prop) (x1 : Int64) (x4 : Int32) (x5 : Int32) (H : HP) : Prop :=
  ((3 : Int32) ≤ x5 → q H (x1 + (x4.toInt64))) ∧ (¬ ((3 : Int32) ≤ x5) → L_X12_amount_60 d q x1 (x4 * (10 : Int32)) (x5 + 1) H)
set_option maxRecDepth 40000 in
set_option maxHeartbeats 4000000 in
theorem T_X12_amount_60 {d : Nat} {q : HP → Int64 → Prop} {x1 : Int64} {x4 : Int32} {x5 : Int32} {H : HP} (h : wb_X12_amount_60 d q x1 x4 x5 H) : L_X12_amount_60 d q x1 x4 x5 H := by
  unfold wb_X12_amount_60 at h
  unfold L_X12_amount_60
  refine wp_iload 2 dX12_amount_60 rfl ?_
  refine wp_iconst (v := (3 : Int32)) dX12_amount_62 (by decide) ?_
  refine wp_icmp_ge (tgt := 79) dX12_amount_63 rfl (fun c => ?_) (fun c => ?_)
  · replace h := h.1 c
    refine wp_lload_n 0 dX12_amount_79 rfl ?_
    refine wp_iload 1 dX12_amount_80 rfl ?_
    refine wp_i2l dX12_amount_82 ?_
    refine wp_ladd dX12_amount_83 ?_
    exact wp_lreturn dX12_amount_84 rfl ⟨_, rfl, h⟩
  · replace h := h.2 c
    refine wp_iload 1 dX12_amount_66 rfl ?_
    refine wp_bipush (v := (10 : Int32)) dX12_amount_68 (by decide) ?_
    refine wp_imul dX12_amount_70 ?_
    refine wp_istore (ls' := [(4, .int (x4 * (10 : Int32))), (1, .long x1), (5, .int x5)]) dX12_amount_71 (by decide) rfl ?_
    refine wp_iinc (v := (x5 + 1)) (ls' := [(5, .int (x5 + 1)), (4, .int (x4 * (10 : Int32))), (1, .long x1)]) 2 dX12_amount_73 rfl rfl (by decide) rfl ?_
    refine wp_goto (tgt := 60) dX12_amount_76 rfl ?_
    refine wp_sub (ls' := [(1, .long x1), (4, .int (x4 * (10 : Int32))), (5, .int (x5 + 1))]) [2, 1, 0] rfl ?_
    exact h
theorem C_X12_amount {d : Nat} {q : HP → Int64 → Prop} {a0 : Nat} {H : HP} (h : wb_X12_amount_0 d q a0 H) : CJ (d + 1) 0 0 mX12_amount [rv (some a0)] H q := by
  refine call_of (by decide +kernel) (by simp [lg_sl, rv_cat, vc_int, vc_long, vc_float, vc_double]) ?_
  have e : lv_args 0 [rv (some a0)] = [(0, rv (some a0))] := by simp [lv_args, rv_cat, vc_int, vc_long, vc_float, vc_double]
  rw [e]
  exact T_X12_amount_0 h
/-- UnitProverModel.areBound(III)Z: the loop at 3 -/
def L_X12_areBound_3 (d : Nat) (q : HP → Bool → Prop) (a0 : Nat) (x1 : Int32) (x2 : Int32) (x3 : Int32) (x4 : Int32) (H : HP) : Prop := WP (d + 1) mX12_areBound 0 0 3 [(0, rv (some a0)), (1, .int x1), (2, .int x2), (3, .int x3), (4, .int x4)] [] H (qZ q)
/-- UnitProverModel.areBound(III)Z: the loop at 35 -/
def L_X12_areBound_35 (d : Nat) (q : HP → Bool → Prop) (a0 : Nat) (x1 : Int32) (x3 : Int32) (x4 : Int32) (H : HP) : Prop := WP (d + 1) mX12_areBound 0 0 35 [(0, rv (some a0)), (1, .int x1), (3, .int x3), (4, .int x4)] [] H (qZ q)
/-- UnitProverModel.areBound(III)Z: the loop at 46 -/
def L_X12_areBound_46 (d : Nat) (q : HP → Bool → Prop) (a0 : Nat) (x1 : Int32) (x3 : Int32) (x4 : Int32) (x5 : Int32) (H : HP) : Prop := WP (d + 1) mX12_areBound 0 0 46 [(0, rv (some a0)), (1, .int x1), (3, .int x3), (4, .int x4), (5, .int x5)] [] H (qZ q)
def wb_X12_areBound_0 (d : Nat) (q : HP → Bool → Prop) (a0 : Nat) (x1 : Int32) (x2 : Int32) (x3 : Int32) (H : HP) : Prop :=
  L_X12_areBound_3 d q a0 x1 x2 x3 (0 : Int32) H
set_option maxRecDepth 40000 in
set_option maxHeartbeats 4000000 in
theorem T_X12_areBound_0 {d : Nat} {q : HP → Bool → Prop} {a0 : Nat} {x1 : Int32} {x2 : Int32} {x3 : Int32} {H : HP} (h : wb_X12_areBound_0 d q a0 x1 x2 x3 H) : WP (d + 1) mX12_areBound 0 0 0 [(0, rv (some a0)), (1, .int x1), (2, .int x2), (3, .int x3)] [] H (qZ q) := by
  unfold wb_X12_areBound_0 at h
  refine wp_iconst (v := (0 : Int32)) dX12_areBound_0 (by decide) ?_
  refine wp_istore (ls' := [(4, .int (0 : Int32)), (0, rv (some a0)), (1, .int x1), (2, .int x2), (3, .int x3)]) dX12_areBound_1 (by decide) rfl ?_
  refine wp_sub (ls' := [(0, rv (some a0)), (1, .int x1), (2, .int x2), (3, .int x3), (4, .int (0 : Int32))]) [1, 2, 3, 4, 0] rfl ?_
  exact h
def wb_X12_areBound_3 (d : Nat) (q : HP → Bool → Prop) (a0 : Nat) (x1 : Int32) (x2 : Int32) (x3 : Int32) (x4 : Int32) (H : HP) : Prop :=
  ((20 : Int32) ≤ x4 → tg H a0 = 13 ∧ (∃ a2, (hC H 1355 a0) = some a2 ∧ (isA H a2 0 ∧ (vp_in x2 (ln H a2) ∧ (L_X12_areBound_35 d q a0 x1 x3 (1 : Int32) (sI H (tg H a2) a2 x2.toNatClampNeg (16 : Int32))))))) ∧ (¬ ((20 : Int32) ≤ x4) → tg H a0 = 13 ∧ (∃ a6, (hC H 1355 a0) = some a6 ∧ (isA H a6 0 ∧ (vp_in x4 (ln H a6) ∧ (L_X12_areBound_3 d q a0 x1 x2 x3 (x4 + 1) (sI H (tg H a6) a6 x4.toNatClampNeg (-1 : Int32)))))))
set_option maxRecDepth 40000 in
set_option maxHeartbeats 4000000 in
theorem T_X12_areBound_3 {d : Nat} {q : HP → Bool → Prop} {a0 : Nat} {x1 : Int32} {x2 : Int32} {x3 : Int32} {x4 : Int32} {H : HP} (h : wb_X12_areBound_3 d q a0 x1 x2 x3 x4 H) : L_X12_areBound_3 d q a0 x1 x2 x3 x4 H := by
  unfold wb_X12_areBound_3 at h
  unfold L_X12_areBound_3
  refine wp_iload 4 dX12_areBound_3 rfl ?_
  refine wp_bipush (v := (20 : Int32)) dX12_areBound_5 (by decide) ?_
  refine wp_icmp_ge (tgt := 24) dX12_areBound_7 rfl (fun c => ?_) (fun c => ?_)
  · replace h := h.1 c
    refine wp_aload_n 0 dX12_areBound_24 rfl ?_
    obtain ⟨ht1, h⟩ := h
    refine wp_getC (ci := 12) (j := 55) dX12_areBound_25 fi_X12_101r rfl rfl ht1 ?_
    change WP _ _ _ _ _ _ (rv (hC H 1355 a0) :: _) _ _
    refine wp_iload_n 2 dX12_areBound_28 rfl ?_
    refine wp_bipush (v := (16 : Int32)) dX12_areBound_29 (by decide) ?_
    obtain ⟨a2, ha2, h⟩ := h
    obtain ⟨hr3, h⟩ := h
    obtain ⟨hg4, h⟩ := h
    refine wp_iastore dX12_areBound_31 ha2 hr3 hg4 ?_
    change WP _ _ _ _ _ _ _ (sI H (tg H a2) a2 x2.toNatClampNeg (16 : Int32)) _
    refine wp_iconst (v := (1 : Int32)) dX12_areBound_32 (by decide) ?_
    refine wp_istore (ls' := [(4, .int (1 : Int32)), (0, rv (some a0)), (1, .int x1), (2, .int x2), (3, .int x3)]) dX12_areBound_33 (by decide) rfl ?_
    refine wp_sub (ls' := [(0, rv (some a0)), (1, .int x1), (3, .int x3), (4, .int (1 : Int32))]) [1, 2, 4, 0] rfl ?_
    exact h
  · replace h := h.2 c
    refine wp_aload_n 0 dX12_areBound_10 rfl ?_
    obtain ⟨ht5, h⟩ := h
    refine wp_getC (ci := 12) (j := 55) dX12_areBound_11 fi_X12_101r rfl rfl ht5 ?_
    change WP _ _ _ _ _ _ (rv (hC H 1355 a0) :: _) _ _
    refine wp_iload 4 dX12_areBound_14 rfl ?_
    refine wp_iconst (v := (-1 : Int32)) dX12_areBound_16 (by decide) ?_
    obtain ⟨a6, ha6, h⟩ := h
    obtain ⟨hr7, h⟩ := h
    obtain ⟨hg8, h⟩ := h
    refine wp_iastore dX12_areBound_17 ha6 hr7 hg8 ?_
    change WP _ _ _ _ _ _ _ (sI H (tg H a6) a6 x4.toNatClampNeg (-1 : Int32)) _
    refine wp_iinc (v := (x4 + 1)) (ls' := [(4, .int (x4 + 1)), (0, rv (some a0)), (1, .int x1), (2, .int x2), (3, .int x3)]) 4 dX12_areBound_18 rfl rfl (by decide) rfl ?_
    refine wp_goto (tgt := 3) dX12_areBound_21 rfl ?_
    refine wp_sub (ls' := [(0, rv (some a0)), (1, .int x1), (2, .int x2), (3, .int x3), (4, .int (x4 + 1))]) [1, 2, 3, 4, 0] rfl ?_
    exact h
def wb_X12_areBound_35 (d : Nat) (q : HP → Bool → Prop) (a0 : Nat) (x1 : Int32) (x3 : Int32) (x4 : Int32) (H : HP) : Prop :=
  (x4 = 0 → tg H a0 = 13 ∧ (∃ a2, (hC H 1355 a0) = some a2 ∧ (isA H a2 0 ∧ (vp_in x1 (ln H a2) ∧ (((hI H (tg H a2) a2 x1.toNatClampNeg) < 0 → q H false) ∧ (¬ ((hI H (tg H a2) a2 x1.toNatClampNeg) < 0) → q H true)))))) ∧ (¬ (x4 = 0) → L_X12_areBound_46 d q a0 x1 x3 (0 : Int32) (0 : Int32) H)
set_option maxRecDepth 40000 in
set_option maxHeartbeats 4000000 in
theorem T_X12_areBound_35 {d : Nat} {q : HP → Bool → Prop} {a0 : Nat} {x1 : Int32} {x3 : Int32} {x4 : Int32} {H : HP} (h : wb_X12_areBound_35 d q a0 x1 x3 x4 H) : L_X12_areBound_35 d q a0 x1 x3 x4 H := by
  unfold wb_X12_areBound_35 at h
  unfold L_X12_areBound_35
  refine wp_iload 3 dX12_areBound_35 rfl ?_
  refine wp_if_eq (tgt := 165) dX12_areBound_37 rfl (fun c => ?_) (fun c => ?_)
  · replace h := h.1 c
    refine wp_aload_n 0 dX12_areBound_165 rfl ?_
    obtain ⟨ht1, h⟩ := h
    refine wp_getC (ci := 12) (j := 55) dX12_areBound_166 fi_X12_101r rfl rfl ht1 ?_
    change WP _ _ _ _ _ _ (rv (hC H 1355 a0) :: _) _ _
    refine wp_iload_n 1 dX12_areBound_169 rfl ?_
    obtain ⟨a2, ha2, h⟩ := h
    obtain ⟨hr3, h⟩ := h
    obtain ⟨hg4, h⟩ := h
    refine wp_iaload dX12_areBound_170 ha2 hr3 hg4 ?_
    refine wp_if_lt (tgt := 178) dX12_areBound_171 rfl (fun c => ?_) (fun c => ?_)
    · replace h := h.1 c
      refine wp_iconst (v := (0 : Int32)) dX12_areBound_178 (by decide) ?_
      exact wp_ireturn (ty := .boolean) dX12_areBound_179 rfl rfl ⟨false, rfl, h⟩
    · replace h := h.2 c
      refine wp_iconst (v := (1 : Int32)) dX12_areBound_174 (by decide) ?_
      refine wp_goto (tgt := 179) dX12_areBound_175 rfl ?_
      exact wp_ireturn (ty := .boolean) dX12_areBound_179 rfl rfl ⟨true, rfl, h⟩
  · replace h := h.2 c
    refine wp_iconst (v := (0 : Int32)) dX12_areBound_40 (by decide) ?_
    refine wp_istore (ls' := [(4, .int (0 : Int32)), (0, rv (some a0)), (1, .int x1), (3, .int x3)]) dX12_areBound_41 (by decide) rfl ?_
    refine wp_iconst (v := (0 : Int32)) dX12_areBound_43 (by decide) ?_
    refine wp_istore (ls' := [(5, .int (0 : Int32)), (4, .int (0 : Int32)), (0, rv (some a0)), (1, .int x1), (3, .int x3)]) dX12_areBound_44 (by decide) rfl ?_
    refine wp_sub (ls' := [(0, rv (some a0)), (1, .int x1), (3, .int x3), (4, .int (0 : Int32)), (5, .int (0 : Int32))]) [2, 3, 4, 1, 0] rfl ?_
    exact h
def wb_X12_areBound_46 (d : Nat) (q : HP → Bool → Prop) (a0 : Nat) (x1 : Int32) (x3 : Int32) (x4 : Int32) (x5 : Int32) (H : HP) : Prop :=
  (x3 ≤ x5 → L_X12_areBound_35 d q a0 x1 x3 x4 H) ∧ (¬ (x3 ≤ x5) → tg H a0 = 13 ∧ (∃ a2, (hC H 1308 a0) = some a2 ∧ (isA H a2 0 ∧ (vp_in ((4 : Int32) * x5) (ln H a2) ∧ (vp_in (((4 : Int32) * x5) + (1 : Int32)) (ln H a2) ∧ (∃ a6, (hC H 1354 a0) = some a6 ∧ (isA H a6 0 ∧ (vp_in x5 (ln H a6) ∧ ((¬ (hI H (tg H a6) a6 x5.toNatClampNeg) = 0 → L_X12_areBound_46 d q a0 x1 x3 x4 (x5 + 1) H) ∧ ((hI H (tg H a6) a6 x5.toNatClampNeg) = 0 → ∃ a9, (hC H 1355 a0) = some a9 ∧ (isA H a9 0 ∧ (vp_in (hI H (tg H a2) a2 ((4 : Int32) * x5).toNatClampNeg) (ln H a9) ∧ ((0 ≤ (hI H (tg H a9) a9 (hI H (tg H a2) a2 ((4 : Int32) * x5).toNatClampNeg).toNatClampNeg) → vp_in (hI H (tg H a2) a2 (((4 : Int32) * x5) + (1 : Int32)).toNatClampNeg) (ln H a9) ∧ ((0 ≤ (hI H (tg H a9) a9 (hI H (tg H a2) a2 (((4 : Int32) * x5) + (1 : Int32)).toNatClampNeg).toNatClampNeg) → (¬ (0 : Int32) = (0 : Int32) → vp_in (hI H (tg H a2) a2 ((4 : Int32) * x5).toNatClampNeg) (ln H a9) ∧ ((0 ≤ (hI H (tg H a9) a9 (hI H (tg H a2) a2 ((4 : Int32) * x5).toNatClampNeg).toNatClampNeg) → vp_in (hI H (tg H a2) a2 (((4 : Int32) * x5) + (1 : Int32)).toNatClampNeg) (ln H a9) ∧ (L_X12_areBound_46 d q a0 x1 x3 (1 : Int32) (x5 + 1) (sI H (tg H a9) a9 (hI H (tg H a2) a2 (((4 : Int32) * x5) + (1 : Int32)).toNatClampNeg).toNatClampNeg x5))) ∧ (¬ (0 ≤ (hI H (tg H a9) a9 (hI H (tg H a2) a2 ((4 : Int32) * x5).toNatClampNeg).toNatClampNeg)) → vp_in (hI H (tg H a2) a2 ((4 : Int32) * x5).toNatClampNeg) (ln H a9) ∧ (L_X12_areBound_46 d q a0 x1 x3 (1 : Int32) (x5 + 1) (sI H (tg H a9) a9 (hI H (tg H a2) a2 ((4 : Int32) * x5).toNatClampNeg).toNatClampNeg x5))))) ∧ ((0 : Int32) = (0 : Int32) → L_X12_areBound_46 d q a0 x1 x3 x4 (x5 + 1) H)) ∧ (¬ (0 ≤ (hI H (tg H a9) a9 (hI H (tg H a2) a2 (((4 : Int32) * x5) + (1 : Int32)).toNatClampNeg).toNatClampNeg)) → (¬ (0 : Int32) = (1 : Int32) → vp_in (hI H (tg H a2) a2 ((4 : Int32) * x5).toNatClampNeg) (ln H a9) ∧ ((0 ≤ (hI H (tg H a9) a9 (hI H (tg H a2) a2 ((4 : Int32) * x5).toNatClampNeg).toNatClampNeg) → vp_in (hI H (tg H a2) a2 (((4 : Int32) * x5) + (1 : Int32)).toNatClampNeg) (ln H a9) ∧ (L_X12_areBound_46 d q a0 x1 x3 (1 : Int32) (x5 + 1) (sI H (tg H a9) a9 (hI H (tg H a2) a2 (((4 : Int32) * x5) + (1 : Int32)).toNatClampNeg).toNatClampNeg x5))) ∧ (¬ (0 ≤ (hI H (tg H a9) a9 (hI H (tg H a2) a2 ((4 : Int32) * x5).toNatClampNeg).toNatClampNeg)) → vp_in (hI H (tg H a2) a2 ((4 : Int32) * x5).toNatClampNeg) (ln H a9) ∧ (L_X12_areBound_46 d q a0 x1 x3 (1 : Int32) (x5 + 1) (sI H (tg H a9) a9 (hI H (tg H a2) a2 ((4 : Int32) * x5).toNatClampNeg).toNatClampNeg x5))))) ∧ ((0 : Int32) = (1 : Int32) → L_X12_areBound_46 d q a0 x1 x3 x4 (x5 + 1) H)))) ∧ (¬ (0 ≤ (hI H (tg H a9) a9 (hI H (tg H a2) a2 ((4 : Int32) * x5).toNatClampNeg).toNatClampNeg)) → vp_in (hI H (tg H a2) a2 (((4 : Int32) * x5) + (1 : Int32)).toNatClampNeg) (ln H a9) ∧ ((0 ≤ (hI H (tg H a9) a9 (hI H (tg H a2) a2 (((4 : Int32) * x5) + (1 : Int32)).toNatClampNeg).toNatClampNeg) → (¬ (1 : Int32) = (0 : Int32) → vp_in (hI H (tg H a2) a2 ((4 : Int32) * x5).toNatClampNeg) (ln H a9) ∧ ((0 ≤ (hI H (tg H a9) a9 (hI H (tg H a2) a2 ((4 : Int32) * x5).toNatClampNeg).toNatClampNeg) → vp_in (hI H (tg H a2) a2 (((4 : Int32) * x5) + (1 : Int32)).toNatClampNeg) (ln H a9) ∧ (L_X12_areBound_46 d q a0 x1 x3 (1 : Int32) (x5 + 1) (sI H (tg H a9) a9 (hI H (tg H a2) a2 (((4 : Int32) * x5) + (1 : Int32)).toNatClampNeg).toNatClampNeg x5))) ∧ (¬ (0 ≤ (hI H (tg H a9) a9 (hI H (tg H a2) a2 ((4 : Int32) * x5).toNatClampNeg).toNatClampNeg)) → vp_in (hI H (tg H a2) a2 ((4 : Int32) * x5).toNatClampNeg) (ln H a9) ∧ (L_X12_areBound_46 d q a0 x1 x3 (1 : Int32) (x5 + 1) (sI H (tg H a9) a9 (hI H (tg H a2) a2 ((4 : Int32) * x5).toNatClampNeg).toNatClampNeg x5))))) ∧ ((1 : Int32) = (0 : Int32) → L_X12_areBound_46 d q a0 x1 x3 x4 (x5 + 1) H)) ∧ (¬ (0 ≤ (hI H (tg H a9) a9 (hI H (tg H a2) a2 (((4 : Int32) * x5) + (1 : Int32)).toNatClampNeg).toNatClampNeg)) → (¬ (1 : Int32) = (1 : Int32) → vp_in (hI H (tg H a2) a2 ((4 : Int32) * x5).toNatClampNeg) (ln H a9) ∧ ((0 ≤ (hI H (tg H a9) a9 (hI H (tg H a2) a2 ((4 : Int32) * x5).toNatClampNeg).toNatClampNeg) → vp_in (hI H (tg H a2) a2 (((4 : Int32) * x5) + (1 : Int32)).toNatClampNeg) (ln H a9) ∧ (L_X12_areBound_46 d q a0 x1 x3 (1 : Int32) (x5 + 1) (sI H (tg H a9) a9 (hI H (tg H a2) a2 (((4 : Int32) * x5) + (1 : Int32)).toNatClampNeg).toNatClampNeg x5))) ∧ (¬ (0 ≤ (hI H (tg H a9) a9 (hI H (tg H a2) a2 ((4 : Int32) * x5).toNatClampNeg).toNatClampNeg)) → vp_in (hI H (tg H a2) a2 ((4 : Int32) * x5).toNatClampNeg) (ln H a9) ∧ (L_X12_areBound_46 d q a0 x1 x3 (1 : Int32) (x5 + 1) (sI H (tg H a9) a9 (hI H (tg H a2) a2 ((4 : Int32) * x5).toNatClampNeg).toNatClampNeg x5))))) ∧ ((1 : Int32) = (1 : Int32) → L_X12_areBound_46 d q a0 x1 x3 x4 (x5 + 1) H)))))))))))))))))
set_option maxRecDepth 40000 in
set_option maxHeartbeats 4000000 in
theorem T_X12_areBound_46 {d : Nat} {q : HP → Bool → Prop} {a0 : Nat} {x1 : Int32} {x3 : Int32} {x4 : Int32} {x5 : Int32} {H : HP} (h : wb_X12_areBound_46 d q a0 x1 x3 x4 x5 H) : L_X12_areBound_46 d q a0 x1 x3 x4 x5 H := by
  unfold wb_X12_areBound_46 at h
  unfold L_X12_areBound_46
  refine wp_iload 4 dX12_areBound_46 rfl ?_
  refine wp_iload_n 2 dX12_areBound_48 rfl ?_
  refine wp_icmp_ge (tgt := 162) dX12_areBound_49 rfl (fun c => ?_) (fun c => ?_)
  · replace h := h.1 c
    refine wp_goto (tgt := 35) dX12_areBound_162 rfl ?_
    refine wp_sub (ls' := [(0, rv (some a0)), (1, .int x1), (3, .int x3), (4, .int x4)]) [0, 1, 2, 3] rfl ?_
    exact h
  · replace h := h.2 c
    refine wp_aload_n 0 dX12_areBound_52 rfl ?_
    obtain ⟨ht1, h⟩ := h
    refine wp_getC (ci := 12) (j := 8) dX12_areBound_53 fi_X12_35r rfl rfl ht1 ?_
    change WP _ _ _ _ _ _ (rv (hC H 1308 a0) :: _) _ _
    refine wp_iconst (v := (4 : Int32)) dX12_areBound_56 (by decide) ?_
    refine wp_iload 4 dX12_areBound_57 rfl ?_
    refine wp_imul dX12_areBound_59 ?_
    obtain ⟨a2, ha2, h⟩ := h
    obtain ⟨hr3, h⟩ := h
    obtain ⟨hg4, h⟩ := h
    refine wp_iaload dX12_areBound_60 ha2 hr3 hg4 ?_
    refine wp_istore (ls' := [(6, .int (hI H (tg H a2) a2 ((4 : Int32) * x5).toNatClampNeg)), (0, rv (some a0)), (1, .int x1), (3, .int x3), (4, .int x4), (5, .int x5)]) dX12_areBound_61 (by decide) rfl ?_
    refine wp_aload_n 1 dX12_areBound_63 rfl ?_
    refine wp_getC (ci := 12) (j := 8) dX12_areBound_64 fi_X12_35r rfl rfl ht1 ?_
    change WP _ _ _ _ _ _ (rv (hC H 1308 a0) :: _) _ _
    refine wp_iconst (v := (4 : Int32)) dX12_areBound_67 (by decide) ?_
    refine wp_iload 5 dX12_areBound_68 rfl ?_
    refine wp_imul dX12_areBound_70 ?_
    refine wp_iconst (v := (1 : Int32)) dX12_areBound_71 (by decide) ?_
    refine wp_iadd dX12_areBound_72 ?_
    obtain ⟨hg5, h⟩ := h
    refine wp_iaload dX12_areBound_73 ha2 hr3 hg5 ?_
    refine wp_istore (ls' := [(7, .int (hI H (tg H a2) a2 (((4 : Int32) * x5) + (1 : Int32)).toNatClampNeg)), (6, .int (hI H (tg H a2) a2 ((4 : Int32) * x5).toNatClampNeg)), (0, rv (some a0)), (1, .int x1), (3, .int x3), (4, .int x4), (5, .int x5)]) dX12_areBound_74 (by decide) rfl ?_
    refine wp_aload_n 2 dX12_areBound_76 rfl ?_
    refine wp_getC (ci := 12) (j := 54) dX12_areBound_77 fi_X12_98r rfl rfl ht1 ?_
    change WP _ _ _ _ _ _ (rv (hC H 1354 a0) :: _) _ _
    refine wp_iload 6 dX12_areBound_80 rfl ?_
    obtain ⟨a6, ha6, h⟩ := h
    obtain ⟨hr7, h⟩ := h
    obtain ⟨hg8, h⟩ := h
    refine wp_iaload dX12_areBound_82 ha6 hr7 hg8 ?_
    refine wp_if_ne (tgt := 156) dX12_areBound_83 rfl (fun c => ?_) (fun c => ?_)
    · replace h := h.1 c
      refine wp_iinc (v := (x5 + 1)) (ls' := [(5, .int (x5 + 1)), (7, .int (hI H (tg H a2) a2 (((4 : Int32) * x5) + (1 : Int32)).toNatClampNeg)), (6, .int (hI H (tg H a2) a2 ((4 : Int32) * x5).toNatClampNeg)), (0, rv (some a0)), (1, .int x1), (3, .int x3), (4, .int x4)]) 6 dX12_areBound_156 rfl rfl (by decide) rfl ?_
      refine wp_goto (tgt := 46) dX12_areBound_159 rfl ?_
      refine wp_sub (ls' := [(0, rv (some a0)), (1, .int x1), (3, .int x3), (4, .int x4), (5, .int (x5 + 1))]) [3, 4, 5, 6, 0] rfl ?_
      exact h
    · replace h := h.2 c
      refine wp_aload_n 2 dX12_areBound_86 rfl ?_
      refine wp_getC (ci := 12) (j := 55) dX12_areBound_87 fi_X12_101r rfl rfl ht1 ?_
      change WP _ _ _ _ _ _ (rv (hC H 1355 a0) :: _) _ _
      refine wp_iload 1 dX12_areBound_90 rfl ?_
      obtain ⟨a9, ha9, h⟩ := h
      obtain ⟨hr10, h⟩ := h
      obtain ⟨hg11, h⟩ := h
      refine wp_iaload dX12_areBound_92 ha9 hr10 hg11 ?_
      refine wp_if_ge (tgt := 100) dX12_areBound_93 rfl (fun c => ?_) (fun c => ?_)
      · replace h := h.1 c
        refine wp_iconst (v := (0 : Int32)) dX12_areBound_100 (by decide) ?_
        refine wp_aload_n 2 dX12_areBound_101 rfl ?_
        refine wp_getC (ci := 12) (j := 55) dX12_areBound_102 fi_X12_101r rfl rfl ht1 ?_
        change WP _ _ _ _ _ _ (rv (hC H 1355 a0) :: _) _ _
        refine wp_iload 0 dX12_areBound_105 rfl ?_
        obtain ⟨hg12, h⟩ := h
        refine wp_iaload dX12_areBound_107 ha9 hr10 hg12 ?_
        refine wp_if_ge (tgt := 115) dX12_areBound_108 rfl (fun c => ?_) (fun c => ?_)
        · replace h := h.1 c
          refine wp_iconst (v := (0 : Int32)) dX12_areBound_115 (by decide) ?_
          refine wp_icmp_ne (tgt := 122) dX12_areBound_116 rfl (fun c => ?_) (fun c => ?_)
          · replace h := h.1 c
            refine wp_aload_n 2 dX12_areBound_122 rfl ?_
            refine wp_getC (ci := 12) (j := 55) dX12_areBound_123 fi_X12_101r rfl rfl ht1 ?_
            change WP _ _ _ _ _ _ (rv (hC H 1355 a0) :: _) _ _
            refine wp_iload 1 dX12_areBound_126 rfl ?_
            obtain ⟨hg13, h⟩ := h
            refine wp_iaload dX12_areBound_128 ha9 hr10 hg13 ?_
            refine wp_if_ge (tgt := 144) dX12_areBound_129 rfl (fun c => ?_) (fun c => ?_)
            · replace h := h.1 c
              refine wp_aload_n 2 dX12_areBound_144 rfl ?_
              refine wp_getC (ci := 12) (j := 55) dX12_areBound_145 fi_X12_101r rfl rfl ht1 ?_
              change WP _ _ _ _ _ _ (rv (hC H 1355 a0) :: _) _ _
              refine wp_iload 0 dX12_areBound_148 rfl ?_
              refine wp_iload 6 dX12_areBound_150 rfl ?_
              obtain ⟨hg14, h⟩ := h
              refine wp_iastore dX12_areBound_152 ha9 hr10 hg14 ?_
              change WP _ _ _ _ _ _ _ (sI H (tg H a9) a9 (hI H (tg H a2) a2 (((4 : Int32) * x5) + (1 : Int32)).toNatClampNeg).toNatClampNeg x5) _
              refine wp_iconst (v := (1 : Int32)) dX12_areBound_153 (by decide) ?_
              refine wp_istore (ls' := [(4, .int (1 : Int32)), (7, .int (hI H (tg H a2) a2 (((4 : Int32) * x5) + (1 : Int32)).toNatClampNeg)), (6, .int (hI H (tg H a2) a2 ((4 : Int32) * x5).toNatClampNeg)), (0, rv (some a0)), (1, .int x1), (3, .int x3), (5, .int x5)]) dX12_areBound_154 (by decide) rfl ?_
              refine wp_iinc (v := (x5 + 1)) (ls' := [(5, .int (x5 + 1)), (4, .int (1 : Int32)), (7, .int (hI H (tg H a2) a2 (((4 : Int32) * x5) + (1 : Int32)).toNatClampNeg)), (6, .int (hI H (tg H a2) a2 ((4 : Int32) * x5).toNatClampNeg)), (0, rv (some a0)), (1, .int x1), (3, .int x3)]) 6 dX12_areBound_156 rfl rfl (by decide) rfl ?_
              refine wp_goto (tgt := 46) dX12_areBound_159 rfl ?_
              refine wp_sub (ls' := [(0, rv (some a0)), (1, .int x1), (3, .int x3), (4, .int (1 : Int32)), (5, .int (x5 + 1))]) [4, 5, 6, 1, 0] rfl ?_
              exact h
            · replace h := h.2 c
              refine wp_aload_n 2 dX12_areBound_132 rfl ?_
              refine wp_getC (ci := 12) (j := 55) dX12_areBound_133 fi_X12_101r rfl rfl ht1 ?_
              change WP _ _ _ _ _ _ (rv (hC H 1355 a0) :: _) _ _
              refine wp_iload 1 dX12_areBound_136 rfl ?_
              refine wp_iload 6 dX12_areBound_138 rfl ?_
              obtain ⟨hg15, h⟩ := h
              refine wp_iastore dX12_areBound_140 ha9 hr10 hg15 ?_
              change WP _ _ _ _ _ _ _ (sI H (tg H a9) a9 (hI H (tg H a2) a2 ((4 : Int32) * x5).toNatClampNeg).toNatClampNeg x5) _
              refine wp_goto (tgt := 153) dX12_areBound_141 rfl ?_
              refine wp_iconst (v := (1 : Int32)) dX12_areBound_153 (by decide) ?_
              refine wp_istore (ls' := [(4, .int (1 : Int32)), (7, .int (hI H (tg H a2) a2 (((4 : Int32) * x5) + (1 : Int32)).toNatClampNeg)), (6, .int (hI H (tg H a2) a2 ((4 : Int32) * x5).toNatClampNeg)), (0, rv (some a0)), (1, .int x1), (3, .int x3), (5, .int x5)]) dX12_areBound_154 (by decide) rfl ?_
              refine wp_iinc (v := (x5 + 1)) (ls' := [(5, .int (x5 + 1)), (4, .int (1 : Int32)), (7, .int (hI H (tg H a2) a2 (((4 : Int32) * x5) + (1 : Int32)).toNatClampNeg)), (6, .int (hI H (tg H a2) a2 ((4 : Int32) * x5).toNatClampNeg)), (0, rv (some a0)), (1, .int x1), (3, .int x3)]) 6 dX12_areBound_156 rfl rfl (by decide) rfl ?_
              refine wp_goto (tgt := 46) dX12_areBound_159 rfl ?_
              refine wp_sub (ls' := [(0, rv (some a0)), (1, .int x1), (3, .int x3), (4, .int (1 : Int32)), (5, .int (x5 + 1))]) [4, 5, 6, 1, 0] rfl ?_
              exact h
          · replace h := h.2 c
            refine wp_goto (tgt := 156) dX12_areBound_119 rfl ?_
            refine wp_iinc (v := (x5 + 1)) (ls' := [(5, .int (x5 + 1)), (7, .int (hI H (tg H a2) a2 (((4 : Int32) * x5) + (1 : Int32)).toNatClampNeg)), (6, .int (hI H (tg H a2) a2 ((4 : Int32) * x5).toNatClampNeg)), (0, rv (some a0)), (1, .int x1), (3, .int x3), (4, .int x4)]) 6 dX12_areBound_156 rfl rfl (by decide) rfl ?_
            refine wp_goto (tgt := 46) dX12_areBound_159 rfl ?_
            refine wp_sub (ls' := [(0, rv (some a0)), (1, .int x1), (3, .int x3), (4, .int x4), (5, .int (x5 + 1))]) [3, 4, 5, 6, 0] rfl ?_
            exact h
        · replace h := h.2 c
          refine wp_iconst (v := (1 : Int32)) dX12_areBound_111 (by decide) ?_
          refine wp_goto (tgt := 116) dX12_areBound_112 rfl ?_
          refine wp_icmp_ne (tgt := 122) dX12_areBound_116 rfl (fun c => ?_) (fun c => ?_)
          · replace h := h.1 c
            refine wp_aload_n 2 dX12_areBound_122 rfl ?_
            refine wp_getC (ci := 12) (j := 55) dX12_areBound_123 fi_X12_101r rfl rfl ht1 ?_
            change WP _ _ _ _ _ _ (rv (hC H 1355 a0) :: _) _ _
            refine wp_iload 1 dX12_areBound_126 rfl ?_
            obtain ⟨hg16, h⟩ := h
            refine wp_iaload dX12_areBound_128 ha9 hr10 hg16 ?_
            refine wp_if_ge (tgt := 144) dX12_areBound_129 rfl (fun c => ?_) (fun c => ?_)
            · replace h := h.1 c
              refine wp_aload_n 2 dX12_areBound_144 rfl ?_
              refine wp_getC (ci := 12) (j := 55) dX12_areBound_145 fi_X12_101r rfl rfl ht1 ?_
              change WP _ _ _ _ _ _ (rv (hC H 1355 a0) :: _) _ _
              refine wp_iload 0 dX12_areBound_148 rfl ?_
              refine wp_iload 6 dX12_areBound_150 rfl ?_
              obtain ⟨hg17, h⟩ := h
              refine wp_iastore dX12_areBound_152 ha9 hr10 hg17 ?_
              change WP _ _ _ _ _ _ _ (sI H (tg H a9) a9 (hI H (tg H a2) a2 (((4 : Int32) * x5) + (1 : Int32)).toNatClampNeg).toNatClampNeg x5) _
              refine wp_iconst (v := (1 : Int32)) dX12_areBound_153 (by decide) ?_
              refine wp_istore (ls' := [(4, .int (1 : Int32)), (7, .int (hI H (tg H a2) a2 (((4 : Int32) * x5) + (1 : Int32)).toNatClampNeg)), (6, .int (hI H (tg H a2) a2 ((4 : Int32) * x5).toNatClampNeg)), (0, rv (some a0)), (1, .int x1), (3, .int x3), (5, .int x5)]) dX12_areBound_154 (by decide) rfl ?_
              refine wp_iinc (v := (x5 + 1)) (ls' := [(5, .int (x5 + 1)), (4, .int (1 : Int32)), (7, .int (hI H (tg H a2) a2 (((4 : Int32) * x5) + (1 : Int32)).toNatClampNeg)), (6, .int (hI H (tg H a2) a2 ((4 : Int32) * x5).toNatClampNeg)), (0, rv (some a0)), (1, .int x1), (3, .int x3)]) 6 dX12_areBound_156 rfl rfl (by decide) rfl ?_
              refine wp_goto (tgt := 46) dX12_areBound_159 rfl ?_
              refine wp_sub (ls' := [(0, rv (some a0)), (1, .int x1), (3, .int x3), (4, .int (1 : Int32)), (5, .int (x5 + 1))]) [4, 5, 6, 1, 0] rfl ?_
              exact h
            · replace h := h.2 c
              refine wp_aload_n 2 dX12_areBound_132 rfl ?_
              refine wp_getC (ci := 12) (j := 55) dX12_areBound_133 fi_X12_101r rfl rfl ht1 ?_
              change WP _ _ _ _ _ _ (rv (hC H 1355 a0) :: _) _ _
              refine wp_iload 1 dX12_areBound_136 rfl ?_
              refine wp_iload 6 dX12_areBound_138 rfl ?_
              obtain ⟨hg18, h⟩ := h
              refine wp_iastore dX12_areBound_140 ha9 hr10 hg18 ?_
              change WP _ _ _ _ _ _ _ (sI H (tg H a9) a9 (hI H (tg H a2) a2 ((4 : Int32) * x5).toNatClampNeg).toNatClampNeg x5) _
              refine wp_goto (tgt := 153) dX12_areBound_141 rfl ?_
              refine wp_iconst (v := (1 : Int32)) dX12_areBound_153 (by decide) ?_
              refine wp_istore (ls' := [(4, .int (1 : Int32)), (7, .int (hI H (tg H a2) a2 (((4 : Int32) * x5) + (1 : Int32)).toNatClampNeg)), (6, .int (hI H (tg H a2) a2 ((4 : Int32) * x5).toNatClampNeg)), (0, rv (some a0)), (1, .int x1), (3, .int x3), (5, .int x5)]) dX12_areBound_154 (by decide) rfl ?_
              refine wp_iinc (v := (x5 + 1)) (ls' := [(5, .int (x5 + 1)), (4, .int (1 : Int32)), (7, .int (hI H (tg H a2) a2 (((4 : Int32) * x5) + (1 : Int32)).toNatClampNeg)), (6, .int (hI H (tg H a2) a2 ((4 : Int32) * x5).toNatClampNeg)), (0, rv (some a0)), (1, .int x1), (3, .int x3)]) 6 dX12_areBound_156 rfl rfl (by decide) rfl ?_
              refine wp_goto (tgt := 46) dX12_areBound_159 rfl ?_
              refine wp_sub (ls' := [(0, rv (some a0)), (1, .int x1), (3, .int x3), (4, .int (1 : Int32)), (5, .int (x5 + 1))]) [4, 5, 6, 1, 0] rfl ?_
              exact h
          · replace h := h.2 c
            refine wp_goto (tgt := 156) dX12_areBound_119 rfl ?_
            refine wp_iinc (v := (x5 + 1)) (ls' := [(5, .int (x5 + 1)), (7, .int (hI H (tg H a2) a2 (((4 : Int32) * x5) + (1 : Int32)).toNatClampNeg)), (6, .int (hI H (tg H a2) a2 ((4 : Int32) * x5).toNatClampNeg)), (0, rv (some a0)), (1, .int x1), (3, .int x3), (4, .int x4)]) 6 dX12_areBound_156 rfl rfl (by decide) rfl ?_
            refine wp_goto (tgt := 46) dX12_areBound_159 rfl ?_
            refine wp_sub (ls' := [(0, rv (some a0)), (1, .int x1), (3, .int x3), (4, .int x4), (5, .int (x5 + 1))]) [3, 4, 5, 6, 0] rfl ?_
            exact h
      · replace h := h.2 c
        refine wp_iconst (v := (1 : Int32)) dX12_areBound_96 (by decide) ?_
        refine wp_goto (tgt := 101) dX12_areBound_97 rfl ?_
        refine wp_aload_n 2 dX12_areBound_101 rfl ?_
        refine wp_getC (ci := 12) (j := 55) dX12_areBound_102 fi_X12_101r rfl rfl ht1 ?_
        change WP _ _ _ _ _ _ (rv (hC H 1355 a0) :: _) _ _
        refine wp_iload 0 dX12_areBound_105 rfl ?_
        obtain ⟨hg19, h⟩ := h
        refine wp_iaload dX12_areBound_107 ha9 hr10 hg19 ?_
        refine wp_if_ge (tgt := 115) dX12_areBound_108 rfl (fun c => ?_) (fun c => ?_)
        · replace h := h.1 c
          refine wp_iconst (v := (0 : Int32)) dX12_areBound_115 (by decide) ?_
          refine wp_icmp_ne (tgt := 122) dX12_areBound_116 rfl (fun c => ?_) (fun c => ?_)
          · replace h := h.1 c
            refine wp_aload_n 2 dX12_areBound_122 rfl ?_
            refine wp_getC (ci := 12) (j := 55) dX12_areBound_123 fi_X12_101r rfl rfl ht1 ?_
            change WP _ _ _ _ _ _ (rv (hC H 1355 a0) :: _) _ _
            refine wp_iload 1 dX12_areBound_126 rfl ?_
            obtain ⟨hg20, h⟩ := h
            refine wp_iaload dX12_areBound_128 ha9 hr10 hg20 ?_
            refine wp_if_ge (tgt := 144) dX12_areBound_129 rfl (fun c => ?_) (fun c => ?_)
            · replace h := h.1 c
              refine wp_aload_n 2 dX12_areBound_144 rfl ?_
              refine wp_getC (ci := 12) (j := 55) dX12_areBound_145 fi_X12_101r rfl rfl ht1 ?_
              change WP _ _ _ _ _ _ (rv (hC H 1355 a0) :: _) _ _
              refine wp_iload 0 dX12_areBound_148 rfl ?_
              refine wp_iload 6 dX12_areBound_150 rfl ?_
              obtain ⟨hg21, h⟩ := h
              refine wp_iastore dX12_areBound_152 ha9 hr10 hg21 ?_
              change WP _ _ _ _ _ _ _ (sI H (tg H a9) a9 (hI H (tg H a2) a2 (((4 : Int32) * x5) + (1 : Int32)).toNatClampNeg).toNatClampNeg x5) _
              refine wp_iconst (v := (1 : Int32)) dX12_areBound_153 (by decide) ?_
              refine wp_istore (ls' := [(4, .int (1 : Int32)), (7, .int (hI H (tg H a2) a2 (((4 : Int32) * x5) + (1 : Int32)).toNatClampNeg)), (6, .int (hI H (tg H a2) a2 ((4 : Int32) * x5).toNatClampNeg)), (0, rv (some a0)), (1, .int x1), (3, .int x3), (5, .int x5)]) dX12_areBound_154 (by decide) rfl ?_
              refine wp_iinc (v := (x5 + 1)) (ls' := [(5, .int (x5 + 1)), (4, .int (1 : Int32)), (7, .int (hI H (tg H a2) a2 (((4 : Int32) * x5) + (1 : Int32)).toNatClampNeg)), (6, .int (hI H (tg H a2) a2 ((4 : Int32) * x5).toNatClampNeg)), (0, rv (some a0)), (1, .int x1), (3, .int x3)]) 6 dX12_areBound_156 rfl rfl (by decide) rfl ?_
              refine wp_goto (tgt := 46) dX12_areBound_159 rfl ?_
              refine wp_sub (ls' := [(0, rv (some a0)), (1, .int x1), (3, .int x3), (4, .int (1 : Int32)), (5, .int (x5 + 1))]) [4, 5, 6, 1, 0] rfl ?_
              exact h
            · replace h := h.2 c
              refine wp_aload_n 2 dX12_areBound_132 rfl ?_
              refine wp_getC (ci := 12) (j := 55) dX12_areBound_133 fi_X12_101r rfl rfl ht1 ?_
              change WP _ _ _ _ _ _ (rv (hC H 1355 a0) :: _) _ _
              refine wp_iload 1 dX12_areBound_136 rfl ?_
              refine wp_iload 6 dX12_areBound_138 rfl ?_
              obtain ⟨hg22, h⟩ := h
              refine wp_iastore dX12_areBound_140 ha9 hr10 hg22 ?_
              change WP _ _ _ _ _ _ _ (sI H (tg H a9) a9 (hI H (tg H a2) a2 ((4 : Int32) * x5).toNatClampNeg).toNatClampNeg x5) _
              refine wp_goto (tgt := 153) dX12_areBound_141 rfl ?_
              refine wp_iconst (v := (1 : Int32)) dX12_areBound_153 (by decide) ?_
              refine wp_istore (ls' := [(4, .int (1 : Int32)), (7, .int (hI H (tg H a2) a2 (((4 : Int32) * x5) + (1 : Int32)).toNatClampNeg)), (6, .int (hI H (tg H a2) a2 ((4 : Int32) * x5).toNatClampNeg)), (0, rv (some a0)), (1, .int x1), (3, .int x3), (5, .int x5)]) dX12_areBound_154 (by decide) rfl ?_
              refine wp_iinc (v := (x5 + 1)) (ls' := [(5, .int (x5 + 1)), (4, .int (1 : Int32)), (7, .int (hI H (tg H a2) a2 (((4 : Int32) * x5) + (1 : Int32)).toNatClampNeg)), (6, .int (hI H (tg H a2) a2 ((4 : Int32) * x5).toNatClampNeg)), (0, rv (some a0)), (1, .int x1), (3, .int x3)]) 6 dX12_areBound_156 rfl rfl (by decide) rfl ?_
              refine wp_goto (tgt := 46) dX12_areBound_159 rfl ?_
              refine wp_sub (ls' := [(0, rv (some a0)), (1, .int x1), (3, .int x3), (4, .int (1 : Int32)), (5, .int (x5 + 1))]) [4, 5, 6, 1, 0] rfl ?_
              exact h
          · replace h := h.2 c
            refine wp_goto (tgt := 156) dX12_areBound_119 rfl ?_
            refine wp_iinc (v := (x5 + 1)) (ls' := [(5, .int (x5 + 1)), (7, .int (hI H (tg H a2) a2 (((4 : Int32) * x5) + (1 : Int32)).toNatClampNeg)), (6, .int (hI H (tg H a2) a2 ((4 : Int32) * x5).toNatClampNeg)), (0, rv (some a0)), (1, .int x1), (3, .int x3), (4, .int x4)]) 6 dX12_areBound_156 rfl rfl (by decide) rfl ?_
            refine wp_goto (tgt := 46) dX12_areBound_159 rfl ?_
            refine wp_sub (ls' := [(0, rv (some a0)), (1, .int x1), (3, .int x3), (4, .int x4), (5, .int (x5 + 1))]) [3, 4, 5, 6, 0] rfl ?_
            exact h
        · replace h := h.2 c
          refine wp_iconst (v := (1 : Int32)) dX12_areBound_111 (by decide) ?_
          refine wp_goto (tgt := 116) dX12_areBound_112 rfl ?_
          refine wp_icmp_ne (tgt := 122) dX12_areBound_116 rfl (fun c => ?_) (fun c => ?_)
          · replace h := h.1 c
            refine wp_aload_n 2 dX12_areBound_122 rfl ?_
            refine wp_getC (ci := 12) (j := 55) dX12_areBound_123 fi_X12_101r rfl rfl ht1 ?_
            change WP _ _ _ _ _ _ (rv (hC H 1355 a0) :: _) _ _
            refine wp_iload 1 dX12_areBound_126 rfl ?_
            obtain ⟨hg23, h⟩ := h
            refine wp_iaload dX12_areBound_128 ha9 hr10 hg23 ?_
            refine wp_if_ge (tgt := 144) dX12_areBound_129 rfl (fun c => ?_) (fun c => ?_)
            · replace h := h.1 c
              refine wp_aload_n 2 dX12_areBound_144 rfl ?_
              refine wp_getC (ci := 12) (j := 55) dX12_areBound_145 fi_X12_101r rfl rfl ht1 ?_
              change WP _ _ _ _ _ _ (rv (hC H 1355 a0) :: _) _ _
              refine wp_iload 0 dX12_areBound_148 rfl ?_
              refine wp_iload 6 dX12_areBound_150 rfl ?_
              obtain ⟨hg24, h⟩ := h
              refine wp_iastore dX12_areBound_152 ha9 hr10 hg24 ?_
              change WP _ _ _ _ _ _ _ (sI H (tg H a9) a9 (hI H (tg H a2) a2 (((4 : Int32) * x5) + (1 : Int32)).toNatClampNeg).toNatClampNeg x5) _
              refine wp_iconst (v := (1 : Int32)) dX12_areBound_153 (by decide) ?_
              refine wp_istore (ls' := [(4, .int (1 : Int32)), (7, .int (hI H (tg H a2) a2 (((4 : Int32) * x5) + (1 : Int32)).toNatClampNeg)), (6, .int (hI H (tg H a2) a2 ((4 : Int32) * x5).toNatClampNeg)), (0, rv (some a0)), (1, .int x1), (3, .int x3), (5, .int x5)]) dX12_areBound_154 (by decide) rfl ?_
              refine wp_iinc (v := (x5 + 1)) (ls' := [(5, .int (x5 + 1)), (4, .int (1 : Int32)), (7, .int (hI H (tg H a2) a2 (((4 : Int32) * x5) + (1 : Int32)).toNatClampNeg)), (6, .int (hI H (tg H a2) a2 ((4 : Int32) * x5).toNatClampNeg)), (0, rv (some a0)), (1, .int x1), (3, .int x3)]) 6 dX12_areBound_156 rfl rfl (by decide) rfl ?_
              refine wp_goto (tgt := 46) dX12_areBound_159 rfl ?_
              refine wp_sub (ls' := [(0, rv (some a0)), (1, .int x1), (3, .int x3), (4, .int (1 : Int32)), (5, .int (x5 + 1))]) [4, 5, 6, 1, 0] rfl ?_
              exact h
            · replace h := h.2 c
              refine wp_aload_n 2 dX12_areBound_132 rfl ?_
              refine wp_getC (ci := 12) (j := 55) dX12_areBound_133 fi_X12_101r rfl rfl ht1 ?_
              change WP _ _ _ _ _ _ (rv (hC H 1355 a0) :: _) _ _
              refine wp_iload 1 dX12_areBound_136 rfl ?_
              refine wp_iload 6 dX12_areBound_138 rfl ?_
              obtain ⟨hg25, h⟩ := h
              refine wp_iastore dX12_areBound_140 ha9 hr10 hg25 ?_
              change WP _ _ _ _ _ _ _ (sI H (tg H a9) a9 (hI H (tg H a2) a2 ((4 : Int32) * x5).toNatClampNeg).toNatClampNeg x5) _
              refine wp_goto (tgt := 153) dX12_areBound_141 rfl ?_
              refine wp_iconst (v := (1 : Int32)) dX12_areBound_153 (by decide) ?_
              refine wp_istore (ls' := [(4, .int (1 : Int32)), (7, .int (hI H (tg H a2) a2 (((4 : Int32) * x5) + (1 : Int32)).toNatClampNeg)), (6, .int (hI H (tg H a2) a2 ((4 : Int32) * x5).toNatClampNeg)), (0, rv (some a0)), (1, .int x1), (3, .int x3), (5, .int x5)]) dX12_areBound_154 (by decide) rfl ?_
              refine wp_iinc (v := (x5 + 1)) (ls' := [(5, .int (x5 + 1)), (4, .int (1 : Int32)), (7, .int (hI H (tg H a2) a2 (((4 : Int32) * x5) + (1 : Int32)).toNatClampNeg)), (6, .int (hI H (tg H a2) a2 ((4 : Int32) * x5).toNatClampNeg)), (0, rv (some a0)), (1, .int x1), (3, .int x3)]) 6 dX12_areBound_156 rfl rfl (by decide) rfl ?_
              refine wp_goto (tgt := 46) dX12_areBound_159 rfl ?_
              refine wp_sub (ls' := [(0, rv (some a0)), (1, .int x1), (3, .int x3), (4, .int (1 : Int32)), (5, .int (x5 + 1))]) [4, 5, 6, 1, 0] rfl ?_
              exact h
          · replace h := h.2 c
            refine wp_goto (tgt := 156) dX12_areBound_119 rfl ?_
            refine wp_iinc (v := (x5 + 1)) (ls' := [(5, .int (x5 + 1)), (7, .int (hI H (tg H a2) a2 (((4 : Int32) * x5) + (1 : Int32)).toNatClampNeg)), (6, .int (hI H (tg H a2) a2 ((4 : Int32) * x5).toNatClampNeg)), (0, rv (some a0)), (1, .int x1), (3, .int x3), (4, .int x4)]) 6 dX12_areBound_156 rfl rfl (by decide) rfl ?_
            refine wp_goto (tgt := 46) dX12_areBound_159 rfl ?_
            refine wp_sub (ls' := [(0, rv (some a0)), (1, .int x1), (3, .int x3), (4, .int x4), (5, .int (x5 + 1))]) [3, 4, 5, 6, 0] rfl ?_
            exact h
theorem C_X12_areBound {d : Nat} {q : HP → Bool → Prop} {a0 : Nat} {x1 : Int32} {x2 : Int32} {x3 : Int32} {H : HP} (h : wb_X12_areBound_0 d q a0 x1 x2 x3 H) : CZ (d + 1) 0 0 mX12_areBound [rv (some a0), .int x1, .int x2, .int x3] H q := by
  refine call_of (by decide +kernel) (by simp [lg_sl, rv_cat, vc_int, vc_long, vc_float, vc_double]) ?_
  have e : lv_args 0 [rv (some a0), .int x1, .int x2, .int x3] = [(0, rv (some a0)), (1, .int x1), (2, .int x2), (3, .int x3)] := by simp [lv_args, rv_cat, vc_int, vc_long, vc_float, vc_double]
  rw [e]
  exact T_X12_areBound_0 h
/-- UnitProverModel.areLike(II)Z: the loop at 5 -/
def L_X12_areLike_5 (d : Nat) (q : HP → Bool → Prop) (a0 : Nat) (x1 : Int32) (x2 : Int32) (x3 : Int32) (x4 : Int32) (H : HP) : Prop := WP (d + 1) mX12_areLike 0 0 5 [(0, rv (some a0)), (1, .int x1), (2, .int x2), (3, .int x3), (4, .int x4)] [] H (qZ q)
def wb_X12_areLike_0 (d : Nat) (q : HP → Bool → Prop) (a0 : Nat) (x1 : Int32) (x2 : Int32) (H : HP) : Prop :=
  L_X12_areLike_5 d q a0 x1 x2 (1 : Int32) (0 : Int32) H
set_option maxRecDepth 40000 in
set_option maxHeartbeats 4000000 in
theorem T_X12_areLike_0 {d : Nat} {q : HP → Bool → Prop} {a0 : Nat} {x1 : Int32} {x2 : Int32} {H : HP} (h : wb_X12_areLike_0 d q a0 x1 x2 H) : WP (d + 1) mX12_areLike 0 0 0 [(0, rv (some a0)), (1, .int x1), (2, .int x2)] [] H (qZ q) := by
  unfold wb_X12_areLike_0 at h
  refine wp_iconst (v := (1 : Int32)) dX12_areLike_0 (by decide) ?_
  refine wp_istore_n (ls' := [(3, .int (1 : Int32)), (0, rv (some a0)), (1, .int x1), (2, .int x2)]) dX12_areLike_1 (by decide) rfl ?_
  refine wp_iconst (v := (0 : Int32)) dX12_areLike_2 (by decide) ?_
  refine wp_istore (ls' := [(4, .int (0 : Int32)), (3, .int (1 : Int32)), (0, rv (some a0)), (1, .int x1), (2, .int x2)]) dX12_areLike_3 (by decide) rfl ?_
  refine wp_sub (ls' := [(0, rv (some a0)), (1, .int x1), (2, .int x2), (3, .int (1 : Int32)), (4, .int (0 : Int32))]) [2, 3, 4, 1, 0] rfl ?_
  exact h
def wb_X12_areLike_5 (d : Nat) (q : HP → Bool → Prop) (a0 : Nat) (x1 : Int32) (x2 : Int32) (x3 : Int32) (x4 : Int32) (H : HP) : Prop :=
  ((5 : Int32) ≤ x4 → ∃ b1, x3 = bI b1 ∧ q H b1) ∧ (¬ ((5 : Int32) ≤ x4) → tg H a0 = 13 ∧ (∃ a3, (hC H 1302 a0) = some a3 ∧ (isA H a3 0 ∧ (vp_in (((5 : Int32) * x1) + x4) (ln H a3) ∧ (vp_in (((5 : Int32) * x2) + x4) (ln H a3) ∧ ((¬ (hI H (tg H a3) a3 (((5 : Int32) * x1) + x4).toNatClampNeg) = (hI H (tg H a3) a3 (((5 : Int32) * x2) + x4).toNatClampNeg) → L_X12_areLike_5 d q a0 x1 x2 (x3 &&& (0 : Int32)) (x4 + 1) H) ∧ ((hI H (tg H a3) a3 (((5 : Int32) * x1) + x4).toNatClampNeg) = (hI H (tg H a3) a3 (((5 : Int32) * x2) + x4).toNatClampNeg) → L_X12_areLike_5 d q a0 x1 x2 (x3 &&& (1 : Int32)) (x4 + 1) H)))))))
set_option maxRecDepth 40000 in
set_option maxHeartbeats 4000000 in
theorem T_X12_areLike_5 {d : Nat} {q : HP → Bool → Prop} {a0 : Nat} {x1 : Int32} {x2 : Int32} {x3 : Int32} {x4 : Int32} {H : HP} (h : wb_X12_areLike_5 d q a0 x1 x2 x3 x4 H) : L_X12_areLike_5 d q a0 x1 x2 x3 x4 H := by
  unfold wb_X12_areLike_5 at h
  unfold L_X12_areLike_5
  refine wp_iload 4 dX12_areLike_5 rfl ?_
  refine wp_iconst (v := (5 : Int32)) dX12_areLike_7 (by decide) ?_
  refine wp_icmp_ge (tgt := 50) dX12_areLike_8 rfl (fun c => ?_) (fun c => ?_)
  · replace h := h.1 c
    refine wp_iload_n 3 dX12_areLike_50 rfl ?_
    obtain ⟨b1, hb, h⟩ := h
    exact wp_ireturn (ty := .boolean) dX12_areLike_51 rfl (by rw [hb]; exact (nar_bI _).1) ⟨b1, by rw [hb], h⟩
  · replace h := h.2 c
    refine wp_iload_n 3 dX12_areLike_11 rfl ?_
    refine wp_aload_n 0 dX12_areLike_12 rfl ?_
    obtain ⟨ht2, h⟩ := h
    refine wp_getC (ci := 12) (j := 2) dX12_areLike_13 fi_X12_19r rfl rfl ht2 ?_
    change WP _ _ _ _ _ _ (rv (hC H 1302 a0) :: _) _ _
    refine wp_iconst (v := (5 : Int32)) dX12_areLike_16 (by decide) ?_
    refine wp_iload_n 1 dX12_areLike_17 rfl ?_
    refine wp_imul dX12_areLike_18 ?_
    refine wp_iload 4 dX12_areLike_19 rfl ?_
    refine wp_iadd dX12_areLike_21 ?_
    obtain ⟨a3, ha3, h⟩ := h
    obtain ⟨hr4, h⟩ := h
    obtain ⟨hg5, h⟩ := h
    refine wp_iaload dX12_areLike_22 ha3 hr4 hg5 ?_
    refine wp_aload_n 0 dX12_areLike_23 rfl ?_
    refine wp_getC (ci := 12) (j := 2) dX12_areLike_24 fi_X12_19r rfl rfl ht2 ?_
    change WP _ _ _ _ _ _ (rv (hC H 1302 a0) :: _) _ _
    refine wp_iconst (v := (5 : Int32)) dX12_areLike_27 (by decide) ?_
    refine wp_iload_n 2 dX12_areLike_28 rfl ?_
    refine wp_imul dX12_areLike_29 ?_
    refine wp_iload 4 dX12_areLike_30 rfl ?_
    refine wp_iadd dX12_areLike_32 ?_
    obtain ⟨hg6, h⟩ := h
    refine wp_iaload dX12_areLike_33 ha3 hr4 hg6 ?_
    refine wp_icmp_ne (tgt := 41) dX12_areLike_34 rfl (fun c => ?_) (fun c => ?_)
    · replace h := h.1 c
      refine wp_iconst (v := (0 : Int32)) dX12_areLike_41 (by decide) ?_
      refine wp_iand dX12_areLike_42 ?_
      refine wp_istore_n (ls' := [(3, .int (x3 &&& (0 : Int32))), (0, rv (some a0)), (1, .int x1), (2, .int x2), (4, .int x4)]) dX12_areLike_43 (by decide) rfl ?_
      refine wp_iinc (v := (x4 + 1)) (ls' := [(4, .int (x4 + 1)), (3, .int (x3 &&& (0 : Int32))), (0, rv (some a0)), (1, .int x1), (2, .int x2)]) 4 dX12_areLike_44 rfl rfl (by decide) rfl ?_
      refine wp_goto (tgt := 5) dX12_areLike_47 rfl ?_
      refine wp_sub (ls' := [(0, rv (some a0)), (1, .int x1), (2, .int x2), (3, .int (x3 &&& (0 : Int32))), (4, .int (x4 + 1))]) [2, 3, 4, 1, 0] rfl ?_
      exact h
    · replace h := h.2 c
      refine wp_iconst (v := (1 : Int32)) dX12_areLike_37 (by decide) ?_
      refine wp_goto (tgt := 42) dX12_areLike_38 rfl ?_
      refine wp_iand dX12_areLike_42 ?_
      refine wp_istore_n (ls' := [(3, .int (x3 &&& (1 : Int32))), (0, rv (some a0)), (1, .int x1), (2, .int x2), (4, .int x4)]) dX12_areLike_43 (by decide) rfl ?_
      refine wp_iinc (v := (x4 + 1)) (ls' := [(4, .int (x4 + 1)), (3, .int (x3 &&& (1 : Int32))), (0, rv (some a0)), (1, .int x1), (2, .int x2)]) 4 dX12_areLike_44 rfl rfl (by decide) rfl ?_
      refine wp_goto (tgt := 5) dX12_areLike_47 rfl ?_
      refine wp_sub (ls' := [(0, rv (some a0)), (1, .int x1), (2, .int x2), (3, .int (x3 &&& (1 : Int32))), (4, .int (x4 + 1))]) [2, 3, 4, 1, 0] rfl ?_
      exact h
theorem C_X12_areLike {d : Nat} {q : HP → Bool → Prop} {a0 : Nat} {x1 : Int32} {x2 : Int32} {H : HP} (h : wb_X12_areLike_0 d q a0 x1 x2 H) : CZ (d + 1) 0 0 mX12_areLike [rv (some a0), .int x1, .int x2] H q := by
  refine call_of (by decide +kernel) (by simp [lg_sl, rv_cat, vc_int, vc_long, vc_float, vc_double]) ?_
  have e : lv_args 0 [rv (some a0), .int x1, .int x2] = [(0, rv (some a0)), (1, .int x1), (2, .int x2)] := by simp [lv_args, rv_cat, vc_int, vc_long, vc_float, vc_double]
  rw [e]
  exact T_X12_areLike_0 h
/-- UnitProverModel.areLikeSteps(II)Z: the loop at 5 -/
def L_X12_areLikeSteps_5 (d : Nat) (q : HP → Bool → Prop) (a0 : Nat) (x1 : Int32) (x2 : Int32) (x3 : Int32) (x4 : Int32) (H : HP) : Prop := WP (d + 1) mX12_areLikeSteps 0 0 5 [(0, rv (some a0)), (1, .int x1), (2, .int x2), (3, .int x3), (4, .int x4)] [] H (qZ q)
def wb_X12_areLikeSteps_0 (d : Nat) (q : HP → Bool → Prop) (a0 : Nat) (x1 : Int32) (x2 : Int32) (H : HP) : Prop :=
  L_X12_areLikeSteps_5 d q a0 x1 x2 (1 : Int32) (0 : Int32) H
set_option maxRecDepth 40000 in
set_option maxHeartbeats 4000000 in
theorem T_X12_areLikeSteps_0 {d : Nat} {q : HP → Bool → Prop} {a0 : Nat} {x1 : Int32} {x2 : Int32} {H : HP} (h : wb_X12_areLikeSteps_0 d q a0 x1 x2 H) : WP (d + 1) mX12_areLikeSteps 0 0 0 [(0, rv (some a0)), (1, .int x1), (2, .int x2)] [] H (qZ q) := by
  unfold wb_X12_areLikeSteps_0 at h
  refine wp_iconst (v := (1 : Int32)) dX12_areLikeSteps_0 (by decide) ?_
  refine wp_istore_n (ls' := [(3, .int (1 : Int32)), (0, rv (some a0)), (1, .int x1), (2, .int x2)]) dX12_areLikeSteps_1 (by decide) rfl ?_
  refine wp_iconst (v := (0 : Int32)) dX12_areLikeSteps_2 (by decide) ?_
  refine wp_istore (ls' := [(4, .int (0 : Int32)), (3, .int (1 : Int32)), (0, rv (some a0)), (1, .int x1), (2, .int x2)]) dX12_areLikeSteps_3 (by decide) rfl ?_
  refine wp_sub (ls' := [(0, rv (some a0)), (1, .int x1), (2, .int x2), (3, .int (1 : Int32)), (4, .int (0 : Int32))]) [2, 3, 4, 1, 0] rfl ?_
  exact h
def wb_X12_areLikeSteps_5 (d : Nat) (q : HP → Bool → Prop) (a0 : Nat) (x1 : Int32) (x2 : Int32) (x3 : Int32) (x4 : Int32) (H : HP) : Prop :=
  ((5 : Int32) ≤ x4 → ∃ b1, x3 = bI b1 ∧ q H b1) ∧ (¬ ((5 : Int32) ≤ x4) → tg H a0 = 13 ∧ (∃ a3, (hC H 1346 a0) = some a3 ∧ (isA H a3 0 ∧ (vp_in (((5 : Int32) * x1) + x4) (ln H a3) ∧ (vp_in (((5 : Int32) * x2) + x4) (ln H a3) ∧ ((¬ (hI H (tg H a3) a3 (((5 : Int32) * x1) + x4).toNatClampNeg) = (hI H (tg H a3) a3 (((5 : Int32) * x2) + x4).toNatClampNeg) → L_X12_areLikeSteps_5 d q a0 x1 x2 (x3 &&& (0 : Int32)) (x4 + 1) H) ∧ ((hI H (tg H a3) a3 (((5 : Int32) * x1) + x4).toNatClampNeg) = (hI H (tg H a3) a3 (((5 : Int32) * x2) + x4).toNatClampNeg) → L_X12_areLikeSteps_5 d q a0 x1 x2 (x3 &&& (1 : Int32)) (x4 + 1) H)))))))
set_option maxRecDepth 40000 in
set_option maxHeartbeats 4000000 in
theorem T_X12_areLikeSteps_5 {d : Nat} {q : HP → Bool → Prop} {a0 : Nat} {x1 : Int32} {x2 : Int32} {x3 : Int32} {x4 : Int32} {H : HP} (h : wb_X12_areLikeSteps_5 d q a0 x1 x2 x3 x4 H) : L_X12_areLikeSteps_5 d q a0 x1 x2 x3 x4 H := by
  unfold wb_X12_areLikeSteps_5 at h
  unfold L_X12_areLikeSteps_5
  refine wp_iload 4 dX12_areLikeSteps_5 rfl ?_
  refine wp_iconst (v := (5 : Int32)) dX12_areLikeSteps_7 (by decide) ?_
  refine wp_icmp_ge (tgt := 50) dX12_areLikeSteps_8 rfl (fun c => ?_) (fun c => ?_)
  · replace h := h.1 c
    refine wp_iload_n 3 dX12_areLikeSteps_50 rfl ?_
    obtain ⟨b1, hb, h⟩ := h
    exact wp_ireturn (ty := .boolean) dX12_areLikeSteps_51 rfl (by rw [hb]; exact (nar_bI _).1) ⟨b1, by rw [hb], h⟩
  · replace h := h.2 c
    refine wp_iload_n 3 dX12_areLikeSteps_11 rfl ?_
    refine wp_aload_n 0 dX12_areLikeSteps_12 rfl ?_
    obtain ⟨ht2, h⟩ := h
    refine wp_getC (ci := 12) (j := 46) dX12_areLikeSteps_13 fi_X12_80r rfl rfl ht2 ?_
    change WP _ _ _ _ _ _ (rv (hC H 1346 a0) :: _) _ _
    refine wp_iconst (v := (5 : Int32)) dX12_areLikeSteps_16 (by decide) ?_
    refine wp_iload_n 1 dX12_areLikeSteps_17 rfl ?_
    refine wp_imul dX12_areLikeSteps_18 ?_
    refine wp_iload 4 dX12_areLikeSteps_19 rfl ?_
    refine wp_iadd dX12_areLikeSteps_21 ?_
    obtain ⟨a3, ha3, h⟩ := h
    obtain ⟨hr4, h⟩ := h
    obtain ⟨hg5, h⟩ := h
    refine wp_iaload dX12_areLikeSteps_22 ha3 hr4 hg5 ?_
    refine wp_aload_n 0 dX12_areLikeSteps_23 rfl ?_
    refine wp_getC (ci := 12) (j := 46) dX12_areLikeSteps_24 fi_X12_80r rfl rfl ht2 ?_
    change WP _ _ _ _ _ _ (rv (hC H 1346 a0) :: _) _ _
    refine wp_iconst (v := (5 : Int32)) dX12_areLikeSteps_27 (by decide) ?_
    refine wp_iload_n 2 dX12_areLikeSteps_28 rfl ?_
    refine wp_imul dX12_areLikeSteps_29 ?_
    refine wp_iload 4 dX12_areLikeSteps_30 rfl ?_
    refine wp_iadd dX12_areLikeSteps_32 ?_
    obtain ⟨hg6, h⟩ := h
    refine wp_iaload dX12_areLikeSteps_33 ha3 hr4 hg6 ?_
    refine wp_icmp_ne (tgt := 41) dX12_areLikeSteps_34 rfl (fun c => ?_) (fun c => ?_)
    · replace h := h.1 c
      refine wp_iconst (v := (0 : Int32)) dX12_areLikeSteps_41 (by decide) ?_
      refine wp_iand dX12_areLikeSteps_42 ?_
      refine wp_istore_n (ls' := [(3, .int (x3 &&& (0 : Int32))), (0, rv (some a0)), (1, .int x1), (2, .int x2), (4, .int x4)]) dX12_areLikeSteps_43 (by decide) rfl ?_
      refine wp_iinc (v := (x4 + 1)) (ls' := [(4, .int (x4 + 1)), (3, .int (x3 &&& (0 : Int32))), (0, rv (some a0)), (1, .int x1), (2, .int x2)]) 4 dX12_areLikeSteps_44 rfl rfl (by decide) rfl ?_
      refine wp_goto (tgt := 5) dX12_areLikeSteps_47 rfl ?_
      refine wp_sub (ls' := [(0, rv (some a0)), (1, .int x1), (2, .int x2), (3, .int (x3 &&& (0 : Int32))), (4, .int (x4 + 1))]) [2, 3, 4, 1, 0] rfl ?_
      exact h
    · replace h := h.2 c
      refine wp_iconst (v := (1 : Int32)) dX12_areLikeSteps_37 (by decide) ?_
      refine wp_goto (tgt := 42) dX12_areLikeSteps_38 rfl ?_
      refine wp_iand dX12_areLikeSteps_42 ?_
      refine wp_istore_n (ls' := [(3, .int (x3 &&& (1 : Int32))), (0, rv (some a0)), (1, .int x1), (2, .int x2), (4, .int x4)]) dX12_areLikeSteps_43 (by decide) rfl ?_
      refine wp_iinc (v := (x4 + 1)) (ls' := [(4, .int (x4 + 1)), (3, .int (x3 &&& (1 : Int32))), (0, rv (some a0)), (1, .int x1), (2, .int x2)]) 4 dX12_areLikeSteps_44 rfl rfl (by decide) rfl ?_
      refine wp_goto (tgt := 5) dX12_areLikeSteps_47 rfl ?_
      refine wp_sub (ls' := [(0, rv (some a0)), (1, .int x1), (2, .int x2), (3, .int (x3 &&& (1 : Int32))), (4, .int (x4 + 1))]) [2, 3, 4, 1, 0] rfl ?_
      exact h
theorem C_X12_areLikeSteps {d : Nat} {q : HP → Bool → Prop} {a0 : Nat} {x1 : Int32} {x2 : Int32} {H : HP} (h : wb_X12_areLikeSteps_0 d q a0 x1 x2 H) : CZ (d + 1) 0 0 mX12_areLikeSteps [rv (some a0), .int x1, .int x2] H q := by
  refine call_of (by decide +kernel) (by simp [lg_sl, rv_cat, vc_int, vc_long, vc_float, vc_double]) ?_
  have e : lv_args 0 [rv (some a0), .int x1, .int x2] = [(0, rv (some a0)), (1, .int x1), (2, .int x2)] := by simp [lv_args, rv_cat, vc_int, vc_long, vc_float, vc_double]
  rw [e]
  exact T_X12_areLikeSteps_0 h
def wb_X12_barred_0 (d : Nat) (q : HP → Int32 → Prop) (a0 : Nat) (x1 : Int32) (x2 : Int32) (H : HP) : Prop :=
  CZ d 0 0 mX12_isTrack [.int x1] H (fun H1 b2 => (b2 = true → tg H1 a0 = 13 ∧ (∃ a4, (hC H1 1357 a0) = some a4 ∧ (isA H1 a4 0 ∧ (vp_in x1 (ln H1 a4) ∧ ((0 ≤ (hI H1 (tg H1 a4) a4 x1.toNatClampNeg) → ∃ a7, (hC H1 1358 a0) = some a7 ∧ (isA H1 a7 0 ∧ (vp_in x1 (ln H1 a7) ∧ (CZ d 0 0 mX12_isIn [.long (x2.toInt64), .long (0 : Int64), .long (((hI H1 (tg H1 a7) a7 x1.toNatClampNeg) - (1 : Int32)).toInt64)] H1 (fun H10 b11 => (b11 = false → q H10 (-7 : Int32)) ∧ (b11 = true → q H10 (0 : Int32))))))) ∧ (¬ (0 ≤ (hI H1 (tg H1 a4) a4 x1.toNatClampNeg)) → q H1 (-6 : Int32))))))) ∧ (b2 = false → q H1 (-1 : Int32)))
set_option maxRecDepth 40000 in
set_option maxHeartbeats 4000000 in
theorem T_X12_barred_0 {d : Nat} {q : HP → Int32 → Prop} {a0 : Nat} {x1 : Int32} {x2 : Int32} {H : HP} (h : wb_X12_barred_0 d q a0 x1 x2 H) : WP (d + 1) mX12_barred 0 0 0 [(0, rv (some a0)), (1, .int x1), (2, .int x2)] [] H (qI q) := by
  unfold wb_X12_barred_0 at h
  refine wp_iload_n 1 dX12_barred_0 rfl ?_
  refine wp_callS (As := [.int x1]) (rest := []) (mc := 0) (ms := 0) dX12_barred_1 lk_X12_463 rfl rfl (by decide) rfl rfl rfl (Call.weaken h ?_)
  rintro H1 _ ⟨b2, rfl, h⟩
  change WP _ _ _ _ _ _ [.int (bI b2)] H1 _
  refine wp_if_ne (tgt := 9) dX12_barred_4 rfl (fun c => ?_) (fun c => ?_)
  · replace h := h.1 (bI_1.mp c)
    refine wp_aload_n 0 dX12_barred_9 rfl ?_
    obtain ⟨ht3, h⟩ := h
    refine wp_getC (ci := 12) (j := 57) dX12_barred_10 fi_X12_107r rfl rfl ht3 ?_
    change WP _ _ _ _ _ _ (rv (hC H1 1357 a0) :: _) _ _
    refine wp_iload_n 1 dX12_barred_13 rfl ?_
    obtain ⟨a4, ha4, h⟩ := h
    obtain ⟨hr5, h⟩ := h
    obtain ⟨hg6, h⟩ := h
    refine wp_iaload dX12_barred_14 ha4 hr5 hg6 ?_
    refine wp_if_ge (tgt := 21) dX12_barred_15 rfl (fun c => ?_) (fun c => ?_)
    · replace h := h.1 c
      refine wp_iload_n 2 dX12_barred_21 rfl ?_
      refine wp_i2l dX12_barred_22 ?_
      refine wp_lconst (v := (0 : Int64)) dX12_barred_23 (by decide) ?_
      refine wp_aload_n 0 dX12_barred_24 rfl ?_
      refine wp_getC (ci := 12) (j := 58) dX12_barred_25 fi_X12_110r rfl rfl ht3 ?_
      change WP _ _ _ _ _ _ (rv (hC H1 1358 a0) :: _) _ _
      refine wp_iload_n 1 dX12_barred_28 rfl ?_
      obtain ⟨a7, ha7, h⟩ := h
      obtain ⟨hr8, h⟩ := h
      obtain ⟨hg9, h⟩ := h
      refine wp_iaload dX12_barred_29 ha7 hr8 hg9 ?_
      refine wp_iconst (v := (1 : Int32)) dX12_barred_30 (by decide) ?_
      refine wp_isub dX12_barred_31 ?_
      refine wp_i2l dX12_barred_32 ?_
      refine wp_callS (As := [.long (x2.toInt64), .long (0 : Int64), .long (((hI H1 (tg H1 a7) a7 x1.toNatClampNeg) - (1 : Int32)).toInt64)]) (rest := []) (mc := 0) (ms := 0) dX12_barred_33 lk_X12_161 rfl rfl (by decide) rfl rfl rfl (Call.weaken h ?_)
      rintro H10 _ ⟨b11, rfl, h⟩
      change WP _ _ _ _ _ _ [.int (bI b11)] H10 _
      refine wp_if_eq (tgt := 43) dX12_barred_36 rfl (fun c => ?_) (fun c => ?_)
      · replace h := h.1 (bI_0.mp c)
        refine wp_bipush (v := (-7 : Int32)) dX12_barred_43 (by decide) ?_
        exact wp_ireturn (ty := .int) dX12_barred_45 rfl rfl ⟨_, rfl, h⟩
      · replace h := h.2 (bI_1.mp c)
        refine wp_iconst (v := (0 : Int32)) dX12_barred_39 (by decide) ?_
        refine wp_goto (tgt := 45) dX12_barred_40 rfl ?_
        exact wp_ireturn (ty := .int) dX12_barred_45 rfl rfl ⟨_, rfl, h⟩
    · replace h := h.2 c
      refine wp_bipush (v := (-6 : Int32)) dX12_barred_18 (by decide) ?_
      exact wp_ireturn (ty := .int) dX12_barred_20 rfl rfl ⟨_, rfl, h⟩
  · replace h := h.2 (bI_0.mp c)
    refine wp_iconst (v := (-1 : Int32)) dX12_barred_7 (by decide) ?_
    exact wp_ireturn (ty := .int) dX12_barred_8 rfl rfl ⟨_, rfl, h⟩
theorem C_X12_barred {d : Nat} {q : HP → Int32 → Prop} {a0 : Nat} {x1 : Int32} {x2 : Int32} {H : HP} (h : wb_X12_barred_0 d q a0 x1 x2 H) : CI (d + 1) 0 0 mX12_barred [rv (some a0), .int x1, .int x2] H q := by
  refine call_of (by decide +kernel) (by simp [lg_sl, rv_cat, vc_int, vc_long, vc_float, vc_double]) ?_
  have e : lv_args 0 [rv (some a0), .int x1, .int x2] = [(0, rv (some a0)), (1, .int x1), (2, .int x2)] := by simp [lv_args, rv_cat, vc_int, vc_long, vc_float, vc_double]
  rw [e]
  exact T_X12_barred_0 h
def wb_X12_becomes_0 (d : Nat) (q : HP → Prop) (a0 : Nat) (x1 : Int64) (x3 : Int64) (H : HP) : Prop :=
  CJ d 0 0 mX12_common [.long x1, .long x3] H (fun H1 r2 => ¬ r2 = 0 ∧ (tg H1 a0 = 13 ∧ (¬ r2 = 0 ∧ (q (sL (sL H1 1319 a0 0 (x1 / r2)) 1320 a0 0 (x3 / r2))))))
set_option maxRecDepth 40000 in
set_option maxHeartbeats 4000000 in
theorem T_X12_becomes_0 {d : Nat} {q : HP → Prop} {a0 : Nat} {x1 : Int64} {x3 : Int64} {H : HP} (h : wb_X12_becomes_0 d q a0 x1 x3 H) : WP (d + 1) mX12_becomes 0 0 0 [(0, rv (some a0)), (1, .long x1), (3, .long x3)] [] H (qV q) := by
  unfold wb_X12_becomes_0 at h
  refine wp_lload_n 1 dX12_becomes_0 rfl ?_
  refine wp_lload_n 2 dX12_becomes_1 rfl ?_
  refine wp_callS (As := [.long x1, .long x3]) (rest := []) (mc := 0) (ms := 0) dX12_becomes_2 lk_X12_139 rfl rfl (by decide) rfl rfl rfl (Call.weaken h ?_)
  rintro H1 _ ⟨r2, rfl, h⟩
  change WP _ _ _ _ _ _ [.long r2] H1 _
  refine wp_lstore (ls' := [(5, .long r2), (0, rv (some a0)), (1, .long x1), (3, .long x3)]) dX12_becomes_5 (by decide) rfl ?_
  refine wp_aload_n 1 dX12_becomes_7 rfl ?_
  refine wp_lload_n 2 dX12_becomes_8 rfl ?_
  refine wp_lload 0 dX12_becomes_9 rfl ?_
  obtain ⟨hg3, h⟩ := h
  refine wp_ldiv dX12_becomes_11 hg3 ?_
  obtain ⟨ht4, h⟩ := h
  refine wp_putL (ci := 12) (j := 19) dX12_becomes_12 fi_X12_143 rfl (fun z => by cases z) rfl ht4 rfl rfl ?_
  change WP _ _ _ _ _ _ _ (sL H1 1319 a0 0 (x1 / r2)) _
  refine wp_aload_n 1 dX12_becomes_15 rfl ?_
  refine wp_lload_n 3 dX12_becomes_16 rfl ?_
  refine wp_lload 0 dX12_becomes_17 rfl ?_
  obtain ⟨hg5, h⟩ := h
  refine wp_ldiv dX12_becomes_19 hg5 ?_
  refine wp_putL (ci := 12) (j := 20) dX12_becomes_20 fi_X12_147 rfl (fun z => by cases z) rfl ht4 rfl rfl ?_
  change WP _ _ _ _ _ _ _ (sL (sL H1 1319 a0 0 (x1 / r2)) 1320 a0 0 (x3 / r2)) _
  exact wp_return dX12_becomes_23 rfl ⟨rfl, h⟩
theorem C_X12_becomes {d : Nat} {q : HP → Prop} {a0 : Nat} {x1 : Int64} {x3 : Int64} {H : HP} (h : wb_X12_becomes_0 d q a0 x1 x3 H) : CV (d + 1) 0 0 mX12_becomes [rv (some a0), .long x1, .long x3] H q := by
  refine call_of (by decide +kernel) (by simp [lg_sl, rv_cat, vc_int, vc_long, vc_float, vc_double]) ?_
  have e : lv_args 0 [rv (some a0), .long x1, .long x3] = [(0, rv (some a0)), (1, .long x1), (3, .long x3)] := by simp [lv_args, rv_cat, vc_int, vc_long, vc_float, vc_double]
  rw [e]
  exact T_X12_becomes_0 h
def wb_X12_below_0 (d : Nat) (q : HP → Int32 → Prop) (a0 : Nat) (H : HP) : Prop :=
  tg H a0 = 13 ∧ ((0 ≤ (hI H 1325 a0 0) → q H (1 : Int32)) ∧ (¬ (0 ≤ (hI H 1325 a0 0)) → CI d 0 0 mX12_here [rv (some a0)] H (fun H2 r3 => (r3 = (47 : Int32) → tg H2 a0 = 13 ∧ (CI d 0 0 mX12_figures [rv (some a0), .int (6 : Int32)] (sI H2 1324 a0 0 ((hI H2 1324 a0 0) + (1 : Int32))) (fun H5 r6 => q H5 r6))) ∧ (¬ (r3 = (47 : Int32)) → q H2 (1 : Int32)))))
set_option maxRecDepth 40000 in
set_option maxHeartbeats 4000000 in
theorem T_X12_below_0 {d : Nat} {q : HP → Int32 → Prop} {a0 : Nat} {H : HP} (h : wb_X12_below_0 d q a0 H) : WP (d + 1) mX12_below 0 0 0 [(0, rv (some a0))] [] H (qI q) := by
  unfold wb_X12_below_0 at h
  refine wp_aload_n 0 dX12_below_0 rfl ?_
  obtain ⟨ht1, h⟩ := h
  refine wp_getI (ci := 12) (j := 25) dX12_below_1 fi_X12_189r rfl rfl ht1 ?_
  change WP _ _ _ _ _ _ (.int (hI H 1325 a0 0) :: _) _ _
  refine wp_if_ge (tgt := 16) dX12_below_4 rfl (fun c => ?_) (fun c => ?_)
  · replace h := h.1 c
    refine wp_iconst (v := (1 : Int32)) dX12_below_16 (by decide) ?_
    exact wp_ireturn (ty := .int) dX12_below_17 rfl rfl ⟨_, rfl, h⟩
  · replace h := h.2 c
    refine wp_aload_n 0 dX12_below_7 rfl ?_
    refine wp_callV (ci := 12) (As := []) (rest := []) (mc := 0) (ms := 0) dX12_below_8 lk_X12_177 rfl rfl (by decide) rfl rfl rfl ht1 rfl rfl rfl w_6_206 (Call.weaken h ?_)
    rintro H2 _ ⟨r3, rfl, h⟩
    change WP _ _ _ _ _ _ [.int r3] H2 _
    refine wp_bipush (v := (47 : Int32)) dX12_below_11 (by decide) ?_
    refine wp_icmp_eq (tgt := 18) dX12_below_13 rfl (fun c => ?_) (fun c => ?_)
    · replace h := h.1 c
      refine wp_aload_n 0 dX12_below_18 rfl ?_
      refine wp_dup dX12_below_19 (rv_cat _) ?_
      obtain ⟨ht4, h⟩ := h
      refine wp_getI (ci := 12) (j := 24) dX12_below_20 fi_X12_174r rfl rfl ht4 ?_
      change WP _ _ _ _ _ _ (.int (hI H2 1324 a0 0) :: _) _ _
      refine wp_iconst (v := (1 : Int32)) dX12_below_23 (by decide) ?_
      refine wp_iadd dX12_below_24 ?_
      refine wp_putI (ci := 12) (j := 24) dX12_below_25 fi_X12_174 rfl (fun z => by cases z) rfl ht4 rfl rfl ?_
      change WP _ _ _ _ _ _ _ (sI H2 1324 a0 0 ((hI H2 1324 a0 0) + (1 : Int32))) _
      refine wp_aload_n 0 dX12_below_28 rfl ?_
      refine wp_bipush (v := (6 : Int32)) dX12_below_29 (by decide) ?_
      refine wp_callV (ci := 12) (As := [.int (6 : Int32)]) (rest := []) (mc := 0) (ms := 0) dX12_below_31 lk_X12_206 rfl rfl (by decide) rfl rfl rfl ht4 rfl rfl rfl w_6_220 (Call.weaken h ?_)
      rintro H5 _ ⟨r6, rfl, h⟩
      change WP _ _ _ _ _ _ [.int r6] H5 _
      exact wp_ireturn (ty := .int) dX12_below_34 rfl rfl ⟨_, rfl, h⟩
    · replace h := h.2 c
      refine wp_iconst (v := (1 : Int32)) dX12_below_16 (by decide) ?_
      exact wp_ireturn (ty := .int) dX12_below_17 rfl rfl ⟨_, rfl, h⟩
theorem C_X12_below {d : Nat} {q : HP → Int32 → Prop} {a0 : Nat} {H : HP} (h : wb_X12_below_0 d q a0 H) : CI (d + 1) 0 0 mX12_below [rv (some a0)] H q := by
  refine call_of (by decide +kernel) (by simp [lg_sl, rv_cat, vc_int, vc_long, vc_float, vc_double]) ?_
  have e : lv_args 0 [rv (some a0)] = [(0, rv (some a0))] := by simp [lv_args, rv_cat, vc_int, vc_long, vc_float, vc_double]
  rw [e]
  exact T_X12_below_0 h
def wb_X12_bits_0 (d : Nat) (q : HP → Int64 → Prop) (a0 : Nat) (x1 : Int32) (x2 : Int32) (x3 : Int32) (H : HP) : Prop :=
  CZ d 0 0 mX12_isIn [.long (x3.toInt64), .long (0 : Int64), .long (1 : Int64)] H (fun H1 b2 => (b2 = false → q H1 (-9223372036854775808 : Int64)) ∧ (b2 = true → tg H1 a0 = 13 ∧ (CZ d 0 0 mX12_isToldIn [rv (some a0), .int x1, .int x2] H1 (fun H3 b5 => (b5 = true → tg H3 a0 = 13 ∧ (∀ r7, alike64 r7 (FP.ddiv (FP.l2d (hL H3 1319 a0 0)) (FP.l2d (hL H3 1320 a0 0))) = true → ((¬ x3 = (1 : Int32) → ∀ r8, alike32 r8 (FP.d2f r7) = true → (CI d 0 0 mJxf58ca_floatToIntBits_5c35a [.float r8] H3 (fun H9 r10 => q H9 (r10.toInt64)))) ∧ (x3 = (1 : Int32) → CJ d 0 0 mJxe99ae_doubleToLongBits_ccdee [.double r7] H3 (fun H11 r12 => q H11 r12))))) ∧ (b5 = false → q H3 (-9223372036854775808 : Int64))))))
set_option maxRecDepth 40000 in
set_option maxHeartbeats 4000000 in
theorem T_X12_bits_0 {d : Nat} {q : HP → Int64 → Prop} {a0 : Nat} {x1 : Int32} {x2 : Int32} {x3 : Int32} {H : HP} (h : wb_X12_bits_0 d q a0 x1 x2 x3 H) : WP (d + 1) mX12_bits 0 0 0 [(0, rv (some a0)), (1, .int x1), (2, .int x2), (3, .int x3)] [] H (qJ q) := by
  unfold wb_X12_bits_0 at h
  refine wp_iload_n 3 dX12_bits_0 rfl ?_
  refine wp_i2l dX12_bits_1 ?_
  refine wp_lconst (v := (0 : Int64)) dX12_bits_2 (by decide) ?_
  refine wp_lconst (v := (1 : Int64)) dX12_bits_3 (by decide) ?_
  refine wp_callS (As := [.long (x3.toInt64), .long (0 : Int64), .long (1 : Int64)]) (rest := []) (mc := 0) (ms := 0) dX12_bits_4 lk_X12_161 rfl rfl (by decide) rfl rfl rfl (Call.weaken h ?_)
  rintro H1 _ ⟨b2, rfl, h⟩
  change WP _ _ _ _ _ _ [.int (bI b2)] H1 _
  refine wp_if_eq (tgt := 19) dX12_bits_7 rfl (fun c => ?_) (fun c => ?_)
  · replace h := h.1 (bI_0.mp c)
    refine wp_ldc2 dX12_bits_19 w_7_55 ?_
    exact wp_lreturn dX12_bits_22 rfl ⟨_, rfl, h⟩
  · replace h := h.2 (bI_1.mp c)
    refine wp_aload_n 0 dX12_bits_10 rfl ?_
    refine wp_iload_n 1 dX12_bits_11 rfl ?_
    refine wp_iload_n 2 dX12_bits_12 rfl ?_
    obtain ⟨ht4, h⟩ := h
    refine wp_callV (ci := 12) (As := [.int x1, .int x2]) (rest := []) (mc := 0) (ms := 0) dX12_bits_13 lk_X12_422 rfl rfl (by decide) rfl rfl rfl ht4 rfl rfl rfl w_7_233 (Call.weaken h ?_)
    rintro H3 _ ⟨b5, rfl, h⟩
    change WP _ _ _ _ _ _ [.int (bI b5)] H3 _
    refine wp_if_ne (tgt := 23) dX12_bits_16 rfl (fun c => ?_) (fun c => ?_)
    · replace h := h.1 (bI_1.mp c)
      refine wp_aload_n 0 dX12_bits_23 rfl ?_
      obtain ⟨ht6, h⟩ := h
      refine wp_getL (ci := 12) (j := 19) dX12_bits_24 fi_X12_143r rfl rfl ht6 ?_
      change WP _ _ _ _ _ _ (.long (hL H3 1319 a0 0) :: _) _ _
      refine wp_l2d dX12_bits_27 ?_
      refine wp_aload_n 0 dX12_bits_28 rfl ?_
      refine wp_getL (ci := 12) (j := 20) dX12_bits_29 fi_X12_147r rfl rfl ht6 ?_
      change WP _ _ _ _ _ _ (.long (hL H3 1320 a0 0) :: _) _ _
      refine wp_l2d dX12_bits_32 ?_
      refine wp_ddiv dX12_bits_33 (fun r7 hr7 => ?_)
      replace h := h r7 hr7
      refine wp_dstore (ls' := [(4, .double r7), (0, rv (some a0)), (1, .int x1), (2, .int x2), (3, .int x3)]) dX12_bits_34 (by decide) rfl ?_
      refine wp_iload_n 4 dX12_bits_36 rfl ?_
      refine wp_iconst (v := (1 : Int32)) dX12_bits_37 (by decide) ?_
      refine wp_icmp_ne (tgt := 49) dX12_bits_38 rfl (fun c => ?_) (fun c => ?_)
      · replace h := h.1 c
        refine wp_dload 0 dX12_bits_49 rfl ?_
        refine wp_d2f dX12_bits_51 (fun r8 hr8 => ?_)
        replace h := h r8 hr8
        refine wp_callS (As := [.float r8]) (rest := []) (mc := 0) (ms := 0) dX12_bits_52 lk_X12_431 rfl rfl (by decide) rfl rfl rfl (Call.weaken h ?_)
        rintro H9 _ ⟨r10, rfl, h⟩
        change WP _ _ _ _ _ _ [.int r10] H9 _
        refine wp_i2l dX12_bits_55 ?_
        exact wp_lreturn dX12_bits_56 rfl ⟨_, rfl, h⟩
      · replace h := h.2 c
        refine wp_dload 0 dX12_bits_41 rfl ?_
        refine wp_callS (As := [.double r7]) (rest := []) (mc := 0) (ms := 0) dX12_bits_43 lk_X12_425 rfl rfl (by decide) rfl rfl rfl (Call.weaken h ?_)
        rintro H11 _ ⟨r12, rfl, h⟩
        change WP _ _ _ _ _ _ [.long r12] H11 _
        refine wp_goto (tgt := 56) dX12_bits_46 rfl ?_
        exact wp_lreturn dX12_bits_56 rfl ⟨_, rfl, h⟩
    · replace h := h.2 (bI_0.mp c)
      refine wp_ldc2 dX12_bits_19 w_7_55 ?_
      exact wp_lreturn dX12_bits_22 rfl ⟨_, rfl, h⟩
theorem C_X12_bits {d : Nat} {q : HP → Int64 → Prop} {a0 : Nat} {x1 : Int32} {x2 : Int32} {x3 : Int32} {H : HP} (h : wb_X12_bits_0 d q a0 x1 x2 x3 H) : CJ (d + 1) 0 0 mX12_bits [rv (some a0), .int x1, .int x2, .int x3] H q := by
  refine call_of (by decide +kernel) (by simp [lg_sl, rv_cat, vc_int, vc_long, vc_float, vc_double]) ?_
  have e : lv_args 0 [rv (some a0), .int x1, .int x2, .int x3] = [(0, rv (some a0)), (1, .int x1), (2, .int x2), (3, .int x3)] := by simp [lv_args, rv_cat, vc_int, vc_long, vc_float, vc_double]
  rw [e]
  exact T_X12_bits_0 h
def wb_X12_by_0 (d : Nat) (q : HP → Prop) (a0 : Nat) (x1 : Int64) (x3 : Int64) (x5 : Int64) (x7 : Int64) (H : HP) : Prop :=
  ((0 : Int64) ≤ x5 → ((0 : Int64) ≤ x5 → tg H a0 = 13 ∧ (CV d 0 0 mX12_times [rv (some a0), .long x1, .long x3, .long x7, .long x5] H (fun H1 => q H1))) ∧ (¬ ((0 : Int64) ≤ x5) → tg H a0 = 13 ∧ (CV d 0 0 mX12_times [rv (some a0), .long x1, .long x3, .long x7, .long (-x5)] H (fun H3 => q H3)))) ∧ (¬ ((0 : Int64) ≤ x5) → ((0 : Int64) ≤ x5 → tg H a0 = 13 ∧ (CV d 0 0 mX12_times [rv (some a0), .long x1, .long x3, .long (-x7), .long x5] H (fun H5 => q H5))) ∧ (¬ ((0 : Int64) ≤ x5) → tg H a0 = 13 ∧ (CV d 0 0 mX12_times [rv (some a0), .long x1, .long x3, .long (-x7), .long (-x5)] H (fun H7 => q H7))))
set_option maxRecDepth 40000 in
set_option maxHeartbeats 4000000 in
theorem T_X12_by_0 {d : Nat} {q : HP → Prop} {a0 : Nat} {x1 : Int64} {x3 : Int64} {x5 : Int64} {x7 : Int64} {H : HP} (h : wb_X12_by_0 d q a0 x1 x3 x5 x7 H) : WP (d + 1) mX12_by 0 0 0 [(0, rv (some a0)), (1, .long x1), (3, .long x3), (5, .long x5), (7, .long x7)] [] H (qV q) := by
  unfold wb_X12_by_0 at h
  refine wp_aload_n 0 dX12_by_0 rfl ?_
  refine wp_lload_n 1 dX12_by_1 rfl ?_
  refine wp_lload_n 2 dX12_by_2 rfl ?_
  refine wp_lload 3 dX12_by_3 rfl ?_
  refine wp_lconst (v := (0 : Int64)) dX12_by_5 (by decide) ?_
  refine wp_lcmp dX12_by_6 ?_
  refine wp_if_ge (tgt := 16) dX12_by_7 rfl (fun c => ?_) (fun c => ?_)
  · replace h := h.1 (lgc_ge.mp c)
    refine wp_lload 4 dX12_by_16 rfl ?_
    refine wp_lload 3 dX12_by_18 rfl ?_
    refine wp_lconst (v := (0 : Int64)) dX12_by_20 (by decide) ?_
    refine wp_lcmp dX12_by_21 ?_
    refine wp_if_ge (tgt := 31) dX12_by_22 rfl (fun c => ?_) (fun c => ?_)
    · replace h := h.1 (lgc_ge.mp c)
      refine wp_lload 3 dX12_by_31 rfl ?_
      obtain ⟨ht2, h⟩ := h
      refine wp_callV (ci := 12) (As := [.long x1, .long x3, .long x7, .long x5]) (rest := []) (mc := 0) (ms := 0) dX12_by_33 lk_X12_153 rfl rfl (by decide) rfl rfl rfl ht2 rfl rfl rfl w_7_47 (Call.weaken h ?_)
      rintro H1 _ ⟨rfl, h⟩
      change WP _ _ _ _ _ _ [] H1 _
      exact wp_return dX12_by_36 rfl ⟨rfl, h⟩
    · replace h := h.2 (fun z => c (lgc_ge.mpr z))
      refine wp_lload 3 dX12_by_25 rfl ?_
      refine wp_lneg dX12_by_27 ?_
      refine wp_goto (tgt := 33) dX12_by_28 rfl ?_
      obtain ⟨ht4, h⟩ := h
      refine wp_callV (ci := 12) (As := [.long x1, .long x3, .long x7, .long (-x5)]) (rest := []) (mc := 0) (ms := 0) dX12_by_33 lk_X12_153 rfl rfl (by decide) rfl rfl rfl ht4 rfl rfl rfl w_7_47 (Call.weaken h ?_)
      rintro H3 _ ⟨rfl, h⟩
      change WP _ _ _ _ _ _ [] H3 _
      exact wp_return dX12_by_36 rfl ⟨rfl, h⟩
  · replace h := h.2 (fun z => c (lgc_ge.mpr z))
    refine wp_lload 4 dX12_by_10 rfl ?_
    refine wp_lneg dX12_by_12 ?_
    refine wp_goto (tgt := 18) dX12_by_13 rfl ?_
    refine wp_lload 3 dX12_by_18 rfl ?_
    refine wp_lconst (v := (0 : Int64)) dX12_by_20 (by decide) ?_
    refine wp_lcmp dX12_by_21 ?_
    refine wp_if_ge (tgt := 31) dX12_by_22 rfl (fun c => ?_) (fun c => ?_)
    · replace h := h.1 (lgc_ge.mp c)
      refine wp_lload 3 dX12_by_31 rfl ?_
      obtain ⟨ht6, h⟩ := h
      refine wp_callV (ci := 12) (As := [.long x1, .long x3, .long (-x7), .long x5]) (rest := []) (mc := 0) (ms := 0) dX12_by_33 lk_X12_153 rfl rfl (by decide) rfl rfl rfl ht6 rfl rfl rfl w_7_47 (Call.weaken h ?_)
      rintro H5 _ ⟨rfl, h⟩
      change WP _ _ _ _ _ _ [] H5 _
      exact wp_return dX12_by_36 rfl ⟨rfl, h⟩
    · replace h := h.2 (fun z => c (lgc_ge.mpr z))
      refine wp_lload 3 dX12_by_25 rfl ?_
      refine wp_lneg dX12_by_27 ?_
      refine wp_goto (tgt := 33) dX12_by_28 rfl ?_
      obtain ⟨ht8, h⟩ := h
      refine wp_callV (ci := 12) (As := [.long x1, .long x3, .long (-x7), .long (-x5)]) (rest := []) (mc := 0) (ms := 0) dX12_by_33 lk_X12_153 rfl rfl (by decide) rfl rfl rfl ht8 rfl rfl rfl w_7_47 (Call.weaken h ?_)
      rintro H7 _ ⟨rfl, h⟩
      change WP _ _ _ _ _ _ [] H7 _
      exact wp_return dX12_by_36 rfl ⟨rfl, h⟩
theorem C_X12_by {d : Nat} {q : HP → Prop} {a0 : Nat} {x1 : Int64} {x3 : Int64} {x5 : Int64} {x7 : Int64} {H : HP} (h : wb_X12_by_0 d q a0 x1 x3 x5 x7 H) : CV (d + 1) 0 0 mX12_by [rv (some a0), .long x1, .long x3, .long x5, .long x7] H q := by
  refine call_of (by decide +kernel) (by simp [lg_sl, rv_cat, vc_int, vc_long, vc_float, vc_double]) ?_
  have e : lv_args 0 [rv (some a0), .long x1, .long x3, .long x5, .long x7] = [(0, rv (some a0)), (1, .long x1), (3, .long x3), (5, .long x5), (7, .long x7)] := by simp [lv_args, rv_cat, vc_int, vc_long, vc_float, vc_double]
  rw [e]
  exact T_X12_by_0 h
def wb_X12_by__0 (d : Nat) (q : HP → Int64 → Prop) (a0 : Nat) (x1 : Int32) (x2 : Int32) (x3 : Int32) (H : HP) : Prop :=
  tg H a0 = 13 ∧ (CZ d 0 0 mX12_isUnit [rv (some a0), .int x1] H (fun H1 b3 => (b3 = false → q H1 (-9223372036854775808 : Int64)) ∧ (b3 = true → tg H1 a0 = 13 ∧ (CZ d 0 0 mX12_isUnit [rv (some a0), .int x2] H1 (fun H4 b6 => (b6 = false → q H4 (-9223372036854775808 : Int64)) ∧ (b6 = true → CZ d 0 0 mX12_isPart [.int x3] H4 (fun H7 b8 => (b8 = true → tg H7 a0 = 13 ∧ (CV d 0 0 mX12_tells [rv (some a0)] H7 (fun H9 => tg H9 a0 = 13 ∧ (CZ d 0 0 mX12_areBound [rv (some a0), .int x1, .int x2, .int (hI H9 1307 a0 0)] H9 (fun H12 b13 => (b13 = true → tg H12 a0 = 13 ∧ (CV d 0 0 mX12_goes [rv (some a0), .int x1, .int x2] H12 (fun H14 => tg H14 a0 = 13 ∧ (CJ d 0 0 mX12_latest [rv (some a0), .int x3] H14 (fun H16 r18 => q H16 r18))))) ∧ (b13 = false → q H12 (-9223372036854775808 : Int64))))))) ∧ (b8 = false → q H7 (-9223372036854775808 : Int64)))))))))
set_option maxRecDepth 40000 in
set_option maxHeartbeats 4000000 in
theorem T_X12_by__0 {d : Nat} {q : HP → Int64 → Prop} {a0 : Nat} {x1 : Int32} {x2 : Int32} {x3 : Int32} {H : HP} (h : wb_X12_by__0 d q a0 x1 x2 x3 H) : WP (d + 1) mX12_by_ 0 0 0 [(0, rv (some a0)), (1, .int x1), (2, .int x2), (3, .int x3)] [] H (qJ q) := by
  unfold wb_X12_by__0 at h
  refine wp_aload_n 0 dX12_by__0 rfl ?_
  refine wp_iload_n 1 dX12_by__1 rfl ?_
  obtain ⟨ht2, h⟩ := h
  refine wp_callV (ci := 12) (As := [.int x1]) (rest := []) (mc := 0) (ms := 0) dX12_by__2 lk_X12_283 rfl rfl (by decide) rfl rfl rfl ht2 rfl rfl rfl w_7_77 (Call.weaken h ?_)
  rintro H1 _ ⟨b3, rfl, h⟩
  change WP _ _ _ _ _ _ [.int (bI b3)] H1 _
  refine wp_if_eq (tgt := 23) dX12_by__5 rfl (fun c => ?_) (fun c => ?_)
  · replace h := h.1 (bI_0.mp c)
    refine wp_ldc2 dX12_by__23 w_7_55 ?_
    exact wp_lreturn dX12_by__26 rfl ⟨_, rfl, h⟩
  · replace h := h.2 (bI_1.mp c)
    refine wp_aload_n 0 dX12_by__8 rfl ?_
    refine wp_iload_n 2 dX12_by__9 rfl ?_
    obtain ⟨ht5, h⟩ := h
    refine wp_callV (ci := 12) (As := [.int x2]) (rest := []) (mc := 0) (ms := 0) dX12_by__10 lk_X12_283 rfl rfl (by decide) rfl rfl rfl ht5 rfl rfl rfl w_7_77 (Call.weaken h ?_)
    rintro H4 _ ⟨b6, rfl, h⟩
    change WP _ _ _ _ _ _ [.int (bI b6)] H4 _
    refine wp_if_eq (tgt := 23) dX12_by__13 rfl (fun c => ?_) (fun c => ?_)
    · replace h := h.1 (bI_0.mp c)
      refine wp_ldc2 dX12_by__23 w_7_55 ?_
      exact wp_lreturn dX12_by__26 rfl ⟨_, rfl, h⟩
    · replace h := h.2 (bI_1.mp c)
      refine wp_iload_n 3 dX12_by__16 rfl ?_
      refine wp_callS (As := [.int x3]) (rest := []) (mc := 0) (ms := 0) dX12_by__17 lk_X12_288 rfl rfl (by decide) rfl rfl rfl (Call.weaken h ?_)
      rintro H7 _ ⟨b8, rfl, h⟩
      change WP _ _ _ _ _ _ [.int (bI b8)] H7 _
      refine wp_if_ne (tgt := 27) dX12_by__20 rfl (fun c => ?_) (fun c => ?_)
      · replace h := h.1 (bI_1.mp c)
        refine wp_aload_n 0 dX12_by__27 rfl ?_
        obtain ⟨ht10, h⟩ := h
        refine wp_callV (ci := 12) (As := []) (rest := []) (mc := 0) (ms := 0) dX12_by__28 lk_X12_452 rfl rfl (by decide) rfl rfl rfl ht10 rfl rfl rfl w_8_51 (Call.weaken h ?_)
        rintro H9 _ ⟨rfl, h⟩
        change WP _ _ _ _ _ _ [] H9 _
        refine wp_aload_n 0 dX12_by__31 rfl ?_
        refine wp_iload_n 1 dX12_by__32 rfl ?_
        refine wp_iload_n 2 dX12_by__33 rfl ?_
        refine wp_aload_n 0 dX12_by__34 rfl ?_
        obtain ⟨ht11, h⟩ := h
        refine wp_getI (ci := 12) (j := 7) dX12_by__35 fi_X12_275r rfl rfl ht11 ?_
        change WP _ _ _ _ _ _ (.int (hI H9 1307 a0 0) :: _) _ _
        refine wp_callV (ci := 12) (As := [.int x1, .int x2, .int (hI H9 1307 a0 0)]) (rest := []) (mc := 0) (ms := 0) dX12_by__38 lk_X12_440 rfl rfl (by decide) rfl rfl rfl ht11 rfl rfl rfl w_8_55 (Call.weaken h ?_)
        rintro H12 _ ⟨b13, rfl, h⟩
        change WP _ _ _ _ _ _ [.int (bI b13)] H12 _
        refine wp_if_ne (tgt := 48) dX12_by__41 rfl (fun c => ?_) (fun c => ?_)
        · replace h := h.1 (bI_1.mp c)
          refine wp_aload_n 0 dX12_by__48 rfl ?_
          refine wp_iload_n 1 dX12_by__49 rfl ?_
          refine wp_iload_n 2 dX12_by__50 rfl ?_
          obtain ⟨ht15, h⟩ := h
          refine wp_callV (ci := 12) (As := [.int x1, .int x2]) (rest := []) (mc := 0) (ms := 0) dX12_by__51 lk_X12_444 rfl rfl (by decide) rfl rfl rfl ht15 rfl rfl rfl w_8_59 (Call.weaken h ?_)
          rintro H14 _ ⟨rfl, h⟩
          change WP _ _ _ _ _ _ [] H14 _
          refine wp_aload_n 0 dX12_by__54 rfl ?_
          refine wp_iload_n 3 dX12_by__55 rfl ?_
          obtain ⟨ht17, h⟩ := h
          refine wp_callV (ci := 12) (As := [.int x3]) (rest := []) (mc := 0) (ms := 0) dX12_by__56 lk_X12_299 rfl rfl (by decide) rfl rfl rfl ht17 rfl rfl rfl w_7_104 (Call.weaken h ?_)
          rintro H16 _ ⟨r18, rfl, h⟩
          change WP _ _ _ _ _ _ [.long r18] H16 _
          exact wp_lreturn dX12_by__59 rfl ⟨_, rfl, h⟩
        · replace h := h.2 (bI_0.mp c)
          refine wp_ldc2 dX12_by__44 w_7_55 ?_
          exact wp_lreturn dX12_by__47 rfl ⟨_, rfl, h⟩
      · replace h := h.2 (bI_0.mp c)
        refine wp_ldc2 dX12_by__23 w_7_55 ?_
        exact wp_lreturn dX12_by__26 rfl ⟨_, rfl, h⟩
theorem C_X12_by_ {d : Nat} {q : HP → Int64 → Prop} {a0 : Nat} {x1 : Int32} {x2 : Int32} {x3 : Int32} {H : HP} (h : wb_X12_by__0 d q a0 x1 x2 x3 H) : CJ (d + 1) 0 0 mX12_by_ [rv (some a0), .int x1, .int x2, .int x3] H q := by
  refine call_of (by decide +kernel) (by simp [lg_sl, rv_cat, vc_int, vc_long, vc_float, vc_double]) ?_
  have e : lv_args 0 [rv (some a0), .int x1, .int x2, .int x3] = [(0, rv (some a0)), (1, .int x1), (2, .int x2), (3, .int x3)] := by simp [lv_args, rv_cat, vc_int, vc_long, vc_float, vc_double]
  rw [e]
  exact T_X12_by__0 h
def wb_X12_cast_0 (d : Nat) (q : HP → Int64 → Prop) (a0 : Nat) (x1 : Int32) (x2 : Int32) (x3 : Int32) (H : HP) : Prop :=
  CZ d 0 0 mX12_isIn [.long (x3.toInt64), .long (0 : Int64), .long (3 : Int64)] H (fun H1 b2 => (b2 = false → q H1 (-9223372036854775808 : Int64)) ∧ (b2 = true → tg H1 a0 = 13 ∧ (CI d 0 0 mX12_barred [rv (some a0), .int x1, .int x2] H1 (fun H3 r5 => (r5 = 0 → tg H3 a0 = 13 ∧ (∃ a7, (hC H3 1359 a0) = some a7 ∧ (isA H3 a7 4 ∧ (vp_in (((30 : Int32) * x1) + x2) (ln H3 a7) ∧ (∃ a10, (hC H3 1360 a0) = some a10 ∧ (isA H3 a10 5 ∧ (vp_in (((30 : Int32) * x1) + x2) (ln H3 a10) ∧ (∃ a13, (hC H3 1357 a0) = some a13 ∧ (isA H3 a13 0 ∧ (vp_in x1 (ln H3 a13) ∧ ((¬ (hI H3 (tg H3 a13) a13 x1.toNatClampNeg) = 0 → (¬ x3 = (3 : Int32) → ((0 : Int32) = 0 → (¬ x3 = 0 → (¬ x3 = (1 : Int32) → q H3 (((FP.d2i (hD H3 (tg H3 a10) a10 (((30 : Int32) * x1) + x2).toNatClampNeg)).toInt16.toInt32).toInt64)) ∧ (x3 = (1 : Int32) → q H3 (((FP.d2i (hD H3 (tg H3 a10) a10 (((30 : Int32) * x1) + x2).toNatClampNeg)).toInt8.toInt32).toInt64))) ∧ (x3 = 0 → q H3 ((FP.d2i (hD H3 (tg H3 a10) a10 (((30 : Int32) * x1) + x2).toNatClampNeg)).toInt64))) ∧ (¬ ((0 : Int32) = 0) → (¬ x3 = 0 → (¬ x3 = (1 : Int32) → q H3 (((FP.f2i (hF H3 (tg H3 a7) a7 (((30 : Int32) * x1) + x2).toNatClampNeg)).toInt16.toInt32).toInt64)) ∧ (x3 = (1 : Int32) → q H3 (((FP.f2i (hF H3 (tg H3 a7) a7 (((30 : Int32) * x1) + x2).toNatClampNeg)).toInt8.toInt32).toInt64))) ∧ (x3 = 0 → q H3 ((FP.f2i (hF H3 (tg H3 a7) a7 (((30 : Int32) * x1) + x2).toNatClampNeg)).toInt64)))) ∧ (x3 = (3 : Int32) → ((0 : Int32) = 0 → q H3 (FP.d2l (hD H3 (tg H3 a10) a10 (((30 : Int32) * x1) + x2).toNatClampNeg))) ∧ (¬ ((0 : Int32) = 0) → q H3 (FP.f2l (hF H3 (tg H3 a7) a7 (((30 : Int32) * x1) + x2).toNatClampNeg))))) ∧ ((hI H3 (tg H3 a13) a13 x1.toNatClampNeg) = 0 → (¬ x3 = (3 : Int32) → ((1 : Int32) = 0 → (¬ x3 = 0 → (¬ x3 = (1 : Int32) → q H3 (((FP.d2i (hD H3 (tg H3 a10) a10 (((30 : Int32) * x1) + x2).toNatClampNeg)).toInt16.toInt32).toInt64)) ∧ (x3 = (1 : Int32) → q H3 (((FP.d2i (hD H3 (tg H3 a10) a10 (((30 : Int32) * x1) + x2).toNatClampNeg)).toInt8.toInt32).toInt64))) ∧ (x3 = 0 → q H3 ((FP.d2i (hD H3 (tg H3 a10) a10 (((30 : Int32) * x1) + x2).toNatClampNeg)).toInt64))) ∧ (¬ ((1 : Int32) = 0) → (¬ x3 = 0 → (¬ x3 = (1 : Int32) → q H3 (((FP.f2i (hF H3 (tg H3 a7) a7 (((30 : Int32) * x1) + x2).toNatClampNeg)).toInt16.toInt32).toInt64)) ∧ (x3 = (1 : Int32) → q H3 (((FP.f2i (hF H3 (tg H3 a7) a7 (((30 : Int32) * x1) + x2).toNatClampNeg)).toInt8.toInt32).toInt64))) ∧ (x3 = 0 → q H3 ((FP.f2i (hF H3 (tg H3 a7) a7 (((30 : Int32) * x1) + x2).toNatClampNeg)).toInt64)))) ∧ (x3 = (3 : Int32) → ((1 : Int32) = 0 → q H3 (FP.d2l (hD H3 (tg H3 a10) a10 (((30 : Int32) * x1) + x2).toNatClampNeg))) ∧ (¬ ((1 : Int32) = 0) → q H3 (FP.f2l (hF H3 (tg H3 a7) a7 (((30 : Int32) * x1) + x2).toNatClampNeg)))))))))))))))) ∧ (¬ (r5 = 0) → q H3 (-9223372036854775808 : Int64))))))
set_option maxRecDepth 40000 in
set_option maxHeartbeats 4000000 in
theorem T_X12_cast_0 {d : Nat} {q : HP → Int64 → Prop} {a0 : Nat} {x1 : Int32} {x2 : Int32} {x3 : Int32} {H : HP} (h : wb_X12_cast_0 d q a0 x1 x2 x3 H) : WP (d + 1) mX12_cast 0 0 0 [(0, rv (some a0)), (1, .int x1), (2, .int x2), (3, .int x3)] [] H (qJ q) := by
  unfold wb_X12_cast_0 at h
  refine wp_iload_n 3 dX12_cast_0 rfl ?_
  refine wp_i2l dX12_cast_1 ?_
  refine wp_lconst (v := (0 : Int64)) dX12_cast_2 (by decide) ?_
  refine wp_ldc2 dX12_cast_3 w_8_67 ?_
  refine wp_callS (As := [.long (x3.toInt64), .long (0 : Int64), .long (3 : Int64)]) (rest := []) (mc := 0) (ms := 0) dX12_cast_6 lk_X12_161 rfl rfl (by decide) rfl rfl rfl (Call.weaken h ?_)
  rintro H1 _ ⟨b2, rfl, h⟩
  change WP _ _ _ _ _ _ [.int (bI b2)] H1 _
  refine wp_if_eq (tgt := 21) dX12_cast_9 rfl (fun c => ?_) (fun c => ?_)
  · replace h := h.1 (bI_0.mp c)
    refine wp_ldc2 dX12_cast_21 w_7_55 ?_
    exact wp_lreturn dX12_cast_24 rfl ⟨_, rfl, h⟩
  · replace h := h.2 (bI_1.mp c)
    refine wp_aload_n 0 dX12_cast_12 rfl ?_
    refine wp_iload_n 1 dX12_cast_13 rfl ?_
    refine wp_iload_n 2 dX12_cast_14 rfl ?_
    obtain ⟨ht4, h⟩ := h
    refine wp_callV (ci := 12) (As := [.int x1, .int x2]) (rest := []) (mc := 0) (ms := 0) dX12_cast_15 lk_X12_468 rfl rfl (by decide) rfl rfl rfl ht4 rfl rfl rfl w_8_92 (Call.weaken h ?_)
    rintro H3 _ ⟨r5, rfl, h⟩
    change WP _ _ _ _ _ _ [.int r5] H3 _
    refine wp_if_eq (tgt := 25) dX12_cast_18 rfl (fun c => ?_) (fun c => ?_)
    · replace h := h.1 c
      refine wp_aload_n 0 dX12_cast_25 rfl ?_
      obtain ⟨ht6, h⟩ := h
      refine wp_getC (ci := 12) (j := 59) dX12_cast_26 fi_X12_113r rfl rfl ht6 ?_
      change WP _ _ _ _ _ _ (rv (hC H3 1359 a0) :: _) _ _
      refine wp_bipush (v := (30 : Int32)) dX12_cast_29 (by decide) ?_
      refine wp_iload_n 1 dX12_cast_31 rfl ?_
      refine wp_imul dX12_cast_32 ?_
      refine wp_iload_n 2 dX12_cast_33 rfl ?_
      refine wp_iadd dX12_cast_34 ?_
      obtain ⟨a7, ha7, h⟩ := h
      obtain ⟨hr8, h⟩ := h
      obtain ⟨hg9, h⟩ := h
      refine wp_faload dX12_cast_35 ha7 hr8 hg9 ?_
      refine wp_fstore (ls' := [(4, .float (hF H3 (tg H3 a7) a7 (((30 : Int32) * x1) + x2).toNatClampNeg)), (0, rv (some a0)), (1, .int x1), (2, .int x2), (3, .int x3)]) dX12_cast_36 (by decide) rfl ?_
      refine wp_aload_n 1 dX12_cast_38 rfl ?_
      refine wp_getC (ci := 12) (j := 60) dX12_cast_39 fi_X12_117r rfl rfl ht6 ?_
      change WP _ _ _ _ _ _ (rv (hC H3 1360 a0) :: _) _ _
      refine wp_bipush (v := (30 : Int32)) dX12_cast_42 (by decide) ?_
      refine wp_iload_n 2 dX12_cast_44 rfl ?_
      refine wp_imul dX12_cast_45 ?_
      refine wp_iload_n 3 dX12_cast_46 rfl ?_
      refine wp_iadd dX12_cast_47 ?_
      obtain ⟨a10, ha10, h⟩ := h
      obtain ⟨hr11, h⟩ := h
      obtain ⟨hg12, h⟩ := h
      refine wp_daload dX12_cast_48 ha10 hr11 hg12 ?_
      refine wp_dstore (ls' := [(5, .double (hD H3 (tg H3 a10) a10 (((30 : Int32) * x1) + x2).toNatClampNeg)), (4, .float (hF H3 (tg H3 a7) a7 (((30 : Int32) * x1) + x2).toNatClampNeg)), (0, rv (some a0)), (1, .int x1), (2, .int x2), (3, .int x3)]) dX12_cast_49 (by decide) rfl ?_
      refine wp_aload_n 2 dX12_cast_51 rfl ?_
      refine wp_getC (ci := 12) (j := 57) dX12_cast_52 fi_X12_107r rfl rfl ht6 ?_
      change WP _ _ _ _ _ _ (rv (hC H3 1357 a0) :: _) _ _
      refine wp_iload_n 3 dX12_cast_55 rfl ?_
      obtain ⟨a13, ha13, h⟩ := h
      obtain ⟨hr14, h⟩ := h
      obtain ⟨hg15, h⟩ := h
      refine wp_iaload dX12_cast_56 ha13 hr14 hg15 ?_
      refine wp_if_ne (tgt := 64) dX12_cast_57 rfl (fun c => ?_) (fun c => ?_)
      · replace h := h.1 c
        refine wp_iconst (v := (0 : Int32)) dX12_cast_64 (by decide) ?_
        refine wp_istore (ls' := [(7, .int (0 : Int32)), (5, .double (hD H3 (tg H3 a10) a10 (((30 : Int32) * x1) + x2).toNatClampNeg)), (4, .float (hF H3 (tg H3 a7) a7 (((30 : Int32) * x1) + x2).toNatClampNeg)), (0, rv (some a0)), (1, .int x1), (2, .int x2), (3, .int x3)]) dX12_cast_65 (by decide) rfl ?_
        refine wp_iload_n 6 dX12_cast_67 rfl ?_
        refine wp_iconst (v := (3 : Int32)) dX12_cast_68 (by decide) ?_
        refine wp_icmp_ne (tgt := 87) dX12_cast_69 rfl (fun c => ?_) (fun c => ?_)
        · replace h := h.1 c
          refine wp_iload 0 dX12_cast_87 rfl ?_
          refine wp_if_eq (tgt := 98) dX12_cast_89 rfl (fun c => ?_) (fun c => ?_)
          · replace h := h.1 c
            refine wp_dload 1 dX12_cast_98 rfl ?_
            refine wp_d2i dX12_cast_100 ?_
            refine wp_istore (ls' := [(8, .int (FP.d2i (hD H3 (tg H3 a10) a10 (((30 : Int32) * x1) + x2).toNatClampNeg))), (7, .int (0 : Int32)), (5, .double (hD H3 (tg H3 a10) a10 (((30 : Int32) * x1) + x2).toNatClampNeg)), (4, .float (hF H3 (tg H3 a7) a7 (((30 : Int32) * x1) + x2).toNatClampNeg)), (0, rv (some a0)), (1, .int x1), (2, .int x2), (3, .int x3)]) dX12_cast_101 (by decide) rfl ?_
            refine wp_iload_n 7 dX12_cast_103 rfl ?_
            refine wp_if_ne (tgt := 113) dX12_cast_104 rfl (fun c => ?_) (fun c => ?_)
            · replace h := h.1 c
              refine wp_iload_n 7 dX12_cast_113 rfl ?_
              refine wp_iconst (v := (1 : Int32)) dX12_cast_114 (by decide) ?_
              refine wp_icmp_ne (tgt := 125) dX12_cast_115 rfl (fun c => ?_) (fun c => ?_)
              · replace h := h.1 c
                refine wp_iload 0 dX12_cast_125 rfl ?_
                refine wp_i2s dX12_cast_127 ?_
                refine wp_i2l dX12_cast_128 ?_
                exact wp_lreturn dX12_cast_129 rfl ⟨_, rfl, h⟩
              · replace h := h.2 c
                refine wp_iload 0 dX12_cast_118 rfl ?_
                refine wp_i2b dX12_cast_120 ?_
                refine wp_i2l dX12_cast_121 ?_
                refine wp_goto (tgt := 129) dX12_cast_122 rfl ?_
                exact wp_lreturn dX12_cast_129 rfl ⟨_, rfl, h⟩
            · replace h := h.2 c
              refine wp_iload 0 dX12_cast_107 rfl ?_
              refine wp_i2l dX12_cast_109 ?_
              refine wp_goto (tgt := 129) dX12_cast_110 rfl ?_
              exact wp_lreturn dX12_cast_129 rfl ⟨_, rfl, h⟩
          · replace h := h.2 c
            refine wp_fload 2 dX12_cast_92 rfl ?_
            refine wp_f2i dX12_cast_94 ?_
            refine wp_goto (tgt := 101) dX12_cast_95 rfl ?_
            refine wp_istore (ls' := [(8, .int (FP.f2i (hF H3 (tg H3 a7) a7 (((30 : Int32) * x1) + x2).toNatClampNeg))), (7, .int (0 : Int32)), (5, .double (hD H3 (tg H3 a10) a10 (((30 : Int32) * x1) + x2).toNatClampNeg)), (4, .float (hF H3 (tg H3 a7) a7 (((30 : Int32) * x1) + x2).toNatClampNeg)), (0, rv (some a0)), (1, .int x1), (2, .int x2), (3, .int x3)]) dX12_cast_101 (by decide) rfl ?_
            refine wp_iload_n 7 dX12_cast_103 rfl ?_
            refine wp_if_ne (tgt := 113) dX12_cast_104 rfl (fun c => ?_) (fun c => ?_)
            · replace h := h.1 c
              refine wp_iload_n 7 dX12_cast_113 rfl ?_
              refine wp_iconst (v := (1 : Int32)) dX12_cast_114 (by decide) ?_
              refine wp_icmp_ne (tgt := 125) dX12_cast_115 rfl (fun c => ?_) (fun c => ?_)
              · replace h := h.1 c
                refine wp_iload 0 dX12_cast_125 rfl ?_
                refine wp_i2s dX12_cast_127 ?_
                refine wp_i2l dX12_cast_128 ?_
                exact wp_lreturn dX12_cast_129 rfl ⟨_, rfl, h⟩
              · replace h := h.2 c
                refine wp_iload 0 dX12_cast_118 rfl ?_
                refine wp_i2b dX12_cast_120 ?_
                refine wp_i2l dX12_cast_121 ?_
                refine wp_goto (tgt := 129) dX12_cast_122 rfl ?_
                exact wp_lreturn dX12_cast_129 rfl ⟨_, rfl, h⟩
            · replace h := h.2 c
              refine wp_iload 0 dX12_cast_107 rfl ?_
              refine wp_i2l dX12_cast_109 ?_
              refine wp_goto (tgt := 129) dX12_cast_110 rfl ?_
              exact wp_lreturn dX12_cast_129 rfl ⟨_, rfl, h⟩
        · replace h := h.2 c
          refine wp_iload 0 dX12_cast_72 rfl ?_
          refine wp_if_eq (tgt := 83) dX12_cast_74 rfl (fun c => ?_) (fun c => ?_)
          · replace h := h.1 c
            refine wp_dload 1 dX12_cast_83 rfl ?_
            refine wp_d2l dX12_cast_85 ?_
            exact wp_lreturn dX12_cast_86 rfl ⟨_, rfl, h⟩
          · replace h := h.2 c
            refine wp_fload 2 dX12_cast_77 rfl ?_
            refine wp_f2l dX12_cast_79 ?_
            refine wp_goto (tgt := 86) dX12_cast_80 rfl ?_
            exact wp_lreturn dX12_cast_86 rfl ⟨_, rfl, h⟩
      · replace h := h.2 c
        refine wp_iconst (v := (1 : Int32)) dX12_cast_60 (by decide) ?_
        refine wp_goto (tgt := 65) dX12_cast_61 rfl ?_
        refine wp_istore (ls' := [(7, .int (1 : Int32)), (5, .double (hD H3 (tg H3 a10) a10 (((30 : Int32) * x1) + x2).toNatClampNeg)), (4, .float (hF H3 (tg H3 a7) a7 (((30 : Int32) * x1) + x2).toNatClampNeg)), (0, rv (some a0)), (1, .int x1), (2, .int x2), (3, .int x3)]) dX12_cast_65 (by decide) rfl ?_
        refine wp_iload_n 6 dX12_cast_67 rfl ?_
        refine wp_iconst (v := (3 : Int32)) dX12_cast_68 (by decide) ?_
        refine wp_icmp_ne (tgt := 87) dX12_cast_69 rfl (fun c => ?_) (fun c => ?_)
        · replace h := h.1 c
          refine wp_iload 0 dX12_cast_87 rfl ?_
          refine wp_if_eq (tgt := 98) dX12_cast_89 rfl (fun c => ?_) (fun c => ?_)
          · replace h := h.1 c
            refine wp_dload 1 dX12_cast_98 rfl ?_
            refine wp_d2i dX12_cast_100 ?_
            refine wp_istore (ls' := [(8, .int (FP.d2i (hD H3 (tg H3 a10) a10 (((30 : Int32) * x1) + x2).toNatClampNeg))), (7, .int (1 : Int32)), (5, .double (hD H3 (tg H3 a10) a10 (((30 : Int32) * x1) + x2).toNatClampNeg)), (4, .float (hF H3 (tg H3 a7) a7 (((30 : Int32) * x1) + x2).toNatClampNeg)), (0, rv (some a0)), (1, .int x1), (2, .int x2), (3, .int x3)]) dX12_cast_101 (by decide) rfl ?_
            refine wp_iload_n 7 dX12_cast_103 rfl ?_
            refine wp_if_ne (tgt := 113) dX12_cast_104 rfl (fun c => ?_) (fun c => ?_)
            · replace h := h.1 c
              refine wp_iload_n 7 dX12_cast_113 rfl ?_
              refine wp_iconst (v := (1 : Int32)) dX12_cast_114 (by decide) ?_
              refine wp_icmp_ne (tgt := 125) dX12_cast_115 rfl (fun c => ?_) (fun c => ?_)
              · replace h := h.1 c
                refine wp_iload 0 dX12_cast_125 rfl ?_
                refine wp_i2s dX12_cast_127 ?_
                refine wp_i2l dX12_cast_128 ?_
                exact wp_lreturn dX12_cast_129 rfl ⟨_, rfl, h⟩
              · replace h := h.2 c
                refine wp_iload 0 dX12_cast_118 rfl ?_
                refine wp_i2b dX12_cast_120 ?_
                refine wp_i2l dX12_cast_121 ?_
                refine wp_goto (tgt := 129) dX12_cast_122 rfl ?_
                exact wp_lreturn dX12_cast_129 rfl ⟨_, rfl, h⟩
            · replace h := h.2 c
              refine wp_iload 0 dX12_cast_107 rfl ?_
              refine wp_i2l dX12_cast_109 ?_
              refine wp_goto (tgt := 129) dX12_cast_110 rfl ?_
              exact wp_lreturn dX12_cast_129 rfl ⟨_, rfl, h⟩
          · replace h := h.2 c
            refine wp_fload 2 dX12_cast_92 rfl ?_
            refine wp_f2i dX12_cast_94 ?_
            refine wp_goto (tgt := 101) dX12_cast_95 rfl ?_
            refine wp_istore (ls' := [(8, .int (FP.f2i (hF H3 (tg H3 a7) a7 (((30 : Int32) * x1) + x2).toNatClampNeg))), (7, .int (1 : Int32)), (5, .double (hD H3 (tg H3 a10) a10 (((30 : Int32) * x1) + x2).toNatClampNeg)), (4, .float (hF H3 (tg H3 a7) a7 (((30 : Int32) * x1) + x2).toNatClampNeg)), (0, rv (some a0)), (1, .int x1), (2, .int x2), (3, .int x3)]) dX12_cast_101 (by decide) rfl ?_
            refine wp_iload_n 7 dX12_cast_103 rfl ?_
            refine wp_if_ne (tgt := 113) dX12_cast_104 rfl (fun c => ?_) (fun c => ?_)
            · replace h := h.1 c
              refine wp_iload_n 7 dX12_cast_113 rfl ?_
              refine wp_iconst (v := (1 : Int32)) dX12_cast_114 (by decide) ?_
              refine wp_icmp_ne (tgt := 125) dX12_cast_115 rfl (fun c => ?_) (fun c => ?_)
              · replace h := h.1 c
                refine wp_iload 0 dX12_cast_125 rfl ?_
                refine wp_i2s dX12_cast_127 ?_
                refine wp_i2l dX12_cast_128 ?_
                exact wp_lreturn dX12_cast_129 rfl ⟨_, rfl, h⟩
              · replace h := h.2 c
                refine wp_iload 0 dX12_cast_118 rfl ?_
                refine wp_i2b dX12_cast_120 ?_
                refine wp_i2l dX12_cast_121 ?_
                refine wp_goto (tgt := 129) dX12_cast_122 rfl ?_
                exact wp_lreturn dX12_cast_129 rfl ⟨_, rfl, h⟩
            · replace h := h.2 c
              refine wp_iload 0 dX12_cast_107 rfl ?_
              refine wp_i2l dX12_cast_109 ?_
              refine wp_goto (tgt := 129) dX12_cast_110 rfl ?_
              exact wp_lreturn dX12_cast_129 rfl ⟨_, rfl, h⟩
        · replace h := h.2 c
          refine wp_iload 0 dX12_cast_72 rfl ?_
          refine wp_if_eq (tgt := 83) dX12_cast_74 rfl (fun c => ?_) (fun c => ?_)
          · replace h := h.1 c
            refine wp_dload 1 dX12_cast_83 rfl ?_
            refine wp_d2l dX12_cast_85 ?_
            exact wp_lreturn dX12_cast_86 rfl ⟨_, rfl, h⟩
          · replace h := h.2 c
            refine wp_fload 2 dX12_cast_77 rfl ?_
            refine wp_f2l dX12_cast_79 ?_
            refine wp_goto (tgt := 86) dX12_cast_80 rfl ?_
            exact wp_lreturn dX12_cast_86 rfl ⟨_, rfl, h⟩
    · replace h := h.2 c
      refine wp_ldc2 dX12_cast_21 w_7_55 ?_
      exact wp_lreturn dX12_cast_24 rfl ⟨_, rfl, h⟩
theorem C_X12_cast {d : Nat} {q : HP → Int64 → Prop} {a0 : Nat} {x1 : Int32} {x2 : Int32} {x3 : Int32} {H : HP} (h : wb_X12_cast_0 d q a0 x1 x2 x3 H) : CJ (d + 1) 0 0 mX12_cast [rv (some a0), .int x1, .int x2, .int x3] H q := by
  refine call_of (by decide +kernel) (by simp [lg_sl, rv_cat, vc_int, vc_long, vc_float, vc_double]) ?_
  have e : lv_args 0 [rv (some a0), .int x1, .int x2, .int x3] = [(0, rv (some a0)), (1, .int x1), (2, .int x2), (3, .int x3)] := by simp [lv_args, rv_cat, vc_int, vc_long, vc_float, vc_double]
  rw [e]
  exact T_X12_cast_0 h
/-- UnitProverModel.change(III)I: the loop at 55 -/
def L_X12_change_55 (d : Nat) (q : HP → Int32 → Prop) (a0 : Nat) (x1 : Int32) (x2 : Int32) (x3 : Int32) (x4 : Int32) (H : HP) : Prop := WP (d + 1) mX12_change 0 0 55 [(0, rv (some a0)), (1, .int x1), (2, .int x2), (3, .int x3), (4, .int x4)] [] H (qI q)
def wb_X12_change_0 (d : Nat) (q : HP → Int32 → Prop) (a0 : Nat) (x1 : Int32) (x2 : Int32) (x3 : Int32) (H : HP) : Prop :=
  CZ d 0 0 mX12_isTrack [.int x1] H (fun H1 b2 => (b2 = false → q H1 (-1 : Int32)) ∧ (b2 = true → tg H1 a0 = 13 ∧ (CZ d 0 0 mX12_isUnit [rv (some a0), .int x2] H1 (fun H3 b5 => (b5 = false → q H3 (-1 : Int32)) ∧ (b5 = true → tg H3 a0 = 13 ∧ (CZ d 0 0 mX12_isUnit [rv (some a0), .int x3] H3 (fun H6 b8 => (b8 = true → tg H6 a0 = 13 ∧ (∃ a10, (hC H6 1357 a0) = some a10 ∧ (isA H6 a10 0 ∧ (vp_in x1 (ln H6 a10) ∧ ((0 ≤ (hI H6 (tg H6 a10) a10 x1.toNatClampNeg) → CZ d 0 0 mX12_areLike [rv (some a0), .int x2, .int x3] H6 (fun H13 b14 => (b14 = true → L_X12_change_55 d q a0 x1 x2 x3 ((30 : Int32) * x1) H13) ∧ (b14 = false → q H13 (-13 : Int32)))) ∧ (¬ (0 ≤ (hI H6 (tg H6 a10) a10 x1.toNatClampNeg)) → q H6 (-6 : Int32))))))) ∧ (b8 = false → q H6 (-1 : Int32)))))))))
set_option maxRecDepth 40000 in
set_option maxHeartbeats 4000000 in
theorem T_X12_change_0 {d : Nat} {q : HP → Int32 → Prop} {a0 : Nat} {x1 : Int32} {x2 : Int32} {x3 : Int32} {H : HP} (h : wb_X12_change_0 d q a0 x1 x2 x3 H) : WP (d + 1) mX12_change 0 0 0 [(0, rv (some a0)), (1, .int x1), (2, .int x2), (3, .int x3)] [] H (qI q) := by
  unfold wb_X12_change_0 at h
  refine wp_iload_n 1 dX12_change_0 rfl ?_
  refine wp_callS (As := [.int x1]) (rest := []) (mc := 0) (ms := 0) dX12_change_1 lk_X12_463 rfl rfl (by decide) rfl rfl rfl (Call.weaken h ?_)
  rintro H1 _ ⟨b2, rfl, h⟩
  change WP _ _ _ _ _ _ [.int (bI b2)] H1 _
  refine wp_if_eq (tgt := 23) dX12_change_4 rfl (fun c => ?_) (fun c => ?_)
  · replace h := h.1 (bI_0.mp c)
    refine wp_iconst (v := (-1 : Int32)) dX12_change_23 (by decide) ?_
    exact wp_ireturn (ty := .int) dX12_change_24 rfl rfl ⟨_, rfl, h⟩
  · replace h := h.2 (bI_1.mp c)
    refine wp_aload_n 0 dX12_change_7 rfl ?_
    refine wp_iload_n 2 dX12_change_8 rfl ?_
    obtain ⟨ht4, h⟩ := h
    refine wp_callV (ci := 12) (As := [.int x2]) (rest := []) (mc := 0) (ms := 0) dX12_change_9 lk_X12_283 rfl rfl (by decide) rfl rfl rfl ht4 rfl rfl rfl w_7_77 (Call.weaken h ?_)
    rintro H3 _ ⟨b5, rfl, h⟩
    change WP _ _ _ _ _ _ [.int (bI b5)] H3 _
    refine wp_if_eq (tgt := 23) dX12_change_12 rfl (fun c => ?_) (fun c => ?_)
    · replace h := h.1 (bI_0.mp c)
      refine wp_iconst (v := (-1 : Int32)) dX12_change_23 (by decide) ?_
      exact wp_ireturn (ty := .int) dX12_change_24 rfl rfl ⟨_, rfl, h⟩
    · replace h := h.2 (bI_1.mp c)
      refine wp_aload_n 0 dX12_change_15 rfl ?_
      refine wp_iload_n 3 dX12_change_16 rfl ?_
      obtain ⟨ht7, h⟩ := h
      refine wp_callV (ci := 12) (As := [.int x3]) (rest := []) (mc := 0) (ms := 0) dX12_change_17 lk_X12_283 rfl rfl (by decide) rfl rfl rfl ht7 rfl rfl rfl w_7_77 (Call.weaken h ?_)
      rintro H6 _ ⟨b8, rfl, h⟩
      change WP _ _ _ _ _ _ [.int (bI b8)] H6 _
      refine wp_if_ne (tgt := 25) dX12_change_20 rfl (fun c => ?_) (fun c => ?_)
      · replace h := h.1 (bI_1.mp c)
        refine wp_aload_n 0 dX12_change_25 rfl ?_
        obtain ⟨ht9, h⟩ := h
        refine wp_getC (ci := 12) (j := 57) dX12_change_26 fi_X12_107r rfl rfl ht9 ?_
        change WP _ _ _ _ _ _ (rv (hC H6 1357 a0) :: _) _ _
        refine wp_iload_n 1 dX12_change_29 rfl ?_
        obtain ⟨a10, ha10, h⟩ := h
        obtain ⟨hr11, h⟩ := h
        obtain ⟨hg12, h⟩ := h
        refine wp_iaload dX12_change_30 ha10 hr11 hg12 ?_
        refine wp_if_ge (tgt := 37) dX12_change_31 rfl (fun c => ?_) (fun c => ?_)
        · replace h := h.1 c
          refine wp_aload_n 0 dX12_change_37 rfl ?_
          refine wp_iload_n 2 dX12_change_38 rfl ?_
          refine wp_iload_n 3 dX12_change_39 rfl ?_
          refine wp_callV (ci := 12) (As := [.int x2, .int x3]) (rest := []) (mc := 0) (ms := 0) dX12_change_40 lk_X12_295 rfl rfl (by decide) rfl rfl rfl ht9 rfl rfl rfl w_7_100 (Call.weaken h ?_)
          rintro H13 _ ⟨b14, rfl, h⟩
          change WP _ _ _ _ _ _ [.int (bI b14)] H13 _
          refine wp_if_ne (tgt := 49) dX12_change_43 rfl (fun c => ?_) (fun c => ?_)
          · replace h := h.1 (bI_1.mp c)
            refine wp_bipush (v := (30 : Int32)) dX12_change_49 (by decide) ?_
            refine wp_iload_n 1 dX12_change_51 rfl ?_
            refine wp_imul dX12_change_52 ?_
            refine wp_istore (ls' := [(4, .int ((30 : Int32) * x1)), (0, rv (some a0)), (1, .int x1), (2, .int x2), (3, .int x3)]) dX12_change_53 (by decide) rfl ?_
            refine wp_sub (ls' := [(0, rv (some a0)), (1, .int x1), (2, .int x2), (3, .int x3), (4, .int ((30 : Int32) * x1))]) [1, 2, 3, 4, 0] rfl ?_
            exact h
          · replace h := h.2 (bI_0.mp c)
            refine wp_bipush (v := (-13 : Int32)) dX12_change_46 (by decide) ?_
            exact wp_ireturn (ty := .int) dX12_change_48 rfl rfl ⟨_, rfl, h⟩
        · replace h := h.2 c
          refine wp_bipush (v := (-6 : Int32)) dX12_change_34 (by decide) ?_
          exact wp_ireturn (ty := .int) dX12_change_36 rfl rfl ⟨_, rfl, h⟩
      · replace h := h.2 (bI_0.mp c)
        refine wp_iconst (v := (-1 : Int32)) dX12_change_23 (by decide) ?_
        exact wp_ireturn (ty := .int) dX12_change_24 rfl rfl ⟨_, rfl, h⟩
def wb_X12_change_55 (d : Nat) (q : HP → Int32 → Prop) (a0 : Nat) (x1 : Int32) (x2 : Int32) (x3 : Int32) (x4 : Int32) (H : HP) : Prop :=
  tg H a0 = 13 ∧ (∃ a2, (hC H 1358 a0) = some a2 ∧ (isA H a2 0 ∧ (vp_in x1 (ln H a2) ∧ (((((30 : Int32) * x1) + (hI H (tg H a2) a2 x1.toNatClampNeg)) ≤ x4 → vp_in x1 (ln H a2) ∧ (q H (hI H (tg H a2) a2 x1.toNatClampNeg))) ∧ (¬ ((((30 : Int32) * x1) + (hI H (tg H a2) a2 x1.toNatClampNeg)) ≤ x4) → ∃ a6, (hC H 1357 a0) = some a6 ∧ (isA H a6 0 ∧ (vp_in x1 (ln H a6) ∧ ((¬ (hI H (tg H a6) a6 x1.toNatClampNeg) = 0 → ∃ a9, (hC H 1360 a0) = some a9 ∧ (isA H a9 5 ∧ (vp_in x4 (ln H a9) ∧ (CD d 0 0 mX12_changedWide [rv (some a0), .double (hD H (tg H a9) a9 x4.toNatClampNeg), .int x2, .int x3] H (fun H12 r13 => isA H12 a9 5 ∧ (vp_in x4 (ln H12 a9) ∧ (L_X12_change_55 d q a0 x1 x2 x3 (x4 + 1) (sD H12 (tg H12 a9) a9 x4.toNatClampNeg r13)))))))) ∧ ((hI H (tg H a6) a6 x1.toNatClampNeg) = 0 → ∃ a16, (hC H 1359 a0) = some a16 ∧ (isA H a16 4 ∧ (vp_in x4 (ln H a16) ∧ (CF d 0 0 mX12_changed [rv (some a0), .float (hF H (tg H a16) a16 x4.toNatClampNeg), .int x2, .int x3] H (fun H19 r20 => isA H19 a16 4 ∧ (vp_in x4 (ln H19 a16) ∧ (L_X12_change_55 d q a0 x1 x2 x3 (x4 + 1) (sF H19 (tg H19 a16) a16 x4.toNatClampNeg r20))))))))))))))))
set_option maxRecDepth 40000 in
set_option maxHeartbeats 4000000 in
theorem T_X12_change_55 {d : Nat} {q : HP → Int32 → Prop} {a0 : Nat} {x1 : Int32} {x2 : Int32} {x3 : Int32} {x4 : Int32} {H : HP} (h : wb_X12_change_55 d q a0 x1 x2 x3 x4 H) : L_X12_change_55 d q a0 x1 x2 x3 x4 H := by
  unfold wb_X12_change_55 at h
  unfold L_X12_change_55
  refine wp_iload 4 dX12_change_55 rfl ?_
  refine wp_bipush (v := (30 : Int32)) dX12_change_57 (by decide) ?_
  refine wp_iload_n 1 dX12_change_59 rfl ?_
  refine wp_imul dX12_change_60 ?_
  refine wp_aload_n 0 dX12_change_61 rfl ?_
  obtain ⟨ht1, h⟩ := h
  refine wp_getC (ci := 12) (j := 58) dX12_change_62 fi_X12_110r rfl rfl ht1 ?_
  change WP _ _ _ _ _ _ (rv (hC H 1358 a0) :: _) _ _
  refine wp_iload_n 1 dX12_change_65 rfl ?_
  obtain ⟨a2, ha2, h⟩ := h
  obtain ⟨hr3, h⟩ := h
  obtain ⟨hg4, h⟩ := h
  refine wp_iaload dX12_change_66 ha2 hr3 hg4 ?_
  refine wp_iadd dX12_change_67 ?_
  refine wp_icmp_ge (tgt := 129) dX12_change_68 rfl (fun c => ?_) (fun c => ?_)
  · replace h := h.1 c
    refine wp_aload_n 0 dX12_change_129 rfl ?_
    refine wp_getC (ci := 12) (j := 58) dX12_change_130 fi_X12_110r rfl rfl ht1 ?_
    change WP _ _ _ _ _ _ (rv (hC H 1358 a0) :: _) _ _
    refine wp_iload_n 1 dX12_change_133 rfl ?_
    obtain ⟨hg5, h⟩ := h
    refine wp_iaload dX12_change_134 ha2 hr3 hg5 ?_
    exact wp_ireturn (ty := .int) dX12_change_135 rfl rfl ⟨_, rfl, h⟩
  · replace h := h.2 c
    refine wp_aload_n 0 dX12_change_71 rfl ?_
    refine wp_getC (ci := 12) (j := 57) dX12_change_72 fi_X12_107r rfl rfl ht1 ?_
    change WP _ _ _ _ _ _ (rv (hC H 1357 a0) :: _) _ _
    refine wp_iload_n 1 dX12_change_75 rfl ?_
    obtain ⟨a6, ha6, h⟩ := h
    obtain ⟨hr7, h⟩ := h
    obtain ⟨hg8, h⟩ := h
    refine wp_iaload dX12_change_76 ha6 hr7 hg8 ?_
    refine wp_if_ne (tgt := 103) dX12_change_77 rfl (fun c => ?_) (fun c => ?_)
    · replace h := h.1 c
      refine wp_aload_n 0 dX12_change_103 rfl ?_
      refine wp_getC (ci := 12) (j := 60) dX12_change_104 fi_X12_117r rfl rfl ht1 ?_
      change WP _ _ _ _ _ _ (rv (hC H 1360 a0) :: _) _ _
      refine wp_iload 4 dX12_change_107 rfl ?_
      refine wp_aload_n 0 dX12_change_109 rfl ?_
      refine wp_aload_n 0 dX12_change_110 rfl ?_
      refine wp_getC (ci := 12) (j := 60) dX12_change_111 fi_X12_117r rfl rfl ht1 ?_
      change WP _ _ _ _ _ _ (rv (hC H 1360 a0) :: _) _ _
      refine wp_iload 4 dX12_change_114 rfl ?_
      obtain ⟨a9, ha9, h⟩ := h
      obtain ⟨hr10, h⟩ := h
      obtain ⟨hg11, h⟩ := h
      refine wp_daload dX12_change_116 ha9 hr10 hg11 ?_
      refine wp_iload_n 2 dX12_change_117 rfl ?_
      refine wp_iload_n 3 dX12_change_118 rfl ?_
      refine wp_callV (ci := 12) (As := [.double (hD H (tg H a9) a9 x4.toNatClampNeg), .int x2, .int x3]) (rest := [.int x4, rv (hC H 1360 a0)]) (mc := 0) (ms := 0) dX12_change_119 lk_X12_486 rfl rfl (by simp [rv_cat, vc_int, vc_long, vc_float, vc_double]) rfl rfl rfl ht1 rfl rfl rfl w_8_120 (Call.weaken h ?_)
      rintro H12 _ ⟨r13, rfl, h⟩
      change WP _ _ _ _ _ _ [.double r13, .int x4, rv (hC H 1360 a0)] H12 _
      obtain ⟨hr14, h⟩ := h
      obtain ⟨hg15, h⟩ := h
      refine wp_dastore dX12_change_122 ha9 hr14 hg15 ?_
      change WP _ _ _ _ _ _ _ (sD H12 (tg H12 a9) a9 x4.toNatClampNeg r13) _
      refine wp_iinc (v := (x4 + 1)) (ls' := [(4, .int (x4 + 1)), (0, rv (some a0)), (1, .int x1), (2, .int x2), (3, .int x3)]) 4 dX12_change_123 rfl rfl (by decide) rfl ?_
      refine wp_goto (tgt := 55) dX12_change_126 rfl ?_
      refine wp_sub (ls' := [(0, rv (some a0)), (1, .int x1), (2, .int x2), (3, .int x3), (4, .int (x4 + 1))]) [1, 2, 3, 4, 0] rfl ?_
      exact h
    · replace h := h.2 c
      refine wp_aload_n 0 dX12_change_80 rfl ?_
      refine wp_getC (ci := 12) (j := 59) dX12_change_81 fi_X12_113r rfl rfl ht1 ?_
      change WP _ _ _ _ _ _ (rv (hC H 1359 a0) :: _) _ _
      refine wp_iload 4 dX12_change_84 rfl ?_
      refine wp_aload_n 0 dX12_change_86 rfl ?_
      refine wp_aload_n 0 dX12_change_87 rfl ?_
      refine wp_getC (ci := 12) (j := 59) dX12_change_88 fi_X12_113r rfl rfl ht1 ?_
      change WP _ _ _ _ _ _ (rv (hC H 1359 a0) :: _) _ _
      refine wp_iload 4 dX12_change_91 rfl ?_
      obtain ⟨a16, ha16, h⟩ := h
      obtain ⟨hr17, h⟩ := h
      obtain ⟨hg18, h⟩ := h
      refine wp_faload dX12_change_93 ha16 hr17 hg18 ?_
      refine wp_iload_n 2 dX12_change_94 rfl ?_
      refine wp_iload_n 3 dX12_change_95 rfl ?_
      refine wp_callV (ci := 12) (As := [.float (hF H (tg H a16) a16 x4.toNatClampNeg), .int x2, .int x3]) (rest := [.int x4, rv (hC H 1359 a0)]) (mc := 0) (ms := 0) dX12_change_96 lk_X12_482 rfl rfl (by simp [rv_cat, vc_int, vc_long, vc_float, vc_double]) rfl rfl rfl ht1 rfl rfl rfl w_8_116 (Call.weaken h ?_)
      rintro H19 _ ⟨r20, rfl, h⟩
      change WP _ _ _ _ _ _ [.float r20, .int x4, rv (hC H 1359 a0)] H19 _
      obtain ⟨hr21, h⟩ := h
      obtain ⟨hg22, h⟩ := h
      refine wp_fastore dX12_change_99 ha16 hr21 hg22 ?_
      change WP _ _ _ _ _ _ _ (sF H19 (tg H19 a16) a16 x4.toNatClampNeg r20) _
      refine wp_goto (tgt := 123) dX12_change_100 rfl ?_
      refine wp_iinc (v := (x4 + 1)) (ls' := [(4, .int (x4 + 1)), (0, rv (some a0)), (1, .int x1), (2, .int x2), (3, .int x3)]) 4 dX12_change_123 rfl rfl (by decide) rfl ?_
      refine wp_goto (tgt := 55) dX12_change_126 rfl ?_
      refine wp_sub (ls' := [(0, rv (some a0)), (1, .int x1), (2, .int x2), (3, .int x3), (4, .int (x4 + 1))]) [1, 2, 3, 4, 0] rfl ?_
      exact h
theorem C_X12_change {d : Nat} {q : HP → Int32 → Prop} {a0 : Nat} {x1 : Int32} {x2 : Int32} {x3 : Int32} {H : HP} (h : wb_X12_change_0 d q a0 x1 x2 x3 H) : CI (d + 1) 0 0 mX12_change [rv (some a0), .int x1, .int x2, .int x3] H q := by
  refine call_of (by decide +kernel) (by simp [lg_sl, rv_cat, vc_int, vc_long, vc_float, vc_double]) ?_
  have e : lv_args 0 [rv (some a0), .int x1, .int x2, .int x3] = [(0, rv (some a0)), (1, .int x1), (2, .int x2), (3, .int x3)] := by simp [lv_args, rv_cat, vc_int, vc_long, vc_float, vc_double]
  rw [e]
  exact T_X12_change_0 h
def wb_X12_changed_0 (d : Nat) (q : HP → UInt32 → Prop) (a0 : Nat) (x1 : UInt32) (x2 : Int32) (x3 : Int32) (H : HP) : Prop :=
  tg H a0 = 13 ∧ (∃ a2, (hC H 1303 a0) = some a2 ∧ (isA H a2 3 ∧ (vp_in x2 (ln H a2) ∧ (∀ r5, alike32 r5 (FP.fmul x1 (FP.l2f (hL H (tg H a2) a2 x2.toNatClampNeg))) = true → (∃ a6, (hC H 1304 a0) = some a6 ∧ (isA H a6 3 ∧ (vp_in x2 (ln H a6) ∧ (∀ r9, alike32 r9 (FP.fdiv r5 (FP.l2f (hL H (tg H a6) a6 x2.toNatClampNeg))) = true → (∃ a10, (hC H 1305 a0) = some a10 ∧ (isA H a10 3 ∧ (vp_in x2 (ln H a10) ∧ (∃ a13, (hC H 1306 a0) = some a13 ∧ (isA H a13 3 ∧ (vp_in x2 (ln H a13) ∧ (∀ r16, alike32 r16 (FP.fdiv (FP.l2f (hL H (tg H a10) a10 x2.toNatClampNeg)) (FP.l2f (hL H (tg H a13) a13 x2.toNatClampNeg))) = true → (∀ r17, alike32 r17 (FP.fadd r9 r16) = true → (vp_in x3 (ln H a10) ∧ (vp_in x3 (ln H a13) ∧ (∀ r20, alike32 r20 (FP.fdiv (FP.l2f (hL H (tg H a10) a10 x3.toNatClampNeg)) (FP.l2f (hL H (tg H a13) a13 x3.toNatClampNeg))) = true → (∀ r21, alike32 r21 (FP.fsub r17 r20) = true → (vp_in x3 (ln H a6) ∧ (∀ r23, alike32 r23 (FP.fmul r21 (FP.l2f (hL H (tg H a6) a6 x3.toNatClampNeg))) = true → (vp_in x3 (ln H a2) ∧ (∀ r25, alike32 r25 (FP.fdiv r23 (FP.l2f (hL H (tg H a2) a2 x3.toNatClampNeg))) = true → (q H r25)))))))))))))))))))))))))
set_option maxRecDepth 40000 in
set_option maxHeartbeats 4000000 in
theorem T_X12_changed_0 {d : Nat} {q : HP → UInt32 → Prop} {a0 : Nat} {x1 : UInt32} {x2 : Int32} {x3 : Int32} {H : HP} (h : wb_X12_changed_0 d q a0 x1 x2 x3 H) : WP (d + 1) mX12_changed 0 0 0 [(0, rv (some a0)), (1, .float x1), (2, .int x2), (3, .int x3)] [] H (qF q) := by
  unfold wb_X12_changed_0 at h
  refine wp_fload_n 1 dX12_changed_0 rfl ?_
  refine wp_aload_n 0 dX12_changed_1 rfl ?_
  obtain ⟨ht1, h⟩ := h
  refine wp_getC (ci := 12) (j := 3) dX12_changed_2 fi_X12_22r rfl rfl ht1 ?_
  change WP _ _ _ _ _ _ (rv (hC H 1303 a0) :: _) _ _
  refine wp_iload_n 2 dX12_changed_5 rfl ?_
  obtain ⟨a2, ha2, h⟩ := h
  obtain ⟨hr3, h⟩ := h
  obtain ⟨hg4, h⟩ := h
  refine wp_laload dX12_changed_6 ha2 hr3 hg4 ?_
  refine wp_l2f dX12_changed_7 ?_
  refine wp_fmul dX12_changed_8 (fun r5 hr5 => ?_)
  replace h := h r5 hr5
  refine wp_fstore (ls' := [(4, .float r5), (0, rv (some a0)), (1, .float x1), (2, .int x2), (3, .int x3)]) dX12_changed_9 (by decide) rfl ?_
  refine wp_fload 0 dX12_changed_11 rfl ?_
  refine wp_aload_n 1 dX12_changed_13 rfl ?_
  refine wp_getC (ci := 12) (j := 4) dX12_changed_14 fi_X12_26r rfl rfl ht1 ?_
  change WP _ _ _ _ _ _ (rv (hC H 1304 a0) :: _) _ _
  refine wp_iload_n 3 dX12_changed_17 rfl ?_
  obtain ⟨a6, ha6, h⟩ := h
  obtain ⟨hr7, h⟩ := h
  obtain ⟨hg8, h⟩ := h
  refine wp_laload dX12_changed_18 ha6 hr7 hg8 ?_
  refine wp_l2f dX12_changed_19 ?_
  refine wp_fdiv dX12_changed_20 (fun r9 hr9 => ?_)
  replace h := h r9 hr9
  refine wp_fstore (ls' := [(4, .float r9), (0, rv (some a0)), (1, .float x1), (2, .int x2), (3, .int x3)]) dX12_changed_21 (by decide) rfl ?_
  refine wp_fload 0 dX12_changed_23 rfl ?_
  refine wp_aload_n 1 dX12_changed_25 rfl ?_
  refine wp_getC (ci := 12) (j := 5) dX12_changed_26 fi_X12_29r rfl rfl ht1 ?_
  change WP _ _ _ _ _ _ (rv (hC H 1305 a0) :: _) _ _
  refine wp_iload_n 3 dX12_changed_29 rfl ?_
  obtain ⟨a10, ha10, h⟩ := h
  obtain ⟨hr11, h⟩ := h
  obtain ⟨hg12, h⟩ := h
  refine wp_laload dX12_changed_30 ha10 hr11 hg12 ?_
  refine wp_l2f dX12_changed_31 ?_
  refine wp_aload_n 1 dX12_changed_32 rfl ?_
  refine wp_getC (ci := 12) (j := 6) dX12_changed_33 fi_X12_32r rfl rfl ht1 ?_
  change WP _ _ _ _ _ _ (rv (hC H 1306 a0) :: _) _ _
  refine wp_iload_n 3 dX12_changed_36 rfl ?_
  obtain ⟨a13, ha13, h⟩ := h
  obtain ⟨hr14, h⟩ := h
  obtain ⟨hg15, h⟩ := h
  refine wp_laload dX12_changed_37 ha13 hr14 hg15 ?_
  refine wp_l2f dX12_changed_38 ?_
  refine wp_fdiv dX12_changed_39 (fun r16 hr16 => ?_)
  replace h := h r16 hr16
  refine wp_fadd dX12_changed_40 (fun r17 hr17 => ?_)
  replace h := h r17 hr17
  refine wp_fstore (ls' := [(4, .float r17), (0, rv (some a0)), (1, .float x1), (2, .int x2), (3, .int x3)]) dX12_changed_41 (by decide) rfl ?_
  refine wp_fload 0 dX12_changed_43 rfl ?_
  refine wp_aload_n 1 dX12_changed_45 rfl ?_
  refine wp_getC (ci := 12) (j := 5) dX12_changed_46 fi_X12_29r rfl rfl ht1 ?_
  change WP _ _ _ _ _ _ (rv (hC H 1305 a0) :: _) _ _
  refine wp_iload_n 4 dX12_changed_49 rfl ?_
  obtain ⟨hg18, h⟩ := h
  refine wp_laload dX12_changed_50 ha10 hr11 hg18 ?_
  refine wp_l2f dX12_changed_51 ?_
  refine wp_aload_n 1 dX12_changed_52 rfl ?_
  refine wp_getC (ci := 12) (j := 6) dX12_changed_53 fi_X12_32r rfl rfl ht1 ?_
  change WP _ _ _ _ _ _ (rv (hC H 1306 a0) :: _) _ _
  refine wp_iload_n 4 dX12_changed_56 rfl ?_
  obtain ⟨hg19, h⟩ := h
  refine wp_laload dX12_changed_57 ha13 hr14 hg19 ?_
  refine wp_l2f dX12_changed_58 ?_
  refine wp_fdiv dX12_changed_59 (fun r20 hr20 => ?_)
  replace h := h r20 hr20
  refine wp_fsub dX12_changed_60 (fun r21 hr21 => ?_)
  replace h := h r21 hr21
  refine wp_fstore (ls' := [(4, .float r21), (0, rv (some a0)), (1, .float x1), (2, .int x2), (3, .int x3)]) dX12_changed_61 (by decide) rfl ?_
  refine wp_fload 0 dX12_changed_63 rfl ?_
  refine wp_aload_n 1 dX12_changed_65 rfl ?_
  refine wp_getC (ci := 12) (j := 4) dX12_changed_66 fi_X12_26r rfl rfl ht1 ?_
  change WP _ _ _ _ _ _ (rv (hC H 1304 a0) :: _) _ _
  refine wp_iload_n 4 dX12_changed_69 rfl ?_
  obtain ⟨hg22, h⟩ := h
  refine wp_laload dX12_changed_70 ha6 hr7 hg22 ?_
  refine wp_l2f dX12_changed_71 ?_
  refine wp_fmul dX12_changed_72 (fun r23 hr23 => ?_)
  replace h := h r23 hr23
  refine wp_fstore (ls' := [(4, .float r23), (0, rv (some a0)), (1, .float x1), (2, .int x2), (3, .int x3)]) dX12_changed_73 (by decide) rfl ?_
  refine wp_fload 0 dX12_changed_75 rfl ?_
  refine wp_aload_n 1 dX12_changed_77 rfl ?_
  refine wp_getC (ci := 12) (j := 3) dX12_changed_78 fi_X12_22r rfl rfl ht1 ?_
  change WP _ _ _ _ _ _ (rv (hC H 1303 a0) :: _) _ _
  refine wp_iload_n 4 dX12_changed_81 rfl ?_
  obtain ⟨hg24, h⟩ := h
  refine wp_laload dX12_changed_82 ha2 hr3 hg24 ?_
  refine wp_l2f dX12_changed_83 ?_
  refine wp_fdiv dX12_changed_84 (fun r25 hr25 => ?_)
  replace h := h r25 hr25
  exact wp_freturn dX12_changed_85 rfl ⟨_, rfl, h⟩
theorem C_X12_changed {d : Nat} {q : HP → UInt32 → Prop} {a0 : Nat} {x1 : UInt32} {x2 : Int32} {x3 : Int32} {H : HP} (h : wb_X12_changed_0 d q a0 x1 x2 x3 H) : CF (d + 1) 0 0 mX12_changed [rv (some a0), .float x1, .int x2, .int x3] H q := by
  refine call_of (by decide +kernel) (by simp [lg_sl, rv_cat, vc_int, vc_long, vc_float, vc_double]) ?_
  have e : lv_args 0 [rv (some a0), .float x1, .int x2, .int x3] = [(0, rv (some a0)), (1, .float x1), (2, .int x2), (3, .int x3)] := by simp [lv_args, rv_cat, vc_int, vc_long, vc_float, vc_double]
  rw [e]
  exact T_X12_changed_0 h
def wb_X12_changedWide_0 (d : Nat) (q : HP → UInt64 → Prop) (a0 : Nat) (x1 : UInt64) (x3 : Int32) (x4 : Int32) (H : HP) : Prop :=
  tg H a0 = 13 ∧ (∃ a2, (hC H 1303 a0) = some a2 ∧ (isA H a2 3 ∧ (vp_in x3 (ln H a2) ∧ (∀ r5, alike64 r5 (FP.dmul x1 (FP.l2d (hL H (tg H a2) a2 x3.toNatClampNeg))) = true → (∃ a6, (hC H 1304 a0) = some a6 ∧ (isA H a6 3 ∧ (vp_in x3 (ln H a6) ∧ (∀ r9, alike64 r9 (FP.ddiv r5 (FP.l2d (hL H (tg H a6) a6 x3.toNatClampNeg))) = true → (∃ a10, (hC H 1305 a0) = some a10 ∧ (isA H a10 3 ∧ (vp_in x3 (ln H a10) ∧ (∃ a13, (hC H 1306 a0) = some a13 ∧ (isA H a13 3 ∧ (vp_in x3 (ln H a13) ∧ (∀ r16, alike64 r16 (FP.ddiv (FP.l2d (hL H (tg H a10) a10 x3.toNatClampNeg)) (FP.l2d (hL H (tg H a13) a13 x3.toNatClampNeg))) = true → (∀ r17, alike64 r17 (FP.dadd r9 r16) = true → (vp_in x4 (ln H a10) ∧ (vp_in x4 (ln H a13) ∧ (∀ r20, alike64 r20 (FP.ddiv (FP.l2d (hL H (tg H a10) a10 x4.toNatClampNeg)) (FP.l2d (hL H (tg H a13) a13 x4.toNatClampNeg))) = true → (∀ r21, alike64 r21 (FP.dsub r17 r20) = true → (vp_in x4 (ln H a6) ∧ (∀ r23, alike64 r23 (FP.dmul r21 (FP.l2d (hL H (tg H a6) a6 x4.toNatClampNeg))) = true → (vp_in x4 (ln H a2) ∧ (∀ r25, alike64 r25 (FP.ddiv r23 (FP.l2d (hL H (tg H a2) a2 x4.toNatClampNeg))) = true → (q H r25)))))))))))))))))))))))))
set_option maxRecDepth 40000 in
set_option maxHeartbeats 4000000 in
theorem T_X12_changedWide_0 {d : Nat} {q : HP → UInt64 → Prop} {a0 : Nat} {x1 : UInt64} {x3 : Int32} {x4 : Int32} {H : HP} (h : wb_X12_changedWide_0 d q a0 x1 x3 x4 H) : WP (d + 1) mX12_changedWide 0 0 0 [(0, rv (some a0)), (1, .double x1), (3, .int x3), (4, .int x4)] [] H (qD q) := by
  unfold wb_X12_changedWide_0 at h
  refine wp_dload_n 1 dX12_changedWide_0 rfl ?_
  refine wp_aload_n 0 dX12_changedWide_1 rfl ?_
  obtain ⟨ht1, h⟩ := h
  refine wp_getC (ci := 12) (j := 3) dX12_changedWide_2 fi_X12_22r rfl rfl ht1 ?_
  change WP _ _ _ _ _ _ (rv (hC H 1303 a0) :: _) _ _
  refine wp_iload_n 2 dX12_changedWide_5 rfl ?_
  obtain ⟨a2, ha2, h⟩ := h
  obtain ⟨hr3, h⟩ := h
  obtain ⟨hg4, h⟩ := h
  refine wp_laload dX12_changedWide_6 ha2 hr3 hg4 ?_
  refine wp_l2d dX12_changedWide_7 ?_
  refine wp_dmul dX12_changedWide_8 (fun r5 hr5 => ?_)
  replace h := h r5 hr5
  refine wp_dstore (ls' := [(5, .double r5), (0, rv (some a0)), (1, .double x1), (3, .int x3), (4, .int x4)]) dX12_changedWide_9 (by decide) rfl ?_
  refine wp_dload 0 dX12_changedWide_11 rfl ?_
  refine wp_aload_n 1 dX12_changedWide_13 rfl ?_
  refine wp_getC (ci := 12) (j := 4) dX12_changedWide_14 fi_X12_26r rfl rfl ht1 ?_
  change WP _ _ _ _ _ _ (rv (hC H 1304 a0) :: _) _ _
  refine wp_iload_n 3 dX12_changedWide_17 rfl ?_
  obtain ⟨a6, ha6, h⟩ := h
  obtain ⟨hr7, h⟩ := h
  obtain ⟨hg8, h⟩ := h
  refine wp_laload dX12_changedWide_18 ha6 hr7 hg8 ?_
  refine wp_l2d dX12_changedWide_19 ?_
  refine wp_ddiv dX12_changedWide_20 (fun r9 hr9 => ?_)
  replace h := h r9 hr9
  refine wp_dstore (ls' := [(5, .double r9), (0, rv (some a0)), (1, .double x1), (3, .int x3), (4, .int x4)]) dX12_changedWide_21 (by decide) rfl ?_
  refine wp_dload 0 dX12_changedWide_23 rfl ?_
  refine wp_aload_n 1 dX12_changedWide_25 rfl ?_
  refine wp_getC (ci := 12) (j := 5) dX12_changedWide_26 fi_X12_29r rfl rfl ht1 ?_
  change WP _ _ _ _ _ _ (rv (hC H 1305 a0) :: _) _ _
  refine wp_iload_n 3 dX12_changedWide_29 rfl ?_
  obtain ⟨a10, ha10, h⟩ := h
  obtain ⟨hr11, h⟩ := h
  obtain ⟨hg12, h⟩ := h
  refine wp_laload dX12_changedWide_30 ha10 hr11 hg12 ?_
  refine wp_l2d dX12_changedWide_31 ?_
  refine wp_aload_n 1 dX12_changedWide_32 rfl ?_
  refine wp_getC (ci := 12) (j := 6) dX12_changedWide_33 fi_X12_32r rfl rfl ht1 ?_
  change WP _ _ _ _ _ _ (rv (hC H 1306 a0) :: _) _ _
  refine wp_iload_n 3 dX12_changedWide_36 rfl ?_
  obtain ⟨a13, ha13, h⟩ := h
  obtain ⟨hr14, h⟩ := h
  obtain ⟨hg15, h⟩ := h
  refine wp_laload dX12_changedWide_37 ha13 hr14 hg15 ?_
  refine wp_l2d dX12_changedWide_38 ?_
  refine wp_ddiv dX12_changedWide_39 (fun r16 hr16 => ?_)
  replace h := h r16 hr16
  refine wp_dadd dX12_changedWide_40 (fun r17 hr17 => ?_)
  replace h := h r17 hr17
  refine wp_dstore (ls' := [(5, .double r17), (0, rv (some a0)), (1, .double x1), (3, .int x3), (4, .int x4)]) dX12_changedWide_41 (by decide) rfl ?_
  refine wp_dload 0 dX12_changedWide_43 rfl ?_
  refine wp_aload_n 1 dX12_changedWide_45 rfl ?_
  refine wp_getC (ci := 12) (j := 5) dX12_changedWide_46 fi_X12_29r rfl rfl ht1 ?_
  change WP _ _ _ _ _ _ (rv (hC H 1305 a0) :: _) _ _
  refine wp_iload 4 dX12_changedWide_49 rfl ?_
  obtain ⟨hg18, h⟩ := h
  refine wp_laload dX12_changedWide_51 ha10 hr11 hg18 ?_
  refine wp_l2d dX12_changedWide_52 ?_
  refine wp_aload_n 1 dX12_changedWide_53 rfl ?_
  refine wp_getC (ci := 12) (j := 6) dX12_changedWide_54 fi_X12_32r rfl rfl ht1 ?_
  change WP _ _ _ _ _ _ (rv (hC H 1306 a0) :: _) _ _
  refine wp_iload 4 dX12_changedWide_57 rfl ?_
  obtain ⟨hg19, h⟩ := h
  refine wp_laload dX12_changedWide_59 ha13 hr14 hg19 ?_
  refine wp_l2d dX12_changedWide_60 ?_
  refine wp_ddiv dX12_changedWide_61 (fun r20 hr20 => ?_)
  replace h := h r20 hr20
  refine wp_dsub dX12_changedWide_62 (fun r21 hr21 => ?_)
  replace h := h r21 hr21
  refine wp_dstore (ls' := [(5, .double r21), (0, rv (some a0)), (1, .double x1), (3, .int x3), (4, .int x4)]) dX12_changedWide_63 (by decide) rfl ?_
  refine wp_dload 0 dX12_changedWide_65 rfl ?_
  refine wp_aload_n 1 dX12_changedWide_67 rfl ?_
  refine wp_getC (ci := 12) (j := 4) dX12_changedWide_68 fi_X12_26r rfl rfl ht1 ?_
  change WP _ _ _ _ _ _ (rv (hC H 1304 a0) :: _) _ _
  refine wp_iload 4 dX12_changedWide_71 rfl ?_
  obtain ⟨hg22, h⟩ := h
  refine wp_laload dX12_changedWide_73 ha6 hr7 hg22 ?_
  refine wp_l2d dX12_changedWide_74 ?_
  refine wp_dmul dX12_changedWide_75 (fun r23 hr23 => ?_)
  replace h := h r23 hr23
  refine wp_dstore (ls' := [(5, .double r23), (0, rv (some a0)), (1, .double x1), (3, .int x3), (4, .int x4)]) dX12_changedWide_76 (by decide) rfl ?_
  refine wp_dload 0 dX12_changedWide_78 rfl ?_
  refine wp_aload_n 1 dX12_changedWide_80 rfl ?_
  refine wp_getC (ci := 12) (j := 3) dX12_changedWide_81 fi_X12_22r rfl rfl ht1 ?_
  change WP _ _ _ _ _ _ (rv (hC H 1303 a0) :: _) _ _
  refine wp_iload 4 dX12_changedWide_84 rfl ?_
  obtain ⟨hg24, h⟩ := h
  refine wp_laload dX12_changedWide_86 ha2 hr3 hg24 ?_
  refine wp_l2d dX12_changedWide_87 ?_
  refine wp_ddiv dX12_changedWide_88 (fun r25 hr25 => ?_)
  replace h := h r25 hr25
  exact wp_dreturn dX12_changedWide_89 rfl ⟨_, rfl, h⟩
theorem C_X12_changedWide {d : Nat} {q : HP → UInt64 → Prop} {a0 : Nat} {x1 : UInt64} {x3 : Int32} {x4 : Int32} {H : HP} (h : wb_X12_changedWide_0 d q a0 x1 x3 x4 H) : CD (d + 1) 0 0 mX12_changedWide [rv (some a0), .double x1, .int x3, .int x4] H q := by
  refine call_of (by decide +kernel) (by simp [lg_sl, rv_cat, vc_int, vc_long, vc_float, vc_double]) ?_
  have e : lv_args 0 [rv (some a0), .double x1, .int x3, .int x4] = [(0, rv (some a0)), (1, .double x1), (3, .int x3), (4, .int x4)] := by simp [lv_args, rv_cat, vc_int, vc_long, vc_float, vc_double]
  rw [e]
  exact T_X12_changedWide_0 h
def wb_X12_claim_0 (d : Nat) (q : HP → Int32 → Prop) (a0 : Nat) (x1 : Int32) (x2 : Int32) (x3 : Int32) (x4 : Int32) (H : HP) : Prop :=
  tg H a0 = 13 ∧ (CZ d 0 0 mX12_isUnit [rv (some a0), .int x1] H (fun H1 b3 => (b3 = false → q H1 (-1 : Int32)) ∧ (b3 = true → tg H1 a0 = 13 ∧ (CZ d 0 0 mX12_isUnit [rv (some a0), .int x2] H1 (fun H4 b6 => (b6 = false → q H4 (-1 : Int32)) ∧ (b6 = true → (¬ x1 = x2 → CZ d 0 0 mX12_isIn [.long (x3.toInt64), .long (1 : Int64), .long (999999 : Int64)] H4 (fun H7 b8 => (b8 = false → q H7 (-2 : Int32)) ∧ (b8 = true → CZ d 0 0 mX12_isIn [.long (x4.toInt64), .long (1 : Int64), .long (999999 : Int64)] H7 (fun H9 b10 => (b10 = true → tg H9 a0 = 13 ∧ ((¬ (hI H9 1307 a0 0) = (16 : Int32) → ∃ a12, (hC H9 1308 a0) = some a12 ∧ (isA H9 a12 0 ∧ (vp_in ((4 : Int32) * (hI H9 1307 a0 0)) (ln H9 a12) ∧ (∃ a15, (hC (sI H9 (tg H9 a12) a12 ((4 : Int32) * (hI H9 1307 a0 0)).toNatClampNeg x1) 1308 a0) = some a15 ∧ (isA (sI H9 (tg H9 a12) a12 ((4 : Int32) * (hI H9 1307 a0 0)).toNatClampNeg x1) a15 0 ∧ (vp_in (((4 : Int32) * (hI (sI H9 (tg H9 a12) a12 ((4 : Int32) * (hI H9 1307 a0 0)).toNatClampNeg x1) 1307 a0 0)) + (1 : Int32)) (ln (sI H9 (tg H9 a12) a12 ((4 : Int32) * (hI H9 1307 a0 0)).toNatClampNeg x1) a15) ∧ (∀ H18, (sI (sI H9 (tg H9 a12) a12 ((4 : Int32) * (hI H9 1307 a0 0)).toNatClampNeg x1) (tg (sI H9 (tg H9 a12) a12 ((4 : Int32) * (hI H9 1307 a0 0)).toNatClampNeg x1) a15) a15 (((4 : Int32) * (hI (sI H9 (tg H9 a12) a12 ((4 : Int32) * (hI H9 1307 a0 0)).toNatClampNeg x1) 1307 a0 0)) + (1 : Int32)).toNatClampNeg x2) = H18 → (∃ a23, (hC H18 1308 a0) = some a23 ∧ (isA H18 a23 0 ∧ (vp_in (((4 : Int32) * (hI H18 1307 a0 0)) + (2 : Int32)) (ln H18 a23) ∧ (∃ a26, (hC (sI H18 (tg H18 a23) a23 (((4 : Int32) * (hI H18 1307 a0 0)) + (2 : Int32)).toNatClampNeg x3) 1308 a0) = some a26 ∧ (isA (sI H18 (tg H18 a23) a23 (((4 : Int32) * (hI H18 1307 a0 0)) + (2 : Int32)).toNatClampNeg x3) a26 0 ∧ (vp_in (((4 : Int32) * (hI (sI H18 (tg H18 a23) a23 (((4 : Int32) * (hI H18 1307 a0 0)) + (2 : Int32)).toNatClampNeg x3) 1307 a0 0)) + (3 : Int32)) (ln (sI H18 (tg H18 a23) a23 (((4 : Int32) * (hI H18 1307 a0 0)) + (2 : Int32)).toNatClampNeg x3) a26) ∧ (∀ H29, (sI (sI H18 (tg H18 a23) a23 (((4 : Int32) * (hI H18 1307 a0 0)) + (2 : Int32)).toNatClampNeg x3) (tg (sI H18 (tg H18 a23) a23 (((4 : Int32) * (hI H18 1307 a0 0)) + (2 : Int32)).toNatClampNeg x3) a26) a26 (((4 : Int32) * (hI (sI H18 (tg H18 a23) a23 (((4 : Int32) * (hI H18 1307 a0 0)) + (2 : Int32)).toNatClampNeg x3) 1307 a0 0)) + (3 : Int32)).toNatClampNeg x4) = H29 → (q (sI H29 1307 a0 0 ((hI H29 1307 a0 0) + (1 : Int32))) (hI (sI H29 1307 a0 0 ((hI H29 1307 a0 0) + (1 : Int32))) 1307 a0 0)))))))))))))))) ∧ ((hI H9 1307 a0 0) = (16 : Int32) → q H9 (-4 : Int32)))) ∧ (b10 = false → q H9 (-2 : Int32)))))) ∧ (x1 = x2 → q H4 (-1 : Int32))))))))
set_option maxRecDepth 40000 in
set_option maxHeartbeats 4000000 in
theorem T_X12_claim_0 {d : Nat} {q : HP → Int32 → Prop} {a0 : Nat} {x1 : Int32} {x2 : Int32} {x3 : Int32} {x4 : Int32} {H : HP} (h : wb_X12_claim_0 d q a0 x1 x2 x3 x4 H) : WP (d + 1) mX12_claim 0 0 0 [(0, rv (some a0)), (1, .int x1), (2, .int x2), (3, .int x3), (4, .int x4)] [] H (qI q) := by
  unfold wb_X12_claim_0 at h
  refine wp_aload_n 0 dX12_claim_0 rfl ?_
  refine wp_iload_n 1 dX12_claim_1 rfl ?_
  obtain ⟨ht2, h⟩ := h
  refine wp_callV (ci := 12) (As := [.int x1]) (rest := []) (mc := 0) (ms := 0) dX12_claim_2 lk_X12_283 rfl rfl (by decide) rfl rfl rfl ht2 rfl rfl rfl w_7_77 (Call.weaken h ?_)
  rintro H1 _ ⟨b3, rfl, h⟩
  change WP _ _ _ _ _ _ [.int (bI b3)] H1 _
  refine wp_if_eq (tgt := 21) dX12_claim_5 rfl (fun c => ?_) (fun c => ?_)
  · replace h := h.1 (bI_0.mp c)
    refine wp_iconst (v := (-1 : Int32)) dX12_claim_21 (by decide) ?_
    exact wp_ireturn (ty := .int) dX12_claim_22 rfl rfl ⟨_, rfl, h⟩
  · replace h := h.2 (bI_1.mp c)
    refine wp_aload_n 0 dX12_claim_8 rfl ?_
    refine wp_iload_n 2 dX12_claim_9 rfl ?_
    obtain ⟨ht5, h⟩ := h
    refine wp_callV (ci := 12) (As := [.int x2]) (rest := []) (mc := 0) (ms := 0) dX12_claim_10 lk_X12_283 rfl rfl (by decide) rfl rfl rfl ht5 rfl rfl rfl w_7_77 (Call.weaken h ?_)
    rintro H4 _ ⟨b6, rfl, h⟩
    change WP _ _ _ _ _ _ [.int (bI b6)] H4 _
    refine wp_if_eq (tgt := 21) dX12_claim_13 rfl (fun c => ?_) (fun c => ?_)
    · replace h := h.1 (bI_0.mp c)
      refine wp_iconst (v := (-1 : Int32)) dX12_claim_21 (by decide) ?_
      exact wp_ireturn (ty := .int) dX12_claim_22 rfl rfl ⟨_, rfl, h⟩
    · replace h := h.2 (bI_1.mp c)
      refine wp_iload_n 1 dX12_claim_16 rfl ?_
      refine wp_iload_n 2 dX12_claim_17 rfl ?_
      refine wp_icmp_ne (tgt := 23) dX12_claim_18 rfl (fun c => ?_) (fun c => ?_)
      · replace h := h.1 c
        refine wp_iload_n 3 dX12_claim_23 rfl ?_
        refine wp_i2l dX12_claim_24 ?_
        refine wp_lconst (v := (1 : Int64)) dX12_claim_25 (by decide) ?_
        refine wp_ldc2 dX12_claim_26 w_7_112 ?_
        refine wp_callS (As := [.long (x3.toInt64), .long (1 : Int64), .long (999999 : Int64)]) (rest := []) (mc := 0) (ms := 0) dX12_claim_29 lk_X12_161 rfl rfl (by decide) rfl rfl rfl (Call.weaken h ?_)
        rintro H7 _ ⟨b8, rfl, h⟩
        change WP _ _ _ _ _ _ [.int (bI b8)] H7 _
        refine wp_if_eq (tgt := 48) dX12_claim_32 rfl (fun c => ?_) (fun c => ?_)
        · replace h := h.1 (bI_0.mp c)
          refine wp_bipush (v := (-2 : Int32)) dX12_claim_48 (by decide) ?_
          exact wp_ireturn (ty := .int) dX12_claim_50 rfl rfl ⟨_, rfl, h⟩
        · replace h := h.2 (bI_1.mp c)
          refine wp_iload 4 dX12_claim_35 rfl ?_
          refine wp_i2l dX12_claim_37 ?_
          refine wp_lconst (v := (1 : Int64)) dX12_claim_38 (by decide) ?_
          refine wp_ldc2 dX12_claim_39 w_7_112 ?_
          refine wp_callS (As := [.long (x4.toInt64), .long (1 : Int64), .long (999999 : Int64)]) (rest := []) (mc := 0) (ms := 0) dX12_claim_42 lk_X12_161 rfl rfl (by decide) rfl rfl rfl (Call.weaken h ?_)
          rintro H9 _ ⟨b10, rfl, h⟩
          change WP _ _ _ _ _ _ [.int (bI b10)] H9 _
          refine wp_if_ne (tgt := 51) dX12_claim_45 rfl (fun c => ?_) (fun c => ?_)
          · replace h := h.1 (bI_1.mp c)
            refine wp_aload_n 0 dX12_claim_51 rfl ?_
            obtain ⟨ht11, h⟩ := h
            refine wp_getI (ci := 12) (j := 7) dX12_claim_52 fi_X12_275r rfl rfl ht11 ?_
            change WP _ _ _ _ _ _ (.int (hI H9 1307 a0 0) :: _) _ _
            refine wp_bipush (v := (16 : Int32)) dX12_claim_55 (by decide) ?_
            refine wp_icmp_ne (tgt := 63) dX12_claim_57 rfl (fun c => ?_) (fun c => ?_)
            · replace h := h.1 c
              refine wp_aload_n 0 dX12_claim_63 rfl ?_
              refine wp_getC (ci := 12) (j := 8) dX12_claim_64 fi_X12_35r rfl rfl ht11 ?_
              change WP _ _ _ _ _ _ (rv (hC H9 1308 a0) :: _) _ _
              refine wp_iconst (v := (4 : Int32)) dX12_claim_67 (by decide) ?_
              refine wp_aload_n 0 dX12_claim_68 rfl ?_
              refine wp_getI (ci := 12) (j := 7) dX12_claim_69 fi_X12_275r rfl rfl ht11 ?_
              change WP _ _ _ _ _ _ (.int (hI H9 1307 a0 0) :: _) _ _
              refine wp_imul dX12_claim_72 ?_
              refine wp_iload_n 1 dX12_claim_73 rfl ?_
              obtain ⟨a12, ha12, h⟩ := h
              obtain ⟨hr13, h⟩ := h
              obtain ⟨hg14, h⟩ := h
              refine wp_iastore dX12_claim_74 ha12 hr13 hg14 ?_
              change WP _ _ _ _ _ _ _ (sI H9 (tg H9 a12) a12 ((4 : Int32) * (hI H9 1307 a0 0)).toNatClampNeg x1) _
              refine wp_aload_n 0 dX12_claim_75 rfl ?_
              refine wp_getC (ci := 12) (j := 8) dX12_claim_76 fi_X12_35r rfl rfl ht11 ?_
              change WP _ _ _ _ _ _ (rv (hC (sI H9 (tg H9 a12) a12 ((4 : Int32) * (hI H9 1307 a0 0)).toNatClampNeg x1) 1308 a0) :: _) _ _
              refine wp_iconst (v := (4 : Int32)) dX12_claim_79 (by decide) ?_
              refine wp_aload_n 0 dX12_claim_80 rfl ?_
              refine wp_getI (ci := 12) (j := 7) dX12_claim_81 fi_X12_275r rfl rfl ht11 ?_
              change WP _ _ _ _ _ _ (.int (hI (sI H9 (tg H9 a12) a12 ((4 : Int32) * (hI H9 1307 a0 0)).toNatClampNeg x1) 1307 a0 0) :: _) _ _
              refine wp_imul dX12_claim_84 ?_
              refine wp_iconst (v := (1 : Int32)) dX12_claim_85 (by decide) ?_
              refine wp_iadd dX12_claim_86 ?_
              refine wp_iload_n 2 dX12_claim_87 rfl ?_
              obtain ⟨a15, ha15, h⟩ := h
              obtain ⟨hr16, h⟩ := h
              obtain ⟨hg17, h⟩ := h
              refine wp_iastore dX12_claim_88 ha15 hr16 hg17 ?_
              change WP _ _ _ _ _ _ _ (sI (sI H9 (tg H9 a12) a12 ((4 : Int32) * (hI H9 1307 a0 0)).toNatClampNeg x1) (tg (sI H9 (tg H9 a12) a12 ((4 : Int32) * (hI H9 1307 a0 0)).toNatClampNeg x1) a15) a15 (((4 : Int32) * (hI (sI H9 (tg H9 a12) a12 ((4 : Int32) * (hI H9 1307 a0 0)).toNatClampNeg x1) 1307 a0 0)) + (1 : Int32)).toNatClampNeg x2) _
              replace h := h _ rfl
              generalize e19 : (sI (sI H9 (tg H9 a12) a12 ((4 : Int32) * (hI H9 1307 a0 0)).toNatClampNeg x1) (tg (sI H9 (tg H9 a12) a12 ((4 : Int32) * (hI H9 1307 a0 0)).toNatClampNeg x1) a15) a15 (((4 : Int32) * (hI (sI H9 (tg H9 a12) a12 ((4 : Int32) * (hI H9 1307 a0 0)).toNatClampNeg x1) 1307 a0 0)) + (1 : Int32)).toNatClampNeg x2) = H18 at h ⊢
              have ht20 : tg H18 a0 = 13 := by rw [← e19]; exact ht11
              have hr21 : isA H18 a12 0 := by rw [← e19]; exact hr13
              have hr22 : isA H18 a15 0 := by rw [← e19]; exact hr16
              refine wp_aload_n 0 dX12_claim_89 rfl ?_
              refine wp_getC (ci := 12) (j := 8) dX12_claim_90 fi_X12_35r rfl rfl ht20 ?_
              change WP _ _ _ _ _ _ (rv (hC H18 1308 a0) :: _) _ _
              refine wp_iconst (v := (4 : Int32)) dX12_claim_93 (by decide) ?_
              refine wp_aload_n 0 dX12_claim_94 rfl ?_
              refine wp_getI (ci := 12) (j := 7) dX12_claim_95 fi_X12_275r rfl rfl ht20 ?_
              change WP _ _ _ _ _ _ (.int (hI H18 1307 a0 0) :: _) _ _
              refine wp_imul dX12_claim_98 ?_
              refine wp_iconst (v := (2 : Int32)) dX12_claim_99 (by decide) ?_
              refine wp_iadd dX12_claim_100 ?_
              refine wp_iload_n 3 dX12_claim_101 rfl ?_
              obtain ⟨a23, ha23, h⟩ := h
              obtain ⟨hr24, h⟩ := h
              obtain ⟨hg25, h⟩ := h
              refine wp_iastore dX12_claim_102 ha23 hr24 hg25 ?_
              change WP _ _ _ _ _ _ _ (sI H18 (tg H18 a23) a23 (((4 : Int32) * (hI H18 1307 a0 0)) + (2 : Int32)).toNatClampNeg x3) _
              refine wp_aload_n 0 dX12_claim_103 rfl ?_
              refine wp_getC (ci := 12) (j := 8) dX12_claim_104 fi_X12_35r rfl rfl ht20 ?_
              change WP _ _ _ _ _ _ (rv (hC (sI H18 (tg H18 a23) a23 (((4 : Int32) * (hI H18 1307 a0 0)) + (2 : Int32)).toNatClampNeg x3) 1308 a0) :: _) _ _
              refine wp_iconst (v := (4 : Int32)) dX12_claim_107 (by decide) ?_
              refine wp_aload_n 0 dX12_claim_108 rfl ?_
              refine wp_getI (ci := 12) (j := 7) dX12_claim_109 fi_X12_275r rfl rfl ht20 ?_
              change WP _ _ _ _ _ _ (.int (hI (sI H18 (tg H18 a23) a23 (((4 : Int32) * (hI H18 1307 a0 0)) + (2 : Int32)).toNatClampNeg x3) 1307 a0 0) :: _) _ _
              refine wp_imul dX12_claim_112 ?_
              refine wp_iconst (v := (3 : Int32)) dX12_claim_113 (by decide) ?_
              refine wp_iadd dX12_claim_114 ?_
              refine wp_iload 4 dX12_claim_115 rfl ?_
              obtain ⟨a26, ha26, h⟩ := h
              obtain ⟨hr27, h⟩ := h
              obtain ⟨hg28, h⟩ := h
              refine wp_iastore dX12_claim_117 ha26 hr27 hg28 ?_
              change WP _ _ _ _ _ _ _ (sI (sI H18 (tg H18 a23) a23 (((4 : Int32) * (hI H18 1307 a0 0)) + (2 : Int32)).toNatClampNeg x3) (tg (sI H18 (tg H18 a23) a23 (((4 : Int32) * (hI H18 1307 a0 0)) + (2 : Int32)).toNatClampNeg x3) a26) a26 (((4 : Int32) * (hI (sI H18 (tg H18 a23) a23 (((4 : Int32) * (hI H18 1307 a0 0)) + (2 : Int32)).toNatClampNeg x3) 1307 a0 0)) + (3 : Int32)).toNatClampNeg x4) _
              replace h := h _ rfl
              generalize e30 : (sI (sI H18 (tg H18 a23) a23 (((4 : Int32) * (hI H18 1307 a0 0)) + (2 : Int32)).toNatClampNeg x3) (tg (sI H18 (tg H18 a23) a23 (((4 : Int32) * (hI H18 1307 a0 0)) + (2 : Int32)).toNatClampNeg x3) a26) a26 (((4 : Int32) * (hI (sI H18 (tg H18 a23) a23 (((4 : Int32) * (hI H18 1307 a0 0)) + (2 : Int32)).toNatClampNeg x3) 1307 a0 0)) + (3 : Int32)).toNatClampNeg x4) = H29 at h ⊢
              have ht31 : tg H29 a0 = 13 := by rw [← e30]; exact ht20
              have hr32 : isA H29 a12 0 := by rw [← e30]; exact hr21
              have hr33 : isA H29 a15 0 := by rw [← e30]; exact hr22
              have hr34 : isA H29 a23 0 := by rw [← e30]; exact hr24
              have hr35 : isA H29 a26 0 := by rw [← e30]; exact hr27
              refine wp_aload_n 0 dX12_claim_118 rfl ?_
              refine wp_dup dX12_claim_119 (rv_cat _) ?_
              refine wp_getI (ci := 12) (j := 7) dX12_claim_120 fi_X12_275r rfl rfl ht31 ?_
              change WP _ _ _ _ _ _ (.int (hI H29 1307 a0 0) :: _) _ _
              refine wp_iconst (v := (1 : Int32)) dX12_claim_123 (by decide) ?_
              refine wp_iadd dX12_claim_124 ?_
              refine wp_putI (ci := 12) (j := 7) dX12_claim_125 fi_X12_275 rfl (fun z => by cases z) rfl ht31 rfl rfl ?_
              change WP _ _ _ _ _ _ _ (sI H29 1307 a0 0 ((hI H29 1307 a0 0) + (1 : Int32))) _
              refine wp_aload_n 0 dX12_claim_128 rfl ?_
              refine wp_getI (ci := 12) (j := 7) dX12_claim_129 fi_X12_275r rfl rfl ht31 ?_
              change WP _ _ _ _ _ _ (.int (hI (sI H29 1307 a0 0 ((hI H29 1307 a0 0) + (1 : Int32))) 1307 a0 0) :: _) _ _
              exact wp_ireturn (ty := .int) dX12_claim_132 rfl rfl ⟨_, rfl, h⟩
            · replace h := h.2 c
              refine wp_bipush (v := (-4 : Int32)) dX12_claim_60 (by decide) ?_
              exact wp_ireturn (ty := .int) dX12_claim_62 rfl rfl ⟨_, rfl, h⟩
          · replace h := h.2 (bI_0.mp c)
            refine wp_bipush (v := (-2 : Int32)) dX12_claim_48 (by decide) ?_
            exact wp_ireturn (ty := .int) dX12_claim_50 rfl rfl ⟨_, rfl, h⟩
      · replace h := h.2 c
        refine wp_iconst (v := (-1 : Int32)) dX12_claim_21 (by decide) ?_
        exact wp_ireturn (ty := .int) dX12_claim_22 rfl rfl ⟨_, rfl, h⟩
theorem C_X12_claim {d : Nat} {q : HP → Int32 → Prop} {a0 : Nat} {x1 : Int32} {x2 : Int32} {x3 : Int32} {x4 : Int32} {H : HP} (h : wb_X12_claim_0 d q a0 x1 x2 x3 x4 H) : CI (d + 1) 0 0 mX12_claim [rv (some a0), .int x1, .int x2, .int x3, .int x4] H q := by
  refine call_of (by decide +kernel) (by simp [lg_sl, rv_cat, vc_int, vc_long, vc_float, vc_double]) ?_
  have e : lv_args 0 [rv (some a0), .int x1, .int x2, .int x3, .int x4] = [(0, rv (some a0)), (1, .int x1), (2, .int x2), (3, .int x3), (4, .int x4)] := by simp [lv_args, rv_cat, vc_int, vc_long, vc_float, vc_double]
  rw [e]
  exact T_X12_claim_0 h
def wb_X12_claimOf_0 (d : Nat) (q : HP → Int32 → Prop) (a0 : Nat) (x1 : Int32) (x2 : Int32) (H : HP) : Prop :=
  tg H a0 = 13 ∧ (CZ d 0 0 mX12_isIn [.long (x1.toInt64), .long (0 : Int64), .long (((hI H 1307 a0 0) - (1 : Int32)).toInt64)] H (fun H2 b3 => (b3 = false → q H2 (-1 : Int32)) ∧ (b3 = true → CZ d 0 0 mX12_isIn [.long (x2.toInt64), .long (0 : Int64), .long (5 : Int64)] H2 (fun H4 b5 => (b5 = true → ((4 : Int32) ≤ x2 → (¬ x2 = (5 : Int32) → tg H4 a0 = 13 ∧ (CV d 0 0 mX12_tells [rv (some a0)] H4 (fun H6 => tg H6 a0 = 13 ∧ (∃ a9, (hC H6 1354 a0) = some a9 ∧ (isA H6 a9 0 ∧ (vp_in x1 (ln H6 a9) ∧ ((¬ (hI H6 (tg H6 a9) a9 x1.toNatClampNeg) = (-15 : Int32) → vp_in x1 (ln H6 a9) ∧ ((¬ (hI H6 (tg H6 a9) a9 x1.toNatClampNeg) = (2 : Int32) → q H6 (0 : Int32)) ∧ ((hI H6 (tg H6 a9) a9 x1.toNatClampNeg) = (2 : Int32) → q H6 (1 : Int32)))) ∧ ((hI H6 (tg H6 a9) a9 x1.toNatClampNeg) = (-15 : Int32) → q H6 (-15 : Int32))))))))) ∧ (x2 = (5 : Int32) → tg H4 a0 = 13 ∧ (CI d 0 0 mX12_isTrue [rv (some a0), .int x1] H4 (fun H13 r15 => q H13 r15)))) ∧ (¬ ((4 : Int32) ≤ x2) → tg H4 a0 = 13 ∧ (∃ a17, (hC H4 1308 a0) = some a17 ∧ (isA H4 a17 0 ∧ (vp_in (((4 : Int32) * x1) + x2) (ln H4 a17) ∧ (q H4 (hI H4 (tg H4 a17) a17 (((4 : Int32) * x1) + x2).toNatClampNeg))))))) ∧ (b5 = false → q H4 (-1 : Int32))))))
set_option maxRecDepth 40000 in
set_option maxHeartbeats 4000000 in
theorem T_X12_claimOf_0 {d : Nat} {q : HP → Int32 → Prop} {a0 : Nat} {x1 : Int32} {x2 : Int32} {H : HP} (h : wb_X12_claimOf_0 d q a0 x1 x2 H) : WP (d + 1) mX12_claimOf 0 0 0 [(0, rv (some a0)), (1, .int x1), (2, .int x2)] [] H (qI q) := by
  unfold wb_X12_claimOf_0 at h
  refine wp_iload_n 1 dX12_claimOf_0 rfl ?_
  refine wp_i2l dX12_claimOf_1 ?_
  refine wp_lconst (v := (0 : Int64)) dX12_claimOf_2 (by decide) ?_
  refine wp_aload_n 0 dX12_claimOf_3 rfl ?_
  obtain ⟨ht1, h⟩ := h
  refine wp_getI (ci := 12) (j := 7) dX12_claimOf_4 fi_X12_275r rfl rfl ht1 ?_
  change WP _ _ _ _ _ _ (.int (hI H 1307 a0 0) :: _) _ _
  refine wp_iconst (v := (1 : Int32)) dX12_claimOf_7 (by decide) ?_
  refine wp_isub dX12_claimOf_8 ?_
  refine wp_i2l dX12_claimOf_9 ?_
  refine wp_callS (As := [.long (x1.toInt64), .long (0 : Int64), .long (((hI H 1307 a0 0) - (1 : Int32)).toInt64)]) (rest := []) (mc := 0) (ms := 0) dX12_claimOf_10 lk_X12_161 rfl rfl (by decide) rfl rfl rfl (Call.weaken h ?_)
  rintro H2 _ ⟨b3, rfl, h⟩
  change WP _ _ _ _ _ _ [.int (bI b3)] H2 _
  refine wp_if_eq (tgt := 28) dX12_claimOf_13 rfl (fun c => ?_) (fun c => ?_)
  · replace h := h.1 (bI_0.mp c)
    refine wp_iconst (v := (-1 : Int32)) dX12_claimOf_28 (by decide) ?_
    exact wp_ireturn (ty := .int) dX12_claimOf_29 rfl rfl ⟨_, rfl, h⟩
  · replace h := h.2 (bI_1.mp c)
    refine wp_iload_n 2 dX12_claimOf_16 rfl ?_
    refine wp_i2l dX12_claimOf_17 ?_
    refine wp_lconst (v := (0 : Int64)) dX12_claimOf_18 (by decide) ?_
    refine wp_ldc2 dX12_claimOf_19 w_8_46 ?_
    refine wp_callS (As := [.long (x2.toInt64), .long (0 : Int64), .long (5 : Int64)]) (rest := []) (mc := 0) (ms := 0) dX12_claimOf_22 lk_X12_161 rfl rfl (by decide) rfl rfl rfl (Call.weaken h ?_)
    rintro H4 _ ⟨b5, rfl, h⟩
    change WP _ _ _ _ _ _ [.int (bI b5)] H4 _
    refine wp_if_ne (tgt := 30) dX12_claimOf_25 rfl (fun c => ?_) (fun c => ?_)
    · replace h := h.1 (bI_1.mp c)
      refine wp_iload_n 2 dX12_claimOf_30 rfl ?_
      refine wp_iconst (v := (4 : Int32)) dX12_claimOf_31 (by decide) ?_
      refine wp_icmp_ge (tgt := 46) dX12_claimOf_32 rfl (fun c => ?_) (fun c => ?_)
      · replace h := h.1 c
        refine wp_iload_n 2 dX12_claimOf_46 rfl ?_
        refine wp_iconst (v := (5 : Int32)) dX12_claimOf_47 (by decide) ?_
        refine wp_icmp_ne (tgt := 57) dX12_claimOf_48 rfl (fun c => ?_) (fun c => ?_)
        · replace h := h.1 c
          refine wp_aload_n 0 dX12_claimOf_57 rfl ?_
          obtain ⟨ht7, h⟩ := h
          refine wp_callV (ci := 12) (As := []) (rest := []) (mc := 0) (ms := 0) dX12_claimOf_58 lk_X12_452 rfl rfl (by decide) rfl rfl rfl ht7 rfl rfl rfl w_8_51 (Call.weaken h ?_)
          rintro H6 _ ⟨rfl, h⟩
          change WP _ _ _ _ _ _ [] H6 _
          refine wp_aload_n 0 dX12_claimOf_61 rfl ?_
          obtain ⟨ht8, h⟩ := h
          refine wp_getC (ci := 12) (j := 54) dX12_claimOf_62 fi_X12_98r rfl rfl ht8 ?_
          change WP _ _ _ _ _ _ (rv (hC H6 1354 a0) :: _) _ _
          refine wp_iload_n 1 dX12_claimOf_65 rfl ?_
          obtain ⟨a9, ha9, h⟩ := h
          obtain ⟨hr10, h⟩ := h
          obtain ⟨hg11, h⟩ := h
          refine wp_iaload dX12_claimOf_66 ha9 hr10 hg11 ?_
          refine wp_bipush (v := (-15 : Int32)) dX12_claimOf_67 (by decide) ?_
          refine wp_icmp_ne (tgt := 77) dX12_claimOf_69 rfl (fun c => ?_) (fun c => ?_)
          · replace h := h.1 c
            refine wp_aload_n 0 dX12_claimOf_77 rfl ?_
            refine wp_getC (ci := 12) (j := 54) dX12_claimOf_78 fi_X12_98r rfl rfl ht8 ?_
            change WP _ _ _ _ _ _ (rv (hC H6 1354 a0) :: _) _ _
            refine wp_iload_n 1 dX12_claimOf_81 rfl ?_
            obtain ⟨hg12, h⟩ := h
            refine wp_iaload dX12_claimOf_82 ha9 hr10 hg12 ?_
            refine wp_iconst (v := (2 : Int32)) dX12_claimOf_83 (by decide) ?_
            refine wp_icmp_ne (tgt := 91) dX12_claimOf_84 rfl (fun c => ?_) (fun c => ?_)
            · replace h := h.1 c
              refine wp_iconst (v := (0 : Int32)) dX12_claimOf_91 (by decide) ?_
              exact wp_ireturn (ty := .int) dX12_claimOf_92 rfl rfl ⟨_, rfl, h⟩
            · replace h := h.2 c
              refine wp_iconst (v := (1 : Int32)) dX12_claimOf_87 (by decide) ?_
              refine wp_goto (tgt := 92) dX12_claimOf_88 rfl ?_
              exact wp_ireturn (ty := .int) dX12_claimOf_92 rfl rfl ⟨_, rfl, h⟩
          · replace h := h.2 c
            refine wp_bipush (v := (-15 : Int32)) dX12_claimOf_72 (by decide) ?_
            refine wp_goto (tgt := 92) dX12_claimOf_74 rfl ?_
            exact wp_ireturn (ty := .int) dX12_claimOf_92 rfl rfl ⟨_, rfl, h⟩
        · replace h := h.2 c
          refine wp_aload_n 0 dX12_claimOf_51 rfl ?_
          refine wp_iload_n 1 dX12_claimOf_52 rfl ?_
          obtain ⟨ht14, h⟩ := h
          refine wp_callV (ci := 12) (As := [.int x1]) (rest := []) (mc := 0) (ms := 0) dX12_claimOf_53 lk_X12_449 rfl rfl (by decide) rfl rfl rfl ht14 rfl rfl rfl w_8_47 (Call.weaken h ?_)
          rintro H13 _ ⟨r15, rfl, h⟩
          change WP _ _ _ _ _ _ [.int r15] H13 _
          exact wp_ireturn (ty := .int) dX12_claimOf_56 rfl rfl ⟨_, rfl, h⟩
      · replace h := h.2 c
        refine wp_aload_n 0 dX12_claimOf_35 rfl ?_
        obtain ⟨ht16, h⟩ := h
        refine wp_getC (ci := 12) (j := 8) dX12_claimOf_36 fi_X12_35r rfl rfl ht16 ?_
        change WP _ _ _ _ _ _ (rv (hC H4 1308 a0) :: _) _ _
        refine wp_iconst (v := (4 : Int32)) dX12_claimOf_39 (by decide) ?_
        refine wp_iload_n 1 dX12_claimOf_40 rfl ?_
        refine wp_imul dX12_claimOf_41 ?_
        refine wp_iload_n 2 dX12_claimOf_42 rfl ?_
        refine wp_iadd dX12_claimOf_43 ?_
        obtain ⟨a17, ha17, h⟩ := h
        obtain ⟨hr18, h⟩ := h
        obtain ⟨hg19, h⟩ := h
        refine wp_iaload dX12_claimOf_44 ha17 hr18 hg19 ?_
        exact wp_ireturn (ty := .int) dX12_claimOf_45 rfl rfl ⟨_, rfl, h⟩
    · replace h := h.2 (bI_0.mp c)
      refine wp_iconst (v := (-1 : Int32)) dX12_claimOf_28 (by decide) ?_
      exact wp_ireturn (ty := .int) dX12_claimOf_29 rfl rfl ⟨_, rfl, h⟩
theorem C_X12_claimOf {d : Nat} {q : HP → Int32 → Prop} {a0 : Nat} {x1 : Int32} {x2 : Int32} {H : HP} (h : wb_X12_claimOf_0 d q a0 x1 x2 H) : CI (d + 1) 0 0 mX12_claimOf [rv (some a0), .int x1, .int x2] H q := by
  refine call_of (by decide +kernel) (by simp [lg_sl, rv_cat, vc_int, vc_long, vc_float, vc_double]) ?_
  have e : lv_args 0 [rv (some a0), .int x1, .int x2] = [(0, rv (some a0)), (1, .int x1), (2, .int x2)] := by simp [lv_args, rv_cat, vc_int, vc_long, vc_float, vc_double]
  rw [e]
  exact T_X12_claimOf_0 h
/-- UnitProverModel.clears()V: the loop at 2 -/
def L_X12_clears_2 (d : Nat) (q : HP → Prop) (a0 : Nat) (x1 : Int32) (H : HP) : Prop := WP (d + 1) mX12_clears 0 0 2 [(0, rv (some a0)), (1, .int x1)] [] H (qV q)
def wb_X12_clears_0 (d : Nat) (q : HP → Prop) (a0 : Nat) (H : HP) : Prop :=
  L_X12_clears_2 d q a0 (0 : Int32) H
set_option maxRecDepth 40000 in
set_option maxHeartbeats 4000000 in
theorem T_X12_clears_0 {d : Nat} {q : HP → Prop} {a0 : Nat} {H : HP} (h : wb_X12_clears_0 d q a0 H) : WP (d + 1) mX12_clears 0 0 0 [(0, rv (some a0))] [] H (qV q) := by
  unfold wb_X12_clears_0 at h
  refine wp_iconst (v := (0 : Int32)) dX12_clears_0 (by decide) ?_
  refine wp_istore_n (ls' := [(1, .int (0 : Int32)), (0, rv (some a0))]) dX12_clears_1 (by decide) rfl ?_
  refine wp_sub (ls' := [(0, rv (some a0)), (1, .int (0 : Int32))]) [1, 0] rfl ?_
  exact h
def wb_X12_clears_2 (d : Nat) (q : HP → Prop) (a0 : Nat) (x1 : Int32) (H : HP) : Prop :=
  ((5 : Int32) ≤ x1 → tg H a0 = 13 ∧ (q (sI H 1321 a0 0 (0 : Int32)))) ∧ (¬ ((5 : Int32) ≤ x1) → tg H a0 = 13 ∧ (∃ a3, (hC H 1337 a0) = some a3 ∧ (isA H a3 0 ∧ (vp_in x1 (ln H a3) ∧ (L_X12_clears_2 d q a0 (x1 + 1) (sI H (tg H a3) a3 x1.toNatClampNeg (0 : Int32)))))))
set_option maxRecDepth 40000 in
set_option maxHeartbeats 4000000 in
theorem T_X12_clears_2 {d : Nat} {q : HP → Prop} {a0 : Nat} {x1 : Int32} {H : HP} (h : wb_X12_clears_2 d q a0 x1 H) : L_X12_clears_2 d q a0 x1 H := by
  unfold wb_X12_clears_2 at h
  unfold L_X12_clears_2
  refine wp_iload_n 1 dX12_clears_2 rfl ?_
  refine wp_iconst (v := (5 : Int32)) dX12_clears_3 (by decide) ?_
  refine wp_icmp_ge (tgt := 20) dX12_clears_4 rfl (fun c => ?_) (fun c => ?_)
  · replace h := h.1 c
    refine wp_aload_n 0 dX12_clears_20 rfl ?_
    refine wp_iconst (v := (0 : Int32)) dX12_clears_21 (by decide) ?_
    obtain ⟨ht1, h⟩ := h
    refine wp_putI (ci := 12) (j := 21) dX12_clears_22 fi_X12_133 rfl (fun z => by cases z) rfl ht1 rfl rfl ?_
    change WP _ _ _ _ _ _ _ (sI H 1321 a0 0 (0 : Int32)) _
    exact wp_return dX12_clears_25 rfl ⟨rfl, h⟩
  · replace h := h.2 c
    refine wp_aload_n 0 dX12_clears_7 rfl ?_
    obtain ⟨ht2, h⟩ := h
    refine wp_getC (ci := 12) (j := 37) dX12_clears_8 fi_X12_74r rfl rfl ht2 ?_
    change WP _ _ _ _ _ _ (rv (hC H 1337 a0) :: _) _ _
    refine wp_iload_n 1 dX12_clears_11 rfl ?_
    refine wp_iconst (v := (0 : Int32)) dX12_clears_12 (by decide) ?_
    obtain ⟨a3, ha3, h⟩ := h
    obtain ⟨hr4, h⟩ := h
    obtain ⟨hg5, h⟩ := h
    refine wp_iastore dX12_clears_13 ha3 hr4 hg5 ?_
    change WP _ _ _ _ _ _ _ (sI H (tg H a3) a3 x1.toNatClampNeg (0 : Int32)) _
    refine wp_iinc (v := (x1 + 1)) (ls' := [(1, .int (x1 + 1)), (0, rv (some a0))]) 1 dX12_clears_14 rfl rfl (by decide) rfl ?_
    refine wp_goto (tgt := 2) dX12_clears_17 rfl ?_
    refine wp_sub (ls' := [(0, rv (some a0)), (1, .int (x1 + 1))]) [1, 0] rfl ?_
    exact h
theorem C_X12_clears {d : Nat} {q : HP → Prop} {a0 : Nat} {H : HP} (h : wb_X12_clears_0 d q a0 H) : CV (d + 1) 0 0 mX12_clears [rv (some a0)] H q := by
  refine call_of (by decide +kernel) (by simp [lg_sl, rv_cat, vc_int, vc_long, vc_float, vc_double]) ?_
  have e : lv_args 0 [rv (some a0)] = [(0, rv (some a0))] := by simp [lv_args, rv_cat, vc_int, vc_long, vc_float, vc_double]
  rw [e]
  exact T_X12_clears_0 h
/-- UnitProverModel.comes(I)I: the loop at 2 -/
def L_X12_comes_2 (d : Nat) (q : HP → Int32 → Prop) (a0 : Nat) (x1 : Int32) (x2 : Int32) (H : HP) : Prop := WP (d + 1) mX12_comes 0 0 2 [(0, rv (some a0)), (1, .int x1), (2, .int x2)] [] H (qI q)
/-- UnitProverModel.comes(I)I: the loop at 22 -/
def L_X12_comes_22 (d : Nat) (q : HP → Int32 → Prop) (a0 : Nat) (x1 : Int32) (x2 : Int32) (H : HP) : Prop := WP (d + 1) mX12_comes 0 0 22 [(0, rv (some a0)), (1, .int x1), (2, .int x2)] [] H (qI q)
/-- UnitProverModel.comes(I)I: the loop at 109 -/
def L_X12_comes_109 (d : Nat) (q : HP → Int32 → Prop) (a0 : Nat) (x1 : Int32) (x2 : Int32) (H : HP) : Prop := WP (d + 1) mX12_comes 0 0 109 [(0, rv (some a0)), (1, .int x1), (2, .int x2)] [] H (qI q)
/-- UnitProverModel.comes(I)I: the loop at 141 -/
def L_X12_comes_141 (d : Nat) (q : HP → Int32 → Prop) (a0 : Nat) (x1 : Int32) (x2 : Int32) (H : HP) : Prop := WP (d + 1) mX12_comes 0 0 141 [(0, rv (some a0)), (1, .int x1), (2, .int x2)] [] H (qI q)
def wb_X12_comes_0 (d : Nat) (q : HP → Int32 → Prop) (a0 : Nat) (x1 : Int32) (H : HP) : Prop :=
  L_X12_comes_2 d q a0 x1 (0 : Int32) H
set_option maxRecDepth 40000 in
set_option maxHeartbeats 4000000 in
theorem T_X12_comes_0 {d : Nat} {q : HP → Int32 → Prop} {a0 : Nat} {x1 : Int32} {H : HP} (h : wb_X12_comes_0 d q a0 x1 H) : WP (d + 1) mX12_comes 0 0 0 [(0, rv (some a0)), (1, .int x1)] [] H (qI q) := by
  unfold wb_X12_comes_0 at h
  refine wp_iconst (v := (0 : Int32)) dX12_comes_0 (by decide) ?_
  refine wp_istore_n (ls' := [(2, .int (0 : Int32)), (0, rv (some a0)), (1, .int x1)]) dX12_comes_1 (by decide) rfl ?_
  refine wp_sub (ls' := [(0, rv (some a0)), (1, .int x1), (2, .int (0 : Int32))]) [1, 2, 0] rfl ?_
  exact h
def wb_X12_comes_2 (d : Nat) (q : HP → Int32 → Prop) (a0 : Nat) (x1 : Int32) (x2 : Int32) (H : HP) : Prop :=
  ((5 : Int32) ≤ x2 → L_X12_comes_22 d q a0 x1 (0 : Int32) H) ∧ (¬ ((5 : Int32) ≤ x2) → tg H a0 = 13 ∧ (∃ a2, (hC H 1337 a0) = some a2 ∧ (isA H a2 0 ∧ (vp_in x2 (ln H a2) ∧ (L_X12_comes_2 d q a0 x1 (x2 + 1) (sI H (tg H a2) a2 x2.toNatClampNeg (0 : Int32)))))))
set_option maxRecDepth 40000 in
set_option maxHeartbeats 4000000 in
theorem T_X12_comes_2 {d : Nat} {q : HP → Int32 → Prop} {a0 : Nat} {x1 : Int32} {x2 : Int32} {H : HP} (h : wb_X12_comes_2 d q a0 x1 x2 H) : L_X12_comes_2 d q a0 x1 x2 H := by
  unfold wb_X12_comes_2 at h
  unfold L_X12_comes_2
  refine wp_iload_n 2 dX12_comes_2 rfl ?_
  refine wp_iconst (v := (5 : Int32)) dX12_comes_3 (by decide) ?_
  refine wp_icmp_ge (tgt := 20) dX12_comes_4 rfl (fun c => ?_) (fun c => ?_)
  · replace h := h.1 c
    refine wp_iconst (v := (0 : Int32)) dX12_comes_20 (by decide) ?_
    refine wp_istore_n (ls' := [(2, .int (0 : Int32)), (0, rv (some a0)), (1, .int x1)]) dX12_comes_21 (by decide) rfl ?_
    refine wp_sub (ls' := [(0, rv (some a0)), (1, .int x1), (2, .int (0 : Int32))]) [1, 2, 0] rfl ?_
    exact h
  · replace h := h.2 c
    refine wp_aload_n 0 dX12_comes_7 rfl ?_
    obtain ⟨ht1, h⟩ := h
    refine wp_getC (ci := 12) (j := 37) dX12_comes_8 fi_X12_74r rfl rfl ht1 ?_
    change WP _ _ _ _ _ _ (rv (hC H 1337 a0) :: _) _ _
    refine wp_iload_n 2 dX12_comes_11 rfl ?_
    refine wp_iconst (v := (0 : Int32)) dX12_comes_12 (by decide) ?_
    obtain ⟨a2, ha2, h⟩ := h
    obtain ⟨hr3, h⟩ := h
    obtain ⟨hg4, h⟩ := h
    refine wp_iastore dX12_comes_13 ha2 hr3 hg4 ?_
    change WP _ _ _ _ _ _ _ (sI H (tg H a2) a2 x2.toNatClampNeg (0 : Int32)) _
    refine wp_iinc (v := (x2 + 1)) (ls' := [(2, .int (x2 + 1)), (0, rv (some a0)), (1, .int x1)]) 2 dX12_comes_14 rfl rfl (by decide) rfl ?_
    refine wp_goto (tgt := 2) dX12_comes_17 rfl ?_
    refine wp_sub (ls' := [(0, rv (some a0)), (1, .int x1), (2, .int (x2 + 1))]) [1, 2, 0] rfl ?_
    exact h
def wb_X12_comes_22 (d : Nat) (q : HP → Int32 → Prop) (a0 : Nat) (x1 : Int32) (x2 : Int32) (H : HP) : Prop :=
  tg H a0 = 13 ∧ (((hI H 1332 a0 0) ≤ x2 → CZ d 0 0 mX12_isWide [rv (some a0), .int (9 : Int32)] H (fun H2 b3 => (b3 = false → tg H2 a0 = 13 ∧ (CV d 0 0 mX12_factors [rv (some a0)] H2 (fun H4 => tg H4 a0 = 13 ∧ (((hI H4 1321 a0 0) = 0 → (¬ (hI H4 1300 a0 0) = (20 : Int32) → L_X12_comes_109 d q a0 x1 (0 : Int32) H4) ∧ ((hI H4 1300 a0 0) = (20 : Int32) → q H4 (-4 : Int32))) ∧ (¬ ((hI H4 1321 a0 0) = 0) → q H4 (-15 : Int32)))))) ∧ (b3 = true → q H2 (-12 : Int32)))) ∧ (¬ ((hI H 1332 a0 0) ≤ x2) → ∃ a7, (hC H 1333 a0) = some a7 ∧ (isA H a7 0 ∧ (vp_in x2 (ln H a7) ∧ (∃ a10, (hC H 1334 a0) = some a10 ∧ (isA H a10 0 ∧ (vp_in x2 (ln H a10) ∧ (CI d 0 0 mX12_whose [rv (some a0), .int (hI H (tg H a7) a7 x2.toNatClampNeg), .int (hI H (tg H a10) a10 x2.toNatClampNeg)] H (fun H13 r14 => tg H13 a0 = 13 ∧ (∃ a16, (hC H13 1336 a0) = some a16 ∧ (isA H13 a16 0 ∧ (vp_in x2 (ln H13 a16) ∧ (∃ a19, (hC H13 1335 a0) = some a19 ∧ (isA H13 a19 0 ∧ (vp_in x2 (ln H13 a19) ∧ (CV d 0 0 mX12_sums [rv (some a0), .int r14, .int ((hI H13 (tg H13 a16) a16 x2.toNatClampNeg) * (hI H13 (tg H13 a19) a19 x2.toNatClampNeg))] H13 (fun H22 => L_X12_comes_22 d q a0 x1 (x2 + 1) H22)))))))))))))))))
set_option maxRecDepth 40000 in
set_option maxHeartbeats 4000000 in
theorem T_X12_comes_22 {d : Nat} {q : HP → Int32 → Prop} {a0 : Nat} {x1 : Int32} {x2 : Int32} {H : HP} (h : wb_X12_comes_22 d q a0 x1 x2 H) : L_X12_comes_22 d q a0 x1 x2 H := by
  unfold wb_X12_comes_22 at h
  unfold L_X12_comes_22
  refine wp_iload_n 2 dX12_comes_22 rfl ?_
  refine wp_aload_n 0 dX12_comes_23 rfl ?_
  obtain ⟨ht1, h⟩ := h
  refine wp_getI (ci := 12) (j := 32) dX12_comes_24 fi_X12_209r rfl rfl ht1 ?_
  change WP _ _ _ _ _ _ (.int (hI H 1332 a0 0) :: _) _ _
  refine wp_icmp_ge (tgt := 69) dX12_comes_27 rfl (fun c => ?_) (fun c => ?_)
  · replace h := h.1 c
    refine wp_aload_n 0 dX12_comes_69 rfl ?_
    refine wp_bipush (v := (9 : Int32)) dX12_comes_70 (by decide) ?_
    refine wp_callV (ci := 12) (As := [.int (9 : Int32)]) (rest := []) (mc := 0) (ms := 0) dX12_comes_72 lk_X12_260 rfl rfl (by decide) rfl rfl rfl ht1 rfl rfl rfl w_7_28 (Call.weaken h ?_)
    rintro H2 _ ⟨b3, rfl, h⟩
    change WP _ _ _ _ _ _ [.int (bI b3)] H2 _
    refine wp_if_eq (tgt := 81) dX12_comes_75 rfl (fun c => ?_) (fun c => ?_)
    · replace h := h.1 (bI_0.mp c)
      refine wp_aload_n 0 dX12_comes_81 rfl ?_
      obtain ⟨ht5, h⟩ := h
      refine wp_callV (ci := 12) (As := []) (rest := []) (mc := 0) (ms := 0) dX12_comes_82 lk_X12_263 rfl rfl (by decide) rfl rfl rfl ht5 rfl rfl rfl w_7_33 (Call.weaken h ?_)
      rintro H4 _ ⟨rfl, h⟩
      change WP _ _ _ _ _ _ [] H4 _
      refine wp_aload_n 0 dX12_comes_85 rfl ?_
      obtain ⟨ht6, h⟩ := h
      refine wp_getI (ci := 12) (j := 21) dX12_comes_86 fi_X12_133r rfl rfl ht6 ?_
      change WP _ _ _ _ _ _ (.int (hI H4 1321 a0 0) :: _) _ _
      refine wp_if_eq (tgt := 95) dX12_comes_89 rfl (fun c => ?_) (fun c => ?_)
      · replace h := h.1 c
        refine wp_aload_n 0 dX12_comes_95 rfl ?_
        refine wp_getI (ci := 12) (j := 0) dX12_comes_96 fi_X12_11r rfl rfl ht6 ?_
        change WP _ _ _ _ _ _ (.int (hI H4 1300 a0 0) :: _) _ _
        refine wp_bipush (v := (20 : Int32)) dX12_comes_99 (by decide) ?_
        refine wp_icmp_ne (tgt := 107) dX12_comes_101 rfl (fun c => ?_) (fun c => ?_)
        · replace h := h.1 c
          refine wp_iconst (v := (0 : Int32)) dX12_comes_107 (by decide) ?_
          refine wp_istore_n (ls' := [(2, .int (0 : Int32)), (0, rv (some a0)), (1, .int x1)]) dX12_comes_108 (by decide) rfl ?_
          refine wp_sub (ls' := [(0, rv (some a0)), (1, .int x1), (2, .int (0 : Int32))]) [1, 2, 0] rfl ?_
          exact h
        · replace h := h.2 c
          refine wp_bipush (v := (-4 : Int32)) dX12_comes_104 (by decide) ?_
          exact wp_ireturn (ty := .int) dX12_comes_106 rfl rfl ⟨_, rfl, h⟩
      · replace h := h.2 c
        refine wp_bipush (v := (-15 : Int32)) dX12_comes_92 (by decide) ?_
        exact wp_ireturn (ty := .int) dX12_comes_94 rfl rfl ⟨_, rfl, h⟩
    · replace h := h.2 (bI_1.mp c)
      refine wp_bipush (v := (-12 : Int32)) dX12_comes_78 (by decide) ?_
      exact wp_ireturn (ty := .int) dX12_comes_80 rfl rfl ⟨_, rfl, h⟩
  · replace h := h.2 c
    refine wp_aload_n 0 dX12_comes_30 rfl ?_
    refine wp_aload_n 0 dX12_comes_31 rfl ?_
    refine wp_aload_n 0 dX12_comes_32 rfl ?_
    refine wp_getC (ci := 12) (j := 33) dX12_comes_33 fi_X12_62r rfl rfl ht1 ?_
    change WP _ _ _ _ _ _ (rv (hC H 1333 a0) :: _) _ _
    refine wp_iload_n 2 dX12_comes_36 rfl ?_
    obtain ⟨a7, ha7, h⟩ := h
    obtain ⟨hr8, h⟩ := h
    obtain ⟨hg9, h⟩ := h
    refine wp_iaload dX12_comes_37 ha7 hr8 hg9 ?_
    refine wp_aload_n 0 dX12_comes_38 rfl ?_
    refine wp_getC (ci := 12) (j := 34) dX12_comes_39 fi_X12_65r rfl rfl ht1 ?_
    change WP _ _ _ _ _ _ (rv (hC H 1334 a0) :: _) _ _
    refine wp_iload_n 2 dX12_comes_42 rfl ?_
    obtain ⟨a10, ha10, h⟩ := h
    obtain ⟨hr11, h⟩ := h
    obtain ⟨hg12, h⟩ := h
    refine wp_iaload dX12_comes_43 ha10 hr11 hg12 ?_
    refine wp_callV (ci := 12) (As := [.int (hI H (tg H a7) a7 x2.toNatClampNeg), .int (hI H (tg H a10) a10 x2.toNatClampNeg)]) (rest := [rv (some a0)]) (mc := 0) (ms := 0) dX12_comes_44 lk_X12_243 rfl rfl (by simp [rv_cat, vc_int, vc_long, vc_float, vc_double]) rfl rfl rfl ht1 rfl rfl rfl w_7_8 (Call.weaken h ?_)
    rintro H13 _ ⟨r14, rfl, h⟩
    change WP _ _ _ _ _ _ [.int r14, rv (some a0)] H13 _
    refine wp_aload_n 0 dX12_comes_47 rfl ?_
    obtain ⟨ht15, h⟩ := h
    refine wp_getC (ci := 12) (j := 36) dX12_comes_48 fi_X12_71r rfl rfl ht15 ?_
    change WP _ _ _ _ _ _ (rv (hC H13 1336 a0) :: _) _ _
    refine wp_iload_n 2 dX12_comes_51 rfl ?_
    obtain ⟨a16, ha16, h⟩ := h
    obtain ⟨hr17, h⟩ := h
    obtain ⟨hg18, h⟩ := h
    refine wp_iaload dX12_comes_52 ha16 hr17 hg18 ?_
    refine wp_aload_n 0 dX12_comes_53 rfl ?_
    refine wp_getC (ci := 12) (j := 35) dX12_comes_54 fi_X12_68r rfl rfl ht15 ?_
    change WP _ _ _ _ _ _ (rv (hC H13 1335 a0) :: _) _ _
    refine wp_iload_n 2 dX12_comes_57 rfl ?_
    obtain ⟨a19, ha19, h⟩ := h
    obtain ⟨hr20, h⟩ := h
    obtain ⟨hg21, h⟩ := h
    refine wp_iaload dX12_comes_58 ha19 hr20 hg21 ?_
    refine wp_imul dX12_comes_59 ?_
    refine wp_callV (ci := 12) (As := [.int r14, .int ((hI H13 (tg H13 a16) a16 x2.toNatClampNeg) * (hI H13 (tg H13 a19) a19 x2.toNatClampNeg))]) (rest := []) (mc := 0) (ms := 0) dX12_comes_60 lk_X12_256 rfl rfl (by decide) rfl rfl rfl ht15 rfl rfl rfl w_7_24 (Call.weaken h ?_)
    rintro H22 _ ⟨rfl, h⟩
    change WP _ _ _ _ _ _ [] H22 _
    refine wp_iinc (v := (x2 + 1)) (ls' := [(2, .int (x2 + 1)), (0, rv (some a0)), (1, .int x1)]) 2 dX12_comes_63 rfl rfl (by decide) rfl ?_
    refine wp_goto (tgt := 22) dX12_comes_66 rfl ?_
    refine wp_sub (ls' := [(0, rv (some a0)), (1, .int x1), (2, .int (x2 + 1))]) [1, 2, 0] rfl ?_
    exact h
def wb_X12_comes_109 (d : Nat) (q : HP → Int32 → Prop) (a0 : Nat) (x1 : Int32) (x2 : Int32) (H : HP) : Prop :=
  ((5 : Int32) ≤ x2 → L_X12_comes_141 d q a0 x1 (0 : Int32) H) ∧ (¬ ((5 : Int32) ≤ x2) → tg H a0 = 13 ∧ (∃ a2, (hC H 1337 a0) = some a2 ∧ (isA H a2 0 ∧ (vp_in x2 (ln H a2) ∧ (∃ a5, (hC H 1302 a0) = some a5 ∧ (isA H a5 0 ∧ (vp_in (((5 : Int32) * (hI H 1300 a0 0)) + x2) (ln H a5) ∧ (L_X12_comes_109 d q a0 x1 (x2 + 1) (sI H (tg H a5) a5 (((5 : Int32) * (hI H 1300 a0 0)) + x2).toNatClampNeg (hI H (tg H a2) a2 x2.toNatClampNeg))))))))))
set_option maxRecDepth 40000 in
set_option maxHeartbeats 4000000 in
theorem T_X12_comes_109 {d : Nat} {q : HP → Int32 → Prop} {a0 : Nat} {x1 : Int32} {x2 : Int32} {H : HP} (h : wb_X12_comes_109 d q a0 x1 x2 H) : L_X12_comes_109 d q a0 x1 x2 H := by
  unfold wb_X12_comes_109 at h
  unfold L_X12_comes_109
  refine wp_iload_n 2 dX12_comes_109 rfl ?_
  refine wp_iconst (v := (5 : Int32)) dX12_comes_110 (by decide) ?_
  refine wp_icmp_ge (tgt := 139) dX12_comes_111 rfl (fun c => ?_) (fun c => ?_)
  · replace h := h.1 c
    refine wp_iconst (v := (0 : Int32)) dX12_comes_139 (by decide) ?_
    refine wp_istore_n (ls' := [(2, .int (0 : Int32)), (0, rv (some a0)), (1, .int x1)]) dX12_comes_140 (by decide) rfl ?_
    refine wp_sub (ls' := [(0, rv (some a0)), (1, .int x1), (2, .int (0 : Int32))]) [1, 2, 0] rfl ?_
    exact h
  · replace h := h.2 c
    refine wp_aload_n 0 dX12_comes_114 rfl ?_
    obtain ⟨ht1, h⟩ := h
    refine wp_getC (ci := 12) (j := 2) dX12_comes_115 fi_X12_19r rfl rfl ht1 ?_
    change WP _ _ _ _ _ _ (rv (hC H 1302 a0) :: _) _ _
    refine wp_iconst (v := (5 : Int32)) dX12_comes_118 (by decide) ?_
    refine wp_aload_n 0 dX12_comes_119 rfl ?_
    refine wp_getI (ci := 12) (j := 0) dX12_comes_120 fi_X12_11r rfl rfl ht1 ?_
    change WP _ _ _ _ _ _ (.int (hI H 1300 a0 0) :: _) _ _
    refine wp_imul dX12_comes_123 ?_
    refine wp_iload_n 2 dX12_comes_124 rfl ?_
    refine wp_iadd dX12_comes_125 ?_
    refine wp_aload_n 0 dX12_comes_126 rfl ?_
    refine wp_getC (ci := 12) (j := 37) dX12_comes_127 fi_X12_74r rfl rfl ht1 ?_
    change WP _ _ _ _ _ _ (rv (hC H 1337 a0) :: _) _ _
    refine wp_iload_n 2 dX12_comes_130 rfl ?_
    obtain ⟨a2, ha2, h⟩ := h
    obtain ⟨hr3, h⟩ := h
    obtain ⟨hg4, h⟩ := h
    refine wp_iaload dX12_comes_131 ha2 hr3 hg4 ?_
    obtain ⟨a5, ha5, h⟩ := h
    obtain ⟨hr6, h⟩ := h
    obtain ⟨hg7, h⟩ := h
    refine wp_iastore dX12_comes_132 ha5 hr6 hg7 ?_
    change WP _ _ _ _ _ _ _ (sI H (tg H a5) a5 (((5 : Int32) * (hI H 1300 a0 0)) + x2).toNatClampNeg (hI H (tg H a2) a2 x2.toNatClampNeg)) _
    refine wp_iinc (v := (x2 + 1)) (ls' := [(2, .int (x2 + 1)), (0, rv (some a0)), (1, .int x1)]) 2 dX12_comes_133 rfl rfl (by decide) rfl ?_
    refine wp_goto (tgt := 109) dX12_comes_136 rfl ?_
    refine wp_sub (ls' := [(0, rv (some a0)), (1, .int x1), (2, .int (x2 + 1))]) [1, 2, 0] rfl ?_
    exact h
def wb_X12_comes_141 (d : Nat) (q : HP → Int32 → Prop) (a0 : Nat) (x1 : Int32) (x2 : Int32) (H : HP) : Prop :=
  ((4 : Int32) ≤ x2 → tg H a0 = 13 ∧ (∃ a2, (hC H 1303 a0) = some a2 ∧ (isA H a2 3 ∧ (vp_in (hI H 1300 a0 0) (ln H a2) ∧ (∃ a5, (hC (sL H (tg H a2) a2 (hI H 1300 a0 0).toNatClampNeg (hL H 1319 a0 0)) 1304 a0) = some a5 ∧ (isA (sL H (tg H a2) a2 (hI H 1300 a0 0).toNatClampNeg (hL H 1319 a0 0)) a5 3 ∧ (vp_in (hI (sL H (tg H a2) a2 (hI H 1300 a0 0).toNatClampNeg (hL H 1319 a0 0)) 1300 a0 0) (ln (sL H (tg H a2) a2 (hI H 1300 a0 0).toNatClampNeg (hL H 1319 a0 0)) a5) ∧ (∀ H8, (sL (sL H (tg H a2) a2 (hI H 1300 a0 0).toNatClampNeg (hL H 1319 a0 0)) (tg (sL H (tg H a2) a2 (hI H 1300 a0 0).toNatClampNeg (hL H 1319 a0 0)) a5) a5 (hI (sL H (tg H a2) a2 (hI H 1300 a0 0).toNatClampNeg (hL H 1319 a0 0)) 1300 a0 0).toNatClampNeg (hL (sL H (tg H a2) a2 (hI H 1300 a0 0).toNatClampNeg (hL H 1319 a0 0)) 1320 a0 0)) = H8 → ((¬ (hI H8 1331 a0 0) = 0 → CV d 0 0 mX12_becomes [rv (some a0), .long (((hI H8 1331 a0 0).toInt64) * ((hI H8 1329 a0 0).toInt64)), .long ((hI H8 1330 a0 0).toInt64)] H8 (fun H13 => tg H13 a0 = 13 ∧ (∃ a15, (hC H13 1305 a0) = some a15 ∧ (isA H13 a15 3 ∧ (vp_in (hI H13 1300 a0 0) (ln H13 a15) ∧ (∃ a18, (hC (sL H13 (tg H13 a15) a15 (hI H13 1300 a0 0).toNatClampNeg (hL H13 1319 a0 0)) 1306 a0) = some a18 ∧ (isA (sL H13 (tg H13 a15) a15 (hI H13 1300 a0 0).toNatClampNeg (hL H13 1319 a0 0)) a18 3 ∧ (vp_in (hI (sL H13 (tg H13 a15) a15 (hI H13 1300 a0 0).toNatClampNeg (hL H13 1319 a0 0)) 1300 a0 0) (ln (sL H13 (tg H13 a15) a15 (hI H13 1300 a0 0).toNatClampNeg (hL H13 1319 a0 0)) a18) ∧ (∀ H21, (sL (sL H13 (tg H13 a15) a15 (hI H13 1300 a0 0).toNatClampNeg (hL H13 1319 a0 0)) (tg (sL H13 (tg H13 a15) a15 (hI H13 1300 a0 0).toNatClampNeg (hL H13 1319 a0 0)) a18) a18 (hI (sL H13 (tg H13 a15) a15 (hI H13 1300 a0 0).toNatClampNeg (hL H13 1319 a0 0)) 1300 a0 0).toNatClampNeg (hL (sL H13 (tg H13 a15) a15 (hI H13 1300 a0 0).toNatClampNeg (hL H13 1319 a0 0)) 1320 a0 0)) = H21 → (q (sI H21 1300 a0 0 ((hI H21 1300 a0 0) + (1 : Int32))) ((hI (sI H21 1300 a0 0 ((hI H21 1300 a0 0) + (1 : Int32))) 1300 a0 0) - (1 : Int32)))))))))))) ∧ ((hI H8 1331 a0 0) = 0 → CV d 0 0 mX12_becomes [rv (some a0), .long (0 : Int64), .long ((hI H8 1330 a0 0).toInt64)] H8 (fun H26 => tg H26 a0 = 13 ∧ (∃ a28, (hC H26 1305 a0) = some a28 ∧ (isA H26 a28 3 ∧ (vp_in (hI H26 1300 a0 0) (ln H26 a28) ∧ (∃ a31, (hC (sL H26 (tg H26 a28) a28 (hI H26 1300 a0 0).toNatClampNeg (hL H26 1319 a0 0)) 1306 a0) = some a31 ∧ (isA (sL H26 (tg H26 a28) a28 (hI H26 1300 a0 0).toNatClampNeg (hL H26 1319 a0 0)) a31 3 ∧ (vp_in (hI (sL H26 (tg H26 a28) a28 (hI H26 1300 a0 0).toNatClampNeg (hL H26 1319 a0 0)) 1300 a0 0) (ln (sL H26 (tg H26 a28) a28 (hI H26 1300 a0 0).toNatClampNeg (hL H26 1319 a0 0)) a31) ∧ (∀ H34, (sL (sL H26 (tg H26 a28) a28 (hI H26 1300 a0 0).toNatClampNeg (hL H26 1319 a0 0)) (tg (sL H26 (tg H26 a28) a28 (hI H26 1300 a0 0).toNatClampNeg (hL H26 1319 a0 0)) a31) a31 (hI (sL H26 (tg H26 a28) a28 (hI H26 1300 a0 0).toNatClampNeg (hL H26 1319 a0 0)) 1300 a0 0).toNatClampNeg (hL (sL H26 (tg H26 a28) a28 (hI H26 1300 a0 0).toNatClampNeg (hL H26 1319 a0 0)) 1320 a0 0)) = H34 → (q (sI H34 1300 a0 0 ((hI H34 1300 a0 0) + (1 : Int32))) ((hI (sI H34 1300 a0 0 ((hI H34 1300 a0 0) + (1 : Int32))) 1300 a0 0) - (1 : Int32))))))))))))))))))))) ∧ (¬ ((4 : Int32) ≤ x2) → tg H a0 = 13 ∧ ((x1 ≤ x2 → ∃ a40, (hC H 1301 a0) = some a40 ∧ (isA H a40 0 ∧ (vp_in (((4 : Int32) * (hI H 1300 a0 0)) + x2) (ln H a40) ∧ (L_X12_comes_141 d q a0 x1 (x2 + 1) (sI H (tg H a40) a40 (((4 : Int32) * (hI H 1300 a0 0)) + x2).toNatClampNeg (0 : Int32)))))) ∧ (¬ (x1 ≤ x2) → ∃ a43, (hC H 1322 a0) = some a43 ∧ (isA H a43 0 ∧ (vp_in x2 (ln H a43) ∧ (∃ a46, (hC H 1301 a0) = some a46 ∧ (isA H a46 0 ∧ (vp_in (((4 : Int32) * (hI H 1300 a0 0)) + x2) (ln H a46) ∧ (L_X12_comes_141 d q a0 x1 (x2 + 1) (sI H (tg H a46) a46 (((4 : Int32) * (hI H 1300 a0 0)) + x2).toNatClampNeg (hI H (tg H a43) a43 x2.toNatClampNeg)))))))))))
set_option maxRecDepth 40000 in
set_option maxHeartbeats 4000000 in
theorem T_X12_comes_141 {d : Nat} {q : HP → Int32 → Prop} {a0 : Nat} {x1 : Int32} {x2 : Int32} {H : HP} (h : wb_X12_comes_141 d q a0 x1 x2 H) : L_X12_comes_141 d q a0 x1 x2 H := by
  unfold wb_X12_comes_141 at h
  unfold L_X12_comes_141
  refine wp_iload_n 2 dX12_comes_141 rfl ?_
  refine wp_iconst (v := (4 : Int32)) dX12_comes_142 (by decide) ?_
  refine wp_icmp_ge (tgt := 180) dX12_comes_143 rfl (fun c => ?_) (fun c => ?_)
  · replace h := h.1 c
    refine wp_aload_n 0 dX12_comes_180 rfl ?_
    obtain ⟨ht1, h⟩ := h
    refine wp_getC (ci := 12) (j := 3) dX12_comes_181 fi_X12_22r rfl rfl ht1 ?_
    change WP _ _ _ _ _ _ (rv (hC H 1303 a0) :: _) _ _
    refine wp_aload_n 0 dX12_comes_184 rfl ?_
    refine wp_getI (ci := 12) (j := 0) dX12_comes_185 fi_X12_11r rfl rfl ht1 ?_
    change WP _ _ _ _ _ _ (.int (hI H 1300 a0 0) :: _) _ _
    refine wp_aload_n 0 dX12_comes_188 rfl ?_
    refine wp_getL (ci := 12) (j := 19) dX12_comes_189 fi_X12_143r rfl rfl ht1 ?_
    change WP _ _ _ _ _ _ (.long (hL H 1319 a0 0) :: _) _ _
    obtain ⟨a2, ha2, h⟩ := h
    obtain ⟨hr3, h⟩ := h
    obtain ⟨hg4, h⟩ := h
    refine wp_lastore dX12_comes_192 ha2 hr3 hg4 ?_
    change WP _ _ _ _ _ _ _ (sL H (tg H a2) a2 (hI H 1300 a0 0).toNatClampNeg (hL H 1319 a0 0)) _
    refine wp_aload_n 0 dX12_comes_193 rfl ?_
    refine wp_getC (ci := 12) (j := 4) dX12_comes_194 fi_X12_26r rfl rfl ht1 ?_
    change WP _ _ _ _ _ _ (rv (hC (sL H (tg H a2) a2 (hI H 1300 a0 0).toNatClampNeg (hL H 1319 a0 0)) 1304 a0) :: _) _ _
    refine wp_aload_n 0 dX12_comes_197 rfl ?_
    refine wp_getI (ci := 12) (j := 0) dX12_comes_198 fi_X12_11r rfl rfl ht1 ?_
    change WP _ _ _ _ _ _ (.int (hI (sL H (tg H a2) a2 (hI H 1300 a0 0).toNatClampNeg (hL H 1319 a0 0)) 1300 a0 0) :: _) _ _
    refine wp_aload_n 0 dX12_comes_201 rfl ?_
    refine wp_getL (ci := 12) (j := 20) dX12_comes_202 fi_X12_147r rfl rfl ht1 ?_
    change WP _ _ _ _ _ _ (.long (hL (sL H (tg H a2) a2 (hI H 1300 a0 0).toNatClampNeg (hL H 1319 a0 0)) 1320 a0 0) :: _) _ _
    obtain ⟨a5, ha5, h⟩ := h
    obtain ⟨hr6, h⟩ := h
    obtain ⟨hg7, h⟩ := h
    refine wp_lastore dX12_comes_205 ha5 hr6 hg7 ?_
    change WP _ _ _ _ _ _ _ (sL (sL H (tg H a2) a2 (hI H 1300 a0 0).toNatClampNeg (hL H 1319 a0 0)) (tg (sL H (tg H a2) a2 (hI H 1300 a0 0).toNatClampNeg (hL H 1319 a0 0)) a5) a5 (hI (sL H (tg H a2) a2 (hI H 1300 a0 0).toNatClampNeg (hL H 1319 a0 0)) 1300 a0 0).toNatClampNeg (hL (sL H (tg H a2) a2 (hI H 1300 a0 0).toNatClampNeg (hL H 1319 a0 0)) 1320 a0 0)) _
    replace h := h _ rfl
    generalize e9 : (sL (sL H (tg H a2) a2 (hI H 1300 a0 0).toNatClampNeg (hL H 1319 a0 0)) (tg (sL H (tg H a2) a2 (hI H 1300 a0 0).toNatClampNeg (hL H 1319 a0 0)) a5) a5 (hI (sL H (tg H a2) a2 (hI H 1300 a0 0).toNatClampNeg (hL H 1319 a0 0)) 1300 a0 0).toNatClampNeg (hL (sL H (tg H a2) a2 (hI H 1300 a0 0).toNatClampNeg (hL H 1319 a0 0)) 1320 a0 0)) = H8 at h ⊢
    have ht10 : tg H8 a0 = 13 := by rw [← e9]; exact ht1
    have hr11 : isA H8 a2 3 := by rw [← e9]; exact hr3
    have hr12 : isA H8 a5 3 := by rw [← e9]; exact hr6
    refine wp_aload_n 0 dX12_comes_206 rfl ?_
    refine wp_aload_n 0 dX12_comes_207 rfl ?_
    refine wp_getI (ci := 12) (j := 31) dX12_comes_208 fi_X12_234r rfl rfl ht10 ?_
    change WP _ _ _ _ _ _ (.int (hI H8 1331 a0 0) :: _) _ _
    refine wp_if_ne (tgt := 218) dX12_comes_211 rfl (fun c => ?_) (fun c => ?_)
    · replace h := h.1 c
      refine wp_aload_n 0 dX12_comes_218 rfl ?_
      refine wp_getI (ci := 12) (j := 31) dX12_comes_219 fi_X12_234r rfl rfl ht10 ?_
      change WP _ _ _ _ _ _ (.int (hI H8 1331 a0 0) :: _) _ _
      refine wp_i2l dX12_comes_222 ?_
      refine wp_aload_n 0 dX12_comes_223 rfl ?_
      refine wp_getI (ci := 12) (j := 29) dX12_comes_224 fi_X12_240r rfl rfl ht10 ?_
      change WP _ _ _ _ _ _ (.int (hI H8 1329 a0 0) :: _) _ _
      refine wp_i2l dX12_comes_227 ?_
      refine wp_lmul dX12_comes_228 ?_
      refine wp_aload_n 0 dX12_comes_229 rfl ?_
      refine wp_getI (ci := 12) (j := 30) dX12_comes_230 fi_X12_237r rfl rfl ht10 ?_
      change WP _ _ _ _ _ _ (.int (hI H8 1330 a0 0) :: _) _ _
      refine wp_i2l dX12_comes_233 ?_
      refine wp_callV (ci := 12) (As := [.long (((hI H8 1331 a0 0).toInt64) * ((hI H8 1329 a0 0).toInt64)), .long ((hI H8 1330 a0 0).toInt64)]) (rest := []) (mc := 0) (ms := 0) dX12_comes_234 lk_X12_157 rfl rfl (by decide) rfl rfl rfl ht10 rfl rfl rfl w_7_37 (Call.weaken h ?_)
      rintro H13 _ ⟨rfl, h⟩
      change WP _ _ _ _ _ _ [] H13 _
      refine wp_aload_n 0 dX12_comes_237 rfl ?_
      obtain ⟨ht14, h⟩ := h
      refine wp_getC (ci := 12) (j := 5) dX12_comes_238 fi_X12_29r rfl rfl ht14 ?_
      change WP _ _ _ _ _ _ (rv (hC H13 1305 a0) :: _) _ _
      refine wp_aload_n 0 dX12_comes_241 rfl ?_
      refine wp_getI (ci := 12) (j := 0) dX12_comes_242 fi_X12_11r rfl rfl ht14 ?_
      change WP _ _ _ _ _ _ (.int (hI H13 1300 a0 0) :: _) _ _
      refine wp_aload_n 0 dX12_comes_245 rfl ?_
      refine wp_getL (ci := 12) (j := 19) dX12_comes_246 fi_X12_143r rfl rfl ht14 ?_
      change WP _ _ _ _ _ _ (.long (hL H13 1319 a0 0) :: _) _ _
      obtain ⟨a15, ha15, h⟩ := h
      obtain ⟨hr16, h⟩ := h
      obtain ⟨hg17, h⟩ := h
      refine wp_lastore dX12_comes_249 ha15 hr16 hg17 ?_
      change WP _ _ _ _ _ _ _ (sL H13 (tg H13 a15) a15 (hI H13 1300 a0 0).toNatClampNeg (hL H13 1319 a0 0)) _
      refine wp_aload_n 0 dX12_comes_250 rfl ?_
      refine wp_getC (ci := 12) (j := 6) dX12_comes_251 fi_X12_32r rfl rfl ht14 ?_
      change WP _ _ _ _ _ _ (rv (hC (sL H13 (tg H13 a15) a15 (hI H13 1300 a0 0).toNatClampNeg (hL H13 1319 a0 0)) 1306 a0) :: _) _ _
      refine wp_aload_n 0 dX12_comes_254 rfl ?_
      refine wp_getI (ci := 12) (j := 0) dX12_comes_255 fi_X12_11r rfl rfl ht14 ?_
      change WP _ _ _ _ _ _ (.int (hI (sL H13 (tg H13 a15) a15 (hI H13 1300 a0 0).toNatClampNeg (hL H13 1319 a0 0)) 1300 a0 0) :: _) _ _
      refine wp_aload_n 0 dX12_comes_258 rfl ?_
      refine wp_getL (ci := 12) (j := 20) dX12_comes_259 fi_X12_147r rfl rfl ht14 ?_
      change WP _ _ _ _ _ _ (.long (hL (sL H13 (tg H13 a15) a15 (hI H13 1300 a0 0).toNatClampNeg (hL H13 1319 a0 0)) 1320 a0 0) :: _) _ _
      obtain ⟨a18, ha18, h⟩ := h
      obtain ⟨hr19, h⟩ := h
      obtain ⟨hg20, h⟩ := h
      refine wp_lastore dX12_comes_262 ha18 hr19 hg20 ?_
      change WP _ _ _ _ _ _ _ (sL (sL H13 (tg H13 a15) a15 (hI H13 1300 a0 0).toNatClampNeg (hL H13 1319 a0 0)) (tg (sL H13 (tg H13 a15) a15 (hI H13 1300 a0 0).toNatClampNeg (hL H13 1319 a0 0)) a18) a18 (hI (sL H13 (tg H13 a15) a15 (hI H13 1300 a0 0).toNatClampNeg (hL H13 1319 a0 0)) 1300 a0 0).toNatClampNeg (hL (sL H13 (tg H13 a15) a15 (hI H13 1300 a0 0).toNatClampNeg (hL H13 1319 a0 0)) 1320 a0 0)) _
      replace h := h _ rfl
      generalize e22 : (sL (sL H13 (tg H13 a15) a15 (hI H13 1300 a0 0).toNatClampNeg (hL H13 1319 a0 0)) (tg (sL H13 (tg H13 a15) a15 (hI H13 1300 a0 0).toNatClampNeg (hL H13 1319 a0 0)) a18) a18 (hI (sL H13 (tg H13 a15) a15 (hI H13 1300 a0 0).toNatClampNeg (hL H13 1319 a0 0)) 1300 a0 0).toNatClampNeg (hL (sL H13 (tg H13 a15) a15 (hI H13 1300 a0 0).toNatClampNeg (hL H13 1319 a0 0)) 1320 a0 0)) = H21 at h ⊢
      have ht23 : tg H21 a0 = 13 := by rw [← e22]; exact ht14
      have hr24 : isA H21 a15 3 := by rw [← e22]; exact hr16
      have hr25 : isA H21 a18 3 := by rw [← e22]; exact hr19
      refine wp_aload_n 0 dX12_comes_263 rfl ?_
      refine wp_dup dX12_comes_264 (rv_cat _) ?_
      refine wp_getI (ci := 12) (j := 0) dX12_comes_265 fi_X12_11r rfl rfl ht23 ?_
      change WP _ _ _ _ _ _ (.int (hI H21 1300 a0 0) :: _) _ _
      refine wp_iconst (v := (1 : Int32)) dX12_comes_268 (by decide) ?_
      refine wp_iadd dX12_comes_269 ?_
      refine wp_putI (ci := 12) (j := 0) dX12_comes_270 fi_X12_11 rfl (fun z => by cases z) rfl ht23 rfl rfl ?_
      change WP _ _ _ _ _ _ _ (sI H21 1300 a0 0 ((hI H21 1300 a0 0) + (1 : Int32))) _
      refine wp_aload_n 0 dX12_comes_273 rfl ?_
      refine wp_getI (ci := 12) (j := 0) dX12_comes_274 fi_X12_11r rfl rfl ht23 ?_
      change WP _ _ _ _ _ _ (.int (hI (sI H21 1300 a0 0 ((hI H21 1300 a0 0) + (1 : Int32))) 1300 a0 0) :: _) _ _
      refine wp_iconst (v := (1 : Int32)) dX12_comes_277 (by decide) ?_
      refine wp_isub dX12_comes_278 ?_
      exact wp_ireturn (ty := .int) dX12_comes_279 rfl rfl ⟨_, rfl, h⟩
    · replace h := h.2 c
      refine wp_lconst (v := (0 : Int64)) dX12_comes_214 (by decide) ?_
      refine wp_goto (tgt := 229) dX12_comes_215 rfl ?_
      refine wp_aload_n 0 dX12_comes_229 rfl ?_
      refine wp_getI (ci := 12) (j := 30) dX12_comes_230 fi_X12_237r rfl rfl ht10 ?_
      change WP _ _ _ _ _ _ (.int (hI H8 1330 a0 0) :: _) _ _
      refine wp_i2l dX12_comes_233 ?_
      refine wp_callV (ci := 12) (As := [.long (0 : Int64), .long ((hI H8 1330 a0 0).toInt64)]) (rest := []) (mc := 0) (ms := 0) dX12_comes_234 lk_X12_157 rfl rfl (by decide) rfl rfl rfl ht10 rfl rfl rfl w_7_37 (Call.weaken h ?_)
      rintro H26 _ ⟨rfl, h⟩
      change WP _ _ _ _ _ _ [] H26 _
      refine wp_aload_n 0 dX12_comes_237 rfl ?_
      obtain ⟨ht27, h⟩ := h
      refine wp_getC (ci := 12) (j := 5) dX12_comes_238 fi_X12_29r rfl rfl ht27 ?_
      change WP _ _ _ _ _ _ (rv (hC H26 1305 a0) :: _) _ _
      refine wp_aload_n 0 dX12_comes_241 rfl ?_
      refine wp_getI (ci := 12) (j := 0) dX12_comes_242 fi_X12_11r rfl rfl ht27 ?_
      change WP _ _ _ _ _ _ (.int (hI H26 1300 a0 0) :: _) _ _
      refine wp_aload_n 0 dX12_comes_245 rfl ?_
      refine wp_getL (ci := 12) (j := 19) dX12_comes_246 fi_X12_143r rfl rfl ht27 ?_
      change WP _ _ _ _ _ _ (.long (hL H26 1319 a0 0) :: _) _ _
      obtain ⟨a28, ha28, h⟩ := h
      obtain ⟨hr29, h⟩ := h
      obtain ⟨hg30, h⟩ := h
      refine wp_lastore dX12_comes_249 ha28 hr29 hg30 ?_
      change WP _ _ _ _ _ _ _ (sL H26 (tg H26 a28) a28 (hI H26 1300 a0 0).toNatClampNeg (hL H26 1319 a0 0)) _
      refine wp_aload_n 0 dX12_comes_250 rfl ?_
      refine wp_getC (ci := 12) (j := 6) dX12_comes_251 fi_X12_32r rfl rfl ht27 ?_
      change WP _ _ _ _ _ _ (rv (hC (sL H26 (tg H26 a28) a28 (hI H26 1300 a0 0).toNatClampNeg (hL H26 1319 a0 0)) 1306 a0) :: _) _ _
      refine wp_aload_n 0 dX12_comes_254 rfl ?_
      refine wp_getI (ci := 12) (j := 0) dX12_comes_255 fi_X12_11r rfl rfl ht27 ?_
      change WP _ _ _ _ _ _ (.int (hI (sL H26 (tg H26 a28) a28 (hI H26 1300 a0 0).toNatClampNeg (hL H26 1319 a0 0)) 1300 a0 0) :: _) _ _
      refine wp_aload_n 0 dX12_comes_258 rfl ?_
      refine wp_getL (ci := 12) (j := 20) dX12_comes_259 fi_X12_147r rfl rfl ht27 ?_
      change WP _ _ _ _ _ _ (.long (hL (sL H26 (tg H26 a28) a28 (hI H26 1300 a0 0).toNatClampNeg (hL H26 1319 a0 0)) 1320 a0 0) :: _) _ _
      obtain ⟨a31, ha31, h⟩ := h
      obtain ⟨hr32, h⟩ := h
      obtain ⟨hg33, h⟩ := h
      refine wp_lastore dX12_comes_262 ha31 hr32 hg33 ?_
      change WP _ _ _ _ _ _ _ (sL (sL H26 (tg H26 a28) a28 (hI H26 1300 a0 0).toNatClampNeg (hL H26 1319 a0 0)) (tg (sL H26 (tg H26 a28) a28 (hI H26 1300 a0 0).toNatClampNeg (hL H26 1319 a0 0)) a31) a31 (hI (sL H26 (tg H26 a28) a28 (hI H26 1300 a0 0).toNatClampNeg (hL H26 1319 a0 0)) 1300 a0 0).toNatClampNeg (hL (sL H26 (tg H26 a28) a28 (hI H26 1300 a0 0).toNatClampNeg (hL H26 1319 a0 0)) 1320 a0 0)) _
      replace h := h _ rfl
      generalize e35 : (sL (sL H26 (tg H26 a28) a28 (hI H26 1300 a0 0).toNatClampNeg (hL H26 1319 a0 0)) (tg (sL H26 (tg H26 a28) a28 (hI H26 1300 a0 0).toNatClampNeg (hL H26 1319 a0 0)) a31) a31 (hI (sL H26 (tg H26 a28) a28 (hI H26 1300 a0 0).toNatClampNeg (hL H26 1319 a0 0)) 1300 a0 0).toNatClampNeg (hL (sL H26 (tg H26 a28) a28 (hI H26 1300 a0 0).toNatClampNeg (hL H26 1319 a0 0)) 1320 a0 0)) = H34 at h ⊢
      have ht36 : tg H34 a0 = 13 := by rw [← e35]; exact ht27
      have hr37 : isA H34 a28 3 := by rw [← e35]; exact hr29
      have hr38 : isA H34 a31 3 := by rw [← e35]; exact hr32
      refine wp_aload_n 0 dX12_comes_263 rfl ?_
      refine wp_dup dX12_comes_264 (rv_cat _) ?_
      refine wp_getI (ci := 12) (j := 0) dX12_comes_265 fi_X12_11r rfl rfl ht36 ?_
      change WP _ _ _ _ _ _ (.int (hI H34 1300 a0 0) :: _) _ _
      refine wp_iconst (v := (1 : Int32)) dX12_comes_268 (by decide) ?_
      refine wp_iadd dX12_comes_269 ?_
      refine wp_putI (ci := 12) (j := 0) dX12_comes_270 fi_X12_11 rfl (fun z => by cases z) rfl ht36 rfl rfl ?_
      change WP _ _ _ _ _ _ _ (sI H34 1300 a0 0 ((hI H34 1300 a0 0) + (1 : Int32))) _
      refine wp_aload_n 0 dX12_comes_273 rfl ?_
      refine wp_getI (ci := 12) (j := 0) dX12_comes_274 fi_X12_11r rfl rfl ht36 ?_
      change WP _ _ _ _ _ _ (.int (hI (sI H34 1300 a0 0 ((hI H34 1300 a0 0) + (1 : Int32))) 1300 a0 0) :: _) _ _
      refine wp_iconst (v := (1 : Int32)) dX12_comes_277 (by decide) ?_
      refine wp_isub dX12_comes_278 ?_
      exact wp_ireturn (ty := .int) dX12_comes_279 rfl rfl ⟨_, rfl, h⟩
  · replace h := h.2 c
    refine wp_aload_n 0 dX12_comes_146 rfl ?_
    obtain ⟨ht39, h⟩ := h
    refine wp_getC (ci := 12) (j := 1) dX12_comes_147 fi_X12_15r rfl rfl ht39 ?_
    change WP _ _ _ _ _ _ (rv (hC H 1301 a0) :: _) _ _
    refine wp_iconst (v := (4 : Int32)) dX12_comes_150 (by decide) ?_
    refine wp_aload_n 0 dX12_comes_151 rfl ?_
    refine wp_getI (ci := 12) (j := 0) dX12_comes_152 fi_X12_11r rfl rfl ht39 ?_
    change WP _ _ _ _ _ _ (.int (hI H 1300 a0 0) :: _) _ _
    refine wp_imul dX12_comes_155 ?_
    refine wp_iload_n 2 dX12_comes_156 rfl ?_
    refine wp_iadd dX12_comes_157 ?_
    refine wp_iload_n 2 dX12_comes_158 rfl ?_
    refine wp_iload_n 1 dX12_comes_159 rfl ?_
    refine wp_icmp_ge (tgt := 172) dX12_comes_160 rfl (fun c => ?_) (fun c => ?_)
    · replace h := h.1 c
      refine wp_iconst (v := (0 : Int32)) dX12_comes_172 (by decide) ?_
      obtain ⟨a40, ha40, h⟩ := h
      obtain ⟨hr41, h⟩ := h
      obtain ⟨hg42, h⟩ := h
      refine wp_iastore dX12_comes_173 ha40 hr41 hg42 ?_
      change WP _ _ _ _ _ _ _ (sI H (tg H a40) a40 (((4 : Int32) * (hI H 1300 a0 0)) + x2).toNatClampNeg (0 : Int32)) _
      refine wp_iinc (v := (x2 + 1)) (ls' := [(2, .int (x2 + 1)), (0, rv (some a0)), (1, .int x1)]) 2 dX12_comes_174 rfl rfl (by decide) rfl ?_
      refine wp_goto (tgt := 141) dX12_comes_177 rfl ?_
      refine wp_sub (ls' := [(0, rv (some a0)), (1, .int x1), (2, .int (x2 + 1))]) [1, 2, 0] rfl ?_
      exact h
    · replace h := h.2 c
      refine wp_aload_n 0 dX12_comes_163 rfl ?_
      refine wp_getC (ci := 12) (j := 22) dX12_comes_164 fi_X12_59r rfl rfl ht39 ?_
      change WP _ _ _ _ _ _ (rv (hC H 1322 a0) :: _) _ _
      refine wp_iload_n 2 dX12_comes_167 rfl ?_
      obtain ⟨a43, ha43, h⟩ := h
      obtain ⟨hr44, h⟩ := h
      obtain ⟨hg45, h⟩ := h
      refine wp_iaload dX12_comes_168 ha43 hr44 hg45 ?_
      refine wp_goto (tgt := 173) dX12_comes_169 rfl ?_
      obtain ⟨a46, ha46, h⟩ := h
      obtain ⟨hr47, h⟩ := h
      obtain ⟨hg48, h⟩ := h
      refine wp_iastore dX12_comes_173 ha46 hr47 hg48 ?_
      change WP _ _ _ _ _ _ _ (sI H (tg H a46) a46 (((4 : Int32) * (hI H 1300 a0 0)) + x2).toNatClampNeg (hI H (tg H a43) a43 x2.toNatClampNeg)) _
      refine wp_iinc (v := (x2 + 1)) (ls' := [(2, .int (x2 + 1)), (0, rv (some a0)), (1, .int x1)]) 2 dX12_comes_174 rfl rfl (by decide) rfl ?_
      refine wp_goto (tgt := 141) dX12_comes_177 rfl ?_
      refine wp_sub (ls' := [(0, rv (some a0)), (1, .int x1), (2, .int (x2 + 1))]) [1, 2, 0] rfl ?_
      exact h
theorem C_X12_comes {d : Nat} {q : HP → Int32 → Prop} {a0 : Nat} {x1 : Int32} {H : HP} (h : wb_X12_comes_0 d q a0 x1 H) : CI (d + 1) 0 0 mX12_comes [rv (some a0), .int x1] H q := by
  refine call_of (by decide +kernel) (by simp [lg_sl, rv_cat, vc_int, vc_long, vc_float, vc_double]) ?_
  have e : lv_args 0 [rv (some a0), .int x1] = [(0, rv (some a0)), (1, .int x1)] := by simp [lv_args, rv_cat, vc_int, vc_long, vc_float, vc_double]
  rw [e]
  exact T_X12_comes_0 h
/-- UnitProverModel.common(JJ)J: the loop at 12 -/
def L_X12_common_12 (d : Nat) (q : HP → Int64 → Prop) (x4 : Int64) (x6 : Int64) (H : HP) : Prop := WP (d + 1) mX12_common 0 0 12 [(4, .long x4), (6, .long x6)] [] H (qJ q)
def wb_X12_common_0 (d : Nat) (q : HP → Int64 → Prop) (x0 : Int64) (x2 : Int64) (H : HP) : Prop :=
  CJ d 0 0 mJ9_abs_067f4 [.long x0] H (fun H1 r2 => CJ d 0 0 mJ9_abs_067f4 [.long x2] H1 (fun H3 r4 => L_X12_common_12 d q r2 r4 H3))
set_option maxRecDepth 40000 in
set_option maxHeartbeats 4000000 in
theorem T_X12_common_0 {d : Nat} {q : HP → Int64 → Prop} {x0 : Int64} {x2 : Int64} {H : HP} (h : wb_X12_common_0 d q x0 x2 H) : WP (d + 1) mX12_common 0 0 0 [(0, .long x0), (2, .long x2)] [] H (qJ q) := by
  unfold wb_X12_common_0 at h
  refine wp_lload_n 0 dX12_common_0 rfl ?_
  refine wp_callS (As := [.long x0]) (rest := []) (mc := 0) (ms := 0) dX12_common_1 lk_X12_127 rfl rfl (by decide) rfl rfl rfl (Call.weaken h ?_)
  rintro H1 _ ⟨r2, rfl, h⟩
  change WP _ _ _ _ _ _ [.long r2] H1 _
  refine wp_lstore (ls' := [(4, .long r2), (0, .long x0), (2, .long x2)]) dX12_common_4 (by decide) rfl ?_
  refine wp_lload_n 2 dX12_common_6 rfl ?_
  refine wp_callS (As := [.long x2]) (rest := []) (mc := 0) (ms := 0) dX12_common_7 lk_X12_127 rfl rfl (by decide) rfl rfl rfl (Call.weaken h ?_)
  rintro H3 _ ⟨r4, rfl, h⟩
  change WP _ _ _ _ _ _ [.long r4] H3 _
  refine wp_lstore (ls' := [(6, .long r4), (4, .long r2), (0, .long x0), (2, .long x2)]) dX12_common_10 (by decide) rfl ?_
  refine wp_sub (ls' := [(4, .long r2), (6, .long r4)]) [1, 0] rfl ?_
  exact h
def wb_X12_common_12 (d : Nat) (q : HP → Int64 → Prop) (x4 : Int64) (x6 : Int64) (H : HP) : Prop :=
  (x6 = (0 : Int64) → q H x4) ∧ (¬ (x6 = (0 : Int64)) → ¬ x6 = 0 ∧ (L_X12_common_12 d q x6 (x4 - x4 / x6 * x6) H))
set_option maxRecDepth 40000 in
set_option maxHeartbeats 4000000 in
theorem T_X12_common_12 {d : Nat} {q : HP → Int64 → Prop} {x4 : Int64} {x6 : Int64} {H : HP} (h : wb_X12_common_12 d q x4 x6 H) : L_X12_common_12 d q x4 x6 H := by
  unfold wb_X12_common_12 at h
  unfold L_X12_common_12
  refine wp_lload 1 dX12_common_12 rfl ?_
  refine wp_lconst (v := (0 : Int64)) dX12_common_14 (by decide) ?_
  refine wp_lcmp dX12_common_15 ?_
  refine wp_if_eq (tgt := 37) dX12_common_16 rfl (fun c => ?_) (fun c => ?_)
  · replace h := h.1 (lgc_eq.mp c)
    refine wp_lload 0 dX12_common_37 rfl ?_
    exact wp_lreturn dX12_common_39 rfl ⟨_, rfl, h⟩
  · replace h := h.2 (fun z => c (lgc_eq.mpr z))
    refine wp_lload 0 dX12_common_19 rfl ?_
    refine wp_lload 1 dX12_common_21 rfl ?_
    obtain ⟨hg1, h⟩ := h
    refine wp_lrem dX12_common_23 hg1 ?_
    refine wp_lstore (ls' := [(8, .long (x4 - x4 / x6 * x6)), (4, .long x4), (6, .long x6)]) dX12_common_24 (by decide) rfl ?_
    refine wp_lload 2 dX12_common_26 rfl ?_
    refine wp_lstore (ls' := [(4, .long x6), (8, .long (x4 - x4 / x6 * x6)), (6, .long x6)]) dX12_common_28 (by decide) rfl ?_
    refine wp_lload 1 dX12_common_30 rfl ?_
    refine wp_lstore (ls' := [(6, .long (x4 - x4 / x6 * x6)), (4, .long x6), (8, .long (x4 - x4 / x6 * x6))]) dX12_common_32 (by decide) rfl ?_
    refine wp_goto (tgt := 12) dX12_common_34 rfl ?_
    refine wp_sub (ls' := [(4, .long x6), (6, .long (x4 - x4 / x6 * x6))]) [1, 0] rfl ?_
    exact h
theorem C_X12_common {d : Nat} {q : HP → Int64 → Prop} {x0 : Int64} {x2 : Int64} {H : HP} (h : wb_X12_common_0 d q x0 x2 H) : CJ (d + 1) 0 0 mX12_common [.long x0, .long x2] H q := by
  refine call_of (by decide +kernel) (by simp [lg_sl, rv_cat, vc_int, vc_long, vc_float, vc_double]) ?_
  have e : lv_args 0 [.long x0, .long x2] = [(0, .long x0), (2, .long x2)] := by simp [lv_args, rv_cat, vc_int, vc_long, vc_float, vc_double]
  rw [e]
  exact T_X12_common_0 h
/-- UnitProverModel.copies([I[I)V: the loop at 2 -/
def L_X12_copies_2 (d : Nat) (q : HP → Prop) (o0 : Option Nat) (o1 : Option Nat) (x2 : Int32) (H : HP) : Prop := WP (d + 1) mX12_copies 0 0 2 [(0, rv o0), (1, rv o1), (2, .int x2)] [] H (qV q)
def wb_X12_copies_0 (d : Nat) (q : HP → Prop) (o0 : Option Nat) (o1 : Option Nat) (H : HP) : Prop :=
  L_X12_copies_2 d q o0 o1 (0 : Int32) H
set_option maxRecDepth 40000 in
set_option maxHeartbeats 4000000 in
theorem T_X12_copies_0 {d : Nat} {q : HP → Prop} {o0 : Option Nat} {o1 : Option Nat} {H : HP} (h : wb_X12_copies_0 d q o0 o1 H) : WP (d + 1) mX12_copies 0 0 0 [(0, rv o0), (1, rv o1)] [] H (qV q) := by
  unfold wb_X12_copies_0 at h
  refine wp_iconst (v := (0 : Int32)) dX12_copies_0 (by decide) ?_
  refine wp_istore_n (ls' := [(2, .int (0 : Int32)), (0, rv o0), (1, rv o1)]) dX12_copies_1 (by decide) (by change st1 _ 2 _ = _; simp [st1, rv_cat, vc_int, vc_long, vc_float, vc_double]) ?_
  refine wp_sub (ls' := [(0, rv o0), (1, rv o1), (2, .int (0 : Int32))]) [1, 2, 0] rfl ?_
  exact h
def wb_X12_copies_2 (d : Nat) (q : HP → Prop) (o0 : Option Nat) (o1 : Option Nat) (x2 : Int32) (H : HP) : Prop :=
  ∃ a1, o1 = some a1 ∧ (4096 ≤ tg H a1 ∧ (((Int32.ofNat (ln H a1)) ≤ x2 → q H) ∧ (¬ ((Int32.ofNat (ln H a1)) ≤ x2) → ∃ a3, o0 = some a3 ∧ (isA H a3 0 ∧ (vp_in x2 (ln H a3) ∧ (isA H a1 0 ∧ (vp_in x2 (ln H a1) ∧ (L_X12_copies_2 d q o0 o1 (x2 + 1) (sI H (tg H a1) a1 x2.toNatClampNeg (hI H (tg H a3) a3 x2.toNatClampNeg))))))))))
set_option maxRecDepth 40000 in
set_option maxHeartbeats 4000000 in
theorem T_X12_copies_2 {d : Nat} {q : HP → Prop} {o0 : Option Nat} {o1 : Option Nat} {x2 : Int32} {H : HP} (h : wb_X12_copies_2 d q o0 o1 x2 H) : L_X12_copies_2 d q o0 o1 x2 H := by
  unfold wb_X12_copies_2 at h
  unfold L_X12_copies_2
  refine wp_iload_n 2 dX12_copies_2 rfl ?_
  refine wp_aload_n 1 dX12_copies_3 rfl ?_
  obtain ⟨a1, ha1, h⟩ := h
  obtain ⟨hg2, h⟩ := h
  refine wp_alen dX12_copies_4 ha1 hg2 ?_
  refine wp_icmp_ge (tgt := 20) dX12_copies_5 rfl (fun c => ?_) (fun c => ?_)
  · replace h := h.1 c
    exact wp_return dX12_copies_20 rfl ⟨rfl, h⟩
  · replace h := h.2 c
    refine wp_aload_n 1 dX12_copies_8 rfl ?_
    refine wp_iload_n 2 dX12_copies_9 rfl ?_
    refine wp_aload_n 0 dX12_copies_10 rfl ?_
    refine wp_iload_n 2 dX12_copies_11 rfl ?_
    obtain ⟨a3, ha3, h⟩ := h
    obtain ⟨hr4, h⟩ := h
    obtain ⟨hg5, h⟩ := h
    refine wp_iaload dX12_copies_12 ha3 hr4 hg5 ?_
    obtain ⟨hr6, h⟩ := h
    obtain ⟨hg7, h⟩ := h
    refine wp_iastore dX12_copies_13 ha1 hr6 hg7 ?_
    change WP _ _ _ _ _ _ _ (sI H (tg H a1) a1 x2.toNatClampNeg (hI H (tg H a3) a3 x2.toNatClampNeg)) _
    refine wp_iinc (v := (x2 + 1)) (ls' := [(2, .int (x2 + 1)), (0, rv o0), (1, rv o1)]) 2 dX12_copies_14 rfl rfl (by decide) (by simp [st1, rv_cat, vc_int, vc_long, vc_float, vc_double]) ?_
    refine wp_goto (tgt := 2) dX12_copies_17 rfl ?_
    refine wp_sub (ls' := [(0, rv o0), (1, rv o1), (2, .int (x2 + 1))]) [1, 2, 0] rfl ?_
    exact h
theorem C_X12_copies {d : Nat} {q : HP → Prop} {o0 : Option Nat} {o1 : Option Nat} {H : HP} (h : wb_X12_copies_0 d q o0 o1 H) : CV (d + 1) 0 0 mX12_copies [rv o0, rv o1] H q := by
  refine call_of (by decide +kernel) (by simp [lg_sl, rv_cat, vc_int, vc_long, vc_float, vc_double]) ?_
  have e : lv_args 0 [rv o0, rv o1] = [(0, rv o0), (1, rv o1)] := by simp [lv_args, rv_cat, vc_int, vc_long, vc_float, vc_double]
  rw [e]
  exact T_X12_copies_0 h
/-- UnitProverModel.copiesLong([J[J)V: the loop at 2 -/
def L_X12_copiesLong_2 (d : Nat) (q : HP → Prop) (o0 : Option Nat) (o1 : Option Nat) (x2 : Int32) (H : HP) : Prop := WP (d + 1) mX12_copiesLong 0 0 2 [(0, rv o0), (1, rv o1), (2, .int x2)] [] H (qV q)
def wb_X12_copiesLong_0 (d : Nat) (q : HP → Prop) (o0 : Option Nat) (o1 : Option Nat) (H : HP) : Prop :=
  L_X12_copiesLong_2 d q o0 o1 (0 : Int32) H
set_option maxRecDepth 40000 in
set_option maxHeartbeats 4000000 in
theorem T_X12_copiesLong_0 {d : Nat} {q : HP → Prop} {o0 : Option Nat} {o1 : Option Nat} {H : HP} (h : wb_X12_copiesLong_0 d q o0 o1 H) : WP (d + 1) mX12_copiesLong 0 0 0 [(0, rv o0), (1, rv o1)] [] H (qV q) := by
  unfold wb_X12_copiesLong_0 at h
  refine wp_iconst (v := (0 : Int32)) dX12_copiesLong_0 (by decide) ?_
  refine wp_istore_n (ls' := [(2, .int (0 : Int32)), (0, rv o0), (1, rv o1)]) dX12_copiesLong_1 (by decide) (by change st1 _ 2 _ = _; simp [st1, rv_cat, vc_int, vc_long, vc_float, vc_double]) ?_
  refine wp_sub (ls' := [(0, rv o0), (1, rv o1), (2, .int (0 : Int32))]) [1, 2, 0] rfl ?_
  exact h
def wb_X12_copiesLong_2 (d : Nat) (q : HP → Prop) (o0 : Option Nat) (o1 : Option Nat) (x2 : Int32) (H : HP) : Prop :=
  ∃ a1, o1 = some a1 ∧ (4096 ≤ tg H a1 ∧ (((Int32.ofNat (ln H a1)) ≤ x2 → q H) ∧ (¬ ((Int32.ofNat (ln H a1)) ≤ x2) → ∃ a3, o0 = some a3 ∧ (isA H a3 3 ∧ (vp_in x2 (ln H a3) ∧ (isA H a1 3 ∧ (vp_in x2 (ln H a1) ∧ (L_X12_copiesLong_2 d q o0 o1 (x2 + 1) (sL H (tg H a1) a1 x2.toNatClampNeg (hL H (tg H a3) a3 x2.toNatClampNeg))))))))))
set_option maxRecDepth 40000 in
set_option maxHeartbeats 4000000 in
theorem T_X12_copiesLong_2 {d : Nat} {q : HP → Prop} {o0 : Option Nat} {o1 : Option Nat} {x2 : Int32} {H : HP} (h : wb_X12_copiesLong_2 d q o0 o1 x2 H) : L_X12_copiesLong_2 d q o0 o1 x2 H := by
  unfold wb_X12_copiesLong_2 at h
  unfold L_X12_copiesLong_2
  refine wp_iload_n 2 dX12_copiesLong_2 rfl ?_
  refine wp_aload_n 1 dX12_copiesLong_3 rfl ?_
  obtain ⟨a1, ha1, h⟩ := h
  obtain ⟨hg2, h⟩ := h
  refine wp_alen dX12_copiesLong_4 ha1 hg2 ?_
  refine wp_icmp_ge (tgt := 20) dX12_copiesLong_5 rfl (fun c => ?_) (fun c => ?_)
  · replace h := h.1 c
    exact wp_return dX12_copiesLong_20 rfl ⟨rfl, h⟩
  · replace h := h.2 c
    refine wp_aload_n 1 dX12_copiesLong_8 rfl ?_
    refine wp_iload_n 2 dX12_copiesLong_9 rfl ?_
    refine wp_aload_n 0 dX12_copiesLong_10 rfl ?_
    refine wp_iload_n 2 dX12_copiesLong_11 rfl ?_
    obtain ⟨a3, ha3, h⟩ := h
    obtain ⟨hr4, h⟩ := h
    obtain ⟨hg5, h⟩ := h
    refine wp_laload dX12_copiesLong_12 ha3 hr4 hg5 ?_
    obtain ⟨hr6, h⟩ := h
    obtain ⟨hg7, h⟩ := h
    refine wp_lastore dX12_copiesLong_13 ha1 hr6 hg7 ?_
    change WP _ _ _ _ _ _ _ (sL H (tg H a1) a1 x2.toNatClampNeg (hL H (tg H a3) a3 x2.toNatClampNeg)) _
    refine wp_iinc (v := (x2 + 1)) (ls' := [(2, .int (x2 + 1)), (0, rv o0), (1, rv o1)]) 2 dX12_copiesLong_14 rfl rfl (by decide) (by simp [st1, rv_cat, vc_int, vc_long, vc_float, vc_double]) ?_
    refine wp_goto (tgt := 2) dX12_copiesLong_17 rfl ?_
    refine wp_sub (ls' := [(0, rv o0), (1, rv o1), (2, .int (x2 + 1))]) [1, 2, 0] rfl ?_
    exact h
theorem C_X12_copiesLong {d : Nat} {q : HP → Prop} {o0 : Option Nat} {o1 : Option Nat} {H : HP} (h : wb_X12_copiesLong_0 d q o0 o1 H) : CV (d + 1) 0 0 mX12_copiesLong [rv o0, rv o1] H q := by
  refine call_of (by decide +kernel) (by simp [lg_sl, rv_cat, vc_int, vc_long, vc_float, vc_double]) ?_
  have e : lv_args 0 [rv o0, rv o1] = [(0, rv o0), (1, rv o1)] := by simp [lv_args, rv_cat, vc_int, vc_long, vc_float, vc_double]
  rw [e]
  exact T_X12_copiesLong_0 h
/-- UnitProverModel.count(I)I: the loop at 73 -/
def L_X12_count_73 (d : Nat) (q : HP → Int32 → Prop) (a0 : Nat) (x2 : Int32) (x3 : Int32) (H : HP) : Prop := WP (d + 1) mX12_count 0 0 73 [(0, rv (some a0)), (2, .int x2), (3, .int x3)] [] H (qI q)
/-- UnitProverModel.count(I)I: the loop at 105 -/
def L_X12_count_105 (d : Nat) (q : HP → Int32 → Prop) (a0 : Nat) (x2 : Int32) (x3 : Int32) (H : HP) : Prop := WP (d + 1) mX12_count 0 0 105 [(0, rv (some a0)), (2, .int x2), (3, .int x3)] [] H (qI q)
def wb_X12_count_0 (d : Nat) (q : HP → Int32 → Prop) (a0 : Nat) (x1 : Int32) (H : HP) : Prop :=
  ((x1.toInt < 0 ∨ 5 < x1.toInt) → q H (-2 : Int32)) ∧ (x1 = 0 → tg H a0 = 13 ∧ (q H (hI H 1300 a0 0))) ∧ (x1 = 1 → tg H a0 = 13 ∧ (q H (hI H 1307 a0 0))) ∧ (x1 = 2 → tg H a0 = 13 ∧ (q H (hI H 1323 a0 0))) ∧ (x1 = 3 → tg H a0 = 13 ∧ (((hI H 1339 a0 0) = 0 → q H (0 : Int32)) ∧ (¬ ((hI H 1339 a0 0) = 0) → q H (hI H 1341 a0 0)))) ∧ (x1 = 4 → L_X12_count_73 d q a0 (0 : Int32) (0 : Int32) H) ∧ (x1 = 5 → L_X12_count_105 d q a0 (0 : Int32) (0 : Int32) H)
set_option maxRecDepth 40000 in
set_option maxHeartbeats 4000000 in
theorem T_X12_count_0 {d : Nat} {q : HP → Int32 → Prop} {a0 : Nat} {x1 : Int32} {H : HP} (h : wb_X12_count_0 d q a0 x1 H) : WP (d + 1) mX12_count 0 0 0 [(0, rv (some a0)), (1, .int x1)] [] H (qI q) := by
  unfold wb_X12_count_0 at h
  refine wp_iconst (v := (0 : Int32)) dX12_count_0 (by decide) ?_
  refine wp_istore_n (ls' := [(2, .int (0 : Int32)), (0, rv (some a0)), (1, .int x1)]) dX12_count_1 (by decide) rfl ?_
  refine wp_iload_n 2 dX12_count_2 rfl ?_
  by_cases c : x1.toInt < 0 ∨ 5 < x1.toInt
  · replace h := h.1 c
    refine wp_tableOut (tgt := 136) dX12_count_3 c rfl ?_
    refine wp_bipush (v := (-2 : Int32)) dX12_count_136 (by decide) ?_
    exact wp_ireturn (ty := .int) dX12_count_138 rfl rfl ⟨_, rfl, h⟩
  · replace h := h.2
    have e : x1.toInt = 0 ∨ x1.toInt = 1 ∨ x1.toInt = 2 ∨ x1.toInt = 3 ∨ x1.toInt = 4 ∨ x1.toInt = 5 := by omega
    rcases e with e | e | e | e | e | e
    · replace h := h.1 (Int32.toInt_inj.mp e)
      refine wp_tableIn (tgt := 40) dX12_count_3 (by omega) (by omega) (by rw [e]; rfl) rfl ?_
      refine wp_aload_n 1 dX12_count_40 rfl ?_
      obtain ⟨ht1, h⟩ := h
      refine wp_getI (ci := 12) (j := 0) dX12_count_41 fi_X12_11r rfl rfl ht1 ?_
      change WP _ _ _ _ _ _ (.int (hI H 1300 a0 0) :: _) _ _
      exact wp_ireturn (ty := .int) dX12_count_44 rfl rfl ⟨_, rfl, h⟩
    · replace h := h.2.1 (Int32.toInt_inj.mp e)
      refine wp_tableIn (tgt := 45) dX12_count_3 (by omega) (by omega) (by rw [e]; rfl) rfl ?_
      refine wp_aload_n 1 dX12_count_45 rfl ?_
      obtain ⟨ht2, h⟩ := h
      refine wp_getI (ci := 12) (j := 7) dX12_count_46 fi_X12_275r rfl rfl ht2 ?_
      change WP _ _ _ _ _ _ (.int (hI H 1307 a0 0) :: _) _ _
      exact wp_ireturn (ty := .int) dX12_count_49 rfl rfl ⟨_, rfl, h⟩
    · replace h := h.2.2.1 (Int32.toInt_inj.mp e)
      refine wp_tableIn (tgt := 50) dX12_count_3 (by omega) (by omega) (by rw [e]; rfl) rfl ?_
      refine wp_aload_n 1 dX12_count_50 rfl ?_
      obtain ⟨ht3, h⟩ := h
      refine wp_getI (ci := 12) (j := 23) dX12_count_51 fi_X12_171r rfl rfl ht3 ?_
      change WP _ _ _ _ _ _ (.int (hI H 1323 a0 0) :: _) _ _
      exact wp_ireturn (ty := .int) dX12_count_54 rfl rfl ⟨_, rfl, h⟩
    · replace h := h.2.2.2.1 (Int32.toInt_inj.mp e)
      refine wp_tableIn (tgt := 55) dX12_count_3 (by omega) (by omega) (by rw [e]; rfl) rfl ?_
      refine wp_aload_n 1 dX12_count_55 rfl ?_
      obtain ⟨ht4, h⟩ := h
      refine wp_getI (ci := 12) (j := 39) dX12_count_56 fi_X12_405r rfl rfl ht4 ?_
      change WP _ _ _ _ _ _ (.int (hI H 1339 a0 0) :: _) _ _
      refine wp_if_eq (tgt := 69) dX12_count_59 rfl (fun c => ?_) (fun c => ?_)
      · replace h := h.1 c
        refine wp_iconst (v := (0 : Int32)) dX12_count_69 (by decide) ?_
        exact wp_ireturn (ty := .int) dX12_count_70 rfl rfl ⟨_, rfl, h⟩
      · replace h := h.2 c
        refine wp_aload_n 1 dX12_count_62 rfl ?_
        refine wp_getI (ci := 12) (j := 41) dX12_count_63 fi_X12_320r rfl rfl ht4 ?_
        change WP _ _ _ _ _ _ (.int (hI H 1341 a0 0) :: _) _ _
        refine wp_goto (tgt := 70) dX12_count_66 rfl ?_
        exact wp_ireturn (ty := .int) dX12_count_70 rfl rfl ⟨_, rfl, h⟩
    · replace h := h.2.2.2.2.1 (Int32.toInt_inj.mp e)
      refine wp_tableIn (tgt := 71) dX12_count_3 (by omega) (by omega) (by rw [e]; rfl) rfl ?_
      refine wp_iconst (v := (0 : Int32)) dX12_count_71 (by decide) ?_
      refine wp_istore_n (ls' := [(3, .int (0 : Int32)), (2, .int (0 : Int32)), (0, rv (some a0)), (1, .int x1)]) dX12_count_72 (by decide) rfl ?_
      refine wp_sub (ls' := [(0, rv (some a0)), (2, .int (0 : Int32)), (3, .int (0 : Int32))]) [2, 1, 0] rfl ?_
      exact h
    · replace h := h.2.2.2.2.2 (Int32.toInt_inj.mp e)
      refine wp_tableIn (tgt := 103) dX12_count_3 (by omega) (by omega) (by rw [e]; rfl) rfl ?_
      refine wp_iconst (v := (0 : Int32)) dX12_count_103 (by decide) ?_
      refine wp_istore_n (ls' := [(3, .int (0 : Int32)), (2, .int (0 : Int32)), (0, rv (some a0)), (1, .int x1)]) dX12_count_104 (by decide) rfl ?_
      refine wp_sub (ls' := [(0, rv (some a0)), (2, .int (0 : Int32)), (3, .int (0 : Int32))]) [2, 1, 0] rfl ?_
      exact h
def wb_X12_count_73 (d : Nat) (q : HP → Int32 → Prop) (a0 : Nat) (x2 : Int32) (x3 : Int32) (H : HP) : Prop :=
  ((4 : Int32) ≤ x3 → q H x2) ∧ (¬ ((4 : Int32) ≤ x3) → tg H a0 = 13 ∧ (∃ a2, (hC H 1357 a0) = some a2 ∧ (isA H a2 0 ∧ (vp_in x3 (ln H a2) ∧ (((hI H (tg H a2) a2 x3.toNatClampNeg) < 0 → L_X12_count_73 d q a0 (x2 + (0 : Int32)) (x3 + 1) H) ∧ (¬ ((hI H (tg H a2) a2 x3.toNatClampNeg) < 0) → L_X12_count_73 d q a0 (x2 + (1 : Int32)) (x3 + 1) H))))))
set_option maxRecDepth 40000 in
set_option maxHeartbeats 4000000 in
theorem T_X12_count_73 {d : Nat} {q : HP → Int32 → Prop} {a0 : Nat} {x2 : Int32} {x3 : Int32} {H : HP} (h : wb_X12_count_73 d q a0 x2 x3 H) : L_X12_count_73 d q a0 x2 x3 H := by
  unfold wb_X12_count_73 at h
  unfold L_X12_count_73
  refine wp_iload_n 2 dX12_count_73 rfl ?_
  refine wp_iconst (v := (4 : Int32)) dX12_count_74 (by decide) ?_
  refine wp_icmp_ge (tgt := 101) dX12_count_75 rfl (fun c => ?_) (fun c => ?_)
  · replace h := h.1 c
    refine wp_iload_n 1 dX12_count_101 rfl ?_
    exact wp_ireturn (ty := .int) dX12_count_102 rfl rfl ⟨_, rfl, h⟩
  · replace h := h.2 c
    refine wp_iload_n 1 dX12_count_78 rfl ?_
    refine wp_aload_n 0 dX12_count_79 rfl ?_
    obtain ⟨ht1, h⟩ := h
    refine wp_getC (ci := 12) (j := 57) dX12_count_80 fi_X12_107r rfl rfl ht1 ?_
    change WP _ _ _ _ _ _ (rv (hC H 1357 a0) :: _) _ _
    refine wp_iload_n 2 dX12_count_83 rfl ?_
    obtain ⟨a2, ha2, h⟩ := h
    obtain ⟨hr3, h⟩ := h
    obtain ⟨hg4, h⟩ := h
    refine wp_iaload dX12_count_84 ha2 hr3 hg4 ?_
    refine wp_if_lt (tgt := 92) dX12_count_85 rfl (fun c => ?_) (fun c => ?_)
    · replace h := h.1 c
      refine wp_iconst (v := (0 : Int32)) dX12_count_92 (by decide) ?_
      refine wp_iadd dX12_count_93 ?_
      refine wp_istore_n (ls' := [(2, .int (x2 + (0 : Int32))), (0, rv (some a0)), (3, .int x3)]) dX12_count_94 (by decide) rfl ?_
      refine wp_iinc (v := (x3 + 1)) (ls' := [(3, .int (x3 + 1)), (2, .int (x2 + (0 : Int32))), (0, rv (some a0))]) 2 dX12_count_95 rfl rfl (by decide) rfl ?_
      refine wp_goto (tgt := 73) dX12_count_98 rfl ?_
      refine wp_sub (ls' := [(0, rv (some a0)), (2, .int (x2 + (0 : Int32))), (3, .int (x3 + 1))]) [2, 1, 0] rfl ?_
      exact h
    · replace h := h.2 c
      refine wp_iconst (v := (1 : Int32)) dX12_count_88 (by decide) ?_
      refine wp_goto (tgt := 93) dX12_count_89 rfl ?_
      refine wp_iadd dX12_count_93 ?_
      refine wp_istore_n (ls' := [(2, .int (x2 + (1 : Int32))), (0, rv (some a0)), (3, .int x3)]) dX12_count_94 (by decide) rfl ?_
      refine wp_iinc (v := (x3 + 1)) (ls' := [(3, .int (x3 + 1)), (2, .int (x2 + (1 : Int32))), (0, rv (some a0))]) 2 dX12_count_95 rfl rfl (by decide) rfl ?_
      refine wp_goto (tgt := 73) dX12_count_98 rfl ?_
      refine wp_sub (ls' := [(0, rv (some a0)), (2, .int (x2 + (1 : Int32))), (3, .int (x3 + 1))]) [2, 1, 0] rfl ?_
      exact h
def wb_X12_count_105 (d : Nat) (q : HP → Int32 → Prop) (a0 : Nat) (x2 : Int32) (x3 : Int32) (H : HP) : Prop :=
  ((18 : Int32) ≤ x3 → q H x2) ∧ (¬ ((18 : Int32) ≤ x3) → tg H a0 = 13 ∧ (∃ a2, (hC H 1361 a0) = some a2 ∧ (isA H a2 0 ∧ (vp_in x3 (ln H a2) ∧ (((hI H (tg H a2) a2 x3.toNatClampNeg) < 0 → L_X12_count_105 d q a0 (x2 + (0 : Int32)) (x3 + 1) H) ∧ (¬ ((hI H (tg H a2) a2 x3.toNatClampNeg) < 0) → L_X12_count_105 d q a0 (x2 + (1 : Int32)) (x3 + 1) H))))))
set_option maxRecDepth 40000 in
set_option maxHeartbeats 4000000 in
theorem T_X12_count_105 {d : Nat} {q : HP → Int32 → Prop} {a0 : Nat} {x2 : Int32} {x3 : Int32} {H : HP} (h : wb_X12_count_105 d q a0 x2 x3 H) : L_X12_count_105 d q a0 x2 x3 H := by
  unfold wb_X12_count_105 at h
  unfold L_X12_count_105
  refine wp_iload_n 2 dX12_count_105 rfl ?_
  refine wp_bipush (v := (18 : Int32)) dX12_count_106 (by decide) ?_
  refine wp_icmp_ge (tgt := 134) dX12_count_108 rfl (fun c => ?_) (fun c => ?_)
  · replace h := h.1 c
    refine wp_iload_n 1 dX12_count_134 rfl ?_
    exact wp_ireturn (ty := .int) dX12_count_135 rfl rfl ⟨_, rfl, h⟩
  · replace h := h.2 c
    refine wp_iload_n 1 dX12_count_111 rfl ?_
    refine wp_aload_n 0 dX12_count_112 rfl ?_
    obtain ⟨ht1, h⟩ := h
    refine wp_getC (ci := 12) (j := 61) dX12_count_113 fi_X12_121r rfl rfl ht1 ?_
    change WP _ _ _ _ _ _ (rv (hC H 1361 a0) :: _) _ _
    refine wp_iload_n 2 dX12_count_116 rfl ?_
    obtain ⟨a2, ha2, h⟩ := h
    obtain ⟨hr3, h⟩ := h
    obtain ⟨hg4, h⟩ := h
    refine wp_iaload dX12_count_117 ha2 hr3 hg4 ?_
    refine wp_if_lt (tgt := 125) dX12_count_118 rfl (fun c => ?_) (fun c => ?_)
    · replace h := h.1 c
      refine wp_iconst (v := (0 : Int32)) dX12_count_125 (by decide) ?_
      refine wp_iadd dX12_count_126 ?_
      refine wp_istore_n (ls' := [(2, .int (x2 + (0 : Int32))), (0, rv (some a0)), (3, .int x3)]) dX12_count_127 (by decide) rfl ?_
      refine wp_iinc (v := (x3 + 1)) (ls' := [(3, .int (x3 + 1)), (2, .int (x2 + (0 : Int32))), (0, rv (some a0))]) 2 dX12_count_128 rfl rfl (by decide) rfl ?_
      refine wp_goto (tgt := 105) dX12_count_131 rfl ?_
      refine wp_sub (ls' := [(0, rv (some a0)), (2, .int (x2 + (0 : Int32))), (3, .int (x3 + 1))]) [2, 1, 0] rfl ?_
      exact h
    · replace h := h.2 c
      refine wp_iconst (v := (1 : Int32)) dX12_count_121 (by decide) ?_
      refine wp_goto (tgt := 126) dX12_count_122 rfl ?_
      refine wp_iadd dX12_count_126 ?_
      refine wp_istore_n (ls' := [(2, .int (x2 + (1 : Int32))), (0, rv (some a0)), (3, .int x3)]) dX12_count_127 (by decide) rfl ?_
      refine wp_iinc (v := (x3 + 1)) (ls' := [(3, .int (x3 + 1)), (2, .int (x2 + (1 : Int32))), (0, rv (some a0))]) 2 dX12_count_128 rfl rfl (by decide) rfl ?_
      refine wp_goto (tgt := 105) dX12_count_131 rfl ?_
      refine wp_sub (ls' := [(0, rv (some a0)), (2, .int (x2 + (1 : Int32))), (3, .int (x3 + 1))]) [2, 1, 0] rfl ?_
      exact h
theorem C_X12_count {d : Nat} {q : HP → Int32 → Prop} {a0 : Nat} {x1 : Int32} {H : HP} (h : wb_X12_count_0 d q a0 x1 H) : CI (d + 1) 0 0 mX12_count [rv (some a0), .int x1] H q := by
  refine call_of (by decide +kernel) (by simp [lg_sl, rv_cat, vc_int, vc_long, vc_float, vc_double]) ?_
  have e : lv_args 0 [rv (some a0), .int x1] = [(0, rv (some a0)), (1, .int x1)] := by simp [lv_args, rv_cat, vc_int, vc_long, vc_float, vc_double]
  rw [e]
  exact T_X12_count_0 h
def wb_X12_define_0 (d : Nat) (q : HP → Int32 → Prop) (a0 : Nat) (H : HP) : Prop :=
  tg H a0 = 13 ∧ (CI d 0 0 mX12_defined [rv (some a0)] (sI (sI H 1324 a0 0 (0 : Int32)) 1325 a0 0 (-1 : Int32)) (fun H2 r3 => tg H2 a0 = 13 ∧ (((hI H2 1325 a0 0) < 0 → CI d 0 0 mX12_wrongWith [rv (some a0), .int r3] H2 (fun H5 r6 => (¬ r6 = 0 → tg H5 a0 = 13 ∧ (q (sI H5 1323 a0 0 (0 : Int32)) r6)) ∧ (r6 = 0 → tg H5 a0 = 13 ∧ (CI d 0 0 mX12_comes [rv (some a0), .int r3] H5 (fun H8 r10 => tg H8 a0 = 13 ∧ (q (sI H8 1323 a0 0 (0 : Int32)) r10)))))) ∧ (¬ ((hI H2 1325 a0 0) < 0) → (¬ ((-100 : Int32) - (hI H2 1325 a0 0)) = 0 → q (sI H2 1323 a0 0 (0 : Int32)) ((-100 : Int32) - (hI H2 1325 a0 0))) ∧ (((-100 : Int32) - (hI H2 1325 a0 0)) = 0 → CI d 0 0 mX12_comes [rv (some a0), .int r3] H2 (fun H12 r13 => tg H12 a0 = 13 ∧ (q (sI H12 1323 a0 0 (0 : Int32)) r13)))))))
set_option maxRecDepth 40000 in
set_option maxHeartbeats 4000000 in
theorem T_X12_define_0 {d : Nat} {q : HP → Int32 → Prop} {a0 : Nat} {H : HP} (h : wb_X12_define_0 d q a0 H) : WP (d + 1) mX12_define 0 0 0 [(0, rv (some a0))] [] H (qI q) := by
  unfold wb_X12_define_0 at h
  refine wp_aload_n 0 dX12_define_0 rfl ?_
  refine wp_iconst (v := (0 : Int32)) dX12_define_1 (by decide) ?_
  obtain ⟨ht1, h⟩ := h
  refine wp_putI (ci := 12) (j := 24) dX12_define_2 fi_X12_174 rfl (fun z => by cases z) rfl ht1 rfl rfl ?_
  change WP _ _ _ _ _ _ _ (sI H 1324 a0 0 (0 : Int32)) _
  refine wp_aload_n 0 dX12_define_5 rfl ?_
  refine wp_iconst (v := (-1 : Int32)) dX12_define_6 (by decide) ?_
  refine wp_putI (ci := 12) (j := 25) dX12_define_7 fi_X12_189 rfl (fun z => by cases z) rfl ht1 rfl rfl ?_
  change WP _ _ _ _ _ _ _ (sI (sI H 1324 a0 0 (0 : Int32)) 1325 a0 0 (-1 : Int32)) _
  refine wp_aload_n 0 dX12_define_10 rfl ?_
  refine wp_callV (ci := 12) (As := []) (rest := []) (mc := 0) (ms := 0) dX12_define_11 lk_X12_266 rfl rfl (by decide) rfl rfl rfl ht1 rfl rfl rfl w_6_194 (Call.weaken h ?_)
  rintro H2 _ ⟨r3, rfl, h⟩
  change WP _ _ _ _ _ _ [.int r3] H2 _
  refine wp_istore_n (ls' := [(1, .int r3), (0, rv (some a0))]) dX12_define_14 (by decide) rfl ?_
  refine wp_aload_n 1 dX12_define_15 rfl ?_
  obtain ⟨ht4, h⟩ := h
  refine wp_getI (ci := 12) (j := 25) dX12_define_16 fi_X12_189r rfl rfl ht4 ?_
  change WP _ _ _ _ _ _ (.int (hI H2 1325 a0 0) :: _) _ _
  refine wp_if_lt (tgt := 32) dX12_define_19 rfl (fun c => ?_) (fun c => ?_)
  · replace h := h.1 c
    refine wp_aload_n 1 dX12_define_32 rfl ?_
    refine wp_iload_n 0 dX12_define_33 rfl ?_
    refine wp_callV (ci := 12) (As := [.int r3]) (rest := []) (mc := 0) (ms := 0) dX12_define_34 lk_X12_269 rfl rfl (by decide) rfl rfl rfl ht4 rfl rfl rfl w_7_4 (Call.weaken h ?_)
    rintro H5 _ ⟨r6, rfl, h⟩
    change WP _ _ _ _ _ _ [.int r6] H5 _
    refine wp_istore_n (ls' := [(2, .int r6), (1, .int r3), (0, rv (some a0))]) dX12_define_37 (by decide) rfl ?_
    refine wp_iload_n 0 dX12_define_38 rfl ?_
    refine wp_if_ne (tgt := 48) dX12_define_39 rfl (fun c => ?_) (fun c => ?_)
    · replace h := h.1 c
      refine wp_aload_n 2 dX12_define_48 rfl ?_
      refine wp_iconst (v := (0 : Int32)) dX12_define_49 (by decide) ?_
      obtain ⟨ht7, h⟩ := h
      refine wp_putI (ci := 12) (j := 23) dX12_define_50 fi_X12_171 rfl (fun z => by cases z) rfl ht7 rfl rfl ?_
      change WP _ _ _ _ _ _ _ (sI H5 1323 a0 0 (0 : Int32)) _
      refine wp_iload_n 0 dX12_define_53 rfl ?_
      exact wp_ireturn (ty := .int) dX12_define_54 rfl rfl ⟨_, rfl, h⟩
    · replace h := h.2 c
      refine wp_aload_n 2 dX12_define_42 rfl ?_
      refine wp_iload_n 1 dX12_define_43 rfl ?_
      obtain ⟨ht9, h⟩ := h
      refine wp_callV (ci := 12) (As := [.int r3]) (rest := []) (mc := 0) (ms := 0) dX12_define_44 lk_X12_272 rfl rfl (by decide) rfl rfl rfl ht9 rfl rfl rfl w_7_20 (Call.weaken h ?_)
      rintro H8 _ ⟨r10, rfl, h⟩
      change WP _ _ _ _ _ _ [.int r10] H8 _
      refine wp_istore_n (ls' := [(2, .int r10), (1, .int r3), (0, rv (some a0))]) dX12_define_47 (by decide) rfl ?_
      refine wp_aload_n 2 dX12_define_48 rfl ?_
      refine wp_iconst (v := (0 : Int32)) dX12_define_49 (by decide) ?_
      obtain ⟨ht11, h⟩ := h
      refine wp_putI (ci := 12) (j := 23) dX12_define_50 fi_X12_171 rfl (fun z => by cases z) rfl ht11 rfl rfl ?_
      change WP _ _ _ _ _ _ _ (sI H8 1323 a0 0 (0 : Int32)) _
      refine wp_iload_n 0 dX12_define_53 rfl ?_
      exact wp_ireturn (ty := .int) dX12_define_54 rfl rfl ⟨_, rfl, h⟩
  · replace h := h.2 c
    refine wp_bipush (v := (-100 : Int32)) dX12_define_22 (by decide) ?_
    refine wp_aload_n 1 dX12_define_24 rfl ?_
    refine wp_getI (ci := 12) (j := 25) dX12_define_25 fi_X12_189r rfl rfl ht4 ?_
    change WP _ _ _ _ _ _ (.int (hI H2 1325 a0 0) :: _) _ _
    refine wp_isub dX12_define_28 ?_
    refine wp_goto (tgt := 37) dX12_define_29 rfl ?_
    refine wp_istore_n (ls' := [(2, .int ((-100 : Int32) - (hI H2 1325 a0 0))), (1, .int r3), (0, rv (some a0))]) dX12_define_37 (by decide) rfl ?_
    refine wp_iload_n 0 dX12_define_38 rfl ?_
    refine wp_if_ne (tgt := 48) dX12_define_39 rfl (fun c => ?_) (fun c => ?_)
    · replace h := h.1 c
      refine wp_aload_n 2 dX12_define_48 rfl ?_
      refine wp_iconst (v := (0 : Int32)) dX12_define_49 (by decide) ?_
      refine wp_putI (ci := 12) (j := 23) dX12_define_50 fi_X12_171 rfl (fun z => by cases z) rfl ht4 rfl rfl ?_
      change WP _ _ _ _ _ _ _ (sI H2 1323 a0 0 (0 : Int32)) _
      refine wp_iload_n 0 dX12_define_53 rfl ?_
      exact wp_ireturn (ty := .int) dX12_define_54 rfl rfl ⟨_, rfl, h⟩
    · replace h := h.2 c
      refine wp_aload_n 2 dX12_define_42 rfl ?_
      refine wp_iload_n 1 dX12_define_43 rfl ?_
      refine wp_callV (ci := 12) (As := [.int r3]) (rest := []) (mc := 0) (ms := 0) dX12_define_44 lk_X12_272 rfl rfl (by decide) rfl rfl rfl ht4 rfl rfl rfl w_7_20 (Call.weaken h ?_)
      rintro H12 _ ⟨r13, rfl, h⟩
      change WP _ _ _ _ _ _ [.int r13] H12 _
      refine wp_istore_n (ls' := [(2, .int r13), (1, .int r3), (0, rv (some a0))]) dX12_define_47 (by decide) rfl ?_
      refine wp_aload_n 2 dX12_define_48 rfl ?_
      refine wp_iconst (v := (0 : Int32)) dX12_define_49 (by decide) ?_
      obtain ⟨ht14, h⟩ := h
      refine wp_putI (ci := 12) (j := 23) dX12_define_50 fi_X12_171 rfl (fun z => by cases z) rfl ht14 rfl rfl ?_
      change WP _ _ _ _ _ _ _ (sI H12 1323 a0 0 (0 : Int32)) _
      refine wp_iload_n 0 dX12_define_53 rfl ?_
      exact wp_ireturn (ty := .int) dX12_define_54 rfl rfl ⟨_, rfl, h⟩
theorem C_X12_define {d : Nat} {q : HP → Int32 → Prop} {a0 : Nat} {H : HP} (h : wb_X12_define_0 d q a0 H) : CI (d + 1) 0 0 mX12_define [rv (some a0)] H q := by
  refine call_of (by decide +kernel) (by simp [lg_sl, rv_cat, vc_int, vc_long, vc_float, vc_double]) ?_
  have e : lv_args 0 [rv (some a0)] = [(0, rv (some a0))] := by simp [lv_args, rv_cat, vc_int, vc_long, vc_float, vc_double]
  rw [e]
  exact T_X12_define_0 h
def wb_X12_defined_94 (d : Nat) (q : HP → Int32 → Prop) (a0 : Nat) (x1 : Int32) (s0 : Option Nat) (s1 : Int32) (H : HP) : Prop :=
  ∃ a1, s0 = some a1 ∧ (tg H a1 = 13 ∧ (tg (sI H 1331 a1 0 s1) a0 = 13 ∧ (CI d 0 0 mX12_figures [rv (some a0), .int (6 : Int32)] (sI (sI H 1331 a1 0 s1) 1324 a0 0 ((hI (sI H 1331 a1 0 s1) 1324 a0 0) + (1 : Int32))) (fun H4 r5 => tg H4 a0 = 13 ∧ (CI d 0 0 mX12_below [rv (some a0)] (sI H4 1329 a0 0 r5) (fun H7 r8 => tg H7 a0 = 13 ∧ (((hI (sI H7 1330 a0 0 r8) 1323 a0 0) ≤ (hI (sI H7 1330 a0 0 r8) 1324 a0 0) → q (sI H7 1330 a0 0 r8) x1) ∧ (¬ ((hI (sI H7 1330 a0 0 r8) 1323 a0 0) ≤ (hI (sI H7 1330 a0 0 r8) 1324 a0 0)) → CV d 0 0 mX12_fails [rv (some a0)] (sI H7 1330 a0 0 r8) (fun H10 => q H10 x1)))))))))
set_option maxRecDepth 40000 in
set_option maxHeartbeats 4000000 in
theorem T_X12_defined_94 {d : Nat} {q : HP → Int32 → Prop} {a0 : Nat} {x1 : Int32} {s0 : Option Nat} {s1 : Int32} {H : HP} (h : wb_X12_defined_94 d q a0 x1 s0 s1 H) : WP (d + 1) mX12_defined 0 0 94 [(0, rv (some a0)), (1, .int x1)] [.int s1, rv s0] H (qI q) := by
  unfold wb_X12_defined_94 at h
  obtain ⟨a1, ha1, h⟩ := h
  obtain ⟨ht2, h⟩ := h
  refine wp_putI (ci := 12) (j := 31) dX12_defined_94 fi_X12_234 rfl (fun z => by cases z) ha1 ht2 rfl rfl ?_
  change WP _ _ _ _ _ _ _ (sI H 1331 a1 0 s1) _
  refine wp_aload_n 0 dX12_defined_97 rfl ?_
  refine wp_dup dX12_defined_98 (rv_cat _) ?_
  obtain ⟨ht3, h⟩ := h
  refine wp_getI (ci := 12) (j := 24) dX12_defined_99 fi_X12_174r rfl rfl ht3 ?_
  change WP _ _ _ _ _ _ (.int (hI (sI H 1331 a1 0 s1) 1324 a0 0) :: _) _ _
  refine wp_iconst (v := (1 : Int32)) dX12_defined_102 (by decide) ?_
  refine wp_iadd dX12_defined_103 ?_
  refine wp_putI (ci := 12) (j := 24) dX12_defined_104 fi_X12_174 rfl (fun z => by cases z) rfl ht3 rfl rfl ?_
  change WP _ _ _ _ _ _ _ (sI (sI H 1331 a1 0 s1) 1324 a0 0 ((hI (sI H 1331 a1 0 s1) 1324 a0 0) + (1 : Int32))) _
  refine wp_aload_n 0 dX12_defined_107 rfl ?_
  refine wp_aload_n 0 dX12_defined_108 rfl ?_
  refine wp_bipush (v := (6 : Int32)) dX12_defined_109 (by decide) ?_
  refine wp_callV (ci := 12) (As := [.int (6 : Int32)]) (rest := [rv (some a0)]) (mc := 0) (ms := 0) dX12_defined_111 lk_X12_206 rfl rfl (by simp [rv_cat, vc_int, vc_long, vc_float, vc_double]) rfl rfl rfl ht3 rfl rfl rfl w_6_220 (Call.weaken h ?_)
  rintro H4 _ ⟨r5, rfl, h⟩
  change WP _ _ _ _ _ _ [.int r5, rv (some a0)] H4 _
  obtain ⟨ht6, h⟩ := h
  refine wp_putI (ci := 12) (j := 29) dX12_defined_114 fi_X12_240 rfl (fun z => by cases z) rfl ht6 rfl rfl ?_
  change WP _ _ _ _ _ _ _ (sI H4 1329 a0 0 r5) _
  refine wp_aload_n 0 dX12_defined_117 rfl ?_
  refine wp_aload_n 0 dX12_defined_118 rfl ?_
  refine wp_callV (ci := 12) (As := []) (rest := [rv (some a0)]) (mc := 0) (ms := 0) dX12_defined_119 lk_X12_225 rfl rfl (by simp [rv_cat, vc_int, vc_long, vc_float, vc_double]) rfl rfl rfl ht6 rfl rfl rfl w_6_230 (Call.weaken h ?_)
  rintro H7 _ ⟨r8, rfl, h⟩
  change WP _ _ _ _ _ _ [.int r8, rv (some a0)] H7 _
  obtain ⟨ht9, h⟩ := h
  refine wp_putI (ci := 12) (j := 30) dX12_defined_122 fi_X12_237 rfl (fun z => by cases z) rfl ht9 rfl rfl ?_
  change WP _ _ _ _ _ _ _ (sI H7 1330 a0 0 r8) _
  refine wp_aload_n 0 dX12_defined_125 rfl ?_
  refine wp_getI (ci := 12) (j := 24) dX12_defined_126 fi_X12_174r rfl rfl ht9 ?_
  change WP _ _ _ _ _ _ (.int (hI (sI H7 1330 a0 0 r8) 1324 a0 0) :: _) _ _
  refine wp_aload_n 0 dX12_defined_129 rfl ?_
  refine wp_getI (ci := 12) (j := 23) dX12_defined_130 fi_X12_171r rfl rfl ht9 ?_
  change WP _ _ _ _ _ _ (.int (hI (sI H7 1330 a0 0 r8) 1323 a0 0) :: _) _ _
  refine wp_icmp_ge (tgt := 140) dX12_defined_133 rfl (fun c => ?_) (fun c => ?_)
  · replace h := h.1 c
    refine wp_iload_n 1 dX12_defined_140 rfl ?_
    exact wp_ireturn (ty := .int) dX12_defined_141 rfl rfl ⟨_, rfl, h⟩
  · replace h := h.2 c
    refine wp_aload_n 0 dX12_defined_136 rfl ?_
    refine wp_callV (ci := 12) (As := []) (rest := []) (mc := 0) (ms := 0) dX12_defined_137 lk_X12_192 rfl rfl (by decide) rfl rfl rfl ht9 rfl rfl rfl w_6_212 (Call.weaken h ?_)
    rintro H10 _ ⟨rfl, h⟩
    change WP _ _ _ _ _ _ [] H10 _
    refine wp_iload_n 1 dX12_defined_140 rfl ?_
    exact wp_ireturn (ty := .int) dX12_defined_141 rfl rfl ⟨_, rfl, h⟩
def wb_X12_defined_0 (d : Nat) (q : HP → Int32 → Prop) (a0 : Nat) (H : HP) : Prop :=
  tg H a0 = 13 ∧ (CI d 0 0 mX12_letters [rv (some a0)] H (fun H1 r3 => tg H1 a0 = 13 ∧ (CV d 0 0 mX12_must [rv (some a0), .int (61 : Int32)] H1 (fun H4 => tg H4 a0 = 13 ∧ ((0 ≤ (hI H4 1325 a0 0) → CI d 0 0 mX12_below [rv (some a0)] (sI H4 1327 a0 0 (0 : Int32)) (fun H7 r8 => tg H7 a0 = 13 ∧ (CV d 0 0 mX12_product [rv (some a0)] (sI H7 1328 a0 0 r8) (fun H10 => tg H10 a0 = 13 ∧ ((0 ≤ (hI (sI (sI H10 1331 a0 0 (0 : Int32)) 1330 a0 0 (1 : Int32)) 1325 a0 0) → ((hI (sI (sI H10 1331 a0 0 (0 : Int32)) 1330 a0 0 (1 : Int32)) 1323 a0 0) ≤ (hI (sI (sI H10 1331 a0 0 (0 : Int32)) 1330 a0 0 (1 : Int32)) 1324 a0 0) → q (sI (sI H10 1331 a0 0 (0 : Int32)) 1330 a0 0 (1 : Int32)) r3) ∧ (¬ ((hI (sI (sI H10 1331 a0 0 (0 : Int32)) 1330 a0 0 (1 : Int32)) 1323 a0 0) ≤ (hI (sI (sI H10 1331 a0 0 (0 : Int32)) 1330 a0 0 (1 : Int32)) 1324 a0 0)) → CV d 0 0 mX12_fails [rv (some a0)] (sI (sI H10 1331 a0 0 (0 : Int32)) 1330 a0 0 (1 : Int32)) (fun H12 => q H12 r3))) ∧ (¬ (0 ≤ (hI (sI (sI H10 1331 a0 0 (0 : Int32)) 1330 a0 0 (1 : Int32)) 1325 a0 0)) → CI d 0 0 mX12_here [rv (some a0)] (sI (sI H10 1331 a0 0 (0 : Int32)) 1330 a0 0 (1 : Int32)) (fun H13 r14 => (r14 = (43 : Int32) → tg H13 a0 = 13 ∧ (CI d 0 0 mX12_here [rv (some a0)] H13 (fun H15 r17 => (¬ r17 = (43 : Int32) → wb_X12_defined_94 d q a0 r3 (some a0) (-1 : Int32) H15) ∧ (r17 = (43 : Int32) → wb_X12_defined_94 d q a0 r3 (some a0) (1 : Int32) H15)))) ∧ (¬ (r14 = (43 : Int32)) → tg H13 a0 = 13 ∧ (CI d 0 0 mX12_here [rv (some a0)] H13 (fun H18 r20 => (¬ r20 = (45 : Int32) → tg H18 a0 = 13 ∧ (((hI H18 1323 a0 0) ≤ (hI H18 1324 a0 0) → q H18 r3) ∧ (¬ ((hI H18 1323 a0 0) ≤ (hI H18 1324 a0 0)) → CV d 0 0 mX12_fails [rv (some a0)] H18 (fun H22 => q H22 r3)))) ∧ (r20 = (45 : Int32) → tg H18 a0 = 13 ∧ (CI d 0 0 mX12_here [rv (some a0)] H18 (fun H23 r25 => (¬ r25 = (43 : Int32) → wb_X12_defined_94 d q a0 r3 (some a0) (-1 : Int32) H23) ∧ (r25 = (43 : Int32) → wb_X12_defined_94 d q a0 r3 (some a0) (1 : Int32) H23)))))))))))))) ∧ (¬ (0 ≤ (hI H4 1325 a0 0)) → CI d 0 0 mX12_figures [rv (some a0), .int (6 : Int32)] H4 (fun H26 r27 => tg H26 a0 = 13 ∧ (CI d 0 0 mX12_below [rv (some a0)] (sI H26 1327 a0 0 r27) (fun H29 r30 => tg H29 a0 = 13 ∧ (CV d 0 0 mX12_product [rv (some a0)] (sI H29 1328 a0 0 r30) (fun H32 => tg H32 a0 = 13 ∧ ((0 ≤ (hI (sI (sI H32 1331 a0 0 (0 : Int32)) 1330 a0 0 (1 : Int32)) 1325 a0 0) → ((hI (sI (sI H32 1331 a0 0 (0 : Int32)) 1330 a0 0 (1 : Int32)) 1323 a0 0) ≤ (hI (sI (sI H32 1331 a0 0 (0 : Int32)) 1330 a0 0 (1 : Int32)) 1324 a0 0) → q (sI (sI H32 1331 a0 0 (0 : Int32)) 1330 a0 0 (1 : Int32)) r3) ∧ (¬ ((hI (sI (sI H32 1331 a0 0 (0 : Int32)) 1330 a0 0 (1 : Int32)) 1323 a0 0) ≤ (hI (sI (sI H32 1331 a0 0 (0 : Int32)) 1330 a0 0 (1 : Int32)) 1324 a0 0)) → CV d 0 0 mX12_fails [rv (some a0)] (sI (sI H32 1331 a0 0 (0 : Int32)) 1330 a0 0 (1 : Int32)) (fun H34 => q H34 r3))) ∧ (¬ (0 ≤ (hI (sI (sI H32 1331 a0 0 (0 : Int32)) 1330 a0 0 (1 : Int32)) 1325 a0 0)) → CI d 0 0 mX12_here [rv (some a0)] (sI (sI H32 1331 a0 0 (0 : Int32)) 1330 a0 0 (1 : Int32)) (fun H35 r36 => (r36 = (43 : Int32) → tg H35 a0 = 13 ∧ (CI d 0 0 mX12_here [rv (some a0)] H35 (fun H37 r39 => (¬ r39 = (43 : Int32) → wb_X12_defined_94 d q a0 r3 (some a0) (-1 : Int32) H37) ∧ (r39 = (43 : Int32) → wb_X12_defined_94 d q a0 r3 (some a0) (1 : Int32) H37)))) ∧ (¬ (r36 = (43 : Int32)) → tg H35 a0 = 13 ∧ (CI d 0 0 mX12_here [rv (some a0)] H35 (fun H40 r42 => (¬ r42 = (45 : Int32) → tg H40 a0 = 13 ∧ (((hI H40 1323 a0 0) ≤ (hI H40 1324 a0 0) → q H40 r3) ∧ (¬ ((hI H40 1323 a0 0) ≤ (hI H40 1324 a0 0)) → CV d 0 0 mX12_fails [rv (some a0)] H40 (fun H44 => q H44 r3)))) ∧ (r42 = (45 : Int32) → tg H40 a0 = 13 ∧ (CI d 0 0 mX12_here [rv (some a0)] H40 (fun H45 r47 => (¬ r47 = (43 : Int32) → wb_X12_defined_94 d q a0 r3 (some a0) (-1 : Int32) H45) ∧ (r47 = (43 : Int32) → wb_X12_defined_94 d q a0 r3 (some a0) (1 : Int32) H45)))))))))))))))))))))
set_option maxRecDepth 40000 in
set_option maxHeartbeats 4000000 in
theorem T_X12_defined_0 {d : Nat} {q : HP → Int32 → Prop} {a0 : Nat} {H : HP} (h : wb_X12_defined_0 d q a0 H) : WP (d + 1) mX12_defined 0 0 0 [(0, rv (some a0))] [] H (qI q) := by
  unfold wb_X12_defined_0 at h
  refine wp_aload_n 0 dX12_defined_0 rfl ?_
  obtain ⟨ht2, h⟩ := h
  refine wp_callV (ci := 12) (As := []) (rest := []) (mc := 0) (ms := 0) dX12_defined_1 lk_X12_212 rfl rfl (by decide) rfl rfl rfl ht2 rfl rfl rfl w_6_198 (Call.weaken h ?_)
  rintro H1 _ ⟨r3, rfl, h⟩
  change WP _ _ _ _ _ _ [.int r3] H1 _
  refine wp_istore_n (ls' := [(1, .int r3), (0, rv (some a0))]) dX12_defined_4 (by decide) rfl ?_
  refine wp_aload_n 1 dX12_defined_5 rfl ?_
  refine wp_bipush (v := (61 : Int32)) dX12_defined_6 (by decide) ?_
  obtain ⟨ht5, h⟩ := h
  refine wp_callV (ci := 12) (As := [.int (61 : Int32)]) (rest := []) (mc := 0) (ms := 0) dX12_defined_8 lk_X12_218 rfl rfl (by decide) rfl rfl rfl ht5 rfl rfl rfl w_6_216 (Call.weaken h ?_)
  rintro H4 _ ⟨rfl, h⟩
  change WP _ _ _ _ _ _ [] H4 _
  refine wp_aload_n 1 dX12_defined_11 rfl ?_
  refine wp_aload_n 1 dX12_defined_12 rfl ?_
  obtain ⟨ht6, h⟩ := h
  refine wp_getI (ci := 12) (j := 25) dX12_defined_13 fi_X12_189r rfl rfl ht6 ?_
  change WP _ _ _ _ _ _ (.int (hI H4 1325 a0 0) :: _) _ _
  refine wp_if_ge (tgt := 28) dX12_defined_16 rfl (fun c => ?_) (fun c => ?_)
  · replace h := h.1 c
    refine wp_iconst (v := (0 : Int32)) dX12_defined_28 (by decide) ?_
    refine wp_putI (ci := 12) (j := 27) dX12_defined_29 fi_X12_222 rfl (fun z => by cases z) rfl ht6 rfl rfl ?_
    change WP _ _ _ _ _ _ _ (sI H4 1327 a0 0 (0 : Int32)) _
    refine wp_aload_n 1 dX12_defined_32 rfl ?_
    refine wp_aload_n 1 dX12_defined_33 rfl ?_
    refine wp_callV (ci := 12) (As := []) (rest := [rv (some a0)]) (mc := 0) (ms := 0) dX12_defined_34 lk_X12_225 rfl rfl (by simp [rv_cat, vc_int, vc_long, vc_float, vc_double]) rfl rfl rfl ht6 rfl rfl rfl w_6_230 (Call.weaken h ?_)
    rintro H7 _ ⟨r8, rfl, h⟩
    change WP _ _ _ _ _ _ [.int r8, rv (some a0)] H7 _
    obtain ⟨ht9, h⟩ := h
    refine wp_putI (ci := 12) (j := 28) dX12_defined_37 fi_X12_228 rfl (fun z => by cases z) rfl ht9 rfl rfl ?_
    change WP _ _ _ _ _ _ _ (sI H7 1328 a0 0 r8) _
    refine wp_aload_n 1 dX12_defined_40 rfl ?_
    refine wp_callV (ci := 12) (As := []) (rest := []) (mc := 0) (ms := 0) dX12_defined_41 lk_X12_231 rfl rfl (by decide) rfl rfl rfl ht9 rfl rfl rfl w_6_234 (Call.weaken h ?_)
    rintro H10 _ ⟨rfl, h⟩
    change WP _ _ _ _ _ _ [] H10 _
    refine wp_aload_n 1 dX12_defined_44 rfl ?_
    refine wp_iconst (v := (0 : Int32)) dX12_defined_45 (by decide) ?_
    obtain ⟨ht11, h⟩ := h
    refine wp_putI (ci := 12) (j := 31) dX12_defined_46 fi_X12_234 rfl (fun z => by cases z) rfl ht11 rfl rfl ?_
    change WP _ _ _ _ _ _ _ (sI H10 1331 a0 0 (0 : Int32)) _
    refine wp_aload_n 1 dX12_defined_49 rfl ?_
    refine wp_iconst (v := (1 : Int32)) dX12_defined_50 (by decide) ?_
    refine wp_putI (ci := 12) (j := 30) dX12_defined_51 fi_X12_237 rfl (fun z => by cases z) rfl ht11 rfl rfl ?_
    change WP _ _ _ _ _ _ _ (sI (sI H10 1331 a0 0 (0 : Int32)) 1330 a0 0 (1 : Int32)) _
    refine wp_aload_n 1 dX12_defined_54 rfl ?_
    refine wp_getI (ci := 12) (j := 25) dX12_defined_55 fi_X12_189r rfl rfl ht11 ?_
    change WP _ _ _ _ _ _ (.int (hI (sI (sI H10 1331 a0 0 (0 : Int32)) 1330 a0 0 (1 : Int32)) 1325 a0 0) :: _) _ _
    refine wp_if_ge (tgt := 125) dX12_defined_58 rfl (fun c => ?_) (fun c => ?_)
    · replace h := h.1 c
      refine wp_aload_n 1 dX12_defined_125 rfl ?_
      refine wp_getI (ci := 12) (j := 24) dX12_defined_126 fi_X12_174r rfl rfl ht11 ?_
      change WP _ _ _ _ _ _ (.int (hI (sI (sI H10 1331 a0 0 (0 : Int32)) 1330 a0 0 (1 : Int32)) 1324 a0 0) :: _) _ _
      refine wp_aload_n 1 dX12_defined_129 rfl ?_
      refine wp_getI (ci := 12) (j := 23) dX12_defined_130 fi_X12_171r rfl rfl ht11 ?_
      change WP _ _ _ _ _ _ (.int (hI (sI (sI H10 1331 a0 0 (0 : Int32)) 1330 a0 0 (1 : Int32)) 1323 a0 0) :: _) _ _
      refine wp_icmp_ge (tgt := 140) dX12_defined_133 rfl (fun c => ?_) (fun c => ?_)
      · replace h := h.1 c
        refine wp_iload_n 0 dX12_defined_140 rfl ?_
        exact wp_ireturn (ty := .int) dX12_defined_141 rfl rfl ⟨_, rfl, h⟩
      · replace h := h.2 c
        refine wp_aload_n 1 dX12_defined_136 rfl ?_
        refine wp_callV (ci := 12) (As := []) (rest := []) (mc := 0) (ms := 0) dX12_defined_137 lk_X12_192 rfl rfl (by decide) rfl rfl rfl ht11 rfl rfl rfl w_6_212 (Call.weaken h ?_)
        rintro H12 _ ⟨rfl, h⟩
        change WP _ _ _ _ _ _ [] H12 _
        refine wp_iload_n 0 dX12_defined_140 rfl ?_
        exact wp_ireturn (ty := .int) dX12_defined_141 rfl rfl ⟨_, rfl, h⟩
    · replace h := h.2 c
      refine wp_aload_n 1 dX12_defined_61 rfl ?_
      refine wp_callV (ci := 12) (As := []) (rest := []) (mc := 0) (ms := 0) dX12_defined_62 lk_X12_177 rfl rfl (by decide) rfl rfl rfl ht11 rfl rfl rfl w_6_206 (Call.weaken h ?_)
      rintro H13 _ ⟨r14, rfl, h⟩
      change WP _ _ _ _ _ _ [.int r14] H13 _
      refine wp_bipush (v := (43 : Int32)) dX12_defined_65 (by decide) ?_
      refine wp_icmp_eq (tgt := 79) dX12_defined_67 rfl (fun c => ?_) (fun c => ?_)
      · replace h := h.1 c
        refine wp_aload_n 1 dX12_defined_79 rfl ?_
        refine wp_aload_n 1 dX12_defined_80 rfl ?_
        obtain ⟨ht16, h⟩ := h
        refine wp_callV (ci := 12) (As := []) (rest := [rv (some a0)]) (mc := 0) (ms := 0) dX12_defined_81 lk_X12_177 rfl rfl (by simp [rv_cat, vc_int, vc_long, vc_float, vc_double]) rfl rfl rfl ht16 rfl rfl rfl w_6_206 (Call.weaken h ?_)
        rintro H15 _ ⟨r17, rfl, h⟩
        change WP _ _ _ _ _ _ [.int r17, rv (some a0)] H15 _
        refine wp_bipush (v := (43 : Int32)) dX12_defined_84 (by decide) ?_
        refine wp_icmp_ne (tgt := 93) dX12_defined_86 rfl (fun c => ?_) (fun c => ?_)
        · replace h := h.1 c
          refine wp_iconst (v := (-1 : Int32)) dX12_defined_93 (by decide) ?_
          refine wp_sub (ls' := [(0, rv (some a0)), (1, .int r3)]) [1, 0] rfl ?_
          exact T_X12_defined_94 h
        · replace h := h.2 c
          refine wp_iconst (v := (1 : Int32)) dX12_defined_89 (by decide) ?_
          refine wp_goto (tgt := 94) dX12_defined_90 rfl ?_
          refine wp_sub (ls' := [(0, rv (some a0)), (1, .int r3)]) [1, 0] rfl ?_
          exact T_X12_defined_94 h
      · replace h := h.2 c
        refine wp_aload_n 1 dX12_defined_70 rfl ?_
        obtain ⟨ht19, h⟩ := h
        refine wp_callV (ci := 12) (As := []) (rest := []) (mc := 0) (ms := 0) dX12_defined_71 lk_X12_177 rfl rfl (by decide) rfl rfl rfl ht19 rfl rfl rfl w_6_206 (Call.weaken h ?_)
        rintro H18 _ ⟨r20, rfl, h⟩
        change WP _ _ _ _ _ _ [.int r20] H18 _
        refine wp_bipush (v := (45 : Int32)) dX12_defined_74 (by decide) ?_
        refine wp_icmp_ne (tgt := 125) dX12_defined_76 rfl (fun c => ?_) (fun c => ?_)
        · replace h := h.1 c
          refine wp_aload_n 1 dX12_defined_125 rfl ?_
          obtain ⟨ht21, h⟩ := h
          refine wp_getI (ci := 12) (j := 24) dX12_defined_126 fi_X12_174r rfl rfl ht21 ?_
          change WP _ _ _ _ _ _ (.int (hI H18 1324 a0 0) :: _) _ _
          refine wp_aload_n 1 dX12_defined_129 rfl ?_
          refine wp_getI (ci := 12) (j := 23) dX12_defined_130 fi_X12_171r rfl rfl ht21 ?_
          change WP _ _ _ _ _ _ (.int (hI H18 1323 a0 0) :: _) _ _
          refine wp_icmp_ge (tgt := 140) dX12_defined_133 rfl (fun c => ?_) (fun c => ?_)
          · replace h := h.1 c
            refine wp_iload_n 0 dX12_defined_140 rfl ?_
            exact wp_ireturn (ty := .int) dX12_defined_141 rfl rfl ⟨_, rfl, h⟩
          · replace h := h.2 c
            refine wp_aload_n 1 dX12_defined_136 rfl ?_
            refine wp_callV (ci := 12) (As := []) (rest := []) (mc := 0) (ms := 0) dX12_defined_137 lk_X12_192 rfl rfl (by decide) rfl rfl rfl ht21 rfl rfl rfl w_6_212 (Call.weaken h ?_)
            rintro H22 _ ⟨rfl, h⟩
            change WP _ _ _ _ _ _ [] H22 _
            refine wp_iload_n 0 dX12_defined_140 rfl ?_
            exact wp_ireturn (ty := .int) dX12_defined_141 rfl rfl ⟨_, rfl, h⟩
        · replace h := h.2 c
          refine wp_aload_n 1 dX12_defined_79 rfl ?_
          refine wp_aload_n 1 dX12_defined_80 rfl ?_
          obtain ⟨ht24, h⟩ := h
          refine wp_callV (ci := 12) (As := []) (rest := [rv (some a0)]) (mc := 0) (ms := 0) dX12_defined_81 lk_X12_177 rfl rfl (by simp [rv_cat, vc_int, vc_long, vc_float, vc_double]) rfl rfl rfl ht24 rfl rfl rfl w_6_206 (Call.weaken h ?_)
          rintro H23 _ ⟨r25, rfl, h⟩
          change WP _ _ _ _ _ _ [.int r25, rv (some a0)] H23 _
          refine wp_bipush (v := (43 : Int32)) dX12_defined_84 (by decide) ?_
          refine wp_icmp_ne (tgt := 93) dX12_defined_86 rfl (fun c => ?_) (fun c => ?_)
          · replace h := h.1 c
            refine wp_iconst (v := (-1 : Int32)) dX12_defined_93 (by decide) ?_
            refine wp_sub (ls' := [(0, rv (some a0)), (1, .int r3)]) [1, 0] rfl ?_
            exact T_X12_defined_94 h
          · replace h := h.2 c
            refine wp_iconst (v := (1 : Int32)) dX12_defined_89 (by decide) ?_
            refine wp_goto (tgt := 94) dX12_defined_90 rfl ?_
            refine wp_sub (ls' := [(0, rv (some a0)), (1, .int r3)]) [1, 0] rfl ?_
            exact T_X12_defined_94 h
  · replace h := h.2 c
    refine wp_aload_n 1 dX12_defined_19 rfl ?_
    refine wp_bipush (v := (6 : Int32)) dX12_defined_20 (by decide) ?_
    refine wp_callV (ci := 12) (As := [.int (6 : Int32)]) (rest := [rv (some a0)]) (mc := 0) (ms := 0) dX12_defined_22 lk_X12_206 rfl rfl (by simp [rv_cat, vc_int, vc_long, vc_float, vc_double]) rfl rfl rfl ht6 rfl rfl rfl w_6_220 (Call.weaken h ?_)
    rintro H26 _ ⟨r27, rfl, h⟩
    change WP _ _ _ _ _ _ [.int r27, rv (some a0)] H26 _
    refine wp_goto (tgt := 29) dX12_defined_25 rfl ?_
    obtain ⟨ht28, h⟩ := h
    refine wp_putI (ci := 12) (j := 27) dX12_defined_29 fi_X12_222 rfl (fun z => by cases z) rfl ht28 rfl rfl ?_
    change WP _ _ _ _ _ _ _ (sI H26 1327 a0 0 r27) _
    refine wp_aload_n 1 dX12_defined_32 rfl ?_
    refine wp_aload_n 1 dX12_defined_33 rfl ?_
    refine wp_callV (ci := 12) (As := []) (rest := [rv (some a0)]) (mc := 0) (ms := 0) dX12_defined_34 lk_X12_225 rfl rfl (by simp [rv_cat, vc_int, vc_long, vc_float, vc_double]) rfl rfl rfl ht28 rfl rfl rfl w_6_230 (Call.weaken h ?_)
    rintro H29 _ ⟨r30, rfl, h⟩
    change WP _ _ _ _ _ _ [.int r30, rv (some a0)] H29 _
    obtain ⟨ht31, h⟩ := h
    refine wp_putI (ci := 12) (j := 28) dX12_defined_37 fi_X12_228 rfl (fun z => by cases z) rfl ht31 rfl rfl ?_
    change WP _ _ _ _ _ _ _ (sI H29 1328 a0 0 r30) _
    refine wp_aload_n 1 dX12_defined_40 rfl ?_
    refine wp_callV (ci := 12) (As := []) (rest := []) (mc := 0) (ms := 0) dX12_defined_41 lk_X12_231 rfl rfl (by decide) rfl rfl rfl ht31 rfl rfl rfl w_6_234 (Call.weaken h ?_)
    rintro H32 _ ⟨rfl, h⟩
    change WP _ _ _ _ _ _ [] H32 _
    refine wp_aload_n 1 dX12_defined_44 rfl ?_
    refine wp_iconst (v := (0 : Int32)) dX12_defined_45 (by decide) ?_
    obtain ⟨ht33, h⟩ := h
    refine wp_putI (ci := 12) (j := 31) dX12_defined_46 fi_X12_234 rfl (fun z => by cases z) rfl ht33 rfl rfl ?_
    change WP _ _ _ _ _ _ _ (sI H32 1331 a0 0 (0 : Int32)) _
    refine wp_aload_n 1 dX12_defined_49 rfl ?_
    refine wp_iconst (v := (1 : Int32)) dX12_defined_50 (by decide) ?_
    refine wp_putI (ci := 12) (j := 30) dX12_defined_51 fi_X12_237 rfl (fun z => by cases z) rfl ht33 rfl rfl ?_
    change WP _ _ _ _ _ _ _ (sI (sI H32 1331 a0 0 (0 : Int32)) 1330 a0 0 (1 : Int32)) _
    refine wp_aload_n 1 dX12_defined_54 rfl ?_
    refine wp_getI (ci := 12) (j := 25) dX12_defined_55 fi_X12_189r rfl rfl ht33 ?_
    change WP _ _ _ _ _ _ (.int (hI (sI (sI H32 1331 a0 0 (0 : Int32)) 1330 a0 0 (1 : Int32)) 1325 a0 0) :: _) _ _
    refine wp_if_ge (tgt := 125) dX12_defined_58 rfl (fun c => ?_) (fun c => ?_)
    · replace h := h.1 c
      refine wp_aload_n 1 dX12_defined_125 rfl ?_
      refine wp_getI (ci := 12) (j := 24) dX12_defined_126 fi_X12_174r rfl rfl ht33 ?_
      change WP _ _ _ _ _ _ (.int (hI (sI (sI H32 1331 a0 0 (0 : Int32)) 1330 a0 0 (1 : Int32)) 1324 a0 0) :: _) _ _
      refine wp_aload_n 1 dX12_defined_129 rfl ?_
      refine wp_getI (ci := 12) (j := 23) dX12_defined_130 fi_X12_171r rfl rfl ht33 ?_
      change WP _ _ _ _ _ _ (.int (hI (sI (sI H32 1331 a0 0 (0 : Int32)) 1330 a0 0 (1 : Int32)) 1323 a0 0) :: _) _ _
      refine wp_icmp_ge (tgt := 140) dX12_defined_133 rfl (fun c => ?_) (fun c => ?_)
      · replace h := h.1 c
        refine wp_iload_n 0 dX12_defined_140 rfl ?_
        exact wp_ireturn (ty := .int) dX12_defined_141 rfl rfl ⟨_, rfl, h⟩
      · replace h := h.2 c
        refine wp_aload_n 1 dX12_defined_136 rfl ?_
        refine wp_callV (ci := 12) (As := []) (rest := []) (mc := 0) (ms := 0) dX12_defined_137 lk_X12_192 rfl rfl (by decide) rfl rfl rfl ht33 rfl rfl rfl w_6_212 (Call.weaken h ?_)
        rintro H34 _ ⟨rfl, h⟩
        change WP _ _ _ _ _ _ [] H34 _
        refine wp_iload_n 0 dX12_defined_140 rfl ?_
        exact wp_ireturn (ty := .int) dX12_defined_141 rfl rfl ⟨_, rfl, h⟩
    · replace h := h.2 c
      refine wp_aload_n 1 dX12_defined_61 rfl ?_
      refine wp_callV (ci := 12) (As := []) (rest := []) (mc := 0) (ms := 0) dX12_defined_62 lk_X12_177 rfl rfl (by decide) rfl rfl rfl ht33 rfl rfl rfl w_6_206 (Call.weaken h ?_)
      rintro H35 _ ⟨r36, rfl, h⟩
      change WP _ _ _ _ _ _ [.int r36] H35 _
      refine wp_bipush (v := (43 : Int32)) dX12_defined_65 (by decide) ?_
      refine wp_icmp_eq (tgt := 79) dX12_defined_67 rfl (fun c => ?_) (fun c => ?_)
      · replace h := h.1 c
        refine wp_aload_n 1 dX12_defined_79 rfl ?_
        refine wp_aload_n 1 dX12_defined_80 rfl ?_
        obtain ⟨ht38, h⟩ := h
        refine wp_callV (ci := 12) (As := []) (rest := [rv (some a0)]) (mc := 0) (ms := 0) dX12_defined_81 lk_X12_177 rfl rfl (by simp [rv_cat, vc_int, vc_long, vc_float, vc_double]) rfl rfl rfl ht38 rfl rfl rfl w_6_206 (Call.weaken h ?_)
        rintro H37 _ ⟨r39, rfl, h⟩
        change WP _ _ _ _ _ _ [.int r39, rv (some a0)] H37 _
        refine wp_bipush (v := (43 : Int32)) dX12_defined_84 (by decide) ?_
        refine wp_icmp_ne (tgt := 93) dX12_defined_86 rfl (fun c => ?_) (fun c => ?_)
        · replace h := h.1 c
          refine wp_iconst (v := (-1 : Int32)) dX12_defined_93 (by decide) ?_
          refine wp_sub (ls' := [(0, rv (some a0)), (1, .int r3)]) [1, 0] rfl ?_
          exact T_X12_defined_94 h
        · replace h := h.2 c
          refine wp_iconst (v := (1 : Int32)) dX12_defined_89 (by decide) ?_
          refine wp_goto (tgt := 94) dX12_defined_90 rfl ?_
          refine wp_sub (ls' := [(0, rv (some a0)), (1, .int r3)]) [1, 0] rfl ?_
          exact T_X12_defined_94 h
      · replace h := h.2 c
        refine wp_aload_n 1 dX12_defined_70 rfl ?_
        obtain ⟨ht41, h⟩ := h
        refine wp_callV (ci := 12) (As := []) (rest := []) (mc := 0) (ms := 0) dX12_defined_71 lk_X12_177 rfl rfl (by decide) rfl rfl rfl ht41 rfl rfl rfl w_6_206 (Call.weaken h ?_)
        rintro H40 _ ⟨r42, rfl, h⟩
        change WP _ _ _ _ _ _ [.int r42] H40 _
        refine wp_bipush (v := (45 : Int32)) dX12_defined_74 (by decide) ?_
        refine wp_icmp_ne (tgt := 125) dX12_defined_76 rfl (fun c => ?_) (fun c => ?_)
        · replace h := h.1 c
          refine wp_aload_n 1 dX12_defined_125 rfl ?_
          obtain ⟨ht43, h⟩ := h
          refine wp_getI (ci := 12) (j := 24) dX12_defined_126 fi_X12_174r rfl rfl ht43 ?_
          change WP _ _ _ _ _ _ (.int (hI H40 1324 a0 0) :: _) _ _
          refine wp_aload_n 1 dX12_defined_129 rfl ?_
          refine wp_getI (ci := 12) (j := 23) dX12_defined_130 fi_X12_171r rfl rfl ht43 ?_
          change WP _ _ _ _ _ _ (.int (hI H40 1323 a0 0) :: _) _ _
          refine wp_icmp_ge (tgt := 140) dX12_defined_133 rfl (fun c => ?_) (fun c => ?_)
          · replace h := h.1 c
            refine wp_iload_n 0 dX12_defined_140 rfl ?_
            exact wp_ireturn (ty := .int) dX12_defined_141 rfl rfl ⟨_, rfl, h⟩
          · replace h := h.2 c
            refine wp_aload_n 1 dX12_defined_136 rfl ?_
            refine wp_callV (ci := 12) (As := []) (rest := []) (mc := 0) (ms := 0) dX12_defined_137 lk_X12_192 rfl rfl (by decide) rfl rfl rfl ht43 rfl rfl rfl w_6_212 (Call.weaken h ?_)
            rintro H44 _ ⟨rfl, h⟩
            change WP _ _ _ _ _ _ [] H44 _
            refine wp_iload_n 0 dX12_defined_140 rfl ?_
            exact wp_ireturn (ty := .int) dX12_defined_141 rfl rfl ⟨_, rfl, h⟩
        · replace h := h.2 c
          refine wp_aload_n 1 dX12_defined_79 rfl ?_
          refine wp_aload_n 1 dX12_defined_80 rfl ?_
          obtain ⟨ht46, h⟩ := h
          refine wp_callV (ci := 12) (As := []) (rest := [rv (some a0)]) (mc := 0) (ms := 0) dX12_defined_81 lk_X12_177 rfl rfl (by simp [rv_cat, vc_int, vc_long, vc_float, vc_double]) rfl rfl rfl ht46 rfl rfl rfl w_6_206 (Call.weaken h ?_)
          rintro H45 _ ⟨r47, rfl, h⟩
          change WP _ _ _ _ _ _ [.int r47, rv (some a0)] H45 _
          refine wp_bipush (v := (43 : Int32)) dX12_defined_84 (by decide) ?_
          refine wp_icmp_ne (tgt := 93) dX12_defined_86 rfl (fun c => ?_) (fun c => ?_)
          · replace h := h.1 c
            refine wp_iconst (v := (-1 : Int32)) dX12_defined_93 (by decide) ?_
            refine wp_sub (ls' := [(0, rv (some a0)), (1, .int r3)]) [1, 0] rfl ?_
            exact T_X12_defined_94 h
          · replace h := h.2 c
            refine wp_iconst (v := (1 : Int32)) dX12_defined_89 (by decide) ?_
            refine wp_goto (tgt := 94) dX12_defined_90 rfl ?_
            refine wp_sub (ls' := [(0, rv (some a0)), (1, .int r3)]) [1, 0] rfl ?_
            exact T_X12_defined_94 h
theorem C_X12_defined {d : Nat} {q : HP → Int32 → Prop} {a0 : Nat} {H : HP} (h : wb_X12_defined_0 d q a0 H) : CI (d + 1) 0 0 mX12_defined [rv (some a0)] H q := by
  refine call_of (by decide +kernel) (by simp [lg_sl, rv_cat, vc_int, vc_long, vc_float, vc_double]) ?_
  have e : lv_args 0 [rv (some a0)] = [(0, rv (some a0))] := by simp [lv_args, rv_cat, vc_int, vc_long, vc_float, vc_double]
  rw [e]
  exact T_X12_defined_0 h
/-- UnitProverModel.drop()I: the loop at 28 -/
def L_X12_drop_28 (d : Nat) (q : HP → Int32 → Prop) (a0 : Nat) (x1 : Int32) (H : HP) : Prop := WP (d + 1) mX12_drop 0 0 28 [(0, rv (some a0)), (1, .int x1)] [] H (qI q)
def wb_X12_drop_0 (d : Nat) (q : HP → Int32 → Prop) (a0 : Nat) (H : HP) : Prop :=
  tg H a0 = 13 ∧ ((¬ (hI H 1300 a0 0) = (5 : Int32) → L_X12_drop_28 d q a0 ((hI (sI H 1300 a0 0 ((hI H 1300 a0 0) - (1 : Int32))) 1307 a0 0) - (1 : Int32)) (sI H 1300 a0 0 ((hI H 1300 a0 0) - (1 : Int32)))) ∧ ((hI H 1300 a0 0) = (5 : Int32) → q H (-3 : Int32)))
set_option maxRecDepth 40000 in
set_option maxHeartbeats 4000000 in
theorem T_X12_drop_0 {d : Nat} {q : HP → Int32 → Prop} {a0 : Nat} {H : HP} (h : wb_X12_drop_0 d q a0 H) : WP (d + 1) mX12_drop 0 0 0 [(0, rv (some a0))] [] H (qI q) := by
  unfold wb_X12_drop_0 at h
  refine wp_aload_n 0 dX12_drop_0 rfl ?_
  obtain ⟨ht1, h⟩ := h
  refine wp_getI (ci := 12) (j := 0) dX12_drop_1 fi_X12_11r rfl rfl ht1 ?_
  change WP _ _ _ _ _ _ (.int (hI H 1300 a0 0) :: _) _ _
  refine wp_iconst (v := (5 : Int32)) dX12_drop_4 (by decide) ?_
  refine wp_icmp_ne (tgt := 11) dX12_drop_5 rfl (fun c => ?_) (fun c => ?_)
  · replace h := h.1 c
    refine wp_aload_n 0 dX12_drop_11 rfl ?_
    refine wp_dup dX12_drop_12 (rv_cat _) ?_
    refine wp_getI (ci := 12) (j := 0) dX12_drop_13 fi_X12_11r rfl rfl ht1 ?_
    change WP _ _ _ _ _ _ (.int (hI H 1300 a0 0) :: _) _ _
    refine wp_iconst (v := (1 : Int32)) dX12_drop_16 (by decide) ?_
    refine wp_isub dX12_drop_17 ?_
    refine wp_putI (ci := 12) (j := 0) dX12_drop_18 fi_X12_11 rfl (fun z => by cases z) rfl ht1 rfl rfl ?_
    change WP _ _ _ _ _ _ _ (sI H 1300 a0 0 ((hI H 1300 a0 0) - (1 : Int32))) _
    refine wp_aload_n 0 dX12_drop_21 rfl ?_
    refine wp_getI (ci := 12) (j := 7) dX12_drop_22 fi_X12_275r rfl rfl ht1 ?_
    change WP _ _ _ _ _ _ (.int (hI (sI H 1300 a0 0 ((hI H 1300 a0 0) - (1 : Int32))) 1307 a0 0) :: _) _ _
    refine wp_iconst (v := (1 : Int32)) dX12_drop_25 (by decide) ?_
    refine wp_isub dX12_drop_26 ?_
    refine wp_istore_n (ls' := [(1, .int ((hI (sI H 1300 a0 0 ((hI H 1300 a0 0) - (1 : Int32))) 1307 a0 0) - (1 : Int32))), (0, rv (some a0))]) dX12_drop_27 (by decide) rfl ?_
    refine wp_sub (ls' := [(0, rv (some a0)), (1, .int ((hI (sI H 1300 a0 0 ((hI H 1300 a0 0) - (1 : Int32))) 1307 a0 0) - (1 : Int32)))]) [1, 0] rfl ?_
    exact h
  · replace h := h.2 c
    refine wp_bipush (v := (-3 : Int32)) dX12_drop_8 (by decide) ?_
    exact wp_ireturn (ty := .int) dX12_drop_10 rfl rfl ⟨_, rfl, h⟩
def wb_X12_drop_28 (d : Nat) (q : HP → Int32 → Prop) (a0 : Nat) (x1 : Int32) (H : HP) : Prop :=
  (x1 < 0 → tg H a0 = 13 ∧ (q H (hI H 1300 a0 0))) ∧ (¬ (x1 < 0) → tg H a0 = 13 ∧ (∃ a3, (hC H 1308 a0) = some a3 ∧ (isA H a3 0 ∧ (vp_in ((4 : Int32) * x1) (ln H a3) ∧ (((hI H (tg H a3) a3 ((4 : Int32) * x1).toNatClampNeg) = (hI H 1300 a0 0) → CI d 0 0 mX12_unclaim [rv (some a0), .int x1] H (fun H6 r7 => L_X12_drop_28 d q a0 (x1 + (-1)) H6)) ∧ (¬ ((hI H (tg H a3) a3 ((4 : Int32) * x1).toNatClampNeg) = (hI H 1300 a0 0)) → vp_in (((4 : Int32) * x1) + (1 : Int32)) (ln H a3) ∧ ((¬ (hI H (tg H a3) a3 (((4 : Int32) * x1) + (1 : Int32)).toNatClampNeg) = (hI H 1300 a0 0) → L_X12_drop_28 d q a0 (x1 + (-1)) H) ∧ ((hI H (tg H a3) a3 (((4 : Int32) * x1) + (1 : Int32)).toNatClampNeg) = (hI H 1300 a0 0) → CI d 0 0 mX12_unclaim [rv (some a0), .int x1] H (fun H9 r10 => L_X12_drop_28 d q a0 (x1 + (-1)) H9)))))))))
set_option maxRecDepth 40000 in
set_option maxHeartbeats 4000000 in
theorem T_X12_drop_28 {d : Nat} {q : HP → Int32 → Prop} {a0 : Nat} {x1 : Int32} {H : HP} (h : wb_X12_drop_28 d q a0 x1 H) : L_X12_drop_28 d q a0 x1 H := by
  unfold wb_X12_drop_28 at h
  unfold L_X12_drop_28
  refine wp_iload_n 1 dX12_drop_28 rfl ?_
  refine wp_if_lt (tgt := 76) dX12_drop_29 rfl (fun c => ?_) (fun c => ?_)
  · replace h := h.1 c
    refine wp_aload_n 0 dX12_drop_76 rfl ?_
    obtain ⟨ht1, h⟩ := h
    refine wp_getI (ci := 12) (j := 0) dX12_drop_77 fi_X12_11r rfl rfl ht1 ?_
    change WP _ _ _ _ _ _ (.int (hI H 1300 a0 0) :: _) _ _
    exact wp_ireturn (ty := .int) dX12_drop_80 rfl rfl ⟨_, rfl, h⟩
  · replace h := h.2 c
    refine wp_aload_n 0 dX12_drop_32 rfl ?_
    obtain ⟨ht2, h⟩ := h
    refine wp_getC (ci := 12) (j := 8) dX12_drop_33 fi_X12_35r rfl rfl ht2 ?_
    change WP _ _ _ _ _ _ (rv (hC H 1308 a0) :: _) _ _
    refine wp_iconst (v := (4 : Int32)) dX12_drop_36 (by decide) ?_
    refine wp_iload_n 1 dX12_drop_37 rfl ?_
    refine wp_imul dX12_drop_38 ?_
    obtain ⟨a3, ha3, h⟩ := h
    obtain ⟨hr4, h⟩ := h
    obtain ⟨hg5, h⟩ := h
    refine wp_iaload dX12_drop_39 ha3 hr4 hg5 ?_
    refine wp_aload_n 0 dX12_drop_40 rfl ?_
    refine wp_getI (ci := 12) (j := 0) dX12_drop_41 fi_X12_11r rfl rfl ht2 ?_
    change WP _ _ _ _ _ _ (.int (hI H 1300 a0 0) :: _) _ _
    refine wp_icmp_eq (tgt := 64) dX12_drop_44 rfl (fun c => ?_) (fun c => ?_)
    · replace h := h.1 c
      refine wp_aload_n 0 dX12_drop_64 rfl ?_
      refine wp_iload_n 1 dX12_drop_65 rfl ?_
      refine wp_callV (ci := 12) (As := [.int x1]) (rest := []) (mc := 0) (ms := 0) dX12_drop_66 lk_X12_278 rfl rfl (by decide) rfl rfl rfl ht2 rfl rfl rfl w_7_64 (Call.weaken h ?_)
      rintro H6 _ ⟨r7, rfl, h⟩
      change WP _ _ _ _ _ _ [.int r7] H6 _
      refine wp_pop dX12_drop_69 (rfl) ?_
      refine wp_iinc (v := (x1 + (-1))) (ls' := [(1, .int (x1 + (-1))), (0, rv (some a0))]) 1 dX12_drop_70 rfl rfl (by decide) rfl ?_
      refine wp_goto (tgt := 28) dX12_drop_73 rfl ?_
      refine wp_sub (ls' := [(0, rv (some a0)), (1, .int (x1 + (-1)))]) [1, 0] rfl ?_
      exact h
    · replace h := h.2 c
      refine wp_aload_n 0 dX12_drop_47 rfl ?_
      refine wp_getC (ci := 12) (j := 8) dX12_drop_48 fi_X12_35r rfl rfl ht2 ?_
      change WP _ _ _ _ _ _ (rv (hC H 1308 a0) :: _) _ _
      refine wp_iconst (v := (4 : Int32)) dX12_drop_51 (by decide) ?_
      refine wp_iload_n 1 dX12_drop_52 rfl ?_
      refine wp_imul dX12_drop_53 ?_
      refine wp_iconst (v := (1 : Int32)) dX12_drop_54 (by decide) ?_
      refine wp_iadd dX12_drop_55 ?_
      obtain ⟨hg8, h⟩ := h
      refine wp_iaload dX12_drop_56 ha3 hr4 hg8 ?_
      refine wp_aload_n 0 dX12_drop_57 rfl ?_
      refine wp_getI (ci := 12) (j := 0) dX12_drop_58 fi_X12_11r rfl rfl ht2 ?_
      change WP _ _ _ _ _ _ (.int (hI H 1300 a0 0) :: _) _ _
      refine wp_icmp_ne (tgt := 70) dX12_drop_61 rfl (fun c => ?_) (fun c => ?_)
      · replace h := h.1 c
        refine wp_iinc (v := (x1 + (-1))) (ls' := [(1, .int (x1 + (-1))), (0, rv (some a0))]) 1 dX12_drop_70 rfl rfl (by decide) rfl ?_
        refine wp_goto (tgt := 28) dX12_drop_73 rfl ?_
        refine wp_sub (ls' := [(0, rv (some a0)), (1, .int (x1 + (-1)))]) [1, 0] rfl ?_
        exact h
      · replace h := h.2 c
        refine wp_aload_n 0 dX12_drop_64 rfl ?_
        refine wp_iload_n 1 dX12_drop_65 rfl ?_
        refine wp_callV (ci := 12) (As := [.int x1]) (rest := []) (mc := 0) (ms := 0) dX12_drop_66 lk_X12_278 rfl rfl (by decide) rfl rfl rfl ht2 rfl rfl rfl w_7_64 (Call.weaken h ?_)
        rintro H9 _ ⟨r10, rfl, h⟩
        change WP _ _ _ _ _ _ [.int r10] H9 _
        refine wp_pop dX12_drop_69 (rfl) ?_
        refine wp_iinc (v := (x1 + (-1))) (ls' := [(1, .int (x1 + (-1))), (0, rv (some a0))]) 1 dX12_drop_70 rfl rfl (by decide) rfl ?_
        refine wp_goto (tgt := 28) dX12_drop_73 rfl ?_
        refine wp_sub (ls' := [(0, rv (some a0)), (1, .int (x1 + (-1)))]) [1, 0] rfl ?_
        exact h
theorem C_X12_drop {d : Nat} {q : HP → Int32 → Prop} {a0 : Nat} {H : HP} (h : wb_X12_drop_0 d q a0 H) : CI (d + 1) 0 0 mX12_drop [rv (some a0)] H q := by
  refine call_of (by decide +kernel) (by simp [lg_sl, rv_cat, vc_int, vc_long, vc_float, vc_double]) ?_
  have e : lv_args 0 [rv (some a0)] = [(0, rv (some a0))] := by simp [lv_args, rv_cat, vc_int, vc_long, vc_float, vc_double]
  rw [e]
  exact T_X12_drop_0 h
def wb_X12_ends_0 (d : Nat) (q : HP → Int32 → Prop) (a0 : Nat) (x1 : Int32) (H : HP) : Prop :=
  tg H a0 = 13 ∧ (q (sI H 1342 a0 0 x1) (-1 : Int32))
set_option maxRecDepth 40000 in
set_option maxHeartbeats 4000000 in
theorem T_X12_ends_0 {d : Nat} {q : HP → Int32 → Prop} {a0 : Nat} {x1 : Int32} {H : HP} (h : wb_X12_ends_0 d q a0 x1 H) : WP (d + 1) mX12_ends 0 0 0 [(0, rv (some a0)), (1, .int x1)] [] H (qI q) := by
  unfold wb_X12_ends_0 at h
  refine wp_aload_n 0 dX12_ends_0 rfl ?_
  refine wp_iload_n 1 dX12_ends_1 rfl ?_
  obtain ⟨ht1, h⟩ := h
  refine wp_putI (ci := 12) (j := 42) dX12_ends_2 fi_X12_317 rfl (fun z => by cases z) rfl ht1 rfl rfl ?_
  change WP _ _ _ _ _ _ _ (sI H 1342 a0 0 x1) _
  refine wp_iconst (v := (-1 : Int32)) dX12_ends_5 (by decide) ?_
  exact wp_ireturn (ty := .int) dX12_ends_6 rfl rfl ⟨_, rfl, h⟩
theorem C_X12_ends {d : Nat} {q : HP → Int32 → Prop} {a0 : Nat} {x1 : Int32} {H : HP} (h : wb_X12_ends_0 d q a0 x1 H) : CI (d + 1) 0 0 mX12_ends [rv (some a0), .int x1] H q := by
  refine call_of (by decide +kernel) (by simp [lg_sl, rv_cat, vc_int, vc_long, vc_float, vc_double]) ?_
  have e : lv_args 0 [rv (some a0), .int x1] = [(0, rv (some a0)), (1, .int x1)] := by simp [lv_args, rv_cat, vc_int, vc_long, vc_float, vc_double]
  rw [e]
  exact T_X12_ends_0 h
/-- UnitProverModel.factors()V: the loop at 21 -/
def L_X12_factors_21 (d : Nat) (q : HP → Prop) (a0 : Nat) (x1 : Int32) (H : HP) : Prop := WP (d + 1) mX12_factors 0 0 21 [(0, rv (some a0)), (1, .int x1)] [] H (qV q)
/-- UnitProverModel.factors()V: the loop at 48 -/
def L_X12_factors_48 (d : Nat) (q : HP → Prop) (a0 : Nat) (x1 : Int32) (x2 : Int32) (x3 : Int32) (H : HP) : Prop := WP (d + 1) mX12_factors 0 0 48 [(0, rv (some a0)), (1, .int x1), (2, .int x2), (3, .int x3)] [] H (qV q)
def wb_X12_factors_0 (d : Nat) (q : HP → Prop) (a0 : Nat) (H : HP) : Prop :=
  tg H a0 = 13 ∧ (CV d 0 0 mX12_becomes [rv (some a0), .long ((hI (sI H 1321 a0 0 (0 : Int32)) 1327 a0 0).toInt64), .long ((hI (sI H 1321 a0 0 (0 : Int32)) 1328 a0 0).toInt64)] (sI H 1321 a0 0 (0 : Int32)) (fun H2 => L_X12_factors_21 d q a0 (0 : Int32) H2))
set_option maxRecDepth 40000 in
set_option maxHeartbeats 4000000 in
theorem T_X12_factors_0 {d : Nat} {q : HP → Prop} {a0 : Nat} {H : HP} (h : wb_X12_factors_0 d q a0 H) : WP (d + 1) mX12_factors 0 0 0 [(0, rv (some a0))] [] H (qV q) := by
  unfold wb_X12_factors_0 at h
  refine wp_aload_n 0 dX12_factors_0 rfl ?_
  refine wp_iconst (v := (0 : Int32)) dX12_factors_1 (by decide) ?_
  obtain ⟨ht1, h⟩ := h
  refine wp_putI (ci := 12) (j := 21) dX12_factors_2 fi_X12_133 rfl (fun z => by cases z) rfl ht1 rfl rfl ?_
  change WP _ _ _ _ _ _ _ (sI H 1321 a0 0 (0 : Int32)) _
  refine wp_aload_n 0 dX12_factors_5 rfl ?_
  refine wp_aload_n 0 dX12_factors_6 rfl ?_
  refine wp_getI (ci := 12) (j := 27) dX12_factors_7 fi_X12_222r rfl rfl ht1 ?_
  change WP _ _ _ _ _ _ (.int (hI (sI H 1321 a0 0 (0 : Int32)) 1327 a0 0) :: _) _ _
  refine wp_i2l dX12_factors_10 ?_
  refine wp_aload_n 0 dX12_factors_11 rfl ?_
  refine wp_getI (ci := 12) (j := 28) dX12_factors_12 fi_X12_228r rfl rfl ht1 ?_
  change WP _ _ _ _ _ _ (.int (hI (sI H 1321 a0 0 (0 : Int32)) 1328 a0 0) :: _) _ _
  refine wp_i2l dX12_factors_15 ?_
  refine wp_callV (ci := 12) (As := [.long ((hI (sI H 1321 a0 0 (0 : Int32)) 1327 a0 0).toInt64), .long ((hI (sI H 1321 a0 0 (0 : Int32)) 1328 a0 0).toInt64)]) (rest := []) (mc := 0) (ms := 0) dX12_factors_16 lk_X12_157 rfl rfl (by decide) rfl rfl rfl ht1 rfl rfl rfl w_7_37 (Call.weaken h ?_)
  rintro H2 _ ⟨rfl, h⟩
  change WP _ _ _ _ _ _ [] H2 _
  refine wp_iconst (v := (0 : Int32)) dX12_factors_19 (by decide) ?_
  refine wp_istore_n (ls' := [(1, .int (0 : Int32)), (0, rv (some a0))]) dX12_factors_20 (by decide) rfl ?_
  refine wp_sub (ls' := [(0, rv (some a0)), (1, .int (0 : Int32))]) [1, 0] rfl ?_
  exact h
def wb_X12_factors_21 (d : Nat) (q : HP → Prop) (a0 : Nat) (x1 : Int32) (H : HP) : Prop :=
  tg H a0 = 13 ∧ (((hI H 1332 a0 0) ≤ x1 → q H) ∧ (¬ ((hI H 1332 a0 0) ≤ x1) → ∃ a2, (hC H 1333 a0) = some a2 ∧ (isA H a2 0 ∧ (vp_in x1 (ln H a2) ∧ (∃ a5, (hC H 1334 a0) = some a5 ∧ (isA H a5 0 ∧ (vp_in x1 (ln H a5) ∧ (CI d 0 0 mX12_whose [rv (some a0), .int (hI H (tg H a2) a2 x1.toNatClampNeg), .int (hI H (tg H a5) a5 x1.toNatClampNeg)] H (fun H8 r9 => L_X12_factors_48 d q a0 x1 r9 (0 : Int32) H8)))))))))
set_option maxRecDepth 40000 in
set_option maxHeartbeats 4000000 in
theorem T_X12_factors_21 {d : Nat} {q : HP → Prop} {a0 : Nat} {x1 : Int32} {H : HP} (h : wb_X12_factors_21 d q a0 x1 H) : L_X12_factors_21 d q a0 x1 H := by
  unfold wb_X12_factors_21 at h
  unfold L_X12_factors_21
  refine wp_iload_n 1 dX12_factors_21 rfl ?_
  refine wp_aload_n 0 dX12_factors_22 rfl ?_
  obtain ⟨ht1, h⟩ := h
  refine wp_getI (ci := 12) (j := 32) dX12_factors_23 fi_X12_209r rfl rfl ht1 ?_
  change WP _ _ _ _ _ _ (.int (hI H 1332 a0 0) :: _) _ _
  refine wp_icmp_ge (tgt := 137) dX12_factors_26 rfl (fun c => ?_) (fun c => ?_)
  · replace h := h.1 c
    exact wp_return dX12_factors_137 rfl ⟨rfl, h⟩
  · replace h := h.2 c
    refine wp_aload_n 0 dX12_factors_29 rfl ?_
    refine wp_aload_n 0 dX12_factors_30 rfl ?_
    refine wp_getC (ci := 12) (j := 33) dX12_factors_31 fi_X12_62r rfl rfl ht1 ?_
    change WP _ _ _ _ _ _ (rv (hC H 1333 a0) :: _) _ _
    refine wp_iload_n 1 dX12_factors_34 rfl ?_
    obtain ⟨a2, ha2, h⟩ := h
    obtain ⟨hr3, h⟩ := h
    obtain ⟨hg4, h⟩ := h
    refine wp_iaload dX12_factors_35 ha2 hr3 hg4 ?_
    refine wp_aload_n 0 dX12_factors_36 rfl ?_
    refine wp_getC (ci := 12) (j := 34) dX12_factors_37 fi_X12_65r rfl rfl ht1 ?_
    change WP _ _ _ _ _ _ (rv (hC H 1334 a0) :: _) _ _
    refine wp_iload_n 1 dX12_factors_40 rfl ?_
    obtain ⟨a5, ha5, h⟩ := h
    obtain ⟨hr6, h⟩ := h
    obtain ⟨hg7, h⟩ := h
    refine wp_iaload dX12_factors_41 ha5 hr6 hg7 ?_
    refine wp_callV (ci := 12) (As := [.int (hI H (tg H a2) a2 x1.toNatClampNeg), .int (hI H (tg H a5) a5 x1.toNatClampNeg)]) (rest := []) (mc := 0) (ms := 0) dX12_factors_42 lk_X12_243 rfl rfl (by decide) rfl rfl rfl ht1 rfl rfl rfl w_7_8 (Call.weaken h ?_)
    rintro H8 _ ⟨r9, rfl, h⟩
    change WP _ _ _ _ _ _ [.int r9] H8 _
    refine wp_istore_n (ls' := [(2, .int r9), (0, rv (some a0)), (1, .int x1)]) dX12_factors_45 (by decide) rfl ?_
    refine wp_iconst (v := (0 : Int32)) dX12_factors_46 (by decide) ?_
    refine wp_istore_n (ls' := [(3, .int (0 : Int32)), (2, .int r9), (0, rv (some a0)), (1, .int x1)]) dX12_factors_47 (by decide) rfl ?_
    refine wp_sub (ls' := [(0, rv (some a0)), (1, .int x1), (2, .int r9), (3, .int (0 : Int32))]) [2, 3, 1, 0] rfl ?_
    exact h
def wb_X12_factors_48 (d : Nat) (q : HP → Prop) (a0 : Nat) (x1 : Int32) (x2 : Int32) (x3 : Int32) (H : HP) : Prop :=
  tg H a0 = 13 ∧ (∃ a2, (hC H 1335 a0) = some a2 ∧ (isA H a2 0 ∧ (vp_in x1 (ln H a2) ∧ (((hI H (tg H a2) a2 x1.toNatClampNeg) ≤ x3 → L_X12_factors_21 d q a0 (x1 + 1) H) ∧ (¬ ((hI H (tg H a2) a2 x1.toNatClampNeg) ≤ x3) → (¬ (hI H 1321 a0 0) = 0 → L_X12_factors_21 d q a0 (x1 + 1) H) ∧ ((hI H 1321 a0 0) = 0 → ∃ a5, (hC H 1336 a0) = some a5 ∧ (isA H a5 0 ∧ (vp_in x1 (ln H a5) ∧ (((hI H (tg H a5) a5 x1.toNatClampNeg) ≤ 0 → ∃ a8, (hC H 1303 a0) = some a8 ∧ (isA H a8 3 ∧ (vp_in x2 (ln H a8) ∧ (∃ a11, (hC H 1304 a0) = some a11 ∧ (isA H a11 3 ∧ (vp_in x2 (ln H a11) ∧ (CV d 0 0 mX12_by [rv (some a0), .long (hL H 1319 a0 0), .long (hL H 1320 a0 0), .long (hL H (tg H a8) a8 x2.toNatClampNeg), .long (hL H (tg H a11) a11 x2.toNatClampNeg)] H (fun H14 => L_X12_factors_48 d q a0 x1 x2 (x3 + 1) H14)))))))) ∧ (¬ ((hI H (tg H a5) a5 x1.toNatClampNeg) ≤ 0) → ∃ a15, (hC H 1303 a0) = some a15 ∧ (isA H a15 3 ∧ (vp_in x2 (ln H a15) ∧ (∃ a18, (hC H 1304 a0) = some a18 ∧ (isA H a18 3 ∧ (vp_in x2 (ln H a18) ∧ (CV d 0 0 mX12_times [rv (some a0), .long (hL H 1319 a0 0), .long (hL H 1320 a0 0), .long (hL H (tg H a15) a15 x2.toNatClampNeg), .long (hL H (tg H a18) a18 x2.toNatClampNeg)] H (fun H21 => L_X12_factors_48 d q a0 x1 x2 (x3 + 1) H21)))))))))))))))))
set_option maxRecDepth 40000 in
set_option maxHeartbeats 4000000 in
theorem T_X12_factors_48 {d : Nat} {q : HP → Prop} {a0 : Nat} {x1 : Int32} {x2 : Int32} {x3 : Int32} {H : HP} (h : wb_X12_factors_48 d q a0 x1 x2 x3 H) : L_X12_factors_48 d q a0 x1 x2 x3 H := by
  unfold wb_X12_factors_48 at h
  unfold L_X12_factors_48
  refine wp_iload_n 3 dX12_factors_48 rfl ?_
  refine wp_aload_n 0 dX12_factors_49 rfl ?_
  obtain ⟨ht1, h⟩ := h
  refine wp_getC (ci := 12) (j := 35) dX12_factors_50 fi_X12_68r rfl rfl ht1 ?_
  change WP _ _ _ _ _ _ (rv (hC H 1335 a0) :: _) _ _
  refine wp_iload_n 1 dX12_factors_53 rfl ?_
  obtain ⟨a2, ha2, h⟩ := h
  obtain ⟨hr3, h⟩ := h
  obtain ⟨hg4, h⟩ := h
  refine wp_iaload dX12_factors_54 ha2 hr3 hg4 ?_
  refine wp_icmp_ge (tgt := 131) dX12_factors_55 rfl (fun c => ?_) (fun c => ?_)
  · replace h := h.1 c
    refine wp_iinc (v := (x1 + 1)) (ls' := [(1, .int (x1 + 1)), (0, rv (some a0)), (2, .int x2), (3, .int x3)]) 1 dX12_factors_131 rfl rfl (by decide) rfl ?_
    refine wp_goto (tgt := 21) dX12_factors_134 rfl ?_
    refine wp_sub (ls' := [(0, rv (some a0)), (1, .int (x1 + 1))]) [1, 0] rfl ?_
    exact h
  · replace h := h.2 c
    refine wp_aload_n 0 dX12_factors_58 rfl ?_
    refine wp_getI (ci := 12) (j := 21) dX12_factors_59 fi_X12_133r rfl rfl ht1 ?_
    change WP _ _ _ _ _ _ (.int (hI H 1321 a0 0) :: _) _ _
    refine wp_if_ne (tgt := 131) dX12_factors_62 rfl (fun c => ?_) (fun c => ?_)
    · replace h := h.1 c
      refine wp_iinc (v := (x1 + 1)) (ls' := [(1, .int (x1 + 1)), (0, rv (some a0)), (2, .int x2), (3, .int x3)]) 1 dX12_factors_131 rfl rfl (by decide) rfl ?_
      refine wp_goto (tgt := 21) dX12_factors_134 rfl ?_
      refine wp_sub (ls' := [(0, rv (some a0)), (1, .int (x1 + 1))]) [1, 0] rfl ?_
      exact h
    · replace h := h.2 c
      refine wp_aload_n 0 dX12_factors_65 rfl ?_
      refine wp_getC (ci := 12) (j := 36) dX12_factors_66 fi_X12_71r rfl rfl ht1 ?_
      change WP _ _ _ _ _ _ (rv (hC H 1336 a0) :: _) _ _
      refine wp_iload_n 1 dX12_factors_69 rfl ?_
      obtain ⟨a5, ha5, h⟩ := h
      obtain ⟨hr6, h⟩ := h
      obtain ⟨hg7, h⟩ := h
      refine wp_iaload dX12_factors_70 ha5 hr6 hg7 ?_
      refine wp_if_le (tgt := 101) dX12_factors_71 rfl (fun c => ?_) (fun c => ?_)
      · replace h := h.1 c
        refine wp_aload_n 0 dX12_factors_101 rfl ?_
        refine wp_aload_n 0 dX12_factors_102 rfl ?_
        refine wp_getL (ci := 12) (j := 19) dX12_factors_103 fi_X12_143r rfl rfl ht1 ?_
        change WP _ _ _ _ _ _ (.long (hL H 1319 a0 0) :: _) _ _
        refine wp_aload_n 0 dX12_factors_106 rfl ?_
        refine wp_getL (ci := 12) (j := 20) dX12_factors_107 fi_X12_147r rfl rfl ht1 ?_
        change WP _ _ _ _ _ _ (.long (hL H 1320 a0 0) :: _) _ _
        refine wp_aload_n 0 dX12_factors_110 rfl ?_
        refine wp_getC (ci := 12) (j := 3) dX12_factors_111 fi_X12_22r rfl rfl ht1 ?_
        change WP _ _ _ _ _ _ (rv (hC H 1303 a0) :: _) _ _
        refine wp_iload_n 2 dX12_factors_114 rfl ?_
        obtain ⟨a8, ha8, h⟩ := h
        obtain ⟨hr9, h⟩ := h
        obtain ⟨hg10, h⟩ := h
        refine wp_laload dX12_factors_115 ha8 hr9 hg10 ?_
        refine wp_aload_n 0 dX12_factors_116 rfl ?_
        refine wp_getC (ci := 12) (j := 4) dX12_factors_117 fi_X12_26r rfl rfl ht1 ?_
        change WP _ _ _ _ _ _ (rv (hC H 1304 a0) :: _) _ _
        refine wp_iload_n 2 dX12_factors_120 rfl ?_
        obtain ⟨a11, ha11, h⟩ := h
        obtain ⟨hr12, h⟩ := h
        obtain ⟨hg13, h⟩ := h
        refine wp_laload dX12_factors_121 ha11 hr12 hg13 ?_
        refine wp_callV (ci := 12) (As := [.long (hL H 1319 a0 0), .long (hL H 1320 a0 0), .long (hL H (tg H a8) a8 x2.toNatClampNeg), .long (hL H (tg H a11) a11 x2.toNatClampNeg)]) (rest := []) (mc := 0) (ms := 0) dX12_factors_122 lk_X12_253 rfl rfl (by decide) rfl rfl rfl ht1 rfl rfl rfl w_7_56 (Call.weaken h ?_)
        rintro H14 _ ⟨rfl, h⟩
        change WP _ _ _ _ _ _ [] H14 _
        refine wp_iinc (v := (x3 + 1)) (ls' := [(3, .int (x3 + 1)), (0, rv (some a0)), (1, .int x1), (2, .int x2)]) 3 dX12_factors_125 rfl rfl (by decide) rfl ?_
        refine wp_goto (tgt := 48) dX12_factors_128 rfl ?_
        refine wp_sub (ls' := [(0, rv (some a0)), (1, .int x1), (2, .int x2), (3, .int (x3 + 1))]) [1, 2, 3, 0] rfl ?_
        exact h
      · replace h := h.2 c
        refine wp_aload_n 0 dX12_factors_74 rfl ?_
        refine wp_aload_n 0 dX12_factors_75 rfl ?_
        refine wp_getL (ci := 12) (j := 19) dX12_factors_76 fi_X12_143r rfl rfl ht1 ?_
        change WP _ _ _ _ _ _ (.long (hL H 1319 a0 0) :: _) _ _
        refine wp_aload_n 0 dX12_factors_79 rfl ?_
        refine wp_getL (ci := 12) (j := 20) dX12_factors_80 fi_X12_147r rfl rfl ht1 ?_
        change WP _ _ _ _ _ _ (.long (hL H 1320 a0 0) :: _) _ _
        refine wp_aload_n 0 dX12_factors_83 rfl ?_
        refine wp_getC (ci := 12) (j := 3) dX12_factors_84 fi_X12_22r rfl rfl ht1 ?_
        change WP _ _ _ _ _ _ (rv (hC H 1303 a0) :: _) _ _
        refine wp_iload_n 2 dX12_factors_87 rfl ?_
        obtain ⟨a15, ha15, h⟩ := h
        obtain ⟨hr16, h⟩ := h
        obtain ⟨hg17, h⟩ := h
        refine wp_laload dX12_factors_88 ha15 hr16 hg17 ?_
        refine wp_aload_n 0 dX12_factors_89 rfl ?_
        refine wp_getC (ci := 12) (j := 4) dX12_factors_90 fi_X12_26r rfl rfl ht1 ?_
        change WP _ _ _ _ _ _ (rv (hC H 1304 a0) :: _) _ _
        refine wp_iload_n 2 dX12_factors_93 rfl ?_
        obtain ⟨a18, ha18, h⟩ := h
        obtain ⟨hr19, h⟩ := h
        obtain ⟨hg20, h⟩ := h
        refine wp_laload dX12_factors_94 ha18 hr19 hg20 ?_
        refine wp_callV (ci := 12) (As := [.long (hL H 1319 a0 0), .long (hL H 1320 a0 0), .long (hL H (tg H a15) a15 x2.toNatClampNeg), .long (hL H (tg H a18) a18 x2.toNatClampNeg)]) (rest := []) (mc := 0) (ms := 0) dX12_factors_95 lk_X12_153 rfl rfl (by decide) rfl rfl rfl ht1 rfl rfl rfl w_7_47 (Call.weaken h ?_)
        rintro H21 _ ⟨rfl, h⟩
        change WP _ _ _ _ _ _ [] H21 _
        refine wp_goto (tgt := 125) dX12_factors_98 rfl ?_
        refine wp_iinc (v := (x3 + 1)) (ls' := [(3, .int (x3 + 1)), (0, rv (some a0)), (1, .int x1), (2, .int x2)]) 3 dX12_factors_125 rfl rfl (by decide) rfl ?_
        refine wp_goto (tgt := 48) dX12_factors_128 rfl ?_
        refine wp_sub (ls' := [(0, rv (some a0)), (1, .int x1), (2, .int x2), (3, .int (x3 + 1))]) [1, 2, 3, 0] rfl ?_
        exact h
theorem C_X12_factors {d : Nat} {q : HP → Prop} {a0 : Nat} {H : HP} (h : wb_X12_factors_0 d q a0 H) : CV (d + 1) 0 0 mX12_factors [rv (some a0)] H q := by
  refine call_of (by decide +kernel) (by simp [lg_sl, rv_cat, vc_int, vc_long, vc_float, vc_double]) ?_
  have e : lv_args 0 [rv (some a0)] = [(0, rv (some a0))] := by simp [lv_args, rv_cat, vc_int, vc_long, vc_float, vc_double]
  rw [e]
  exact T_X12_factors_0 h
def wb_X12_fails_0 (d : Nat) (q : HP → Prop) (a0 : Nat) (H : HP) : Prop :=
  tg H a0 = 13 ∧ ((0 ≤ (hI H 1325 a0 0) → q H) ∧ (¬ (0 ≤ (hI H 1325 a0 0)) → q (sI H 1325 a0 0 (hI H 1324 a0 0))))
set_option maxRecDepth 40000 in
set_option maxHeartbeats 4000000 in
theorem T_X12_fails_0 {d : Nat} {q : HP → Prop} {a0 : Nat} {H : HP} (h : wb_X12_fails_0 d q a0 H) : WP (d + 1) mX12_fails 0 0 0 [(0, rv (some a0))] [] H (qV q) := by
  unfold wb_X12_fails_0 at h
  refine wp_aload_n 0 dX12_fails_0 rfl ?_
  obtain ⟨ht1, h⟩ := h
  refine wp_getI (ci := 12) (j := 25) dX12_fails_1 fi_X12_189r rfl rfl ht1 ?_
  change WP _ _ _ _ _ _ (.int (hI H 1325 a0 0) :: _) _ _
  refine wp_if_ge (tgt := 15) dX12_fails_4 rfl (fun c => ?_) (fun c => ?_)
  · replace h := h.1 c
    exact wp_return dX12_fails_15 rfl ⟨rfl, h⟩
  · replace h := h.2 c
    refine wp_aload_n 0 dX12_fails_7 rfl ?_
    refine wp_aload_n 0 dX12_fails_8 rfl ?_
    refine wp_getI (ci := 12) (j := 24) dX12_fails_9 fi_X12_174r rfl rfl ht1 ?_
    change WP _ _ _ _ _ _ (.int (hI H 1324 a0 0) :: _) _ _
    refine wp_putI (ci := 12) (j := 25) dX12_fails_12 fi_X12_189 rfl (fun z => by cases z) rfl ht1 rfl rfl ?_
    change WP _ _ _ _ _ _ _ (sI H 1325 a0 0 (hI H 1324 a0 0)) _
    exact wp_return dX12_fails_15 rfl ⟨rfl, h⟩
theorem C_X12_fails {d : Nat} {q : HP → Prop} {a0 : Nat} {H : HP} (h : wb_X12_fails_0 d q a0 H) : CV (d + 1) 0 0 mX12_fails [rv (some a0)] H q := by
  refine call_of (by decide +kernel) (by simp [lg_sl, rv_cat, vc_int, vc_long, vc_float, vc_double]) ?_
  have e : lv_args 0 [rv (some a0)] = [(0, rv (some a0))] := by simp [lv_args, rv_cat, vc_int, vc_long, vc_float, vc_double]
  rw [e]
  exact T_X12_fails_0 h
def wb_X12_feed_0 (d : Nat) (q : HP → Int32 → Prop) (a0 : Nat) (x1 : Int32) (H : HP) : Prop :=
  CZ d 0 0 mX12_isIn [.long (x1.toInt64), .long (1 : Int64), .long (127 : Int64)] H (fun H1 b2 => (b2 = true → tg H1 a0 = 13 ∧ ((¬ (hI H1 1323 a0 0) = (60 : Int32) → ∃ a4, (hC H1 1322 a0) = some a4 ∧ (isA H1 a4 0 ∧ (vp_in (hI H1 1323 a0 0) (ln H1 a4) ∧ (q (sI (sI H1 (tg H1 a4) a4 (hI H1 1323 a0 0).toNatClampNeg x1) 1323 a0 0 ((hI (sI H1 (tg H1 a4) a4 (hI H1 1323 a0 0).toNatClampNeg x1) 1323 a0 0) + (1 : Int32))) (hI (sI (sI H1 (tg H1 a4) a4 (hI H1 1323 a0 0).toNatClampNeg x1) 1323 a0 0 ((hI (sI H1 (tg H1 a4) a4 (hI H1 1323 a0 0).toNatClampNeg x1) 1323 a0 0) + (1 : Int32))) 1323 a0 0))))) ∧ ((hI H1 1323 a0 0) = (60 : Int32) → q H1 (-4 : Int32)))) ∧ (b2 = false → q H1 (-2 : Int32)))
set_option maxRecDepth 40000 in
set_option maxHeartbeats 4000000 in
theorem T_X12_feed_0 {d : Nat} {q : HP → Int32 → Prop} {a0 : Nat} {x1 : Int32} {H : HP} (h : wb_X12_feed_0 d q a0 x1 H) : WP (d + 1) mX12_feed 0 0 0 [(0, rv (some a0)), (1, .int x1)] [] H (qI q) := by
  unfold wb_X12_feed_0 at h
  refine wp_iload_n 1 dX12_feed_0 rfl ?_
  refine wp_i2l dX12_feed_1 ?_
  refine wp_lconst (v := (1 : Int64)) dX12_feed_2 (by decide) ?_
  refine wp_ldc2 dX12_feed_3 w_6_186 ?_
  refine wp_callS (As := [.long (x1.toInt64), .long (1 : Int64), .long (127 : Int64)]) (rest := []) (mc := 0) (ms := 0) dX12_feed_6 lk_X12_161 rfl rfl (by decide) rfl rfl rfl (Call.weaken h ?_)
  rintro H1 _ ⟨b2, rfl, h⟩
  change WP _ _ _ _ _ _ [.int (bI b2)] H1 _
  refine wp_if_ne (tgt := 15) dX12_feed_9 rfl (fun c => ?_) (fun c => ?_)
  · replace h := h.1 (bI_1.mp c)
    refine wp_aload_n 0 dX12_feed_15 rfl ?_
    obtain ⟨ht3, h⟩ := h
    refine wp_getI (ci := 12) (j := 23) dX12_feed_16 fi_X12_171r rfl rfl ht3 ?_
    change WP _ _ _ _ _ _ (.int (hI H1 1323 a0 0) :: _) _ _
    refine wp_bipush (v := (60 : Int32)) dX12_feed_19 (by decide) ?_
    refine wp_icmp_ne (tgt := 27) dX12_feed_21 rfl (fun c => ?_) (fun c => ?_)
    · replace h := h.1 c
      refine wp_aload_n 0 dX12_feed_27 rfl ?_
      refine wp_getC (ci := 12) (j := 22) dX12_feed_28 fi_X12_59r rfl rfl ht3 ?_
      change WP _ _ _ _ _ _ (rv (hC H1 1322 a0) :: _) _ _
      refine wp_aload_n 0 dX12_feed_31 rfl ?_
      refine wp_getI (ci := 12) (j := 23) dX12_feed_32 fi_X12_171r rfl rfl ht3 ?_
      change WP _ _ _ _ _ _ (.int (hI H1 1323 a0 0) :: _) _ _
      refine wp_iload_n 1 dX12_feed_35 rfl ?_
      obtain ⟨a4, ha4, h⟩ := h
      obtain ⟨hr5, h⟩ := h
      obtain ⟨hg6, h⟩ := h
      refine wp_iastore dX12_feed_36 ha4 hr5 hg6 ?_
      change WP _ _ _ _ _ _ _ (sI H1 (tg H1 a4) a4 (hI H1 1323 a0 0).toNatClampNeg x1) _
      refine wp_aload_n 0 dX12_feed_37 rfl ?_
      refine wp_dup dX12_feed_38 (rv_cat _) ?_
      refine wp_getI (ci := 12) (j := 23) dX12_feed_39 fi_X12_171r rfl rfl ht3 ?_
      change WP _ _ _ _ _ _ (.int (hI (sI H1 (tg H1 a4) a4 (hI H1 1323 a0 0).toNatClampNeg x1) 1323 a0 0) :: _) _ _
      refine wp_iconst (v := (1 : Int32)) dX12_feed_42 (by decide) ?_
      refine wp_iadd dX12_feed_43 ?_
      refine wp_putI (ci := 12) (j := 23) dX12_feed_44 fi_X12_171 rfl (fun z => by cases z) rfl ht3 rfl rfl ?_
      change WP _ _ _ _ _ _ _ (sI (sI H1 (tg H1 a4) a4 (hI H1 1323 a0 0).toNatClampNeg x1) 1323 a0 0 ((hI (sI H1 (tg H1 a4) a4 (hI H1 1323 a0 0).toNatClampNeg x1) 1323 a0 0) + (1 : Int32))) _
      refine wp_aload_n 0 dX12_feed_47 rfl ?_
      refine wp_getI (ci := 12) (j := 23) dX12_feed_48 fi_X12_171r rfl rfl ht3 ?_
      change WP _ _ _ _ _ _ (.int (hI (sI (sI H1 (tg H1 a4) a4 (hI H1 1323 a0 0).toNatClampNeg x1) 1323 a0 0 ((hI (sI H1 (tg H1 a4) a4 (hI H1 1323 a0 0).toNatClampNeg x1) 1323 a0 0) + (1 : Int32))) 1323 a0 0) :: _) _ _
      exact wp_ireturn (ty := .int) dX12_feed_51 rfl rfl ⟨_, rfl, h⟩
    · replace h := h.2 c
      refine wp_bipush (v := (-4 : Int32)) dX12_feed_24 (by decide) ?_
      exact wp_ireturn (ty := .int) dX12_feed_26 rfl rfl ⟨_, rfl, h⟩
  · replace h := h.2 (bI_0.mp c)
    refine wp_bipush (v := (-2 : Int32)) dX12_feed_12 (by decide) ?_
    exact wp_ireturn (ty := .int) dX12_feed_14 rfl rfl ⟨_, rfl, h⟩
theorem C_X12_feed {d : Nat} {q : HP → Int32 → Prop} {a0 : Nat} {x1 : Int32} {H : HP} (h : wb_X12_feed_0 d q a0 x1 H) : CI (d + 1) 0 0 mX12_feed [rv (some a0), .int x1] H q := by
  refine call_of (by decide +kernel) (by simp [lg_sl, rv_cat, vc_int, vc_long, vc_float, vc_double]) ?_
  have e : lv_args 0 [rv (some a0), .int x1] = [(0, rv (some a0)), (1, .int x1)] := by simp [lv_args, rv_cat, vc_int, vc_long, vc_float, vc_double]
  rw [e]
  exact T_X12_feed_0 h
def wb_X12_figure_0 (d : Nat) (q : HP → Int32 → Prop) (a0 : Nat) (H : HP) : Prop :=
  tg H a0 = 13 ∧ ((0 ≤ (hI H 1325 a0 0) → q H (1 : Int32)) ∧ (¬ (0 ≤ (hI H 1325 a0 0)) → CI d 0 0 mX12_here [rv (some a0)] H (fun H2 r3 => CZ d 0 0 mX12_isIn [.long (r3.toInt64), .long (49 : Int64), .long (52 : Int64)] H2 (fun H4 b5 => (b5 = true → tg H4 a0 = 13 ∧ (∃ a7, (hC (sI H4 1324 a0 0 ((hI H4 1324 a0 0) + (1 : Int32))) 1322 a0) = some a7 ∧ (isA (sI H4 1324 a0 0 ((hI H4 1324 a0 0) + (1 : Int32))) a7 0 ∧ (vp_in ((hI (sI H4 1324 a0 0 ((hI H4 1324 a0 0) + (1 : Int32))) 1324 a0 0) - (1 : Int32)) (ln (sI H4 1324 a0 0 ((hI H4 1324 a0 0) + (1 : Int32))) a7) ∧ (q (sI H4 1324 a0 0 ((hI H4 1324 a0 0) + (1 : Int32))) ((hI (sI H4 1324 a0 0 ((hI H4 1324 a0 0) + (1 : Int32))) (tg (sI H4 1324 a0 0 ((hI H4 1324 a0 0) + (1 : Int32))) a7) a7 ((hI (sI H4 1324 a0 0 ((hI H4 1324 a0 0) + (1 : Int32))) 1324 a0 0) - (1 : Int32)).toNatClampNeg) - (48 : Int32))))))) ∧ (b5 = false → q H4 (1 : Int32))))))
set_option maxRecDepth 40000 in
set_option maxHeartbeats 4000000 in
theorem T_X12_figure_0 {d : Nat} {q : HP → Int32 → Prop} {a0 : Nat} {H : HP} (h : wb_X12_figure_0 d q a0 H) : WP (d + 1) mX12_figure 0 0 0 [(0, rv (some a0))] [] H (qI q) := by
  unfold wb_X12_figure_0 at h
  refine wp_aload_n 0 dX12_figure_0 rfl ?_
  obtain ⟨ht1, h⟩ := h
  refine wp_getI (ci := 12) (j := 25) dX12_figure_1 fi_X12_189r rfl rfl ht1 ?_
  change WP _ _ _ _ _ _ (.int (hI H 1325 a0 0) :: _) _ _
  refine wp_if_ge (tgt := 24) dX12_figure_4 rfl (fun c => ?_) (fun c => ?_)
  · replace h := h.1 c
    refine wp_iconst (v := (1 : Int32)) dX12_figure_24 (by decide) ?_
    exact wp_ireturn (ty := .int) dX12_figure_25 rfl rfl ⟨_, rfl, h⟩
  · replace h := h.2 c
    refine wp_aload_n 0 dX12_figure_7 rfl ?_
    refine wp_callV (ci := 12) (As := []) (rest := []) (mc := 0) (ms := 0) dX12_figure_8 lk_X12_177 rfl rfl (by decide) rfl rfl rfl ht1 rfl rfl rfl w_6_206 (Call.weaken h ?_)
    rintro H2 _ ⟨r3, rfl, h⟩
    change WP _ _ _ _ _ _ [.int r3] H2 _
    refine wp_i2l dX12_figure_11 ?_
    refine wp_ldc2 dX12_figure_12 w_7_2 ?_
    refine wp_ldc2 dX12_figure_15 w_7_3 ?_
    refine wp_callS (As := [.long (r3.toInt64), .long (49 : Int64), .long (52 : Int64)]) (rest := []) (mc := 0) (ms := 0) dX12_figure_18 lk_X12_161 rfl rfl (by decide) rfl rfl rfl (Call.weaken h ?_)
    rintro H4 _ ⟨b5, rfl, h⟩
    change WP _ _ _ _ _ _ [.int (bI b5)] H4 _
    refine wp_if_ne (tgt := 26) dX12_figure_21 rfl (fun c => ?_) (fun c => ?_)
    · replace h := h.1 (bI_1.mp c)
      refine wp_aload_n 0 dX12_figure_26 rfl ?_
      refine wp_dup dX12_figure_27 (rv_cat _) ?_
      obtain ⟨ht6, h⟩ := h
      refine wp_getI (ci := 12) (j := 24) dX12_figure_28 fi_X12_174r rfl rfl ht6 ?_
      change WP _ _ _ _ _ _ (.int (hI H4 1324 a0 0) :: _) _ _
      refine wp_iconst (v := (1 : Int32)) dX12_figure_31 (by decide) ?_
      refine wp_iadd dX12_figure_32 ?_
      refine wp_putI (ci := 12) (j := 24) dX12_figure_33 fi_X12_174 rfl (fun z => by cases z) rfl ht6 rfl rfl ?_
      change WP _ _ _ _ _ _ _ (sI H4 1324 a0 0 ((hI H4 1324 a0 0) + (1 : Int32))) _
      refine wp_aload_n 0 dX12_figure_36 rfl ?_
      refine wp_getC (ci := 12) (j := 22) dX12_figure_37 fi_X12_59r rfl rfl ht6 ?_
      change WP _ _ _ _ _ _ (rv (hC (sI H4 1324 a0 0 ((hI H4 1324 a0 0) + (1 : Int32))) 1322 a0) :: _) _ _
      refine wp_aload_n 0 dX12_figure_40 rfl ?_
      refine wp_getI (ci := 12) (j := 24) dX12_figure_41 fi_X12_174r rfl rfl ht6 ?_
      change WP _ _ _ _ _ _ (.int (hI (sI H4 1324 a0 0 ((hI H4 1324 a0 0) + (1 : Int32))) 1324 a0 0) :: _) _ _
      refine wp_iconst (v := (1 : Int32)) dX12_figure_44 (by decide) ?_
      refine wp_isub dX12_figure_45 ?_
      obtain ⟨a7, ha7, h⟩ := h
      obtain ⟨hr8, h⟩ := h
      obtain ⟨hg9, h⟩ := h
      refine wp_iaload dX12_figure_46 ha7 hr8 hg9 ?_
      refine wp_bipush (v := (48 : Int32)) dX12_figure_47 (by decide) ?_
      refine wp_isub dX12_figure_49 ?_
      exact wp_ireturn (ty := .int) dX12_figure_50 rfl rfl ⟨_, rfl, h⟩
    · replace h := h.2 (bI_0.mp c)
      refine wp_iconst (v := (1 : Int32)) dX12_figure_24 (by decide) ?_
      exact wp_ireturn (ty := .int) dX12_figure_25 rfl rfl ⟨_, rfl, h⟩
theorem C_X12_figure {d : Nat} {q : HP → Int32 → Prop} {a0 : Nat} {H : HP} (h : wb_X12_figure_0 d q a0 H) : CI (d + 1) 0 0 mX12_figure [rv (some a0)] H q := by
  refine call_of (by decide +kernel) (by simp [lg_sl, rv_cat, vc_int, vc_long, vc_float, vc_double]) ?_
  have e : lv_args 0 [rv (some a0)] = [(0, rv (some a0))] := by simp [lv_args, rv_cat, vc_int, vc_long, vc_float, vc_double]
  rw [e]
  exact T_X12_figure_0 h
/-- UnitProverModel.figures(I)I: the loop at 7 -/
def L_X12_figures_7 (d : Nat) (q : HP → Int32 → Prop) (a0 : Nat) (x1 : Int32) (x2 : Int32) (x3 : Int32) (H : HP) : Prop := WP (d + 1) mX12_figures 0 0 7 [(0, rv (some a0)), (1, .int x1), (2, .int x2), (3, .int x3)] [] H (qI q)
def wb_X12_figures_0 (d : Nat) (q : HP → Int32 → Prop) (a0 : Nat) (x1 : Int32) (H : HP) : Prop :=
  tg H a0 = 13 ∧ (L_X12_figures_7 d q a0 x1 (hI H 1324 a0 0) (0 : Int32) H)
set_option maxRecDepth 40000 in
set_option maxHeartbeats 4000000 in
theorem T_X12_figures_0 {d : Nat} {q : HP → Int32 → Prop} {a0 : Nat} {x1 : Int32} {H : HP} (h : wb_X12_figures_0 d q a0 x1 H) : WP (d + 1) mX12_figures 0 0 0 [(0, rv (some a0)), (1, .int x1)] [] H (qI q) := by
  unfold wb_X12_figures_0 at h
  refine wp_aload_n 0 dX12_figures_0 rfl ?_
  obtain ⟨ht1, h⟩ := h
  refine wp_getI (ci := 12) (j := 24) dX12_figures_1 fi_X12_174r rfl rfl ht1 ?_
  change WP _ _ _ _ _ _ (.int (hI H 1324 a0 0) :: _) _ _
  refine wp_istore_n (ls' := [(2, .int (hI H 1324 a0 0)), (0, rv (some a0)), (1, .int x1)]) dX12_figures_4 (by decide) rfl ?_
  refine wp_iconst (v := (0 : Int32)) dX12_figures_5 (by decide) ?_
  refine wp_istore_n (ls' := [(3, .int (0 : Int32)), (2, .int (hI H 1324 a0 0)), (0, rv (some a0)), (1, .int x1)]) dX12_figures_6 (by decide) rfl ?_
  refine wp_sub (ls' := [(0, rv (some a0)), (1, .int x1), (2, .int (hI H 1324 a0 0)), (3, .int (0 : Int32))]) [2, 3, 1, 0] rfl ?_
  exact h
def wb_X12_figures_7 (d : Nat) (q : HP → Int32 → Prop) (a0 : Nat) (x1 : Int32) (x2 : Int32) (x3 : Int32) (H : HP) : Prop :=
  tg H a0 = 13 ∧ ((0 ≤ (hI H 1325 a0 0) → ((hI H 1324 a0 0) = x2 → CV d 0 0 mX12_fails [rv (some a0)] H (fun H2 => q H2 x3)) ∧ (¬ ((hI H 1324 a0 0) = x2) → CZ d 0 0 mX12_isFigure [rv (some a0)] H (fun H3 b4 => (b4 = false → q H3 x3) ∧ (b4 = true → tg H3 a0 = 13 ∧ (CV d 0 0 mX12_fails [rv (some a0)] H3 (fun H5 => q H5 x3)))))) ∧ (¬ (0 ≤ (hI H 1325 a0 0)) → CZ d 0 0 mX12_isFigure [rv (some a0)] H (fun H7 b8 => (b8 = false → tg H7 a0 = 13 ∧ (((hI H7 1324 a0 0) = x2 → CV d 0 0 mX12_fails [rv (some a0)] H7 (fun H10 => q H10 x3)) ∧ (¬ ((hI H7 1324 a0 0) = x2) → CZ d 0 0 mX12_isFigure [rv (some a0)] H7 (fun H11 b12 => (b12 = false → q H11 x3) ∧ (b12 = true → tg H11 a0 = 13 ∧ (CV d 0 0 mX12_fails [rv (some a0)] H11 (fun H13 => q H13 x3))))))) ∧ (b8 = true → tg H7 a0 = 13 ∧ (((x2 + x1) ≤ (hI H7 1324 a0 0) → ((hI H7 1324 a0 0) = x2 → CV d 0 0 mX12_fails [rv (some a0)] H7 (fun H16 => q H16 x3)) ∧ (¬ ((hI H7 1324 a0 0) = x2) → CZ d 0 0 mX12_isFigure [rv (some a0)] H7 (fun H17 b18 => (b18 = false → q H17 x3) ∧ (b18 = true → tg H17 a0 = 13 ∧ (CV d 0 0 mX12_fails [rv (some a0)] H17 (fun H19 => q H19 x3)))))) ∧ (¬ ((x2 + x1) ≤ (hI H7 1324 a0 0)) → CI d 0 0 mX12_here [rv (some a0)] H7 (fun H21 r22 => tg H21 a0 = 13 ∧ (L_X12_figures_7 d q a0 x1 x2 ((((10 : Int32) * x3) + r22) - (48 : Int32)) (sI H21 1324 a0 0 ((hI H21 1324 a0 0) + (1 : Int32)))))))))))
set_option maxRecDepth 40000 in
set_option maxHeartbeats 4000000 in
theorem T_X12_figures_7 {d : Nat} {q : HP → Int32 → Prop} {a0 : Nat} {x1 : Int32} {x2 : Int32} {x3 : Int32} {H : HP} (h : wb_X12_figures_7 d q a0 x1 x2 x3 H) : L_X12_figures_7 d q a0 x1 x2 x3 H := by
  unfold wb_X12_figures_7 at h
  unfold L_X12_figures_7
  refine wp_aload_n 0 dX12_figures_7 rfl ?_
  obtain ⟨ht1, h⟩ := h
  refine wp_getI (ci := 12) (j := 25) dX12_figures_8 fi_X12_189r rfl rfl ht1 ?_
  change WP _ _ _ _ _ _ (.int (hI H 1325 a0 0) :: _) _ _
  refine wp_if_ge (tgt := 57) dX12_figures_11 rfl (fun c => ?_) (fun c => ?_)
  · replace h := h.1 c
    refine wp_aload_n 0 dX12_figures_57 rfl ?_
    refine wp_getI (ci := 12) (j := 24) dX12_figures_58 fi_X12_174r rfl rfl ht1 ?_
    change WP _ _ _ _ _ _ (.int (hI H 1324 a0 0) :: _) _ _
    refine wp_iload_n 2 dX12_figures_61 rfl ?_
    refine wp_icmp_eq (tgt := 72) dX12_figures_62 rfl (fun c => ?_) (fun c => ?_)
    · replace h := h.1 c
      refine wp_aload_n 0 dX12_figures_72 rfl ?_
      refine wp_callV (ci := 12) (As := []) (rest := []) (mc := 0) (ms := 0) dX12_figures_73 lk_X12_192 rfl rfl (by decide) rfl rfl rfl ht1 rfl rfl rfl w_6_212 (Call.weaken h ?_)
      rintro H2 _ ⟨rfl, h⟩
      change WP _ _ _ _ _ _ [] H2 _
      refine wp_iload_n 3 dX12_figures_76 rfl ?_
      exact wp_ireturn (ty := .int) dX12_figures_77 rfl rfl ⟨_, rfl, h⟩
    · replace h := h.2 c
      refine wp_aload_n 0 dX12_figures_65 rfl ?_
      refine wp_callV (ci := 12) (As := []) (rest := []) (mc := 0) (ms := 0) dX12_figures_66 lk_X12_199 rfl rfl (by decide) rfl rfl rfl ht1 rfl rfl rfl w_6_224 (Call.weaken h ?_)
      rintro H3 _ ⟨b4, rfl, h⟩
      change WP _ _ _ _ _ _ [.int (bI b4)] H3 _
      refine wp_if_eq (tgt := 76) dX12_figures_69 rfl (fun c => ?_) (fun c => ?_)
      · replace h := h.1 (bI_0.mp c)
        refine wp_iload_n 3 dX12_figures_76 rfl ?_
        exact wp_ireturn (ty := .int) dX12_figures_77 rfl rfl ⟨_, rfl, h⟩
      · replace h := h.2 (bI_1.mp c)
        refine wp_aload_n 0 dX12_figures_72 rfl ?_
        obtain ⟨ht6, h⟩ := h
        refine wp_callV (ci := 12) (As := []) (rest := []) (mc := 0) (ms := 0) dX12_figures_73 lk_X12_192 rfl rfl (by decide) rfl rfl rfl ht6 rfl rfl rfl w_6_212 (Call.weaken h ?_)
        rintro H5 _ ⟨rfl, h⟩
        change WP _ _ _ _ _ _ [] H5 _
        refine wp_iload_n 3 dX12_figures_76 rfl ?_
        exact wp_ireturn (ty := .int) dX12_figures_77 rfl rfl ⟨_, rfl, h⟩
  · replace h := h.2 c
    refine wp_aload_n 0 dX12_figures_14 rfl ?_
    refine wp_callV (ci := 12) (As := []) (rest := []) (mc := 0) (ms := 0) dX12_figures_15 lk_X12_199 rfl rfl (by decide) rfl rfl rfl ht1 rfl rfl rfl w_6_224 (Call.weaken h ?_)
    rintro H7 _ ⟨b8, rfl, h⟩
    change WP _ _ _ _ _ _ [.int (bI b8)] H7 _
    refine wp_if_eq (tgt := 57) dX12_figures_18 rfl (fun c => ?_) (fun c => ?_)
    · replace h := h.1 (bI_0.mp c)
      refine wp_aload_n 0 dX12_figures_57 rfl ?_
      obtain ⟨ht9, h⟩ := h
      refine wp_getI (ci := 12) (j := 24) dX12_figures_58 fi_X12_174r rfl rfl ht9 ?_
      change WP _ _ _ _ _ _ (.int (hI H7 1324 a0 0) :: _) _ _
      refine wp_iload_n 2 dX12_figures_61 rfl ?_
      refine wp_icmp_eq (tgt := 72) dX12_figures_62 rfl (fun c => ?_) (fun c => ?_)
      · replace h := h.1 c
        refine wp_aload_n 0 dX12_figures_72 rfl ?_
        refine wp_callV (ci := 12) (As := []) (rest := []) (mc := 0) (ms := 0) dX12_figures_73 lk_X12_192 rfl rfl (by decide) rfl rfl rfl ht9 rfl rfl rfl w_6_212 (Call.weaken h ?_)
        rintro H10 _ ⟨rfl, h⟩
        change WP _ _ _ _ _ _ [] H10 _
        refine wp_iload_n 3 dX12_figures_76 rfl ?_
        exact wp_ireturn (ty := .int) dX12_figures_77 rfl rfl ⟨_, rfl, h⟩
      · replace h := h.2 c
        refine wp_aload_n 0 dX12_figures_65 rfl ?_
        refine wp_callV (ci := 12) (As := []) (rest := []) (mc := 0) (ms := 0) dX12_figures_66 lk_X12_199 rfl rfl (by decide) rfl rfl rfl ht9 rfl rfl rfl w_6_224 (Call.weaken h ?_)
        rintro H11 _ ⟨b12, rfl, h⟩
        change WP _ _ _ _ _ _ [.int (bI b12)] H11 _
        refine wp_if_eq (tgt := 76) dX12_figures_69 rfl (fun c => ?_) (fun c => ?_)
        · replace h := h.1 (bI_0.mp c)
          refine wp_iload_n 3 dX12_figures_76 rfl ?_
          exact wp_ireturn (ty := .int) dX12_figures_77 rfl rfl ⟨_, rfl, h⟩
        · replace h := h.2 (bI_1.mp c)
          refine wp_aload_n 0 dX12_figures_72 rfl ?_
          obtain ⟨ht14, h⟩ := h
          refine wp_callV (ci := 12) (As := []) (rest := []) (mc := 0) (ms := 0) dX12_figures_73 lk_X12_192 rfl rfl (by decide) rfl rfl rfl ht14 rfl rfl rfl w_6_212 (Call.weaken h ?_)
          rintro H13 _ ⟨rfl, h⟩
          change WP _ _ _ _ _ _ [] H13 _
          refine wp_iload_n 3 dX12_figures_76 rfl ?_
          exact wp_ireturn (ty := .int) dX12_figures_77 rfl rfl ⟨_, rfl, h⟩
    · replace h := h.2 (bI_1.mp c)
      refine wp_aload_n 0 dX12_figures_21 rfl ?_
      obtain ⟨ht15, h⟩ := h
      refine wp_getI (ci := 12) (j := 24) dX12_figures_22 fi_X12_174r rfl rfl ht15 ?_
      change WP _ _ _ _ _ _ (.int (hI H7 1324 a0 0) :: _) _ _
      refine wp_iload_n 2 dX12_figures_25 rfl ?_
      refine wp_iload_n 1 dX12_figures_26 rfl ?_
      refine wp_iadd dX12_figures_27 ?_
      refine wp_icmp_ge (tgt := 57) dX12_figures_28 rfl (fun c => ?_) (fun c => ?_)
      · replace h := h.1 c
        refine wp_aload_n 0 dX12_figures_57 rfl ?_
        refine wp_getI (ci := 12) (j := 24) dX12_figures_58 fi_X12_174r rfl rfl ht15 ?_
        change WP _ _ _ _ _ _ (.int (hI H7 1324 a0 0) :: _) _ _
        refine wp_iload_n 2 dX12_figures_61 rfl ?_
        refine wp_icmp_eq (tgt := 72) dX12_figures_62 rfl (fun c => ?_) (fun c => ?_)
        · replace h := h.1 c
          refine wp_aload_n 0 dX12_figures_72 rfl ?_
          refine wp_callV (ci := 12) (As := []) (rest := []) (mc := 0) (ms := 0) dX12_figures_73 lk_X12_192 rfl rfl (by decide) rfl rfl rfl ht15 rfl rfl rfl w_6_212 (Call.weaken h ?_)
          rintro H16 _ ⟨rfl, h⟩
          change WP _ _ _ _ _ _ [] H16 _
          refine wp_iload_n 3 dX12_figures_76 rfl ?_
          exact wp_ireturn (ty := .int) dX12_figures_77 rfl rfl ⟨_, rfl, h⟩
        · replace h := h.2 c
          refine wp_aload_n 0 dX12_figures_65 rfl ?_
          refine wp_callV (ci := 12) (As := []) (rest := []) (mc := 0) (ms := 0) dX12_figures_66 lk_X12_199 rfl rfl (by decide) rfl rfl rfl ht15 rfl rfl rfl w_6_224 (Call.weaken h ?_)
          rintro H17 _ ⟨b18, rfl, h⟩
          change WP _ _ _ _ _ _ [.int (bI b18)] H17 _
          refine wp_if_eq (tgt := 76) dX12_figures_69 rfl (fun c => ?_) (fun c => ?_)
          · replace h := h.1 (bI_0.mp c)
            refine wp_iload_n 3 dX12_figures_76 rfl ?_
            exact wp_ireturn (ty := .int) dX12_figures_77 rfl rfl ⟨_, rfl, h⟩
          · replace h := h.2 (bI_1.mp c)
            refine wp_aload_n 0 dX12_figures_72 rfl ?_
            obtain ⟨ht20, h⟩ := h
            refine wp_callV (ci := 12) (As := []) (rest := []) (mc := 0) (ms := 0) dX12_figures_73 lk_X12_192 rfl rfl (by decide) rfl rfl rfl ht20 rfl rfl rfl w_6_212 (Call.weaken h ?_)
            rintro H19 _ ⟨rfl, h⟩
            change WP _ _ _ _ _ _ [] H19 _
            refine wp_iload_n 3 dX12_figures_76 rfl ?_
            exact wp_ireturn (ty := .int) dX12_figures_77 rfl rfl ⟨_, rfl, h⟩
      · replace h := h.2 c
        refine wp_bipush (v := (10 : Int32)) dX12_figures_31 (by decide) ?_
        refine wp_iload_n 3 dX12_figures_33 rfl ?_
        refine wp_imul dX12_figures_34 ?_
        refine wp_aload_n 0 dX12_figures_35 rfl ?_
        refine wp_callV (ci := 12) (As := []) (rest := [.int ((10 : Int32) * x3)]) (mc := 0) (ms := 0) dX12_figures_36 lk_X12_177 rfl rfl (by simp [rv_cat, vc_int, vc_long, vc_float, vc_double]) rfl rfl rfl ht15 rfl rfl rfl w_6_206 (Call.weaken h ?_)
        rintro H21 _ ⟨r22, rfl, h⟩
        change WP _ _ _ _ _ _ [.int r22, .int ((10 : Int32) * x3)] H21 _
        refine wp_iadd dX12_figures_39 ?_
        refine wp_bipush (v := (48 : Int32)) dX12_figures_40 (by decide) ?_
        refine wp_isub dX12_figures_42 ?_
        refine wp_istore_n (ls' := [(3, .int ((((10 : Int32) * x3) + r22) - (48 : Int32))), (0, rv (some a0)), (1, .int x1), (2, .int x2)]) dX12_figures_43 (by decide) rfl ?_
        refine wp_aload_n 1 dX12_figures_44 rfl ?_
        refine wp_dup dX12_figures_45 (rv_cat _) ?_
        obtain ⟨ht23, h⟩ := h
        refine wp_getI (ci := 12) (j := 24) dX12_figures_46 fi_X12_174r rfl rfl ht23 ?_
        change WP _ _ _ _ _ _ (.int (hI H21 1324 a0 0) :: _) _ _
        refine wp_iconst (v := (1 : Int32)) dX12_figures_49 (by decide) ?_
        refine wp_iadd dX12_figures_50 ?_
        refine wp_putI (ci := 12) (j := 24) dX12_figures_51 fi_X12_174 rfl (fun z => by cases z) rfl ht23 rfl rfl ?_
        change WP _ _ _ _ _ _ _ (sI H21 1324 a0 0 ((hI H21 1324 a0 0) + (1 : Int32))) _
        refine wp_goto (tgt := 7) dX12_figures_54 rfl ?_
        refine wp_sub (ls' := [(0, rv (some a0)), (1, .int x1), (2, .int x2), (3, .int ((((10 : Int32) * x3) + r22) - (48 : Int32)))]) [1, 2, 3, 0] rfl ?_
        exact h
theorem C_X12_figures {d : Nat} {q : HP → Int32 → Prop} {a0 : Nat} {x1 : Int32} {H : HP} (h : wb_X12_figures_0 d q a0 x1 H) : CI (d + 1) 0 0 mX12_figures [rv (some a0), .int x1] H q := by
  refine call_of (by decide +kernel) (by simp [lg_sl, rv_cat, vc_int, vc_long, vc_float, vc_double]) ?_
  have e : lv_args 0 [rv (some a0), .int x1] = [(0, rv (some a0)), (1, .int x1)] := by simp [lv_args, rv_cat, vc_int, vc_long, vc_float, vc_double]
  rw [e]
  exact T_X12_figures_0 h
def wb_X12_find_0 (d : Nat) (q : HP → Int32 → Prop) (a0 : Nat) (H : HP) : Prop :=
  tg H a0 = 13 ∧ (CZ d 0 0 mX12_isIn [.long ((hI H 1323 a0 0).toInt64), .long (1 : Int64), .long (4 : Int64)] H (fun H2 b3 => (b3 = false → tg H2 a0 = 13 ∧ ((0 ≤ (-1 : Int32) → q (sI H2 1323 a0 0 (0 : Int32)) (-1 : Int32)) ∧ (¬ (0 ≤ (-1 : Int32)) → q (sI H2 1323 a0 0 (0 : Int32)) (-5 : Int32)))) ∧ (b3 = true → tg H2 a0 = 13 ∧ (CI d 0 0 mX12_whose [rv (some a0), .int (0 : Int32), .int (hI H2 1323 a0 0)] H2 (fun H6 r7 => tg H6 a0 = 13 ∧ ((0 ≤ r7 → q (sI H6 1323 a0 0 (0 : Int32)) r7) ∧ (¬ (0 ≤ r7) → q (sI H6 1323 a0 0 (0 : Int32)) (-5 : Int32))))))))
set_option maxRecDepth 40000 in
set_option maxHeartbeats 4000000 in
theorem T_X12_find_0 {d : Nat} {q : HP → Int32 → Prop} {a0 : Nat} {H : HP} (h : wb_X12_find_0 d q a0 H) : WP (d + 1) mX12_find 0 0 0 [(0, rv (some a0))] [] H (qI q) := by
  unfold wb_X12_find_0 at h
  refine wp_aload_n 0 dX12_find_0 rfl ?_
  obtain ⟨ht1, h⟩ := h
  refine wp_getI (ci := 12) (j := 23) dX12_find_1 fi_X12_171r rfl rfl ht1 ?_
  change WP _ _ _ _ _ _ (.int (hI H 1323 a0 0) :: _) _ _
  refine wp_i2l dX12_find_4 ?_
  refine wp_lconst (v := (1 : Int64)) dX12_find_5 (by decide) ?_
  refine wp_ldc2 dX12_find_6 w_7_72 ?_
  refine wp_callS (As := [.long ((hI H 1323 a0 0).toInt64), .long (1 : Int64), .long (4 : Int64)]) (rest := []) (mc := 0) (ms := 0) dX12_find_9 lk_X12_161 rfl rfl (by decide) rfl rfl rfl (Call.weaken h ?_)
  rintro H2 _ ⟨b3, rfl, h⟩
  change WP _ _ _ _ _ _ [.int (bI b3)] H2 _
  refine wp_istore_n (ls' := [(1, .int (bI b3)), (0, rv (some a0))]) dX12_find_12 (by decide) rfl ?_
  refine wp_iload_n 0 dX12_find_13 rfl ?_
  refine wp_if_eq (tgt := 29) dX12_find_14 rfl (fun c => ?_) (fun c => ?_)
  · replace h := h.1 (bI_0.mp c)
    refine wp_iconst (v := (-1 : Int32)) dX12_find_29 (by decide) ?_
    refine wp_istore_n (ls' := [(2, .int (-1 : Int32)), (1, .int (bI b3)), (0, rv (some a0))]) dX12_find_30 (by decide) rfl ?_
    refine wp_aload_n 2 dX12_find_31 rfl ?_
    refine wp_iconst (v := (0 : Int32)) dX12_find_32 (by decide) ?_
    obtain ⟨ht4, h⟩ := h
    refine wp_putI (ci := 12) (j := 23) dX12_find_33 fi_X12_171 rfl (fun z => by cases z) rfl ht4 rfl rfl ?_
    change WP _ _ _ _ _ _ _ (sI H2 1323 a0 0 (0 : Int32)) _
    refine wp_iload_n 0 dX12_find_36 rfl ?_
    refine wp_if_ge (tgt := 45) dX12_find_37 rfl (fun c => ?_) (fun c => ?_)
    · replace h := h.1 c
      refine wp_iload_n 0 dX12_find_45 rfl ?_
      exact wp_ireturn (ty := .int) dX12_find_46 rfl rfl ⟨_, rfl, h⟩
    · replace h := h.2 c
      refine wp_bipush (v := (-5 : Int32)) dX12_find_40 (by decide) ?_
      refine wp_goto (tgt := 46) dX12_find_42 rfl ?_
      exact wp_ireturn (ty := .int) dX12_find_46 rfl rfl ⟨_, rfl, h⟩
  · replace h := h.2 (bI_1.mp c)
    refine wp_aload_n 1 dX12_find_17 rfl ?_
    refine wp_iconst (v := (0 : Int32)) dX12_find_18 (by decide) ?_
    refine wp_aload_n 1 dX12_find_19 rfl ?_
    obtain ⟨ht5, h⟩ := h
    refine wp_getI (ci := 12) (j := 23) dX12_find_20 fi_X12_171r rfl rfl ht5 ?_
    change WP _ _ _ _ _ _ (.int (hI H2 1323 a0 0) :: _) _ _
    refine wp_callV (ci := 12) (As := [.int (0 : Int32), .int (hI H2 1323 a0 0)]) (rest := []) (mc := 0) (ms := 0) dX12_find_23 lk_X12_243 rfl rfl (by decide) rfl rfl rfl ht5 rfl rfl rfl w_7_8 (Call.weaken h ?_)
    rintro H6 _ ⟨r7, rfl, h⟩
    change WP _ _ _ _ _ _ [.int r7] H6 _
    refine wp_goto (tgt := 30) dX12_find_26 rfl ?_
    refine wp_istore_n (ls' := [(2, .int r7), (1, .int (bI b3)), (0, rv (some a0))]) dX12_find_30 (by decide) rfl ?_
    refine wp_aload_n 2 dX12_find_31 rfl ?_
    refine wp_iconst (v := (0 : Int32)) dX12_find_32 (by decide) ?_
    obtain ⟨ht8, h⟩ := h
    refine wp_putI (ci := 12) (j := 23) dX12_find_33 fi_X12_171 rfl (fun z => by cases z) rfl ht8 rfl rfl ?_
    change WP _ _ _ _ _ _ _ (sI H6 1323 a0 0 (0 : Int32)) _
    refine wp_iload_n 0 dX12_find_36 rfl ?_
    refine wp_if_ge (tgt := 45) dX12_find_37 rfl (fun c => ?_) (fun c => ?_)
    · replace h := h.1 c
      refine wp_iload_n 0 dX12_find_45 rfl ?_
      exact wp_ireturn (ty := .int) dX12_find_46 rfl rfl ⟨_, rfl, h⟩
    · replace h := h.2 c
      refine wp_bipush (v := (-5 : Int32)) dX12_find_40 (by decide) ?_
      refine wp_goto (tgt := 46) dX12_find_42 rfl ?_
      exact wp_ireturn (ty := .int) dX12_find_46 rfl rfl ⟨_, rfl, h⟩
theorem C_X12_find {d : Nat} {q : HP → Int32 → Prop} {a0 : Nat} {H : HP} (h : wb_X12_find_0 d q a0 H) : CI (d + 1) 0 0 mX12_find [rv (some a0)] H q := by
  refine call_of (by decide +kernel) (by simp [lg_sl, rv_cat, vc_int, vc_long, vc_float, vc_double]) ?_
  have e : lv_args 0 [rv (some a0)] = [(0, rv (some a0))] := by simp [lv_args, rv_cat, vc_int, vc_long, vc_float, vc_double]
  rw [e]
  exact T_X12_find_0 h
def wb_X12_formula_63 (d : Nat) (q : HP → Prop) (a0 : Nat) (x1 : Int32) (x2 : Int32) (x3 : Int32) (H : HP) : Prop :=
  tg H a0 = 13 ∧ (((hI H 1323 a0 0) ≤ (hI H 1324 a0 0) → ((hI H 1338 a0 0) = 0 → q H) ∧ (¬ ((hI H 1338 a0 0) = 0) → ((hI H 1325 a0 0) < 0 → okZ x2 ∧ ((x2 = 0 → q (sI (sI (sI H 1340 a0 0 x2) 1343 a0 0 x1) 1344 a0 0 x3)) ∧ (¬ (x2 = 0) → CI d 0 0 mX12_added [rv (some a0), .int x1, .int x3, .int (-1 : Int32), .int (5 : Int32)] (sI (sI (sI H 1340 a0 0 x2) 1343 a0 0 x1) 1344 a0 0 x3) (fun H3 r4 => q H3)))) ∧ (¬ ((hI H 1325 a0 0) < 0) → q H))) ∧ (¬ ((hI H 1323 a0 0) ≤ (hI H 1324 a0 0)) → CV d 0 0 mX12_fails [rv (some a0)] H (fun H5 => tg H5 a0 = 13 ∧ (((hI H5 1338 a0 0) = 0 → q H5) ∧ (¬ ((hI H5 1338 a0 0) = 0) → ((hI H5 1325 a0 0) < 0 → okZ x2 ∧ ((x2 = 0 → q (sI (sI (sI H5 1340 a0 0 x2) 1343 a0 0 x1) 1344 a0 0 x3)) ∧ (¬ (x2 = 0) → CI d 0 0 mX12_added [rv (some a0), .int x1, .int x3, .int (-1 : Int32), .int (5 : Int32)] (sI (sI (sI H5 1340 a0 0 x2) 1343 a0 0 x1) 1344 a0 0 x3) (fun H8 r9 => q H8)))) ∧ (¬ ((hI H5 1325 a0 0) < 0) → q H5))))))
set_option maxRecDepth 40000 in
set_option maxHeartbeats 4000000 in
theorem T_X12_formula_63 {d : Nat} {q : HP → Prop} {a0 : Nat} {x1 : Int32} {x2 : Int32} {x3 : Int32} {H : HP} (h : wb_X12_formula_63 d q a0 x1 x2 x3 H) : WP (d + 1) mX12_formula 0 0 63 [(0, rv (some a0)), (1, .int x1), (2, .int x2), (3, .int x3)] [] H (qV q) := by
  unfold wb_X12_formula_63 at h
  refine wp_aload_n 0 dX12_formula_63 rfl ?_
  obtain ⟨ht1, h⟩ := h
  refine wp_getI (ci := 12) (j := 24) dX12_formula_64 fi_X12_174r rfl rfl ht1 ?_
  change WP _ _ _ _ _ _ (.int (hI H 1324 a0 0) :: _) _ _
  refine wp_aload_n 0 dX12_formula_67 rfl ?_
  refine wp_getI (ci := 12) (j := 23) dX12_formula_68 fi_X12_171r rfl rfl ht1 ?_
  change WP _ _ _ _ _ _ (.int (hI H 1323 a0 0) :: _) _ _
  refine wp_icmp_ge (tgt := 78) dX12_formula_71 rfl (fun c => ?_) (fun c => ?_)
  · replace h := h.1 c
    refine wp_aload_n 0 dX12_formula_78 rfl ?_
    refine wp_getI (ci := 12) (j := 38) dX12_formula_79 fi_X12_314r rfl rfl ht1 ?_
    change WP _ _ _ _ _ _ (.int (hI H 1338 a0 0) :: _) _ _
    refine wp_if_eq (tgt := 92) dX12_formula_82 rfl (fun c => ?_) (fun c => ?_)
    · replace h := h.1 c
      exact wp_return dX12_formula_92 rfl ⟨rfl, h⟩
    · replace h := h.2 c
      refine wp_aload_n 0 dX12_formula_85 rfl ?_
      refine wp_getI (ci := 12) (j := 25) dX12_formula_86 fi_X12_189r rfl rfl ht1 ?_
      change WP _ _ _ _ _ _ (.int (hI H 1325 a0 0) :: _) _ _
      refine wp_if_lt (tgt := 93) dX12_formula_89 rfl (fun c => ?_) (fun c => ?_)
      · replace h := h.1 c
        refine wp_aload_n 0 dX12_formula_93 rfl ?_
        refine wp_iload_n 2 dX12_formula_94 rfl ?_
        obtain ⟨hg2, h⟩ := h
        refine wp_putI (ci := 12) (j := 40) dX12_formula_95 fi_X12_393 rfl (fun z => by cases z) rfl ht1 (nar_Z hg2).1 (nar_Z hg2).2 ?_
        change WP _ _ _ _ _ _ _ (sI H 1340 a0 0 x2) _
        refine wp_aload_n 0 dX12_formula_98 rfl ?_
        refine wp_iload_n 1 dX12_formula_99 rfl ?_
        refine wp_putI (ci := 12) (j := 43) dX12_formula_100 fi_X12_396 rfl (fun z => by cases z) rfl ht1 rfl rfl ?_
        change WP _ _ _ _ _ _ _ (sI (sI H 1340 a0 0 x2) 1343 a0 0 x1) _
        refine wp_aload_n 0 dX12_formula_103 rfl ?_
        refine wp_iload_n 3 dX12_formula_104 rfl ?_
        refine wp_putI (ci := 12) (j := 44) dX12_formula_105 fi_X12_399 rfl (fun z => by cases z) rfl ht1 rfl rfl ?_
        change WP _ _ _ _ _ _ _ (sI (sI (sI H 1340 a0 0 x2) 1343 a0 0 x1) 1344 a0 0 x3) _
        refine wp_iload_n 2 dX12_formula_108 rfl ?_
        refine wp_if_eq (tgt := 121) dX12_formula_109 rfl (fun c => ?_) (fun c => ?_)
        · replace h := h.1 c
          exact wp_return dX12_formula_121 rfl ⟨rfl, h⟩
        · replace h := h.2 c
          refine wp_aload_n 0 dX12_formula_112 rfl ?_
          refine wp_iload_n 1 dX12_formula_113 rfl ?_
          refine wp_iload_n 3 dX12_formula_114 rfl ?_
          refine wp_iconst (v := (-1 : Int32)) dX12_formula_115 (by decide) ?_
          refine wp_iconst (v := (5 : Int32)) dX12_formula_116 (by decide) ?_
          refine wp_callV (ci := 12) (As := [.int x1, .int x3, .int (-1 : Int32), .int (5 : Int32)]) (rest := []) (mc := 0) (ms := 0) dX12_formula_117 lk_X12_389 rfl rfl (by decide) rfl rfl rfl ht1 rfl rfl rfl w_7_197 (Call.weaken h ?_)
          rintro H3 _ ⟨r4, rfl, h⟩
          change WP _ _ _ _ _ _ [.int r4] H3 _
          refine wp_pop dX12_formula_120 (rfl) ?_
          exact wp_return dX12_formula_121 rfl ⟨rfl, h⟩
      · replace h := h.2 c
        exact wp_return dX12_formula_92 rfl ⟨rfl, h⟩
  · replace h := h.2 c
    refine wp_aload_n 0 dX12_formula_74 rfl ?_
    refine wp_callV (ci := 12) (As := []) (rest := []) (mc := 0) (ms := 0) dX12_formula_75 lk_X12_192 rfl rfl (by decide) rfl rfl rfl ht1 rfl rfl rfl w_6_212 (Call.weaken h ?_)
    rintro H5 _ ⟨rfl, h⟩
    change WP _ _ _ _ _ _ [] H5 _
    refine wp_aload_n 0 dX12_formula_78 rfl ?_
    obtain ⟨ht6, h⟩ := h
    refine wp_getI (ci := 12) (j := 38) dX12_formula_79 fi_X12_314r rfl rfl ht6 ?_
    change WP _ _ _ _ _ _ (.int (hI H5 1338 a0 0) :: _) _ _
    refine wp_if_eq (tgt := 92) dX12_formula_82 rfl (fun c => ?_) (fun c => ?_)
    · replace h := h.1 c
      exact wp_return dX12_formula_92 rfl ⟨rfl, h⟩
    · replace h := h.2 c
      refine wp_aload_n 0 dX12_formula_85 rfl ?_
      refine wp_getI (ci := 12) (j := 25) dX12_formula_86 fi_X12_189r rfl rfl ht6 ?_
      change WP _ _ _ _ _ _ (.int (hI H5 1325 a0 0) :: _) _ _
      refine wp_if_lt (tgt := 93) dX12_formula_89 rfl (fun c => ?_) (fun c => ?_)
      · replace h := h.1 c
        refine wp_aload_n 0 dX12_formula_93 rfl ?_
        refine wp_iload_n 2 dX12_formula_94 rfl ?_
        obtain ⟨hg7, h⟩ := h
        refine wp_putI (ci := 12) (j := 40) dX12_formula_95 fi_X12_393 rfl (fun z => by cases z) rfl ht6 (nar_Z hg7).1 (nar_Z hg7).2 ?_
        change WP _ _ _ _ _ _ _ (sI H5 1340 a0 0 x2) _
        refine wp_aload_n 0 dX12_formula_98 rfl ?_
        refine wp_iload_n 1 dX12_formula_99 rfl ?_
        refine wp_putI (ci := 12) (j := 43) dX12_formula_100 fi_X12_396 rfl (fun z => by cases z) rfl ht6 rfl rfl ?_
        change WP _ _ _ _ _ _ _ (sI (sI H5 1340 a0 0 x2) 1343 a0 0 x1) _
        refine wp_aload_n 0 dX12_formula_103 rfl ?_
        refine wp_iload_n 3 dX12_formula_104 rfl ?_
        refine wp_putI (ci := 12) (j := 44) dX12_formula_105 fi_X12_399 rfl (fun z => by cases z) rfl ht6 rfl rfl ?_
        change WP _ _ _ _ _ _ _ (sI (sI (sI H5 1340 a0 0 x2) 1343 a0 0 x1) 1344 a0 0 x3) _
        refine wp_iload_n 2 dX12_formula_108 rfl ?_
        refine wp_if_eq (tgt := 121) dX12_formula_109 rfl (fun c => ?_) (fun c => ?_)
        · replace h := h.1 c
          exact wp_return dX12_formula_121 rfl ⟨rfl, h⟩
        · replace h := h.2 c
          refine wp_aload_n 0 dX12_formula_112 rfl ?_
          refine wp_iload_n 1 dX12_formula_113 rfl ?_
          refine wp_iload_n 3 dX12_formula_114 rfl ?_
          refine wp_iconst (v := (-1 : Int32)) dX12_formula_115 (by decide) ?_
          refine wp_iconst (v := (5 : Int32)) dX12_formula_116 (by decide) ?_
          refine wp_callV (ci := 12) (As := [.int x1, .int x3, .int (-1 : Int32), .int (5 : Int32)]) (rest := []) (mc := 0) (ms := 0) dX12_formula_117 lk_X12_389 rfl rfl (by decide) rfl rfl rfl ht6 rfl rfl rfl w_7_197 (Call.weaken h ?_)
          rintro H8 _ ⟨r9, rfl, h⟩
          change WP _ _ _ _ _ _ [.int r9] H8 _
          refine wp_pop dX12_formula_120 (rfl) ?_
          exact wp_return dX12_formula_121 rfl ⟨rfl, h⟩
      · replace h := h.2 c
        exact wp_return dX12_formula_92 rfl ⟨rfl, h⟩
def wb_X12_formula_0 (d : Nat) (q : HP → Prop) (a0 : Nat) (H : HP) : Prop :=
  tg H a0 = 13 ∧ (CI d 0 0 mX12_sum [rv (some a0)] (sI (sI (sI H 1324 a0 0 (0 : Int32)) 1325 a0 0 (-1 : Int32)) 1326 a0 0 (0 : Int32)) (fun H2 r3 => tg H2 a0 = 13 ∧ ((0 ≤ (hI H2 1325 a0 0) → ((0 : Int32) = 0 → wb_X12_formula_63 d q a0 r3 (0 : Int32) (-1 : Int32) H2) ∧ (¬ ((0 : Int32) = 0) → CI d 0 0 mX12_sum [rv (some a0)] (sI H2 1324 a0 0 ((hI H2 1324 a0 0) + (1 : Int32))) (fun H5 r6 => wb_X12_formula_63 d q a0 r3 (0 : Int32) r6 H5))) ∧ (¬ (0 ≤ (hI H2 1325 a0 0)) → CI d 0 0 mX12_here [rv (some a0)] H2 (fun H7 r8 => (¬ r8 = (61 : Int32) → ((0 : Int32) = 0 → wb_X12_formula_63 d q a0 r3 (0 : Int32) (-1 : Int32) H7) ∧ (¬ ((0 : Int32) = 0) → tg H7 a0 = 13 ∧ (CI d 0 0 mX12_sum [rv (some a0)] (sI H7 1324 a0 0 ((hI H7 1324 a0 0) + (1 : Int32))) (fun H10 r11 => wb_X12_formula_63 d q a0 r3 (0 : Int32) r11 H10)))) ∧ (r8 = (61 : Int32) → ((1 : Int32) = 0 → wb_X12_formula_63 d q a0 r3 (1 : Int32) (-1 : Int32) H7) ∧ (¬ ((1 : Int32) = 0) → tg H7 a0 = 13 ∧ (CI d 0 0 mX12_sum [rv (some a0)] (sI H7 1324 a0 0 ((hI H7 1324 a0 0) + (1 : Int32))) (fun H13 r14 => wb_X12_formula_63 d q a0 r3 (1 : Int32) r14 H13)))))))))
set_option maxRecDepth 40000 in
set_option maxHeartbeats 4000000 in
theorem T_X12_formula_0 {d : Nat} {q : HP → Prop} {a0 : Nat} {H : HP} (h : wb_X12_formula_0 d q a0 H) : WP (d + 1) mX12_formula 0 0 0 [(0, rv (some a0))] [] H (qV q) := by
  unfold wb_X12_formula_0 at h
  refine wp_aload_n 0 dX12_formula_0 rfl ?_
  refine wp_iconst (v := (0 : Int32)) dX12_formula_1 (by decide) ?_
  obtain ⟨ht1, h⟩ := h
  refine wp_putI (ci := 12) (j := 24) dX12_formula_2 fi_X12_174 rfl (fun z => by cases z) rfl ht1 rfl rfl ?_
  change WP _ _ _ _ _ _ _ (sI H 1324 a0 0 (0 : Int32)) _
  refine wp_aload_n 0 dX12_formula_5 rfl ?_
  refine wp_iconst (v := (-1 : Int32)) dX12_formula_6 (by decide) ?_
  refine wp_putI (ci := 12) (j := 25) dX12_formula_7 fi_X12_189 rfl (fun z => by cases z) rfl ht1 rfl rfl ?_
  change WP _ _ _ _ _ _ _ (sI (sI H 1324 a0 0 (0 : Int32)) 1325 a0 0 (-1 : Int32)) _
  refine wp_aload_n 0 dX12_formula_10 rfl ?_
  refine wp_iconst (v := (0 : Int32)) dX12_formula_11 (by decide) ?_
  refine wp_putI (ci := 12) (j := 26) dX12_formula_12 fi_X12_369 rfl (fun z => by cases z) rfl ht1 rfl rfl ?_
  change WP _ _ _ _ _ _ _ (sI (sI (sI H 1324 a0 0 (0 : Int32)) 1325 a0 0 (-1 : Int32)) 1326 a0 0 (0 : Int32)) _
  refine wp_aload_n 0 dX12_formula_15 rfl ?_
  refine wp_callV (ci := 12) (As := []) (rest := []) (mc := 0) (ms := 0) dX12_formula_16 lk_X12_372 rfl rfl (by decide) rfl rfl rfl ht1 rfl rfl rfl w_7_128 (Call.weaken h ?_)
  rintro H2 _ ⟨r3, rfl, h⟩
  change WP _ _ _ _ _ _ [.int r3] H2 _
  refine wp_istore_n (ls' := [(1, .int r3), (0, rv (some a0))]) dX12_formula_19 (by decide) rfl ?_
  refine wp_aload_n 1 dX12_formula_20 rfl ?_
  obtain ⟨ht4, h⟩ := h
  refine wp_getI (ci := 12) (j := 25) dX12_formula_21 fi_X12_189r rfl rfl ht4 ?_
  change WP _ _ _ _ _ _ (.int (hI H2 1325 a0 0) :: _) _ _
  refine wp_if_ge (tgt := 40) dX12_formula_24 rfl (fun c => ?_) (fun c => ?_)
  · replace h := h.1 c
    refine wp_iconst (v := (0 : Int32)) dX12_formula_40 (by decide) ?_
    refine wp_istore_n (ls' := [(2, .int (0 : Int32)), (1, .int r3), (0, rv (some a0))]) dX12_formula_41 (by decide) rfl ?_
    refine wp_iconst (v := (-1 : Int32)) dX12_formula_42 (by decide) ?_
    refine wp_istore_n (ls' := [(3, .int (-1 : Int32)), (2, .int (0 : Int32)), (1, .int r3), (0, rv (some a0))]) dX12_formula_43 (by decide) rfl ?_
    refine wp_iload_n 1 dX12_formula_44 rfl ?_
    refine wp_if_eq (tgt := 63) dX12_formula_45 rfl (fun c => ?_) (fun c => ?_)
    · replace h := h.1 c
      refine wp_sub (ls' := [(0, rv (some a0)), (1, .int r3), (2, .int (0 : Int32)), (3, .int (-1 : Int32))]) [3, 2, 1, 0] rfl ?_
      exact T_X12_formula_63 h
    · replace h := h.2 c
      refine wp_aload_n 3 dX12_formula_48 rfl ?_
      refine wp_dup dX12_formula_49 (rv_cat _) ?_
      refine wp_getI (ci := 12) (j := 24) dX12_formula_50 fi_X12_174r rfl rfl ht4 ?_
      change WP _ _ _ _ _ _ (.int (hI H2 1324 a0 0) :: _) _ _
      refine wp_iconst (v := (1 : Int32)) dX12_formula_53 (by decide) ?_
      refine wp_iadd dX12_formula_54 ?_
      refine wp_putI (ci := 12) (j := 24) dX12_formula_55 fi_X12_174 rfl (fun z => by cases z) rfl ht4 rfl rfl ?_
      change WP _ _ _ _ _ _ _ (sI H2 1324 a0 0 ((hI H2 1324 a0 0) + (1 : Int32))) _
      refine wp_aload_n 3 dX12_formula_58 rfl ?_
      refine wp_callV (ci := 12) (As := []) (rest := []) (mc := 0) (ms := 0) dX12_formula_59 lk_X12_372 rfl rfl (by decide) rfl rfl rfl ht4 rfl rfl rfl w_7_128 (Call.weaken h ?_)
      rintro H5 _ ⟨r6, rfl, h⟩
      change WP _ _ _ _ _ _ [.int r6] H5 _
      refine wp_istore_n (ls' := [(3, .int r6), (2, .int (0 : Int32)), (1, .int r3), (0, rv (some a0))]) dX12_formula_62 (by decide) rfl ?_
      refine wp_sub (ls' := [(0, rv (some a0)), (1, .int r3), (2, .int (0 : Int32)), (3, .int r6)]) [3, 2, 1, 0] rfl ?_
      exact T_X12_formula_63 h
  · replace h := h.2 c
    refine wp_aload_n 1 dX12_formula_27 rfl ?_
    refine wp_callV (ci := 12) (As := []) (rest := []) (mc := 0) (ms := 0) dX12_formula_28 lk_X12_177 rfl rfl (by decide) rfl rfl rfl ht4 rfl rfl rfl w_6_206 (Call.weaken h ?_)
    rintro H7 _ ⟨r8, rfl, h⟩
    change WP _ _ _ _ _ _ [.int r8] H7 _
    refine wp_bipush (v := (61 : Int32)) dX12_formula_31 (by decide) ?_
    refine wp_icmp_ne (tgt := 40) dX12_formula_33 rfl (fun c => ?_) (fun c => ?_)
    · replace h := h.1 c
      refine wp_iconst (v := (0 : Int32)) dX12_formula_40 (by decide) ?_
      refine wp_istore_n (ls' := [(2, .int (0 : Int32)), (1, .int r3), (0, rv (some a0))]) dX12_formula_41 (by decide) rfl ?_
      refine wp_iconst (v := (-1 : Int32)) dX12_formula_42 (by decide) ?_
      refine wp_istore_n (ls' := [(3, .int (-1 : Int32)), (2, .int (0 : Int32)), (1, .int r3), (0, rv (some a0))]) dX12_formula_43 (by decide) rfl ?_
      refine wp_iload_n 1 dX12_formula_44 rfl ?_
      refine wp_if_eq (tgt := 63) dX12_formula_45 rfl (fun c => ?_) (fun c => ?_)
      · replace h := h.1 c
        refine wp_sub (ls' := [(0, rv (some a0)), (1, .int r3), (2, .int (0 : Int32)), (3, .int (-1 : Int32))]) [3, 2, 1, 0] rfl ?_
        exact T_X12_formula_63 h
      · replace h := h.2 c
        refine wp_aload_n 3 dX12_formula_48 rfl ?_
        refine wp_dup dX12_formula_49 (rv_cat _) ?_
        obtain ⟨ht9, h⟩ := h
        refine wp_getI (ci := 12) (j := 24) dX12_formula_50 fi_X12_174r rfl rfl ht9 ?_
        change WP _ _ _ _ _ _ (.int (hI H7 1324 a0 0) :: _) _ _
        refine wp_iconst (v := (1 : Int32)) dX12_formula_53 (by decide) ?_
        refine wp_iadd dX12_formula_54 ?_
        refine wp_putI (ci := 12) (j := 24) dX12_formula_55 fi_X12_174 rfl (fun z => by cases z) rfl ht9 rfl rfl ?_
        change WP _ _ _ _ _ _ _ (sI H7 1324 a0 0 ((hI H7 1324 a0 0) + (1 : Int32))) _
        refine wp_aload_n 3 dX12_formula_58 rfl ?_
        refine wp_callV (ci := 12) (As := []) (rest := []) (mc := 0) (ms := 0) dX12_formula_59 lk_X12_372 rfl rfl (by decide) rfl rfl rfl ht9 rfl rfl rfl w_7_128 (Call.weaken h ?_)
        rintro H10 _ ⟨r11, rfl, h⟩
        change WP _ _ _ _ _ _ [.int r11] H10 _
        refine wp_istore_n (ls' := [(3, .int r11), (2, .int (0 : Int32)), (1, .int r3), (0, rv (some a0))]) dX12_formula_62 (by decide) rfl ?_
        refine wp_sub (ls' := [(0, rv (some a0)), (1, .int r3), (2, .int (0 : Int32)), (3, .int r11)]) [3, 2, 1, 0] rfl ?_
        exact T_X12_formula_63 h
    · replace h := h.2 c
      refine wp_iconst (v := (1 : Int32)) dX12_formula_36 (by decide) ?_
      refine wp_goto (tgt := 41) dX12_formula_37 rfl ?_
      refine wp_istore_n (ls' := [(2, .int (1 : Int32)), (1, .int r3), (0, rv (some a0))]) dX12_formula_41 (by decide) rfl ?_
      refine wp_iconst (v := (-1 : Int32)) dX12_formula_42 (by decide) ?_
      refine wp_istore_n (ls' := [(3, .int (-1 : Int32)), (2, .int (1 : Int32)), (1, .int r3), (0, rv (some a0))]) dX12_formula_43 (by decide) rfl ?_
      refine wp_iload_n 1 dX12_formula_44 rfl ?_
      refine wp_if_eq (tgt := 63) dX12_formula_45 rfl (fun c => ?_) (fun c => ?_)
      · replace h := h.1 c
        refine wp_sub (ls' := [(0, rv (some a0)), (1, .int r3), (2, .int (1 : Int32)), (3, .int (-1 : Int32))]) [3, 2, 1, 0] rfl ?_
        exact T_X12_formula_63 h
      · replace h := h.2 c
        refine wp_aload_n 3 dX12_formula_48 rfl ?_
        refine wp_dup dX12_formula_49 (rv_cat _) ?_
        obtain ⟨ht12, h⟩ := h
        refine wp_getI (ci := 12) (j := 24) dX12_formula_50 fi_X12_174r rfl rfl ht12 ?_
        change WP _ _ _ _ _ _ (.int (hI H7 1324 a0 0) :: _) _ _
        refine wp_iconst (v := (1 : Int32)) dX12_formula_53 (by decide) ?_
        refine wp_iadd dX12_formula_54 ?_
        refine wp_putI (ci := 12) (j := 24) dX12_formula_55 fi_X12_174 rfl (fun z => by cases z) rfl ht12 rfl rfl ?_
        change WP _ _ _ _ _ _ _ (sI H7 1324 a0 0 ((hI H7 1324 a0 0) + (1 : Int32))) _
        refine wp_aload_n 3 dX12_formula_58 rfl ?_
        refine wp_callV (ci := 12) (As := []) (rest := []) (mc := 0) (ms := 0) dX12_formula_59 lk_X12_372 rfl rfl (by decide) rfl rfl rfl ht12 rfl rfl rfl w_7_128 (Call.weaken h ?_)
        rintro H13 _ ⟨r14, rfl, h⟩
        change WP _ _ _ _ _ _ [.int r14] H13 _
        refine wp_istore_n (ls' := [(3, .int r14), (2, .int (1 : Int32)), (1, .int r3), (0, rv (some a0))]) dX12_formula_62 (by decide) rfl ?_
        refine wp_sub (ls' := [(0, rv (some a0)), (1, .int r3), (2, .int (1 : Int32)), (3, .int r14)]) [3, 2, 1, 0] rfl ?_
        exact T_X12_formula_63 h
theorem C_X12_formula {d : Nat} {q : HP → Prop} {a0 : Nat} {H : HP} (h : wb_X12_formula_0 d q a0 H) : CV (d + 1) 0 0 mX12_formula [rv (some a0)] H q := by
  refine call_of (by decide +kernel) (by simp [lg_sl, rv_cat, vc_int, vc_long, vc_float, vc_double]) ?_
  have e : lv_args 0 [rv (some a0)] = [(0, rv (some a0))] := by simp [lv_args, rv_cat, vc_int, vc_long, vc_float, vc_double]
  rw [e]
  exact T_X12_formula_0 h
/-- UnitProverModel.goes(II)V: the loop at 17 -/
def L_X12_goes_17 (d : Nat) (q : HP → Prop) (a0 : Nat) (x2 : Int32) (x3 : Int32) (H : HP) : Prop := WP (d + 1) mX12_goes 0 0 17 [(0, rv (some a0)), (2, .int x2), (3, .int x3)] [] H (qV q)
def wb_X12_goes_0 (d : Nat) (q : HP → Prop) (a0 : Nat) (x1 : Int32) (x2 : Int32) (H : HP) : Prop :=
  tg H a0 = 13 ∧ (L_X12_goes_17 d q a0 x2 x1 (sL (sL (sI H 1321 a0 0 (0 : Int32)) 1319 a0 0 (1 : Int64)) 1320 a0 0 (1 : Int64)))
set_option maxRecDepth 40000 in
set_option maxHeartbeats 4000000 in
theorem T_X12_goes_0 {d : Nat} {q : HP → Prop} {a0 : Nat} {x1 : Int32} {x2 : Int32} {H : HP} (h : wb_X12_goes_0 d q a0 x1 x2 H) : WP (d + 1) mX12_goes 0 0 0 [(0, rv (some a0)), (1, .int x1), (2, .int x2)] [] H (qV q) := by
  unfold wb_X12_goes_0 at h
  refine wp_aload_n 0 dX12_goes_0 rfl ?_
  refine wp_iconst (v := (0 : Int32)) dX12_goes_1 (by decide) ?_
  obtain ⟨ht1, h⟩ := h
  refine wp_putI (ci := 12) (j := 21) dX12_goes_2 fi_X12_133 rfl (fun z => by cases z) rfl ht1 rfl rfl ?_
  change WP _ _ _ _ _ _ _ (sI H 1321 a0 0 (0 : Int32)) _
  refine wp_aload_n 0 dX12_goes_5 rfl ?_
  refine wp_lconst (v := (1 : Int64)) dX12_goes_6 (by decide) ?_
  refine wp_putL (ci := 12) (j := 19) dX12_goes_7 fi_X12_143 rfl (fun z => by cases z) rfl ht1 rfl rfl ?_
  change WP _ _ _ _ _ _ _ (sL (sI H 1321 a0 0 (0 : Int32)) 1319 a0 0 (1 : Int64)) _
  refine wp_aload_n 0 dX12_goes_10 rfl ?_
  refine wp_lconst (v := (1 : Int64)) dX12_goes_11 (by decide) ?_
  refine wp_putL (ci := 12) (j := 20) dX12_goes_12 fi_X12_147 rfl (fun z => by cases z) rfl ht1 rfl rfl ?_
  change WP _ _ _ _ _ _ _ (sL (sL (sI H 1321 a0 0 (0 : Int32)) 1319 a0 0 (1 : Int64)) 1320 a0 0 (1 : Int64)) _
  refine wp_iload_n 1 dX12_goes_15 rfl ?_
  refine wp_istore_n (ls' := [(3, .int x1), (0, rv (some a0)), (1, .int x1), (2, .int x2)]) dX12_goes_16 (by decide) rfl ?_
  refine wp_sub (ls' := [(0, rv (some a0)), (2, .int x2), (3, .int x1)]) [1, 3, 0] rfl ?_
  exact h
def wb_X12_goes_88 (d : Nat) (q : HP → Prop) (a0 : Nat) (x2 : Int32) (x4 : Int32) (x5 : Int32) (x6 : Int64) (x8 : Int64) (s0 : Option Nat) (s1 : Option Nat) (s2 : Int32) (s3 : Int32) (H : HP) : Prop :=
  ∃ a1, s1 = some a1 ∧ (isA H a1 0 ∧ (vp_in (s2 + s3) (ln H a1) ∧ (tg H a0 = 13 ∧ ((x5 = 0 → ∃ a5, (hC H 1308 a0) = some a5 ∧ (isA H a5 0 ∧ (vp_in (((4 : Int32) * x4) + (2 : Int32)) (ln H a5) ∧ (∃ a9, s0 = some a9 ∧ (tg H a9 = 13 ∧ (CV d 0 0 mX12_becomes [rv s0, .long ((hI H (tg H a1) a1 (s2 + s3).toNatClampNeg).toInt64), .long ((hI H (tg H a5) a5 (((4 : Int32) * x4) + (2 : Int32)).toNatClampNeg).toInt64)] H (fun H8 => tg H8 a0 = 13 ∧ (CV d 0 0 mX12_times [rv (some a0), .long x6, .long x8, .long (hL H8 1319 a0 0), .long (hL H8 1320 a0 0)] H8 (fun H12 => (x5 = 0 → tg H12 a0 = 13 ∧ (∃ a14, (hC H12 1308 a0) = some a14 ∧ (isA H12 a14 0 ∧ (vp_in ((4 : Int32) * x4) (ln H12 a14) ∧ (L_X12_goes_17 d q a0 x2 (hI H12 (tg H12 a14) a14 ((4 : Int32) * x4).toNatClampNeg) H12))))) ∧ (¬ (x5 = 0) → tg H12 a0 = 13 ∧ (∃ a18, (hC H12 1308 a0) = some a18 ∧ (isA H12 a18 0 ∧ (vp_in (((4 : Int32) * x4) + (1 : Int32)) (ln H12 a18) ∧ (L_X12_goes_17 d q a0 x2 (hI H12 (tg H12 a18) a18 (((4 : Int32) * x4) + (1 : Int32)).toNatClampNeg) H12)))))))))))))) ∧ (¬ (x5 = 0) → ∃ a21, (hC H 1308 a0) = some a21 ∧ (isA H a21 0 ∧ (vp_in (((4 : Int32) * x4) + (3 : Int32)) (ln H a21) ∧ (∃ a25, s0 = some a25 ∧ (tg H a25 = 13 ∧ (CV d 0 0 mX12_becomes [rv s0, .long ((hI H (tg H a1) a1 (s2 + s3).toNatClampNeg).toInt64), .long ((hI H (tg H a21) a21 (((4 : Int32) * x4) + (3 : Int32)).toNatClampNeg).toInt64)] H (fun H24 => tg H24 a0 = 13 ∧ (CV d 0 0 mX12_times [rv (some a0), .long x6, .long x8, .long (hL H24 1319 a0 0), .long (hL H24 1320 a0 0)] H24 (fun H28 => (x5 = 0 → tg H28 a0 = 13 ∧ (∃ a30, (hC H28 1308 a0) = some a30 ∧ (isA H28 a30 0 ∧ (vp_in ((4 : Int32) * x4) (ln H28 a30) ∧ (L_X12_goes_17 d q a0 x2 (hI H28 (tg H28 a30) a30 ((4 : Int32) * x4).toNatClampNeg) H28))))) ∧ (¬ (x5 = 0) → tg H28 a0 = 13 ∧ (∃ a34, (hC H28 1308 a0) = some a34 ∧ (isA H28 a34 0 ∧ (vp_in (((4 : Int32) * x4) + (1 : Int32)) (ln H28 a34) ∧ (L_X12_goes_17 d q a0 x2 (hI H28 (tg H28 a34) a34 (((4 : Int32) * x4) + (1 : Int32)).toNatClampNeg) H28))))))))))))))))))
set_option maxRecDepth 40000 in
set_option maxHeartbeats 4000000 in
theorem T_X12_goes_88 {d : Nat} {q : HP → Prop} {a0 : Nat} {x2 : Int32} {x4 : Int32} {x5 : Int32} {x6 : Int64} {x8 : Int64} {s0 : Option Nat} {s1 : Option Nat} {s2 : Int32} {s3 : Int32} {H : HP} (h : wb_X12_goes_88 d q a0 x2 x4 x5 x6 x8 s0 s1 s2 s3 H) : WP (d + 1) mX12_goes 0 0 88 [(0, rv (some a0)), (2, .int x2), (4, .int x4), (5, .int x5), (6, .long x6), (8, .long x8)] [.int s3, .int s2, rv s1, rv s0] H (qV q) := by
  unfold wb_X12_goes_88 at h
  refine wp_iadd dX12_goes_88 ?_
  obtain ⟨a1, ha1, h⟩ := h
  obtain ⟨hr2, h⟩ := h
  obtain ⟨hg3, h⟩ := h
  refine wp_iaload dX12_goes_89 ha1 hr2 hg3 ?_
  refine wp_i2l dX12_goes_90 ?_
  refine wp_aload_n 0 dX12_goes_91 rfl ?_
  obtain ⟨ht4, h⟩ := h
  refine wp_getC (ci := 12) (j := 8) dX12_goes_92 fi_X12_35r rfl rfl ht4 ?_
  change WP _ _ _ _ _ _ (rv (hC H 1308 a0) :: _) _ _
  refine wp_iconst (v := (4 : Int32)) dX12_goes_95 (by decide) ?_
  refine wp_iload 2 dX12_goes_96 rfl ?_
  refine wp_imul dX12_goes_98 ?_
  refine wp_iload 3 dX12_goes_99 rfl ?_
  refine wp_if_eq (tgt := 108) dX12_goes_101 rfl (fun c => ?_) (fun c => ?_)
  · replace h := h.1 c
    refine wp_iconst (v := (2 : Int32)) dX12_goes_108 (by decide) ?_
    refine wp_iadd dX12_goes_109 ?_
    obtain ⟨a5, ha5, h⟩ := h
    obtain ⟨hr6, h⟩ := h
    obtain ⟨hg7, h⟩ := h
    refine wp_iaload dX12_goes_110 ha5 hr6 hg7 ?_
    refine wp_i2l dX12_goes_111 ?_
    obtain ⟨a9, ha9, h⟩ := h
    obtain ⟨ht10, h⟩ := h
    refine wp_callV (ci := 12) (As := [.long ((hI H (tg H a1) a1 (s2 + s3).toNatClampNeg).toInt64), .long ((hI H (tg H a5) a5 (((4 : Int32) * x4) + (2 : Int32)).toNatClampNeg).toInt64)]) (rest := []) (mc := 0) (ms := 0) dX12_goes_112 lk_X12_157 rfl rfl (by decide) ha9 rfl rfl ht10 rfl rfl rfl w_7_37 (Call.weaken h ?_)
    rintro H8 _ ⟨rfl, h⟩
    change WP _ _ _ _ _ _ [] H8 _
    refine wp_aload_n 0 dX12_goes_115 rfl ?_
    refine wp_lload 4 dX12_goes_116 rfl ?_
    refine wp_lload 5 dX12_goes_118 rfl ?_
    refine wp_aload_n 0 dX12_goes_120 rfl ?_
    obtain ⟨ht11, h⟩ := h
    refine wp_getL (ci := 12) (j := 19) dX12_goes_121 fi_X12_143r rfl rfl ht11 ?_
    change WP _ _ _ _ _ _ (.long (hL H8 1319 a0 0) :: _) _ _
    refine wp_aload_n 0 dX12_goes_124 rfl ?_
    refine wp_getL (ci := 12) (j := 20) dX12_goes_125 fi_X12_147r rfl rfl ht11 ?_
    change WP _ _ _ _ _ _ (.long (hL H8 1320 a0 0) :: _) _ _
    refine wp_callV (ci := 12) (As := [.long x6, .long x8, .long (hL H8 1319 a0 0), .long (hL H8 1320 a0 0)]) (rest := []) (mc := 0) (ms := 0) dX12_goes_128 lk_X12_153 rfl rfl (by decide) rfl rfl rfl ht11 rfl rfl rfl w_7_47 (Call.weaken h ?_)
    rintro H12 _ ⟨rfl, h⟩
    change WP _ _ _ _ _ _ [] H12 _
    refine wp_iload 3 dX12_goes_131 rfl ?_
    refine wp_if_eq (tgt := 150) dX12_goes_133 rfl (fun c => ?_) (fun c => ?_)
    · replace h := h.1 c
      refine wp_aload_n 0 dX12_goes_150 rfl ?_
      obtain ⟨ht13, h⟩ := h
      refine wp_getC (ci := 12) (j := 8) dX12_goes_151 fi_X12_35r rfl rfl ht13 ?_
      change WP _ _ _ _ _ _ (rv (hC H12 1308 a0) :: _) _ _
      refine wp_iconst (v := (4 : Int32)) dX12_goes_154 (by decide) ?_
      refine wp_iload 2 dX12_goes_155 rfl ?_
      refine wp_imul dX12_goes_157 ?_
      obtain ⟨a14, ha14, h⟩ := h
      obtain ⟨hr15, h⟩ := h
      obtain ⟨hg16, h⟩ := h
      refine wp_iaload dX12_goes_158 ha14 hr15 hg16 ?_
      refine wp_istore_n (ls' := [(3, .int (hI H12 (tg H12 a14) a14 ((4 : Int32) * x4).toNatClampNeg)), (0, rv (some a0)), (2, .int x2), (4, .int x4), (5, .int x5), (6, .long x6), (8, .long x8)]) dX12_goes_159 (by decide) rfl ?_
      refine wp_goto (tgt := 17) dX12_goes_160 rfl ?_
      refine wp_sub (ls' := [(0, rv (some a0)), (2, .int x2), (3, .int (hI H12 (tg H12 a14) a14 ((4 : Int32) * x4).toNatClampNeg))]) [1, 2, 0] rfl ?_
      exact h
    · replace h := h.2 c
      refine wp_aload_n 0 dX12_goes_136 rfl ?_
      obtain ⟨ht17, h⟩ := h
      refine wp_getC (ci := 12) (j := 8) dX12_goes_137 fi_X12_35r rfl rfl ht17 ?_
      change WP _ _ _ _ _ _ (rv (hC H12 1308 a0) :: _) _ _
      refine wp_iconst (v := (4 : Int32)) dX12_goes_140 (by decide) ?_
      refine wp_iload 2 dX12_goes_141 rfl ?_
      refine wp_imul dX12_goes_143 ?_
      refine wp_iconst (v := (1 : Int32)) dX12_goes_144 (by decide) ?_
      refine wp_iadd dX12_goes_145 ?_
      obtain ⟨a18, ha18, h⟩ := h
      obtain ⟨hr19, h⟩ := h
      obtain ⟨hg20, h⟩ := h
      refine wp_iaload dX12_goes_146 ha18 hr19 hg20 ?_
      refine wp_goto (tgt := 159) dX12_goes_147 rfl ?_
      refine wp_istore_n (ls' := [(3, .int (hI H12 (tg H12 a18) a18 (((4 : Int32) * x4) + (1 : Int32)).toNatClampNeg)), (0, rv (some a0)), (2, .int x2), (4, .int x4), (5, .int x5), (6, .long x6), (8, .long x8)]) dX12_goes_159 (by decide) rfl ?_
      refine wp_goto (tgt := 17) dX12_goes_160 rfl ?_
      refine wp_sub (ls' := [(0, rv (some a0)), (2, .int x2), (3, .int (hI H12 (tg H12 a18) a18 (((4 : Int32) * x4) + (1 : Int32)).toNatClampNeg))]) [1, 2, 0] rfl ?_
      exact h
  · replace h := h.2 c
    refine wp_iconst (v := (3 : Int32)) dX12_goes_104 (by decide) ?_
    refine wp_goto (tgt := 109) dX12_goes_105 rfl ?_
    refine wp_iadd dX12_goes_109 ?_
    obtain ⟨a21, ha21, h⟩ := h
    obtain ⟨hr22, h⟩ := h
    obtain ⟨hg23, h⟩ := h
    refine wp_iaload dX12_goes_110 ha21 hr22 hg23 ?_
    refine wp_i2l dX12_goes_111 ?_
    obtain ⟨a25, ha25, h⟩ := h
    obtain ⟨ht26, h⟩ := h
    refine wp_callV (ci := 12) (As := [.long ((hI H (tg H a1) a1 (s2 + s3).toNatClampNeg).toInt64), .long ((hI H (tg H a21) a21 (((4 : Int32) * x4) + (3 : Int32)).toNatClampNeg).toInt64)]) (rest := []) (mc := 0) (ms := 0) dX12_goes_112 lk_X12_157 rfl rfl (by decide) ha25 rfl rfl ht26 rfl rfl rfl w_7_37 (Call.weaken h ?_)
    rintro H24 _ ⟨rfl, h⟩
    change WP _ _ _ _ _ _ [] H24 _
    refine wp_aload_n 0 dX12_goes_115 rfl ?_
    refine wp_lload 4 dX12_goes_116 rfl ?_
    refine wp_lload 5 dX12_goes_118 rfl ?_
    refine wp_aload_n 0 dX12_goes_120 rfl ?_
    obtain ⟨ht27, h⟩ := h
    refine wp_getL (ci := 12) (j := 19) dX12_goes_121 fi_X12_143r rfl rfl ht27 ?_
    change WP _ _ _ _ _ _ (.long (hL H24 1319 a0 0) :: _) _ _
    refine wp_aload_n 0 dX12_goes_124 rfl ?_
    refine wp_getL (ci := 12) (j := 20) dX12_goes_125 fi_X12_147r rfl rfl ht27 ?_
    change WP _ _ _ _ _ _ (.long (hL H24 1320 a0 0) :: _) _ _
    refine wp_callV (ci := 12) (As := [.long x6, .long x8, .long (hL H24 1319 a0 0), .long (hL H24 1320 a0 0)]) (rest := []) (mc := 0) (ms := 0) dX12_goes_128 lk_X12_153 rfl rfl (by decide) rfl rfl rfl ht27 rfl rfl rfl w_7_47 (Call.weaken h ?_)
    rintro H28 _ ⟨rfl, h⟩
    change WP _ _ _ _ _ _ [] H28 _
    refine wp_iload 3 dX12_goes_131 rfl ?_
    refine wp_if_eq (tgt := 150) dX12_goes_133 rfl (fun c => ?_) (fun c => ?_)
    · replace h := h.1 c
      refine wp_aload_n 0 dX12_goes_150 rfl ?_
      obtain ⟨ht29, h⟩ := h
      refine wp_getC (ci := 12) (j := 8) dX12_goes_151 fi_X12_35r rfl rfl ht29 ?_
      change WP _ _ _ _ _ _ (rv (hC H28 1308 a0) :: _) _ _
      refine wp_iconst (v := (4 : Int32)) dX12_goes_154 (by decide) ?_
      refine wp_iload 2 dX12_goes_155 rfl ?_
      refine wp_imul dX12_goes_157 ?_
      obtain ⟨a30, ha30, h⟩ := h
      obtain ⟨hr31, h⟩ := h
      obtain ⟨hg32, h⟩ := h
      refine wp_iaload dX12_goes_158 ha30 hr31 hg32 ?_
      refine wp_istore_n (ls' := [(3, .int (hI H28 (tg H28 a30) a30 ((4 : Int32) * x4).toNatClampNeg)), (0, rv (some a0)), (2, .int x2), (4, .int x4), (5, .int x5), (6, .long x6), (8, .long x8)]) dX12_goes_159 (by decide) rfl ?_
      refine wp_goto (tgt := 17) dX12_goes_160 rfl ?_
      refine wp_sub (ls' := [(0, rv (some a0)), (2, .int x2), (3, .int (hI H28 (tg H28 a30) a30 ((4 : Int32) * x4).toNatClampNeg))]) [1, 2, 0] rfl ?_
      exact h
    · replace h := h.2 c
      refine wp_aload_n 0 dX12_goes_136 rfl ?_
      obtain ⟨ht33, h⟩ := h
      refine wp_getC (ci := 12) (j := 8) dX12_goes_137 fi_X12_35r rfl rfl ht33 ?_
      change WP _ _ _ _ _ _ (rv (hC H28 1308 a0) :: _) _ _
      refine wp_iconst (v := (4 : Int32)) dX12_goes_140 (by decide) ?_
      refine wp_iload 2 dX12_goes_141 rfl ?_
      refine wp_imul dX12_goes_143 ?_
      refine wp_iconst (v := (1 : Int32)) dX12_goes_144 (by decide) ?_
      refine wp_iadd dX12_goes_145 ?_
      obtain ⟨a34, ha34, h⟩ := h
      obtain ⟨hr35, h⟩ := h
      obtain ⟨hg36, h⟩ := h
      refine wp_iaload dX12_goes_146 ha34 hr35 hg36 ?_
      refine wp_goto (tgt := 159) dX12_goes_147 rfl ?_
      refine wp_istore_n (ls' := [(3, .int (hI H28 (tg H28 a34) a34 (((4 : Int32) * x4) + (1 : Int32)).toNatClampNeg)), (0, rv (some a0)), (2, .int x2), (4, .int x4), (5, .int x5), (6, .long x6), (8, .long x8)]) dX12_goes_159 (by decide) rfl ?_
      refine wp_goto (tgt := 17) dX12_goes_160 rfl ?_
      refine wp_sub (ls' := [(0, rv (some a0)), (2, .int x2), (3, .int (hI H28 (tg H28 a34) a34 (((4 : Int32) * x4) + (1 : Int32)).toNatClampNeg))]) [1, 2, 0] rfl ?_
      exact h
def wb_X12_goes_17 (d : Nat) (q : HP → Prop) (a0 : Nat) (x2 : Int32) (x3 : Int32) (H : HP) : Prop :=
  (x3 = x2 → q H) ∧ (¬ (x3 = x2) → tg H a0 = 13 ∧ ((¬ (hI H 1321 a0 0) = 0 → q H) ∧ ((hI H 1321 a0 0) = 0 → ∃ a2, (hC H 1355 a0) = some a2 ∧ (isA H a2 0 ∧ (vp_in x3 (ln H a2) ∧ (∃ a5, (hC H 1308 a0) = some a5 ∧ (isA H a5 0 ∧ (vp_in ((4 : Int32) * (hI H (tg H a2) a2 x3.toNatClampNeg)) (ln H a5) ∧ ((¬ (hI H (tg H a5) a5 ((4 : Int32) * (hI H (tg H a2) a2 x3.toNatClampNeg)).toNatClampNeg) = x3 → ((0 : Int32) = 0 → wb_X12_goes_88 d q a0 x2 (hI H (tg H a2) a2 x3.toNatClampNeg) (0 : Int32) (hL H 1319 a0 0) (hL H 1320 a0 0) (some a0) (hC H 1308 a0) ((4 : Int32) * (hI H (tg H a2) a2 x3.toNatClampNeg)) (3 : Int32) H) ∧ (¬ ((0 : Int32) = 0) → wb_X12_goes_88 d q a0 x2 (hI H (tg H a2) a2 x3.toNatClampNeg) (0 : Int32) (hL H 1319 a0 0) (hL H 1320 a0 0) (some a0) (hC H 1308 a0) ((4 : Int32) * (hI H (tg H a2) a2 x3.toNatClampNeg)) (2 : Int32) H)) ∧ ((hI H (tg H a5) a5 ((4 : Int32) * (hI H (tg H a2) a2 x3.toNatClampNeg)).toNatClampNeg) = x3 → ((1 : Int32) = 0 → wb_X12_goes_88 d q a0 x2 (hI H (tg H a2) a2 x3.toNatClampNeg) (1 : Int32) (hL H 1319 a0 0) (hL H 1320 a0 0) (some a0) (hC H 1308 a0) ((4 : Int32) * (hI H (tg H a2) a2 x3.toNatClampNeg)) (3 : Int32) H) ∧ (¬ ((1 : Int32) = 0) → wb_X12_goes_88 d q a0 x2 (hI H (tg H a2) a2 x3.toNatClampNeg) (1 : Int32) (hL H 1319 a0 0) (hL H 1320 a0 0) (some a0) (hC H 1308 a0) ((4 : Int32) * (hI H (tg H a2) a2 x3.toNatClampNeg)) (2 : Int32) H)))))))))))
set_option maxRecDepth 40000 in
set_option maxHeartbeats 4000000 in
theorem T_X12_goes_17 {d : Nat} {q : HP → Prop} {a0 : Nat} {x2 : Int32} {x3 : Int32} {H : HP} (h : wb_X12_goes_17 d q a0 x2 x3 H) : L_X12_goes_17 d q a0 x2 x3 H := by
  unfold wb_X12_goes_17 at h
  unfold L_X12_goes_17
  refine wp_iload_n 2 dX12_goes_17 rfl ?_
  refine wp_iload_n 1 dX12_goes_18 rfl ?_
  refine wp_icmp_eq (tgt := 163) dX12_goes_19 rfl (fun c => ?_) (fun c => ?_)
  · replace h := h.1 c
    exact wp_return dX12_goes_163 rfl ⟨rfl, h⟩
  · replace h := h.2 c
    refine wp_aload_n 0 dX12_goes_22 rfl ?_
    obtain ⟨ht1, h⟩ := h
    refine wp_getI (ci := 12) (j := 21) dX12_goes_23 fi_X12_133r rfl rfl ht1 ?_
    change WP _ _ _ _ _ _ (.int (hI H 1321 a0 0) :: _) _ _
    refine wp_if_ne (tgt := 163) dX12_goes_26 rfl (fun c => ?_) (fun c => ?_)
    · replace h := h.1 c
      exact wp_return dX12_goes_163 rfl ⟨rfl, h⟩
    · replace h := h.2 c
      refine wp_aload_n 0 dX12_goes_29 rfl ?_
      refine wp_getC (ci := 12) (j := 55) dX12_goes_30 fi_X12_101r rfl rfl ht1 ?_
      change WP _ _ _ _ _ _ (rv (hC H 1355 a0) :: _) _ _
      refine wp_iload_n 2 dX12_goes_33 rfl ?_
      obtain ⟨a2, ha2, h⟩ := h
      obtain ⟨hr3, h⟩ := h
      obtain ⟨hg4, h⟩ := h
      refine wp_iaload dX12_goes_34 ha2 hr3 hg4 ?_
      refine wp_istore (ls' := [(4, .int (hI H (tg H a2) a2 x3.toNatClampNeg)), (0, rv (some a0)), (2, .int x2), (3, .int x3)]) dX12_goes_35 (by decide) rfl ?_
      refine wp_aload_n 1 dX12_goes_37 rfl ?_
      refine wp_getC (ci := 12) (j := 8) dX12_goes_38 fi_X12_35r rfl rfl ht1 ?_
      change WP _ _ _ _ _ _ (rv (hC H 1308 a0) :: _) _ _
      refine wp_iconst (v := (4 : Int32)) dX12_goes_41 (by decide) ?_
      refine wp_iload 0 dX12_goes_42 rfl ?_
      refine wp_imul dX12_goes_44 ?_
      obtain ⟨a5, ha5, h⟩ := h
      obtain ⟨hr6, h⟩ := h
      obtain ⟨hg7, h⟩ := h
      refine wp_iaload dX12_goes_45 ha5 hr6 hg7 ?_
      refine wp_iload_n 3 dX12_goes_46 rfl ?_
      refine wp_icmp_ne (tgt := 54) dX12_goes_47 rfl (fun c => ?_) (fun c => ?_)
      · replace h := h.1 c
        refine wp_iconst (v := (0 : Int32)) dX12_goes_54 (by decide) ?_
        refine wp_istore (ls' := [(5, .int (0 : Int32)), (4, .int (hI H (tg H a2) a2 x3.toNatClampNeg)), (0, rv (some a0)), (2, .int x2), (3, .int x3)]) dX12_goes_55 (by decide) rfl ?_
        refine wp_aload_n 2 dX12_goes_57 rfl ?_
        refine wp_getL (ci := 12) (j := 19) dX12_goes_58 fi_X12_143r rfl rfl ht1 ?_
        change WP _ _ _ _ _ _ (.long (hL H 1319 a0 0) :: _) _ _
        refine wp_lstore (ls' := [(6, .long (hL H 1319 a0 0)), (5, .int (0 : Int32)), (4, .int (hI H (tg H a2) a2 x3.toNatClampNeg)), (0, rv (some a0)), (2, .int x2), (3, .int x3)]) dX12_goes_61 (by decide) rfl ?_
        refine wp_aload_n 3 dX12_goes_63 rfl ?_
        refine wp_getL (ci := 12) (j := 20) dX12_goes_64 fi_X12_147r rfl rfl ht1 ?_
        change WP _ _ _ _ _ _ (.long (hL H 1320 a0 0) :: _) _ _
        refine wp_lstore (ls' := [(8, .long (hL H 1320 a0 0)), (6, .long (hL H 1319 a0 0)), (5, .int (0 : Int32)), (4, .int (hI H (tg H a2) a2 x3.toNatClampNeg)), (0, rv (some a0)), (2, .int x2), (3, .int x3)]) dX12_goes_67 (by decide) rfl ?_
        refine wp_aload_n 4 dX12_goes_69 rfl ?_
        refine wp_aload_n 4 dX12_goes_70 rfl ?_
        refine wp_getC (ci := 12) (j := 8) dX12_goes_71 fi_X12_35r rfl rfl ht1 ?_
        change WP _ _ _ _ _ _ (rv (hC H 1308 a0) :: _) _ _
        refine wp_iconst (v := (4 : Int32)) dX12_goes_74 (by decide) ?_
        refine wp_iload 3 dX12_goes_75 rfl ?_
        refine wp_imul dX12_goes_77 ?_
        refine wp_iload 2 dX12_goes_78 rfl ?_
        refine wp_if_eq (tgt := 87) dX12_goes_80 rfl (fun c => ?_) (fun c => ?_)
        · replace h := h.1 c
          refine wp_iconst (v := (3 : Int32)) dX12_goes_87 (by decide) ?_
          refine wp_sub (ls' := [(0, rv (some a0)), (2, .int x2), (4, .int (hI H (tg H a2) a2 x3.toNatClampNeg)), (5, .int (0 : Int32)), (6, .long (hL H 1319 a0 0)), (8, .long (hL H 1320 a0 0))]) [4, 5, 3, 2, 1, 0] rfl ?_
          exact T_X12_goes_88 h
        · replace h := h.2 c
          refine wp_iconst (v := (2 : Int32)) dX12_goes_83 (by decide) ?_
          refine wp_goto (tgt := 88) dX12_goes_84 rfl ?_
          refine wp_sub (ls' := [(0, rv (some a0)), (2, .int x2), (4, .int (hI H (tg H a2) a2 x3.toNatClampNeg)), (5, .int (0 : Int32)), (6, .long (hL H 1319 a0 0)), (8, .long (hL H 1320 a0 0))]) [4, 5, 3, 2, 1, 0] rfl ?_
          exact T_X12_goes_88 h
      · replace h := h.2 c
        refine wp_iconst (v := (1 : Int32)) dX12_goes_50 (by decide) ?_
        refine wp_goto (tgt := 55) dX12_goes_51 rfl ?_
        refine wp_istore (ls' := [(5, .int (1 : Int32)), (4, .int (hI H (tg H a2) a2 x3.toNatClampNeg)), (0, rv (some a0)), (2, .int x2), (3, .int x3)]) dX12_goes_55 (by decide) rfl ?_
        refine wp_aload_n 2 dX12_goes_57 rfl ?_
        refine wp_getL (ci := 12) (j := 19) dX12_goes_58 fi_X12_143r rfl rfl ht1 ?_
        change WP _ _ _ _ _ _ (.long (hL H 1319 a0 0) :: _) _ _
        refine wp_lstore (ls' := [(6, .long (hL H 1319 a0 0)), (5, .int (1 : Int32)), (4, .int (hI H (tg H a2) a2 x3.toNatClampNeg)), (0, rv (some a0)), (2, .int x2), (3, .int x3)]) dX12_goes_61 (by decide) rfl ?_
        refine wp_aload_n 3 dX12_goes_63 rfl ?_
        refine wp_getL (ci := 12) (j := 20) dX12_goes_64 fi_X12_147r rfl rfl ht1 ?_
        change WP _ _ _ _ _ _ (.long (hL H 1320 a0 0) :: _) _ _
        refine wp_lstore (ls' := [(8, .long (hL H 1320 a0 0)), (6, .long (hL H 1319 a0 0)), (5, .int (1 : Int32)), (4, .int (hI H (tg H a2) a2 x3.toNatClampNeg)), (0, rv (some a0)), (2, .int x2), (3, .int x3)]) dX12_goes_67 (by decide) rfl ?_
        refine wp_aload_n 4 dX12_goes_69 rfl ?_
        refine wp_aload_n 4 dX12_goes_70 rfl ?_
        refine wp_getC (ci := 12) (j := 8) dX12_goes_71 fi_X12_35r rfl rfl ht1 ?_
        change WP _ _ _ _ _ _ (rv (hC H 1308 a0) :: _) _ _
        refine wp_iconst (v := (4 : Int32)) dX12_goes_74 (by decide) ?_
        refine wp_iload 3 dX12_goes_75 rfl ?_
        refine wp_imul dX12_goes_77 ?_
        refine wp_iload 2 dX12_goes_78 rfl ?_
        refine wp_if_eq (tgt := 87) dX12_goes_80 rfl (fun c => ?_) (fun c => ?_)
        · replace h := h.1 c
          refine wp_iconst (v := (3 : Int32)) dX12_goes_87 (by decide) ?_
          refine wp_sub (ls' := [(0, rv (some a0)), (2, .int x2), (4, .int (hI H (tg H a2) a2 x3.toNatClampNeg)), (5, .int (1 : Int32)), (6, .long (hL H 1319 a0 0)), (8, .long (hL H 1320 a0 0))]) [4, 5, 3, 2, 1, 0] rfl ?_
          exact T_X12_goes_88 h
        · replace h := h.2 c
          refine wp_iconst (v := (2 : Int32)) dX12_goes_83 (by decide) ?_
          refine wp_goto (tgt := 88) dX12_goes_84 rfl ?_
          refine wp_sub (ls' := [(0, rv (some a0)), (2, .int x2), (4, .int (hI H (tg H a2) a2 x3.toNatClampNeg)), (5, .int (1 : Int32)), (6, .long (hL H 1319 a0 0)), (8, .long (hL H 1320 a0 0))]) [4, 5, 3, 2, 1, 0] rfl ?_
          exact T_X12_goes_88 h
theorem C_X12_goes {d : Nat} {q : HP → Prop} {a0 : Nat} {x1 : Int32} {x2 : Int32} {H : HP} (h : wb_X12_goes_0 d q a0 x1 x2 H) : CV (d + 1) 0 0 mX12_goes [rv (some a0), .int x1, .int x2] H q := by
  refine call_of (by decide +kernel) (by simp [lg_sl, rv_cat, vc_int, vc_long, vc_float, vc_double]) ?_
  have e : lv_args 0 [rv (some a0), .int x1, .int x2] = [(0, rv (some a0)), (1, .int x1), (2, .int x2)] := by simp [lv_args, rv_cat, vc_int, vc_long, vc_float, vc_double]
  rw [e]
  exact T_X12_goes_0 h
def wb_X12_goesOn_0 (d : Nat) (q : HP → Bool → Prop) (a0 : Nat) (H : HP) : Prop :=
  tg H a0 = 13 ∧ (((hI H 1338 a0 0) = 0 → q H false) ∧ (¬ ((hI H 1338 a0 0) = 0) → (¬ (hI H 1342 a0 0) = 0 → q H false) ∧ ((hI H 1342 a0 0) = 0 → q H true)))
set_option maxRecDepth 40000 in
set_option maxHeartbeats 4000000 in
theorem T_X12_goesOn_0 {d : Nat} {q : HP → Bool → Prop} {a0 : Nat} {H : HP} (h : wb_X12_goesOn_0 d q a0 H) : WP (d + 1) mX12_goesOn 0 0 0 [(0, rv (some a0))] [] H (qZ q) := by
  unfold wb_X12_goesOn_0 at h
  refine wp_aload_n 0 dX12_goesOn_0 rfl ?_
  obtain ⟨ht1, h⟩ := h
  refine wp_getI (ci := 12) (j := 38) dX12_goesOn_1 fi_X12_314r rfl rfl ht1 ?_
  change WP _ _ _ _ _ _ (.int (hI H 1338 a0 0) :: _) _ _
  refine wp_if_eq (tgt := 18) dX12_goesOn_4 rfl (fun c => ?_) (fun c => ?_)
  · replace h := h.1 c
    refine wp_iconst (v := (0 : Int32)) dX12_goesOn_18 (by decide) ?_
    exact wp_ireturn (ty := .boolean) dX12_goesOn_19 rfl rfl ⟨false, rfl, h⟩
  · replace h := h.2 c
    refine wp_aload_n 0 dX12_goesOn_7 rfl ?_
    refine wp_getI (ci := 12) (j := 42) dX12_goesOn_8 fi_X12_317r rfl rfl ht1 ?_
    change WP _ _ _ _ _ _ (.int (hI H 1342 a0 0) :: _) _ _
    refine wp_if_ne (tgt := 18) dX12_goesOn_11 rfl (fun c => ?_) (fun c => ?_)
    · replace h := h.1 c
      refine wp_iconst (v := (0 : Int32)) dX12_goesOn_18 (by decide) ?_
      exact wp_ireturn (ty := .boolean) dX12_goesOn_19 rfl rfl ⟨false, rfl, h⟩
    · replace h := h.2 c
      refine wp_iconst (v := (1 : Int32)) dX12_goesOn_14 (by decide) ?_
      refine wp_goto (tgt := 19) dX12_goesOn_15 rfl ?_
      exact wp_ireturn (ty := .boolean) dX12_goesOn_19 rfl rfl ⟨true, rfl, h⟩
theorem C_X12_goesOn {d : Nat} {q : HP → Bool → Prop} {a0 : Nat} {H : HP} (h : wb_X12_goesOn_0 d q a0 H) : CZ (d + 1) 0 0 mX12_goesOn [rv (some a0)] H q := by
  refine call_of (by decide +kernel) (by simp [lg_sl, rv_cat, vc_int, vc_long, vc_float, vc_double]) ?_
  have e : lv_args 0 [rv (some a0)] = [(0, rv (some a0))] := by simp [lv_args, rv_cat, vc_int, vc_long, vc_float, vc_double]
  rw [e]
  exact T_X12_goesOn_0 h
def wb_X12_hang_0 (d : Nat) (q : HP → Int32 → Prop) (a0 : Nat) (x1 : Int32) (x2 : Int32) (x3 : Int32) (H : HP) : Prop :=
  CZ d 0 0 mX12_isRack [.int x1] H (fun H1 b2 => (b2 = false → q H1 (-1 : Int32)) ∧ (b2 = true → tg H1 a0 = 13 ∧ (CZ d 0 0 mX12_isUnit [rv (some a0), .int x3] H1 (fun H3 b5 => (b5 = true → CZ d 0 0 mX12_isPlace [.int x2] H3 (fun H6 b7 => (b7 = false → q H6 (-7 : Int32)) ∧ (b7 = true → tg H6 a0 = 13 ∧ (CI d 0 0 mX12_stores [rv (some a0), .int x1, .int x2, .int (0 : Int32), .int x3] H6 (fun H8 r10 => q H8 r10))))) ∧ (b5 = false → q H3 (-1 : Int32))))))
set_option maxRecDepth 40000 in
set_option maxHeartbeats 4000000 in
theorem T_X12_hang_0 {d : Nat} {q : HP → Int32 → Prop} {a0 : Nat} {x1 : Int32} {x2 : Int32} {x3 : Int32} {H : HP} (h : wb_X12_hang_0 d q a0 x1 x2 x3 H) : WP (d + 1) mX12_hang 0 0 0 [(0, rv (some a0)), (1, .int x1), (2, .int x2), (3, .int x3)] [] H (qI q) := by
  unfold wb_X12_hang_0 at h
  refine wp_iload_n 1 dX12_hang_0 rfl ?_
  refine wp_callS (As := [.int x1]) (rest := []) (mc := 0) (ms := 0) dX12_hang_1 lk_X12_492 rfl rfl (by decide) rfl rfl rfl (Call.weaken h ?_)
  rintro H1 _ ⟨b2, rfl, h⟩
  change WP _ _ _ _ _ _ [.int (bI b2)] H1 _
  refine wp_if_eq (tgt := 15) dX12_hang_4 rfl (fun c => ?_) (fun c => ?_)
  · replace h := h.1 (bI_0.mp c)
    refine wp_iconst (v := (-1 : Int32)) dX12_hang_15 (by decide) ?_
    exact wp_ireturn (ty := .int) dX12_hang_16 rfl rfl ⟨_, rfl, h⟩
  · replace h := h.2 (bI_1.mp c)
    refine wp_aload_n 0 dX12_hang_7 rfl ?_
    refine wp_iload_n 3 dX12_hang_8 rfl ?_
    obtain ⟨ht4, h⟩ := h
    refine wp_callV (ci := 12) (As := [.int x3]) (rest := []) (mc := 0) (ms := 0) dX12_hang_9 lk_X12_283 rfl rfl (by decide) rfl rfl rfl ht4 rfl rfl rfl w_7_77 (Call.weaken h ?_)
    rintro H3 _ ⟨b5, rfl, h⟩
    change WP _ _ _ _ _ _ [.int (bI b5)] H3 _
    refine wp_if_ne (tgt := 17) dX12_hang_12 rfl (fun c => ?_) (fun c => ?_)
    · replace h := h.1 (bI_1.mp c)
      refine wp_iload_n 2 dX12_hang_17 rfl ?_
      refine wp_callS (As := [.int x2]) (rest := []) (mc := 0) (ms := 0) dX12_hang_18 lk_X12_495 rfl rfl (by decide) rfl rfl rfl (Call.weaken h ?_)
      rintro H6 _ ⟨b7, rfl, h⟩
      change WP _ _ _ _ _ _ [.int (bI b7)] H6 _
      refine wp_if_eq (tgt := 35) dX12_hang_21 rfl (fun c => ?_) (fun c => ?_)
      · replace h := h.1 (bI_0.mp c)
        refine wp_bipush (v := (-7 : Int32)) dX12_hang_35 (by decide) ?_
        exact wp_ireturn (ty := .int) dX12_hang_37 rfl rfl ⟨_, rfl, h⟩
      · replace h := h.2 (bI_1.mp c)
        refine wp_aload_n 0 dX12_hang_24 rfl ?_
        refine wp_iload_n 1 dX12_hang_25 rfl ?_
        refine wp_iload_n 2 dX12_hang_26 rfl ?_
        refine wp_iconst (v := (0 : Int32)) dX12_hang_27 (by decide) ?_
        refine wp_iload_n 3 dX12_hang_28 rfl ?_
        obtain ⟨ht9, h⟩ := h
        refine wp_callV (ci := 12) (As := [.int x1, .int x2, .int (0 : Int32), .int x3]) (rest := []) (mc := 0) (ms := 0) dX12_hang_29 lk_X12_498 rfl rfl (by decide) rfl rfl rfl ht9 rfl rfl rfl w_8_147 (Call.weaken h ?_)
        rintro H8 _ ⟨r10, rfl, h⟩
        change WP _ _ _ _ _ _ [.int r10] H8 _
        refine wp_goto (tgt := 37) dX12_hang_32 rfl ?_
        exact wp_ireturn (ty := .int) dX12_hang_37 rfl rfl ⟨_, rfl, h⟩
    · replace h := h.2 (bI_0.mp c)
      refine wp_iconst (v := (-1 : Int32)) dX12_hang_15 (by decide) ?_
      exact wp_ireturn (ty := .int) dX12_hang_16 rfl rfl ⟨_, rfl, h⟩
theorem C_X12_hang {d : Nat} {q : HP → Int32 → Prop} {a0 : Nat} {x1 : Int32} {x2 : Int32} {x3 : Int32} {H : HP} (h : wb_X12_hang_0 d q a0 x1 x2 x3 H) : CI (d + 1) 0 0 mX12_hang [rv (some a0), .int x1, .int x2, .int x3] H q := by
  refine call_of (by decide +kernel) (by simp [lg_sl, rv_cat, vc_int, vc_long, vc_float, vc_double]) ?_
  have e : lv_args 0 [rv (some a0), .int x1, .int x2, .int x3] = [(0, rv (some a0)), (1, .int x1), (2, .int x2), (3, .int x3)] := by simp [lv_args, rv_cat, vc_int, vc_long, vc_float, vc_double]
  rw [e]
  exact T_X12_hang_0 h
def wb_X12_hasOffset_0 (d : Nat) (q : HP → Bool → Prop) (a0 : Nat) (x1 : Int32) (H : HP) : Prop :=
  tg H a0 = 13 ∧ (∃ a2, (hC H 1305 a0) = some a2 ∧ (isA H a2 3 ∧ (vp_in x1 (ln H a2) ∧ (((hL H (tg H a2) a2 x1.toNatClampNeg) = (0 : Int64) → q H false) ∧ (¬ ((hL H (tg H a2) a2 x1.toNatClampNeg) = (0 : Int64)) → q H true)))))
set_option maxRecDepth 40000 in
set_option maxHeartbeats 4000000 in
theorem T_X12_hasOffset_0 {d : Nat} {q : HP → Bool → Prop} {a0 : Nat} {x1 : Int32} {H : HP} (h : wb_X12_hasOffset_0 d q a0 x1 H) : WP (d + 1) mX12_hasOffset 0 0 0 [(0, rv (some a0)), (1, .int x1)] [] H (qZ q) := by
  unfold wb_X12_hasOffset_0 at h
  refine wp_aload_n 0 dX12_hasOffset_0 rfl ?_
  obtain ⟨ht1, h⟩ := h
  refine wp_getC (ci := 12) (j := 5) dX12_hasOffset_1 fi_X12_29r rfl rfl ht1 ?_
  change WP _ _ _ _ _ _ (rv (hC H 1305 a0) :: _) _ _
  refine wp_iload_n 1 dX12_hasOffset_4 rfl ?_
  obtain ⟨a2, ha2, h⟩ := h
  obtain ⟨hr3, h⟩ := h
  obtain ⟨hg4, h⟩ := h
  refine wp_laload dX12_hasOffset_5 ha2 hr3 hg4 ?_
  refine wp_lconst (v := (0 : Int64)) dX12_hasOffset_6 (by decide) ?_
  refine wp_lcmp dX12_hasOffset_7 ?_
  refine wp_if_eq (tgt := 15) dX12_hasOffset_8 rfl (fun c => ?_) (fun c => ?_)
  · replace h := h.1 (lgc_eq.mp c)
    refine wp_iconst (v := (0 : Int32)) dX12_hasOffset_15 (by decide) ?_
    exact wp_ireturn (ty := .boolean) dX12_hasOffset_16 rfl rfl ⟨false, rfl, h⟩
  · replace h := h.2 (fun z => c (lgc_eq.mpr z))
    refine wp_iconst (v := (1 : Int32)) dX12_hasOffset_11 (by decide) ?_
    refine wp_goto (tgt := 16) dX12_hasOffset_12 rfl ?_
    exact wp_ireturn (ty := .boolean) dX12_hasOffset_16 rfl rfl ⟨true, rfl, h⟩
theorem C_X12_hasOffset {d : Nat} {q : HP → Bool → Prop} {a0 : Nat} {x1 : Int32} {H : HP} (h : wb_X12_hasOffset_0 d q a0 x1 H) : CZ (d + 1) 0 0 mX12_hasOffset [rv (some a0), .int x1] H q := by
  refine call_of (by decide +kernel) (by simp [lg_sl, rv_cat, vc_int, vc_long, vc_float, vc_double]) ?_
  have e : lv_args 0 [rv (some a0), .int x1] = [(0, rv (some a0)), (1, .int x1)] := by simp [lv_args, rv_cat, vc_int, vc_long, vc_float, vc_double]
  rw [e]
  exact T_X12_hasOffset_0 h
def wb_X12_here_0 (d : Nat) (q : HP → Int32 → Prop) (a0 : Nat) (H : HP) : Prop :=
  tg H a0 = 13 ∧ (((hI H 1323 a0 0) ≤ (hI H 1324 a0 0) → q H (0 : Int32)) ∧ (¬ ((hI H 1323 a0 0) ≤ (hI H 1324 a0 0)) → ∃ a2, (hC H 1322 a0) = some a2 ∧ (isA H a2 0 ∧ (vp_in (hI H 1324 a0 0) (ln H a2) ∧ (q H (hI H (tg H a2) a2 (hI H 1324 a0 0).toNatClampNeg))))))
set_option maxRecDepth 40000 in
set_option maxHeartbeats 4000000 in
theorem T_X12_here_0 {d : Nat} {q : HP → Int32 → Prop} {a0 : Nat} {H : HP} (h : wb_X12_here_0 d q a0 H) : WP (d + 1) mX12_here 0 0 0 [(0, rv (some a0))] [] H (qI q) := by
  unfold wb_X12_here_0 at h
  refine wp_aload_n 0 dX12_here_0 rfl ?_
  obtain ⟨ht1, h⟩ := h
  refine wp_getI (ci := 12) (j := 24) dX12_here_1 fi_X12_174r rfl rfl ht1 ?_
  change WP _ _ _ _ _ _ (.int (hI H 1324 a0 0) :: _) _ _
  refine wp_aload_n 0 dX12_here_4 rfl ?_
  refine wp_getI (ci := 12) (j := 23) dX12_here_5 fi_X12_171r rfl rfl ht1 ?_
  change WP _ _ _ _ _ _ (.int (hI H 1323 a0 0) :: _) _ _
  refine wp_icmp_ge (tgt := 23) dX12_here_8 rfl (fun c => ?_) (fun c => ?_)
  · replace h := h.1 c
    refine wp_iconst (v := (0 : Int32)) dX12_here_23 (by decide) ?_
    exact wp_ireturn (ty := .int) dX12_here_24 rfl rfl ⟨_, rfl, h⟩
  · replace h := h.2 c
    refine wp_aload_n 0 dX12_here_11 rfl ?_
    refine wp_getC (ci := 12) (j := 22) dX12_here_12 fi_X12_59r rfl rfl ht1 ?_
    change WP _ _ _ _ _ _ (rv (hC H 1322 a0) :: _) _ _
    refine wp_aload_n 0 dX12_here_15 rfl ?_
    refine wp_getI (ci := 12) (j := 24) dX12_here_16 fi_X12_174r rfl rfl ht1 ?_
    change WP _ _ _ _ _ _ (.int (hI H 1324 a0 0) :: _) _ _
    obtain ⟨a2, ha2, h⟩ := h
    obtain ⟨hr3, h⟩ := h
    obtain ⟨hg4, h⟩ := h
    refine wp_iaload dX12_here_19 ha2 hr3 hg4 ?_
    refine wp_goto (tgt := 24) dX12_here_20 rfl ?_
    exact wp_ireturn (ty := .int) dX12_here_24 rfl rfl ⟨_, rfl, h⟩
theorem C_X12_here {d : Nat} {q : HP → Int32 → Prop} {a0 : Nat} {H : HP} (h : wb_X12_here_0 d q a0 H) : CI (d + 1) 0 0 mX12_here [rv (some a0)] H q := by
  refine call_of (by decide +kernel) (by simp [lg_sl, rv_cat, vc_int, vc_long, vc_float, vc_double]) ?_
  have e : lv_args 0 [rv (some a0)] = [(0, rv (some a0))] := by simp [lv_args, rv_cat, vc_int, vc_long, vc_float, vc_double]
  rw [e]
  exact T_X12_here_0 h
def wb_X12_hold_0 (d : Nat) (q : HP → Int32 → Prop) (a0 : Nat) (x1 : Int32) (x2 : Int32) (x3 : Int32) (H : HP) : Prop :=
  CZ d 0 0 mX12_isRack [.int x1] H (fun H1 b2 => (b2 = true → CZ d 0 0 mX12_isPlace [.int x2] H1 (fun H3 b4 => (b4 = true → tg H3 a0 = 13 ∧ ((¬ (hI H3 1339 a0 0) = 0 → CZ d 0 0 mX12_isStep [rv (some a0), .int x3] H3 (fun H6 b7 => (b7 = false → q H6 (-1 : Int32)) ∧ (b7 = true → tg H6 a0 = 13 ∧ (∃ a9, (hC H6 1347 a0) = some a9 ∧ (isA H6 a9 3 ∧ (vp_in x3 (ln H6 a9) ∧ (CI d 0 0 mX12_stores [rv (some a0), .int x1, .int x2, .int (1 : Int32), .int ((hL H6 (tg H6 a9) a9 x3.toNatClampNeg).toInt32)] H6 (fun H12 r13 => q H12 r13)))))))) ∧ ((hI H3 1339 a0 0) = 0 → q H3 (-3 : Int32)))) ∧ (b4 = false → q H3 (-7 : Int32)))) ∧ (b2 = false → q H1 (-1 : Int32)))
set_option maxRecDepth 40000 in
set_option maxHeartbeats 4000000 in
theorem T_X12_hold_0 {d : Nat} {q : HP → Int32 → Prop} {a0 : Nat} {x1 : Int32} {x2 : Int32} {x3 : Int32} {H : HP} (h : wb_X12_hold_0 d q a0 x1 x2 x3 H) : WP (d + 1) mX12_hold 0 0 0 [(0, rv (some a0)), (1, .int x1), (2, .int x2), (3, .int x3)] [] H (qI q) := by
  unfold wb_X12_hold_0 at h
  refine wp_iload_n 1 dX12_hold_0 rfl ?_
  refine wp_callS (As := [.int x1]) (rest := []) (mc := 0) (ms := 0) dX12_hold_1 lk_X12_492 rfl rfl (by decide) rfl rfl rfl (Call.weaken h ?_)
  rintro H1 _ ⟨b2, rfl, h⟩
  change WP _ _ _ _ _ _ [.int (bI b2)] H1 _
  refine wp_if_ne (tgt := 9) dX12_hold_4 rfl (fun c => ?_) (fun c => ?_)
  · replace h := h.1 (bI_1.mp c)
    refine wp_iload_n 2 dX12_hold_9 rfl ?_
    refine wp_callS (As := [.int x2]) (rest := []) (mc := 0) (ms := 0) dX12_hold_10 lk_X12_495 rfl rfl (by decide) rfl rfl rfl (Call.weaken h ?_)
    rintro H3 _ ⟨b4, rfl, h⟩
    change WP _ _ _ _ _ _ [.int (bI b4)] H3 _
    refine wp_if_ne (tgt := 19) dX12_hold_13 rfl (fun c => ?_) (fun c => ?_)
    · replace h := h.1 (bI_1.mp c)
      refine wp_aload_n 0 dX12_hold_19 rfl ?_
      obtain ⟨ht5, h⟩ := h
      refine wp_getI (ci := 12) (j := 39) dX12_hold_20 fi_X12_405r rfl rfl ht5 ?_
      change WP _ _ _ _ _ _ (.int (hI H3 1339 a0 0) :: _) _ _
      refine wp_if_ne (tgt := 29) dX12_hold_23 rfl (fun c => ?_) (fun c => ?_)
      · replace h := h.1 c
        refine wp_aload_n 0 dX12_hold_29 rfl ?_
        refine wp_iload_n 3 dX12_hold_30 rfl ?_
        refine wp_callV (ci := 12) (As := [.int x3]) (rest := []) (mc := 0) (ms := 0) dX12_hold_31 lk_X12_408 rfl rfl (by decide) rfl rfl rfl ht5 rfl rfl rfl w_7_213 (Call.weaken h ?_)
        rintro H6 _ ⟨b7, rfl, h⟩
        change WP _ _ _ _ _ _ [.int (bI b7)] H6 _
        refine wp_if_eq (tgt := 54) dX12_hold_34 rfl (fun c => ?_) (fun c => ?_)
        · replace h := h.1 (bI_0.mp c)
          refine wp_iconst (v := (-1 : Int32)) dX12_hold_54 (by decide) ?_
          exact wp_ireturn (ty := .int) dX12_hold_55 rfl rfl ⟨_, rfl, h⟩
        · replace h := h.2 (bI_1.mp c)
          refine wp_aload_n 0 dX12_hold_37 rfl ?_
          refine wp_iload_n 1 dX12_hold_38 rfl ?_
          refine wp_iload_n 2 dX12_hold_39 rfl ?_
          refine wp_iconst (v := (1 : Int32)) dX12_hold_40 (by decide) ?_
          refine wp_aload_n 0 dX12_hold_41 rfl ?_
          obtain ⟨ht8, h⟩ := h
          refine wp_getC (ci := 12) (j := 47) dX12_hold_42 fi_X12_83r rfl rfl ht8 ?_
          change WP _ _ _ _ _ _ (rv (hC H6 1347 a0) :: _) _ _
          refine wp_iload_n 3 dX12_hold_45 rfl ?_
          obtain ⟨a9, ha9, h⟩ := h
          obtain ⟨hr10, h⟩ := h
          obtain ⟨hg11, h⟩ := h
          refine wp_laload dX12_hold_46 ha9 hr10 hg11 ?_
          refine wp_l2i dX12_hold_47 ?_
          refine wp_callV (ci := 12) (As := [.int x1, .int x2, .int (1 : Int32), .int ((hL H6 (tg H6 a9) a9 x3.toNatClampNeg).toInt32)]) (rest := []) (mc := 0) (ms := 0) dX12_hold_48 lk_X12_498 rfl rfl (by decide) rfl rfl rfl ht8 rfl rfl rfl w_8_147 (Call.weaken h ?_)
          rintro H12 _ ⟨r13, rfl, h⟩
          change WP _ _ _ _ _ _ [.int r13] H12 _
          refine wp_goto (tgt := 55) dX12_hold_51 rfl ?_
          exact wp_ireturn (ty := .int) dX12_hold_55 rfl rfl ⟨_, rfl, h⟩
      · replace h := h.2 c
        refine wp_bipush (v := (-3 : Int32)) dX12_hold_26 (by decide) ?_
        exact wp_ireturn (ty := .int) dX12_hold_28 rfl rfl ⟨_, rfl, h⟩
    · replace h := h.2 (bI_0.mp c)
      refine wp_bipush (v := (-7 : Int32)) dX12_hold_16 (by decide) ?_
      exact wp_ireturn (ty := .int) dX12_hold_18 rfl rfl ⟨_, rfl, h⟩
  · replace h := h.2 (bI_0.mp c)
    refine wp_iconst (v := (-1 : Int32)) dX12_hold_7 (by decide) ?_
    exact wp_ireturn (ty := .int) dX12_hold_8 rfl rfl ⟨_, rfl, h⟩
theorem C_X12_hold {d : Nat} {q : HP → Int32 → Prop} {a0 : Nat} {x1 : Int32} {x2 : Int32} {x3 : Int32} {H : HP} (h : wb_X12_hold_0 d q a0 x1 x2 x3 H) : CI (d + 1) 0 0 mX12_hold [rv (some a0), .int x1, .int x2, .int x3] H q := by
  refine call_of (by decide +kernel) (by simp [lg_sl, rv_cat, vc_int, vc_long, vc_float, vc_double]) ?_
  have e : lv_args 0 [rv (some a0), .int x1, .int x2, .int x3] = [(0, rv (some a0)), (1, .int x1), (2, .int x2), (3, .int x3)] := by simp [lv_args, rv_cat, vc_int, vc_long, vc_float, vc_double]
  rw [e]
  exact T_X12_hold_0 h
def wb_X12_image_0 (d : Nat) (q : HP → Int32 → Prop) (a0 : Nat) (H : HP) : Prop :=
  tg H a0 = 13 ∧ (∀ H2, (sI (sI (sI H 1309 a0 0 (1 : Int32)) 1310 a0 0 (hI (sI H 1309 a0 0 (1 : Int32)) 1300 a0 0)) 1311 a0 0 (hI (sI (sI H 1309 a0 0 (1 : Int32)) 1310 a0 0 (hI (sI H 1309 a0 0 (1 : Int32)) 1300 a0 0)) 1307 a0 0)) = H2 → (CV d 0 0 mX12_copies [rv (hC H2 1301 a0), rv (hC H2 1312 a0)] H2 (fun H5 => tg H5 a0 = 13 ∧ (CV d 0 0 mX12_copies [rv (hC H5 1302 a0), rv (hC H5 1313 a0)] H5 (fun H7 => tg H7 a0 = 13 ∧ (CV d 0 0 mX12_copies [rv (hC H7 1308 a0), rv (hC H7 1314 a0)] H7 (fun H9 => tg H9 a0 = 13 ∧ (CV d 0 0 mX12_copiesLong [rv (hC H9 1303 a0), rv (hC H9 1315 a0)] H9 (fun H11 => tg H11 a0 = 13 ∧ (CV d 0 0 mX12_copiesLong [rv (hC H11 1304 a0), rv (hC H11 1316 a0)] H11 (fun H13 => tg H13 a0 = 13 ∧ (CV d 0 0 mX12_copiesLong [rv (hC H13 1305 a0), rv (hC H13 1317 a0)] H13 (fun H15 => tg H15 a0 = 13 ∧ (CV d 0 0 mX12_copiesLong [rv (hC H15 1306 a0), rv (hC H15 1318 a0)] H15 (fun H17 => tg H17 a0 = 13 ∧ (q H17 (hI H17 1300 a0 0)))))))))))))))))
set_option maxRecDepth 40000 in
set_option maxHeartbeats 4000000 in
theorem T_X12_image_0 {d : Nat} {q : HP → Int32 → Prop} {a0 : Nat} {H : HP} (h : wb_X12_image_0 d q a0 H) : WP (d + 1) mX12_image 0 0 0 [(0, rv (some a0))] [] H (qI q) := by
  unfold wb_X12_image_0 at h
  refine wp_aload_n 0 dX12_image_0 rfl ?_
  refine wp_iconst (v := (1 : Int32)) dX12_image_1 (by decide) ?_
  obtain ⟨ht1, h⟩ := h
  refine wp_putI (ci := 12) (j := 9) dX12_image_2 fi_X12_501 rfl (fun z => by cases z) rfl ht1 rfl rfl ?_
  change WP _ _ _ _ _ _ _ (sI H 1309 a0 0 (1 : Int32)) _
  refine wp_aload_n 0 dX12_image_5 rfl ?_
  refine wp_aload_n 0 dX12_image_6 rfl ?_
  refine wp_getI (ci := 12) (j := 0) dX12_image_7 fi_X12_11r rfl rfl ht1 ?_
  change WP _ _ _ _ _ _ (.int (hI (sI H 1309 a0 0 (1 : Int32)) 1300 a0 0) :: _) _ _
  refine wp_putI (ci := 12) (j := 10) dX12_image_10 fi_X12_504 rfl (fun z => by cases z) rfl ht1 rfl rfl ?_
  change WP _ _ _ _ _ _ _ (sI (sI H 1309 a0 0 (1 : Int32)) 1310 a0 0 (hI (sI H 1309 a0 0 (1 : Int32)) 1300 a0 0)) _
  refine wp_aload_n 0 dX12_image_13 rfl ?_
  refine wp_aload_n 0 dX12_image_14 rfl ?_
  refine wp_getI (ci := 12) (j := 7) dX12_image_15 fi_X12_275r rfl rfl ht1 ?_
  change WP _ _ _ _ _ _ (.int (hI (sI (sI H 1309 a0 0 (1 : Int32)) 1310 a0 0 (hI (sI H 1309 a0 0 (1 : Int32)) 1300 a0 0)) 1307 a0 0) :: _) _ _
  refine wp_putI (ci := 12) (j := 11) dX12_image_18 fi_X12_507 rfl (fun z => by cases z) rfl ht1 rfl rfl ?_
  change WP _ _ _ _ _ _ _ (sI (sI (sI H 1309 a0 0 (1 : Int32)) 1310 a0 0 (hI (sI H 1309 a0 0 (1 : Int32)) 1300 a0 0)) 1311 a0 0 (hI (sI (sI H 1309 a0 0 (1 : Int32)) 1310 a0 0 (hI (sI H 1309 a0 0 (1 : Int32)) 1300 a0 0)) 1307 a0 0)) _
  replace h := h _ rfl
  generalize e3 : (sI (sI (sI H 1309 a0 0 (1 : Int32)) 1310 a0 0 (hI (sI H 1309 a0 0 (1 : Int32)) 1300 a0 0)) 1311 a0 0 (hI (sI (sI H 1309 a0 0 (1 : Int32)) 1310 a0 0 (hI (sI H 1309 a0 0 (1 : Int32)) 1300 a0 0)) 1307 a0 0)) = H2 at h ⊢
  have ht4 : tg H2 a0 = 13 := by rw [← e3]; exact ht1
  refine wp_aload_n 0 dX12_image_21 rfl ?_
  refine wp_getC (ci := 12) (j := 1) dX12_image_22 fi_X12_15r rfl rfl ht4 ?_
  change WP _ _ _ _ _ _ (rv (hC H2 1301 a0) :: _) _ _
  refine wp_aload_n 0 dX12_image_25 rfl ?_
  refine wp_getC (ci := 12) (j := 12) dX12_image_26 fi_X12_38r rfl rfl ht4 ?_
  change WP _ _ _ _ _ _ (rv (hC H2 1312 a0) :: _) _ _
  refine wp_callS (As := [rv (hC H2 1301 a0), rv (hC H2 1312 a0)]) (rest := []) (mc := 0) (ms := 0) dX12_image_29 lk_X12_510 rfl rfl (by decide) rfl rfl rfl (Call.weaken h ?_)
  rintro H5 _ ⟨rfl, h⟩
  change WP _ _ _ _ _ _ [] H5 _
  refine wp_aload_n 0 dX12_image_32 rfl ?_
  obtain ⟨ht6, h⟩ := h
  refine wp_getC (ci := 12) (j := 2) dX12_image_33 fi_X12_19r rfl rfl ht6 ?_
  change WP _ _ _ _ _ _ (rv (hC H5 1302 a0) :: _) _ _
  refine wp_aload_n 0 dX12_image_36 rfl ?_
  refine wp_getC (ci := 12) (j := 13) dX12_image_37 fi_X12_41r rfl rfl ht6 ?_
  change WP _ _ _ _ _ _ (rv (hC H5 1313 a0) :: _) _ _
  refine wp_callS (As := [rv (hC H5 1302 a0), rv (hC H5 1313 a0)]) (rest := []) (mc := 0) (ms := 0) dX12_image_40 lk_X12_510 rfl rfl (by decide) rfl rfl rfl (Call.weaken h ?_)
  rintro H7 _ ⟨rfl, h⟩
  change WP _ _ _ _ _ _ [] H7 _
  refine wp_aload_n 0 dX12_image_43 rfl ?_
  obtain ⟨ht8, h⟩ := h
  refine wp_getC (ci := 12) (j := 8) dX12_image_44 fi_X12_35r rfl rfl ht8 ?_
  change WP _ _ _ _ _ _ (rv (hC H7 1308 a0) :: _) _ _
  refine wp_aload_n 0 dX12_image_47 rfl ?_
  refine wp_getC (ci := 12) (j := 14) dX12_image_48 fi_X12_44r rfl rfl ht8 ?_
  change WP _ _ _ _ _ _ (rv (hC H7 1314 a0) :: _) _ _
  refine wp_callS (As := [rv (hC H7 1308 a0), rv (hC H7 1314 a0)]) (rest := []) (mc := 0) (ms := 0) dX12_image_51 lk_X12_510 rfl rfl (by decide) rfl rfl rfl (Call.weaken h ?_)
  rintro H9 _ ⟨rfl, h⟩
  change WP _ _ _ _ _ _ [] H9 _
  refine wp_aload_n 0 dX12_image_54 rfl ?_
  obtain ⟨ht10, h⟩ := h
  refine wp_getC (ci := 12) (j := 3) dX12_image_55 fi_X12_22r rfl rfl ht10 ?_
  change WP _ _ _ _ _ _ (rv (hC H9 1303 a0) :: _) _ _
  refine wp_aload_n 0 dX12_image_58 rfl ?_
  refine wp_getC (ci := 12) (j := 15) dX12_image_59 fi_X12_47r rfl rfl ht10 ?_
  change WP _ _ _ _ _ _ (rv (hC H9 1315 a0) :: _) _ _
  refine wp_callS (As := [rv (hC H9 1303 a0), rv (hC H9 1315 a0)]) (rest := []) (mc := 0) (ms := 0) dX12_image_62 lk_X12_514 rfl rfl (by decide) rfl rfl rfl (Call.weaken h ?_)
  rintro H11 _ ⟨rfl, h⟩
  change WP _ _ _ _ _ _ [] H11 _
  refine wp_aload_n 0 dX12_image_65 rfl ?_
  obtain ⟨ht12, h⟩ := h
  refine wp_getC (ci := 12) (j := 4) dX12_image_66 fi_X12_26r rfl rfl ht12 ?_
  change WP _ _ _ _ _ _ (rv (hC H11 1304 a0) :: _) _ _
  refine wp_aload_n 0 dX12_image_69 rfl ?_
  refine wp_getC (ci := 12) (j := 16) dX12_image_70 fi_X12_50r rfl rfl ht12 ?_
  change WP _ _ _ _ _ _ (rv (hC H11 1316 a0) :: _) _ _
  refine wp_callS (As := [rv (hC H11 1304 a0), rv (hC H11 1316 a0)]) (rest := []) (mc := 0) (ms := 0) dX12_image_73 lk_X12_514 rfl rfl (by decide) rfl rfl rfl (Call.weaken h ?_)
  rintro H13 _ ⟨rfl, h⟩
  change WP _ _ _ _ _ _ [] H13 _
  refine wp_aload_n 0 dX12_image_76 rfl ?_
  obtain ⟨ht14, h⟩ := h
  refine wp_getC (ci := 12) (j := 5) dX12_image_77 fi_X12_29r rfl rfl ht14 ?_
  change WP _ _ _ _ _ _ (rv (hC H13 1305 a0) :: _) _ _
  refine wp_aload_n 0 dX12_image_80 rfl ?_
  refine wp_getC (ci := 12) (j := 17) dX12_image_81 fi_X12_53r rfl rfl ht14 ?_
  change WP _ _ _ _ _ _ (rv (hC H13 1317 a0) :: _) _ _
  refine wp_callS (As := [rv (hC H13 1305 a0), rv (hC H13 1317 a0)]) (rest := []) (mc := 0) (ms := 0) dX12_image_84 lk_X12_514 rfl rfl (by decide) rfl rfl rfl (Call.weaken h ?_)
  rintro H15 _ ⟨rfl, h⟩
  change WP _ _ _ _ _ _ [] H15 _
  refine wp_aload_n 0 dX12_image_87 rfl ?_
  obtain ⟨ht16, h⟩ := h
  refine wp_getC (ci := 12) (j := 6) dX12_image_88 fi_X12_32r rfl rfl ht16 ?_
  change WP _ _ _ _ _ _ (rv (hC H15 1306 a0) :: _) _ _
  refine wp_aload_n 0 dX12_image_91 rfl ?_
  refine wp_getC (ci := 12) (j := 18) dX12_image_92 fi_X12_56r rfl rfl ht16 ?_
  change WP _ _ _ _ _ _ (rv (hC H15 1318 a0) :: _) _ _
  refine wp_callS (As := [rv (hC H15 1306 a0), rv (hC H15 1318 a0)]) (rest := []) (mc := 0) (ms := 0) dX12_image_95 lk_X12_514 rfl rfl (by decide) rfl rfl rfl (Call.weaken h ?_)
  rintro H17 _ ⟨rfl, h⟩
  change WP _ _ _ _ _ _ [] H17 _
  refine wp_aload_n 0 dX12_image_98 rfl ?_
  obtain ⟨ht18, h⟩ := h
  refine wp_getI (ci := 12) (j := 0) dX12_image_99 fi_X12_11r rfl rfl ht18 ?_
  change WP _ _ _ _ _ _ (.int (hI H17 1300 a0 0) :: _) _ _
  exact wp_ireturn (ty := .int) dX12_image_102 rfl rfl ⟨_, rfl, h⟩
theorem C_X12_image {d : Nat} {q : HP → Int32 → Prop} {a0 : Nat} {H : HP} (h : wb_X12_image_0 d q a0 H) : CI (d + 1) 0 0 mX12_image [rv (some a0)] H q := by
  refine call_of (by decide +kernel) (by simp [lg_sl, rv_cat, vc_int, vc_long, vc_float, vc_double]) ?_
  have e : lv_args 0 [rv (some a0)] = [(0, rv (some a0))] := by simp [lv_args, rv_cat, vc_int, vc_long, vc_float, vc_double]
  rw [e]
  exact T_X12_image_0 h
def wb_X12_in_0 (d : Nat) (q : HP → Int64 → Prop) (a0 : Nat) (x1 : Int32) (x2 : Int32) (x3 : Int32) (H : HP) : Prop :=
  CZ d 0 0 mX12_isPart [.int x3] H (fun H1 b2 => (b2 = false → q H1 (-9223372036854775808 : Int64)) ∧ (b2 = true → tg H1 a0 = 13 ∧ (CZ d 0 0 mX12_isToldIn [rv (some a0), .int x1, .int x2] H1 (fun H3 b5 => (b5 = false → q H3 (-9223372036854775808 : Int64)) ∧ (b5 = true → tg H3 a0 = 13 ∧ (CJ d 0 0 mX12_partOf [.long (hL H3 1319 a0 0), .long (hL H3 1320 a0 0), .int x3] H3 (fun H7 r8 => q H7 r8)))))))
set_option maxRecDepth 40000 in
set_option maxHeartbeats 4000000 in
theorem T_X12_in_0 {d : Nat} {q : HP → Int64 → Prop} {a0 : Nat} {x1 : Int32} {x2 : Int32} {x3 : Int32} {H : HP} (h : wb_X12_in_0 d q a0 x1 x2 x3 H) : WP (d + 1) mX12_in 0 0 0 [(0, rv (some a0)), (1, .int x1), (2, .int x2), (3, .int x3)] [] H (qJ q) := by
  unfold wb_X12_in_0 at h
  refine wp_iload_n 3 dX12_in_0 rfl ?_
  refine wp_callS (As := [.int x3]) (rest := []) (mc := 0) (ms := 0) dX12_in_1 lk_X12_288 rfl rfl (by decide) rfl rfl rfl (Call.weaken h ?_)
  rintro H1 _ ⟨b2, rfl, h⟩
  change WP _ _ _ _ _ _ [.int (bI b2)] H1 _
  refine wp_if_eq (tgt := 31) dX12_in_4 rfl (fun c => ?_) (fun c => ?_)
  · replace h := h.1 (bI_0.mp c)
    refine wp_ldc2 dX12_in_31 w_7_55 ?_
    exact wp_lreturn dX12_in_34 rfl ⟨_, rfl, h⟩
  · replace h := h.2 (bI_1.mp c)
    refine wp_aload_n 0 dX12_in_7 rfl ?_
    refine wp_iload_n 1 dX12_in_8 rfl ?_
    refine wp_iload_n 2 dX12_in_9 rfl ?_
    obtain ⟨ht4, h⟩ := h
    refine wp_callV (ci := 12) (As := [.int x1, .int x2]) (rest := []) (mc := 0) (ms := 0) dX12_in_10 lk_X12_422 rfl rfl (by decide) rfl rfl rfl ht4 rfl rfl rfl w_7_233 (Call.weaken h ?_)
    rintro H3 _ ⟨b5, rfl, h⟩
    change WP _ _ _ _ _ _ [.int (bI b5)] H3 _
    refine wp_if_eq (tgt := 31) dX12_in_13 rfl (fun c => ?_) (fun c => ?_)
    · replace h := h.1 (bI_0.mp c)
      refine wp_ldc2 dX12_in_31 w_7_55 ?_
      exact wp_lreturn dX12_in_34 rfl ⟨_, rfl, h⟩
    · replace h := h.2 (bI_1.mp c)
      refine wp_aload_n 0 dX12_in_16 rfl ?_
      obtain ⟨ht6, h⟩ := h
      refine wp_getL (ci := 12) (j := 19) dX12_in_17 fi_X12_143r rfl rfl ht6 ?_
      change WP _ _ _ _ _ _ (.long (hL H3 1319 a0 0) :: _) _ _
      refine wp_aload_n 0 dX12_in_20 rfl ?_
      refine wp_getL (ci := 12) (j := 20) dX12_in_21 fi_X12_147r rfl rfl ht6 ?_
      change WP _ _ _ _ _ _ (.long (hL H3 1320 a0 0) :: _) _ _
      refine wp_iload_n 3 dX12_in_24 rfl ?_
      refine wp_callS (As := [.long (hL H3 1319 a0 0), .long (hL H3 1320 a0 0), .int x3]) (rest := []) (mc := 0) (ms := 0) dX12_in_25 lk_X12_291 rfl rfl (by decide) rfl rfl rfl (Call.weaken h ?_)
      rintro H7 _ ⟨r8, rfl, h⟩
      change WP _ _ _ _ _ _ [.long r8] H7 _
      refine wp_goto (tgt := 34) dX12_in_28 rfl ?_
      exact wp_lreturn dX12_in_34 rfl ⟨_, rfl, h⟩
theorem C_X12_in {d : Nat} {q : HP → Int64 → Prop} {a0 : Nat} {x1 : Int32} {x2 : Int32} {x3 : Int32} {H : HP} (h : wb_X12_in_0 d q a0 x1 x2 x3 H) : CJ (d + 1) 0 0 mX12_in [rv (some a0), .int x1, .int x2, .int x3] H q := by
  refine call_of (by decide +kernel) (by simp [lg_sl, rv_cat, vc_int, vc_long, vc_float, vc_double]) ?_
  have e : lv_args 0 [rv (some a0), .int x1, .int x2, .int x3] = [(0, rv (some a0)), (1, .int x1), (2, .int x2), (3, .int x3)] := by simp [lv_args, rv_cat, vc_int, vc_long, vc_float, vc_double]
  rw [e]
  exact T_X12_in_0 h
/-- UnitProverModel.<init>()V: the loop at 294 -/
def L_X12_init_294 (d : Nat) (ca sa : Nat) (q : HP → Prop) (a0 : Nat) (x1 : Int32) (H : HP) : Prop := WP (d + 1) mX12_init ca sa 294 [(0, rv (some a0)), (1, .int x1)] [] H (qV q)
/-- UnitProverModel.<init>()V: the loop at 388 -/
def L_X12_init_388 (d : Nat) (ca sa : Nat) (q : HP → Prop) (a0 : Nat) (x1 : Int32) (H : HP) : Prop := WP (d + 1) mX12_init ca sa 388 [(0, rv (some a0)), (1, .int x1)] [] H (qV q)
/-- UnitProverModel.<init>()V: the loop at 408 -/
def L_X12_init_408 (d : Nat) (ca sa : Nat) (q : HP → Prop) (a0 : Nat) (x1 : Int32) (H : HP) : Prop := WP (d + 1) mX12_init ca sa 408 [(0, rv (some a0)), (1, .int x1)] [] H (qV q)
def wb_X12_init_0 (d : Nat) (ca sa : Nat) (q : HP → Prop) (a0 : Nat) (H : HP) : Prop :=
  tg H a0 = 13 ∧ (hN (sI H 1300 a0 0 (5 : Int32)) < scrA ∧ (1 ≤ ca ∧ (80 ≤ sa ∧ (tg (nw (sI H 1300 a0 0 (5 : Int32)) 4640 80) a0 = 13 ∧ (hN (sC (nw (sI H 1300 a0 0 (5 : Int32)) 4640 80) 1301 a0 (some (hN (sI H 1300 a0 0 (5 : Int32))))) < scrA ∧ (1 ≤ (ca - 1) ∧ (100 ≤ (sa - 80) ∧ (tg (nw (sC (nw (sI H 1300 a0 0 (5 : Int32)) 4640 80) 1301 a0 (some (hN (sI H 1300 a0 0 (5 : Int32))))) 4656 100) a0 = 13 ∧ (∀ H10, (sC (nw (sC (nw (sI H 1300 a0 0 (5 : Int32)) 4640 80) 1301 a0 (some (hN (sI H 1300 a0 0 (5 : Int32))))) 4656 100) 1302 a0 (some (hN (sC (nw (sI H 1300 a0 0 (5 : Int32)) 4640 80) 1301 a0 (some (hN (sI H 1300 a0 0 (5 : Int32)))))))) = H10 → (hN H10 < scrA ∧ (1 ≤ ((ca - 1) - 1) ∧ (20 ≤ ((sa - 80) - 100) ∧ (tg (nw H10 4675 20) a0 = 13 ∧ (hN (sC (nw H10 4675 20) 1303 a0 (some (hN H10))) < scrA ∧ (1 ≤ (((ca - 1) - 1) - 1) ∧ (20 ≤ (((sa - 80) - 100) - 20) ∧ (tg (nw (sC (nw H10 4675 20) 1303 a0 (some (hN H10))) 4691 20) a0 = 13 ∧ (hN (sC (nw (sC (nw H10 4675 20) 1303 a0 (some (hN H10))) 4691 20) 1304 a0 (some (hN (sC (nw H10 4675 20) 1303 a0 (some (hN H10)))))) < scrA ∧ (1 ≤ ((((ca - 1) - 1) - 1) - 1) ∧ (20 ≤ ((((sa - 80) - 100) - 20) - 20) ∧ (tg (nw (sC (nw (sC (nw H10 4675 20) 1303 a0 (some (hN H10))) 4691 20) 1304 a0 (some (hN (sC (nw H10 4675 20) 1303 a0 (some (hN H10)))))) 4707 20) a0 = 13 ∧ (∀ H25, (sC (nw (sC (nw (sC (nw H10 4675 20) 1303 a0 (some (hN H10))) 4691 20) 1304 a0 (some (hN (sC (nw H10 4675 20) 1303 a0 (some (hN H10)))))) 4707 20) 1305 a0 (some (hN (sC (nw (sC (nw H10 4675 20) 1303 a0 (some (hN H10))) 4691 20) 1304 a0 (some (hN (sC (nw H10 4675 20) 1303 a0 (some (hN H10))))))))) = H25 → (hN H25 < scrA ∧ (1 ≤ (((((ca - 1) - 1) - 1) - 1) - 1) ∧ (20 ≤ (((((sa - 80) - 100) - 20) - 20) - 20) ∧ (tg (nw H25 4723 20) a0 = 13 ∧ (hN (sC (nw H25 4723 20) 1306 a0 (some (hN H25))) < scrA ∧ (1 ≤ ((((((ca - 1) - 1) - 1) - 1) - 1) - 1) ∧ (64 ≤ ((((((sa - 80) - 100) - 20) - 20) - 20) - 20) ∧ (tg (nw (sC (nw H25 4723 20) 1306 a0 (some (hN H25))) 4736 64) a0 = 13 ∧ (hN (sC (nw (sC (nw H25 4723 20) 1306 a0 (some (hN H25))) 4736 64) 1308 a0 (some (hN (sC (nw H25 4723 20) 1306 a0 (some (hN H25)))))) < scrA ∧ (1 ≤ (((((((ca - 1) - 1) - 1) - 1) - 1) - 1) - 1) ∧ (80 ≤ (((((((sa - 80) - 100) - 20) - 20) - 20) - 20) - 64) ∧ (tg (nw (sC (nw (sC (nw H25 4723 20) 1306 a0 (some (hN H25))) 4736 64) 1308 a0 (some (hN (sC (nw H25 4723 20) 1306 a0 (some (hN H25)))))) 4752 80) a0 = 13 ∧ (∀ H40, (sC (nw (sC (nw (sC (nw H25 4723 20) 1306 a0 (some (hN H25))) 4736 64) 1308 a0 (some (hN (sC (nw H25 4723 20) 1306 a0 (some (hN H25)))))) 4752 80) 1312 a0 (some (hN (sC (nw (sC (nw H25 4723 20) 1306 a0 (some (hN H25))) 4736 64) 1308 a0 (some (hN (sC (nw H25 4723 20) 1306 a0 (some (hN H25))))))))) = H40 → (hN H40 < scrA ∧ (1 ≤ ((((((((ca - 1) - 1) - 1) - 1) - 1) - 1) - 1) - 1) ∧ (100 ≤ ((((((((sa - 80) - 100) - 20) - 20) - 20) - 20) - 64) - 80) ∧ (tg (nw H40 4768 100) a0 = 13 ∧ (hN (sC (nw H40 4768 100) 1313 a0 (some (hN H40))) < scrA ∧ (1 ≤ (((((((((ca - 1) - 1) - 1) - 1) - 1) - 1) - 1) - 1) - 1) ∧ (64 ≤ (((((((((sa - 80) - 100) - 20) - 20) - 20) - 20) - 64) - 80) - 100) ∧ (tg (nw (sC (nw H40 4768 100) 1313 a0 (some (hN H40))) 4784 64) a0 = 13 ∧ (hN (sC (nw (sC (nw H40 4768 100) 1313 a0 (some (hN H40))) 4784 64) 1314 a0 (some (hN (sC (nw H40 4768 100) 1313 a0 (some (hN H40)))))) < scrA ∧ (1 ≤ ((((((((((ca - 1) - 1) - 1) - 1) - 1) - 1) - 1) - 1) - 1) - 1) ∧ (20 ≤ ((((((((((sa - 80) - 100) - 20) - 20) - 20) - 20) - 64) - 80) - 100) - 64) ∧ (tg (nw (sC (nw (sC (nw H40 4768 100) 1313 a0 (some (hN H40))) 4784 64) 1314 a0 (some (hN (sC (nw H40 4768 100) 1313 a0 (some (hN H40)))))) 4803 20) a0 = 13 ∧ (∀ H55, (sC (nw (sC (nw (sC (nw H40 4768 100) 1313 a0 (some (hN H40))) 4784 64) 1314 a0 (some (hN (sC (nw H40 4768 100) 1313 a0 (some (hN H40)))))) 4803 20) 1315 a0 (some (hN (sC (nw (sC (nw H40 4768 100) 1313 a0 (some (hN H40))) 4784 64) 1314 a0 (some (hN (sC (nw H40 4768 100) 1313 a0 (some (hN H40))))))))) = H55 → (hN H55 < scrA ∧ (1 ≤ (((((((((((ca - 1) - 1) - 1) - 1) - 1) - 1) - 1) - 1) - 1) - 1) - 1) ∧ (20 ≤ (((((((((((sa - 80) - 100) - 20) - 20) - 20) - 20) - 64) - 80) - 100) - 64) - 20) ∧ (tg (nw H55 4819 20) a0 = 13 ∧ (hN (sC (nw H55 4819 20) 1316 a0 (some (hN H55))) < scrA ∧ (1 ≤ ((((((((((((ca - 1) - 1) - 1) - 1) - 1) - 1) - 1) - 1) - 1) - 1) - 1) - 1) ∧ (20 ≤ ((((((((((((sa - 80) - 100) - 20) - 20) - 20) - 20) - 64) - 80) - 100) - 64) - 20) - 20) ∧ (tg (nw (sC (nw H55 4819 20) 1316 a0 (some (hN H55))) 4835 20) a0 = 13 ∧ (hN (sC (nw (sC (nw H55 4819 20) 1316 a0 (some (hN H55))) 4835 20) 1317 a0 (some (hN (sC (nw H55 4819 20) 1316 a0 (some (hN H55)))))) < scrA ∧ (1 ≤ (((((((((((((ca - 1) - 1) - 1) - 1) - 1) - 1) - 1) - 1) - 1) - 1) - 1) - 1) - 1) ∧ (20 ≤ (((((((((((((sa - 80) - 100) - 20) - 20) - 20) - 20) - 64) - 80) - 100) - 64) - 20) - 20) - 20) ∧ (tg (nw (sC (nw (sC (nw H55 4819 20) 1316 a0 (some (hN H55))) 4835 20) 1317 a0 (some (hN (sC (nw H55 4819 20) 1316 a0 (some (hN H55)))))) 4851 20) a0 = 13 ∧ (∀ H70, (sC (nw (sC (nw (sC (nw H55 4819 20) 1316 a0 (some (hN H55))) 4835 20) 1317 a0 (some (hN (sC (nw H55 4819 20) 1316 a0 (some (hN H55)))))) 4851 20) 1318 a0 (some (hN (sC (nw (sC (nw H55 4819 20) 1316 a0 (some (hN H55))) 4835 20) 1317 a0 (some (hN (sC (nw H55 4819 20) 1316 a0 (some (hN H55))))))))) = H70 → (hN H70 < scrA ∧ (1 ≤ ((((((((((((((ca - 1) - 1) - 1) - 1) - 1) - 1) - 1) - 1) - 1) - 1) - 1) - 1) - 1) - 1) ∧ (60 ≤ ((((((((((((((sa - 80) - 100) - 20) - 20) - 20) - 20) - 64) - 80) - 100) - 64) - 20) - 20) - 20) - 20) ∧ (tg (nw H70 4864 60) a0 = 13 ∧ (hN (sC (nw H70 4864 60) 1322 a0 (some (hN H70))) < scrA ∧ (1 ≤ (((((((((((((((ca - 1) - 1) - 1) - 1) - 1) - 1) - 1) - 1) - 1) - 1) - 1) - 1) - 1) - 1) - 1) ∧ (60 ≤ (((((((((((((((sa - 80) - 100) - 20) - 20) - 20) - 20) - 64) - 80) - 100) - 64) - 20) - 20) - 20) - 20) - 60) ∧ (tg (nw (sC (nw H70 4864 60) 1322 a0 (some (hN H70))) 4880 60) a0 = 13 ∧ (hN (sC (nw (sC (nw H70 4864 60) 1322 a0 (some (hN H70))) 4880 60) 1333 a0 (some (hN (sC (nw H70 4864 60) 1322 a0 (some (hN H70)))))) < scrA ∧ (1 ≤ ((((((((((((((((ca - 1) - 1) - 1) - 1) - 1) - 1) - 1) - 1) - 1) - 1) - 1) - 1) - 1) - 1) - 1) - 1) ∧ (60 ≤ ((((((((((((((((sa - 80) - 100) - 20) - 20) - 20) - 20) - 64) - 80) - 100) - 64) - 20) - 20) - 20) - 20) - 60) - 60) ∧ (tg (nw (sC (nw (sC (nw H70 4864 60) 1322 a0 (some (hN H70))) 4880 60) 1333 a0 (some (hN (sC (nw H70 4864 60) 1322 a0 (some (hN H70)))))) 4896 60) a0 = 13 ∧ (∀ H85, (sC (nw (sC (nw (sC (nw H70 4864 60) 1322 a0 (some (hN H70))) 4880 60) 1333 a0 (some (hN (sC (nw H70 4864 60) 1322 a0 (some (hN H70)))))) 4896 60) 1334 a0 (some (hN (sC (nw (sC (nw H70 4864 60) 1322 a0 (some (hN H70))) 4880 60) 1333 a0 (some (hN (sC (nw H70 4864 60) 1322 a0 (some (hN H70))))))))) = H85 → (hN H85 < scrA ∧ (1 ≤ (((((((((((((((((ca - 1) - 1) - 1) - 1) - 1) - 1) - 1) - 1) - 1) - 1) - 1) - 1) - 1) - 1) - 1) - 1) - 1) ∧ (60 ≤ (((((((((((((((((sa - 80) - 100) - 20) - 20) - 20) - 20) - 64) - 80) - 100) - 64) - 20) - 20) - 20) - 20) - 60) - 60) - 60) ∧ (tg (nw H85 4912 60) a0 = 13 ∧ (hN (sC (nw H85 4912 60) 1335 a0 (some (hN H85))) < scrA ∧ (1 ≤ ((((((((((((((((((ca - 1) - 1) - 1) - 1) - 1) - 1) - 1) - 1) - 1) - 1) - 1) - 1) - 1) - 1) - 1) - 1) - 1) - 1) ∧ (60 ≤ ((((((((((((((((((sa - 80) - 100) - 20) - 20) - 20) - 20) - 64) - 80) - 100) - 64) - 20) - 20) - 20) - 20) - 60) - 60) - 60) - 60) ∧ (tg (nw (sC (nw H85 4912 60) 1335 a0 (some (hN H85))) 4928 60) a0 = 13 ∧ (hN (sC (nw (sC (nw H85 4912 60) 1335 a0 (some (hN H85))) 4928 60) 1336 a0 (some (hN (sC (nw H85 4912 60) 1335 a0 (some (hN H85)))))) < scrA ∧ (1 ≤ (((((((((((((((((((ca - 1) - 1) - 1) - 1) - 1) - 1) - 1) - 1) - 1) - 1) - 1) - 1) - 1) - 1) - 1) - 1) - 1) - 1) - 1) ∧ (5 ≤ (((((((((((((((((((sa - 80) - 100) - 20) - 20) - 20) - 20) - 64) - 80) - 100) - 64) - 20) - 20) - 20) - 20) - 60) - 60) - 60) - 60) - 60) ∧ (tg (nw (sC (nw (sC (nw H85 4912 60) 1335 a0 (some (hN H85))) 4928 60) 1336 a0 (some (hN (sC (nw H85 4912 60) 1335 a0 (some (hN H85)))))) 4944 5) a0 = 13 ∧ (∀ H100, (sC (nw (sC (nw (sC (nw H85 4912 60) 1335 a0 (some (hN H85))) 4928 60) 1336 a0 (some (hN (sC (nw H85 4912 60) 1335 a0 (some (hN H85)))))) 4944 5) 1337 a0 (some (hN (sC (nw (sC (nw H85 4912 60) 1335 a0 (some (hN H85))) 4928 60) 1336 a0 (some (hN (sC (nw H85 4912 60) 1335 a0 (some (hN H85))))))))) = H100 → (hN H100 < scrA ∧ (1 ≤ ((((((((((((((((((((ca - 1) - 1) - 1) - 1) - 1) - 1) - 1) - 1) - 1) - 1) - 1) - 1) - 1) - 1) - 1) - 1) - 1) - 1) - 1) - 1) ∧ (64 ≤ ((((((((((((((((((((sa - 80) - 100) - 20) - 20) - 20) - 20) - 64) - 80) - 100) - 64) - 20) - 20) - 20) - 20) - 60) - 60) - 60) - 60) - 60) - 5) ∧ (tg (nw H100 4960 64) a0 = 13 ∧ (hN (sC (nw H100 4960 64) 1345 a0 (some (hN H100))) < scrA ∧ (1 ≤ (((((((((((((((((((((ca - 1) - 1) - 1) - 1) - 1) - 1) - 1) - 1) - 1) - 1) - 1) - 1) - 1) - 1) - 1) - 1) - 1) - 1) - 1) - 1) - 1) ∧ (320 ≤ (((((((((((((((((((((sa - 80) - 100) - 20) - 20) - 20) - 20) - 64) - 80) - 100) - 64) - 20) - 20) - 20) - 20) - 60) - 60) - 60) - 60) - 60) - 5) - 64) ∧ (tg (nw (sC (nw H100 4960 64) 1345 a0 (some (hN H100))) 4976 320) a0 = 13 ∧ (hN (sC (nw (sC (nw H100 4960 64) 1345 a0 (some (hN H100))) 4976 320) 1346 a0 (some (hN (sC (nw H100 4960 64) 1345 a0 (some (hN H100)))))) < scrA ∧ (1 ≤ ((((((((((((((((((((((ca - 1) - 1) - 1) - 1) - 1) - 1) - 1) - 1) - 1) - 1) - 1) - 1) - 1) - 1) - 1) - 1) - 1) - 1) - 1) - 1) - 1) - 1) ∧ (64 ≤ ((((((((((((((((((((((sa - 80) - 100) - 20) - 20) - 20) - 20) - 64) - 80) - 100) - 64) - 20) - 20) - 20) - 20) - 60) - 60) - 60) - 60) - 60) - 5) - 64) - 320) ∧ (tg (nw (sC (nw (sC (nw H100 4960 64) 1345 a0 (some (hN H100))) 4976 320) 1346 a0 (some (hN (sC (nw H100 4960 64) 1345 a0 (some (hN H100)))))) 4995 64) a0 = 13 ∧ (∀ H115, (sC (nw (sC (nw (sC (nw H100 4960 64) 1345 a0 (some (hN H100))) 4976 320) 1346 a0 (some (hN (sC (nw H100 4960 64) 1345 a0 (some (hN H100)))))) 4995 64) 1347 a0 (some (hN (sC (nw (sC (nw H100 4960 64) 1345 a0 (some (hN H100))) 4976 320) 1346 a0 (some (hN (sC (nw H100 4960 64) 1345 a0 (some (hN H100))))))))) = H115 → (hN H115 < scrA ∧ (1 ≤ (((((((((((((((((((((((ca - 1) - 1) - 1) - 1) - 1) - 1) - 1) - 1) - 1) - 1) - 1) - 1) - 1) - 1) - 1) - 1) - 1) - 1) - 1) - 1) - 1) - 1) - 1) ∧ (64 ≤ (((((((((((((((((((((((sa - 80) - 100) - 20) - 20) - 20) - 20) - 64) - 80) - 100) - 64) - 20) - 20) - 20) - 20) - 60) - 60) - 60) - 60) - 60) - 5) - 64) - 320) - 64) ∧ (tg (nw H115 5011 64) a0 = 13 ∧ (hN (sC (nw H115 5011 64) 1348 a0 (some (hN H115))) < scrA ∧ (1 ≤ ((((((((((((((((((((((((ca - 1) - 1) - 1) - 1) - 1) - 1) - 1) - 1) - 1) - 1) - 1) - 1) - 1) - 1) - 1) - 1) - 1) - 1) - 1) - 1) - 1) - 1) - 1) - 1) ∧ (4 ≤ ((((((((((((((((((((((((sa - 80) - 100) - 20) - 20) - 20) - 20) - 64) - 80) - 100) - 64) - 20) - 20) - 20) - 20) - 60) - 60) - 60) - 60) - 60) - 5) - 64) - 320) - 64) - 64) ∧ (tg (nw (sC (nw H115 5011 64) 1348 a0 (some (hN H115))) 5027 4) a0 = 13 ∧ (hN (sC (nw (sC (nw H115 5011 64) 1348 a0 (some (hN H115))) 5027 4) 1350 a0 (some (hN (sC (nw H115 5011 64) 1348 a0 (some (hN H115)))))) < scrA ∧ (1 ≤ (((((((((((((((((((((((((ca - 1) - 1) - 1) - 1) - 1) - 1) - 1) - 1) - 1) - 1) - 1) - 1) - 1) - 1) - 1) - 1) - 1) - 1) - 1) - 1) - 1) - 1) - 1) - 1) - 1) ∧ (4 ≤ (((((((((((((((((((((((((sa - 80) - 100) - 20) - 20) - 20) - 20) - 64) - 80) - 100) - 64) - 20) - 20) - 20) - 20) - 60) - 60) - 60) - 60) - 60) - 5) - 64) - 320) - 64) - 64) - 4) ∧ (tg (nw (sC (nw (sC (nw H115 5011 64) 1348 a0 (some (hN H115))) 5027 4) 1350 a0 (some (hN (sC (nw H115 5011 64) 1348 a0 (some (hN H115)))))) 5040 4) a0 = 13 ∧ (∀ H130, (sC (nw (sC (nw (sC (nw H115 5011 64) 1348 a0 (some (hN H115))) 5027 4) 1350 a0 (some (hN (sC (nw H115 5011 64) 1348 a0 (some (hN H115)))))) 5040 4) 1351 a0 (some (hN (sC (nw (sC (nw H115 5011 64) 1348 a0 (some (hN H115))) 5027 4) 1350 a0 (some (hN (sC (nw H115 5011 64) 1348 a0 (some (hN H115))))))))) = H130 → (hN H130 < scrA ∧ (1 ≤ ((((((((((((((((((((((((((ca - 1) - 1) - 1) - 1) - 1) - 1) - 1) - 1) - 1) - 1) - 1) - 1) - 1) - 1) - 1) - 1) - 1) - 1) - 1) - 1) - 1) - 1) - 1) - 1) - 1) - 1) ∧ (3 ≤ ((((((((((((((((((((((((((sa - 80) - 100) - 20) - 20) - 20) - 20) - 64) - 80) - 100) - 64) - 20) - 20) - 20) - 20) - 60) - 60) - 60) - 60) - 60) - 5) - 64) - 320) - 64) - 64) - 4) - 4) ∧ (tg (nw H130 5056 3) a0 = 13 ∧ (hN (sC (nw H130 5056 3) 1353 a0 (some (hN H130))) < scrA ∧ (1 ≤ (((((((((((((((((((((((((((ca - 1) - 1) - 1) - 1) - 1) - 1) - 1) - 1) - 1) - 1) - 1) - 1) - 1) - 1) - 1) - 1) - 1) - 1) - 1) - 1) - 1) - 1) - 1) - 1) - 1) - 1) - 1) ∧ (16 ≤ (((((((((((((((((((((((((((sa - 80) - 100) - 20) - 20) - 20) - 20) - 64) - 80) - 100) - 64) - 20) - 20) - 20) - 20) - 60) - 60) - 60) - 60) - 60) - 5) - 64) - 320) - 64) - 64) - 4) - 4) - 3) ∧ (tg (nw (sC (nw H130 5056 3) 1353 a0 (some (hN H130))) 5072 16) a0 = 13 ∧ (hN (sC (nw (sC (nw H130 5056 3) 1353 a0 (some (hN H130))) 5072 16) 1354 a0 (some (hN (sC (nw H130 5056 3) 1353 a0 (some (hN H130)))))) < scrA ∧ (1 ≤ ((((((((((((((((((((((((((((ca - 1) - 1) - 1) - 1) - 1) - 1) - 1) - 1) - 1) - 1) - 1) - 1) - 1) - 1) - 1) - 1) - 1) - 1) - 1) - 1) - 1) - 1) - 1) - 1) - 1) - 1) - 1) - 1) ∧ (20 ≤ ((((((((((((((((((((((((((((sa - 80) - 100) - 20) - 20) - 20) - 20) - 64) - 80) - 100) - 64) - 20) - 20) - 20) - 20) - 60) - 60) - 60) - 60) - 60) - 5) - 64) - 320) - 64) - 64) - 4) - 4) - 3) - 16) ∧ (tg (nw (sC (nw (sC (nw H130 5056 3) 1353 a0 (some (hN H130))) 5072 16) 1354 a0 (some (hN (sC (nw H130 5056 3) 1353 a0 (some (hN H130)))))) 5088 20) a0 = 13 ∧ (∀ H145, (sC (nw (sC (nw (sC (nw H130 5056 3) 1353 a0 (some (hN H130))) 5072 16) 1354 a0 (some (hN (sC (nw H130 5056 3) 1353 a0 (some (hN H130)))))) 5088 20) 1355 a0 (some (hN (sC (nw (sC (nw H130 5056 3) 1353 a0 (some (hN H130))) 5072 16) 1354 a0 (some (hN (sC (nw H130 5056 3) 1353 a0 (some (hN H130))))))))) = H145 → (hN H145 < scrA ∧ (1 ≤ (((((((((((((((((((((((((((((ca - 1) - 1) - 1) - 1) - 1) - 1) - 1) - 1) - 1) - 1) - 1) - 1) - 1) - 1) - 1) - 1) - 1) - 1) - 1) - 1) - 1) - 1) - 1) - 1) - 1) - 1) - 1) - 1) - 1) ∧ (20 ≤ (((((((((((((((((((((((((((((sa - 80) - 100) - 20) - 20) - 20) - 20) - 64) - 80) - 100) - 64) - 20) - 20) - 20) - 20) - 60) - 60) - 60) - 60) - 60) - 5) - 64) - 320) - 64) - 64) - 4) - 4) - 3) - 16) - 20) ∧ (tg (nw H145 5104 20) a0 = 13 ∧ (hN (sC (nw H145 5104 20) 1356 a0 (some (hN H145))) < scrA ∧ (1 ≤ ((((((((((((((((((((((((((((((ca - 1) - 1) - 1) - 1) - 1) - 1) - 1) - 1) - 1) - 1) - 1) - 1) - 1) - 1) - 1) - 1) - 1) - 1) - 1) - 1) - 1) - 1) - 1) - 1) - 1) - 1) - 1) - 1) - 1) - 1) ∧ (4 ≤ ((((((((((((((((((((((((((((((sa - 80) - 100) - 20) - 20) - 20) - 20) - 64) - 80) - 100) - 64) - 20) - 20) - 20) - 20) - 60) - 60) - 60) - 60) - 60) - 5) - 64) - 320) - 64) - 64) - 4) - 4) - 3) - 16) - 20) - 20) ∧ (tg (nw (sC (nw H145 5104 20) 1356 a0 (some (hN H145))) 5120 4) a0 = 13 ∧ (hN (sC (nw (sC (nw H145 5104 20) 1356 a0 (some (hN H145))) 5120 4) 1357 a0 (some (hN (sC (nw H145 5104 20) 1356 a0 (some (hN H145)))))) < scrA ∧ (1 ≤ (((((((((((((((((((((((((((((((ca - 1) - 1) - 1) - 1) - 1) - 1) - 1) - 1) - 1) - 1) - 1) - 1) - 1) - 1) - 1) - 1) - 1) - 1) - 1) - 1) - 1) - 1) - 1) - 1) - 1) - 1) - 1) - 1) - 1) - 1) - 1) ∧ (4 ≤ (((((((((((((((((((((((((((((((sa - 80) - 100) - 20) - 20) - 20) - 20) - 64) - 80) - 100) - 64) - 20) - 20) - 20) - 20) - 60) - 60) - 60) - 60) - 60) - 5) - 64) - 320) - 64) - 64) - 4) - 4) - 3) - 16) - 20) - 20) - 4) ∧ (tg (nw (sC (nw (sC (nw H145 5104 20) 1356 a0 (some (hN H145))) 5120 4) 1357 a0 (some (hN (sC (nw H145 5104 20) 1356 a0 (some (hN H145)))))) 5136 4) a0 = 13 ∧ (∀ H160, (sC (nw (sC (nw (sC (nw H145 5104 20) 1356 a0 (some (hN H145))) 5120 4) 1357 a0 (some (hN (sC (nw H145 5104 20) 1356 a0 (some (hN H145)))))) 5136 4) 1358 a0 (some (hN (sC (nw (sC (nw H145 5104 20) 1356 a0 (some (hN H145))) 5120 4) 1357 a0 (some (hN (sC (nw H145 5104 20) 1356 a0 (some (hN H145))))))))) = H160 → (hN H160 < scrA ∧ (1 ≤ ((((((((((((((((((((((((((((((((ca - 1) - 1) - 1) - 1) - 1) - 1) - 1) - 1) - 1) - 1) - 1) - 1) - 1) - 1) - 1) - 1) - 1) - 1) - 1) - 1) - 1) - 1) - 1) - 1) - 1) - 1) - 1) - 1) - 1) - 1) - 1) - 1) ∧ (120 ≤ ((((((((((((((((((((((((((((((((sa - 80) - 100) - 20) - 20) - 20) - 20) - 64) - 80) - 100) - 64) - 20) - 20) - 20) - 20) - 60) - 60) - 60) - 60) - 60) - 5) - 64) - 320) - 64) - 64) - 4) - 4) - 3) - 16) - 20) - 20) - 4) - 4) ∧ (tg (nw H160 5156 120) a0 = 13 ∧ (hN (sC (nw H160 5156 120) 1359 a0 (some (hN H160))) < scrA ∧ (1 ≤ (((((((((((((((((((((((((((((((((ca - 1) - 1) - 1) - 1) - 1) - 1) - 1) - 1) - 1) - 1) - 1) - 1) - 1) - 1) - 1) - 1) - 1) - 1) - 1) - 1) - 1) - 1) - 1) - 1) - 1) - 1) - 1) - 1) - 1) - 1) - 1) - 1) - 1) ∧ (120 ≤ (((((((((((((((((((((((((((((((((sa - 80) - 100) - 20) - 20) - 20) - 20) - 64) - 80) - 100) - 64) - 20) - 20) - 20) - 20) - 60) - 60) - 60) - 60) - 60) - 5) - 64) - 320) - 64) - 64) - 4) - 4) - 3) - 16) - 20) - 20) - 4) - 4) - 120) ∧ (tg (nw (sC (nw H160 5156 120) 1359 a0 (some (hN H160))) 5173 120) a0 = 13 ∧ (hN (sC (nw (sC (nw H160 5156 120) 1359 a0 (some (hN H160))) 5173 120) 1360 a0 (some (hN (sC (nw H160 5156 120) 1359 a0 (some (hN H160)))))) < scrA ∧ (1 ≤ ((((((((((((((((((((((((((((((((((ca - 1) - 1) - 1) - 1) - 1) - 1) - 1) - 1) - 1) - 1) - 1) - 1) - 1) - 1) - 1) - 1) - 1) - 1) - 1) - 1) - 1) - 1) - 1) - 1) - 1) - 1) - 1) - 1) - 1) - 1) - 1) - 1) - 1) - 1) ∧ (18 ≤ ((((((((((((((((((((((((((((((((((sa - 80) - 100) - 20) - 20) - 20) - 20) - 64) - 80) - 100) - 64) - 20) - 20) - 20) - 20) - 60) - 60) - 60) - 60) - 60) - 5) - 64) - 320) - 64) - 64) - 4) - 4) - 3) - 16) - 20) - 20) - 4) - 4) - 120) - 120) ∧ (tg (nw (sC (nw (sC (nw H160 5156 120) 1359 a0 (some (hN H160))) 5173 120) 1360 a0 (some (hN (sC (nw H160 5156 120) 1359 a0 (some (hN H160)))))) 5184 18) a0 = 13 ∧ (∀ H175, (sC (nw (sC (nw (sC (nw H160 5156 120) 1359 a0 (some (hN H160))) 5173 120) 1360 a0 (some (hN (sC (nw H160 5156 120) 1359 a0 (some (hN H160)))))) 5184 18) 1361 a0 (some (hN (sC (nw (sC (nw H160 5156 120) 1359 a0 (some (hN H160))) 5173 120) 1360 a0 (some (hN (sC (nw H160 5156 120) 1359 a0 (some (hN H160))))))))) = H175 → (hN H175 < scrA ∧ (1 ≤ (((((((((((((((((((((((((((((((((((ca - 1) - 1) - 1) - 1) - 1) - 1) - 1) - 1) - 1) - 1) - 1) - 1) - 1) - 1) - 1) - 1) - 1) - 1) - 1) - 1) - 1) - 1) - 1) - 1) - 1) - 1) - 1) - 1) - 1) - 1) - 1) - 1) - 1) - 1) - 1) ∧ (18 ≤ (((((((((((((((((((((((((((((((((((sa - 80) - 100) - 20) - 20) - 20) - 20) - 64) - 80) - 100) - 64) - 20) - 20) - 20) - 20) - 60) - 60) - 60) - 60) - 60) - 5) - 64) - 320) - 64) - 64) - 4) - 4) - 3) - 16) - 20) - 20) - 4) - 4) - 120) - 120) - 18) ∧ (tg (nw H175 5200 18) a0 = 13 ∧ (L_X12_init_294 d ((((((((((((((((((((((((((((((((((((ca - 1) - 1) - 1) - 1) - 1) - 1) - 1) - 1) - 1) - 1) - 1) - 1) - 1) - 1) - 1) - 1) - 1) - 1) - 1) - 1) - 1) - 1) - 1) - 1) - 1) - 1) - 1) - 1) - 1) - 1) - 1) - 1) - 1) - 1) - 1) - 1) ((((((((((((((((((((((((((((((((((((sa - 80) - 100) - 20) - 20) - 20) - 20) - 64) - 80) - 100) - 64) - 20) - 20) - 20) - 20) - 60) - 60) - 60) - 60) - 60) - 5) - 64) - 320) - 64) - 64) - 4) - 4) - 3) - 16) - 20) - 20) - 4) - 4) - 120) - 120) - 18) - 18) q a0 (0 : Int32) (sC (nw H175 5200 18) 1362 a0 (some (hN H175))))))))))))))))))))))))))))))))))))))))))))))))))))))))))))))))))))))))))))))))))))))))))))))))))))))))))))))))))))))))))))))))))))))))))))))))))))))))))))))))
set_option maxRecDepth 40000 in
set_option maxHeartbeats 4000000 in
theorem T_X12_init_0 {d : Nat} {ca sa : Nat} {q : HP → Prop} {a0 : Nat} {H : HP} (h : wb_X12_init_0 d ca sa q a0 H) : WP (d + 1) mX12_init ca sa 0 [(0, rv (some a0))] [] H (qV q) := by
  unfold wb_X12_init_0 at h
  refine wp_aload_n 0 dX12_init_0 rfl ?_
  refine wp_objInit dX12_init_1 w_5_230 w_1_29 w_1_30 rfl (by decide) (by omega) ?_
  refine wp_aload_n 0 dX12_init_4 rfl ?_
  refine wp_iconst (v := (5 : Int32)) dX12_init_5 (by decide) ?_
  obtain ⟨ht1, h⟩ := h
  refine wp_putI (ci := 12) (j := 0) dX12_init_6 fi_X12_11 rfl (fun z => by cases z) rfl ht1 rfl rfl ?_
  change WP _ _ _ _ _ _ _ (sI H 1300 a0 0 (5 : Int32)) _
  refine wp_aload_n 0 dX12_init_9 rfl ?_
  refine wp_bipush (v := (80 : Int32)) dX12_init_10 (by decide) ?_
  obtain ⟨hg2, h⟩ := h
  obtain ⟨hg3, h⟩ := h
  obtain ⟨hg4, h⟩ := h
  refine wp_newarray (t := 4640) (N := 80) (ca' := ca - 1) (sa' := sa - 80) dX12_init_12 w_1_88 (by decide) rfl (by decide) (by decide) (by decide +kernel) hg2 (by omega) (by omega) ?_
  obtain ⟨ht5, h⟩ := h
  refine wp_putC (ci := 12) (j := 1) dX12_init_14 fi_X12_15 rfl (fun _ => rfl) rfl ht5 (Or.inr ⟨_, rfl⟩) ?_
  change WP _ _ _ _ _ _ _ (sC (nw (sI H 1300 a0 0 (5 : Int32)) 4640 80) 1301 a0 (some (hN (sI H 1300 a0 0 (5 : Int32))))) _
  refine wp_aload_n 0 dX12_init_17 rfl ?_
  refine wp_bipush (v := (100 : Int32)) dX12_init_18 (by decide) ?_
  obtain ⟨hg6, h⟩ := h
  obtain ⟨hg7, h⟩ := h
  obtain ⟨hg8, h⟩ := h
  refine wp_newarray (t := 4656) (N := 100) (ca' := (ca - 1) - 1) (sa' := (sa - 80) - 100) dX12_init_20 w_1_88 (by decide) rfl (by decide) (by decide) (by decide +kernel) hg6 (by omega) (by omega) ?_
  obtain ⟨ht9, h⟩ := h
  refine wp_putC (ci := 12) (j := 2) dX12_init_22 fi_X12_19 rfl (fun _ => rfl) rfl ht9 (Or.inr ⟨_, rfl⟩) ?_
  change WP _ _ _ _ _ _ _ (sC (nw (sC (nw (sI H 1300 a0 0 (5 : Int32)) 4640 80) 1301 a0 (some (hN (sI H 1300 a0 0 (5 : Int32))))) 4656 100) 1302 a0 (some (hN (sC (nw (sI H 1300 a0 0 (5 : Int32)) 4640 80) 1301 a0 (some (hN (sI H 1300 a0 0 (5 : Int32)))))))) _
  replace h := h _ rfl
  generalize e11 : (sC (nw (sC (nw (sI H 1300 a0 0 (5 : Int32)) 4640 80) 1301 a0 (some (hN (sI H 1300 a0 0 (5 : Int32))))) 4656 100) 1302 a0 (some (hN (sC (nw (sI H 1300 a0 0 (5 : Int32)) 4640 80) 1301 a0 (some (hN (sI H 1300 a0 0 (5 : Int32)))))))) = H10 at h ⊢
  have ht12 : tg H10 a0 = 13 := by rw [← e11]; exact ht9
  refine wp_aload_n 0 dX12_init_25 rfl ?_
  refine wp_bipush (v := (20 : Int32)) dX12_init_26 (by decide) ?_
  obtain ⟨hg13, h⟩ := h
  obtain ⟨hg14, h⟩ := h
  obtain ⟨hg15, h⟩ := h
  refine wp_newarray (t := 4675) (N := 20) (ca' := ((ca - 1) - 1) - 1) (sa' := ((sa - 80) - 100) - 20) dX12_init_28 w_2_192 (by decide) rfl (by decide) (by decide) (by decide +kernel) hg13 (by omega) (by omega) ?_
  obtain ⟨ht16, h⟩ := h
  refine wp_putC (ci := 12) (j := 3) dX12_init_30 fi_X12_22 rfl (fun _ => rfl) rfl ht16 (Or.inr ⟨_, rfl⟩) ?_
  change WP _ _ _ _ _ _ _ (sC (nw H10 4675 20) 1303 a0 (some (hN H10))) _
  refine wp_aload_n 0 dX12_init_33 rfl ?_
  refine wp_bipush (v := (20 : Int32)) dX12_init_34 (by decide) ?_
  obtain ⟨hg17, h⟩ := h
  obtain ⟨hg18, h⟩ := h
  obtain ⟨hg19, h⟩ := h
  refine wp_newarray (t := 4691) (N := 20) (ca' := (((ca - 1) - 1) - 1) - 1) (sa' := (((sa - 80) - 100) - 20) - 20) dX12_init_36 w_2_192 (by decide) rfl (by decide) (by decide) (by decide +kernel) hg17 (by omega) (by omega) ?_
  obtain ⟨ht20, h⟩ := h
  refine wp_putC (ci := 12) (j := 4) dX12_init_38 fi_X12_26 rfl (fun _ => rfl) rfl ht20 (Or.inr ⟨_, rfl⟩) ?_
  change WP _ _ _ _ _ _ _ (sC (nw (sC (nw H10 4675 20) 1303 a0 (some (hN H10))) 4691 20) 1304 a0 (some (hN (sC (nw H10 4675 20) 1303 a0 (some (hN H10)))))) _
  refine wp_aload_n 0 dX12_init_41 rfl ?_
  refine wp_bipush (v := (20 : Int32)) dX12_init_42 (by decide) ?_
  obtain ⟨hg21, h⟩ := h
  obtain ⟨hg22, h⟩ := h
  obtain ⟨hg23, h⟩ := h
  refine wp_newarray (t := 4707) (N := 20) (ca' := ((((ca - 1) - 1) - 1) - 1) - 1) (sa' := ((((sa - 80) - 100) - 20) - 20) - 20) dX12_init_44 w_2_192 (by decide) rfl (by decide) (by decide) (by decide +kernel) hg21 (by omega) (by omega) ?_
  obtain ⟨ht24, h⟩ := h
  refine wp_putC (ci := 12) (j := 5) dX12_init_46 fi_X12_29 rfl (fun _ => rfl) rfl ht24 (Or.inr ⟨_, rfl⟩) ?_
  change WP _ _ _ _ _ _ _ (sC (nw (sC (nw (sC (nw H10 4675 20) 1303 a0 (some (hN H10))) 4691 20) 1304 a0 (some (hN (sC (nw H10 4675 20) 1303 a0 (some (hN H10)))))) 4707 20) 1305 a0 (some (hN (sC (nw (sC (nw H10 4675 20) 1303 a0 (some (hN H10))) 4691 20) 1304 a0 (some (hN (sC (nw H10 4675 20) 1303 a0 (some (hN H10))))))))) _
  replace h := h _ rfl
  generalize e26 : (sC (nw (sC (nw (sC (nw H10 4675 20) 1303 a0 (some (hN H10))) 4691 20) 1304 a0 (some (hN (sC (nw H10 4675 20) 1303 a0 (some (hN H10)))))) 4707 20) 1305 a0 (some (hN (sC (nw (sC (nw H10 4675 20) 1303 a0 (some (hN H10))) 4691 20) 1304 a0 (some (hN (sC (nw H10 4675 20) 1303 a0 (some (hN H10))))))))) = H25 at h ⊢
  have ht27 : tg H25 a0 = 13 := by rw [← e26]; exact ht24
  refine wp_aload_n 0 dX12_init_49 rfl ?_
  refine wp_bipush (v := (20 : Int32)) dX12_init_50 (by decide) ?_
  obtain ⟨hg28, h⟩ := h
  obtain ⟨hg29, h⟩ := h
  obtain ⟨hg30, h⟩ := h
  refine wp_newarray (t := 4723) (N := 20) (ca' := (((((ca - 1) - 1) - 1) - 1) - 1) - 1) (sa' := (((((sa - 80) - 100) - 20) - 20) - 20) - 20) dX12_init_52 w_2_192 (by decide) rfl (by decide) (by decide) (by decide +kernel) hg28 (by omega) (by omega) ?_
  obtain ⟨ht31, h⟩ := h
  refine wp_putC (ci := 12) (j := 6) dX12_init_54 fi_X12_32 rfl (fun _ => rfl) rfl ht31 (Or.inr ⟨_, rfl⟩) ?_
  change WP _ _ _ _ _ _ _ (sC (nw H25 4723 20) 1306 a0 (some (hN H25))) _
  refine wp_aload_n 0 dX12_init_57 rfl ?_
  refine wp_bipush (v := (64 : Int32)) dX12_init_58 (by decide) ?_
  obtain ⟨hg32, h⟩ := h
  obtain ⟨hg33, h⟩ := h
  obtain ⟨hg34, h⟩ := h
  refine wp_newarray (t := 4736) (N := 64) (ca' := ((((((ca - 1) - 1) - 1) - 1) - 1) - 1) - 1) (sa' := ((((((sa - 80) - 100) - 20) - 20) - 20) - 20) - 64) dX12_init_60 w_1_88 (by decide) rfl (by decide) (by decide) (by decide +kernel) hg32 (by omega) (by omega) ?_
  obtain ⟨ht35, h⟩ := h
  refine wp_putC (ci := 12) (j := 8) dX12_init_62 fi_X12_35 rfl (fun _ => rfl) rfl ht35 (Or.inr ⟨_, rfl⟩) ?_
  change WP _ _ _ _ _ _ _ (sC (nw (sC (nw H25 4723 20) 1306 a0 (some (hN H25))) 4736 64) 1308 a0 (some (hN (sC (nw H25 4723 20) 1306 a0 (some (hN H25)))))) _
  refine wp_aload_n 0 dX12_init_65 rfl ?_
  refine wp_bipush (v := (80 : Int32)) dX12_init_66 (by decide) ?_
  obtain ⟨hg36, h⟩ := h
  obtain ⟨hg37, h⟩ := h
  obtain ⟨hg38, h⟩ := h
  refine wp_newarray (t := 4752) (N := 80) (ca' := (((((((ca - 1) - 1) - 1) - 1) - 1) - 1) - 1) - 1) (sa' := (((((((sa - 80) - 100) - 20) - 20) - 20) - 20) - 64) - 80) dX12_init_68 w_1_88 (by decide) rfl (by decide) (by decide) (by decide +kernel) hg36 (by omega) (by omega) ?_
  obtain ⟨ht39, h⟩ := h
  refine wp_putC (ci := 12) (j := 12) dX12_init_70 fi_X12_38 rfl (fun _ => rfl) rfl ht39 (Or.inr ⟨_, rfl⟩) ?_
  change WP _ _ _ _ _ _ _ (sC (nw (sC (nw (sC (nw H25 4723 20) 1306 a0 (some (hN H25))) 4736 64) 1308 a0 (some (hN (sC (nw H25 4723 20) 1306 a0 (some (hN H25)))))) 4752 80) 1312 a0 (some (hN (sC (nw (sC (nw H25 4723 20) 1306 a0 (some (hN H25))) 4736 64) 1308 a0 (some (hN (sC (nw H25 4723 20) 1306 a0 (some (hN H25))))))))) _
  replace h := h _ rfl
  generalize e41 : (sC (nw (sC (nw (sC (nw H25 4723 20) 1306 a0 (some (hN H25))) 4736 64) 1308 a0 (some (hN (sC (nw H25 4723 20) 1306 a0 (some (hN H25)))))) 4752 80) 1312 a0 (some (hN (sC (nw (sC (nw H25 4723 20) 1306 a0 (some (hN H25))) 4736 64) 1308 a0 (some (hN (sC (nw H25 4723 20) 1306 a0 (some (hN H25))))))))) = H40 at h ⊢
  have ht42 : tg H40 a0 = 13 := by rw [← e41]; exact ht39
  refine wp_aload_n 0 dX12_init_73 rfl ?_
  refine wp_bipush (v := (100 : Int32)) dX12_init_74 (by decide) ?_
  obtain ⟨hg43, h⟩ := h
  obtain ⟨hg44, h⟩ := h
  obtain ⟨hg45, h⟩ := h
  refine wp_newarray (t := 4768) (N := 100) (ca' := ((((((((ca - 1) - 1) - 1) - 1) - 1) - 1) - 1) - 1) - 1) (sa' := ((((((((sa - 80) - 100) - 20) - 20) - 20) - 20) - 64) - 80) - 100) dX12_init_76 w_1_88 (by decide) rfl (by decide) (by decide) (by decide +kernel) hg43 (by omega) (by omega) ?_
  obtain ⟨ht46, h⟩ := h
  refine wp_putC (ci := 12) (j := 13) dX12_init_78 fi_X12_41 rfl (fun _ => rfl) rfl ht46 (Or.inr ⟨_, rfl⟩) ?_
  change WP _ _ _ _ _ _ _ (sC (nw H40 4768 100) 1313 a0 (some (hN H40))) _
  refine wp_aload_n 0 dX12_init_81 rfl ?_
  refine wp_bipush (v := (64 : Int32)) dX12_init_82 (by decide) ?_
  obtain ⟨hg47, h⟩ := h
  obtain ⟨hg48, h⟩ := h
  obtain ⟨hg49, h⟩ := h
  refine wp_newarray (t := 4784) (N := 64) (ca' := (((((((((ca - 1) - 1) - 1) - 1) - 1) - 1) - 1) - 1) - 1) - 1) (sa' := (((((((((sa - 80) - 100) - 20) - 20) - 20) - 20) - 64) - 80) - 100) - 64) dX12_init_84 w_1_88 (by decide) rfl (by decide) (by decide) (by decide +kernel) hg47 (by omega) (by omega) ?_
  obtain ⟨ht50, h⟩ := h
  refine wp_putC (ci := 12) (j := 14) dX12_init_86 fi_X12_44 rfl (fun _ => rfl) rfl ht50 (Or.inr ⟨_, rfl⟩) ?_
  change WP _ _ _ _ _ _ _ (sC (nw (sC (nw H40 4768 100) 1313 a0 (some (hN H40))) 4784 64) 1314 a0 (some (hN (sC (nw H40 4768 100) 1313 a0 (some (hN H40)))))) _
  refine wp_aload_n 0 dX12_init_89 rfl ?_
  refine wp_bipush (v := (20 : Int32)) dX12_init_90 (by decide) ?_
  obtain ⟨hg51, h⟩ := h
  obtain ⟨hg52, h⟩ := h
  obtain ⟨hg53, h⟩ := h
  refine wp_newarray (t := 4803) (N := 20) (ca' := ((((((((((ca - 1) - 1) - 1) - 1) - 1) - 1) - 1) - 1) - 1) - 1) - 1) (sa' := ((((((((((sa - 80) - 100) - 20) - 20) - 20) - 20) - 64) - 80) - 100) - 64) - 20) dX12_init_92 w_2_192 (by decide) rfl (by decide) (by decide) (by decide +kernel) hg51 (by omega) (by omega) ?_
  obtain ⟨ht54, h⟩ := h
  refine wp_putC (ci := 12) (j := 15) dX12_init_94 fi_X12_47 rfl (fun _ => rfl) rfl ht54 (Or.inr ⟨_, rfl⟩) ?_
  change WP _ _ _ _ _ _ _ (sC (nw (sC (nw (sC (nw H40 4768 100) 1313 a0 (some (hN H40))) 4784 64) 1314 a0 (some (hN (sC (nw H40 4768 100) 1313 a0 (some (hN H40)))))) 4803 20) 1315 a0 (some (hN (sC (nw (sC (nw H40 4768 100) 1313 a0 (some (hN H40))) 4784 64) 1314 a0 (some (hN (sC (nw H40 4768 100) 1313 a0 (some (hN H40))))))))) _
  replace h := h _ rfl
  generalize e56 : (sC (nw (sC (nw (sC (nw H40 4768 100) 1313 a0 (some (hN H40))) 4784 64) 1314 a0 (some (hN (sC (nw H40 4768 100) 1313 a0 (some (hN H40)))))) 4803 20) 1315 a0 (some (hN (sC (nw (sC (nw H40 4768 100) 1313 a0 (some (hN H40))) 4784 64) 1314 a0 (some (hN (sC (nw H40 4768 100) 1313 a0 (some (hN H40))))))))) = H55 at h ⊢
  have ht57 : tg H55 a0 = 13 := by rw [← e56]; exact ht54
  refine wp_aload_n 0 dX12_init_97 rfl ?_
  refine wp_bipush (v := (20 : Int32)) dX12_init_98 (by decide) ?_
  obtain ⟨hg58, h⟩ := h
  obtain ⟨hg59, h⟩ := h
  obtain ⟨hg60, h⟩ := h
  refine wp_newarray (t := 4819) (N := 20) (ca' := (((((((((((ca - 1) - 1) - 1) - 1) - 1) - 1) - 1) - 1) - 1) - 1) - 1) - 1) (sa' := (((((((((((sa - 80) - 100) - 20) - 20) - 20) - 20) - 64) - 80) - 100) - 64) - 20) - 20) dX12_init_100 w_2_192 (by decide) rfl (by decide) (by decide) (by decide +kernel) hg58 (by omega) (by omega) ?_
  obtain ⟨ht61, h⟩ := h
  refine wp_putC (ci := 12) (j := 16) dX12_init_102 fi_X12_50 rfl (fun _ => rfl) rfl ht61 (Or.inr ⟨_, rfl⟩) ?_
  change WP _ _ _ _ _ _ _ (sC (nw H55 4819 20) 1316 a0 (some (hN H55))) _
  refine wp_aload_n 0 dX12_init_105 rfl ?_
  refine wp_bipush (v := (20 : Int32)) dX12_init_106 (by decide) ?_
  obtain ⟨hg62, h⟩ := h
  obtain ⟨hg63, h⟩ := h
  obtain ⟨hg64, h⟩ := h
  refine wp_newarray (t := 4835) (N := 20) (ca' := ((((((((((((ca - 1) - 1) - 1) - 1) - 1) - 1) - 1) - 1) - 1) - 1) - 1) - 1) - 1) (sa' := ((((((((((((sa - 80) - 100) - 20) - 20) - 20) - 20) - 64) - 80) - 100) - 64) - 20) - 20) - 20) dX12_init_108 w_2_192 (by decide) rfl (by decide) (by decide) (by decide +kernel) hg62 (by omega) (by omega) ?_
  obtain ⟨ht65, h⟩ := h
  refine wp_putC (ci := 12) (j := 17) dX12_init_110 fi_X12_53 rfl (fun _ => rfl) rfl ht65 (Or.inr ⟨_, rfl⟩) ?_
  change WP _ _ _ _ _ _ _ (sC (nw (sC (nw H55 4819 20) 1316 a0 (some (hN H55))) 4835 20) 1317 a0 (some (hN (sC (nw H55 4819 20) 1316 a0 (some (hN H55)))))) _
  refine wp_aload_n 0 dX12_init_113 rfl ?_
  refine wp_bipush (v := (20 : Int32)) dX12_init_114 (by decide) ?_
  obtain ⟨hg66, h⟩ := h
  obtain ⟨hg67, h⟩ := h
  obtain ⟨hg68, h⟩ := h
  refine wp_newarray (t := 4851) (N := 20) (ca' := (((((((((((((ca - 1) - 1) - 1) - 1) - 1) - 1) - 1) - 1) - 1) - 1) - 1) - 1) - 1) - 1) (sa' := (((((((((((((sa - 80) - 100) - 20) - 20) - 20) - 20) - 64) - 80) - 100) - 64) - 20) - 20) - 20) - 20) dX12_init_116 w_2_192 (by decide) rfl (by decide) (by decide) (by decide +kernel) hg66 (by omega) (by omega) ?_
  obtain ⟨ht69, h⟩ := h
  refine wp_putC (ci := 12) (j := 18) dX12_init_118 fi_X12_56 rfl (fun _ => rfl) rfl ht69 (Or.inr ⟨_, rfl⟩) ?_
  change WP _ _ _ _ _ _ _ (sC (nw (sC (nw (sC (nw H55 4819 20) 1316 a0 (some (hN H55))) 4835 20) 1317 a0 (some (hN (sC (nw H55 4819 20) 1316 a0 (some (hN H55)))))) 4851 20) 1318 a0 (some (hN (sC (nw (sC (nw H55 4819 20) 1316 a0 (some (hN H55))) 4835 20) 1317 a0 (some (hN (sC (nw H55 4819 20) 1316 a0 (some (hN H55))))))))) _
  replace h := h _ rfl
  generalize e71 : (sC (nw (sC (nw (sC (nw H55 4819 20) 1316 a0 (some (hN H55))) 4835 20) 1317 a0 (some (hN (sC (nw H55 4819 20) 1316 a0 (some (hN H55)))))) 4851 20) 1318 a0 (some (hN (sC (nw (sC (nw H55 4819 20) 1316 a0 (some (hN H55))) 4835 20) 1317 a0 (some (hN (sC (nw H55 4819 20) 1316 a0 (some (hN H55))))))))) = H70 at h ⊢
  have ht72 : tg H70 a0 = 13 := by rw [← e71]; exact ht69
  refine wp_aload_n 0 dX12_init_121 rfl ?_
  refine wp_bipush (v := (60 : Int32)) dX12_init_122 (by decide) ?_
  obtain ⟨hg73, h⟩ := h
  obtain ⟨hg74, h⟩ := h
  obtain ⟨hg75, h⟩ := h
  refine wp_newarray (t := 4864) (N := 60) (ca' := ((((((((((((((ca - 1) - 1) - 1) - 1) - 1) - 1) - 1) - 1) - 1) - 1) - 1) - 1) - 1) - 1) - 1) (sa' := ((((((((((((((sa - 80) - 100) - 20) - 20) - 20) - 20) - 64) - 80) - 100) - 64) - 20) - 20) - 20) - 20) - 60) dX12_init_124 w_1_88 (by decide) rfl (by decide) (by decide) (by decide +kernel) hg73 (by omega) (by omega) ?_
  obtain ⟨ht76, h⟩ := h
  refine wp_putC (ci := 12) (j := 22) dX12_init_126 fi_X12_59 rfl (fun _ => rfl) rfl ht76 (Or.inr ⟨_, rfl⟩) ?_
  change WP _ _ _ _ _ _ _ (sC (nw H70 4864 60) 1322 a0 (some (hN H70))) _
  refine wp_aload_n 0 dX12_init_129 rfl ?_
  refine wp_bipush (v := (60 : Int32)) dX12_init_130 (by decide) ?_
  obtain ⟨hg77, h⟩ := h
  obtain ⟨hg78, h⟩ := h
  obtain ⟨hg79, h⟩ := h
  refine wp_newarray (t := 4880) (N := 60) (ca' := (((((((((((((((ca - 1) - 1) - 1) - 1) - 1) - 1) - 1) - 1) - 1) - 1) - 1) - 1) - 1) - 1) - 1) - 1) (sa' := (((((((((((((((sa - 80) - 100) - 20) - 20) - 20) - 20) - 64) - 80) - 100) - 64) - 20) - 20) - 20) - 20) - 60) - 60) dX12_init_132 w_1_88 (by decide) rfl (by decide) (by decide) (by decide +kernel) hg77 (by omega) (by omega) ?_
  obtain ⟨ht80, h⟩ := h
  refine wp_putC (ci := 12) (j := 33) dX12_init_134 fi_X12_62 rfl (fun _ => rfl) rfl ht80 (Or.inr ⟨_, rfl⟩) ?_
  change WP _ _ _ _ _ _ _ (sC (nw (sC (nw H70 4864 60) 1322 a0 (some (hN H70))) 4880 60) 1333 a0 (some (hN (sC (nw H70 4864 60) 1322 a0 (some (hN H70)))))) _
  refine wp_aload_n 0 dX12_init_137 rfl ?_
  refine wp_bipush (v := (60 : Int32)) dX12_init_138 (by decide) ?_
  obtain ⟨hg81, h⟩ := h
  obtain ⟨hg82, h⟩ := h
  obtain ⟨hg83, h⟩ := h
  refine wp_newarray (t := 4896) (N := 60) (ca' := ((((((((((((((((ca - 1) - 1) - 1) - 1) - 1) - 1) - 1) - 1) - 1) - 1) - 1) - 1) - 1) - 1) - 1) - 1) - 1) (sa' := ((((((((((((((((sa - 80) - 100) - 20) - 20) - 20) - 20) - 64) - 80) - 100) - 64) - 20) - 20) - 20) - 20) - 60) - 60) - 60) dX12_init_140 w_1_88 (by decide) rfl (by decide) (by decide) (by decide +kernel) hg81 (by omega) (by omega) ?_
  obtain ⟨ht84, h⟩ := h
  refine wp_putC (ci := 12) (j := 34) dX12_init_142 fi_X12_65 rfl (fun _ => rfl) rfl ht84 (Or.inr ⟨_, rfl⟩) ?_
  change WP _ _ _ _ _ _ _ (sC (nw (sC (nw (sC (nw H70 4864 60) 1322 a0 (some (hN H70))) 4880 60) 1333 a0 (some (hN (sC (nw H70 4864 60) 1322 a0 (some (hN H70)))))) 4896 60) 1334 a0 (some (hN (sC (nw (sC (nw H70 4864 60) 1322 a0 (some (hN H70))) 4880 60) 1333 a0 (some (hN (sC (nw H70 4864 60) 1322 a0 (some (hN H70))))))))) _
  replace h := h _ rfl
  generalize e86 : (sC (nw (sC (nw (sC (nw H70 4864 60) 1322 a0 (some (hN H70))) 4880 60) 1333 a0 (some (hN (sC (nw H70 4864 60) 1322 a0 (some (hN H70)))))) 4896 60) 1334 a0 (some (hN (sC (nw (sC (nw H70 4864 60) 1322 a0 (some (hN H70))) 4880 60) 1333 a0 (some (hN (sC (nw H70 4864 60) 1322 a0 (some (hN H70))))))))) = H85 at h ⊢
  have ht87 : tg H85 a0 = 13 := by rw [← e86]; exact ht84
  refine wp_aload_n 0 dX12_init_145 rfl ?_
  refine wp_bipush (v := (60 : Int32)) dX12_init_146 (by decide) ?_
  obtain ⟨hg88, h⟩ := h
  obtain ⟨hg89, h⟩ := h
  obtain ⟨hg90, h⟩ := h
  refine wp_newarray (t := 4912) (N := 60) (ca' := (((((((((((((((((ca - 1) - 1) - 1) - 1) - 1) - 1) - 1) - 1) - 1) - 1) - 1) - 1) - 1) - 1) - 1) - 1) - 1) - 1) (sa' := (((((((((((((((((sa - 80) - 100) - 20) - 20) - 20) - 20) - 64) - 80) - 100) - 64) - 20) - 20) - 20) - 20) - 60) - 60) - 60) - 60) dX12_init_148 w_1_88 (by decide) rfl (by decide) (by decide) (by decide +kernel) hg88 (by omega) (by omega) ?_
  obtain ⟨ht91, h⟩ := h
  refine wp_putC (ci := 12) (j := 35) dX12_init_150 fi_X12_68 rfl (fun _ => rfl) rfl ht91 (Or.inr ⟨_, rfl⟩) ?_
  change WP _ _ _ _ _ _ _ (sC (nw H85 4912 60) 1335 a0 (some (hN H85))) _
  refine wp_aload_n 0 dX12_init_153 rfl ?_
  refine wp_bipush (v := (60 : Int32)) dX12_init_154 (by decide) ?_
  obtain ⟨hg92, h⟩ := h
  obtain ⟨hg93, h⟩ := h
  obtain ⟨hg94, h⟩ := h
  refine wp_newarray (t := 4928) (N := 60) (ca' := ((((((((((((((((((ca - 1) - 1) - 1) - 1) - 1) - 1) - 1) - 1) - 1) - 1) - 1) - 1) - 1) - 1) - 1) - 1) - 1) - 1) - 1) (sa' := ((((((((((((((((((sa - 80) - 100) - 20) - 20) - 20) - 20) - 64) - 80) - 100) - 64) - 20) - 20) - 20) - 20) - 60) - 60) - 60) - 60) - 60) dX12_init_156 w_1_88 (by decide) rfl (by decide) (by decide) (by decide +kernel) hg92 (by omega) (by omega) ?_
  obtain ⟨ht95, h⟩ := h
  refine wp_putC (ci := 12) (j := 36) dX12_init_158 fi_X12_71 rfl (fun _ => rfl) rfl ht95 (Or.inr ⟨_, rfl⟩) ?_
  change WP _ _ _ _ _ _ _ (sC (nw (sC (nw H85 4912 60) 1335 a0 (some (hN H85))) 4928 60) 1336 a0 (some (hN (sC (nw H85 4912 60) 1335 a0 (some (hN H85)))))) _
  refine wp_aload_n 0 dX12_init_161 rfl ?_
  refine wp_iconst (v := (5 : Int32)) dX12_init_162 (by decide) ?_
  obtain ⟨hg96, h⟩ := h
  obtain ⟨hg97, h⟩ := h
  obtain ⟨hg98, h⟩ := h
  refine wp_newarray (t := 4944) (N := 5) (ca' := (((((((((((((((((((ca - 1) - 1) - 1) - 1) - 1) - 1) - 1) - 1) - 1) - 1) - 1) - 1) - 1) - 1) - 1) - 1) - 1) - 1) - 1) - 1) (sa' := (((((((((((((((((((sa - 80) - 100) - 20) - 20) - 20) - 20) - 64) - 80) - 100) - 64) - 20) - 20) - 20) - 20) - 60) - 60) - 60) - 60) - 60) - 5) dX12_init_163 w_1_88 (by decide) rfl (by decide) (by decide) (by decide +kernel) hg96 (by omega) (by omega) ?_
  obtain ⟨ht99, h⟩ := h
  refine wp_putC (ci := 12) (j := 37) dX12_init_165 fi_X12_74 rfl (fun _ => rfl) rfl ht99 (Or.inr ⟨_, rfl⟩) ?_
  change WP _ _ _ _ _ _ _ (sC (nw (sC (nw (sC (nw H85 4912 60) 1335 a0 (some (hN H85))) 4928 60) 1336 a0 (some (hN (sC (nw H85 4912 60) 1335 a0 (some (hN H85)))))) 4944 5) 1337 a0 (some (hN (sC (nw (sC (nw H85 4912 60) 1335 a0 (some (hN H85))) 4928 60) 1336 a0 (some (hN (sC (nw H85 4912 60) 1335 a0 (some (hN H85))))))))) _
  replace h := h _ rfl
  generalize e101 : (sC (nw (sC (nw (sC (nw H85 4912 60) 1335 a0 (some (hN H85))) 4928 60) 1336 a0 (some (hN (sC (nw H85 4912 60) 1335 a0 (some (hN H85)))))) 4944 5) 1337 a0 (some (hN (sC (nw (sC (nw H85 4912 60) 1335 a0 (some (hN H85))) 4928 60) 1336 a0 (some (hN (sC (nw H85 4912 60) 1335 a0 (some (hN H85))))))))) = H100 at h ⊢
  have ht102 : tg H100 a0 = 13 := by rw [← e101]; exact ht99
  refine wp_aload_n 0 dX12_init_168 rfl ?_
  refine wp_bipush (v := (64 : Int32)) dX12_init_169 (by decide) ?_
  obtain ⟨hg103, h⟩ := h
  obtain ⟨hg104, h⟩ := h
  obtain ⟨hg105, h⟩ := h
  refine wp_newarray (t := 4960) (N := 64) (ca' := ((((((((((((((((((((ca - 1) - 1) - 1) - 1) - 1) - 1) - 1) - 1) - 1) - 1) - 1) - 1) - 1) - 1) - 1) - 1) - 1) - 1) - 1) - 1) - 1) (sa' := ((((((((((((((((((((sa - 80) - 100) - 20) - 20) - 20) - 20) - 64) - 80) - 100) - 64) - 20) - 20) - 20) - 20) - 60) - 60) - 60) - 60) - 60) - 5) - 64) dX12_init_171 w_1_88 (by decide) rfl (by decide) (by decide) (by decide +kernel) hg103 (by omega) (by omega) ?_
  obtain ⟨ht106, h⟩ := h
  refine wp_putC (ci := 12) (j := 45) dX12_init_173 fi_X12_77 rfl (fun _ => rfl) rfl ht106 (Or.inr ⟨_, rfl⟩) ?_
  change WP _ _ _ _ _ _ _ (sC (nw H100 4960 64) 1345 a0 (some (hN H100))) _
  refine wp_aload_n 0 dX12_init_176 rfl ?_
  refine wp_sipush (v := (320 : Int32)) dX12_init_177 (by decide) ?_
  obtain ⟨hg107, h⟩ := h
  obtain ⟨hg108, h⟩ := h
  obtain ⟨hg109, h⟩ := h
  refine wp_newarray (t := 4976) (N := 320) (ca' := (((((((((((((((((((((ca - 1) - 1) - 1) - 1) - 1) - 1) - 1) - 1) - 1) - 1) - 1) - 1) - 1) - 1) - 1) - 1) - 1) - 1) - 1) - 1) - 1) - 1) (sa' := (((((((((((((((((((((sa - 80) - 100) - 20) - 20) - 20) - 20) - 64) - 80) - 100) - 64) - 20) - 20) - 20) - 20) - 60) - 60) - 60) - 60) - 60) - 5) - 64) - 320) dX12_init_180 w_1_88 (by decide) rfl (by decide) (by decide) (by decide +kernel) hg107 (by omega) (by omega) ?_
  obtain ⟨ht110, h⟩ := h
  refine wp_putC (ci := 12) (j := 46) dX12_init_182 fi_X12_80 rfl (fun _ => rfl) rfl ht110 (Or.inr ⟨_, rfl⟩) ?_
  change WP _ _ _ _ _ _ _ (sC (nw (sC (nw H100 4960 64) 1345 a0 (some (hN H100))) 4976 320) 1346 a0 (some (hN (sC (nw H100 4960 64) 1345 a0 (some (hN H100)))))) _
  refine wp_aload_n 0 dX12_init_185 rfl ?_
  refine wp_bipush (v := (64 : Int32)) dX12_init_186 (by decide) ?_
  obtain ⟨hg111, h⟩ := h
  obtain ⟨hg112, h⟩ := h
  obtain ⟨hg113, h⟩ := h
  refine wp_newarray (t := 4995) (N := 64) (ca' := ((((((((((((((((((((((ca - 1) - 1) - 1) - 1) - 1) - 1) - 1) - 1) - 1) - 1) - 1) - 1) - 1) - 1) - 1) - 1) - 1) - 1) - 1) - 1) - 1) - 1) - 1) (sa' := ((((((((((((((((((((((sa - 80) - 100) - 20) - 20) - 20) - 20) - 64) - 80) - 100) - 64) - 20) - 20) - 20) - 20) - 60) - 60) - 60) - 60) - 60) - 5) - 64) - 320) - 64) dX12_init_188 w_2_192 (by decide) rfl (by decide) (by decide) (by decide +kernel) hg111 (by omega) (by omega) ?_
  obtain ⟨ht114, h⟩ := h
  refine wp_putC (ci := 12) (j := 47) dX12_init_190 fi_X12_83 rfl (fun _ => rfl) rfl ht114 (Or.inr ⟨_, rfl⟩) ?_
  change WP _ _ _ _ _ _ _ (sC (nw (sC (nw (sC (nw H100 4960 64) 1345 a0 (some (hN H100))) 4976 320) 1346 a0 (some (hN (sC (nw H100 4960 64) 1345 a0 (some (hN H100)))))) 4995 64) 1347 a0 (some (hN (sC (nw (sC (nw H100 4960 64) 1345 a0 (some (hN H100))) 4976 320) 1346 a0 (some (hN (sC (nw H100 4960 64) 1345 a0 (some (hN H100))))))))) _
  replace h := h _ rfl
  generalize e116 : (sC (nw (sC (nw (sC (nw H100 4960 64) 1345 a0 (some (hN H100))) 4976 320) 1346 a0 (some (hN (sC (nw H100 4960 64) 1345 a0 (some (hN H100)))))) 4995 64) 1347 a0 (some (hN (sC (nw (sC (nw H100 4960 64) 1345 a0 (some (hN H100))) 4976 320) 1346 a0 (some (hN (sC (nw H100 4960 64) 1345 a0 (some (hN H100))))))))) = H115 at h ⊢
  have ht117 : tg H115 a0 = 13 := by rw [← e116]; exact ht114
  refine wp_aload_n 0 dX12_init_193 rfl ?_
  refine wp_bipush (v := (64 : Int32)) dX12_init_194 (by decide) ?_
  obtain ⟨hg118, h⟩ := h
  obtain ⟨hg119, h⟩ := h
  obtain ⟨hg120, h⟩ := h
  refine wp_newarray (t := 5011) (N := 64) (ca' := (((((((((((((((((((((((ca - 1) - 1) - 1) - 1) - 1) - 1) - 1) - 1) - 1) - 1) - 1) - 1) - 1) - 1) - 1) - 1) - 1) - 1) - 1) - 1) - 1) - 1) - 1) - 1) (sa' := (((((((((((((((((((((((sa - 80) - 100) - 20) - 20) - 20) - 20) - 64) - 80) - 100) - 64) - 20) - 20) - 20) - 20) - 60) - 60) - 60) - 60) - 60) - 5) - 64) - 320) - 64) - 64) dX12_init_196 w_2_192 (by decide) rfl (by decide) (by decide) (by decide +kernel) hg118 (by omega) (by omega) ?_
  obtain ⟨ht121, h⟩ := h
  refine wp_putC (ci := 12) (j := 48) dX12_init_198 fi_X12_86 rfl (fun _ => rfl) rfl ht121 (Or.inr ⟨_, rfl⟩) ?_
  change WP _ _ _ _ _ _ _ (sC (nw H115 5011 64) 1348 a0 (some (hN H115))) _
  refine wp_aload_n 0 dX12_init_201 rfl ?_
  refine wp_iconst (v := (4 : Int32)) dX12_init_202 (by decide) ?_
  obtain ⟨hg122, h⟩ := h
  obtain ⟨hg123, h⟩ := h
  obtain ⟨hg124, h⟩ := h
  refine wp_newarray (t := 5027) (N := 4) (ca' := ((((((((((((((((((((((((ca - 1) - 1) - 1) - 1) - 1) - 1) - 1) - 1) - 1) - 1) - 1) - 1) - 1) - 1) - 1) - 1) - 1) - 1) - 1) - 1) - 1) - 1) - 1) - 1) - 1) (sa' := ((((((((((((((((((((((((sa - 80) - 100) - 20) - 20) - 20) - 20) - 64) - 80) - 100) - 64) - 20) - 20) - 20) - 20) - 60) - 60) - 60) - 60) - 60) - 5) - 64) - 320) - 64) - 64) - 4) dX12_init_203 w_2_192 (by decide) rfl (by decide) (by decide) (by decide +kernel) hg122 (by omega) (by omega) ?_
  obtain ⟨ht125, h⟩ := h
  refine wp_putC (ci := 12) (j := 50) dX12_init_205 fi_X12_89 rfl (fun _ => rfl) rfl ht125 (Or.inr ⟨_, rfl⟩) ?_
  change WP _ _ _ _ _ _ _ (sC (nw (sC (nw H115 5011 64) 1348 a0 (some (hN H115))) 5027 4) 1350 a0 (some (hN (sC (nw H115 5011 64) 1348 a0 (some (hN H115)))))) _
  refine wp_aload_n 0 dX12_init_208 rfl ?_
  refine wp_iconst (v := (4 : Int32)) dX12_init_209 (by decide) ?_
  obtain ⟨hg126, h⟩ := h
  obtain ⟨hg127, h⟩ := h
  obtain ⟨hg128, h⟩ := h
  refine wp_newarray (t := 5040) (N := 4) (ca' := (((((((((((((((((((((((((ca - 1) - 1) - 1) - 1) - 1) - 1) - 1) - 1) - 1) - 1) - 1) - 1) - 1) - 1) - 1) - 1) - 1) - 1) - 1) - 1) - 1) - 1) - 1) - 1) - 1) - 1) (sa' := (((((((((((((((((((((((((sa - 80) - 100) - 20) - 20) - 20) - 20) - 64) - 80) - 100) - 64) - 20) - 20) - 20) - 20) - 60) - 60) - 60) - 60) - 60) - 5) - 64) - 320) - 64) - 64) - 4) - 4) dX12_init_210 w_1_88 (by decide) rfl (by decide) (by decide) (by decide +kernel) hg126 (by omega) (by omega) ?_
  obtain ⟨ht129, h⟩ := h
  refine wp_putC (ci := 12) (j := 51) dX12_init_212 fi_X12_92 rfl (fun _ => rfl) rfl ht129 (Or.inr ⟨_, rfl⟩) ?_
  change WP _ _ _ _ _ _ _ (sC (nw (sC (nw (sC (nw H115 5011 64) 1348 a0 (some (hN H115))) 5027 4) 1350 a0 (some (hN (sC (nw H115 5011 64) 1348 a0 (some (hN H115)))))) 5040 4) 1351 a0 (some (hN (sC (nw (sC (nw H115 5011 64) 1348 a0 (some (hN H115))) 5027 4) 1350 a0 (some (hN (sC (nw H115 5011 64) 1348 a0 (some (hN H115))))))))) _
  replace h := h _ rfl
  generalize e131 : (sC (nw (sC (nw (sC (nw H115 5011 64) 1348 a0 (some (hN H115))) 5027 4) 1350 a0 (some (hN (sC (nw H115 5011 64) 1348 a0 (some (hN H115)))))) 5040 4) 1351 a0 (some (hN (sC (nw (sC (nw H115 5011 64) 1348 a0 (some (hN H115))) 5027 4) 1350 a0 (some (hN (sC (nw H115 5011 64) 1348 a0 (some (hN H115))))))))) = H130 at h ⊢
  have ht132 : tg H130 a0 = 13 := by rw [← e131]; exact ht129
  refine wp_aload_n 0 dX12_init_215 rfl ?_
  refine wp_iconst (v := (3 : Int32)) dX12_init_216 (by decide) ?_
  obtain ⟨hg133, h⟩ := h
  obtain ⟨hg134, h⟩ := h
  obtain ⟨hg135, h⟩ := h
  refine wp_newarray (t := 5056) (N := 3) (ca' := ((((((((((((((((((((((((((ca - 1) - 1) - 1) - 1) - 1) - 1) - 1) - 1) - 1) - 1) - 1) - 1) - 1) - 1) - 1) - 1) - 1) - 1) - 1) - 1) - 1) - 1) - 1) - 1) - 1) - 1) - 1) (sa' := ((((((((((((((((((((((((((sa - 80) - 100) - 20) - 20) - 20) - 20) - 64) - 80) - 100) - 64) - 20) - 20) - 20) - 20) - 60) - 60) - 60) - 60) - 60) - 5) - 64) - 320) - 64) - 64) - 4) - 4) - 3) dX12_init_217 w_1_88 (by decide) rfl (by decide) (by decide) (by decide +kernel) hg133 (by omega) (by omega) ?_
  obtain ⟨ht136, h⟩ := h
  refine wp_putC (ci := 12) (j := 53) dX12_init_219 fi_X12_95 rfl (fun _ => rfl) rfl ht136 (Or.inr ⟨_, rfl⟩) ?_
  change WP _ _ _ _ _ _ _ (sC (nw H130 5056 3) 1353 a0 (some (hN H130))) _
  refine wp_aload_n 0 dX12_init_222 rfl ?_
  refine wp_bipush (v := (16 : Int32)) dX12_init_223 (by decide) ?_
  obtain ⟨hg137, h⟩ := h
  obtain ⟨hg138, h⟩ := h
  obtain ⟨hg139, h⟩ := h
  refine wp_newarray (t := 5072) (N := 16) (ca' := (((((((((((((((((((((((((((ca - 1) - 1) - 1) - 1) - 1) - 1) - 1) - 1) - 1) - 1) - 1) - 1) - 1) - 1) - 1) - 1) - 1) - 1) - 1) - 1) - 1) - 1) - 1) - 1) - 1) - 1) - 1) - 1) (sa' := (((((((((((((((((((((((((((sa - 80) - 100) - 20) - 20) - 20) - 20) - 64) - 80) - 100) - 64) - 20) - 20) - 20) - 20) - 60) - 60) - 60) - 60) - 60) - 5) - 64) - 320) - 64) - 64) - 4) - 4) - 3) - 16) dX12_init_225 w_1_88 (by decide) rfl (by decide) (by decide) (by decide +kernel) hg137 (by omega) (by omega) ?_
  obtain ⟨ht140, h⟩ := h
  refine wp_putC (ci := 12) (j := 54) dX12_init_227 fi_X12_98 rfl (fun _ => rfl) rfl ht140 (Or.inr ⟨_, rfl⟩) ?_
  change WP _ _ _ _ _ _ _ (sC (nw (sC (nw H130 5056 3) 1353 a0 (some (hN H130))) 5072 16) 1354 a0 (some (hN (sC (nw H130 5056 3) 1353 a0 (some (hN H130)))))) _
  refine wp_aload_n 0 dX12_init_230 rfl ?_
  refine wp_bipush (v := (20 : Int32)) dX12_init_231 (by decide) ?_
  obtain ⟨hg141, h⟩ := h
  obtain ⟨hg142, h⟩ := h
  obtain ⟨hg143, h⟩ := h
  refine wp_newarray (t := 5088) (N := 20) (ca' := ((((((((((((((((((((((((((((ca - 1) - 1) - 1) - 1) - 1) - 1) - 1) - 1) - 1) - 1) - 1) - 1) - 1) - 1) - 1) - 1) - 1) - 1) - 1) - 1) - 1) - 1) - 1) - 1) - 1) - 1) - 1) - 1) - 1) (sa' := ((((((((((((((((((((((((((((sa - 80) - 100) - 20) - 20) - 20) - 20) - 64) - 80) - 100) - 64) - 20) - 20) - 20) - 20) - 60) - 60) - 60) - 60) - 60) - 5) - 64) - 320) - 64) - 64) - 4) - 4) - 3) - 16) - 20) dX12_init_233 w_1_88 (by decide) rfl (by decide) (by decide) (by decide +kernel) hg141 (by omega) (by omega) ?_
  obtain ⟨ht144, h⟩ := h
  refine wp_putC (ci := 12) (j := 55) dX12_init_235 fi_X12_101 rfl (fun _ => rfl) rfl ht144 (Or.inr ⟨_, rfl⟩) ?_
  change WP _ _ _ _ _ _ _ (sC (nw (sC (nw (sC (nw H130 5056 3) 1353 a0 (some (hN H130))) 5072 16) 1354 a0 (some (hN (sC (nw H130 5056 3) 1353 a0 (some (hN H130)))))) 5088 20) 1355 a0 (some (hN (sC (nw (sC (nw H130 5056 3) 1353 a0 (some (hN H130))) 5072 16) 1354 a0 (some (hN (sC (nw H130 5056 3) 1353 a0 (some (hN H130))))))))) _
  replace h := h _ rfl
  generalize e146 : (sC (nw (sC (nw (sC (nw H130 5056 3) 1353 a0 (some (hN H130))) 5072 16) 1354 a0 (some (hN (sC (nw H130 5056 3) 1353 a0 (some (hN H130)))))) 5088 20) 1355 a0 (some (hN (sC (nw (sC (nw H130 5056 3) 1353 a0 (some (hN H130))) 5072 16) 1354 a0 (some (hN (sC (nw H130 5056 3) 1353 a0 (some (hN H130))))))))) = H145 at h ⊢
  have ht147 : tg H145 a0 = 13 := by rw [← e146]; exact ht144
  refine wp_aload_n 0 dX12_init_238 rfl ?_
  refine wp_bipush (v := (20 : Int32)) dX12_init_239 (by decide) ?_
  obtain ⟨hg148, h⟩ := h
  obtain ⟨hg149, h⟩ := h
  obtain ⟨hg150, h⟩ := h
  refine wp_newarray (t := 5104) (N := 20) (ca' := (((((((((((((((((((((((((((((ca - 1) - 1) - 1) - 1) - 1) - 1) - 1) - 1) - 1) - 1) - 1) - 1) - 1) - 1) - 1) - 1) - 1) - 1) - 1) - 1) - 1) - 1) - 1) - 1) - 1) - 1) - 1) - 1) - 1) - 1) (sa' := (((((((((((((((((((((((((((((sa - 80) - 100) - 20) - 20) - 20) - 20) - 64) - 80) - 100) - 64) - 20) - 20) - 20) - 20) - 60) - 60) - 60) - 60) - 60) - 5) - 64) - 320) - 64) - 64) - 4) - 4) - 3) - 16) - 20) - 20) dX12_init_241 w_1_88 (by decide) rfl (by decide) (by decide) (by decide +kernel) hg148 (by omega) (by omega) ?_
  obtain ⟨ht151, h⟩ := h
  refine wp_putC (ci := 12) (j := 56) dX12_init_243 fi_X12_104 rfl (fun _ => rfl) rfl ht151 (Or.inr ⟨_, rfl⟩) ?_
  change WP _ _ _ _ _ _ _ (sC (nw H145 5104 20) 1356 a0 (some (hN H145))) _
  refine wp_aload_n 0 dX12_init_246 rfl ?_
  refine wp_iconst (v := (4 : Int32)) dX12_init_247 (by decide) ?_
  obtain ⟨hg152, h⟩ := h
  obtain ⟨hg153, h⟩ := h
  obtain ⟨hg154, h⟩ := h
  refine wp_newarray (t := 5120) (N := 4) (ca' := ((((((((((((((((((((((((((((((ca - 1) - 1) - 1) - 1) - 1) - 1) - 1) - 1) - 1) - 1) - 1) - 1) - 1) - 1) - 1) - 1) - 1) - 1) - 1) - 1) - 1) - 1) - 1) - 1) - 1) - 1) - 1) - 1) - 1) - 1) - 1) (sa' := ((((((((((((((((((((((((((((((sa - 80) - 100) - 20) - 20) - 20) - 20) - 64) - 80) - 100) - 64) - 20) - 20) - 20) - 20) - 60) - 60) - 60) - 60) - 60) - 5) - 64) - 320) - 64) - 64) - 4) - 4) - 3) - 16) - 20) - 20) - 4) dX12_init_248 w_1_88 (by decide) rfl (by decide) (by decide) (by decide +kernel) hg152 (by omega) (by omega) ?_
  obtain ⟨ht155, h⟩ := h
  refine wp_putC (ci := 12) (j := 57) dX12_init_250 fi_X12_107 rfl (fun _ => rfl) rfl ht155 (Or.inr ⟨_, rfl⟩) ?_
  change WP _ _ _ _ _ _ _ (sC (nw (sC (nw H145 5104 20) 1356 a0 (some (hN H145))) 5120 4) 1357 a0 (some (hN (sC (nw H145 5104 20) 1356 a0 (some (hN H145)))))) _
  refine wp_aload_n 0 dX12_init_253 rfl ?_
  refine wp_iconst (v := (4 : Int32)) dX12_init_254 (by decide) ?_
  obtain ⟨hg156, h⟩ := h
  obtain ⟨hg157, h⟩ := h
  obtain ⟨hg158, h⟩ := h
  refine wp_newarray (t := 5136) (N := 4) (ca' := (((((((((((((((((((((((((((((((ca - 1) - 1) - 1) - 1) - 1) - 1) - 1) - 1) - 1) - 1) - 1) - 1) - 1) - 1) - 1) - 1) - 1) - 1) - 1) - 1) - 1) - 1) - 1) - 1) - 1) - 1) - 1) - 1) - 1) - 1) - 1) - 1) (sa' := (((((((((((((((((((((((((((((((sa - 80) - 100) - 20) - 20) - 20) - 20) - 64) - 80) - 100) - 64) - 20) - 20) - 20) - 20) - 60) - 60) - 60) - 60) - 60) - 5) - 64) - 320) - 64) - 64) - 4) - 4) - 3) - 16) - 20) - 20) - 4) - 4) dX12_init_255 w_1_88 (by decide) rfl (by decide) (by decide) (by decide +kernel) hg156 (by omega) (by omega) ?_
  obtain ⟨ht159, h⟩ := h
  refine wp_putC (ci := 12) (j := 58) dX12_init_257 fi_X12_110 rfl (fun _ => rfl) rfl ht159 (Or.inr ⟨_, rfl⟩) ?_
  change WP _ _ _ _ _ _ _ (sC (nw (sC (nw (sC (nw H145 5104 20) 1356 a0 (some (hN H145))) 5120 4) 1357 a0 (some (hN (sC (nw H145 5104 20) 1356 a0 (some (hN H145)))))) 5136 4) 1358 a0 (some (hN (sC (nw (sC (nw H145 5104 20) 1356 a0 (some (hN H145))) 5120 4) 1357 a0 (some (hN (sC (nw H145 5104 20) 1356 a0 (some (hN H145))))))))) _
  replace h := h _ rfl
  generalize e161 : (sC (nw (sC (nw (sC (nw H145 5104 20) 1356 a0 (some (hN H145))) 5120 4) 1357 a0 (some (hN (sC (nw H145 5104 20) 1356 a0 (some (hN H145)))))) 5136 4) 1358 a0 (some (hN (sC (nw (sC (nw H145 5104 20) 1356 a0 (some (hN H145))) 5120 4) 1357 a0 (some (hN (sC (nw H145 5104 20) 1356 a0 (some (hN H145))))))))) = H160 at h ⊢
  have ht162 : tg H160 a0 = 13 := by rw [← e161]; exact ht159
  refine wp_aload_n 0 dX12_init_260 rfl ?_
  refine wp_bipush (v := (120 : Int32)) dX12_init_261 (by decide) ?_
  obtain ⟨hg163, h⟩ := h
  obtain ⟨hg164, h⟩ := h
  obtain ⟨hg165, h⟩ := h
  refine wp_newarray (t := 5156) (N := 120) (ca' := ((((((((((((((((((((((((((((((((ca - 1) - 1) - 1) - 1) - 1) - 1) - 1) - 1) - 1) - 1) - 1) - 1) - 1) - 1) - 1) - 1) - 1) - 1) - 1) - 1) - 1) - 1) - 1) - 1) - 1) - 1) - 1) - 1) - 1) - 1) - 1) - 1) - 1) (sa' := ((((((((((((((((((((((((((((((((sa - 80) - 100) - 20) - 20) - 20) - 20) - 64) - 80) - 100) - 64) - 20) - 20) - 20) - 20) - 60) - 60) - 60) - 60) - 60) - 5) - 64) - 320) - 64) - 64) - 4) - 4) - 3) - 16) - 20) - 20) - 4) - 4) - 120) dX12_init_263 w_6_181 (by decide) rfl (by decide) (by decide) (by decide +kernel) hg163 (by omega) (by omega) ?_
  obtain ⟨ht166, h⟩ := h
  refine wp_putC (ci := 12) (j := 59) dX12_init_265 fi_X12_113 rfl (fun _ => rfl) rfl ht166 (Or.inr ⟨_, rfl⟩) ?_
  change WP _ _ _ _ _ _ _ (sC (nw H160 5156 120) 1359 a0 (some (hN H160))) _
  refine wp_aload_n 0 dX12_init_268 rfl ?_
  refine wp_bipush (v := (120 : Int32)) dX12_init_269 (by decide) ?_
  obtain ⟨hg167, h⟩ := h
  obtain ⟨hg168, h⟩ := h
  obtain ⟨hg169, h⟩ := h
  refine wp_newarray (t := 5173) (N := 120) (ca' := (((((((((((((((((((((((((((((((((ca - 1) - 1) - 1) - 1) - 1) - 1) - 1) - 1) - 1) - 1) - 1) - 1) - 1) - 1) - 1) - 1) - 1) - 1) - 1) - 1) - 1) - 1) - 1) - 1) - 1) - 1) - 1) - 1) - 1) - 1) - 1) - 1) - 1) - 1) (sa' := (((((((((((((((((((((((((((((((((sa - 80) - 100) - 20) - 20) - 20) - 20) - 64) - 80) - 100) - 64) - 20) - 20) - 20) - 20) - 60) - 60) - 60) - 60) - 60) - 5) - 64) - 320) - 64) - 64) - 4) - 4) - 3) - 16) - 20) - 20) - 4) - 4) - 120) - 120) dX12_init_271 w_2_97 (by decide) rfl (by decide) (by decide) (by decide +kernel) hg167 (by omega) (by omega) ?_
  obtain ⟨ht170, h⟩ := h
  refine wp_putC (ci := 12) (j := 60) dX12_init_273 fi_X12_117 rfl (fun _ => rfl) rfl ht170 (Or.inr ⟨_, rfl⟩) ?_
  change WP _ _ _ _ _ _ _ (sC (nw (sC (nw H160 5156 120) 1359 a0 (some (hN H160))) 5173 120) 1360 a0 (some (hN (sC (nw H160 5156 120) 1359 a0 (some (hN H160)))))) _
  refine wp_aload_n 0 dX12_init_276 rfl ?_
  refine wp_bipush (v := (18 : Int32)) dX12_init_277 (by decide) ?_
  obtain ⟨hg171, h⟩ := h
  obtain ⟨hg172, h⟩ := h
  obtain ⟨hg173, h⟩ := h
  refine wp_newarray (t := 5184) (N := 18) (ca' := ((((((((((((((((((((((((((((((((((ca - 1) - 1) - 1) - 1) - 1) - 1) - 1) - 1) - 1) - 1) - 1) - 1) - 1) - 1) - 1) - 1) - 1) - 1) - 1) - 1) - 1) - 1) - 1) - 1) - 1) - 1) - 1) - 1) - 1) - 1) - 1) - 1) - 1) - 1) - 1) (sa' := ((((((((((((((((((((((((((((((((((sa - 80) - 100) - 20) - 20) - 20) - 20) - 64) - 80) - 100) - 64) - 20) - 20) - 20) - 20) - 60) - 60) - 60) - 60) - 60) - 5) - 64) - 320) - 64) - 64) - 4) - 4) - 3) - 16) - 20) - 20) - 4) - 4) - 120) - 120) - 18) dX12_init_279 w_1_88 (by decide) rfl (by decide) (by decide) (by decide +kernel) hg171 (by omega) (by omega) ?_
  obtain ⟨ht174, h⟩ := h
  refine wp_putC (ci := 12) (j := 61) dX12_init_281 fi_X12_121 rfl (fun _ => rfl) rfl ht174 (Or.inr ⟨_, rfl⟩) ?_
  change WP _ _ _ _ _ _ _ (sC (nw (sC (nw (sC (nw H160 5156 120) 1359 a0 (some (hN H160))) 5173 120) 1360 a0 (some (hN (sC (nw H160 5156 120) 1359 a0 (some (hN H160)))))) 5184 18) 1361 a0 (some (hN (sC (nw (sC (nw H160 5156 120) 1359 a0 (some (hN H160))) 5173 120) 1360 a0 (some (hN (sC (nw H160 5156 120) 1359 a0 (some (hN H160))))))))) _
  replace h := h _ rfl
  generalize e176 : (sC (nw (sC (nw (sC (nw H160 5156 120) 1359 a0 (some (hN H160))) 5173 120) 1360 a0 (some (hN (sC (nw H160 5156 120) 1359 a0 (some (hN H160)))))) 5184 18) 1361 a0 (some (hN (sC (nw (sC (nw H160 5156 120) 1359 a0 (some (hN H160))) 5173 120) 1360 a0 (some (hN (sC (nw H160 5156 120) 1359 a0 (some (hN H160))))))))) = H175 at h ⊢
  have ht177 : tg H175 a0 = 13 := by rw [← e176]; exact ht174
  refine wp_aload_n 0 dX12_init_284 rfl ?_
  refine wp_bipush (v := (18 : Int32)) dX12_init_285 (by decide) ?_
  obtain ⟨hg178, h⟩ := h
  obtain ⟨hg179, h⟩ := h
  obtain ⟨hg180, h⟩ := h
  refine wp_newarray (t := 5200) (N := 18) (ca' := (((((((((((((((((((((((((((((((((((ca - 1) - 1) - 1) - 1) - 1) - 1) - 1) - 1) - 1) - 1) - 1) - 1) - 1) - 1) - 1) - 1) - 1) - 1) - 1) - 1) - 1) - 1) - 1) - 1) - 1) - 1) - 1) - 1) - 1) - 1) - 1) - 1) - 1) - 1) - 1) - 1) (sa' := (((((((((((((((((((((((((((((((((((sa - 80) - 100) - 20) - 20) - 20) - 20) - 64) - 80) - 100) - 64) - 20) - 20) - 20) - 20) - 60) - 60) - 60) - 60) - 60) - 5) - 64) - 320) - 64) - 64) - 4) - 4) - 3) - 16) - 20) - 20) - 4) - 4) - 120) - 120) - 18) - 18) dX12_init_287 w_1_88 (by decide) rfl (by decide) (by decide) (by decide +kernel) hg178 (by omega) (by omega) ?_
  obtain ⟨ht181, h⟩ := h
  refine wp_putC (ci := 12) (j := 62) dX12_init_289 fi_X12_124 rfl (fun _ => rfl) rfl ht181 (Or.inr ⟨_, rfl⟩) ?_
  change WP _ _ _ _ _ _ _ (sC (nw H175 5200 18) 1362 a0 (some (hN H175))) _
  refine wp_iconst (v := (0 : Int32)) dX12_init_292 (by decide) ?_
  refine wp_istore_n (ls' := [(1, .int (0 : Int32)), (0, rv (some a0))]) dX12_init_293 (by decide) rfl ?_
  refine wp_sub (ls' := [(0, rv (some a0)), (1, .int (0 : Int32))]) [1, 0] rfl ?_
  exact h
def wb_X12_init_294 (d : Nat) (ca sa : Nat) (q : HP → Prop) (a0 : Nat) (x1 : Int32) (H : HP) : Prop :=
  ((5 : Int32) ≤ x1 → L_X12_init_388 d ca sa q a0 (0 : Int32) H) ∧ (¬ ((5 : Int32) ≤ x1) → tg H a0 = 13 ∧ ((¬ x1 = 0 → (¬ x1 = (1 : Int32) → (¬ x1 = (2 : Int32) → (¬ x1 = (3 : Int32) → ∃ a2, (hC H 1301 a0) = some a2 ∧ (isA H a2 0 ∧ (vp_in ((4 : Int32) * x1) (ln H a2) ∧ (∃ a5, (hC (sI H (tg H a2) a2 ((4 : Int32) * x1).toNatClampNeg (97 : Int32)) 1302 a0) = some a5 ∧ (isA (sI H (tg H a2) a2 ((4 : Int32) * x1).toNatClampNeg (97 : Int32)) a5 0 ∧ (vp_in (((5 : Int32) * x1) + x1) (ln (sI H (tg H a2) a2 ((4 : Int32) * x1).toNatClampNeg (97 : Int32)) a5) ∧ (∀ H8, (sI (sI H (tg H a2) a2 ((4 : Int32) * x1).toNatClampNeg (97 : Int32)) (tg (sI H (tg H a2) a2 ((4 : Int32) * x1).toNatClampNeg (97 : Int32)) a5) a5 (((5 : Int32) * x1) + x1).toNatClampNeg (1 : Int32)) = H8 → (∃ a13, (hC H8 1303 a0) = some a13 ∧ (isA H8 a13 3 ∧ (vp_in x1 (ln H8 a13) ∧ (∃ a16, (hC (sL H8 (tg H8 a13) a13 x1.toNatClampNeg (1 : Int64)) 1304 a0) = some a16 ∧ (isA (sL H8 (tg H8 a13) a13 x1.toNatClampNeg (1 : Int64)) a16 3 ∧ (vp_in x1 (ln (sL H8 (tg H8 a13) a13 x1.toNatClampNeg (1 : Int64)) a16) ∧ (∃ a19, (hC (sL (sL H8 (tg H8 a13) a13 x1.toNatClampNeg (1 : Int64)) (tg (sL H8 (tg H8 a13) a13 x1.toNatClampNeg (1 : Int64)) a16) a16 x1.toNatClampNeg (1 : Int64)) 1306 a0) = some a19 ∧ (isA (sL (sL H8 (tg H8 a13) a13 x1.toNatClampNeg (1 : Int64)) (tg (sL H8 (tg H8 a13) a13 x1.toNatClampNeg (1 : Int64)) a16) a16 x1.toNatClampNeg (1 : Int64)) a19 3 ∧ (vp_in x1 (ln (sL (sL H8 (tg H8 a13) a13 x1.toNatClampNeg (1 : Int64)) (tg (sL H8 (tg H8 a13) a13 x1.toNatClampNeg (1 : Int64)) a16) a16 x1.toNatClampNeg (1 : Int64)) a19) ∧ (∀ H22, (sL (sL (sL H8 (tg H8 a13) a13 x1.toNatClampNeg (1 : Int64)) (tg (sL H8 (tg H8 a13) a13 x1.toNatClampNeg (1 : Int64)) a16) a16 x1.toNatClampNeg (1 : Int64)) (tg (sL (sL H8 (tg H8 a13) a13 x1.toNatClampNeg (1 : Int64)) (tg (sL H8 (tg H8 a13) a13 x1.toNatClampNeg (1 : Int64)) a16) a16 x1.toNatClampNeg (1 : Int64)) a19) a19 x1.toNatClampNeg (1 : Int64)) = H22 → (L_X12_init_294 d ca sa q a0 (x1 + 1) H22)))))))))))))))))) ∧ (x1 = (3 : Int32) → ∃ a30, (hC H 1301 a0) = some a30 ∧ (isA H a30 0 ∧ (vp_in ((4 : Int32) * x1) (ln H a30) ∧ (∃ a33, (hC (sI H (tg H a30) a30 ((4 : Int32) * x1).toNatClampNeg (107 : Int32)) 1302 a0) = some a33 ∧ (isA (sI H (tg H a30) a30 ((4 : Int32) * x1).toNatClampNeg (107 : Int32)) a33 0 ∧ (vp_in (((5 : Int32) * x1) + x1) (ln (sI H (tg H a30) a30 ((4 : Int32) * x1).toNatClampNeg (107 : Int32)) a33) ∧ (∀ H36, (sI (sI H (tg H a30) a30 ((4 : Int32) * x1).toNatClampNeg (107 : Int32)) (tg (sI H (tg H a30) a30 ((4 : Int32) * x1).toNatClampNeg (107 : Int32)) a33) a33 (((5 : Int32) * x1) + x1).toNatClampNeg (1 : Int32)) = H36 → (∃ a41, (hC H36 1303 a0) = some a41 ∧ (isA H36 a41 3 ∧ (vp_in x1 (ln H36 a41) ∧ (∃ a44, (hC (sL H36 (tg H36 a41) a41 x1.toNatClampNeg (1 : Int64)) 1304 a0) = some a44 ∧ (isA (sL H36 (tg H36 a41) a41 x1.toNatClampNeg (1 : Int64)) a44 3 ∧ (vp_in x1 (ln (sL H36 (tg H36 a41) a41 x1.toNatClampNeg (1 : Int64)) a44) ∧ (∃ a47, (hC (sL (sL H36 (tg H36 a41) a41 x1.toNatClampNeg (1 : Int64)) (tg (sL H36 (tg H36 a41) a41 x1.toNatClampNeg (1 : Int64)) a44) a44 x1.toNatClampNeg (1 : Int64)) 1306 a0) = some a47 ∧ (isA (sL (sL H36 (tg H36 a41) a41 x1.toNatClampNeg (1 : Int64)) (tg (sL H36 (tg H36 a41) a41 x1.toNatClampNeg (1 : Int64)) a44) a44 x1.toNatClampNeg (1 : Int64)) a47 3 ∧ (vp_in x1 (ln (sL (sL H36 (tg H36 a41) a41 x1.toNatClampNeg (1 : Int64)) (tg (sL H36 (tg H36 a41) a41 x1.toNatClampNeg (1 : Int64)) a44) a44 x1.toNatClampNeg (1 : Int64)) a47) ∧ (∀ H50, (sL (sL (sL H36 (tg H36 a41) a41 x1.toNatClampNeg (1 : Int64)) (tg (sL H36 (tg H36 a41) a41 x1.toNatClampNeg (1 : Int64)) a44) a44 x1.toNatClampNeg (1 : Int64)) (tg (sL (sL H36 (tg H36 a41) a41 x1.toNatClampNeg (1 : Int64)) (tg (sL H36 (tg H36 a41) a41 x1.toNatClampNeg (1 : Int64)) a44) a44 x1.toNatClampNeg (1 : Int64)) a47) a47 x1.toNatClampNeg (1 : Int64)) = H50 → (L_X12_init_294 d ca sa q a0 (x1 + 1) H50))))))))))))))))))) ∧ (x1 = (2 : Int32) → ∃ a58, (hC H 1301 a0) = some a58 ∧ (isA H a58 0 ∧ (vp_in ((4 : Int32) * x1) (ln H a58) ∧ (∃ a61, (hC (sI H (tg H a58) a58 ((4 : Int32) * x1).toNatClampNeg (115 : Int32)) 1302 a0) = some a61 ∧ (isA (sI H (tg H a58) a58 ((4 : Int32) * x1).toNatClampNeg (115 : Int32)) a61 0 ∧ (vp_in (((5 : Int32) * x1) + x1) (ln (sI H (tg H a58) a58 ((4 : Int32) * x1).toNatClampNeg (115 : Int32)) a61) ∧ (∀ H64, (sI (sI H (tg H a58) a58 ((4 : Int32) * x1).toNatClampNeg (115 : Int32)) (tg (sI H (tg H a58) a58 ((4 : Int32) * x1).toNatClampNeg (115 : Int32)) a61) a61 (((5 : Int32) * x1) + x1).toNatClampNeg (1 : Int32)) = H64 → (∃ a69, (hC H64 1303 a0) = some a69 ∧ (isA H64 a69 3 ∧ (vp_in x1 (ln H64 a69) ∧ (∃ a72, (hC (sL H64 (tg H64 a69) a69 x1.toNatClampNeg (1 : Int64)) 1304 a0) = some a72 ∧ (isA (sL H64 (tg H64 a69) a69 x1.toNatClampNeg (1 : Int64)) a72 3 ∧ (vp_in x1 (ln (sL H64 (tg H64 a69) a69 x1.toNatClampNeg (1 : Int64)) a72) ∧ (∃ a75, (hC (sL (sL H64 (tg H64 a69) a69 x1.toNatClampNeg (1 : Int64)) (tg (sL H64 (tg H64 a69) a69 x1.toNatClampNeg (1 : Int64)) a72) a72 x1.toNatClampNeg (1 : Int64)) 1306 a0) = some a75 ∧ (isA (sL (sL H64 (tg H64 a69) a69 x1.toNatClampNeg (1 : Int64)) (tg (sL H64 (tg H64 a69) a69 x1.toNatClampNeg (1 : Int64)) a72) a72 x1.toNatClampNeg (1 : Int64)) a75 3 ∧ (vp_in x1 (ln (sL (sL H64 (tg H64 a69) a69 x1.toNatClampNeg (1 : Int64)) (tg (sL H64 (tg H64 a69) a69 x1.toNatClampNeg (1 : Int64)) a72) a72 x1.toNatClampNeg (1 : Int64)) a75) ∧ (∀ H78, (sL (sL (sL H64 (tg H64 a69) a69 x1.toNatClampNeg (1 : Int64)) (tg (sL H64 (tg H64 a69) a69 x1.toNatClampNeg (1 : Int64)) a72) a72 x1.toNatClampNeg (1 : Int64)) (tg (sL (sL H64 (tg H64 a69) a69 x1.toNatClampNeg (1 : Int64)) (tg (sL H64 (tg H64 a69) a69 x1.toNatClampNeg (1 : Int64)) a72) a72 x1.toNatClampNeg (1 : Int64)) a75) a75 x1.toNatClampNeg (1 : Int64)) = H78 → (L_X12_init_294 d ca sa q a0 (x1 + 1) H78))))))))))))))))))) ∧ (x1 = (1 : Int32) → ∃ a86, (hC H 1301 a0) = some a86 ∧ (isA H a86 0 ∧ (vp_in ((4 : Int32) * x1) (ln H a86) ∧ (∃ a89, (hC (sI H (tg H a86) a86 ((4 : Int32) * x1).toNatClampNeg (103 : Int32)) 1302 a0) = some a89 ∧ (isA (sI H (tg H a86) a86 ((4 : Int32) * x1).toNatClampNeg (103 : Int32)) a89 0 ∧ (vp_in (((5 : Int32) * x1) + x1) (ln (sI H (tg H a86) a86 ((4 : Int32) * x1).toNatClampNeg (103 : Int32)) a89) ∧ (∀ H92, (sI (sI H (tg H a86) a86 ((4 : Int32) * x1).toNatClampNeg (103 : Int32)) (tg (sI H (tg H a86) a86 ((4 : Int32) * x1).toNatClampNeg (103 : Int32)) a89) a89 (((5 : Int32) * x1) + x1).toNatClampNeg (1 : Int32)) = H92 → (∃ a97, (hC H92 1303 a0) = some a97 ∧ (isA H92 a97 3 ∧ (vp_in x1 (ln H92 a97) ∧ (∃ a100, (hC (sL H92 (tg H92 a97) a97 x1.toNatClampNeg (1 : Int64)) 1304 a0) = some a100 ∧ (isA (sL H92 (tg H92 a97) a97 x1.toNatClampNeg (1 : Int64)) a100 3 ∧ (vp_in x1 (ln (sL H92 (tg H92 a97) a97 x1.toNatClampNeg (1 : Int64)) a100) ∧ (∃ a103, (hC (sL (sL H92 (tg H92 a97) a97 x1.toNatClampNeg (1 : Int64)) (tg (sL H92 (tg H92 a97) a97 x1.toNatClampNeg (1 : Int64)) a100) a100 x1.toNatClampNeg (1 : Int64)) 1306 a0) = some a103 ∧ (isA (sL (sL H92 (tg H92 a97) a97 x1.toNatClampNeg (1 : Int64)) (tg (sL H92 (tg H92 a97) a97 x1.toNatClampNeg (1 : Int64)) a100) a100 x1.toNatClampNeg (1 : Int64)) a103 3 ∧ (vp_in x1 (ln (sL (sL H92 (tg H92 a97) a97 x1.toNatClampNeg (1 : Int64)) (tg (sL H92 (tg H92 a97) a97 x1.toNatClampNeg (1 : Int64)) a100) a100 x1.toNatClampNeg (1 : Int64)) a103) ∧ (∀ H106, (sL (sL (sL H92 (tg H92 a97) a97 x1.toNatClampNeg (1 : Int64)) (tg (sL H92 (tg H92 a97) a97 x1.toNatClampNeg (1 : Int64)) a100) a100 x1.toNatClampNeg (1 : Int64)) (tg (sL (sL H92 (tg H92 a97) a97 x1.toNatClampNeg (1 : Int64)) (tg (sL H92 (tg H92 a97) a97 x1.toNatClampNeg (1 : Int64)) a100) a100 x1.toNatClampNeg (1 : Int64)) a103) a103 x1.toNatClampNeg (1 : Int64)) = H106 → (L_X12_init_294 d ca sa q a0 (x1 + 1) H106))))))))))))))))))) ∧ (x1 = 0 → ∃ a114, (hC H 1301 a0) = some a114 ∧ (isA H a114 0 ∧ (vp_in ((4 : Int32) * x1) (ln H a114) ∧ (∃ a117, (hC (sI H (tg H a114) a114 ((4 : Int32) * x1).toNatClampNeg (109 : Int32)) 1302 a0) = some a117 ∧ (isA (sI H (tg H a114) a114 ((4 : Int32) * x1).toNatClampNeg (109 : Int32)) a117 0 ∧ (vp_in (((5 : Int32) * x1) + x1) (ln (sI H (tg H a114) a114 ((4 : Int32) * x1).toNatClampNeg (109 : Int32)) a117) ∧ (∀ H120, (sI (sI H (tg H a114) a114 ((4 : Int32) * x1).toNatClampNeg (109 : Int32)) (tg (sI H (tg H a114) a114 ((4 : Int32) * x1).toNatClampNeg (109 : Int32)) a117) a117 (((5 : Int32) * x1) + x1).toNatClampNeg (1 : Int32)) = H120 → (∃ a125, (hC H120 1303 a0) = some a125 ∧ (isA H120 a125 3 ∧ (vp_in x1 (ln H120 a125) ∧ (∃ a128, (hC (sL H120 (tg H120 a125) a125 x1.toNatClampNeg (1 : Int64)) 1304 a0) = some a128 ∧ (isA (sL H120 (tg H120 a125) a125 x1.toNatClampNeg (1 : Int64)) a128 3 ∧ (vp_in x1 (ln (sL H120 (tg H120 a125) a125 x1.toNatClampNeg (1 : Int64)) a128) ∧ (∃ a131, (hC (sL (sL H120 (tg H120 a125) a125 x1.toNatClampNeg (1 : Int64)) (tg (sL H120 (tg H120 a125) a125 x1.toNatClampNeg (1 : Int64)) a128) a128 x1.toNatClampNeg (1 : Int64)) 1306 a0) = some a131 ∧ (isA (sL (sL H120 (tg H120 a125) a125 x1.toNatClampNeg (1 : Int64)) (tg (sL H120 (tg H120 a125) a125 x1.toNatClampNeg (1 : Int64)) a128) a128 x1.toNatClampNeg (1 : Int64)) a131 3 ∧ (vp_in x1 (ln (sL (sL H120 (tg H120 a125) a125 x1.toNatClampNeg (1 : Int64)) (tg (sL H120 (tg H120 a125) a125 x1.toNatClampNeg (1 : Int64)) a128) a128 x1.toNatClampNeg (1 : Int64)) a131) ∧ (∀ H134, (sL (sL (sL H120 (tg H120 a125) a125 x1.toNatClampNeg (1 : Int64)) (tg (sL H120 (tg H120 a125) a125 x1.toNatClampNeg (1 : Int64)) a128) a128 x1.toNatClampNeg (1 : Int64)) (tg (sL (sL H120 (tg H120 a125) a125 x1.toNatClampNeg (1 : Int64)) (tg (sL H120 (tg H120 a125) a125 x1.toNatClampNeg (1 : Int64)) a128) a128 x1.toNatClampNeg (1 : Int64)) a131) a131 x1.toNatClampNeg (1 : Int64)) = H134 → (L_X12_init_294 d ca sa q a0 (x1 + 1) H134))))))))))))))))))))
set_option maxRecDepth 40000 in
set_option maxHeartbeats 4000000 in
theorem T_X12_init_294 {d : Nat} {ca sa : Nat} {q : HP → Prop} {a0 : Nat} {x1 : Int32} {H : HP} (h : wb_X12_init_294 d ca sa q a0 x1 H) : L_X12_init_294 d ca sa q a0 x1 H := by
  unfold wb_X12_init_294 at h
  unfold L_X12_init_294
  refine wp_iload_n 1 dX12_init_294 rfl ?_
  refine wp_iconst (v := (5 : Int32)) dX12_init_295 (by decide) ?_
  refine wp_icmp_ge (tgt := 386) dX12_init_296 rfl (fun c => ?_) (fun c => ?_)
  · replace h := h.1 c
    refine wp_iconst (v := (0 : Int32)) dX12_init_386 (by decide) ?_
    refine wp_istore_n (ls' := [(1, .int (0 : Int32)), (0, rv (some a0))]) dX12_init_387 (by decide) rfl ?_
    refine wp_sub (ls' := [(0, rv (some a0)), (1, .int (0 : Int32))]) [1, 0] rfl ?_
    exact h
  · replace h := h.2 c
    refine wp_aload_n 0 dX12_init_299 rfl ?_
    obtain ⟨ht1, h⟩ := h
    refine wp_getC (ci := 12) (j := 1) dX12_init_300 fi_X12_15r rfl rfl ht1 ?_
    change WP _ _ _ _ _ _ (rv (hC H 1301 a0) :: _) _ _
    refine wp_iconst (v := (4 : Int32)) dX12_init_303 (by decide) ?_
    refine wp_iload_n 1 dX12_init_304 rfl ?_
    refine wp_imul dX12_init_305 ?_
    refine wp_iload_n 1 dX12_init_306 rfl ?_
    refine wp_if_ne (tgt := 315) dX12_init_307 rfl (fun c => ?_) (fun c => ?_)
    · replace h := h.1 c
      refine wp_iload_n 1 dX12_init_315 rfl ?_
      refine wp_iconst (v := (1 : Int32)) dX12_init_316 (by decide) ?_
      refine wp_icmp_ne (tgt := 325) dX12_init_317 rfl (fun c => ?_) (fun c => ?_)
      · replace h := h.1 c
        refine wp_iload_n 1 dX12_init_325 rfl ?_
        refine wp_iconst (v := (2 : Int32)) dX12_init_326 (by decide) ?_
        refine wp_icmp_ne (tgt := 335) dX12_init_327 rfl (fun c => ?_) (fun c => ?_)
        · replace h := h.1 c
          refine wp_iload_n 1 dX12_init_335 rfl ?_
          refine wp_iconst (v := (3 : Int32)) dX12_init_336 (by decide) ?_
          refine wp_icmp_ne (tgt := 345) dX12_init_337 rfl (fun c => ?_) (fun c => ?_)
          · replace h := h.1 c
            refine wp_bipush (v := (97 : Int32)) dX12_init_345 (by decide) ?_
            obtain ⟨a2, ha2, h⟩ := h
            obtain ⟨hr3, h⟩ := h
            obtain ⟨hg4, h⟩ := h
            refine wp_iastore dX12_init_347 ha2 hr3 hg4 ?_
            change WP _ _ _ _ _ _ _ (sI H (tg H a2) a2 ((4 : Int32) * x1).toNatClampNeg (97 : Int32)) _
            refine wp_aload_n 0 dX12_init_348 rfl ?_
            refine wp_getC (ci := 12) (j := 2) dX12_init_349 fi_X12_19r rfl rfl ht1 ?_
            change WP _ _ _ _ _ _ (rv (hC (sI H (tg H a2) a2 ((4 : Int32) * x1).toNatClampNeg (97 : Int32)) 1302 a0) :: _) _ _
            refine wp_iconst (v := (5 : Int32)) dX12_init_352 (by decide) ?_
            refine wp_iload_n 1 dX12_init_353 rfl ?_
            refine wp_imul dX12_init_354 ?_
            refine wp_iload_n 1 dX12_init_355 rfl ?_
            refine wp_iadd dX12_init_356 ?_
            refine wp_iconst (v := (1 : Int32)) dX12_init_357 (by decide) ?_
            obtain ⟨a5, ha5, h⟩ := h
            obtain ⟨hr6, h⟩ := h
            obtain ⟨hg7, h⟩ := h
            refine wp_iastore dX12_init_358 ha5 hr6 hg7 ?_
            change WP _ _ _ _ _ _ _ (sI (sI H (tg H a2) a2 ((4 : Int32) * x1).toNatClampNeg (97 : Int32)) (tg (sI H (tg H a2) a2 ((4 : Int32) * x1).toNatClampNeg (97 : Int32)) a5) a5 (((5 : Int32) * x1) + x1).toNatClampNeg (1 : Int32)) _
            replace h := h _ rfl
            generalize e9 : (sI (sI H (tg H a2) a2 ((4 : Int32) * x1).toNatClampNeg (97 : Int32)) (tg (sI H (tg H a2) a2 ((4 : Int32) * x1).toNatClampNeg (97 : Int32)) a5) a5 (((5 : Int32) * x1) + x1).toNatClampNeg (1 : Int32)) = H8 at h ⊢
            have ht10 : tg H8 a0 = 13 := by rw [← e9]; exact ht1
            have hr11 : isA H8 a2 0 := by rw [← e9]; exact hr3
            have hr12 : isA H8 a5 0 := by rw [← e9]; exact hr6
            refine wp_aload_n 0 dX12_init_359 rfl ?_
            refine wp_getC (ci := 12) (j := 3) dX12_init_360 fi_X12_22r rfl rfl ht10 ?_
            change WP _ _ _ _ _ _ (rv (hC H8 1303 a0) :: _) _ _
            refine wp_iload_n 1 dX12_init_363 rfl ?_
            refine wp_lconst (v := (1 : Int64)) dX12_init_364 (by decide) ?_
            obtain ⟨a13, ha13, h⟩ := h
            obtain ⟨hr14, h⟩ := h
            obtain ⟨hg15, h⟩ := h
            refine wp_lastore dX12_init_365 ha13 hr14 hg15 ?_
            change WP _ _ _ _ _ _ _ (sL H8 (tg H8 a13) a13 x1.toNatClampNeg (1 : Int64)) _
            refine wp_aload_n 0 dX12_init_366 rfl ?_
            refine wp_getC (ci := 12) (j := 4) dX12_init_367 fi_X12_26r rfl rfl ht10 ?_
            change WP _ _ _ _ _ _ (rv (hC (sL H8 (tg H8 a13) a13 x1.toNatClampNeg (1 : Int64)) 1304 a0) :: _) _ _
            refine wp_iload_n 1 dX12_init_370 rfl ?_
            refine wp_lconst (v := (1 : Int64)) dX12_init_371 (by decide) ?_
            obtain ⟨a16, ha16, h⟩ := h
            obtain ⟨hr17, h⟩ := h
            obtain ⟨hg18, h⟩ := h
            refine wp_lastore dX12_init_372 ha16 hr17 hg18 ?_
            change WP _ _ _ _ _ _ _ (sL (sL H8 (tg H8 a13) a13 x1.toNatClampNeg (1 : Int64)) (tg (sL H8 (tg H8 a13) a13 x1.toNatClampNeg (1 : Int64)) a16) a16 x1.toNatClampNeg (1 : Int64)) _
            refine wp_aload_n 0 dX12_init_373 rfl ?_
            refine wp_getC (ci := 12) (j := 6) dX12_init_374 fi_X12_32r rfl rfl ht10 ?_
            change WP _ _ _ _ _ _ (rv (hC (sL (sL H8 (tg H8 a13) a13 x1.toNatClampNeg (1 : Int64)) (tg (sL H8 (tg H8 a13) a13 x1.toNatClampNeg (1 : Int64)) a16) a16 x1.toNatClampNeg (1 : Int64)) 1306 a0) :: _) _ _
            refine wp_iload_n 1 dX12_init_377 rfl ?_
            refine wp_lconst (v := (1 : Int64)) dX12_init_378 (by decide) ?_
            obtain ⟨a19, ha19, h⟩ := h
            obtain ⟨hr20, h⟩ := h
            obtain ⟨hg21, h⟩ := h
            refine wp_lastore dX12_init_379 ha19 hr20 hg21 ?_
            change WP _ _ _ _ _ _ _ (sL (sL (sL H8 (tg H8 a13) a13 x1.toNatClampNeg (1 : Int64)) (tg (sL H8 (tg H8 a13) a13 x1.toNatClampNeg (1 : Int64)) a16) a16 x1.toNatClampNeg (1 : Int64)) (tg (sL (sL H8 (tg H8 a13) a13 x1.toNatClampNeg (1 : Int64)) (tg (sL H8 (tg H8 a13) a13 x1.toNatClampNeg (1 : Int64)) a16) a16 x1.toNatClampNeg (1 : Int64)) a19) a19 x1.toNatClampNeg (1 : Int64)) _
            replace h := h _ rfl
            generalize e23 : (sL (sL (sL H8 (tg H8 a13) a13 x1.toNatClampNeg (1 : Int64)) (tg (sL H8 (tg H8 a13) a13 x1.toNatClampNeg (1 : Int64)) a16) a16 x1.toNatClampNeg (1 : Int64)) (tg (sL (sL H8 (tg H8 a13) a13 x1.toNatClampNeg (1 : Int64)) (tg (sL H8 (tg H8 a13) a13 x1.toNatClampNeg (1 : Int64)) a16) a16 x1.toNatClampNeg (1 : Int64)) a19) a19 x1.toNatClampNeg (1 : Int64)) = H22 at h ⊢
            have ht24 : tg H22 a0 = 13 := by rw [← e23]; exact ht10
            have hr25 : isA H22 a2 0 := by rw [← e23]; exact hr11
            have hr26 : isA H22 a5 0 := by rw [← e23]; exact hr12
            have hr27 : isA H22 a13 3 := by rw [← e23]; exact hr14
            have hr28 : isA H22 a16 3 := by rw [← e23]; exact hr17
            have hr29 : isA H22 a19 3 := by rw [← e23]; exact hr20
            refine wp_iinc (v := (x1 + 1)) (ls' := [(1, .int (x1 + 1)), (0, rv (some a0))]) 1 dX12_init_380 rfl rfl (by decide) rfl ?_
            refine wp_goto (tgt := 294) dX12_init_383 rfl ?_
            refine wp_sub (ls' := [(0, rv (some a0)), (1, .int (x1 + 1))]) [1, 0] rfl ?_
            exact h
          · replace h := h.2 c
            refine wp_bipush (v := (107 : Int32)) dX12_init_340 (by decide) ?_
            refine wp_goto (tgt := 347) dX12_init_342 rfl ?_
            obtain ⟨a30, ha30, h⟩ := h
            obtain ⟨hr31, h⟩ := h
            obtain ⟨hg32, h⟩ := h
            refine wp_iastore dX12_init_347 ha30 hr31 hg32 ?_
            change WP _ _ _ _ _ _ _ (sI H (tg H a30) a30 ((4 : Int32) * x1).toNatClampNeg (107 : Int32)) _
            refine wp_aload_n 0 dX12_init_348 rfl ?_
            refine wp_getC (ci := 12) (j := 2) dX12_init_349 fi_X12_19r rfl rfl ht1 ?_
            change WP _ _ _ _ _ _ (rv (hC (sI H (tg H a30) a30 ((4 : Int32) * x1).toNatClampNeg (107 : Int32)) 1302 a0) :: _) _ _
            refine wp_iconst (v := (5 : Int32)) dX12_init_352 (by decide) ?_
            refine wp_iload_n 1 dX12_init_353 rfl ?_
            refine wp_imul dX12_init_354 ?_
            refine wp_iload_n 1 dX12_init_355 rfl ?_
            refine wp_iadd dX12_init_356 ?_
            refine wp_iconst (v := (1 : Int32)) dX12_init_357 (by decide) ?_
            obtain ⟨a33, ha33, h⟩ := h
            obtain ⟨hr34, h⟩ := h
            obtain ⟨hg35, h⟩ := h
            refine wp_iastore dX12_init_358 ha33 hr34 hg35 ?_
            change WP _ _ _ _ _ _ _ (sI (sI H (tg H a30) a30 ((4 : Int32) * x1).toNatClampNeg (107 : Int32)) (tg (sI H (tg H a30) a30 ((4 : Int32) * x1).toNatClampNeg (107 : Int32)) a33) a33 (((5 : Int32) * x1) + x1).toNatClampNeg (1 : Int32)) _
            replace h := h _ rfl
            generalize e37 : (sI (sI H (tg H a30) a30 ((4 : Int32) * x1).toNatClampNeg (107 : Int32)) (tg (sI H (tg H a30) a30 ((4 : Int32) * x1).toNatClampNeg (107 : Int32)) a33) a33 (((5 : Int32) * x1) + x1).toNatClampNeg (1 : Int32)) = H36 at h ⊢
            have ht38 : tg H36 a0 = 13 := by rw [← e37]; exact ht1
            have hr39 : isA H36 a30 0 := by rw [← e37]; exact hr31
            have hr40 : isA H36 a33 0 := by rw [← e37]; exact hr34
            refine wp_aload_n 0 dX12_init_359 rfl ?_
            refine wp_getC (ci := 12) (j := 3) dX12_init_360 fi_X12_22r rfl rfl ht38 ?_
            change WP _ _ _ _ _ _ (rv (hC H36 1303 a0) :: _) _ _
            refine wp_iload_n 1 dX12_init_363 rfl ?_
            refine wp_lconst (v := (1 : Int64)) dX12_init_364 (by decide) ?_
            obtain ⟨a41, ha41, h⟩ := h
            obtain ⟨hr42, h⟩ := h
            obtain ⟨hg43, h⟩ := h
            refine wp_lastore dX12_init_365 ha41 hr42 hg43 ?_
            change WP _ _ _ _ _ _ _ (sL H36 (tg H36 a41) a41 x1.toNatClampNeg (1 : Int64)) _
            refine wp_aload_n 0 dX12_init_366 rfl ?_
            refine wp_getC (ci := 12) (j := 4) dX12_init_367 fi_X12_26r rfl rfl ht38 ?_
            change WP _ _ _ _ _ _ (rv (hC (sL H36 (tg H36 a41) a41 x1.toNatClampNeg (1 : Int64)) 1304 a0) :: _) _ _
            refine wp_iload_n 1 dX12_init_370 rfl ?_
            refine wp_lconst (v := (1 : Int64)) dX12_init_371 (by decide) ?_
            obtain ⟨a44, ha44, h⟩ := h
            obtain ⟨hr45, h⟩ := h
            obtain ⟨hg46, h⟩ := h
            refine wp_lastore dX12_init_372 ha44 hr45 hg46 ?_
            change WP _ _ _ _ _ _ _ (sL (sL H36 (tg H36 a41) a41 x1.toNatClampNeg (1 : Int64)) (tg (sL H36 (tg H36 a41) a41 x1.toNatClampNeg (1 : Int64)) a44) a44 x1.toNatClampNeg (1 : Int64)) _
            refine wp_aload_n 0 dX12_init_373 rfl ?_
            refine wp_getC (ci := 12) (j := 6) dX12_init_374 fi_X12_32r rfl rfl ht38 ?_
            change WP _ _ _ _ _ _ (rv (hC (sL (sL H36 (tg H36 a41) a41 x1.toNatClampNeg (1 : Int64)) (tg (sL H36 (tg H36 a41) a41 x1.toNatClampNeg (1 : Int64)) a44) a44 x1.toNatClampNeg (1 : Int64)) 1306 a0) :: _) _ _
            refine wp_iload_n 1 dX12_init_377 rfl ?_
            refine wp_lconst (v := (1 : Int64)) dX12_init_378 (by decide) ?_
            obtain ⟨a47, ha47, h⟩ := h
            obtain ⟨hr48, h⟩ := h
            obtain ⟨hg49, h⟩ := h
            refine wp_lastore dX12_init_379 ha47 hr48 hg49 ?_
            change WP _ _ _ _ _ _ _ (sL (sL (sL H36 (tg H36 a41) a41 x1.toNatClampNeg (1 : Int64)) (tg (sL H36 (tg H36 a41) a41 x1.toNatClampNeg (1 : Int64)) a44) a44 x1.toNatClampNeg (1 : Int64)) (tg (sL (sL H36 (tg H36 a41) a41 x1.toNatClampNeg (1 : Int64)) (tg (sL H36 (tg H36 a41) a41 x1.toNatClampNeg (1 : Int64)) a44) a44 x1.toNatClampNeg (1 : Int64)) a47) a47 x1.toNatClampNeg (1 : Int64)) _
            replace h := h _ rfl
            generalize e51 : (sL (sL (sL H36 (tg H36 a41) a41 x1.toNatClampNeg (1 : Int64)) (tg (sL H36 (tg H36 a41) a41 x1.toNatClampNeg (1 : Int64)) a44) a44 x1.toNatClampNeg (1 : Int64)) (tg (sL (sL H36 (tg H36 a41) a41 x1.toNatClampNeg (1 : Int64)) (tg (sL H36 (tg H36 a41) a41 x1.toNatClampNeg (1 : Int64)) a44) a44 x1.toNatClampNeg (1 : Int64)) a47) a47 x1.toNatClampNeg (1 : Int64)) = H50 at h ⊢
            have ht52 : tg H50 a0 = 13 := by rw [← e51]; exact ht38
            have hr53 : isA H50 a30 0 := by rw [← e51]; exact hr39
            have hr54 : isA H50 a33 0 := by rw [← e51]; exact hr40
            have hr55 : isA H50 a41 3 := by rw [← e51]; exact hr42
            have hr56 : isA H50 a44 3 := by rw [← e51]; exact hr45
            have hr57 : isA H50 a47 3 := by rw [← e51]; exact hr48
            refine wp_iinc (v := (x1 + 1)) (ls' := [(1, .int (x1 + 1)), (0, rv (some a0))]) 1 dX12_init_380 rfl rfl (by decide) rfl ?_
            refine wp_goto (tgt := 294) dX12_init_383 rfl ?_
            refine wp_sub (ls' := [(0, rv (some a0)), (1, .int (x1 + 1))]) [1, 0] rfl ?_
            exact h
        · replace h := h.2 c
          refine wp_bipush (v := (115 : Int32)) dX12_init_330 (by decide) ?_
          refine wp_goto (tgt := 347) dX12_init_332 rfl ?_
          obtain ⟨a58, ha58, h⟩ := h
          obtain ⟨hr59, h⟩ := h
          obtain ⟨hg60, h⟩ := h
          refine wp_iastore dX12_init_347 ha58 hr59 hg60 ?_
          change WP _ _ _ _ _ _ _ (sI H (tg H a58) a58 ((4 : Int32) * x1).toNatClampNeg (115 : Int32)) _
          refine wp_aload_n 0 dX12_init_348 rfl ?_
          refine wp_getC (ci := 12) (j := 2) dX12_init_349 fi_X12_19r rfl rfl ht1 ?_
          change WP _ _ _ _ _ _ (rv (hC (sI H (tg H a58) a58 ((4 : Int32) * x1).toNatClampNeg (115 : Int32)) 1302 a0) :: _) _ _
          refine wp_iconst (v := (5 : Int32)) dX12_init_352 (by decide) ?_
          refine wp_iload_n 1 dX12_init_353 rfl ?_
          refine wp_imul dX12_init_354 ?_
          refine wp_iload_n 1 dX12_init_355 rfl ?_
          refine wp_iadd dX12_init_356 ?_
          refine wp_iconst (v := (1 : Int32)) dX12_init_357 (by decide) ?_
          obtain ⟨a61, ha61, h⟩ := h
          obtain ⟨hr62, h⟩ := h
          obtain ⟨hg63, h⟩ := h
          refine wp_iastore dX12_init_358 ha61 hr62 hg63 ?_
          change WP _ _ _ _ _ _ _ (sI (sI H (tg H a58) a58 ((4 : Int32) * x1).toNatClampNeg (115 : Int32)) (tg (sI H (tg H a58) a58 ((4 : Int32) * x1).toNatClampNeg (115 : Int32)) a61) a61 (((5 : Int32) * x1) + x1).toNatClampNeg (1 : Int32)) _
          replace h := h _ rfl
          generalize e65 : (sI (sI H (tg H a58) a58 ((4 : Int32) * x1).toNatClampNeg (115 : Int32)) (tg (sI H (tg H a58) a58 ((4 : Int32) * x1).toNatClampNeg (115 : Int32)) a61) a61 (((5 : Int32) * x1) + x1).toNatClampNeg (1 : Int32)) = H64 at h ⊢
          have ht66 : tg H64 a0 = 13 := by rw [← e65]; exact ht1
          have hr67 : isA H64 a58 0 := by rw [← e65]; exact hr59
          have hr68 : isA H64 a61 0 := by rw [← e65]; exact hr62
          refine wp_aload_n 0 dX12_init_359 rfl ?_
          refine wp_getC (ci := 12) (j := 3) dX12_init_360 fi_X12_22r rfl rfl ht66 ?_
          change WP _ _ _ _ _ _ (rv (hC H64 1303 a0) :: _) _ _
          refine wp_iload_n 1 dX12_init_363 rfl ?_
          refine wp_lconst (v := (1 : Int64)) dX12_init_364 (by decide) ?_
          obtain ⟨a69, ha69, h⟩ := h
          obtain ⟨hr70, h⟩ := h
          obtain ⟨hg71, h⟩ := h
          refine wp_lastore dX12_init_365 ha69 hr70 hg71 ?_
          change WP _ _ _ _ _ _ _ (sL H64 (tg H64 a69) a69 x1.toNatClampNeg (1 : Int64)) _
          refine wp_aload_n 0 dX12_init_366 rfl ?_
          refine wp_getC (ci := 12) (j := 4) dX12_init_367 fi_X12_26r rfl rfl ht66 ?_
          change WP _ _ _ _ _ _ (rv (hC (sL H64 (tg H64 a69) a69 x1.toNatClampNeg (1 : Int64)) 1304 a0) :: _) _ _
          refine wp_iload_n 1 dX12_init_370 rfl ?_
          refine wp_lconst (v := (1 : Int64)) dX12_init_371 (by decide) ?_
          obtain ⟨a72, ha72, h⟩ := h
          obtain ⟨hr73, h⟩ := h
          obtain ⟨hg74, h⟩ := h
          refine wp_lastore dX12_init_372 ha72 hr73 hg74 ?_
          change WP _ _ _ _ _ _ _ (sL (sL H64 (tg H64 a69) a69 x1.toNatClampNeg (1 : Int64)) (tg (sL H64 (tg H64 a69) a69 x1.toNatClampNeg (1 : Int64)) a72) a72 x1.toNatClampNeg (1 : Int64)) _
          refine wp_aload_n 0 dX12_init_373 rfl ?_
          refine wp_getC (ci := 12) (j := 6) dX12_init_374 fi_X12_32r rfl rfl ht66 ?_
          change WP _ _ _ _ _ _ (rv (hC (sL (sL H64 (tg H64 a69) a69 x1.toNatClampNeg (1 : Int64)) (tg (sL H64 (tg H64 a69) a69 x1.toNatClampNeg (1 : Int64)) a72) a72 x1.toNatClampNeg (1 : Int64)) 1306 a0) :: _) _ _
          refine wp_iload_n 1 dX12_init_377 rfl ?_
          refine wp_lconst (v := (1 : Int64)) dX12_init_378 (by decide) ?_
          obtain ⟨a75, ha75, h⟩ := h
          obtain ⟨hr76, h⟩ := h
          obtain ⟨hg77, h⟩ := h
          refine wp_lastore dX12_init_379 ha75 hr76 hg77 ?_
          change WP _ _ _ _ _ _ _ (sL (sL (sL H64 (tg H64 a69) a69 x1.toNatClampNeg (1 : Int64)) (tg (sL H64 (tg H64 a69) a69 x1.toNatClampNeg (1 : Int64)) a72) a72 x1.toNatClampNeg (1 : Int64)) (tg (sL (sL H64 (tg H64 a69) a69 x1.toNatClampNeg (1 : Int64)) (tg (sL H64 (tg H64 a69) a69 x1.toNatClampNeg (1 : Int64)) a72) a72 x1.toNatClampNeg (1 : Int64)) a75) a75 x1.toNatClampNeg (1 : Int64)) _
          replace h := h _ rfl
          generalize e79 : (sL (sL (sL H64 (tg H64 a69) a69 x1.toNatClampNeg (1 : Int64)) (tg (sL H64 (tg H64 a69) a69 x1.toNatClampNeg (1 : Int64)) a72) a72 x1.toNatClampNeg (1 : Int64)) (tg (sL (sL H64 (tg H64 a69) a69 x1.toNatClampNeg (1 : Int64)) (tg (sL H64 (tg H64 a69) a69 x1.toNatClampNeg (1 : Int64)) a72) a72 x1.toNatClampNeg (1 : Int64)) a75) a75 x1.toNatClampNeg (1 : Int64)) = H78 at h ⊢
          have ht80 : tg H78 a0 = 13 := by rw [← e79]; exact ht66
          have hr81 : isA H78 a58 0 := by rw [← e79]; exact hr67
          have hr82 : isA H78 a61 0 := by rw [← e79]; exact hr68
          have hr83 : isA H78 a69 3 := by rw [← e79]; exact hr70
          have hr84 : isA H78 a72 3 := by rw [← e79]; exact hr73
          have hr85 : isA H78 a75 3 := by rw [← e79]; exact hr76
          refine wp_iinc (v := (x1 + 1)) (ls' := [(1, .int (x1 + 1)), (0, rv (some a0))]) 1 dX12_init_380 rfl rfl (by decide) rfl ?_
          refine wp_goto (tgt := 294) dX12_init_383 rfl ?_
          refine wp_sub (ls' := [(0, rv (some a0)), (1, .int (x1 + 1))]) [1, 0] rfl ?_
          exact h
      · replace h := h.2 c
        refine wp_bipush (v := (103 : Int32)) dX12_init_320 (by decide) ?_
        refine wp_goto (tgt := 347) dX12_init_322 rfl ?_
        obtain ⟨a86, ha86, h⟩ := h
        obtain ⟨hr87, h⟩ := h
        obtain ⟨hg88, h⟩ := h
        refine wp_iastore dX12_init_347 ha86 hr87 hg88 ?_
        change WP _ _ _ _ _ _ _ (sI H (tg H a86) a86 ((4 : Int32) * x1).toNatClampNeg (103 : Int32)) _
        refine wp_aload_n 0 dX12_init_348 rfl ?_
        refine wp_getC (ci := 12) (j := 2) dX12_init_349 fi_X12_19r rfl rfl ht1 ?_
        change WP _ _ _ _ _ _ (rv (hC (sI H (tg H a86) a86 ((4 : Int32) * x1).toNatClampNeg (103 : Int32)) 1302 a0) :: _) _ _
        refine wp_iconst (v := (5 : Int32)) dX12_init_352 (by decide) ?_
        refine wp_iload_n 1 dX12_init_353 rfl ?_
        refine wp_imul dX12_init_354 ?_
        refine wp_iload_n 1 dX12_init_355 rfl ?_
        refine wp_iadd dX12_init_356 ?_
        refine wp_iconst (v := (1 : Int32)) dX12_init_357 (by decide) ?_
        obtain ⟨a89, ha89, h⟩ := h
        obtain ⟨hr90, h⟩ := h
        obtain ⟨hg91, h⟩ := h
        refine wp_iastore dX12_init_358 ha89 hr90 hg91 ?_
        change WP _ _ _ _ _ _ _ (sI (sI H (tg H a86) a86 ((4 : Int32) * x1).toNatClampNeg (103 : Int32)) (tg (sI H (tg H a86) a86 ((4 : Int32) * x1).toNatClampNeg (103 : Int32)) a89) a89 (((5 : Int32) * x1) + x1).toNatClampNeg (1 : Int32)) _
        replace h := h _ rfl
        generalize e93 : (sI (sI H (tg H a86) a86 ((4 : Int32) * x1).toNatClampNeg (103 : Int32)) (tg (sI H (tg H a86) a86 ((4 : Int32) * x1).toNatClampNeg (103 : Int32)) a89) a89 (((5 : Int32) * x1) + x1).toNatClampNeg (1 : Int32)) = H92 at h ⊢
        have ht94 : tg H92 a0 = 13 := by rw [← e93]; exact ht1
        have hr95 : isA H92 a86 0 := by rw [← e93]; exact hr87
        have hr96 : isA H92 a89 0 := by rw [← e93]; exact hr90
        refine wp_aload_n 0 dX12_init_359 rfl ?_
        refine wp_getC (ci := 12) (j := 3) dX12_init_360 fi_X12_22r rfl rfl ht94 ?_
        change WP _ _ _ _ _ _ (rv (hC H92 1303 a0) :: _) _ _
        refine wp_iload_n 1 dX12_init_363 rfl ?_
        refine wp_lconst (v := (1 : Int64)) dX12_init_364 (by decide) ?_
        obtain ⟨a97, ha97, h⟩ := h
        obtain ⟨hr98, h⟩ := h
        obtain ⟨hg99, h⟩ := h
        refine wp_lastore dX12_init_365 ha97 hr98 hg99 ?_
        change WP _ _ _ _ _ _ _ (sL H92 (tg H92 a97) a97 x1.toNatClampNeg (1 : Int64)) _
        refine wp_aload_n 0 dX12_init_366 rfl ?_
        refine wp_getC (ci := 12) (j := 4) dX12_init_367 fi_X12_26r rfl rfl ht94 ?_
        change WP _ _ _ _ _ _ (rv (hC (sL H92 (tg H92 a97) a97 x1.toNatClampNeg (1 : Int64)) 1304 a0) :: _) _ _
        refine wp_iload_n 1 dX12_init_370 rfl ?_
        refine wp_lconst (v := (1 : Int64)) dX12_init_371 (by decide) ?_
        obtain ⟨a100, ha100, h⟩ := h
        obtain ⟨hr101, h⟩ := h
        obtain ⟨hg102, h⟩ := h
        refine wp_lastore dX12_init_372 ha100 hr101 hg102 ?_
        change WP _ _ _ _ _ _ _ (sL (sL H92 (tg H92 a97) a97 x1.toNatClampNeg (1 : Int64)) (tg (sL H92 (tg H92 a97) a97 x1.toNatClampNeg (1 : Int64)) a100) a100 x1.toNatClampNeg (1 : Int64)) _
        refine wp_aload_n 0 dX12_init_373 rfl ?_
        refine wp_getC (ci := 12) (j := 6) dX12_init_374 fi_X12_32r rfl rfl ht94 ?_
        change WP _ _ _ _ _ _ (rv (hC (sL (sL H92 (tg H92 a97) a97 x1.toNatClampNeg (1 : Int64)) (tg (sL H92 (tg H92 a97) a97 x1.toNatClampNeg (1 : Int64)) a100) a100 x1.toNatClampNeg (1 : Int64)) 1306 a0) :: _) _ _
        refine wp_iload_n 1 dX12_init_377 rfl ?_
        refine wp_lconst (v := (1 : Int64)) dX12_init_378 (by decide) ?_
        obtain ⟨a103, ha103, h⟩ := h
        obtain ⟨hr104, h⟩ := h
        obtain ⟨hg105, h⟩ := h
        refine wp_lastore dX12_init_379 ha103 hr104 hg105 ?_
        change WP _ _ _ _ _ _ _ (sL (sL (sL H92 (tg H92 a97) a97 x1.toNatClampNeg (1 : Int64)) (tg (sL H92 (tg H92 a97) a97 x1.toNatClampNeg (1 : Int64)) a100) a100 x1.toNatClampNeg (1 : Int64)) (tg (sL (sL H92 (tg H92 a97) a97 x1.toNatClampNeg (1 : Int64)) (tg (sL H92 (tg H92 a97) a97 x1.toNatClampNeg (1 : Int64)) a100) a100 x1.toNatClampNeg (1 : Int64)) a103) a103 x1.toNatClampNeg (1 : Int64)) _
        replace h := h _ rfl
        generalize e107 : (sL (sL (sL H92 (tg H92 a97) a97 x1.toNatClampNeg (1 : Int64)) (tg (sL H92 (tg H92 a97) a97 x1.toNatClampNeg (1 : Int64)) a100) a100 x1.toNatClampNeg (1 : Int64)) (tg (sL (sL H92 (tg H92 a97) a97 x1.toNatClampNeg (1 : Int64)) (tg (sL H92 (tg H92 a97) a97 x1.toNatClampNeg (1 : Int64)) a100) a100 x1.toNatClampNeg (1 : Int64)) a103) a103 x1.toNatClampNeg (1 : Int64)) = H106 at h ⊢
        have ht108 : tg H106 a0 = 13 := by rw [← e107]; exact ht94
        have hr109 : isA H106 a86 0 := by rw [← e107]; exact hr95
        have hr110 : isA H106 a89 0 := by rw [← e107]; exact hr96
        have hr111 : isA H106 a97 3 := by rw [← e107]; exact hr98
        have hr112 : isA H106 a100 3 := by rw [← e107]; exact hr101
        have hr113 : isA H106 a103 3 := by rw [← e107]; exact hr104
        refine wp_iinc (v := (x1 + 1)) (ls' := [(1, .int (x1 + 1)), (0, rv (some a0))]) 1 dX12_init_380 rfl rfl (by decide) rfl ?_
        refine wp_goto (tgt := 294) dX12_init_383 rfl ?_
        refine wp_sub (ls' := [(0, rv (some a0)), (1, .int (x1 + 1))]) [1, 0] rfl ?_
        exact h
    · replace h := h.2 c
      refine wp_bipush (v := (109 : Int32)) dX12_init_310 (by decide) ?_
      refine wp_goto (tgt := 347) dX12_init_312 rfl ?_
      obtain ⟨a114, ha114, h⟩ := h
      obtain ⟨hr115, h⟩ := h
      obtain ⟨hg116, h⟩ := h
      refine wp_iastore dX12_init_347 ha114 hr115 hg116 ?_
      change WP _ _ _ _ _ _ _ (sI H (tg H a114) a114 ((4 : Int32) * x1).toNatClampNeg (109 : Int32)) _
      refine wp_aload_n 0 dX12_init_348 rfl ?_
      refine wp_getC (ci := 12) (j := 2) dX12_init_349 fi_X12_19r rfl rfl ht1 ?_
      change WP _ _ _ _ _ _ (rv (hC (sI H (tg H a114) a114 ((4 : Int32) * x1).toNatClampNeg (109 : Int32)) 1302 a0) :: _) _ _
      refine wp_iconst (v := (5 : Int32)) dX12_init_352 (by decide) ?_
      refine wp_iload_n 1 dX12_init_353 rfl ?_
      refine wp_imul dX12_init_354 ?_
      refine wp_iload_n 1 dX12_init_355 rfl ?_
      refine wp_iadd dX12_init_356 ?_
      refine wp_iconst (v := (1 : Int32)) dX12_init_357 (by decide) ?_
      obtain ⟨a117, ha117, h⟩ := h
      obtain ⟨hr118, h⟩ := h
      obtain ⟨hg119, h⟩ := h
      refine wp_iastore dX12_init_358 ha117 hr118 hg119 ?_
      change WP _ _ _ _ _ _ _ (sI (sI H (tg H a114) a114 ((4 : Int32) * x1).toNatClampNeg (109 : Int32)) (tg (sI H (tg H a114) a114 ((4 : Int32) * x1).toNatClampNeg (109 : Int32)) a117) a117 (((5 : Int32) * x1) + x1).toNatClampNeg (1 : Int32)) _
      replace h := h _ rfl
      generalize e121 : (sI (sI H (tg H a114) a114 ((4 : Int32) * x1).toNatClampNeg (109 : Int32)) (tg (sI H (tg H a114) a114 ((4 : Int32) * x1).toNatClampNeg (109 : Int32)) a117) a117 (((5 : Int32) * x1) + x1).toNatClampNeg (1 : Int32)) = H120 at h ⊢
      have ht122 : tg H120 a0 = 13 := by rw [← e121]; exact ht1
      have hr123 : isA H120 a114 0 := by rw [← e121]; exact hr115
      have hr124 : isA H120 a117 0 := by rw [← e121]; exact hr118
      refine wp_aload_n 0 dX12_init_359 rfl ?_
      refine wp_getC (ci := 12) (j := 3) dX12_init_360 fi_X12_22r rfl rfl ht122 ?_
      change WP _ _ _ _ _ _ (rv (hC H120 1303 a0) :: _) _ _
      refine wp_iload_n 1 dX12_init_363 rfl ?_
      refine wp_lconst (v := (1 : Int64)) dX12_init_364 (by decide) ?_
      obtain ⟨a125, ha125, h⟩ := h
      obtain ⟨hr126, h⟩ := h
      obtain ⟨hg127, h⟩ := h
      refine wp_lastore dX12_init_365 ha125 hr126 hg127 ?_
      change WP _ _ _ _ _ _ _ (sL H120 (tg H120 a125) a125 x1.toNatClampNeg (1 : Int64)) _
      refine wp_aload_n 0 dX12_init_366 rfl ?_
      refine wp_getC (ci := 12) (j := 4) dX12_init_367 fi_X12_26r rfl rfl ht122 ?_
      change WP _ _ _ _ _ _ (rv (hC (sL H120 (tg H120 a125) a125 x1.toNatClampNeg (1 : Int64)) 1304 a0) :: _) _ _
      refine wp_iload_n 1 dX12_init_370 rfl ?_
      refine wp_lconst (v := (1 : Int64)) dX12_init_371 (by decide) ?_
      obtain ⟨a128, ha128, h⟩ := h
      obtain ⟨hr129, h⟩ := h
      obtain ⟨hg130, h⟩ := h
      refine wp_lastore dX12_init_372 ha128 hr129 hg130 ?_
      change WP _ _ _ _ _ _ _ (sL (sL H120 (tg H120 a125) a125 x1.toNatClampNeg (1 : Int64)) (tg (sL H120 (tg H120 a125) a125 x1.toNatClampNeg (1 : Int64)) a128) a128 x1.toNatClampNeg (1 : Int64)) _
      refine wp_aload_n 0 dX12_init_373 rfl ?_
      refine wp_getC (ci := 12) (j := 6) dX12_init_374 fi_X12_32r rfl rfl ht122 ?_
      change WP _ _ _ _ _ _ (rv (hC (sL (sL H120 (tg H120 a125) a125 x1.toNatClampNeg (1 : Int64)) (tg (sL H120 (tg H120 a125) a125 x1.toNatClampNeg (1 : Int64)) a128) a128 x1.toNatClampNeg (1 : Int64)) 1306 a0) :: _) _ _
      refine wp_iload_n 1 dX12_init_377 rfl ?_
      refine wp_lconst (v := (1 : Int64)) dX12_init_378 (by decide) ?_
      obtain ⟨a131, ha131, h⟩ := h
      obtain ⟨hr132, h⟩ := h
      obtain ⟨hg133, h⟩ := h
      refine wp_lastore dX12_init_379 ha131 hr132 hg133 ?_
      change WP _ _ _ _ _ _ _ (sL (sL (sL H120 (tg H120 a125) a125 x1.toNatClampNeg (1 : Int64)) (tg (sL H120 (tg H120 a125) a125 x1.toNatClampNeg (1 : Int64)) a128) a128 x1.toNatClampNeg (1 : Int64)) (tg (sL (sL H120 (tg H120 a125) a125 x1.toNatClampNeg (1 : Int64)) (tg (sL H120 (tg H120 a125) a125 x1.toNatClampNeg (1 : Int64)) a128) a128 x1.toNatClampNeg (1 : Int64)) a131) a131 x1.toNatClampNeg (1 : Int64)) _
      replace h := h _ rfl
      generalize e135 : (sL (sL (sL H120 (tg H120 a125) a125 x1.toNatClampNeg (1 : Int64)) (tg (sL H120 (tg H120 a125) a125 x1.toNatClampNeg (1 : Int64)) a128) a128 x1.toNatClampNeg (1 : Int64)) (tg (sL (sL H120 (tg H120 a125) a125 x1.toNatClampNeg (1 : Int64)) (tg (sL H120 (tg H120 a125) a125 x1.toNatClampNeg (1 : Int64)) a128) a128 x1.toNatClampNeg (1 : Int64)) a131) a131 x1.toNatClampNeg (1 : Int64)) = H134 at h ⊢
      have ht136 : tg H134 a0 = 13 := by rw [← e135]; exact ht122
      have hr137 : isA H134 a114 0 := by rw [← e135]; exact hr123
      have hr138 : isA H134 a117 0 := by rw [← e135]; exact hr124
      have hr139 : isA H134 a125 3 := by rw [← e135]; exact hr126
      have hr140 : isA H134 a128 3 := by rw [← e135]; exact hr129
      have hr141 : isA H134 a131 3 := by rw [← e135]; exact hr132
      refine wp_iinc (v := (x1 + 1)) (ls' := [(1, .int (x1 + 1)), (0, rv (some a0))]) 1 dX12_init_380 rfl rfl (by decide) rfl ?_
      refine wp_goto (tgt := 294) dX12_init_383 rfl ?_
      refine wp_sub (ls' := [(0, rv (some a0)), (1, .int (x1 + 1))]) [1, 0] rfl ?_
      exact h
def wb_X12_init_388 (d : Nat) (ca sa : Nat) (q : HP → Prop) (a0 : Nat) (x1 : Int32) (H : HP) : Prop :=
  ((4 : Int32) ≤ x1 → L_X12_init_408 d ca sa q a0 (0 : Int32) H) ∧ (¬ ((4 : Int32) ≤ x1) → tg H a0 = 13 ∧ (∃ a2, (hC H 1357 a0) = some a2 ∧ (isA H a2 0 ∧ (vp_in x1 (ln H a2) ∧ (L_X12_init_388 d ca sa q a0 (x1 + 1) (sI H (tg H a2) a2 x1.toNatClampNeg (-1 : Int32)))))))
set_option maxRecDepth 40000 in
set_option maxHeartbeats 4000000 in
theorem T_X12_init_388 {d : Nat} {ca sa : Nat} {q : HP → Prop} {a0 : Nat} {x1 : Int32} {H : HP} (h : wb_X12_init_388 d ca sa q a0 x1 H) : L_X12_init_388 d ca sa q a0 x1 H := by
  unfold wb_X12_init_388 at h
  unfold L_X12_init_388
  refine wp_iload_n 1 dX12_init_388 rfl ?_
  refine wp_iconst (v := (4 : Int32)) dX12_init_389 (by decide) ?_
  refine wp_icmp_ge (tgt := 406) dX12_init_390 rfl (fun c => ?_) (fun c => ?_)
  · replace h := h.1 c
    refine wp_iconst (v := (0 : Int32)) dX12_init_406 (by decide) ?_
    refine wp_istore_n (ls' := [(1, .int (0 : Int32)), (0, rv (some a0))]) dX12_init_407 (by decide) rfl ?_
    refine wp_sub (ls' := [(0, rv (some a0)), (1, .int (0 : Int32))]) [1, 0] rfl ?_
    exact h
  · replace h := h.2 c
    refine wp_aload_n 0 dX12_init_393 rfl ?_
    obtain ⟨ht1, h⟩ := h
    refine wp_getC (ci := 12) (j := 57) dX12_init_394 fi_X12_107r rfl rfl ht1 ?_
    change WP _ _ _ _ _ _ (rv (hC H 1357 a0) :: _) _ _
    refine wp_iload_n 1 dX12_init_397 rfl ?_
    refine wp_iconst (v := (-1 : Int32)) dX12_init_398 (by decide) ?_
    obtain ⟨a2, ha2, h⟩ := h
    obtain ⟨hr3, h⟩ := h
    obtain ⟨hg4, h⟩ := h
    refine wp_iastore dX12_init_399 ha2 hr3 hg4 ?_
    change WP _ _ _ _ _ _ _ (sI H (tg H a2) a2 x1.toNatClampNeg (-1 : Int32)) _
    refine wp_iinc (v := (x1 + 1)) (ls' := [(1, .int (x1 + 1)), (0, rv (some a0))]) 1 dX12_init_400 rfl rfl (by decide) rfl ?_
    refine wp_goto (tgt := 388) dX12_init_403 rfl ?_
    refine wp_sub (ls' := [(0, rv (some a0)), (1, .int (x1 + 1))]) [1, 0] rfl ?_
    exact h
def wb_X12_init_408 (d : Nat) (ca sa : Nat) (q : HP → Prop) (a0 : Nat) (x1 : Int32) (H : HP) : Prop :=
  ((18 : Int32) ≤ x1 → q H) ∧ (¬ ((18 : Int32) ≤ x1) → tg H a0 = 13 ∧ (∃ a2, (hC H 1361 a0) = some a2 ∧ (isA H a2 0 ∧ (vp_in x1 (ln H a2) ∧ (L_X12_init_408 d ca sa q a0 (x1 + 1) (sI H (tg H a2) a2 x1.toNatClampNeg (-1 : Int32)))))))
set_option maxRecDepth 40000 in
set_option maxHeartbeats 4000000 in
theorem T_X12_init_408 {d : Nat} {ca sa : Nat} {q : HP → Prop} {a0 : Nat} {x1 : Int32} {H : HP} (h : wb_X12_init_408 d ca sa q a0 x1 H) : L_X12_init_408 d ca sa q a0 x1 H := by
  unfold wb_X12_init_408 at h
  unfold L_X12_init_408
  refine wp_iload_n 1 dX12_init_408 rfl ?_
  refine wp_bipush (v := (18 : Int32)) dX12_init_409 (by decide) ?_
  refine wp_icmp_ge (tgt := 427) dX12_init_411 rfl (fun c => ?_) (fun c => ?_)
  · replace h := h.1 c
    exact wp_return dX12_init_427 rfl ⟨rfl, h⟩
  · replace h := h.2 c
    refine wp_aload_n 0 dX12_init_414 rfl ?_
    obtain ⟨ht1, h⟩ := h
    refine wp_getC (ci := 12) (j := 61) dX12_init_415 fi_X12_121r rfl rfl ht1 ?_
    change WP _ _ _ _ _ _ (rv (hC H 1361 a0) :: _) _ _
    refine wp_iload_n 1 dX12_init_418 rfl ?_
    refine wp_iconst (v := (-1 : Int32)) dX12_init_419 (by decide) ?_
    obtain ⟨a2, ha2, h⟩ := h
    obtain ⟨hr3, h⟩ := h
    obtain ⟨hg4, h⟩ := h
    refine wp_iastore dX12_init_420 ha2 hr3 hg4 ?_
    change WP _ _ _ _ _ _ _ (sI H (tg H a2) a2 x1.toNatClampNeg (-1 : Int32)) _
    refine wp_iinc (v := (x1 + 1)) (ls' := [(1, .int (x1 + 1)), (0, rv (some a0))]) 1 dX12_init_421 rfl rfl (by decide) rfl ?_
    refine wp_goto (tgt := 408) dX12_init_424 rfl ?_
    refine wp_sub (ls' := [(0, rv (some a0)), (1, .int (x1 + 1))]) [1, 0] rfl ?_
    exact h
theorem C_X12_init {d : Nat} {ca sa : Nat} {q : HP → Prop} {a0 : Nat} {H : HP} (h : wb_X12_init_0 d ca sa q a0 H) : CV (d + 1) ca sa mX12_init [rv (some a0)] H q := by
  refine call_of (by decide +kernel) (by simp [lg_sl, rv_cat, vc_int, vc_long, vc_float, vc_double]) ?_
  have e : lv_args 0 [rv (some a0)] = [(0, rv (some a0))] := by simp [lv_args, rv_cat, vc_int, vc_long, vc_float, vc_double]
  rw [e]
  exact T_X12_init_0 h
def wb_X12_isFigure_0 (d : Nat) (q : HP → Bool → Prop) (a0 : Nat) (H : HP) : Prop :=
  tg H a0 = 13 ∧ (CI d 0 0 mX12_here [rv (some a0)] H (fun H1 r3 => CZ d 0 0 mX12_isIn [.long (r3.toInt64), .long (48 : Int64), .long (57 : Int64)] H1 (fun H4 b5 => q H4 b5)))
set_option maxRecDepth 40000 in
set_option maxHeartbeats 4000000 in
theorem T_X12_isFigure_0 {d : Nat} {q : HP → Bool → Prop} {a0 : Nat} {H : HP} (h : wb_X12_isFigure_0 d q a0 H) : WP (d + 1) mX12_isFigure 0 0 0 [(0, rv (some a0))] [] H (qZ q) := by
  unfold wb_X12_isFigure_0 at h
  refine wp_aload_n 0 dX12_isFigure_0 rfl ?_
  obtain ⟨ht2, h⟩ := h
  refine wp_callV (ci := 12) (As := []) (rest := []) (mc := 0) (ms := 0) dX12_isFigure_1 lk_X12_177 rfl rfl (by decide) rfl rfl rfl ht2 rfl rfl rfl w_6_206 (Call.weaken h ?_)
  rintro H1 _ ⟨r3, rfl, h⟩
  change WP _ _ _ _ _ _ [.int r3] H1 _
  refine wp_i2l dX12_isFigure_4 ?_
  refine wp_ldc2 dX12_isFigure_5 w_6_228 ?_
  refine wp_ldc2 dX12_isFigure_8 w_6_229 ?_
  refine wp_callS (As := [.long (r3.toInt64), .long (48 : Int64), .long (57 : Int64)]) (rest := []) (mc := 0) (ms := 0) dX12_isFigure_11 lk_X12_161 rfl rfl (by decide) rfl rfl rfl (Call.weaken h ?_)
  rintro H4 _ ⟨b5, rfl, h⟩
  change WP _ _ _ _ _ _ [.int (bI b5)] H4 _
  exact wp_ireturn (ty := .boolean) dX12_isFigure_14 rfl (nar_bI _).1 ⟨b5, rfl, h⟩
theorem C_X12_isFigure {d : Nat} {q : HP → Bool → Prop} {a0 : Nat} {H : HP} (h : wb_X12_isFigure_0 d q a0 H) : CZ (d + 1) 0 0 mX12_isFigure [rv (some a0)] H q := by
  refine call_of (by decide +kernel) (by simp [lg_sl, rv_cat, vc_int, vc_long, vc_float, vc_double]) ?_
  have e : lv_args 0 [rv (some a0)] = [(0, rv (some a0))] := by simp [lv_args, rv_cat, vc_int, vc_long, vc_float, vc_double]
  rw [e]
  exact T_X12_isFigure_0 h
def wb_X12_isIn_0 (d : Nat) (q : HP → Bool → Prop) (x0 : Int64) (x2 : Int64) (x4 : Int64) (H : HP) : Prop :=
  (x0 < x2 → q H false) ∧ (¬ (x0 < x2) → (x4 < x0 → q H false) ∧ (¬ (x4 < x0) → q H true))
set_option maxRecDepth 40000 in
set_option maxHeartbeats 4000000 in
theorem T_X12_isIn_0 {d : Nat} {q : HP → Bool → Prop} {x0 : Int64} {x2 : Int64} {x4 : Int64} {H : HP} (h : wb_X12_isIn_0 d q x0 x2 x4 H) : WP (d + 1) mX12_isIn 0 0 0 [(0, .long x0), (2, .long x2), (4, .long x4)] [] H (qZ q) := by
  unfold wb_X12_isIn_0 at h
  refine wp_lload_n 0 dX12_isIn_0 rfl ?_
  refine wp_lload_n 1 dX12_isIn_1 rfl ?_
  refine wp_lcmp dX12_isIn_2 ?_
  refine wp_if_lt (tgt := 17) dX12_isIn_3 rfl (fun c => ?_) (fun c => ?_)
  · replace h := h.1 (lgc_lt.mp c)
    refine wp_iconst (v := (0 : Int32)) dX12_isIn_17 (by decide) ?_
    exact wp_ireturn (ty := .boolean) dX12_isIn_18 rfl rfl ⟨false, rfl, h⟩
  · replace h := h.2 (fun z => c (lgc_lt.mpr z))
    refine wp_lload_n 0 dX12_isIn_6 rfl ?_
    refine wp_lload 2 dX12_isIn_7 rfl ?_
    refine wp_lcmp dX12_isIn_9 ?_
    refine wp_if_gt (tgt := 17) dX12_isIn_10 rfl (fun c => ?_) (fun c => ?_)
    · replace h := h.1 (lgc_gt.mp c)
      refine wp_iconst (v := (0 : Int32)) dX12_isIn_17 (by decide) ?_
      exact wp_ireturn (ty := .boolean) dX12_isIn_18 rfl rfl ⟨false, rfl, h⟩
    · replace h := h.2 (fun z => c (lgc_gt.mpr z))
      refine wp_iconst (v := (1 : Int32)) dX12_isIn_13 (by decide) ?_
      refine wp_goto (tgt := 18) dX12_isIn_14 rfl ?_
      exact wp_ireturn (ty := .boolean) dX12_isIn_18 rfl rfl ⟨true, rfl, h⟩
theorem C_X12_isIn {d : Nat} {q : HP → Bool → Prop} {x0 : Int64} {x2 : Int64} {x4 : Int64} {H : HP} (h : wb_X12_isIn_0 d q x0 x2 x4 H) : CZ (d + 1) 0 0 mX12_isIn [.long x0, .long x2, .long x4] H q := by
  refine call_of (by decide +kernel) (by simp [lg_sl, rv_cat, vc_int, vc_long, vc_float, vc_double]) ?_
  have e : lv_args 0 [.long x0, .long x2, .long x4] = [(0, .long x0), (2, .long x2), (4, .long x4)] := by simp [lv_args, rv_cat, vc_int, vc_long, vc_float, vc_double]
  rw [e]
  exact T_X12_isIn_0 h
/-- UnitProverModel.isLess(JJJJ)Z: the loop at 17 -/
def L_X12_isLess_17 (d : Nat) (q : HP → Bool → Prop) (x8 : Int64) (x10 : Int64) (x12 : Int64) (x14 : Int64) (x16 : Int32) (H : HP) : Prop := WP (d + 1) mX12_isLess 0 0 17 [(8, .long x8), (10, .long x10), (12, .long x12), (14, .long x14), (16, .int x16)] [] H (qZ q)
def wb_X12_isLess_0 (d : Nat) (q : HP → Bool → Prop) (x0 : Int64) (x2 : Int64) (x4 : Int64) (x6 : Int64) (H : HP) : Prop :=
  L_X12_isLess_17 d q x0 x2 x4 x6 (0 : Int32) H
set_option maxRecDepth 40000 in
set_option maxHeartbeats 4000000 in
theorem T_X12_isLess_0 {d : Nat} {q : HP → Bool → Prop} {x0 : Int64} {x2 : Int64} {x4 : Int64} {x6 : Int64} {H : HP} (h : wb_X12_isLess_0 d q x0 x2 x4 x6 H) : WP (d + 1) mX12_isLess 0 0 0 [(0, .long x0), (2, .long x2), (4, .long x4), (6, .long x6)] [] H (qZ q) := by
  unfold wb_X12_isLess_0 at h
  refine wp_lload_n 0 dX12_isLess_0 rfl ?_
  refine wp_lstore (ls' := [(8, .long x0), (0, .long x0), (2, .long x2), (4, .long x4), (6, .long x6)]) dX12_isLess_1 (by decide) rfl ?_
  refine wp_lload_n 2 dX12_isLess_3 rfl ?_
  refine wp_lstore (ls' := [(10, .long x2), (8, .long x0), (0, .long x0), (2, .long x2), (4, .long x4), (6, .long x6)]) dX12_isLess_4 (by decide) rfl ?_
  refine wp_lload 4 dX12_isLess_6 rfl ?_
  refine wp_lstore (ls' := [(12, .long x4), (10, .long x2), (8, .long x0), (0, .long x0), (2, .long x2), (4, .long x4), (6, .long x6)]) dX12_isLess_8 (by decide) rfl ?_
  refine wp_lload 6 dX12_isLess_10 rfl ?_
  refine wp_lstore (ls' := [(14, .long x6), (12, .long x4), (10, .long x2), (8, .long x0), (0, .long x0), (2, .long x2), (4, .long x4), (6, .long x6)]) dX12_isLess_12 (by decide) rfl ?_
  refine wp_iconst (v := (0 : Int32)) dX12_isLess_14 (by decide) ?_
  refine wp_istore (ls' := [(16, .int (0 : Int32)), (14, .long x6), (12, .long x4), (10, .long x2), (8, .long x0), (0, .long x0), (2, .long x2), (4, .long x4), (6, .long x6)]) dX12_isLess_15 (by decide) rfl ?_
  refine wp_sub (ls' := [(8, .long x0), (10, .long x2), (12, .long x4), (14, .long x6), (16, .int (0 : Int32))]) [4, 3, 2, 1, 0] rfl ?_
  exact h
def wb_X12_isLess_17 (d : Nat) (q : HP → Bool → Prop) (x8 : Int64) (x10 : Int64) (x12 : Int64) (x14 : Int64) (x16 : Int32) (H : HP) : Prop :=
  ¬ x10 = 0 ∧ (¬ x14 = 0 ∧ (((x8 / x10) = (x12 / x14) → ¬ x10 = 0 ∧ (¬ x14 = 0 ∧ (((x8 - x8 / x10 * x10) = (0 : Int64) → (x16 = 0 → ((x12 - x12 / x14 * x14) = (0 : Int64) → q H false) ∧ (¬ ((x12 - x12 / x14 * x14) = (0 : Int64)) → q H true)) ∧ (¬ (x16 = 0) → ((x8 - x8 / x10 * x10) = (0 : Int64) → q H false) ∧ (¬ ((x8 - x8 / x10 * x10) = (0 : Int64)) → q H true))) ∧ (¬ ((x8 - x8 / x10 * x10) = (0 : Int64)) → (¬ (x12 - x12 / x14 * x14) = (0 : Int64) → (¬ x16 = 0 → L_X12_isLess_17 d q x10 (x8 - x8 / x10 * x10) x14 (x12 - x12 / x14 * x14) (0 : Int32) H) ∧ (x16 = 0 → L_X12_isLess_17 d q x10 (x8 - x8 / x10 * x10) x14 (x12 - x12 / x14 * x14) (1 : Int32) H)) ∧ ((x12 - x12 / x14 * x14) = (0 : Int64) → (x16 = 0 → ((x12 - x12 / x14 * x14) = (0 : Int64) → q H false) ∧ (¬ ((x12 - x12 / x14 * x14) = (0 : Int64)) → q H true)) ∧ (¬ (x16 = 0) → ((x8 - x8 / x10 * x10) = (0 : Int64) → q H false) ∧ (¬ ((x8 - x8 / x10 * x10) = (0 : Int64)) → q H true))))))) ∧ (¬ ((x8 / x10) = (x12 / x14)) → ¬ x10 = 0 ∧ (¬ x14 = 0 ∧ (((x12 / x14) ≤ (x8 / x10) → ((0 : Int32) = x16 → q H false) ∧ (¬ ((0 : Int32) = x16) → q H true)) ∧ (¬ ((x12 / x14) ≤ (x8 / x10)) → ((1 : Int32) = x16 → q H false) ∧ (¬ ((1 : Int32) = x16) → q H true)))))))
set_option maxRecDepth 40000 in
set_option maxHeartbeats 4000000 in
theorem T_X12_isLess_17 {d : Nat} {q : HP → Bool → Prop} {x8 : Int64} {x10 : Int64} {x12 : Int64} {x14 : Int64} {x16 : Int32} {H : HP} (h : wb_X12_isLess_17 d q x8 x10 x12 x14 x16 H) : L_X12_isLess_17 d q x8 x10 x12 x14 x16 H := by
  unfold wb_X12_isLess_17 at h
  unfold L_X12_isLess_17
  refine wp_lload 0 dX12_isLess_17 rfl ?_
  refine wp_lload 1 dX12_isLess_19 rfl ?_
  obtain ⟨hg1, h⟩ := h
  refine wp_ldiv dX12_isLess_21 hg1 ?_
  refine wp_lload 2 dX12_isLess_22 rfl ?_
  refine wp_lload 3 dX12_isLess_24 rfl ?_
  obtain ⟨hg2, h⟩ := h
  refine wp_ldiv dX12_isLess_26 hg2 ?_
  refine wp_lcmp dX12_isLess_27 ?_
  refine wp_if_eq (tgt := 61) dX12_isLess_28 rfl (fun c => ?_) (fun c => ?_)
  · replace h := h.1 (lgc_eq.mp c)
    refine wp_lload 0 dX12_isLess_61 rfl ?_
    refine wp_lload 1 dX12_isLess_63 rfl ?_
    obtain ⟨hg3, h⟩ := h
    refine wp_lrem dX12_isLess_65 hg3 ?_
    refine wp_lstore (ls' := [(17, .long (x8 - x8 / x10 * x10)), (8, .long x8), (10, .long x10), (12, .long x12), (14, .long x14), (16, .int x16)]) dX12_isLess_66 (by decide) rfl ?_
    refine wp_lload 3 dX12_isLess_68 rfl ?_
    refine wp_lload 4 dX12_isLess_70 rfl ?_
    obtain ⟨hg4, h⟩ := h
    refine wp_lrem dX12_isLess_72 hg4 ?_
    refine wp_lstore (ls' := [(19, .long (x12 - x12 / x14 * x14)), (17, .long (x8 - x8 / x10 * x10)), (8, .long x8), (10, .long x10), (12, .long x12), (14, .long x14), (16, .int x16)]) dX12_isLess_73 (by decide) rfl ?_
    refine wp_lload 1 dX12_isLess_75 rfl ?_
    refine wp_lconst (v := (0 : Int64)) dX12_isLess_77 (by decide) ?_
    refine wp_lcmp dX12_isLess_78 ?_
    refine wp_if_eq (tgt := 89) dX12_isLess_79 rfl (fun c => ?_) (fun c => ?_)
    · replace h := h.1 (lgc_eq.mp c)
      refine wp_iload 6 dX12_isLess_89 rfl ?_
      refine wp_if_eq (tgt := 109) dX12_isLess_91 rfl (fun c => ?_) (fun c => ?_)
      · replace h := h.1 c
        refine wp_lload 0 dX12_isLess_109 rfl ?_
        refine wp_lconst (v := (0 : Int64)) dX12_isLess_111 (by decide) ?_
        refine wp_lcmp dX12_isLess_112 ?_
        refine wp_if_eq (tgt := 120) dX12_isLess_113 rfl (fun c => ?_) (fun c => ?_)
        · replace h := h.1 (lgc_eq.mp c)
          refine wp_iconst (v := (0 : Int32)) dX12_isLess_120 (by decide) ?_
          exact wp_ireturn (ty := .boolean) dX12_isLess_121 rfl rfl ⟨false, rfl, h⟩
        · replace h := h.2 (fun z => c (lgc_eq.mpr z))
          refine wp_iconst (v := (1 : Int32)) dX12_isLess_116 (by decide) ?_
          refine wp_goto (tgt := 121) dX12_isLess_117 rfl ?_
          exact wp_ireturn (ty := .boolean) dX12_isLess_121 rfl rfl ⟨true, rfl, h⟩
      · replace h := h.2 c
        refine wp_lload 1 dX12_isLess_94 rfl ?_
        refine wp_lconst (v := (0 : Int64)) dX12_isLess_96 (by decide) ?_
        refine wp_lcmp dX12_isLess_97 ?_
        refine wp_if_eq (tgt := 105) dX12_isLess_98 rfl (fun c => ?_) (fun c => ?_)
        · replace h := h.1 (lgc_eq.mp c)
          refine wp_iconst (v := (0 : Int32)) dX12_isLess_105 (by decide) ?_
          refine wp_goto (tgt := 121) dX12_isLess_106 rfl ?_
          exact wp_ireturn (ty := .boolean) dX12_isLess_121 rfl rfl ⟨false, rfl, h⟩
        · replace h := h.2 (fun z => c (lgc_eq.mpr z))
          refine wp_iconst (v := (1 : Int32)) dX12_isLess_101 (by decide) ?_
          refine wp_goto (tgt := 121) dX12_isLess_102 rfl ?_
          exact wp_ireturn (ty := .boolean) dX12_isLess_121 rfl rfl ⟨true, rfl, h⟩
    · replace h := h.2 (fun z => c (lgc_eq.mpr z))
      refine wp_lload 0 dX12_isLess_82 rfl ?_
      refine wp_lconst (v := (0 : Int64)) dX12_isLess_84 (by decide) ?_
      refine wp_lcmp dX12_isLess_85 ?_
      refine wp_if_ne (tgt := 122) dX12_isLess_86 rfl (fun c => ?_) (fun c => ?_)
      · replace h := h.1 (fun z => c (lgc_eq.mpr z))
        refine wp_lload 3 dX12_isLess_122 rfl ?_
        refine wp_lstore (ls' := [(8, .long x10), (19, .long (x12 - x12 / x14 * x14)), (17, .long (x8 - x8 / x10 * x10)), (10, .long x10), (12, .long x12), (14, .long x14), (16, .int x16)]) dX12_isLess_124 (by decide) rfl ?_
        refine wp_lload 2 dX12_isLess_126 rfl ?_
        refine wp_lstore (ls' := [(10, .long (x8 - x8 / x10 * x10)), (8, .long x10), (19, .long (x12 - x12 / x14 * x14)), (17, .long (x8 - x8 / x10 * x10)), (12, .long x12), (14, .long x14), (16, .int x16)]) dX12_isLess_128 (by decide) rfl ?_
        refine wp_lload 5 dX12_isLess_130 rfl ?_
        refine wp_lstore (ls' := [(12, .long x14), (10, .long (x8 - x8 / x10 * x10)), (8, .long x10), (19, .long (x12 - x12 / x14 * x14)), (17, .long (x8 - x8 / x10 * x10)), (14, .long x14), (16, .int x16)]) dX12_isLess_132 (by decide) rfl ?_
        refine wp_lload 3 dX12_isLess_134 rfl ?_
        refine wp_lstore (ls' := [(14, .long (x12 - x12 / x14 * x14)), (12, .long x14), (10, .long (x8 - x8 / x10 * x10)), (8, .long x10), (19, .long (x12 - x12 / x14 * x14)), (17, .long (x8 - x8 / x10 * x10)), (16, .int x16)]) dX12_isLess_136 (by decide) rfl ?_
        refine wp_iload 6 dX12_isLess_138 rfl ?_
        refine wp_if_ne (tgt := 147) dX12_isLess_140 rfl (fun c => ?_) (fun c => ?_)
        · replace h := h.1 c
          refine wp_iconst (v := (0 : Int32)) dX12_isLess_147 (by decide) ?_
          refine wp_istore (ls' := [(16, .int (0 : Int32)), (14, .long (x12 - x12 / x14 * x14)), (12, .long x14), (10, .long (x8 - x8 / x10 * x10)), (8, .long x10), (19, .long (x12 - x12 / x14 * x14)), (17, .long (x8 - x8 / x10 * x10))]) dX12_isLess_148 (by decide) rfl ?_
          refine wp_goto (tgt := 17) dX12_isLess_150 rfl ?_
          refine wp_sub (ls' := [(8, .long x10), (10, .long (x8 - x8 / x10 * x10)), (12, .long x14), (14, .long (x12 - x12 / x14 * x14)), (16, .int (0 : Int32))]) [4, 3, 2, 1, 0] rfl ?_
          exact h
        · replace h := h.2 c
          refine wp_iconst (v := (1 : Int32)) dX12_isLess_143 (by decide) ?_
          refine wp_goto (tgt := 148) dX12_isLess_144 rfl ?_
          refine wp_istore (ls' := [(16, .int (1 : Int32)), (14, .long (x12 - x12 / x14 * x14)), (12, .long x14), (10, .long (x8 - x8 / x10 * x10)), (8, .long x10), (19, .long (x12 - x12 / x14 * x14)), (17, .long (x8 - x8 / x10 * x10))]) dX12_isLess_148 (by decide) rfl ?_
          refine wp_goto (tgt := 17) dX12_isLess_150 rfl ?_
          refine wp_sub (ls' := [(8, .long x10), (10, .long (x8 - x8 / x10 * x10)), (12, .long x14), (14, .long (x12 - x12 / x14 * x14)), (16, .int (1 : Int32))]) [4, 3, 2, 1, 0] rfl ?_
          exact h
      · replace h := h.2 (lgc_eq.mp c)
        refine wp_iload 6 dX12_isLess_89 rfl ?_
        refine wp_if_eq (tgt := 109) dX12_isLess_91 rfl (fun c => ?_) (fun c => ?_)
        · replace h := h.1 c
          refine wp_lload 0 dX12_isLess_109 rfl ?_
          refine wp_lconst (v := (0 : Int64)) dX12_isLess_111 (by decide) ?_
          refine wp_lcmp dX12_isLess_112 ?_
          refine wp_if_eq (tgt := 120) dX12_isLess_113 rfl (fun c => ?_) (fun c => ?_)
          · replace h := h.1 (lgc_eq.mp c)
            refine wp_iconst (v := (0 : Int32)) dX12_isLess_120 (by decide) ?_
            exact wp_ireturn (ty := .boolean) dX12_isLess_121 rfl rfl ⟨false, rfl, h⟩
          · replace h := h.2 (fun z => c (lgc_eq.mpr z))
            refine wp_iconst (v := (1 : Int32)) dX12_isLess_116 (by decide) ?_
            refine wp_goto (tgt := 121) dX12_isLess_117 rfl ?_
            exact wp_ireturn (ty := .boolean) dX12_isLess_121 rfl rfl ⟨true, rfl, h⟩
        · replace h := h.2 c
          refine wp_lload 1 dX12_isLess_94 rfl ?_
          refine wp_lconst (v := (0 : Int64)) dX12_isLess_96 (by decide) ?_
          refine wp_lcmp dX12_isLess_97 ?_
          refine wp_if_eq (tgt := 105) dX12_isLess_98 rfl (fun c => ?_) (fun c => ?_)
          · replace h := h.1 (lgc_eq.mp c)
            refine wp_iconst (v := (0 : Int32)) dX12_isLess_105 (by decide) ?_
            refine wp_goto (tgt := 121) dX12_isLess_106 rfl ?_
            exact wp_ireturn (ty := .boolean) dX12_isLess_121 rfl rfl ⟨false, rfl, h⟩
          · replace h := h.2 (fun z => c (lgc_eq.mpr z))
            refine wp_iconst (v := (1 : Int32)) dX12_isLess_101 (by decide) ?_
            refine wp_goto (tgt := 121) dX12_isLess_102 rfl ?_
            exact wp_ireturn (ty := .boolean) dX12_isLess_121 rfl rfl ⟨true, rfl, h⟩
  · replace h := h.2 (fun z => c (lgc_eq.mpr z))
    refine wp_lload 0 dX12_isLess_31 rfl ?_
    refine wp_lload 1 dX12_isLess_33 rfl ?_
    obtain ⟨hg5, h⟩ := h
    refine wp_ldiv dX12_isLess_35 hg5 ?_
    refine wp_lload 2 dX12_isLess_36 rfl ?_
    refine wp_lload 3 dX12_isLess_38 rfl ?_
    obtain ⟨hg6, h⟩ := h
    refine wp_ldiv dX12_isLess_40 hg6 ?_
    refine wp_lcmp dX12_isLess_41 ?_
    refine wp_if_ge (tgt := 49) dX12_isLess_42 rfl (fun c => ?_) (fun c => ?_)
    · replace h := h.1 (lgc_ge.mp c)
      refine wp_iconst (v := (0 : Int32)) dX12_isLess_49 (by decide) ?_
      refine wp_iload 4 dX12_isLess_50 rfl ?_
      refine wp_icmp_eq (tgt := 59) dX12_isLess_52 rfl (fun c => ?_) (fun c => ?_)
      · replace h := h.1 c
        refine wp_iconst (v := (0 : Int32)) dX12_isLess_59 (by decide) ?_
        exact wp_ireturn (ty := .boolean) dX12_isLess_60 rfl rfl ⟨false, rfl, h⟩
      · replace h := h.2 c
        refine wp_iconst (v := (1 : Int32)) dX12_isLess_55 (by decide) ?_
        refine wp_goto (tgt := 60) dX12_isLess_56 rfl ?_
        exact wp_ireturn (ty := .boolean) dX12_isLess_60 rfl rfl ⟨true, rfl, h⟩
    · replace h := h.2 (fun z => c (lgc_ge.mpr z))
      refine wp_iconst (v := (1 : Int32)) dX12_isLess_45 (by decide) ?_
      refine wp_goto (tgt := 50) dX12_isLess_46 rfl ?_
      refine wp_iload 4 dX12_isLess_50 rfl ?_
      refine wp_icmp_eq (tgt := 59) dX12_isLess_52 rfl (fun c => ?_) (fun c => ?_)
      · replace h := h.1 c
        refine wp_iconst (v := (0 : Int32)) dX12_isLess_59 (by decide) ?_
        exact wp_ireturn (ty := .boolean) dX12_isLess_60 rfl rfl ⟨false, rfl, h⟩
      · replace h := h.2 c
        refine wp_iconst (v := (1 : Int32)) dX12_isLess_55 (by decide) ?_
        refine wp_goto (tgt := 60) dX12_isLess_56 rfl ?_
        exact wp_ireturn (ty := .boolean) dX12_isLess_60 rfl rfl ⟨true, rfl, h⟩
theorem C_X12_isLess {d : Nat} {q : HP → Bool → Prop} {x0 : Int64} {x2 : Int64} {x4 : Int64} {x6 : Int64} {H : HP} (h : wb_X12_isLess_0 d q x0 x2 x4 x6 H) : CZ (d + 1) 0 0 mX12_isLess [.long x0, .long x2, .long x4, .long x6] H q := by
  refine call_of (by decide +kernel) (by simp [lg_sl, rv_cat, vc_int, vc_long, vc_float, vc_double]) ?_
  have e : lv_args 0 [.long x0, .long x2, .long x4, .long x6] = [(0, .long x0), (2, .long x2), (4, .long x4), (6, .long x6)] := by simp [lv_args, rv_cat, vc_int, vc_long, vc_float, vc_double]
  rw [e]
  exact T_X12_isLess_0 h
def wb_X12_isLesser_0 (d : Nat) (q : HP → Bool → Prop) (a0 : Nat) (x1 : Int32) (x2 : Int32) (H : HP) : Prop :=
  tg H a0 = 13 ∧ (∃ a2, (hC H 1303 a0) = some a2 ∧ (isA H a2 3 ∧ (vp_in x1 (ln H a2) ∧ (∃ a5, (hC H 1304 a0) = some a5 ∧ (isA H a5 3 ∧ (vp_in x1 (ln H a5) ∧ (vp_in x2 (ln H a2) ∧ (vp_in x2 (ln H a5) ∧ (CZ d 0 0 mX12_isLess [.long (hL H (tg H a2) a2 x1.toNatClampNeg), .long (hL H (tg H a5) a5 x1.toNatClampNeg), .long (hL H (tg H a2) a2 x2.toNatClampNeg), .long (hL H (tg H a5) a5 x2.toNatClampNeg)] H (fun H10 b11 => q H10 b11))))))))))
set_option maxRecDepth 40000 in
set_option maxHeartbeats 4000000 in
theorem T_X12_isLesser_0 {d : Nat} {q : HP → Bool → Prop} {a0 : Nat} {x1 : Int32} {x2 : Int32} {H : HP} (h : wb_X12_isLesser_0 d q a0 x1 x2 H) : WP (d + 1) mX12_isLesser 0 0 0 [(0, rv (some a0)), (1, .int x1), (2, .int x2)] [] H (qZ q) := by
  unfold wb_X12_isLesser_0 at h
  refine wp_aload_n 0 dX12_isLesser_0 rfl ?_
  obtain ⟨ht1, h⟩ := h
  refine wp_getC (ci := 12) (j := 3) dX12_isLesser_1 fi_X12_22r rfl rfl ht1 ?_
  change WP _ _ _ _ _ _ (rv (hC H 1303 a0) :: _) _ _
  refine wp_iload_n 1 dX12_isLesser_4 rfl ?_
  obtain ⟨a2, ha2, h⟩ := h
  obtain ⟨hr3, h⟩ := h
  obtain ⟨hg4, h⟩ := h
  refine wp_laload dX12_isLesser_5 ha2 hr3 hg4 ?_
  refine wp_aload_n 0 dX12_isLesser_6 rfl ?_
  refine wp_getC (ci := 12) (j := 4) dX12_isLesser_7 fi_X12_26r rfl rfl ht1 ?_
  change WP _ _ _ _ _ _ (rv (hC H 1304 a0) :: _) _ _
  refine wp_iload_n 1 dX12_isLesser_10 rfl ?_
  obtain ⟨a5, ha5, h⟩ := h
  obtain ⟨hr6, h⟩ := h
  obtain ⟨hg7, h⟩ := h
  refine wp_laload dX12_isLesser_11 ha5 hr6 hg7 ?_
  refine wp_aload_n 0 dX12_isLesser_12 rfl ?_
  refine wp_getC (ci := 12) (j := 3) dX12_isLesser_13 fi_X12_22r rfl rfl ht1 ?_
  change WP _ _ _ _ _ _ (rv (hC H 1303 a0) :: _) _ _
  refine wp_iload_n 2 dX12_isLesser_16 rfl ?_
  obtain ⟨hg8, h⟩ := h
  refine wp_laload dX12_isLesser_17 ha2 hr3 hg8 ?_
  refine wp_aload_n 0 dX12_isLesser_18 rfl ?_
  refine wp_getC (ci := 12) (j := 4) dX12_isLesser_19 fi_X12_26r rfl rfl ht1 ?_
  change WP _ _ _ _ _ _ (rv (hC H 1304 a0) :: _) _ _
  refine wp_iload_n 2 dX12_isLesser_22 rfl ?_
  obtain ⟨hg9, h⟩ := h
  refine wp_laload dX12_isLesser_23 ha5 hr6 hg9 ?_
  refine wp_callS (As := [.long (hL H (tg H a2) a2 x1.toNatClampNeg), .long (hL H (tg H a5) a5 x1.toNatClampNeg), .long (hL H (tg H a2) a2 x2.toNatClampNeg), .long (hL H (tg H a5) a5 x2.toNatClampNeg)]) (rest := []) (mc := 0) (ms := 0) dX12_isLesser_24 lk_X12_303 rfl rfl (by decide) rfl rfl rfl (Call.weaken h ?_)
  rintro H10 _ ⟨b11, rfl, h⟩
  change WP _ _ _ _ _ _ [.int (bI b11)] H10 _
  exact wp_ireturn (ty := .boolean) dX12_isLesser_27 rfl (nar_bI _).1 ⟨b11, rfl, h⟩
theorem C_X12_isLesser {d : Nat} {q : HP → Bool → Prop} {a0 : Nat} {x1 : Int32} {x2 : Int32} {H : HP} (h : wb_X12_isLesser_0 d q a0 x1 x2 H) : CZ (d + 1) 0 0 mX12_isLesser [rv (some a0), .int x1, .int x2] H q := by
  refine call_of (by decide +kernel) (by simp [lg_sl, rv_cat, vc_int, vc_long, vc_float, vc_double]) ?_
  have e : lv_args 0 [rv (some a0), .int x1, .int x2] = [(0, rv (some a0)), (1, .int x1), (2, .int x2)] := by simp [lv_args, rv_cat, vc_int, vc_long, vc_float, vc_double]
  rw [e]
  exact T_X12_isLesser_0 h
def wb_X12_isLetter_0 (d : Nat) (q : HP → Bool → Prop) (a0 : Nat) (H : HP) : Prop :=
  tg H a0 = 13 ∧ (CI d 0 0 mX12_here [rv (some a0)] H (fun H1 r3 => CZ d 0 0 mX12_isIn [.long (r3.toInt64), .long (97 : Int64), .long (122 : Int64)] H1 (fun H4 b5 => q H4 b5)))
set_option maxRecDepth 40000 in
set_option maxHeartbeats 4000000 in
theorem T_X12_isLetter_0 {d : Nat} {q : HP → Bool → Prop} {a0 : Nat} {H : HP} (h : wb_X12_isLetter_0 d q a0 H) : WP (d + 1) mX12_isLetter 0 0 0 [(0, rv (some a0))] [] H (qZ q) := by
  unfold wb_X12_isLetter_0 at h
  refine wp_aload_n 0 dX12_isLetter_0 rfl ?_
  obtain ⟨ht2, h⟩ := h
  refine wp_callV (ci := 12) (As := []) (rest := []) (mc := 0) (ms := 0) dX12_isLetter_1 lk_X12_177 rfl rfl (by decide) rfl rfl rfl ht2 rfl rfl rfl w_6_206 (Call.weaken h ?_)
  rintro H1 _ ⟨r3, rfl, h⟩
  change WP _ _ _ _ _ _ [.int r3] H1 _
  refine wp_i2l dX12_isLetter_4 ?_
  refine wp_ldc2 dX12_isLetter_5 w_6_210 ?_
  refine wp_ldc2 dX12_isLetter_8 w_6_211 ?_
  refine wp_callS (As := [.long (r3.toInt64), .long (97 : Int64), .long (122 : Int64)]) (rest := []) (mc := 0) (ms := 0) dX12_isLetter_11 lk_X12_161 rfl rfl (by decide) rfl rfl rfl (Call.weaken h ?_)
  rintro H4 _ ⟨b5, rfl, h⟩
  change WP _ _ _ _ _ _ [.int (bI b5)] H4 _
  exact wp_ireturn (ty := .boolean) dX12_isLetter_14 rfl (nar_bI _).1 ⟨b5, rfl, h⟩
theorem C_X12_isLetter {d : Nat} {q : HP → Bool → Prop} {a0 : Nat} {H : HP} (h : wb_X12_isLetter_0 d q a0 H) : CZ (d + 1) 0 0 mX12_isLetter [rv (some a0)] H q := by
  refine call_of (by decide +kernel) (by simp [lg_sl, rv_cat, vc_int, vc_long, vc_float, vc_double]) ?_
  have e : lv_args 0 [rv (some a0)] = [(0, rv (some a0))] := by simp [lv_args, rv_cat, vc_int, vc_long, vc_float, vc_double]
  rw [e]
  exact T_X12_isLetter_0 h
/-- UnitProverModel.isOf(II)Z: the loop at 5 -/
def L_X12_isOf_5 (d : Nat) (q : HP → Bool → Prop) (a0 : Nat) (x1 : Int32) (x2 : Int32) (x3 : Int32) (x4 : Int32) (H : HP) : Prop := WP (d + 1) mX12_isOf 0 0 5 [(0, rv (some a0)), (1, .int x1), (2, .int x2), (3, .int x3), (4, .int x4)] [] H (qZ q)
def wb_X12_isOf_0 (d : Nat) (q : HP → Bool → Prop) (a0 : Nat) (x1 : Int32) (x2 : Int32) (H : HP) : Prop :=
  L_X12_isOf_5 d q a0 x1 x2 (1 : Int32) (0 : Int32) H
set_option maxRecDepth 40000 in
set_option maxHeartbeats 4000000 in
theorem T_X12_isOf_0 {d : Nat} {q : HP → Bool → Prop} {a0 : Nat} {x1 : Int32} {x2 : Int32} {H : HP} (h : wb_X12_isOf_0 d q a0 x1 x2 H) : WP (d + 1) mX12_isOf 0 0 0 [(0, rv (some a0)), (1, .int x1), (2, .int x2)] [] H (qZ q) := by
  unfold wb_X12_isOf_0 at h
  refine wp_iconst (v := (1 : Int32)) dX12_isOf_0 (by decide) ?_
  refine wp_istore_n (ls' := [(3, .int (1 : Int32)), (0, rv (some a0)), (1, .int x1), (2, .int x2)]) dX12_isOf_1 (by decide) rfl ?_
  refine wp_iconst (v := (0 : Int32)) dX12_isOf_2 (by decide) ?_
  refine wp_istore (ls' := [(4, .int (0 : Int32)), (3, .int (1 : Int32)), (0, rv (some a0)), (1, .int x1), (2, .int x2)]) dX12_isOf_3 (by decide) rfl ?_
  refine wp_sub (ls' := [(0, rv (some a0)), (1, .int x1), (2, .int x2), (3, .int (1 : Int32)), (4, .int (0 : Int32))]) [2, 3, 4, 1, 0] rfl ?_
  exact h
def wb_X12_isOf_5 (d : Nat) (q : HP → Bool → Prop) (a0 : Nat) (x1 : Int32) (x2 : Int32) (x3 : Int32) (x4 : Int32) (H : HP) : Prop :=
  ((5 : Int32) ≤ x4 → ∃ b1, x3 = bI b1 ∧ q H b1) ∧ (¬ ((5 : Int32) ≤ x4) → tg H a0 = 13 ∧ (∃ a3, (hC H 1302 a0) = some a3 ∧ (isA H a3 0 ∧ (vp_in (((5 : Int32) * x1) + x4) (ln H a3) ∧ (∃ a6, (hC H 1346 a0) = some a6 ∧ (isA H a6 0 ∧ (vp_in (((5 : Int32) * x2) + x4) (ln H a6) ∧ ((¬ (hI H (tg H a3) a3 (((5 : Int32) * x1) + x4).toNatClampNeg) = (hI H (tg H a6) a6 (((5 : Int32) * x2) + x4).toNatClampNeg) → L_X12_isOf_5 d q a0 x1 x2 (x3 &&& (0 : Int32)) (x4 + 1) H) ∧ ((hI H (tg H a3) a3 (((5 : Int32) * x1) + x4).toNatClampNeg) = (hI H (tg H a6) a6 (((5 : Int32) * x2) + x4).toNatClampNeg) → L_X12_isOf_5 d q a0 x1 x2 (x3 &&& (1 : Int32)) (x4 + 1) H)))))))))
set_option maxRecDepth 40000 in
set_option maxHeartbeats 4000000 in
theorem T_X12_isOf_5 {d : Nat} {q : HP → Bool → Prop} {a0 : Nat} {x1 : Int32} {x2 : Int32} {x3 : Int32} {x4 : Int32} {H : HP} (h : wb_X12_isOf_5 d q a0 x1 x2 x3 x4 H) : L_X12_isOf_5 d q a0 x1 x2 x3 x4 H := by
  unfold wb_X12_isOf_5 at h
  unfold L_X12_isOf_5
  refine wp_iload 4 dX12_isOf_5 rfl ?_
  refine wp_iconst (v := (5 : Int32)) dX12_isOf_7 (by decide) ?_
  refine wp_icmp_ge (tgt := 50) dX12_isOf_8 rfl (fun c => ?_) (fun c => ?_)
  · replace h := h.1 c
    refine wp_iload_n 3 dX12_isOf_50 rfl ?_
    obtain ⟨b1, hb, h⟩ := h
    exact wp_ireturn (ty := .boolean) dX12_isOf_51 rfl (by rw [hb]; exact (nar_bI _).1) ⟨b1, by rw [hb], h⟩
  · replace h := h.2 c
    refine wp_iload_n 3 dX12_isOf_11 rfl ?_
    refine wp_aload_n 0 dX12_isOf_12 rfl ?_
    obtain ⟨ht2, h⟩ := h
    refine wp_getC (ci := 12) (j := 2) dX12_isOf_13 fi_X12_19r rfl rfl ht2 ?_
    change WP _ _ _ _ _ _ (rv (hC H 1302 a0) :: _) _ _
    refine wp_iconst (v := (5 : Int32)) dX12_isOf_16 (by decide) ?_
    refine wp_iload_n 1 dX12_isOf_17 rfl ?_
    refine wp_imul dX12_isOf_18 ?_
    refine wp_iload 4 dX12_isOf_19 rfl ?_
    refine wp_iadd dX12_isOf_21 ?_
    obtain ⟨a3, ha3, h⟩ := h
    obtain ⟨hr4, h⟩ := h
    obtain ⟨hg5, h⟩ := h
    refine wp_iaload dX12_isOf_22 ha3 hr4 hg5 ?_
    refine wp_aload_n 0 dX12_isOf_23 rfl ?_
    refine wp_getC (ci := 12) (j := 46) dX12_isOf_24 fi_X12_80r rfl rfl ht2 ?_
    change WP _ _ _ _ _ _ (rv (hC H 1346 a0) :: _) _ _
    refine wp_iconst (v := (5 : Int32)) dX12_isOf_27 (by decide) ?_
    refine wp_iload_n 2 dX12_isOf_28 rfl ?_
    refine wp_imul dX12_isOf_29 ?_
    refine wp_iload 4 dX12_isOf_30 rfl ?_
    refine wp_iadd dX12_isOf_32 ?_
    obtain ⟨a6, ha6, h⟩ := h
    obtain ⟨hr7, h⟩ := h
    obtain ⟨hg8, h⟩ := h
    refine wp_iaload dX12_isOf_33 ha6 hr7 hg8 ?_
    refine wp_icmp_ne (tgt := 41) dX12_isOf_34 rfl (fun c => ?_) (fun c => ?_)
    · replace h := h.1 c
      refine wp_iconst (v := (0 : Int32)) dX12_isOf_41 (by decide) ?_
      refine wp_iand dX12_isOf_42 ?_
      refine wp_istore_n (ls' := [(3, .int (x3 &&& (0 : Int32))), (0, rv (some a0)), (1, .int x1), (2, .int x2), (4, .int x4)]) dX12_isOf_43 (by decide) rfl ?_
      refine wp_iinc (v := (x4 + 1)) (ls' := [(4, .int (x4 + 1)), (3, .int (x3 &&& (0 : Int32))), (0, rv (some a0)), (1, .int x1), (2, .int x2)]) 4 dX12_isOf_44 rfl rfl (by decide) rfl ?_
      refine wp_goto (tgt := 5) dX12_isOf_47 rfl ?_
      refine wp_sub (ls' := [(0, rv (some a0)), (1, .int x1), (2, .int x2), (3, .int (x3 &&& (0 : Int32))), (4, .int (x4 + 1))]) [2, 3, 4, 1, 0] rfl ?_
      exact h
    · replace h := h.2 c
      refine wp_iconst (v := (1 : Int32)) dX12_isOf_37 (by decide) ?_
      refine wp_goto (tgt := 42) dX12_isOf_38 rfl ?_
      refine wp_iand dX12_isOf_42 ?_
      refine wp_istore_n (ls' := [(3, .int (x3 &&& (1 : Int32))), (0, rv (some a0)), (1, .int x1), (2, .int x2), (4, .int x4)]) dX12_isOf_43 (by decide) rfl ?_
      refine wp_iinc (v := (x4 + 1)) (ls' := [(4, .int (x4 + 1)), (3, .int (x3 &&& (1 : Int32))), (0, rv (some a0)), (1, .int x1), (2, .int x2)]) 4 dX12_isOf_44 rfl rfl (by decide) rfl ?_
      refine wp_goto (tgt := 5) dX12_isOf_47 rfl ?_
      refine wp_sub (ls' := [(0, rv (some a0)), (1, .int x1), (2, .int x2), (3, .int (x3 &&& (1 : Int32))), (4, .int (x4 + 1))]) [2, 3, 4, 1, 0] rfl ?_
      exact h
theorem C_X12_isOf {d : Nat} {q : HP → Bool → Prop} {a0 : Nat} {x1 : Int32} {x2 : Int32} {H : HP} (h : wb_X12_isOf_0 d q a0 x1 x2 H) : CZ (d + 1) 0 0 mX12_isOf [rv (some a0), .int x1, .int x2] H q := by
  refine call_of (by decide +kernel) (by simp [lg_sl, rv_cat, vc_int, vc_long, vc_float, vc_double]) ?_
  have e : lv_args 0 [rv (some a0), .int x1, .int x2] = [(0, rv (some a0)), (1, .int x1), (2, .int x2)] := by simp [lv_args, rv_cat, vc_int, vc_long, vc_float, vc_double]
  rw [e]
  exact T_X12_isOf_0 h
def wb_X12_isOwn_0 (d : Nat) (q : HP → Bool → Prop) (a0 : Nat) (H : HP) : Prop :=
  tg H a0 = 13 ∧ (((hI H 1323 a0 0) ≤ ((hI H 1324 a0 0) + (1 : Int32)) → CI d 0 0 mX12_here [rv (some a0)] H (fun H2 r3 => CZ d 0 0 mX12_isIn [.long (r3.toInt64), .long (49 : Int64), .long (52 : Int64)] H2 (fun H4 b5 => (b5 = false → q H4 false) ∧ (b5 = true → ((0 : Int32) = (46 : Int32) → q H4 false) ∧ (¬ ((0 : Int32) = (46 : Int32)) → CZ d 0 0 mX12_isIn [.long ((0 : Int32).toInt64), .long (48 : Int64), .long (57 : Int64)] H4 (fun H6 b7 => (b7 = true → q H6 false) ∧ (b7 = false → CZ d 0 0 mX12_isIn [.long ((0 : Int32).toInt64), .long (97 : Int64), .long (122 : Int64)] H6 (fun H8 b9 => (b9 = true → q H8 false) ∧ (b9 = false → q H8 true))))))))) ∧ (¬ ((hI H 1323 a0 0) ≤ ((hI H 1324 a0 0) + (1 : Int32))) → ∃ a10, (hC H 1322 a0) = some a10 ∧ (isA H a10 0 ∧ (vp_in ((hI H 1324 a0 0) + (1 : Int32)) (ln H a10) ∧ (CI d 0 0 mX12_here [rv (some a0)] H (fun H13 r14 => CZ d 0 0 mX12_isIn [.long (r14.toInt64), .long (49 : Int64), .long (52 : Int64)] H13 (fun H15 b16 => (b16 = false → q H15 false) ∧ (b16 = true → ((hI H (tg H a10) a10 ((hI H 1324 a0 0) + (1 : Int32)).toNatClampNeg) = (46 : Int32) → q H15 false) ∧ (¬ ((hI H (tg H a10) a10 ((hI H 1324 a0 0) + (1 : Int32)).toNatClampNeg) = (46 : Int32)) → CZ d 0 0 mX12_isIn [.long ((hI H (tg H a10) a10 ((hI H 1324 a0 0) + (1 : Int32)).toNatClampNeg).toInt64), .long (48 : Int64), .long (57 : Int64)] H15 (fun H17 b18 => (b18 = true → q H17 false) ∧ (b18 = false → CZ d 0 0 mX12_isIn [.long ((hI H (tg H a10) a10 ((hI H 1324 a0 0) + (1 : Int32)).toNatClampNeg).toInt64), .long (97 : Int64), .long (122 : Int64)] H17 (fun H19 b20 => (b20 = true → q H19 false) ∧ (b20 = false → q H19 true)))))))))))))
set_option maxRecDepth 40000 in
set_option maxHeartbeats 4000000 in
theorem T_X12_isOwn_0 {d : Nat} {q : HP → Bool → Prop} {a0 : Nat} {H : HP} (h : wb_X12_isOwn_0 d q a0 H) : WP (d + 1) mX12_isOwn 0 0 0 [(0, rv (some a0))] [] H (qZ q) := by
  unfold wb_X12_isOwn_0 at h
  refine wp_aload_n 0 dX12_isOwn_0 rfl ?_
  obtain ⟨ht1, h⟩ := h
  refine wp_getI (ci := 12) (j := 24) dX12_isOwn_1 fi_X12_174r rfl rfl ht1 ?_
  change WP _ _ _ _ _ _ (.int (hI H 1324 a0 0) :: _) _ _
  refine wp_iconst (v := (1 : Int32)) dX12_isOwn_4 (by decide) ?_
  refine wp_iadd dX12_isOwn_5 ?_
  refine wp_aload_n 0 dX12_isOwn_6 rfl ?_
  refine wp_getI (ci := 12) (j := 23) dX12_isOwn_7 fi_X12_171r rfl rfl ht1 ?_
  change WP _ _ _ _ _ _ (.int (hI H 1323 a0 0) :: _) _ _
  refine wp_icmp_ge (tgt := 27) dX12_isOwn_10 rfl (fun c => ?_) (fun c => ?_)
  · replace h := h.1 c
    refine wp_iconst (v := (0 : Int32)) dX12_isOwn_27 (by decide) ?_
    refine wp_istore_n (ls' := [(1, .int (0 : Int32)), (0, rv (some a0))]) dX12_isOwn_28 (by decide) rfl ?_
    refine wp_aload_n 1 dX12_isOwn_29 rfl ?_
    refine wp_callV (ci := 12) (As := []) (rest := []) (mc := 0) (ms := 0) dX12_isOwn_30 lk_X12_177 rfl rfl (by decide) rfl rfl rfl ht1 rfl rfl rfl w_6_206 (Call.weaken h ?_)
    rintro H2 _ ⟨r3, rfl, h⟩
    change WP _ _ _ _ _ _ [.int r3] H2 _
    refine wp_i2l dX12_isOwn_33 ?_
    refine wp_ldc2 dX12_isOwn_34 w_7_2 ?_
    refine wp_ldc2 dX12_isOwn_37 w_7_3 ?_
    refine wp_callS (As := [.long (r3.toInt64), .long (49 : Int64), .long (52 : Int64)]) (rest := []) (mc := 0) (ms := 0) dX12_isOwn_40 lk_X12_161 rfl rfl (by decide) rfl rfl rfl (Call.weaken h ?_)
    rintro H4 _ ⟨b5, rfl, h⟩
    change WP _ _ _ _ _ _ [.int (bI b5)] H4 _
    refine wp_if_eq (tgt := 84) dX12_isOwn_43 rfl (fun c => ?_) (fun c => ?_)
    · replace h := h.1 (bI_0.mp c)
      refine wp_iconst (v := (0 : Int32)) dX12_isOwn_84 (by decide) ?_
      exact wp_ireturn (ty := .boolean) dX12_isOwn_85 rfl rfl ⟨false, rfl, h⟩
    · replace h := h.2 (bI_1.mp c)
      refine wp_iload_n 0 dX12_isOwn_46 rfl ?_
      refine wp_bipush (v := (46 : Int32)) dX12_isOwn_47 (by decide) ?_
      refine wp_icmp_eq (tgt := 84) dX12_isOwn_49 rfl (fun c => ?_) (fun c => ?_)
      · replace h := h.1 c
        refine wp_iconst (v := (0 : Int32)) dX12_isOwn_84 (by decide) ?_
        exact wp_ireturn (ty := .boolean) dX12_isOwn_85 rfl rfl ⟨false, rfl, h⟩
      · replace h := h.2 c
        refine wp_iload_n 0 dX12_isOwn_52 rfl ?_
        refine wp_i2l dX12_isOwn_53 ?_
        refine wp_ldc2 dX12_isOwn_54 w_6_228 ?_
        refine wp_ldc2 dX12_isOwn_57 w_6_229 ?_
        refine wp_callS (As := [.long ((0 : Int32).toInt64), .long (48 : Int64), .long (57 : Int64)]) (rest := []) (mc := 0) (ms := 0) dX12_isOwn_60 lk_X12_161 rfl rfl (by decide) rfl rfl rfl (Call.weaken h ?_)
        rintro H6 _ ⟨b7, rfl, h⟩
        change WP _ _ _ _ _ _ [.int (bI b7)] H6 _
        refine wp_if_ne (tgt := 84) dX12_isOwn_63 rfl (fun c => ?_) (fun c => ?_)
        · replace h := h.1 (bI_1.mp c)
          refine wp_iconst (v := (0 : Int32)) dX12_isOwn_84 (by decide) ?_
          exact wp_ireturn (ty := .boolean) dX12_isOwn_85 rfl rfl ⟨false, rfl, h⟩
        · replace h := h.2 (bI_0.mp c)
          refine wp_iload_n 0 dX12_isOwn_66 rfl ?_
          refine wp_i2l dX12_isOwn_67 ?_
          refine wp_ldc2 dX12_isOwn_68 w_6_210 ?_
          refine wp_ldc2 dX12_isOwn_71 w_6_211 ?_
          refine wp_callS (As := [.long ((0 : Int32).toInt64), .long (97 : Int64), .long (122 : Int64)]) (rest := []) (mc := 0) (ms := 0) dX12_isOwn_74 lk_X12_161 rfl rfl (by decide) rfl rfl rfl (Call.weaken h ?_)
          rintro H8 _ ⟨b9, rfl, h⟩
          change WP _ _ _ _ _ _ [.int (bI b9)] H8 _
          refine wp_if_ne (tgt := 84) dX12_isOwn_77 rfl (fun c => ?_) (fun c => ?_)
          · replace h := h.1 (bI_1.mp c)
            refine wp_iconst (v := (0 : Int32)) dX12_isOwn_84 (by decide) ?_
            exact wp_ireturn (ty := .boolean) dX12_isOwn_85 rfl rfl ⟨false, rfl, h⟩
          · replace h := h.2 (bI_0.mp c)
            refine wp_iconst (v := (1 : Int32)) dX12_isOwn_80 (by decide) ?_
            refine wp_goto (tgt := 85) dX12_isOwn_81 rfl ?_
            exact wp_ireturn (ty := .boolean) dX12_isOwn_85 rfl rfl ⟨true, rfl, h⟩
  · replace h := h.2 c
    refine wp_aload_n 0 dX12_isOwn_13 rfl ?_
    refine wp_getC (ci := 12) (j := 22) dX12_isOwn_14 fi_X12_59r rfl rfl ht1 ?_
    change WP _ _ _ _ _ _ (rv (hC H 1322 a0) :: _) _ _
    refine wp_aload_n 0 dX12_isOwn_17 rfl ?_
    refine wp_getI (ci := 12) (j := 24) dX12_isOwn_18 fi_X12_174r rfl rfl ht1 ?_
    change WP _ _ _ _ _ _ (.int (hI H 1324 a0 0) :: _) _ _
    refine wp_iconst (v := (1 : Int32)) dX12_isOwn_21 (by decide) ?_
    refine wp_iadd dX12_isOwn_22 ?_
    obtain ⟨a10, ha10, h⟩ := h
    obtain ⟨hr11, h⟩ := h
    obtain ⟨hg12, h⟩ := h
    refine wp_iaload dX12_isOwn_23 ha10 hr11 hg12 ?_
    refine wp_goto (tgt := 28) dX12_isOwn_24 rfl ?_
    refine wp_istore_n (ls' := [(1, .int (hI H (tg H a10) a10 ((hI H 1324 a0 0) + (1 : Int32)).toNatClampNeg)), (0, rv (some a0))]) dX12_isOwn_28 (by decide) rfl ?_
    refine wp_aload_n 1 dX12_isOwn_29 rfl ?_
    refine wp_callV (ci := 12) (As := []) (rest := []) (mc := 0) (ms := 0) dX12_isOwn_30 lk_X12_177 rfl rfl (by decide) rfl rfl rfl ht1 rfl rfl rfl w_6_206 (Call.weaken h ?_)
    rintro H13 _ ⟨r14, rfl, h⟩
    change WP _ _ _ _ _ _ [.int r14] H13 _
    refine wp_i2l dX12_isOwn_33 ?_
    refine wp_ldc2 dX12_isOwn_34 w_7_2 ?_
    refine wp_ldc2 dX12_isOwn_37 w_7_3 ?_
    refine wp_callS (As := [.long (r14.toInt64), .long (49 : Int64), .long (52 : Int64)]) (rest := []) (mc := 0) (ms := 0) dX12_isOwn_40 lk_X12_161 rfl rfl (by decide) rfl rfl rfl (Call.weaken h ?_)
    rintro H15 _ ⟨b16, rfl, h⟩
    change WP _ _ _ _ _ _ [.int (bI b16)] H15 _
    refine wp_if_eq (tgt := 84) dX12_isOwn_43 rfl (fun c => ?_) (fun c => ?_)
    · replace h := h.1 (bI_0.mp c)
      refine wp_iconst (v := (0 : Int32)) dX12_isOwn_84 (by decide) ?_
      exact wp_ireturn (ty := .boolean) dX12_isOwn_85 rfl rfl ⟨false, rfl, h⟩
    · replace h := h.2 (bI_1.mp c)
      refine wp_iload_n 0 dX12_isOwn_46 rfl ?_
      refine wp_bipush (v := (46 : Int32)) dX12_isOwn_47 (by decide) ?_
      refine wp_icmp_eq (tgt := 84) dX12_isOwn_49 rfl (fun c => ?_) (fun c => ?_)
      · replace h := h.1 c
        refine wp_iconst (v := (0 : Int32)) dX12_isOwn_84 (by decide) ?_
        exact wp_ireturn (ty := .boolean) dX12_isOwn_85 rfl rfl ⟨false, rfl, h⟩
      · replace h := h.2 c
        refine wp_iload_n 0 dX12_isOwn_52 rfl ?_
        refine wp_i2l dX12_isOwn_53 ?_
        refine wp_ldc2 dX12_isOwn_54 w_6_228 ?_
        refine wp_ldc2 dX12_isOwn_57 w_6_229 ?_
        refine wp_callS (As := [.long ((hI H (tg H a10) a10 ((hI H 1324 a0 0) + (1 : Int32)).toNatClampNeg).toInt64), .long (48 : Int64), .long (57 : Int64)]) (rest := []) (mc := 0) (ms := 0) dX12_isOwn_60 lk_X12_161 rfl rfl (by decide) rfl rfl rfl (Call.weaken h ?_)
        rintro H17 _ ⟨b18, rfl, h⟩
        change WP _ _ _ _ _ _ [.int (bI b18)] H17 _
        refine wp_if_ne (tgt := 84) dX12_isOwn_63 rfl (fun c => ?_) (fun c => ?_)
        · replace h := h.1 (bI_1.mp c)
          refine wp_iconst (v := (0 : Int32)) dX12_isOwn_84 (by decide) ?_
          exact wp_ireturn (ty := .boolean) dX12_isOwn_85 rfl rfl ⟨false, rfl, h⟩
        · replace h := h.2 (bI_0.mp c)
          refine wp_iload_n 0 dX12_isOwn_66 rfl ?_
          refine wp_i2l dX12_isOwn_67 ?_
          refine wp_ldc2 dX12_isOwn_68 w_6_210 ?_
          refine wp_ldc2 dX12_isOwn_71 w_6_211 ?_
          refine wp_callS (As := [.long ((hI H (tg H a10) a10 ((hI H 1324 a0 0) + (1 : Int32)).toNatClampNeg).toInt64), .long (97 : Int64), .long (122 : Int64)]) (rest := []) (mc := 0) (ms := 0) dX12_isOwn_74 lk_X12_161 rfl rfl (by decide) rfl rfl rfl (Call.weaken h ?_)
          rintro H19 _ ⟨b20, rfl, h⟩
          change WP _ _ _ _ _ _ [.int (bI b20)] H19 _
          refine wp_if_ne (tgt := 84) dX12_isOwn_77 rfl (fun c => ?_) (fun c => ?_)
          · replace h := h.1 (bI_1.mp c)
            refine wp_iconst (v := (0 : Int32)) dX12_isOwn_84 (by decide) ?_
            exact wp_ireturn (ty := .boolean) dX12_isOwn_85 rfl rfl ⟨false, rfl, h⟩
          · replace h := h.2 (bI_0.mp c)
            refine wp_iconst (v := (1 : Int32)) dX12_isOwn_80 (by decide) ?_
            refine wp_goto (tgt := 85) dX12_isOwn_81 rfl ?_
            exact wp_ireturn (ty := .boolean) dX12_isOwn_85 rfl rfl ⟨true, rfl, h⟩
theorem C_X12_isOwn {d : Nat} {q : HP → Bool → Prop} {a0 : Nat} {H : HP} (h : wb_X12_isOwn_0 d q a0 H) : CZ (d + 1) 0 0 mX12_isOwn [rv (some a0)] H q := by
  refine call_of (by decide +kernel) (by simp [lg_sl, rv_cat, vc_int, vc_long, vc_float, vc_double]) ?_
  have e : lv_args 0 [rv (some a0)] = [(0, rv (some a0))] := by simp [lv_args, rv_cat, vc_int, vc_long, vc_float, vc_double]
  rw [e]
  exact T_X12_isOwn_0 h
def wb_X12_isPart_0 (d : Nat) (q : HP → Bool → Prop) (x0 : Int32) (H : HP) : Prop :=
  CZ d 0 0 mX12_isIn [.long (x0.toInt64), .long (0 : Int64), .long (1 : Int64)] H (fun H1 b2 => q H1 b2)
set_option maxRecDepth 40000 in
set_option maxHeartbeats 4000000 in
theorem T_X12_isPart_0 {d : Nat} {q : HP → Bool → Prop} {x0 : Int32} {H : HP} (h : wb_X12_isPart_0 d q x0 H) : WP (d + 1) mX12_isPart 0 0 0 [(0, .int x0)] [] H (qZ q) := by
  unfold wb_X12_isPart_0 at h
  refine wp_iload_n 0 dX12_isPart_0 rfl ?_
  refine wp_i2l dX12_isPart_1 ?_
  refine wp_lconst (v := (0 : Int64)) dX12_isPart_2 (by decide) ?_
  refine wp_lconst (v := (1 : Int64)) dX12_isPart_3 (by decide) ?_
  refine wp_callS (As := [.long (x0.toInt64), .long (0 : Int64), .long (1 : Int64)]) (rest := []) (mc := 0) (ms := 0) dX12_isPart_4 lk_X12_161 rfl rfl (by decide) rfl rfl rfl (Call.weaken h ?_)
  rintro H1 _ ⟨b2, rfl, h⟩
  change WP _ _ _ _ _ _ [.int (bI b2)] H1 _
  exact wp_ireturn (ty := .boolean) dX12_isPart_7 rfl (nar_bI _).1 ⟨b2, rfl, h⟩
theorem C_X12_isPart {d : Nat} {q : HP → Bool → Prop} {x0 : Int32} {H : HP} (h : wb_X12_isPart_0 d q x0 H) : CZ (d + 1) 0 0 mX12_isPart [.int x0] H q := by
  refine call_of (by decide +kernel) (by simp [lg_sl, rv_cat, vc_int, vc_long, vc_float, vc_double]) ?_
  have e : lv_args 0 [.int x0] = [(0, .int x0)] := by simp [lv_args, rv_cat, vc_int, vc_long, vc_float, vc_double]
  rw [e]
  exact T_X12_isPart_0 h
def wb_X12_isPlace_0 (d : Nat) (q : HP → Bool → Prop) (x0 : Int32) (H : HP) : Prop :=
  CZ d 0 0 mX12_isIn [.long (x0.toInt64), .long (0 : Int64), .long (5 : Int64)] H (fun H1 b2 => q H1 b2)
set_option maxRecDepth 40000 in
set_option maxHeartbeats 4000000 in
theorem T_X12_isPlace_0 {d : Nat} {q : HP → Bool → Prop} {x0 : Int32} {H : HP} (h : wb_X12_isPlace_0 d q x0 H) : WP (d + 1) mX12_isPlace 0 0 0 [(0, .int x0)] [] H (qZ q) := by
  unfold wb_X12_isPlace_0 at h
  refine wp_iload_n 0 dX12_isPlace_0 rfl ?_
  refine wp_i2l dX12_isPlace_1 ?_
  refine wp_lconst (v := (0 : Int64)) dX12_isPlace_2 (by decide) ?_
  refine wp_ldc2 dX12_isPlace_3 w_8_46 ?_
  refine wp_callS (As := [.long (x0.toInt64), .long (0 : Int64), .long (5 : Int64)]) (rest := []) (mc := 0) (ms := 0) dX12_isPlace_6 lk_X12_161 rfl rfl (by decide) rfl rfl rfl (Call.weaken h ?_)
  rintro H1 _ ⟨b2, rfl, h⟩
  change WP _ _ _ _ _ _ [.int (bI b2)] H1 _
  exact wp_ireturn (ty := .boolean) dX12_isPlace_9 rfl (nar_bI _).1 ⟨b2, rfl, h⟩
theorem C_X12_isPlace {d : Nat} {q : HP → Bool → Prop} {x0 : Int32} {H : HP} (h : wb_X12_isPlace_0 d q x0 H) : CZ (d + 1) 0 0 mX12_isPlace [.int x0] H q := by
  refine call_of (by decide +kernel) (by simp [lg_sl, rv_cat, vc_int, vc_long, vc_float, vc_double]) ?_
  have e : lv_args 0 [.int x0] = [(0, .int x0)] := by simp [lv_args, rv_cat, vc_int, vc_long, vc_float, vc_double]
  rw [e]
  exact T_X12_isPlace_0 h
def wb_X12_isRack_0 (d : Nat) (q : HP → Bool → Prop) (x0 : Int32) (H : HP) : Prop :=
  CZ d 0 0 mX12_isIn [.long (x0.toInt64), .long (0 : Int64), .long (2 : Int64)] H (fun H1 b2 => q H1 b2)
set_option maxRecDepth 40000 in
set_option maxHeartbeats 4000000 in
theorem T_X12_isRack_0 {d : Nat} {q : HP → Bool → Prop} {x0 : Int32} {H : HP} (h : wb_X12_isRack_0 d q x0 H) : WP (d + 1) mX12_isRack 0 0 0 [(0, .int x0)] [] H (qZ q) := by
  unfold wb_X12_isRack_0 at h
  refine wp_iload_n 0 dX12_isRack_0 rfl ?_
  refine wp_i2l dX12_isRack_1 ?_
  refine wp_lconst (v := (0 : Int64)) dX12_isRack_2 (by decide) ?_
  refine wp_ldc2 dX12_isRack_3 w_8_143 ?_
  refine wp_callS (As := [.long (x0.toInt64), .long (0 : Int64), .long (2 : Int64)]) (rest := []) (mc := 0) (ms := 0) dX12_isRack_6 lk_X12_161 rfl rfl (by decide) rfl rfl rfl (Call.weaken h ?_)
  rintro H1 _ ⟨b2, rfl, h⟩
  change WP _ _ _ _ _ _ [.int (bI b2)] H1 _
  exact wp_ireturn (ty := .boolean) dX12_isRack_9 rfl (nar_bI _).1 ⟨b2, rfl, h⟩
theorem C_X12_isRack {d : Nat} {q : HP → Bool → Prop} {x0 : Int32} {H : HP} (h : wb_X12_isRack_0 d q x0 H) : CZ (d + 1) 0 0 mX12_isRack [.int x0] H q := by
  refine call_of (by decide +kernel) (by simp [lg_sl, rv_cat, vc_int, vc_long, vc_float, vc_double]) ?_
  have e : lv_args 0 [.int x0] = [(0, .int x0)] := by simp [lv_args, rv_cat, vc_int, vc_long, vc_float, vc_double]
  rw [e]
  exact T_X12_isRack_0 h
def wb_X12_isStep_0 (d : Nat) (q : HP → Bool → Prop) (a0 : Nat) (x1 : Int32) (H : HP) : Prop :=
  tg H a0 = 13 ∧ (CZ d 0 0 mX12_isIn [.long (x1.toInt64), .long (0 : Int64), .long (((hI H 1341 a0 0) - (1 : Int32)).toInt64)] H (fun H2 b3 => q H2 b3))
set_option maxRecDepth 40000 in
set_option maxHeartbeats 4000000 in
theorem T_X12_isStep_0 {d : Nat} {q : HP → Bool → Prop} {a0 : Nat} {x1 : Int32} {H : HP} (h : wb_X12_isStep_0 d q a0 x1 H) : WP (d + 1) mX12_isStep 0 0 0 [(0, rv (some a0)), (1, .int x1)] [] H (qZ q) := by
  unfold wb_X12_isStep_0 at h
  refine wp_iload_n 1 dX12_isStep_0 rfl ?_
  refine wp_i2l dX12_isStep_1 ?_
  refine wp_lconst (v := (0 : Int64)) dX12_isStep_2 (by decide) ?_
  refine wp_aload_n 0 dX12_isStep_3 rfl ?_
  obtain ⟨ht1, h⟩ := h
  refine wp_getI (ci := 12) (j := 41) dX12_isStep_4 fi_X12_320r rfl rfl ht1 ?_
  change WP _ _ _ _ _ _ (.int (hI H 1341 a0 0) :: _) _ _
  refine wp_iconst (v := (1 : Int32)) dX12_isStep_7 (by decide) ?_
  refine wp_isub dX12_isStep_8 ?_
  refine wp_i2l dX12_isStep_9 ?_
  refine wp_callS (As := [.long (x1.toInt64), .long (0 : Int64), .long (((hI H 1341 a0 0) - (1 : Int32)).toInt64)]) (rest := []) (mc := 0) (ms := 0) dX12_isStep_10 lk_X12_161 rfl rfl (by decide) rfl rfl rfl (Call.weaken h ?_)
  rintro H2 _ ⟨b3, rfl, h⟩
  change WP _ _ _ _ _ _ [.int (bI b3)] H2 _
  exact wp_ireturn (ty := .boolean) dX12_isStep_13 rfl (nar_bI _).1 ⟨b3, rfl, h⟩
theorem C_X12_isStep {d : Nat} {q : HP → Bool → Prop} {a0 : Nat} {x1 : Int32} {H : HP} (h : wb_X12_isStep_0 d q a0 x1 H) : CZ (d + 1) 0 0 mX12_isStep [rv (some a0), .int x1] H q := by
  refine call_of (by decide +kernel) (by simp [lg_sl, rv_cat, vc_int, vc_long, vc_float, vc_double]) ?_
  have e : lv_args 0 [rv (some a0), .int x1] = [(0, rv (some a0)), (1, .int x1)] := by simp [lv_args, rv_cat, vc_int, vc_long, vc_float, vc_double]
  rw [e]
  exact T_X12_isStep_0 h
