def wb_X11_added_0 (d : Nat) (q : HP → Int64 → Prop) (a0 : Nat) (x1 : Int32) (H : HP) : Prop :=
  tg H a0 = 12 ∧ (CR d 0 0 mX11_trackAt [rv (some a0), .int x1] H (fun H1 r3 => (r3 = none → q H1 (-9223372036854775808 : Int64)) ∧ (∀ a4, r3 = some a4 → tg H1 a4 = 9 ∧ (CZ d 0 0 mX8_isNothing [rv r3] H1 (fun H5 b7 => (b7 = false → tg H5 a0 = 12 ∧ (tg H5 a4 = 9 ∧ (CJ d 0 0 mX8_sumBits [rv r3, rv (hC H5 1212 a0)] H5 (fun H9 r11 => q H9 r11)))) ∧ (b7 = true → q H5 (-9223372036854775808 : Int64)))))))
set_option maxRecDepth 40000 in
set_option maxHeartbeats 4000000 in
theorem T_X11_added_0 {d : Nat} {q : HP → Int64 → Prop} {a0 : Nat} {x1 : Int32} {H : HP} (h : wb_X11_added_0 d q a0 x1 H) : WP (d + 1) mX11_added 0 0 0 [(0, rv (some a0)), (1, .int x1)] [] H (qJ q) := by
  unfold wb_X11_added_0 at h
  refine wp_aload_n 0 dX11_added_0 rfl ?_
  refine wp_iload_n 1 dX11_added_1 rfl ?_
  obtain ⟨ht2, h⟩ := h
  refine wp_callV (ci := 11) (As := [.int x1]) (rest := []) (mc := 0) (ms := 0) dX11_added_2 lk_X11_315 rfl rfl (by decide) rfl rfl rfl ht2 rfl rfl rfl w_5_50 (Call.weaken h ?_)
  rintro H1 _ ⟨r3, rfl, h⟩
  change WP _ _ _ _ _ _ [rv r3] H1 _
  refine wp_astore_n (ls' := [(2, rv r3), (0, rv (some a0)), (1, .int x1)]) dX11_added_5 (by decide) rfl ?_
  refine wp_aload_n 0 dX11_added_6 rfl ?_
  refine wp_ifnull (tgt := 17) dX11_added_7 rfl (fun c => ?_) (fun a4 ha4 => ?_)
  · replace h := h.1 c
    refine wp_ldc2 dX11_added_17 w_3_210 ?_
    exact wp_lreturn dX11_added_20 rfl ⟨_, rfl, h⟩
  · replace h := h.2 a4 ha4
    refine wp_aload_n 0 dX11_added_10 rfl ?_
    obtain ⟨ht6, h⟩ := h
    refine wp_callV (ci := 8) (As := []) (rest := []) (mc := 0) (ms := 0) dX11_added_11 lk_X11_352 rfl rfl (by decide) ha4 rfl rfl ht6 rfl rfl rfl w_5_70 (Call.weaken h ?_)
    rintro H5 _ ⟨b7, rfl, h⟩
    change WP _ _ _ _ _ _ [.int (bI b7)] H5 _
    refine wp_if_eq (tgt := 21) dX11_added_14 rfl (fun c => ?_) (fun c => ?_)
    · replace h := h.1 (bI_0.mp c)
      refine wp_aload_n 0 dX11_added_21 rfl ?_
      refine wp_aload_n 1 dX11_added_22 rfl ?_
      obtain ⟨ht8, h⟩ := h
      refine wp_getC (ci := 11) (j := 12) dX11_added_23 fi_X11_70r rfl rfl ht8 ?_
      change WP _ _ _ _ _ _ (rv (hC H5 1212 a0) :: _) _ _
      obtain ⟨ht10, h⟩ := h
      refine wp_callV (ci := 8) (As := [rv (hC H5 1212 a0)]) (rest := []) (mc := 0) (ms := 0) dX11_added_26 lk_X11_360 rfl rfl (by decide) ha4 rfl rfl ht10 rfl rfl rfl w_5_139 (Call.weaken h ?_)
      rintro H9 _ ⟨r11, rfl, h⟩
      change WP _ _ _ _ _ _ [.long r11] H9 _
      exact wp_lreturn dX11_added_29 rfl ⟨_, rfl, h⟩
    · replace h := h.2 (bI_1.mp c)
      refine wp_ldc2 dX11_added_17 w_3_210 ?_
      exact wp_lreturn dX11_added_20 rfl ⟨_, rfl, h⟩
theorem C_X11_added {d : Nat} {q : HP → Int64 → Prop} {a0 : Nat} {x1 : Int32} {H : HP} (h : wb_X11_added_0 d q a0 x1 H) : CJ (d + 1) 0 0 mX11_added [rv (some a0), .int x1] H q := by
  refine call_of (by decide +kernel) (by simp [lg_sl, rv_cat, vc_int, vc_long, vc_float, vc_double]) ?_
  have e : lv_args 0 [rv (some a0), .int x1] = [(0, rv (some a0)), (1, .int x1)] := by simp [lv_args, rv_cat, vc_int, vc_long, vc_float, vc_double]
  rw [e]
  exact T_X11_added_0 h
def wb_X11_answerIn_0 (d : Nat) (q : HP → Bool → Prop) (a0 : Nat) (x1 : Int32) (x2 : Int32) (H : HP) : Prop :=
  tg H a0 = 12 ∧ (∃ a3, (hC H 1201 a0) = some a3 ∧ (tg H a3 = 11 ∧ (CR d 0 0 mX10_at [rv (hC H 1201 a0), .int x2] H (fun H2 r5 => tg H2 a0 = 12 ∧ (CR d 0 0 mX11_resultSide [rv (some a0), .int x1] H2 (fun H6 r8 => (r5 = none → q H6 false) ∧ (∀ a9, r5 = some a9 → (r8 = none → q H6 false) ∧ (∀ a10, r8 = some a10 → tg H6 a10 = 7 ∧ (tg H6 a9 = 10 ∧ (CZ d 0 0 mX11_equalRows [rv (hC H6 711 a10), rv (hC H6 1002 a9)] H6 (fun H13 b14 => (b14 = true → tg H13 a0 = 12 ∧ (tg H13 a10 = 7 ∧ (∃ a18, (hC H13 1213 a0) = some a18 ∧ (tg H13 a18 = 4 ∧ (CV d 0 0 mX3_copy [rv (hC H13 1213 a0), rv (hC H13 712 a10)] H13 (fun H17 => tg H17 a0 = 12 ∧ (tg H17 a9 = 10 ∧ (∃ a23, (hC H17 1213 a0) = some a23 ∧ (tg H17 a23 = 4 ∧ (CZ d 0 0 mX3_subtract [rv (hC H17 1213 a0), rv (hC H17 1004 a9)] H17 (fun H22 b25 => (b25 = false → q H22 false) ∧ (b25 = true → tg H22 a0 = 12 ∧ (tg H22 a9 = 10 ∧ (∃ a29, (hC H22 1213 a0) = some a29 ∧ (tg H22 a29 = 4 ∧ (CZ d 0 0 mX3_divide [rv (hC H22 1213 a0), rv (hC H22 1003 a9)] H22 (fun H28 b31 => (b31 = false → q H28 false) ∧ (b31 = true → q H28 true)))))))))))))))))) ∧ (b14 = false → q H13 false))))))))))))
set_option maxRecDepth 40000 in
set_option maxHeartbeats 4000000 in
theorem T_X11_answerIn_0 {d : Nat} {q : HP → Bool → Prop} {a0 : Nat} {x1 : Int32} {x2 : Int32} {H : HP} (h : wb_X11_answerIn_0 d q a0 x1 x2 H) : WP (d + 1) mX11_answerIn 0 0 0 [(0, rv (some a0)), (1, .int x1), (2, .int x2)] [] H (qZ q) := by
  unfold wb_X11_answerIn_0 at h
  refine wp_aload_n 0 dX11_answerIn_0 rfl ?_
  obtain ⟨ht1, h⟩ := h
  refine wp_getC (ci := 11) (j := 1) dX11_answerIn_1 fi_X11_21r rfl rfl ht1 ?_
  change WP _ _ _ _ _ _ (rv (hC H 1201 a0) :: _) _ _
  refine wp_iload_n 2 dX11_answerIn_4 rfl ?_
  obtain ⟨a3, ha3, h⟩ := h
  obtain ⟨ht4, h⟩ := h
  refine wp_callV (ci := 10) (As := [.int x2]) (rest := []) (mc := 0) (ms := 0) dX11_answerIn_5 lk_X11_129 rfl rfl (by decide) ha3 rfl rfl ht4 rfl rfl rfl w_3_201 (Call.weaken h ?_)
  rintro H2 _ ⟨r5, rfl, h⟩
  change WP _ _ _ _ _ _ [rv r5] H2 _
  refine wp_astore_n (ls' := [(3, rv r5), (0, rv (some a0)), (1, .int x1), (2, .int x2)]) dX11_answerIn_8 (by decide) rfl ?_
  refine wp_aload_n 1 dX11_answerIn_9 rfl ?_
  refine wp_iload_n 2 dX11_answerIn_10 rfl ?_
  obtain ⟨ht7, h⟩ := h
  refine wp_callV (ci := 11) (As := [.int x1]) (rest := []) (mc := 0) (ms := 0) dX11_answerIn_11 lk_X11_259 rfl rfl (by decide) rfl rfl rfl ht7 rfl rfl rfl w_4_174 (Call.weaken h ?_)
  rintro H6 _ ⟨r8, rfl, h⟩
  change WP _ _ _ _ _ _ [rv r8] H6 _
  refine wp_astore (ls' := [(4, rv r8), (3, rv r5), (0, rv (some a0)), (1, .int x1), (2, .int x2)]) dX11_answerIn_14 (by decide) (by change st1 _ 4 _ = _; simp [st1, rv_cat, vc_int, vc_long, vc_float, vc_double]) ?_
  refine wp_aload_n 1 dX11_answerIn_16 rfl ?_
  refine wp_ifnull (tgt := 40) dX11_answerIn_17 rfl (fun c => ?_) (fun a9 ha9 => ?_)
  · replace h := h.1 c
    refine wp_iconst (v := (0 : Int32)) dX11_answerIn_40 (by decide) ?_
    exact wp_ireturn (ty := .boolean) dX11_answerIn_41 rfl rfl ⟨false, rfl, h⟩
  · replace h := h.2 a9 ha9
    refine wp_aload 0 dX11_answerIn_20 rfl ?_
    refine wp_ifnull (tgt := 40) dX11_answerIn_22 rfl (fun c => ?_) (fun a10 ha10 => ?_)
    · replace h := h.1 c
      refine wp_iconst (v := (0 : Int32)) dX11_answerIn_40 (by decide) ?_
      exact wp_ireturn (ty := .boolean) dX11_answerIn_41 rfl rfl ⟨false, rfl, h⟩
    · replace h := h.2 a10 ha10
      refine wp_aload 0 dX11_answerIn_25 rfl ?_
      obtain ⟨ht11, h⟩ := h
      refine wp_getC (ci := 6) (j := 11) dX11_answerIn_27 fi_X11_231 rfl ha10 ht11 ?_
      change WP _ _ _ _ _ _ (rv (hC H6 711 a10) :: _) _ _
      refine wp_aload_n 1 dX11_answerIn_30 rfl ?_
      obtain ⟨ht12, h⟩ := h
      refine wp_getC (ci := 9) (j := 2) dX11_answerIn_31 fi_X11_137 rfl ha9 ht12 ?_
      change WP _ _ _ _ _ _ (rv (hC H6 1002 a9) :: _) _ _
      refine wp_callS (As := [rv (hC H6 711 a10), rv (hC H6 1002 a9)]) (rest := []) (mc := 0) (ms := 0) dX11_answerIn_34 lk_X11_235 rfl rfl (by decide) rfl rfl rfl (Call.weaken h ?_)
      rintro H13 _ ⟨b14, rfl, h⟩
      change WP _ _ _ _ _ _ [.int (bI b14)] H13 _
      refine wp_if_ne (tgt := 42) dX11_answerIn_37 rfl (fun c => ?_) (fun c => ?_)
      · replace h := h.1 (bI_1.mp c)
        refine wp_aload_n 2 dX11_answerIn_42 rfl ?_
        obtain ⟨ht15, h⟩ := h
        refine wp_getC (ci := 11) (j := 13) dX11_answerIn_43 fi_X11_77r rfl rfl ht15 ?_
        change WP _ _ _ _ _ _ (rv (hC H13 1213 a0) :: _) _ _
        refine wp_aload 0 dX11_answerIn_46 rfl ?_
        obtain ⟨ht16, h⟩ := h
        refine wp_getC (ci := 6) (j := 12) dX11_answerIn_48 fi_X11_220 rfl ha10 ht16 ?_
        change WP _ _ _ _ _ _ (rv (hC H13 712 a10) :: _) _ _
        obtain ⟨a18, ha18, h⟩ := h
        obtain ⟨ht19, h⟩ := h
        refine wp_callV (ci := 3) (As := [rv (hC H13 712 a10)]) (rest := []) (mc := 0) (ms := 0) dX11_answerIn_51 lk_X11_161 rfl rfl (by decide) ha18 rfl rfl ht19 rfl rfl rfl w_3_227 (Call.weaken h ?_)
        rintro H17 _ ⟨rfl, h⟩
        change WP _ _ _ _ _ _ [] H17 _
        refine wp_aload_n 2 dX11_answerIn_54 rfl ?_
        obtain ⟨ht20, h⟩ := h
        refine wp_getC (ci := 11) (j := 13) dX11_answerIn_55 fi_X11_77r rfl rfl ht20 ?_
        change WP _ _ _ _ _ _ (rv (hC H17 1213 a0) :: _) _ _
        refine wp_aload_n 1 dX11_answerIn_58 rfl ?_
        obtain ⟨ht21, h⟩ := h
        refine wp_getC (ci := 9) (j := 4) dX11_answerIn_59 fi_X11_150 rfl ha9 ht21 ?_
        change WP _ _ _ _ _ _ (rv (hC H17 1004 a9) :: _) _ _
        obtain ⟨a23, ha23, h⟩ := h
        obtain ⟨ht24, h⟩ := h
        refine wp_callV (ci := 3) (As := [rv (hC H17 1004 a9)]) (rest := []) (mc := 0) (ms := 0) dX11_answerIn_62 lk_X11_412 rfl rfl (by decide) ha23 rfl rfl ht24 rfl rfl rfl w_4_182 (Call.weaken h ?_)
        rintro H22 _ ⟨b25, rfl, h⟩
        change WP _ _ _ _ _ _ [.int (bI b25)] H22 _
        refine wp_if_eq (tgt := 86) dX11_answerIn_65 rfl (fun c => ?_) (fun c => ?_)
        · replace h := h.1 (bI_0.mp c)
          refine wp_iconst (v := (0 : Int32)) dX11_answerIn_86 (by decide) ?_
          exact wp_ireturn (ty := .boolean) dX11_answerIn_87 rfl rfl ⟨false, rfl, h⟩
        · replace h := h.2 (bI_1.mp c)
          refine wp_aload_n 2 dX11_answerIn_68 rfl ?_
          obtain ⟨ht26, h⟩ := h
          refine wp_getC (ci := 11) (j := 13) dX11_answerIn_69 fi_X11_77r rfl rfl ht26 ?_
          change WP _ _ _ _ _ _ (rv (hC H22 1213 a0) :: _) _ _
          refine wp_aload_n 1 dX11_answerIn_72 rfl ?_
          obtain ⟨ht27, h⟩ := h
          refine wp_getC (ci := 9) (j := 3) dX11_answerIn_73 fi_X11_143 rfl ha9 ht27 ?_
          change WP _ _ _ _ _ _ (rv (hC H22 1003 a9) :: _) _ _
          obtain ⟨a29, ha29, h⟩ := h
          obtain ⟨ht30, h⟩ := h
          refine wp_callV (ci := 3) (As := [rv (hC H22 1003 a9)]) (rest := []) (mc := 0) (ms := 0) dX11_answerIn_76 lk_X11_165 rfl rfl (by decide) ha29 rfl rfl ht30 rfl rfl rfl w_3_228 (Call.weaken h ?_)
          rintro H28 _ ⟨b31, rfl, h⟩
          change WP _ _ _ _ _ _ [.int (bI b31)] H28 _
          refine wp_if_eq (tgt := 86) dX11_answerIn_79 rfl (fun c => ?_) (fun c => ?_)
          · replace h := h.1 (bI_0.mp c)
            refine wp_iconst (v := (0 : Int32)) dX11_answerIn_86 (by decide) ?_
            exact wp_ireturn (ty := .boolean) dX11_answerIn_87 rfl rfl ⟨false, rfl, h⟩
          · replace h := h.2 (bI_1.mp c)
            refine wp_iconst (v := (1 : Int32)) dX11_answerIn_82 (by decide) ?_
            refine wp_goto (tgt := 87) dX11_answerIn_83 rfl ?_
            exact wp_ireturn (ty := .boolean) dX11_answerIn_87 rfl rfl ⟨true, rfl, h⟩
      · replace h := h.2 (bI_0.mp c)
        refine wp_iconst (v := (0 : Int32)) dX11_answerIn_40 (by decide) ?_
        exact wp_ireturn (ty := .boolean) dX11_answerIn_41 rfl rfl ⟨false, rfl, h⟩
theorem C_X11_answerIn {d : Nat} {q : HP → Bool → Prop} {a0 : Nat} {x1 : Int32} {x2 : Int32} {H : HP} (h : wb_X11_answerIn_0 d q a0 x1 x2 H) : CZ (d + 1) 0 0 mX11_answerIn [rv (some a0), .int x1, .int x2] H q := by
  refine call_of (by decide +kernel) (by simp [lg_sl, rv_cat, vc_int, vc_long, vc_float, vc_double]) ?_
  have e : lv_args 0 [rv (some a0), .int x1, .int x2] = [(0, rv (some a0)), (1, .int x1), (2, .int x2)] := by simp [lv_args, rv_cat, vc_int, vc_long, vc_float, vc_double]
  rw [e]
  exact T_X11_answerIn_0 h
def wb_X11_bits_0 (d : Nat) (q : HP → Int64 → Prop) (a0 : Nat) (x1 : Int32) (x2 : Int32) (x3 : Int32) (H : HP) : Prop :=
  (x3 < 0 → q H (-9223372036854775808 : Int64)) ∧ (¬ (x3 < 0) → ((1 : Int32) < x3 → q H (-9223372036854775808 : Int64)) ∧ (¬ ((1 : Int32) < x3) → tg H a0 = 12 ∧ (CZ d 0 0 mX11_answerIn [rv (some a0), .int x1, .int x2] H (fun H1 b3 => (b3 = true → tg H1 a0 = 12 ∧ (∃ a6, (hC H1 1213 a0) = some a6 ∧ (tg H1 a6 = 4 ∧ (CD d 0 0 mX3_asDouble [rv (hC H1 1213 a0)] H1 (fun H5 r8 => (¬ x3 = (1 : Int32) → tg H5 a0 = 12 ∧ (∀ r10, alike32 r10 (FP.d2f r8) = true → (∃ a12, (hC H5 1212 a0) = some a12 ∧ (tg H5 a12 = 3 ∧ (CJ d 0 0 mX2_ofFloat [rv (hC H5 1212 a0), .float r10] H5 (fun H11 r14 => q H11 r14)))))) ∧ (x3 = (1 : Int32) → tg H5 a0 = 12 ∧ (∃ a17, (hC H5 1212 a0) = some a17 ∧ (tg H5 a17 = 3 ∧ (CJ d 0 0 mX2_ofDouble [rv (hC H5 1212 a0), .double r8] H5 (fun H16 r19 => q H16 r19)))))))))) ∧ (b3 = false → q H1 (-9223372036854775808 : Int64))))))
set_option maxRecDepth 40000 in
set_option maxHeartbeats 4000000 in
theorem T_X11_bits_0 {d : Nat} {q : HP → Int64 → Prop} {a0 : Nat} {x1 : Int32} {x2 : Int32} {x3 : Int32} {H : HP} (h : wb_X11_bits_0 d q a0 x1 x2 x3 H) : WP (d + 1) mX11_bits 0 0 0 [(0, rv (some a0)), (1, .int x1), (2, .int x2), (3, .int x3)] [] H (qJ q) := by
  unfold wb_X11_bits_0 at h
  refine wp_iload_n 3 dX11_bits_0 rfl ?_
  refine wp_if_lt (tgt := 18) dX11_bits_1 rfl (fun c => ?_) (fun c => ?_)
  · replace h := h.1 c
    refine wp_ldc2 dX11_bits_18 w_3_210 ?_
    exact wp_lreturn dX11_bits_21 rfl ⟨_, rfl, h⟩
  · replace h := h.2 c
    refine wp_iload_n 3 dX11_bits_4 rfl ?_
    refine wp_iconst (v := (1 : Int32)) dX11_bits_5 (by decide) ?_
    refine wp_icmp_gt (tgt := 18) dX11_bits_6 rfl (fun c => ?_) (fun c => ?_)
    · replace h := h.1 c
      refine wp_ldc2 dX11_bits_18 w_3_210 ?_
      exact wp_lreturn dX11_bits_21 rfl ⟨_, rfl, h⟩
    · replace h := h.2 c
      refine wp_aload_n 0 dX11_bits_9 rfl ?_
      refine wp_iload_n 1 dX11_bits_10 rfl ?_
      refine wp_iload_n 2 dX11_bits_11 rfl ?_
      obtain ⟨ht2, h⟩ := h
      refine wp_callV (ci := 11) (As := [.int x1, .int x2]) (rest := []) (mc := 0) (ms := 0) dX11_bits_12 lk_X11_243 rfl rfl (by decide) rfl rfl rfl ht2 rfl rfl rfl w_4_170 (Call.weaken h ?_)
      rintro H1 _ ⟨b3, rfl, h⟩
      change WP _ _ _ _ _ _ [.int (bI b3)] H1 _
      refine wp_if_ne (tgt := 22) dX11_bits_15 rfl (fun c => ?_) (fun c => ?_)
      · replace h := h.1 (bI_1.mp c)
        refine wp_aload_n 0 dX11_bits_22 rfl ?_
        obtain ⟨ht4, h⟩ := h
        refine wp_getC (ci := 11) (j := 13) dX11_bits_23 fi_X11_77r rfl rfl ht4 ?_
        change WP _ _ _ _ _ _ (rv (hC H1 1213 a0) :: _) _ _
        obtain ⟨a6, ha6, h⟩ := h
        obtain ⟨ht7, h⟩ := h
        refine wp_callV (ci := 3) (As := []) (rest := []) (mc := 0) (ms := 0) dX11_bits_26 lk_X11_247 rfl rfl (by decide) ha6 rfl rfl ht7 rfl rfl rfl w_4_187 (Call.weaken h ?_)
        rintro H5 _ ⟨r8, rfl, h⟩
        change WP _ _ _ _ _ _ [.double r8] H5 _
        refine wp_dstore (ls' := [(4, .double r8), (0, rv (some a0)), (1, .int x1), (2, .int x2), (3, .int x3)]) dX11_bits_29 (by decide) rfl ?_
        refine wp_iload_n 4 dX11_bits_31 rfl ?_
        refine wp_iconst (v := (1 : Int32)) dX11_bits_32 (by decide) ?_
        refine wp_icmp_ne (tgt := 48) dX11_bits_33 rfl (fun c => ?_) (fun c => ?_)
        · replace h := h.1 c
          refine wp_aload_n 1 dX11_bits_48 rfl ?_
          obtain ⟨ht9, h⟩ := h
          refine wp_getC (ci := 11) (j := 12) dX11_bits_49 fi_X11_70r rfl rfl ht9 ?_
          change WP _ _ _ _ _ _ (rv (hC H5 1212 a0) :: _) _ _
          refine wp_dload 0 dX11_bits_52 rfl ?_
          refine wp_d2f dX11_bits_54 (fun r10 hr10 => ?_)
          replace h := h r10 hr10
          obtain ⟨a12, ha12, h⟩ := h
          obtain ⟨ht13, h⟩ := h
          refine wp_callV (ci := 2) (As := [.float r10]) (rest := []) (mc := 0) (ms := 0) dX11_bits_55 lk_X11_255 rfl rfl (by decide) ha12 rfl rfl ht13 rfl rfl rfl w_4_216 (Call.weaken h ?_)
          rintro H11 _ ⟨r14, rfl, h⟩
          change WP _ _ _ _ _ _ [.long r14] H11 _
          exact wp_lreturn dX11_bits_58 rfl ⟨_, rfl, h⟩
        · replace h := h.2 c
          refine wp_aload_n 1 dX11_bits_36 rfl ?_
          obtain ⟨ht15, h⟩ := h
          refine wp_getC (ci := 11) (j := 12) dX11_bits_37 fi_X11_70r rfl rfl ht15 ?_
          change WP _ _ _ _ _ _ (rv (hC H5 1212 a0) :: _) _ _
          refine wp_dload 0 dX11_bits_40 rfl ?_
          obtain ⟨a17, ha17, h⟩ := h
          obtain ⟨ht18, h⟩ := h
          refine wp_callV (ci := 2) (As := [.double r8]) (rest := []) (mc := 0) (ms := 0) dX11_bits_42 lk_X11_251 rfl rfl (by decide) ha17 rfl rfl ht18 rfl rfl rfl w_4_191 (Call.weaken h ?_)
          rintro H16 _ ⟨r19, rfl, h⟩
          change WP _ _ _ _ _ _ [.long r19] H16 _
          refine wp_goto (tgt := 58) dX11_bits_45 rfl ?_
          exact wp_lreturn dX11_bits_58 rfl ⟨_, rfl, h⟩
      · replace h := h.2 (bI_0.mp c)
        refine wp_ldc2 dX11_bits_18 w_3_210 ?_
        exact wp_lreturn dX11_bits_21 rfl ⟨_, rfl, h⟩
theorem C_X11_bits {d : Nat} {q : HP → Int64 → Prop} {a0 : Nat} {x1 : Int32} {x2 : Int32} {x3 : Int32} {H : HP} (h : wb_X11_bits_0 d q a0 x1 x2 x3 H) : CJ (d + 1) 0 0 mX11_bits [rv (some a0), .int x1, .int x2, .int x3] H q := by
  refine call_of (by decide +kernel) (by simp [lg_sl, rv_cat, vc_int, vc_long, vc_float, vc_double]) ?_
  have e : lv_args 0 [rv (some a0), .int x1, .int x2, .int x3] = [(0, rv (some a0)), (1, .int x1), (2, .int x2), (3, .int x3)] := by simp [lv_args, rv_cat, vc_int, vc_long, vc_float, vc_double]
  rw [e]
  exact T_X11_bits_0 h
def wb_X11_by_0 (d : Nat) (q : HP → Int64 → Prop) (a0 : Nat) (x1 : Int32) (x2 : Int32) (x3 : Int32) (H : HP) : Prop :=
  tg H a0 = 12 ∧ (∃ a3, (hC H 1201 a0) = some a3 ∧ (tg H a3 = 11 ∧ (CR d 0 0 mX10_at [rv (hC H 1201 a0), .int x1] H (fun H2 r5 => (r5 = none → q H2 (-9223372036854775808 : Int64)) ∧ (∀ a6, r5 = some a6 → tg H2 a0 = 12 ∧ (∃ a9, (hC H2 1201 a0) = some a9 ∧ (tg H2 a9 = 11 ∧ (CR d 0 0 mX10_at [rv (hC H2 1201 a0), .int x2] H2 (fun H8 r11 => (r11 = none → q H8 (-9223372036854775808 : Int64)) ∧ (∀ a12, r11 = some a12 → tg H8 a0 = 12 ∧ (∃ a15, (hC H8 1202 a0) = some a15 ∧ (tg H8 a15 = 1 ∧ (CI d 0 0 mX0_goFrom [rv (hC H8 1202 a0), .int x1, .int x2] H8 (fun H14 r17 => (¬ r17 = 0 → q H14 (-9223372036854775808 : Int64)) ∧ (r17 = 0 → tg H14 a0 = 12 ∧ (∃ a19, (hC H14 1202 a0) = some a19 ∧ (tg H14 a19 = 1 ∧ (∃ a22, (hC H14 109 a19) = some a22 ∧ (tg H14 a22 = 4 ∧ (CJ d 0 0 mX3_part [rv (hC H14 109 a19), .int x3] H14 (fun H21 r24 => q H21 r24)))))))))))))))))))))
set_option maxRecDepth 40000 in
set_option maxHeartbeats 4000000 in
theorem T_X11_by_0 {d : Nat} {q : HP → Int64 → Prop} {a0 : Nat} {x1 : Int32} {x2 : Int32} {x3 : Int32} {H : HP} (h : wb_X11_by_0 d q a0 x1 x2 x3 H) : WP (d + 1) mX11_by 0 0 0 [(0, rv (some a0)), (1, .int x1), (2, .int x2), (3, .int x3)] [] H (qJ q) := by
  unfold wb_X11_by_0 at h
  refine wp_aload_n 0 dX11_by_0 rfl ?_
  obtain ⟨ht1, h⟩ := h
  refine wp_getC (ci := 11) (j := 1) dX11_by_1 fi_X11_21r rfl rfl ht1 ?_
  change WP _ _ _ _ _ _ (rv (hC H 1201 a0) :: _) _ _
  refine wp_iload_n 1 dX11_by_4 rfl ?_
  obtain ⟨a3, ha3, h⟩ := h
  obtain ⟨ht4, h⟩ := h
  refine wp_callV (ci := 10) (As := [.int x1]) (rest := []) (mc := 0) (ms := 0) dX11_by_5 lk_X11_129 rfl rfl (by decide) ha3 rfl rfl ht4 rfl rfl rfl w_3_201 (Call.weaken h ?_)
  rintro H2 _ ⟨r5, rfl, h⟩
  change WP _ _ _ _ _ _ [rv r5] H2 _
  refine wp_ifnull (tgt := 22) dX11_by_8 rfl (fun c => ?_) (fun a6 ha6 => ?_)
  · replace h := h.1 c
    refine wp_ldc2 dX11_by_22 w_3_210 ?_
    exact wp_lreturn dX11_by_25 rfl ⟨_, rfl, h⟩
  · replace h := h.2 a6 ha6
    refine wp_aload_n 0 dX11_by_11 rfl ?_
    obtain ⟨ht7, h⟩ := h
    refine wp_getC (ci := 11) (j := 1) dX11_by_12 fi_X11_21r rfl rfl ht7 ?_
    change WP _ _ _ _ _ _ (rv (hC H2 1201 a0) :: _) _ _
    refine wp_iload_n 2 dX11_by_15 rfl ?_
    obtain ⟨a9, ha9, h⟩ := h
    obtain ⟨ht10, h⟩ := h
    refine wp_callV (ci := 10) (As := [.int x2]) (rest := []) (mc := 0) (ms := 0) dX11_by_16 lk_X11_129 rfl rfl (by decide) ha9 rfl rfl ht10 rfl rfl rfl w_3_201 (Call.weaken h ?_)
    rintro H8 _ ⟨r11, rfl, h⟩
    change WP _ _ _ _ _ _ [rv r11] H8 _
    refine wp_ifnonnull (tgt := 26) dX11_by_19 rfl (fun a12 ha12 => ?_) (fun c => ?_)
    · replace h := h.2 a12 ha12
      refine wp_aload_n 0 dX11_by_26 rfl ?_
      obtain ⟨ht13, h⟩ := h
      refine wp_getC (ci := 11) (j := 2) dX11_by_27 fi_X11_28r rfl rfl ht13 ?_
      change WP _ _ _ _ _ _ (rv (hC H8 1202 a0) :: _) _ _
      refine wp_iload_n 1 dX11_by_30 rfl ?_
      refine wp_iload_n 2 dX11_by_31 rfl ?_
      obtain ⟨a15, ha15, h⟩ := h
      obtain ⟨ht16, h⟩ := h
      refine wp_callV (ci := 0) (As := [.int x1, .int x2]) (rest := []) (mc := 0) (ms := 0) dX11_by_32 lk_X11_308 rfl rfl (by decide) ha15 rfl rfl ht16 rfl rfl rfl w_5_45 (Call.weaken h ?_)
      rintro H14 _ ⟨r17, rfl, h⟩
      change WP _ _ _ _ _ _ [.int r17] H14 _
      refine wp_if_ne (tgt := 52) dX11_by_35 rfl (fun c => ?_) (fun c => ?_)
      · replace h := h.1 c
        refine wp_ldc2 dX11_by_52 w_3_210 ?_
        exact wp_lreturn dX11_by_55 rfl ⟨_, rfl, h⟩
      · replace h := h.2 c
        refine wp_aload_n 0 dX11_by_38 rfl ?_
        obtain ⟨ht18, h⟩ := h
        refine wp_getC (ci := 11) (j := 2) dX11_by_39 fi_X11_28r rfl rfl ht18 ?_
        change WP _ _ _ _ _ _ (rv (hC H14 1202 a0) :: _) _ _
        obtain ⟨a19, ha19, h⟩ := h
        obtain ⟨ht20, h⟩ := h
        refine wp_getC (ci := 0) (j := 9) dX11_by_42 fi_X11_312 rfl ha19 ht20 ?_
        change WP _ _ _ _ _ _ (rv (hC H14 109 a19) :: _) _ _
        refine wp_iload_n 3 dX11_by_45 rfl ?_
        obtain ⟨a22, ha22, h⟩ := h
        obtain ⟨ht23, h⟩ := h
        refine wp_callV (ci := 3) (As := [.int x3]) (rest := []) (mc := 0) (ms := 0) dX11_by_46 lk_X11_146 rfl rfl (by decide) ha22 rfl rfl ht23 rfl rfl rfl w_3_211 (Call.weaken h ?_)
        rintro H21 _ ⟨r24, rfl, h⟩
        change WP _ _ _ _ _ _ [.long r24] H21 _
        refine wp_goto (tgt := 55) dX11_by_49 rfl ?_
        exact wp_lreturn dX11_by_55 rfl ⟨_, rfl, h⟩
    · replace h := h.1 c
      refine wp_ldc2 dX11_by_22 w_3_210 ?_
      exact wp_lreturn dX11_by_25 rfl ⟨_, rfl, h⟩
theorem C_X11_by {d : Nat} {q : HP → Int64 → Prop} {a0 : Nat} {x1 : Int32} {x2 : Int32} {x3 : Int32} {H : HP} (h : wb_X11_by_0 d q a0 x1 x2 x3 H) : CJ (d + 1) 0 0 mX11_by [rv (some a0), .int x1, .int x2, .int x3] H q := by
  refine call_of (by decide +kernel) (by simp [lg_sl, rv_cat, vc_int, vc_long, vc_float, vc_double]) ?_
  have e : lv_args 0 [rv (some a0), .int x1, .int x2, .int x3] = [(0, rv (some a0)), (1, .int x1), (2, .int x2), (3, .int x3)] := by simp [lv_args, rv_cat, vc_int, vc_long, vc_float, vc_double]
  rw [e]
  exact T_X11_by_0 h
def wb_X11_cast_0 (d : Nat) (q : HP → Int64 → Prop) (a0 : Nat) (x1 : Int32) (x2 : Int32) (x3 : Int32) (H : HP) : Prop :=
  tg H a0 = 12 ∧ (CI d 0 0 mX11_itemRefusal [rv (some a0), .int x1, .int x2] H (fun H1 r3 => (r3 = 0 → tg H1 a0 = 12 ∧ (∃ a5, (hC H1 1210 a0) = some a5 ∧ (isA H1 a5 8 ∧ (vp_in x1 (ln H1 a5) ∧ (∃ a9, (hR H1 (tg H1 a5) a5 x1.toNatClampNeg) = some a9 ∧ (tg H1 a9 = 9 ∧ (CD d 0 0 mX8_number [rv (hR H1 (tg H1 a5) a5 x1.toNatClampNeg), .int x2] H1 (fun H8 r11 => ((x3.toInt < 0 ∨ 3 < x3.toInt) → q H8 (-9223372036854775808 : Int64)) ∧ (x3 = 0 → q H8 ((FP.d2i r11).toInt64)) ∧ (x3 = 1 → q H8 (((FP.d2i r11).toInt8.toInt32).toInt64)) ∧ (x3 = 2 → q H8 (((FP.d2i r11).toInt16.toInt32).toInt64)) ∧ (x3 = 3 → q H8 (FP.d2l r11)))))))))) ∧ (¬ (r3 = 0) → q H1 (-9223372036854775808 : Int64))))
set_option maxRecDepth 40000 in
set_option maxHeartbeats 4000000 in
theorem T_X11_cast_0 {d : Nat} {q : HP → Int64 → Prop} {a0 : Nat} {x1 : Int32} {x2 : Int32} {x3 : Int32} {H : HP} (h : wb_X11_cast_0 d q a0 x1 x2 x3 H) : WP (d + 1) mX11_cast 0 0 0 [(0, rv (some a0)), (1, .int x1), (2, .int x2), (3, .int x3)] [] H (qJ q) := by
  unfold wb_X11_cast_0 at h
  refine wp_aload_n 0 dX11_cast_0 rfl ?_
  refine wp_iload_n 1 dX11_cast_1 rfl ?_
  refine wp_iload_n 2 dX11_cast_2 rfl ?_
  obtain ⟨ht2, h⟩ := h
  refine wp_callV (ci := 11) (As := [.int x1, .int x2]) (rest := []) (mc := 0) (ms := 0) dX11_cast_3 lk_X11_323 rfl rfl (by decide) rfl rfl rfl ht2 rfl rfl rfl w_5_66 (Call.weaken h ?_)
  rintro H1 _ ⟨r3, rfl, h⟩
  change WP _ _ _ _ _ _ [.int r3] H1 _
  refine wp_if_eq (tgt := 13) dX11_cast_6 rfl (fun c => ?_) (fun c => ?_)
  · replace h := h.1 c
    refine wp_aload_n 0 dX11_cast_13 rfl ?_
    obtain ⟨ht4, h⟩ := h
    refine wp_getC (ci := 11) (j := 10) dX11_cast_14 fi_X11_57r rfl rfl ht4 ?_
    change WP _ _ _ _ _ _ (rv (hC H1 1210 a0) :: _) _ _
    refine wp_iload_n 1 dX11_cast_17 rfl ?_
    obtain ⟨a5, ha5, h⟩ := h
    obtain ⟨hr6, h⟩ := h
    obtain ⟨hg7, h⟩ := h
    refine wp_aaload (e := 8) dX11_cast_18 ha5 hr6 (by decide) hg7 ?_
    refine wp_iload_n 2 dX11_cast_19 rfl ?_
    obtain ⟨a9, ha9, h⟩ := h
    obtain ⟨ht10, h⟩ := h
    refine wp_callV (ci := 8) (As := [.int x2]) (rest := []) (mc := 0) (ms := 0) dX11_cast_20 lk_X11_364 rfl rfl (by decide) ha9 rfl rfl ht10 rfl rfl rfl w_5_152 (Call.weaken h ?_)
    rintro H8 _ ⟨r11, rfl, h⟩
    change WP _ _ _ _ _ _ [.double r11] H8 _
    refine wp_dstore (ls' := [(4, .double r11), (0, rv (some a0)), (1, .int x1), (2, .int x2), (3, .int x3)]) dX11_cast_23 (by decide) rfl ?_
    refine wp_iload_n 4 dX11_cast_25 rfl ?_
    by_cases c : x3.toInt < 0 ∨ 3 < x3.toInt
    · replace h := h.1 c
      refine wp_tableOut (tgt := 77) dX11_cast_26 c rfl ?_
      refine wp_ldc2 dX11_cast_77 w_3_210 ?_
      exact wp_lreturn dX11_cast_80 rfl ⟨_, rfl, h⟩
    · replace h := h.2
      have e : x3.toInt = 0 ∨ x3.toInt = 1 ∨ x3.toInt = 2 ∨ x3.toInt = 3 := by omega
      rcases e with e | e | e | e
      · replace h := h.1 (Int32.toInt_inj.mp e)
        refine wp_tableIn (tgt := 56) dX11_cast_26 (by omega) (by omega) (by rw [e]; rfl) rfl ?_
        refine wp_dload 0 dX11_cast_56 rfl ?_
        refine wp_d2i dX11_cast_58 ?_
        refine wp_i2l dX11_cast_59 ?_
        exact wp_lreturn dX11_cast_60 rfl ⟨_, rfl, h⟩
      · replace h := h.2.1 (Int32.toInt_inj.mp e)
        refine wp_tableIn (tgt := 61) dX11_cast_26 (by omega) (by omega) (by rw [e]; rfl) rfl ?_
        refine wp_dload 0 dX11_cast_61 rfl ?_
        refine wp_d2i dX11_cast_63 ?_
        refine wp_i2b dX11_cast_64 ?_
        refine wp_i2l dX11_cast_65 ?_
        exact wp_lreturn dX11_cast_66 rfl ⟨_, rfl, h⟩
      · replace h := h.2.2.1 (Int32.toInt_inj.mp e)
        refine wp_tableIn (tgt := 67) dX11_cast_26 (by omega) (by omega) (by rw [e]; rfl) rfl ?_
        refine wp_dload 0 dX11_cast_67 rfl ?_
        refine wp_d2i dX11_cast_69 ?_
        refine wp_i2s dX11_cast_70 ?_
        refine wp_i2l dX11_cast_71 ?_
        exact wp_lreturn dX11_cast_72 rfl ⟨_, rfl, h⟩
      · replace h := h.2.2.2 (Int32.toInt_inj.mp e)
        refine wp_tableIn (tgt := 73) dX11_cast_26 (by omega) (by omega) (by rw [e]; rfl) rfl ?_
        refine wp_dload 0 dX11_cast_73 rfl ?_
        refine wp_d2l dX11_cast_75 ?_
        exact wp_lreturn dX11_cast_76 rfl ⟨_, rfl, h⟩
  · replace h := h.2 c
    refine wp_ldc2 dX11_cast_9 w_3_210 ?_
    exact wp_lreturn dX11_cast_12 rfl ⟨_, rfl, h⟩
theorem C_X11_cast {d : Nat} {q : HP → Int64 → Prop} {a0 : Nat} {x1 : Int32} {x2 : Int32} {x3 : Int32} {H : HP} (h : wb_X11_cast_0 d q a0 x1 x2 x3 H) : CJ (d + 1) 0 0 mX11_cast [rv (some a0), .int x1, .int x2, .int x3] H q := by
  refine call_of (by decide +kernel) (by simp [lg_sl, rv_cat, vc_int, vc_long, vc_float, vc_double]) ?_
  have e : lv_args 0 [rv (some a0), .int x1, .int x2, .int x3] = [(0, rv (some a0)), (1, .int x1), (2, .int x2), (3, .int x3)] := by simp [lv_args, rv_cat, vc_int, vc_long, vc_float, vc_double]
  rw [e]
  exact T_X11_cast_0 h
def wb_X11_change_0 (d : Nat) (q : HP → Int32 → Prop) (a0 : Nat) (x1 : Int32) (x2 : Int32) (x3 : Int32) (H : HP) : Prop :=
  tg H a0 = 12 ∧ (CR d 0 0 mX11_trackAt [rv (some a0), .int x1] H (fun H1 r3 => tg H1 a0 = 12 ∧ (∃ a6, (hC H1 1201 a0) = some a6 ∧ (tg H1 a6 = 11 ∧ (CR d 0 0 mX10_at [rv (hC H1 1201 a0), .int x2] H1 (fun H5 r8 => tg H5 a0 = 12 ∧ (∃ a11, (hC H5 1201 a0) = some a11 ∧ (tg H5 a11 = 11 ∧ (CR d 0 0 mX10_at [rv (hC H5 1201 a0), .int x3] H5 (fun H10 r13 => (r3 = none → q H10 (-1 : Int32)) ∧ (∀ a14, r3 = some a14 → (r8 = none → q H10 (-1 : Int32)) ∧ (∀ a15, r8 = some a15 → (r13 = none → q H10 (-1 : Int32)) ∧ (∀ a16, r13 = some a16 → tg H10 a14 = 9 ∧ (CZ d 0 0 mX8_isNothing [rv r3] H10 (fun H17 b19 => (b19 = false → tg H17 a15 = 10 ∧ (CZ d 0 0 mX9_isLike [rv r8, rv r13] H17 (fun H20 b22 => (b22 = true → tg H20 a14 = 9 ∧ (CV d 0 0 mX8_convert [rv r3, rv r8, rv r13] H20 (fun H23 => tg H23 a14 = 9 ∧ (q H23 (hI H23 901 a14 0))))) ∧ (b22 = false → q H20 (-13 : Int32))))) ∧ (b19 = true → q H17 (-6 : Int32)))))))))))))))))
set_option maxRecDepth 40000 in
set_option maxHeartbeats 4000000 in
theorem T_X11_change_0 {d : Nat} {q : HP → Int32 → Prop} {a0 : Nat} {x1 : Int32} {x2 : Int32} {x3 : Int32} {H : HP} (h : wb_X11_change_0 d q a0 x1 x2 x3 H) : WP (d + 1) mX11_change 0 0 0 [(0, rv (some a0)), (1, .int x1), (2, .int x2), (3, .int x3)] [] H (qI q) := by
  unfold wb_X11_change_0 at h
  refine wp_aload_n 0 dX11_change_0 rfl ?_
  refine wp_iload_n 1 dX11_change_1 rfl ?_
  obtain ⟨ht2, h⟩ := h
  refine wp_callV (ci := 11) (As := [.int x1]) (rest := []) (mc := 0) (ms := 0) dX11_change_2 lk_X11_315 rfl rfl (by decide) rfl rfl rfl ht2 rfl rfl rfl w_5_50 (Call.weaken h ?_)
  rintro H1 _ ⟨r3, rfl, h⟩
  change WP _ _ _ _ _ _ [rv r3] H1 _
  refine wp_astore (ls' := [(4, rv r3), (0, rv (some a0)), (1, .int x1), (2, .int x2), (3, .int x3)]) dX11_change_5 (by decide) rfl ?_
  refine wp_aload_n 1 dX11_change_7 rfl ?_
  obtain ⟨ht4, h⟩ := h
  refine wp_getC (ci := 11) (j := 1) dX11_change_8 fi_X11_21r rfl rfl ht4 ?_
  change WP _ _ _ _ _ _ (rv (hC H1 1201 a0) :: _) _ _
  refine wp_iload_n 3 dX11_change_11 rfl ?_
  obtain ⟨a6, ha6, h⟩ := h
  obtain ⟨ht7, h⟩ := h
  refine wp_callV (ci := 10) (As := [.int x2]) (rest := []) (mc := 0) (ms := 0) dX11_change_12 lk_X11_129 rfl rfl (by decide) ha6 rfl rfl ht7 rfl rfl rfl w_3_201 (Call.weaken h ?_)
  rintro H5 _ ⟨r8, rfl, h⟩
  change WP _ _ _ _ _ _ [rv r8] H5 _
  refine wp_astore (ls' := [(5, rv r8), (4, rv r3), (0, rv (some a0)), (1, .int x1), (2, .int x2), (3, .int x3)]) dX11_change_15 (by decide) (by change st1 _ 5 _ = _; simp [st1, rv_cat, vc_int, vc_long, vc_float, vc_double]) ?_
  refine wp_aload_n 2 dX11_change_17 rfl ?_
  obtain ⟨ht9, h⟩ := h
  refine wp_getC (ci := 11) (j := 1) dX11_change_18 fi_X11_21r rfl rfl ht9 ?_
  change WP _ _ _ _ _ _ (rv (hC H5 1201 a0) :: _) _ _
  refine wp_iload_n 5 dX11_change_21 rfl ?_
  obtain ⟨a11, ha11, h⟩ := h
  obtain ⟨ht12, h⟩ := h
  refine wp_callV (ci := 10) (As := [.int x3]) (rest := []) (mc := 0) (ms := 0) dX11_change_22 lk_X11_129 rfl rfl (by decide) ha11 rfl rfl ht12 rfl rfl rfl w_3_201 (Call.weaken h ?_)
  rintro H10 _ ⟨r13, rfl, h⟩
  change WP _ _ _ _ _ _ [rv r13] H10 _
  refine wp_astore (ls' := [(6, rv r13), (5, rv r8), (4, rv r3), (0, rv (some a0)), (1, .int x1), (2, .int x2), (3, .int x3)]) dX11_change_25 (by decide) (by change st1 _ 6 _ = _; simp [st1, rv_cat, vc_int, vc_long, vc_float, vc_double]) ?_
  refine wp_aload 2 dX11_change_27 rfl ?_
  refine wp_ifnull (tgt := 42) dX11_change_29 rfl (fun c => ?_) (fun a14 ha14 => ?_)
  · replace h := h.1 c
    refine wp_iconst (v := (-1 : Int32)) dX11_change_42 (by decide) ?_
    exact wp_ireturn (ty := .int) dX11_change_43 rfl rfl ⟨_, rfl, h⟩
  · replace h := h.2 a14 ha14
    refine wp_aload 1 dX11_change_32 rfl ?_
    refine wp_ifnull (tgt := 42) dX11_change_34 rfl (fun c => ?_) (fun a15 ha15 => ?_)
    · replace h := h.1 c
      refine wp_iconst (v := (-1 : Int32)) dX11_change_42 (by decide) ?_
      exact wp_ireturn (ty := .int) dX11_change_43 rfl rfl ⟨_, rfl, h⟩
    · replace h := h.2 a15 ha15
      refine wp_aload 0 dX11_change_37 rfl ?_
      refine wp_ifnonnull (tgt := 44) dX11_change_39 rfl (fun a16 ha16 => ?_) (fun c => ?_)
      · replace h := h.2 a16 ha16
        refine wp_aload 2 dX11_change_44 rfl ?_
        obtain ⟨ht18, h⟩ := h
        refine wp_callV (ci := 8) (As := []) (rest := []) (mc := 0) (ms := 0) dX11_change_46 lk_X11_352 rfl rfl (by decide) ha14 rfl rfl ht18 rfl rfl rfl w_5_70 (Call.weaken h ?_)
        rintro H17 _ ⟨b19, rfl, h⟩
        change WP _ _ _ _ _ _ [.int (bI b19)] H17 _
        refine wp_if_eq (tgt := 55) dX11_change_49 rfl (fun c => ?_) (fun c => ?_)
        · replace h := h.1 (bI_0.mp c)
          refine wp_aload 1 dX11_change_55 rfl ?_
          refine wp_aload 0 dX11_change_57 rfl ?_
          obtain ⟨ht21, h⟩ := h
          refine wp_callV (ci := 9) (As := [rv r13]) (rest := []) (mc := 0) (ms := 0) dX11_change_59 lk_X11_153 rfl rfl (by decide) ha15 rfl rfl ht21 rfl rfl rfl w_3_219 (Call.weaken h ?_)
          rintro H20 _ ⟨b22, rfl, h⟩
          change WP _ _ _ _ _ _ [.int (bI b22)] H20 _
          refine wp_if_ne (tgt := 68) dX11_change_62 rfl (fun c => ?_) (fun c => ?_)
          · replace h := h.1 (bI_1.mp c)
            refine wp_aload 2 dX11_change_68 rfl ?_
            refine wp_aload 1 dX11_change_70 rfl ?_
            refine wp_aload 0 dX11_change_72 rfl ?_
            obtain ⟨ht24, h⟩ := h
            refine wp_callV (ci := 8) (As := [rv r8, rv r13]) (rest := []) (mc := 0) (ms := 0) dX11_change_74 lk_X11_355 rfl rfl (by decide) ha14 rfl rfl ht24 rfl rfl rfl w_5_125 (Call.weaken h ?_)
            rintro H23 _ ⟨rfl, h⟩
            change WP _ _ _ _ _ _ [] H23 _
            refine wp_aload 2 dX11_change_77 rfl ?_
            obtain ⟨ht25, h⟩ := h
            refine wp_getI (ci := 8) (j := 1) dX11_change_79 fi_X11_359r rfl ha14 ht25 ?_
            change WP _ _ _ _ _ _ (.int (hI H23 901 a14 0) :: _) _ _
            exact wp_ireturn (ty := .int) dX11_change_82 rfl rfl ⟨_, rfl, h⟩
          · replace h := h.2 (bI_0.mp c)
            refine wp_bipush (v := (-13 : Int32)) dX11_change_65 (by decide) ?_
            exact wp_ireturn (ty := .int) dX11_change_67 rfl rfl ⟨_, rfl, h⟩
        · replace h := h.2 (bI_1.mp c)
          refine wp_bipush (v := (-6 : Int32)) dX11_change_52 (by decide) ?_
          exact wp_ireturn (ty := .int) dX11_change_54 rfl rfl ⟨_, rfl, h⟩
      · replace h := h.1 c
        refine wp_iconst (v := (-1 : Int32)) dX11_change_42 (by decide) ?_
        exact wp_ireturn (ty := .int) dX11_change_43 rfl rfl ⟨_, rfl, h⟩
theorem C_X11_change {d : Nat} {q : HP → Int32 → Prop} {a0 : Nat} {x1 : Int32} {x2 : Int32} {x3 : Int32} {H : HP} (h : wb_X11_change_0 d q a0 x1 x2 x3 H) : CI (d + 1) 0 0 mX11_change [rv (some a0), .int x1, .int x2, .int x3] H q := by
  refine call_of (by decide +kernel) (by simp [lg_sl, rv_cat, vc_int, vc_long, vc_float, vc_double]) ?_
  have e : lv_args 0 [rv (some a0), .int x1, .int x2, .int x3] = [(0, rv (some a0)), (1, .int x1), (2, .int x2), (3, .int x3)] := by simp [lv_args, rv_cat, vc_int, vc_long, vc_float, vc_double]
  rw [e]
  exact T_X11_change_0 h
def wb_X11_claim_0 (d : Nat) (q : HP → Int32 → Prop) (a0 : Nat) (x1 : Int32) (x2 : Int32) (x3 : Int32) (x4 : Int32) (H : HP) : Prop :=
  tg H a0 = 12 ∧ (∃ a3, (hC H 1201 a0) = some a3 ∧ (tg H a3 = 11 ∧ (CR d 0 0 mX10_at [rv (hC H 1201 a0), .int x1] H (fun H2 r5 => (r5 = none → q H2 (-1 : Int32)) ∧ (∀ a6, r5 = some a6 → tg H2 a0 = 12 ∧ (∃ a9, (hC H2 1201 a0) = some a9 ∧ (tg H2 a9 = 11 ∧ (CR d 0 0 mX10_at [rv (hC H2 1201 a0), .int x2] H2 (fun H8 r11 => (r11 = none → q H8 (-1 : Int32)) ∧ (∀ a12, r11 = some a12 → (¬ x1 = x2 → CZ d 0 0 mX11_isTold [.int x3] H8 (fun H13 b14 => (b14 = false → q H13 (-2 : Int32)) ∧ (b14 = true → CZ d 0 0 mX11_isTold [.int x4] H13 (fun H15 b16 => (b16 = true → tg H15 a0 = 12 ∧ (∃ a19, (hC H15 1202 a0) = some a19 ∧ (tg H15 a19 = 1 ∧ (CZ d 0 0 mX0_append [rv (hC H15 1202 a0), .int x1, .int x2, .int x3, .int x4] H15 (fun H18 b21 => (b21 = false → q H18 (-4 : Int32)) ∧ (b21 = true → tg H18 a0 = 12 ∧ (∃ a23, (hC H18 1202 a0) = some a23 ∧ (tg H18 a23 = 1 ∧ (q H18 (hI H18 104 a23 0)))))))))) ∧ (b16 = false → q H15 (-2 : Int32)))))) ∧ (x1 = x2 → q H8 (-1 : Int32))))))))))))
set_option maxRecDepth 40000 in
set_option maxHeartbeats 4000000 in
theorem T_X11_claim_0 {d : Nat} {q : HP → Int32 → Prop} {a0 : Nat} {x1 : Int32} {x2 : Int32} {x3 : Int32} {x4 : Int32} {H : HP} (h : wb_X11_claim_0 d q a0 x1 x2 x3 x4 H) : WP (d + 1) mX11_claim 0 0 0 [(0, rv (some a0)), (1, .int x1), (2, .int x2), (3, .int x3), (4, .int x4)] [] H (qI q) := by
  unfold wb_X11_claim_0 at h
  refine wp_aload_n 0 dX11_claim_0 rfl ?_
  obtain ⟨ht1, h⟩ := h
  refine wp_getC (ci := 11) (j := 1) dX11_claim_1 fi_X11_21r rfl rfl ht1 ?_
  change WP _ _ _ _ _ _ (rv (hC H 1201 a0) :: _) _ _
  refine wp_iload_n 1 dX11_claim_4 rfl ?_
  obtain ⟨a3, ha3, h⟩ := h
  obtain ⟨ht4, h⟩ := h
  refine wp_callV (ci := 10) (As := [.int x1]) (rest := []) (mc := 0) (ms := 0) dX11_claim_5 lk_X11_129 rfl rfl (by decide) ha3 rfl rfl ht4 rfl rfl rfl w_3_201 (Call.weaken h ?_)
  rintro H2 _ ⟨r5, rfl, h⟩
  change WP _ _ _ _ _ _ [rv r5] H2 _
  refine wp_ifnull (tgt := 27) dX11_claim_8 rfl (fun c => ?_) (fun a6 ha6 => ?_)
  · replace h := h.1 c
    refine wp_iconst (v := (-1 : Int32)) dX11_claim_27 (by decide) ?_
    exact wp_ireturn (ty := .int) dX11_claim_28 rfl rfl ⟨_, rfl, h⟩
  · replace h := h.2 a6 ha6
    refine wp_aload_n 0 dX11_claim_11 rfl ?_
    obtain ⟨ht7, h⟩ := h
    refine wp_getC (ci := 11) (j := 1) dX11_claim_12 fi_X11_21r rfl rfl ht7 ?_
    change WP _ _ _ _ _ _ (rv (hC H2 1201 a0) :: _) _ _
    refine wp_iload_n 2 dX11_claim_15 rfl ?_
    obtain ⟨a9, ha9, h⟩ := h
    obtain ⟨ht10, h⟩ := h
    refine wp_callV (ci := 10) (As := [.int x2]) (rest := []) (mc := 0) (ms := 0) dX11_claim_16 lk_X11_129 rfl rfl (by decide) ha9 rfl rfl ht10 rfl rfl rfl w_3_201 (Call.weaken h ?_)
    rintro H8 _ ⟨r11, rfl, h⟩
    change WP _ _ _ _ _ _ [rv r11] H8 _
    refine wp_ifnull (tgt := 27) dX11_claim_19 rfl (fun c => ?_) (fun a12 ha12 => ?_)
    · replace h := h.1 c
      refine wp_iconst (v := (-1 : Int32)) dX11_claim_27 (by decide) ?_
      exact wp_ireturn (ty := .int) dX11_claim_28 rfl rfl ⟨_, rfl, h⟩
    · replace h := h.2 a12 ha12
      refine wp_iload_n 1 dX11_claim_22 rfl ?_
      refine wp_iload_n 2 dX11_claim_23 rfl ?_
      refine wp_icmp_ne (tgt := 29) dX11_claim_24 rfl (fun c => ?_) (fun c => ?_)
      · replace h := h.1 c
        refine wp_iload_n 3 dX11_claim_29 rfl ?_
        refine wp_callS (As := [.int x3]) (rest := []) (mc := 0) (ms := 0) dX11_claim_30 lk_X11_169 rfl rfl (by decide) rfl rfl rfl (Call.weaken h ?_)
        rintro H13 _ ⟨b14, rfl, h⟩
        change WP _ _ _ _ _ _ [.int (bI b14)] H13 _
        refine wp_if_eq (tgt := 44) dX11_claim_33 rfl (fun c => ?_) (fun c => ?_)
        · replace h := h.1 (bI_0.mp c)
          refine wp_bipush (v := (-2 : Int32)) dX11_claim_44 (by decide) ?_
          exact wp_ireturn (ty := .int) dX11_claim_46 rfl rfl ⟨_, rfl, h⟩
        · replace h := h.2 (bI_1.mp c)
          refine wp_iload 4 dX11_claim_36 rfl ?_
          refine wp_callS (As := [.int x4]) (rest := []) (mc := 0) (ms := 0) dX11_claim_38 lk_X11_169 rfl rfl (by decide) rfl rfl rfl (Call.weaken h ?_)
          rintro H15 _ ⟨b16, rfl, h⟩
          change WP _ _ _ _ _ _ [.int (bI b16)] H15 _
          refine wp_if_ne (tgt := 47) dX11_claim_41 rfl (fun c => ?_) (fun c => ?_)
          · replace h := h.1 (bI_1.mp c)
            refine wp_aload_n 0 dX11_claim_47 rfl ?_
            obtain ⟨ht17, h⟩ := h
            refine wp_getC (ci := 11) (j := 2) dX11_claim_48 fi_X11_28r rfl rfl ht17 ?_
            change WP _ _ _ _ _ _ (rv (hC H15 1202 a0) :: _) _ _
            refine wp_iload_n 1 dX11_claim_51 rfl ?_
            refine wp_iload_n 2 dX11_claim_52 rfl ?_
            refine wp_iload_n 3 dX11_claim_53 rfl ?_
            refine wp_iload 4 dX11_claim_54 rfl ?_
            obtain ⟨a19, ha19, h⟩ := h
            obtain ⟨ht20, h⟩ := h
            refine wp_callV (ci := 0) (As := [.int x1, .int x2, .int x3, .int x4]) (rest := []) (mc := 0) (ms := 0) dX11_claim_56 lk_X11_270 rfl rfl (by decide) ha19 rfl rfl ht20 rfl rfl rfl w_5_1 (Call.weaken h ?_)
            rintro H18 _ ⟨b21, rfl, h⟩
            change WP _ _ _ _ _ _ [.int (bI b21)] H18 _
            refine wp_if_eq (tgt := 72) dX11_claim_59 rfl (fun c => ?_) (fun c => ?_)
            · replace h := h.1 (bI_0.mp c)
              refine wp_bipush (v := (-4 : Int32)) dX11_claim_72 (by decide) ?_
              exact wp_ireturn (ty := .int) dX11_claim_74 rfl rfl ⟨_, rfl, h⟩
            · replace h := h.2 (bI_1.mp c)
              refine wp_aload_n 0 dX11_claim_62 rfl ?_
              obtain ⟨ht22, h⟩ := h
              refine wp_getC (ci := 11) (j := 2) dX11_claim_63 fi_X11_28r rfl rfl ht22 ?_
              change WP _ _ _ _ _ _ (rv (hC H18 1202 a0) :: _) _ _
              obtain ⟨a23, ha23, h⟩ := h
              obtain ⟨ht24, h⟩ := h
              refine wp_getI (ci := 0) (j := 4) dX11_claim_66 fi_X11_273r rfl ha23 ht24 ?_
              change WP _ _ _ _ _ _ (.int (hI H18 104 a23 0) :: _) _ _
              refine wp_goto (tgt := 74) dX11_claim_69 rfl ?_
              exact wp_ireturn (ty := .int) dX11_claim_74 rfl rfl ⟨_, rfl, h⟩
          · replace h := h.2 (bI_0.mp c)
            refine wp_bipush (v := (-2 : Int32)) dX11_claim_44 (by decide) ?_
            exact wp_ireturn (ty := .int) dX11_claim_46 rfl rfl ⟨_, rfl, h⟩
      · replace h := h.2 c
        refine wp_iconst (v := (-1 : Int32)) dX11_claim_27 (by decide) ?_
        exact wp_ireturn (ty := .int) dX11_claim_28 rfl rfl ⟨_, rfl, h⟩
theorem C_X11_claim {d : Nat} {q : HP → Int32 → Prop} {a0 : Nat} {x1 : Int32} {x2 : Int32} {x3 : Int32} {x4 : Int32} {H : HP} (h : wb_X11_claim_0 d q a0 x1 x2 x3 x4 H) : CI (d + 1) 0 0 mX11_claim [rv (some a0), .int x1, .int x2, .int x3, .int x4] H q := by
  refine call_of (by decide +kernel) (by simp [lg_sl, rv_cat, vc_int, vc_long, vc_float, vc_double]) ?_
  have e : lv_args 0 [rv (some a0), .int x1, .int x2, .int x3, .int x4] = [(0, rv (some a0)), (1, .int x1), (2, .int x2), (3, .int x3), (4, .int x4)] := by simp [lv_args, rv_cat, vc_int, vc_long, vc_float, vc_double]
  rw [e]
  exact T_X11_claim_0 h
def wb_X11_claimOf_0 (d : Nat) (q : HP → Int32 → Prop) (a0 : Nat) (x1 : Int32) (x2 : Int32) (H : HP) : Prop :=
  (x1 < 0 → q H (-1 : Int32)) ∧ (¬ (x1 < 0) → tg H a0 = 12 ∧ (∃ a2, (hC H 1202 a0) = some a2 ∧ (tg H a2 = 1 ∧ ((x1 < (hI H 104 a2 0) → ((x2.toInt < 0 ∨ 5 < x2.toInt) → q H (-1 : Int32)) ∧ (x2 = 0 → ∃ a4, (hC H 100 a2) = some a4 ∧ (isA H a4 0 ∧ (vp_in x1 (ln H a4) ∧ (q H (hI H (tg H a4) a4 x1.toNatClampNeg))))) ∧ (x2 = 1 → ∃ a7, (hC H 101 a2) = some a7 ∧ (isA H a7 0 ∧ (vp_in x1 (ln H a7) ∧ (q H (hI H (tg H a7) a7 x1.toNatClampNeg))))) ∧ (x2 = 2 → ∃ a10, (hC H 102 a2) = some a10 ∧ (isA H a10 0 ∧ (vp_in x1 (ln H a10) ∧ (q H (hI H (tg H a10) a10 x1.toNatClampNeg))))) ∧ (x2 = 3 → ∃ a13, (hC H 103 a2) = some a13 ∧ (isA H a13 0 ∧ (vp_in x1 (ln H a13) ∧ (q H (hI H (tg H a13) a13 x1.toNatClampNeg))))) ∧ (x2 = 4 → ∃ a16, (hC H 106 a2) = some a16 ∧ (isA H a16 0 ∧ (vp_in x1 (ln H a16) ∧ (q H (hI H (tg H a16) a16 x1.toNatClampNeg))))) ∧ (x2 = 5 → CI d 0 0 mX11_truthOf [rv (some a0), .int x1] H (fun H19 r20 => q H19 r20))) ∧ (¬ (x1 < (hI H 104 a2 0)) → q H (-1 : Int32))))))
set_option maxRecDepth 40000 in
set_option maxHeartbeats 4000000 in
theorem T_X11_claimOf_0 {d : Nat} {q : HP → Int32 → Prop} {a0 : Nat} {x1 : Int32} {x2 : Int32} {H : HP} (h : wb_X11_claimOf_0 d q a0 x1 x2 H) : WP (d + 1) mX11_claimOf 0 0 0 [(0, rv (some a0)), (1, .int x1), (2, .int x2)] [] H (qI q) := by
  unfold wb_X11_claimOf_0 at h
  refine wp_iload_n 1 dX11_claimOf_0 rfl ?_
  refine wp_if_lt (tgt := 15) dX11_claimOf_1 rfl (fun c => ?_) (fun c => ?_)
  · replace h := h.1 c
    refine wp_iconst (v := (-1 : Int32)) dX11_claimOf_15 (by decide) ?_
    exact wp_ireturn (ty := .int) dX11_claimOf_16 rfl rfl ⟨_, rfl, h⟩
  · replace h := h.2 c
    refine wp_iload_n 1 dX11_claimOf_4 rfl ?_
    refine wp_aload_n 0 dX11_claimOf_5 rfl ?_
    obtain ⟨ht1, h⟩ := h
    refine wp_getC (ci := 11) (j := 2) dX11_claimOf_6 fi_X11_28r rfl rfl ht1 ?_
    change WP _ _ _ _ _ _ (rv (hC H 1202 a0) :: _) _ _
    obtain ⟨a2, ha2, h⟩ := h
    obtain ⟨ht3, h⟩ := h
    refine wp_getI (ci := 0) (j := 4) dX11_claimOf_9 fi_X11_273r rfl ha2 ht3 ?_
    change WP _ _ _ _ _ _ (.int (hI H 104 a2 0) :: _) _ _
    refine wp_icmp_lt (tgt := 17) dX11_claimOf_12 rfl (fun c => ?_) (fun c => ?_)
    · replace h := h.1 c
      refine wp_iload_n 2 dX11_claimOf_17 rfl ?_
      by_cases c : x2.toInt < 0 ∨ 5 < x2.toInt
      · replace h := h.1 c
        refine wp_tableOut (tgt := 112) dX11_claimOf_18 c rfl ?_
        refine wp_iconst (v := (-1 : Int32)) dX11_claimOf_112 (by decide) ?_
        exact wp_ireturn (ty := .int) dX11_claimOf_113 rfl rfl ⟨_, rfl, h⟩
      · replace h := h.2
        have e : x2.toInt = 0 ∨ x2.toInt = 1 ∨ x2.toInt = 2 ∨ x2.toInt = 3 ∨ x2.toInt = 4 ∨ x2.toInt = 5 := by omega
        rcases e with e | e | e | e | e | e
        · replace h := h.1 (Int32.toInt_inj.mp e)
          refine wp_tableIn (tgt := 56) dX11_claimOf_18 (by omega) (by omega) (by rw [e]; rfl) rfl ?_
          refine wp_aload_n 0 dX11_claimOf_56 rfl ?_
          refine wp_getC (ci := 11) (j := 2) dX11_claimOf_57 fi_X11_28r rfl rfl ht1 ?_
          change WP _ _ _ _ _ _ (rv (hC H 1202 a0) :: _) _ _
          refine wp_getC (ci := 0) (j := 0) dX11_claimOf_60 fi_X11_277 rfl ha2 ht3 ?_
          change WP _ _ _ _ _ _ (rv (hC H 100 a2) :: _) _ _
          refine wp_iload_n 1 dX11_claimOf_63 rfl ?_
          obtain ⟨a4, ha4, h⟩ := h
          obtain ⟨hr5, h⟩ := h
          obtain ⟨hg6, h⟩ := h
          refine wp_iaload dX11_claimOf_64 ha4 hr5 hg6 ?_
          exact wp_ireturn (ty := .int) dX11_claimOf_65 rfl rfl ⟨_, rfl, h⟩
        · replace h := h.2.1 (Int32.toInt_inj.mp e)
          refine wp_tableIn (tgt := 66) dX11_claimOf_18 (by omega) (by omega) (by rw [e]; rfl) rfl ?_
          refine wp_aload_n 0 dX11_claimOf_66 rfl ?_
          refine wp_getC (ci := 11) (j := 2) dX11_claimOf_67 fi_X11_28r rfl rfl ht1 ?_
          change WP _ _ _ _ _ _ (rv (hC H 1202 a0) :: _) _ _
          refine wp_getC (ci := 0) (j := 1) dX11_claimOf_70 fi_X11_280 rfl ha2 ht3 ?_
          change WP _ _ _ _ _ _ (rv (hC H 101 a2) :: _) _ _
          refine wp_iload_n 1 dX11_claimOf_73 rfl ?_
          obtain ⟨a7, ha7, h⟩ := h
          obtain ⟨hr8, h⟩ := h
          obtain ⟨hg9, h⟩ := h
          refine wp_iaload dX11_claimOf_74 ha7 hr8 hg9 ?_
          exact wp_ireturn (ty := .int) dX11_claimOf_75 rfl rfl ⟨_, rfl, h⟩
        · replace h := h.2.2.1 (Int32.toInt_inj.mp e)
          refine wp_tableIn (tgt := 76) dX11_claimOf_18 (by omega) (by omega) (by rw [e]; rfl) rfl ?_
          refine wp_aload_n 0 dX11_claimOf_76 rfl ?_
          refine wp_getC (ci := 11) (j := 2) dX11_claimOf_77 fi_X11_28r rfl rfl ht1 ?_
          change WP _ _ _ _ _ _ (rv (hC H 1202 a0) :: _) _ _
          refine wp_getC (ci := 0) (j := 2) dX11_claimOf_80 fi_X11_283 rfl ha2 ht3 ?_
          change WP _ _ _ _ _ _ (rv (hC H 102 a2) :: _) _ _
          refine wp_iload_n 1 dX11_claimOf_83 rfl ?_
          obtain ⟨a10, ha10, h⟩ := h
          obtain ⟨hr11, h⟩ := h
          obtain ⟨hg12, h⟩ := h
          refine wp_iaload dX11_claimOf_84 ha10 hr11 hg12 ?_
          exact wp_ireturn (ty := .int) dX11_claimOf_85 rfl rfl ⟨_, rfl, h⟩
        · replace h := h.2.2.2.1 (Int32.toInt_inj.mp e)
          refine wp_tableIn (tgt := 86) dX11_claimOf_18 (by omega) (by omega) (by rw [e]; rfl) rfl ?_
          refine wp_aload_n 0 dX11_claimOf_86 rfl ?_
          refine wp_getC (ci := 11) (j := 2) dX11_claimOf_87 fi_X11_28r rfl rfl ht1 ?_
          change WP _ _ _ _ _ _ (rv (hC H 1202 a0) :: _) _ _
          refine wp_getC (ci := 0) (j := 3) dX11_claimOf_90 fi_X11_286 rfl ha2 ht3 ?_
          change WP _ _ _ _ _ _ (rv (hC H 103 a2) :: _) _ _
          refine wp_iload_n 1 dX11_claimOf_93 rfl ?_
          obtain ⟨a13, ha13, h⟩ := h
          obtain ⟨hr14, h⟩ := h
          obtain ⟨hg15, h⟩ := h
          refine wp_iaload dX11_claimOf_94 ha13 hr14 hg15 ?_
          exact wp_ireturn (ty := .int) dX11_claimOf_95 rfl rfl ⟨_, rfl, h⟩
        · replace h := h.2.2.2.2.1 (Int32.toInt_inj.mp e)
          refine wp_tableIn (tgt := 96) dX11_claimOf_18 (by omega) (by omega) (by rw [e]; rfl) rfl ?_
          refine wp_aload_n 0 dX11_claimOf_96 rfl ?_
          refine wp_getC (ci := 11) (j := 2) dX11_claimOf_97 fi_X11_28r rfl rfl ht1 ?_
          change WP _ _ _ _ _ _ (rv (hC H 1202 a0) :: _) _ _
          refine wp_getC (ci := 0) (j := 6) dX11_claimOf_100 fi_X11_289 rfl ha2 ht3 ?_
          change WP _ _ _ _ _ _ (rv (hC H 106 a2) :: _) _ _
          refine wp_iload_n 1 dX11_claimOf_103 rfl ?_
          obtain ⟨a16, ha16, h⟩ := h
          obtain ⟨hr17, h⟩ := h
          obtain ⟨hg18, h⟩ := h
          refine wp_iaload dX11_claimOf_104 ha16 hr17 hg18 ?_
          exact wp_ireturn (ty := .int) dX11_claimOf_105 rfl rfl ⟨_, rfl, h⟩
        · replace h := h.2.2.2.2.2 (Int32.toInt_inj.mp e)
          refine wp_tableIn (tgt := 106) dX11_claimOf_18 (by omega) (by omega) (by rw [e]; rfl) rfl ?_
          refine wp_aload_n 0 dX11_claimOf_106 rfl ?_
          refine wp_iload_n 1 dX11_claimOf_107 rfl ?_
          refine wp_callV (ci := 11) (As := [.int x1]) (rest := []) (mc := 0) (ms := 0) dX11_claimOf_108 lk_X11_292 rfl rfl (by decide) rfl rfl rfl ht1 rfl rfl rfl w_5_17 (Call.weaken h ?_)
          rintro H19 _ ⟨r20, rfl, h⟩
          change WP _ _ _ _ _ _ [.int r20] H19 _
          exact wp_ireturn (ty := .int) dX11_claimOf_111 rfl rfl ⟨_, rfl, h⟩
    · replace h := h.2 c
      refine wp_iconst (v := (-1 : Int32)) dX11_claimOf_15 (by decide) ?_
      exact wp_ireturn (ty := .int) dX11_claimOf_16 rfl rfl ⟨_, rfl, h⟩
theorem C_X11_claimOf {d : Nat} {q : HP → Int32 → Prop} {a0 : Nat} {x1 : Int32} {x2 : Int32} {H : HP} (h : wb_X11_claimOf_0 d q a0 x1 x2 H) : CI (d + 1) 0 0 mX11_claimOf [rv (some a0), .int x1, .int x2] H q := by
  refine call_of (by decide +kernel) (by simp [lg_sl, rv_cat, vc_int, vc_long, vc_float, vc_double]) ?_
  have e : lv_args 0 [rv (some a0), .int x1, .int x2] = [(0, rv (some a0)), (1, .int x1), (2, .int x2)] := by simp [lv_args, rv_cat, vc_int, vc_long, vc_float, vc_double]
  rw [e]
  exact T_X11_claimOf_0 h
def wb_X11_count_0 (d : Nat) (q : HP → Int32 → Prop) (a0 : Nat) (x1 : Int32) (H : HP) : Prop :=
  ((x1.toInt < 0 ∨ 5 < x1.toInt) → q H (-2 : Int32)) ∧ (x1 = 0 → tg H a0 = 12 ∧ (∃ a2, (hC H 1201 a0) = some a2 ∧ (tg H a2 = 11 ∧ (q H (hI H 1101 a2 0))))) ∧ (x1 = 1 → tg H a0 = 12 ∧ (∃ a5, (hC H 1202 a0) = some a5 ∧ (tg H a5 = 1 ∧ (q H (hI H 104 a5 0))))) ∧ (x1 = 2 → tg H a0 = 12 ∧ (∃ a8, (hC H 1200 a0) = some a8 ∧ (tg H a8 = 8 ∧ (q H (hI H 801 a8 0))))) ∧ (x1 = 3 → tg H a0 = 12 ∧ (∃ a11, (hR H 1207 a0 0) = some a11 ∧ (tg H a11 = 5 ∧ (q H (hI H 502 a11 0))))) ∧ (x1 = 4 → tg H a0 = 12 ∧ (CI d 0 0 mX11_filledTracks [rv (some a0)] H (fun H13 r15 => q H13 r15))) ∧ (x1 = 5 → tg H a0 = 12 ∧ (CI d 0 0 mX11_filledPlaces [rv (some a0)] H (fun H16 r18 => q H16 r18)))
set_option maxRecDepth 40000 in
set_option maxHeartbeats 4000000 in
theorem T_X11_count_0 {d : Nat} {q : HP → Int32 → Prop} {a0 : Nat} {x1 : Int32} {H : HP} (h : wb_X11_count_0 d q a0 x1 H) : WP (d + 1) mX11_count 0 0 0 [(0, rv (some a0)), (1, .int x1)] [] H (qI q) := by
  unfold wb_X11_count_0 at h
  refine wp_iload_n 1 dX11_count_0 rfl ?_
  by_cases c : x1.toInt < 0 ∨ 5 < x1.toInt
  · replace h := h.1 c
    refine wp_tableOut (tgt := 82) dX11_count_1 c rfl ?_
    refine wp_bipush (v := (-2 : Int32)) dX11_count_82 (by decide) ?_
    exact wp_ireturn (ty := .int) dX11_count_84 rfl rfl ⟨_, rfl, h⟩
  · replace h := h.2
    have e : x1.toInt = 0 ∨ x1.toInt = 1 ∨ x1.toInt = 2 ∨ x1.toInt = 3 ∨ x1.toInt = 4 ∨ x1.toInt = 5 := by omega
    rcases e with e | e | e | e | e | e
    · replace h := h.1 (Int32.toInt_inj.mp e)
      refine wp_tableIn (tgt := 40) dX11_count_1 (by omega) (by omega) (by rw [e]; rfl) rfl ?_
      refine wp_aload_n 0 dX11_count_40 rfl ?_
      obtain ⟨ht1, h⟩ := h
      refine wp_getC (ci := 11) (j := 1) dX11_count_41 fi_X11_21r rfl rfl ht1 ?_
      change WP _ _ _ _ _ _ (rv (hC H 1201 a0) :: _) _ _
      obtain ⟨a2, ha2, h⟩ := h
      obtain ⟨ht3, h⟩ := h
      refine wp_getI (ci := 10) (j := 1) dX11_count_44 fi_X11_119r rfl ha2 ht3 ?_
      change WP _ _ _ _ _ _ (.int (hI H 1101 a2 0) :: _) _ _
      exact wp_ireturn (ty := .int) dX11_count_47 rfl rfl ⟨_, rfl, h⟩
    · replace h := h.2.1 (Int32.toInt_inj.mp e)
      refine wp_tableIn (tgt := 48) dX11_count_1 (by omega) (by omega) (by rw [e]; rfl) rfl ?_
      refine wp_aload_n 0 dX11_count_48 rfl ?_
      obtain ⟨ht4, h⟩ := h
      refine wp_getC (ci := 11) (j := 2) dX11_count_49 fi_X11_28r rfl rfl ht4 ?_
      change WP _ _ _ _ _ _ (rv (hC H 1202 a0) :: _) _ _
      obtain ⟨a5, ha5, h⟩ := h
      obtain ⟨ht6, h⟩ := h
      refine wp_getI (ci := 0) (j := 4) dX11_count_52 fi_X11_273r rfl ha5 ht6 ?_
      change WP _ _ _ _ _ _ (.int (hI H 104 a5 0) :: _) _ _
      exact wp_ireturn (ty := .int) dX11_count_55 rfl rfl ⟨_, rfl, h⟩
    · replace h := h.2.2.1 (Int32.toInt_inj.mp e)
      refine wp_tableIn (tgt := 56) dX11_count_1 (by omega) (by omega) (by rw [e]; rfl) rfl ?_
      refine wp_aload_n 0 dX11_count_56 rfl ?_
      obtain ⟨ht7, h⟩ := h
      refine wp_getC (ci := 11) (j := 0) dX11_count_57 fi_X11_12r rfl rfl ht7 ?_
      change WP _ _ _ _ _ _ (rv (hC H 1200 a0) :: _) _ _
      obtain ⟨a8, ha8, h⟩ := h
      obtain ⟨ht9, h⟩ := h
      refine wp_getI (ci := 7) (j := 1) dX11_count_60 fi_X11_101r rfl ha8 ht9 ?_
      change WP _ _ _ _ _ _ (.int (hI H 801 a8 0) :: _) _ _
      exact wp_ireturn (ty := .int) dX11_count_63 rfl rfl ⟨_, rfl, h⟩
    · replace h := h.2.2.2.1 (Int32.toInt_inj.mp e)
      refine wp_tableIn (tgt := 64) dX11_count_1 (by omega) (by omega) (by rw [e]; rfl) rfl ?_
      refine wp_aload_n 0 dX11_count_64 rfl ?_
      obtain ⟨ht10, h⟩ := h
      refine wp_getR (ci := 11) (j := 7) dX11_count_65 fi_X11_48r rfl rfl ht10 ?_
      change WP _ _ _ _ _ _ (rv (hR H 1207 a0 0) :: _) _ _
      obtain ⟨a11, ha11, h⟩ := h
      obtain ⟨ht12, h⟩ := h
      refine wp_getI (ci := 4) (j := 2) dX11_count_68 fi_X11_192r rfl ha11 ht12 ?_
      change WP _ _ _ _ _ _ (.int (hI H 502 a11 0) :: _) _ _
      exact wp_ireturn (ty := .int) dX11_count_71 rfl rfl ⟨_, rfl, h⟩
    · replace h := h.2.2.2.2.1 (Int32.toInt_inj.mp e)
      refine wp_tableIn (tgt := 72) dX11_count_1 (by omega) (by omega) (by rw [e]; rfl) rfl ?_
      refine wp_aload_n 0 dX11_count_72 rfl ?_
      obtain ⟨ht14, h⟩ := h
      refine wp_callV (ci := 11) (As := []) (rest := []) (mc := 0) (ms := 0) dX11_count_73 lk_X11_397 rfl rfl (by decide) rfl rfl rfl ht14 rfl rfl rfl w_5_213 (Call.weaken h ?_)
      rintro H13 _ ⟨r15, rfl, h⟩
      change WP _ _ _ _ _ _ [.int r15] H13 _
      exact wp_ireturn (ty := .int) dX11_count_76 rfl rfl ⟨_, rfl, h⟩
    · replace h := h.2.2.2.2.2 (Int32.toInt_inj.mp e)
      refine wp_tableIn (tgt := 77) dX11_count_1 (by omega) (by omega) (by rw [e]; rfl) rfl ?_
      refine wp_aload_n 0 dX11_count_77 rfl ?_
      obtain ⟨ht17, h⟩ := h
      refine wp_callV (ci := 11) (As := []) (rest := []) (mc := 0) (ms := 0) dX11_count_78 lk_X11_400 rfl rfl (by decide) rfl rfl rfl ht17 rfl rfl rfl w_5_217 (Call.weaken h ?_)
      rintro H16 _ ⟨r18, rfl, h⟩
      change WP _ _ _ _ _ _ [.int r18] H16 _
      exact wp_ireturn (ty := .int) dX11_count_81 rfl rfl ⟨_, rfl, h⟩
theorem C_X11_count {d : Nat} {q : HP → Int32 → Prop} {a0 : Nat} {x1 : Int32} {H : HP} (h : wb_X11_count_0 d q a0 x1 H) : CI (d + 1) 0 0 mX11_count [rv (some a0), .int x1] H q := by
  refine call_of (by decide +kernel) (by simp [lg_sl, rv_cat, vc_int, vc_long, vc_float, vc_double]) ?_
  have e : lv_args 0 [rv (some a0), .int x1] = [(0, rv (some a0)), (1, .int x1)] := by simp [lv_args, rv_cat, vc_int, vc_long, vc_float, vc_double]
  rw [e]
  exact T_X11_count_0 h
def wb_X11_define_0 (d : Nat) (q : HP → Int32 → Prop) (a0 : Nat) (H : HP) : Prop :=
  tg H a0 = 12 ∧ (∃ a3, (hC H 1206 a0) = some a3 ∧ (tg H a3 = 2 ∧ (CZ d 0 0 mX1_read [rv (hC H 1206 a0), rv (hC H 1200 a0)] H (fun H2 b5 => (b5 = false → tg H2 a0 = 12 ∧ (∃ a7, (hC H2 1200 a0) = some a7 ∧ (tg H2 a7 = 8 ∧ (CV d 0 0 mX7_clear [rv (hC H2 1200 a0)] H2 (fun H9 => q H9 ((-100 : Int32) - (hI H2 802 a7 0))))))) ∧ (b5 = true → tg H2 a0 = 12 ∧ (∃ a12, (hC H2 1206 a0) = some a12 ∧ (tg H2 a12 = 2 ∧ (CI d 0 0 mX1_addTo [rv (hC H2 1206 a0), rv (hC H2 1201 a0), rv (hC H2 1200 a0)] H2 (fun H11 r14 => tg H11 a0 = 12 ∧ (∃ a17, (hC H11 1200 a0) = some a17 ∧ (tg H11 a17 = 8 ∧ (CV d 0 0 mX7_clear [rv (hC H11 1200 a0)] H11 (fun H16 => q H16 r14)))))))))))))
set_option maxRecDepth 40000 in
set_option maxHeartbeats 4000000 in
theorem T_X11_define_0 {d : Nat} {q : HP → Int32 → Prop} {a0 : Nat} {H : HP} (h : wb_X11_define_0 d q a0 H) : WP (d + 1) mX11_define 0 0 0 [(0, rv (some a0))] [] H (qI q) := by
  unfold wb_X11_define_0 at h
  refine wp_aload_n 0 dX11_define_0 rfl ?_
  obtain ⟨ht1, h⟩ := h
  refine wp_getC (ci := 11) (j := 6) dX11_define_1 fi_X11_41r rfl rfl ht1 ?_
  change WP _ _ _ _ _ _ (rv (hC H 1206 a0) :: _) _ _
  refine wp_aload_n 0 dX11_define_4 rfl ?_
  refine wp_getC (ci := 11) (j := 0) dX11_define_5 fi_X11_12r rfl rfl ht1 ?_
  change WP _ _ _ _ _ _ (rv (hC H 1200 a0) :: _) _ _
  obtain ⟨a3, ha3, h⟩ := h
  obtain ⟨ht4, h⟩ := h
  refine wp_callV (ci := 1) (As := [rv (hC H 1200 a0)]) (rest := []) (mc := 0) (ms := 0) dX11_define_8 lk_X11_105 rfl rfl (by decide) ha3 rfl rfl ht4 rfl rfl rfl w_3_14 (Call.weaken h ?_)
  rintro H2 _ ⟨b5, rfl, h⟩
  change WP _ _ _ _ _ _ [.int (bI b5)] H2 _
  refine wp_if_eq (tgt := 32) dX11_define_11 rfl (fun c => ?_) (fun c => ?_)
  · replace h := h.1 (bI_0.mp c)
    refine wp_bipush (v := (-100 : Int32)) dX11_define_32 (by decide) ?_
    refine wp_aload_n 0 dX11_define_34 rfl ?_
    obtain ⟨ht6, h⟩ := h
    refine wp_getC (ci := 11) (j := 0) dX11_define_35 fi_X11_12r rfl rfl ht6 ?_
    change WP _ _ _ _ _ _ (rv (hC H2 1200 a0) :: _) _ _
    obtain ⟨a7, ha7, h⟩ := h
    obtain ⟨ht8, h⟩ := h
    refine wp_getI (ci := 7) (j := 2) dX11_define_38 fi_X11_113r rfl ha7 ht8 ?_
    change WP _ _ _ _ _ _ (.int (hI H2 802 a7 0) :: _) _ _
    refine wp_isub dX11_define_41 ?_
    refine wp_istore_n (ls' := [(1, .int ((-100 : Int32) - (hI H2 802 a7 0))), (0, rv (some a0))]) dX11_define_42 (by decide) rfl ?_
    refine wp_aload_n 1 dX11_define_43 rfl ?_
    refine wp_getC (ci := 11) (j := 0) dX11_define_44 fi_X11_12r rfl rfl ht6 ?_
    change WP _ _ _ _ _ _ (rv (hC H2 1200 a0) :: _) _ _
    refine wp_callV (ci := 7) (As := []) (rest := []) (mc := 0) (ms := 0) dX11_define_47 lk_X11_116 rfl rfl (by decide) ha7 rfl rfl ht8 rfl rfl rfl w_3_147 (Call.weaken h ?_)
    rintro H9 _ ⟨rfl, h⟩
    change WP _ _ _ _ _ _ [] H9 _
    refine wp_iload_n 0 dX11_define_50 rfl ?_
    exact wp_ireturn (ty := .int) dX11_define_51 rfl rfl ⟨_, rfl, h⟩
  · replace h := h.2 (bI_1.mp c)
    refine wp_aload_n 0 dX11_define_14 rfl ?_
    obtain ⟨ht10, h⟩ := h
    refine wp_getC (ci := 11) (j := 6) dX11_define_15 fi_X11_41r rfl rfl ht10 ?_
    change WP _ _ _ _ _ _ (rv (hC H2 1206 a0) :: _) _ _
    refine wp_aload_n 0 dX11_define_18 rfl ?_
    refine wp_getC (ci := 11) (j := 1) dX11_define_19 fi_X11_21r rfl rfl ht10 ?_
    change WP _ _ _ _ _ _ (rv (hC H2 1201 a0) :: _) _ _
    refine wp_aload_n 0 dX11_define_22 rfl ?_
    refine wp_getC (ci := 11) (j := 0) dX11_define_23 fi_X11_12r rfl rfl ht10 ?_
    change WP _ _ _ _ _ _ (rv (hC H2 1200 a0) :: _) _ _
    obtain ⟨a12, ha12, h⟩ := h
    obtain ⟨ht13, h⟩ := h
    refine wp_callV (ci := 1) (As := [rv (hC H2 1201 a0), rv (hC H2 1200 a0)]) (rest := []) (mc := 0) (ms := 0) dX11_define_26 lk_X11_109 rfl rfl (by decide) ha12 rfl rfl ht13 rfl rfl rfl w_3_66 (Call.weaken h ?_)
    rintro H11 _ ⟨r14, rfl, h⟩
    change WP _ _ _ _ _ _ [.int r14] H11 _
    refine wp_goto (tgt := 42) dX11_define_29 rfl ?_
    refine wp_istore_n (ls' := [(1, .int r14), (0, rv (some a0))]) dX11_define_42 (by decide) rfl ?_
    refine wp_aload_n 1 dX11_define_43 rfl ?_
    obtain ⟨ht15, h⟩ := h
    refine wp_getC (ci := 11) (j := 0) dX11_define_44 fi_X11_12r rfl rfl ht15 ?_
    change WP _ _ _ _ _ _ (rv (hC H11 1200 a0) :: _) _ _
    obtain ⟨a17, ha17, h⟩ := h
    obtain ⟨ht18, h⟩ := h
    refine wp_callV (ci := 7) (As := []) (rest := []) (mc := 0) (ms := 0) dX11_define_47 lk_X11_116 rfl rfl (by decide) ha17 rfl rfl ht18 rfl rfl rfl w_3_147 (Call.weaken h ?_)
    rintro H16 _ ⟨rfl, h⟩
    change WP _ _ _ _ _ _ [] H16 _
    refine wp_iload_n 0 dX11_define_50 rfl ?_
    exact wp_ireturn (ty := .int) dX11_define_51 rfl rfl ⟨_, rfl, h⟩
theorem C_X11_define {d : Nat} {q : HP → Int32 → Prop} {a0 : Nat} {H : HP} (h : wb_X11_define_0 d q a0 H) : CI (d + 1) 0 0 mX11_define [rv (some a0)] H q := by
  refine call_of (by decide +kernel) (by simp [lg_sl, rv_cat, vc_int, vc_long, vc_float, vc_double]) ?_
  have e : lv_args 0 [rv (some a0)] = [(0, rv (some a0))] := by simp [lv_args, rv_cat, vc_int, vc_long, vc_float, vc_double]
  rw [e]
  exact T_X11_define_0 h
def wb_X11_drop_0 (d : Nat) (q : HP → Int32 → Prop) (a0 : Nat) (H : HP) : Prop :=
  tg H a0 = 12 ∧ (∃ a2, (hC H 1201 a0) = some a2 ∧ (tg H a2 = 11 ∧ (((5 : Int32) < (hI H 1101 a2 0) → ∃ a4, (hC (sI H 1101 a2 0 ((hI H 1101 a2 0) - (1 : Int32))) 1201 a0) = some a4 ∧ (tg (sI H 1101 a2 0 ((hI H 1101 a2 0) - (1 : Int32))) a4 = 11 ∧ (∃ a7, (hC (sI H 1101 a2 0 ((hI H 1101 a2 0) - (1 : Int32))) 1202 a0) = some a7 ∧ (tg (sI H 1101 a2 0 ((hI H 1101 a2 0) - (1 : Int32))) a7 = 1 ∧ (CV d 0 0 mX0_removeOf [rv (hC (sI H 1101 a2 0 ((hI H 1101 a2 0) - (1 : Int32))) 1202 a0), .int (hI (sI H 1101 a2 0 ((hI H 1101 a2 0) - (1 : Int32))) 1101 a4 0)] (sI H 1101 a2 0 ((hI H 1101 a2 0) - (1 : Int32))) (fun H6 => tg H6 a0 = 12 ∧ (∃ a10, (hC H6 1201 a0) = some a10 ∧ (tg H6 a10 = 11 ∧ (q H6 (hI H6 1101 a10 0)))))))))) ∧ (¬ ((5 : Int32) < (hI H 1101 a2 0)) → q H (-3 : Int32)))))
set_option maxRecDepth 40000 in
set_option maxHeartbeats 4000000 in
theorem T_X11_drop_0 {d : Nat} {q : HP → Int32 → Prop} {a0 : Nat} {H : HP} (h : wb_X11_drop_0 d q a0 H) : WP (d + 1) mX11_drop 0 0 0 [(0, rv (some a0))] [] H (qI q) := by
  unfold wb_X11_drop_0 at h
  refine wp_aload_n 0 dX11_drop_0 rfl ?_
  obtain ⟨ht1, h⟩ := h
  refine wp_getC (ci := 11) (j := 1) dX11_drop_1 fi_X11_21r rfl rfl ht1 ?_
  change WP _ _ _ _ _ _ (rv (hC H 1201 a0) :: _) _ _
  obtain ⟨a2, ha2, h⟩ := h
  obtain ⟨ht3, h⟩ := h
  refine wp_getI (ci := 10) (j := 1) dX11_drop_4 fi_X11_119r rfl ha2 ht3 ?_
  change WP _ _ _ _ _ _ (.int (hI H 1101 a2 0) :: _) _ _
  refine wp_iconst (v := (5 : Int32)) dX11_drop_7 (by decide) ?_
  refine wp_icmp_gt (tgt := 14) dX11_drop_8 rfl (fun c => ?_) (fun c => ?_)
  · replace h := h.1 c
    refine wp_aload_n 0 dX11_drop_14 rfl ?_
    refine wp_getC (ci := 11) (j := 1) dX11_drop_15 fi_X11_21r rfl rfl ht1 ?_
    change WP _ _ _ _ _ _ (rv (hC H 1201 a0) :: _) _ _
    refine wp_dup dX11_drop_18 (rv_cat _) ?_
    refine wp_getI (ci := 10) (j := 1) dX11_drop_19 fi_X11_119r rfl ha2 ht3 ?_
    change WP _ _ _ _ _ _ (.int (hI H 1101 a2 0) :: _) _ _
    refine wp_iconst (v := (1 : Int32)) dX11_drop_22 (by decide) ?_
    refine wp_isub dX11_drop_23 ?_
    refine wp_putI (ci := 10) (j := 1) dX11_drop_24 fi_X11_119 rfl (fun z => by cases z) ha2 ht3 rfl rfl ?_
    change WP _ _ _ _ _ _ _ (sI H 1101 a2 0 ((hI H 1101 a2 0) - (1 : Int32))) _
    refine wp_aload_n 0 dX11_drop_27 rfl ?_
    refine wp_getC (ci := 11) (j := 2) dX11_drop_28 fi_X11_28r rfl rfl ht1 ?_
    change WP _ _ _ _ _ _ (rv (hC (sI H 1101 a2 0 ((hI H 1101 a2 0) - (1 : Int32))) 1202 a0) :: _) _ _
    refine wp_aload_n 0 dX11_drop_31 rfl ?_
    refine wp_getC (ci := 11) (j := 1) dX11_drop_32 fi_X11_21r rfl rfl ht1 ?_
    change WP _ _ _ _ _ _ (rv (hC (sI H 1101 a2 0 ((hI H 1101 a2 0) - (1 : Int32))) 1201 a0) :: _) _ _
    obtain ⟨a4, ha4, h⟩ := h
    obtain ⟨ht5, h⟩ := h
    refine wp_getI (ci := 10) (j := 1) dX11_drop_35 fi_X11_119r rfl ha4 ht5 ?_
    change WP _ _ _ _ _ _ (.int (hI (sI H 1101 a2 0 ((hI H 1101 a2 0) - (1 : Int32))) 1101 a4 0) :: _) _ _
    obtain ⟨a7, ha7, h⟩ := h
    obtain ⟨ht8, h⟩ := h
    refine wp_callV (ci := 0) (As := [.int (hI (sI H 1101 a2 0 ((hI H 1101 a2 0) - (1 : Int32))) 1101 a4 0)]) (rest := []) (mc := 0) (ms := 0) dX11_drop_38 lk_X11_122 rfl rfl (by decide) ha7 rfl rfl ht8 rfl rfl rfl w_3_155 (Call.weaken h ?_)
    rintro H6 _ ⟨rfl, h⟩
    change WP _ _ _ _ _ _ [] H6 _
    refine wp_aload_n 0 dX11_drop_41 rfl ?_
    obtain ⟨ht9, h⟩ := h
    refine wp_getC (ci := 11) (j := 1) dX11_drop_42 fi_X11_21r rfl rfl ht9 ?_
    change WP _ _ _ _ _ _ (rv (hC H6 1201 a0) :: _) _ _
    obtain ⟨a10, ha10, h⟩ := h
    obtain ⟨ht11, h⟩ := h
    refine wp_getI (ci := 10) (j := 1) dX11_drop_45 fi_X11_119r rfl ha10 ht11 ?_
    change WP _ _ _ _ _ _ (.int (hI H6 1101 a10 0) :: _) _ _
    exact wp_ireturn (ty := .int) dX11_drop_48 rfl rfl ⟨_, rfl, h⟩
  · replace h := h.2 c
    refine wp_bipush (v := (-3 : Int32)) dX11_drop_11 (by decide) ?_
    exact wp_ireturn (ty := .int) dX11_drop_13 rfl rfl ⟨_, rfl, h⟩
theorem C_X11_drop {d : Nat} {q : HP → Int32 → Prop} {a0 : Nat} {H : HP} (h : wb_X11_drop_0 d q a0 H) : CI (d + 1) 0 0 mX11_drop [rv (some a0)] H q := by
  refine call_of (by decide +kernel) (by simp [lg_sl, rv_cat, vc_int, vc_long, vc_float, vc_double]) ?_
  have e : lv_args 0 [rv (some a0)] = [(0, rv (some a0))] := by simp [lv_args, rv_cat, vc_int, vc_long, vc_float, vc_double]
  rw [e]
  exact T_X11_drop_0 h
/-- UnitProver.equalRows([I[I)Z: the loop at 2 -/
def L_X11_equalRows_2 (d : Nat) (q : HP → Bool → Prop) (o0 : Option Nat) (o1 : Option Nat) (x2 : Int32) (H : HP) : Prop := WP (d + 1) mX11_equalRows 0 0 2 [(0, rv o0), (1, rv o1), (2, .int x2)] [] H (qZ q)
def wb_X11_equalRows_0 (d : Nat) (q : HP → Bool → Prop) (o0 : Option Nat) (o1 : Option Nat) (H : HP) : Prop :=
  L_X11_equalRows_2 d q o0 o1 (0 : Int32) H
set_option maxRecDepth 40000 in
set_option maxHeartbeats 4000000 in
theorem T_X11_equalRows_0 {d : Nat} {q : HP → Bool → Prop} {o0 : Option Nat} {o1 : Option Nat} {H : HP} (h : wb_X11_equalRows_0 d q o0 o1 H) : WP (d + 1) mX11_equalRows 0 0 0 [(0, rv o0), (1, rv o1)] [] H (qZ q) := by
  unfold wb_X11_equalRows_0 at h
  refine wp_iconst (v := (0 : Int32)) dX11_equalRows_0 (by decide) ?_
  refine wp_istore_n (ls' := [(2, .int (0 : Int32)), (0, rv o0), (1, rv o1)]) dX11_equalRows_1 (by decide) (by change st1 _ 2 _ = _; simp [st1, rv_cat, vc_int, vc_long, vc_float, vc_double]) ?_
  refine wp_sub (ls' := [(0, rv o0), (1, rv o1), (2, .int (0 : Int32))]) [1, 2, 0] rfl ?_
  exact h
def wb_X11_equalRows_2 (d : Nat) (q : HP → Bool → Prop) (o0 : Option Nat) (o1 : Option Nat) (x2 : Int32) (H : HP) : Prop :=
  ((5 : Int32) ≤ x2 → q H true) ∧ (¬ ((5 : Int32) ≤ x2) → ∃ a1, o0 = some a1 ∧ (isA H a1 0 ∧ (vp_in x2 (ln H a1) ∧ (∃ a4, o1 = some a4 ∧ (isA H a4 0 ∧ (vp_in x2 (ln H a4) ∧ (((hI H (tg H a1) a1 x2.toNatClampNeg) = (hI H (tg H a4) a4 x2.toNatClampNeg) → L_X11_equalRows_2 d q o0 o1 (x2 + 1) H) ∧ (¬ ((hI H (tg H a1) a1 x2.toNatClampNeg) = (hI H (tg H a4) a4 x2.toNatClampNeg)) → q H false))))))))
set_option maxRecDepth 40000 in
set_option maxHeartbeats 4000000 in
theorem T_X11_equalRows_2 {d : Nat} {q : HP → Bool → Prop} {o0 : Option Nat} {o1 : Option Nat} {x2 : Int32} {H : HP} (h : wb_X11_equalRows_2 d q o0 o1 x2 H) : L_X11_equalRows_2 d q o0 o1 x2 H := by
  unfold wb_X11_equalRows_2 at h
  unfold L_X11_equalRows_2
  refine wp_iload_n 2 dX11_equalRows_2 rfl ?_
  refine wp_iconst (v := (5 : Int32)) dX11_equalRows_3 (by decide) ?_
  refine wp_icmp_ge (tgt := 24) dX11_equalRows_4 rfl (fun c => ?_) (fun c => ?_)
  · replace h := h.1 c
    refine wp_iconst (v := (1 : Int32)) dX11_equalRows_24 (by decide) ?_
    exact wp_ireturn (ty := .boolean) dX11_equalRows_25 rfl rfl ⟨true, rfl, h⟩
  · replace h := h.2 c
    refine wp_aload_n 0 dX11_equalRows_7 rfl ?_
    refine wp_iload_n 2 dX11_equalRows_8 rfl ?_
    obtain ⟨a1, ha1, h⟩ := h
    obtain ⟨hr2, h⟩ := h
    obtain ⟨hg3, h⟩ := h
    refine wp_iaload dX11_equalRows_9 ha1 hr2 hg3 ?_
    refine wp_aload_n 1 dX11_equalRows_10 rfl ?_
    refine wp_iload_n 2 dX11_equalRows_11 rfl ?_
    obtain ⟨a4, ha4, h⟩ := h
    obtain ⟨hr5, h⟩ := h
    obtain ⟨hg6, h⟩ := h
    refine wp_iaload dX11_equalRows_12 ha4 hr5 hg6 ?_
    refine wp_icmp_eq (tgt := 18) dX11_equalRows_13 rfl (fun c => ?_) (fun c => ?_)
    · replace h := h.1 c
      refine wp_iinc (v := (x2 + 1)) (ls' := [(2, .int (x2 + 1)), (0, rv o0), (1, rv o1)]) 2 dX11_equalRows_18 rfl rfl (by decide) (by simp [st1, rv_cat, vc_int, vc_long, vc_float, vc_double]) ?_
      refine wp_goto (tgt := 2) dX11_equalRows_21 rfl ?_
      refine wp_sub (ls' := [(0, rv o0), (1, rv o1), (2, .int (x2 + 1))]) [1, 2, 0] rfl ?_
      exact h
    · replace h := h.2 c
      refine wp_iconst (v := (0 : Int32)) dX11_equalRows_16 (by decide) ?_
      exact wp_ireturn (ty := .boolean) dX11_equalRows_17 rfl rfl ⟨false, rfl, h⟩
theorem C_X11_equalRows {d : Nat} {q : HP → Bool → Prop} {o0 : Option Nat} {o1 : Option Nat} {H : HP} (h : wb_X11_equalRows_0 d q o0 o1 H) : CZ (d + 1) 0 0 mX11_equalRows [rv o0, rv o1] H q := by
  refine call_of (by decide +kernel) (by simp [lg_sl, rv_cat, vc_int, vc_long, vc_float, vc_double]) ?_
  have e : lv_args 0 [rv o0, rv o1] = [(0, rv o0), (1, rv o1)] := by simp [lv_args, rv_cat, vc_int, vc_long, vc_float, vc_double]
  rw [e]
  exact T_X11_equalRows_0 h
def wb_X11_feed_0 (d : Nat) (q : HP → Int32 → Prop) (a0 : Nat) (x1 : Int32) (H : HP) : Prop :=
  (x1 < (1 : Int32) → q H (-2 : Int32)) ∧ (¬ (x1 < (1 : Int32)) → (x1 ≤ (127 : Int32) → tg H a0 = 12 ∧ (∃ a3, (hC H 1200 a0) = some a3 ∧ (tg H a3 = 8 ∧ (CZ d 0 0 mX7_append [rv (hC H 1200 a0), .int x1] H (fun H2 b5 => (b5 = false → q H2 (-4 : Int32)) ∧ (b5 = true → tg H2 a0 = 12 ∧ (∃ a7, (hC H2 1200 a0) = some a7 ∧ (tg H2 a7 = 8 ∧ (q H2 (hI H2 801 a7 0)))))))))) ∧ (¬ (x1 ≤ (127 : Int32)) → q H (-2 : Int32)))
set_option maxRecDepth 40000 in
set_option maxHeartbeats 4000000 in
theorem T_X11_feed_0 {d : Nat} {q : HP → Int32 → Prop} {a0 : Nat} {x1 : Int32} {H : HP} (h : wb_X11_feed_0 d q a0 x1 H) : WP (d + 1) mX11_feed 0 0 0 [(0, rv (some a0)), (1, .int x1)] [] H (qI q) := by
  unfold wb_X11_feed_0 at h
  refine wp_iload_n 1 dX11_feed_0 rfl ?_
  refine wp_iconst (v := (1 : Int32)) dX11_feed_1 (by decide) ?_
  refine wp_icmp_lt (tgt := 11) dX11_feed_2 rfl (fun c => ?_) (fun c => ?_)
  · replace h := h.1 c
    refine wp_bipush (v := (-2 : Int32)) dX11_feed_11 (by decide) ?_
    exact wp_ireturn (ty := .int) dX11_feed_13 rfl rfl ⟨_, rfl, h⟩
  · replace h := h.2 c
    refine wp_iload_n 1 dX11_feed_5 rfl ?_
    refine wp_bipush (v := (127 : Int32)) dX11_feed_6 (by decide) ?_
    refine wp_icmp_le (tgt := 14) dX11_feed_8 rfl (fun c => ?_) (fun c => ?_)
    · replace h := h.1 c
      refine wp_aload_n 0 dX11_feed_14 rfl ?_
      obtain ⟨ht1, h⟩ := h
      refine wp_getC (ci := 11) (j := 0) dX11_feed_15 fi_X11_12r rfl rfl ht1 ?_
      change WP _ _ _ _ _ _ (rv (hC H 1200 a0) :: _) _ _
      refine wp_iload_n 1 dX11_feed_18 rfl ?_
      obtain ⟨a3, ha3, h⟩ := h
      obtain ⟨ht4, h⟩ := h
      refine wp_callV (ci := 7) (As := [.int x1]) (rest := []) (mc := 0) (ms := 0) dX11_feed_19 lk_X11_97 rfl rfl (by decide) ha3 rfl rfl ht4 rfl rfl rfl w_3_6 (Call.weaken h ?_)
      rintro H2 _ ⟨b5, rfl, h⟩
      change WP _ _ _ _ _ _ [.int (bI b5)] H2 _
      refine wp_if_eq (tgt := 35) dX11_feed_22 rfl (fun c => ?_) (fun c => ?_)
      · replace h := h.1 (bI_0.mp c)
        refine wp_bipush (v := (-4 : Int32)) dX11_feed_35 (by decide) ?_
        exact wp_ireturn (ty := .int) dX11_feed_37 rfl rfl ⟨_, rfl, h⟩
      · replace h := h.2 (bI_1.mp c)
        refine wp_aload_n 0 dX11_feed_25 rfl ?_
        obtain ⟨ht6, h⟩ := h
        refine wp_getC (ci := 11) (j := 0) dX11_feed_26 fi_X11_12r rfl rfl ht6 ?_
        change WP _ _ _ _ _ _ (rv (hC H2 1200 a0) :: _) _ _
        obtain ⟨a7, ha7, h⟩ := h
        obtain ⟨ht8, h⟩ := h
        refine wp_getI (ci := 7) (j := 1) dX11_feed_29 fi_X11_101r rfl ha7 ht8 ?_
        change WP _ _ _ _ _ _ (.int (hI H2 801 a7 0) :: _) _ _
        refine wp_goto (tgt := 37) dX11_feed_32 rfl ?_
        exact wp_ireturn (ty := .int) dX11_feed_37 rfl rfl ⟨_, rfl, h⟩
    · replace h := h.2 c
      refine wp_bipush (v := (-2 : Int32)) dX11_feed_11 (by decide) ?_
      exact wp_ireturn (ty := .int) dX11_feed_13 rfl rfl ⟨_, rfl, h⟩
theorem C_X11_feed {d : Nat} {q : HP → Int32 → Prop} {a0 : Nat} {x1 : Int32} {H : HP} (h : wb_X11_feed_0 d q a0 x1 H) : CI (d + 1) 0 0 mX11_feed [rv (some a0), .int x1] H q := by
  refine call_of (by decide +kernel) (by simp [lg_sl, rv_cat, vc_int, vc_long, vc_float, vc_double]) ?_
  have e : lv_args 0 [rv (some a0), .int x1] = [(0, rv (some a0)), (1, .int x1)] := by simp [lv_args, rv_cat, vc_int, vc_long, vc_float, vc_double]
  rw [e]
  exact T_X11_feed_0 h
/-- UnitProver.filledPlaces()I: the loop at 4 -/
def L_X11_filledPlaces_4 (d : Nat) (q : HP → Int32 → Prop) (a0 : Nat) (x1 : Int32) (x2 : Int32) (H : HP) : Prop := WP (d + 1) mX11_filledPlaces 0 0 4 [(0, rv (some a0)), (1, .int x1), (2, .int x2)] [] H (qI q)
def wb_X11_filledPlaces_0 (d : Nat) (q : HP → Int32 → Prop) (a0 : Nat) (H : HP) : Prop :=
  L_X11_filledPlaces_4 d q a0 (0 : Int32) (0 : Int32) H
set_option maxRecDepth 40000 in
set_option maxHeartbeats 4000000 in
theorem T_X11_filledPlaces_0 {d : Nat} {q : HP → Int32 → Prop} {a0 : Nat} {H : HP} (h : wb_X11_filledPlaces_0 d q a0 H) : WP (d + 1) mX11_filledPlaces 0 0 0 [(0, rv (some a0))] [] H (qI q) := by
  unfold wb_X11_filledPlaces_0 at h
  refine wp_iconst (v := (0 : Int32)) dX11_filledPlaces_0 (by decide) ?_
  refine wp_istore_n (ls' := [(1, .int (0 : Int32)), (0, rv (some a0))]) dX11_filledPlaces_1 (by decide) rfl ?_
  refine wp_iconst (v := (0 : Int32)) dX11_filledPlaces_2 (by decide) ?_
  refine wp_istore_n (ls' := [(2, .int (0 : Int32)), (1, .int (0 : Int32)), (0, rv (some a0))]) dX11_filledPlaces_3 (by decide) rfl ?_
  refine wp_sub (ls' := [(0, rv (some a0)), (1, .int (0 : Int32)), (2, .int (0 : Int32))]) [2, 1, 0] rfl ?_
  exact h
def wb_X11_filledPlaces_4 (d : Nat) (q : HP → Int32 → Prop) (a0 : Nat) (x1 : Int32) (x2 : Int32) (H : HP) : Prop :=
  ((3 : Int32) ≤ x2 → q H x1) ∧ (¬ ((3 : Int32) ≤ x2) → tg H a0 = 12 ∧ (∃ a2, (hC H 1211 a0) = some a2 ∧ (isA H a2 9 ∧ (vp_in x2 (ln H a2) ∧ (∃ a6, (hR H (tg H a2) a2 x2.toNatClampNeg) = some a6 ∧ (tg H a6 = 6 ∧ (CI d 0 0 mX5_filled [rv (hR H (tg H a2) a2 x2.toNatClampNeg)] H (fun H5 r8 => L_X11_filledPlaces_4 d q a0 (x1 + r8) (x2 + 1) H5))))))))
set_option maxRecDepth 40000 in
set_option maxHeartbeats 4000000 in
theorem T_X11_filledPlaces_4 {d : Nat} {q : HP → Int32 → Prop} {a0 : Nat} {x1 : Int32} {x2 : Int32} {H : HP} (h : wb_X11_filledPlaces_4 d q a0 x1 x2 H) : L_X11_filledPlaces_4 d q a0 x1 x2 H := by
  unfold wb_X11_filledPlaces_4 at h
  unfold L_X11_filledPlaces_4
  refine wp_iload_n 2 dX11_filledPlaces_4 rfl ?_
  refine wp_iconst (v := (3 : Int32)) dX11_filledPlaces_5 (by decide) ?_
  refine wp_icmp_ge (tgt := 27) dX11_filledPlaces_6 rfl (fun c => ?_) (fun c => ?_)
  · replace h := h.1 c
    refine wp_iload_n 1 dX11_filledPlaces_27 rfl ?_
    exact wp_ireturn (ty := .int) dX11_filledPlaces_28 rfl rfl ⟨_, rfl, h⟩
  · replace h := h.2 c
    refine wp_iload_n 1 dX11_filledPlaces_9 rfl ?_
    refine wp_aload_n 0 dX11_filledPlaces_10 rfl ?_
    obtain ⟨ht1, h⟩ := h
    refine wp_getC (ci := 11) (j := 11) dX11_filledPlaces_11 fi_X11_63r rfl rfl ht1 ?_
    change WP _ _ _ _ _ _ (rv (hC H 1211 a0) :: _) _ _
    refine wp_iload_n 2 dX11_filledPlaces_14 rfl ?_
    obtain ⟨a2, ha2, h⟩ := h
    obtain ⟨hr3, h⟩ := h
    obtain ⟨hg4, h⟩ := h
    refine wp_aaload (e := 9) dX11_filledPlaces_15 ha2 hr3 (by decide) hg4 ?_
    obtain ⟨a6, ha6, h⟩ := h
    obtain ⟨ht7, h⟩ := h
    refine wp_callV (ci := 5) (As := []) (rest := [.int x1]) (mc := 0) (ms := 0) dX11_filledPlaces_16 lk_X11_418 rfl rfl (by simp [rv_cat, vc_int, vc_long, vc_float, vc_double]) ha6 rfl rfl ht7 rfl rfl rfl w_5_221 (Call.weaken h ?_)
    rintro H5 _ ⟨r8, rfl, h⟩
    change WP _ _ _ _ _ _ [.int r8, .int x1] H5 _
    refine wp_iadd dX11_filledPlaces_19 ?_
    refine wp_istore_n (ls' := [(1, .int (x1 + r8)), (0, rv (some a0)), (2, .int x2)]) dX11_filledPlaces_20 (by decide) rfl ?_
    refine wp_iinc (v := (x2 + 1)) (ls' := [(2, .int (x2 + 1)), (1, .int (x1 + r8)), (0, rv (some a0))]) 2 dX11_filledPlaces_21 rfl rfl (by decide) rfl ?_
    refine wp_goto (tgt := 4) dX11_filledPlaces_24 rfl ?_
    refine wp_sub (ls' := [(0, rv (some a0)), (1, .int (x1 + r8)), (2, .int (x2 + 1))]) [2, 1, 0] rfl ?_
    exact h
theorem C_X11_filledPlaces {d : Nat} {q : HP → Int32 → Prop} {a0 : Nat} {H : HP} (h : wb_X11_filledPlaces_0 d q a0 H) : CI (d + 1) 0 0 mX11_filledPlaces [rv (some a0)] H q := by
  refine call_of (by decide +kernel) (by simp [lg_sl, rv_cat, vc_int, vc_long, vc_float, vc_double]) ?_
  have e : lv_args 0 [rv (some a0)] = [(0, rv (some a0))] := by simp [lv_args, rv_cat, vc_int, vc_long, vc_float, vc_double]
  rw [e]
  exact T_X11_filledPlaces_0 h
/-- UnitProver.filledTracks()I: the loop at 4 -/
def L_X11_filledTracks_4 (d : Nat) (q : HP → Int32 → Prop) (a0 : Nat) (x1 : Int32) (x2 : Int32) (H : HP) : Prop := WP (d + 1) mX11_filledTracks 0 0 4 [(0, rv (some a0)), (1, .int x1), (2, .int x2)] [] H (qI q)
def wb_X11_filledTracks_0 (d : Nat) (q : HP → Int32 → Prop) (a0 : Nat) (H : HP) : Prop :=
  L_X11_filledTracks_4 d q a0 (0 : Int32) (0 : Int32) H
set_option maxRecDepth 40000 in
set_option maxHeartbeats 4000000 in
theorem T_X11_filledTracks_0 {d : Nat} {q : HP → Int32 → Prop} {a0 : Nat} {H : HP} (h : wb_X11_filledTracks_0 d q a0 H) : WP (d + 1) mX11_filledTracks 0 0 0 [(0, rv (some a0))] [] H (qI q) := by
  unfold wb_X11_filledTracks_0 at h
  refine wp_iconst (v := (0 : Int32)) dX11_filledTracks_0 (by decide) ?_
  refine wp_istore_n (ls' := [(1, .int (0 : Int32)), (0, rv (some a0))]) dX11_filledTracks_1 (by decide) rfl ?_
  refine wp_iconst (v := (0 : Int32)) dX11_filledTracks_2 (by decide) ?_
  refine wp_istore_n (ls' := [(2, .int (0 : Int32)), (1, .int (0 : Int32)), (0, rv (some a0))]) dX11_filledTracks_3 (by decide) rfl ?_
  refine wp_sub (ls' := [(0, rv (some a0)), (1, .int (0 : Int32)), (2, .int (0 : Int32))]) [2, 1, 0] rfl ?_
  exact h
def wb_X11_filledTracks_4 (d : Nat) (q : HP → Int32 → Prop) (a0 : Nat) (x1 : Int32) (x2 : Int32) (H : HP) : Prop :=
  ((4 : Int32) ≤ x2 → q H x1) ∧ (¬ ((4 : Int32) ≤ x2) → tg H a0 = 12 ∧ (∃ a2, (hC H 1210 a0) = some a2 ∧ (isA H a2 8 ∧ (vp_in x2 (ln H a2) ∧ (∃ a6, (hR H (tg H a2) a2 x2.toNatClampNeg) = some a6 ∧ (tg H a6 = 9 ∧ (CZ d 0 0 mX8_isNothing [rv (hR H (tg H a2) a2 x2.toNatClampNeg)] H (fun H5 b8 => (b8 = false → L_X11_filledTracks_4 d q a0 (x1 + (1 : Int32)) (x2 + 1) H5) ∧ (b8 = true → L_X11_filledTracks_4 d q a0 (x1 + (0 : Int32)) (x2 + 1) H5)))))))))
set_option maxRecDepth 40000 in
set_option maxHeartbeats 4000000 in
theorem T_X11_filledTracks_4 {d : Nat} {q : HP → Int32 → Prop} {a0 : Nat} {x1 : Int32} {x2 : Int32} {H : HP} (h : wb_X11_filledTracks_4 d q a0 x1 x2 H) : L_X11_filledTracks_4 d q a0 x1 x2 H := by
  unfold wb_X11_filledTracks_4 at h
  unfold L_X11_filledTracks_4
  refine wp_iload_n 2 dX11_filledTracks_4 rfl ?_
  refine wp_iconst (v := (4 : Int32)) dX11_filledTracks_5 (by decide) ?_
  refine wp_icmp_ge (tgt := 35) dX11_filledTracks_6 rfl (fun c => ?_) (fun c => ?_)
  · replace h := h.1 c
    refine wp_iload_n 1 dX11_filledTracks_35 rfl ?_
    exact wp_ireturn (ty := .int) dX11_filledTracks_36 rfl rfl ⟨_, rfl, h⟩
  · replace h := h.2 c
    refine wp_iload_n 1 dX11_filledTracks_9 rfl ?_
    refine wp_aload_n 0 dX11_filledTracks_10 rfl ?_
    obtain ⟨ht1, h⟩ := h
    refine wp_getC (ci := 11) (j := 10) dX11_filledTracks_11 fi_X11_57r rfl rfl ht1 ?_
    change WP _ _ _ _ _ _ (rv (hC H 1210 a0) :: _) _ _
    refine wp_iload_n 2 dX11_filledTracks_14 rfl ?_
    obtain ⟨a2, ha2, h⟩ := h
    obtain ⟨hr3, h⟩ := h
    obtain ⟨hg4, h⟩ := h
    refine wp_aaload (e := 8) dX11_filledTracks_15 ha2 hr3 (by decide) hg4 ?_
    obtain ⟨a6, ha6, h⟩ := h
    obtain ⟨ht7, h⟩ := h
    refine wp_callV (ci := 8) (As := []) (rest := [.int x1]) (mc := 0) (ms := 0) dX11_filledTracks_16 lk_X11_352 rfl rfl (by simp [rv_cat, vc_int, vc_long, vc_float, vc_double]) ha6 rfl rfl ht7 rfl rfl rfl w_5_70 (Call.weaken h ?_)
    rintro H5 _ ⟨b8, rfl, h⟩
    change WP _ _ _ _ _ _ [.int (bI b8), .int x1] H5 _
    refine wp_if_eq (tgt := 26) dX11_filledTracks_19 rfl (fun c => ?_) (fun c => ?_)
    · replace h := h.1 (bI_0.mp c)
      refine wp_iconst (v := (1 : Int32)) dX11_filledTracks_26 (by decide) ?_
      refine wp_iadd dX11_filledTracks_27 ?_
      refine wp_istore_n (ls' := [(1, .int (x1 + (1 : Int32))), (0, rv (some a0)), (2, .int x2)]) dX11_filledTracks_28 (by decide) rfl ?_
      refine wp_iinc (v := (x2 + 1)) (ls' := [(2, .int (x2 + 1)), (1, .int (x1 + (1 : Int32))), (0, rv (some a0))]) 2 dX11_filledTracks_29 rfl rfl (by decide) rfl ?_
      refine wp_goto (tgt := 4) dX11_filledTracks_32 rfl ?_
      refine wp_sub (ls' := [(0, rv (some a0)), (1, .int (x1 + (1 : Int32))), (2, .int (x2 + 1))]) [2, 1, 0] rfl ?_
      exact h
    · replace h := h.2 (bI_1.mp c)
      refine wp_iconst (v := (0 : Int32)) dX11_filledTracks_22 (by decide) ?_
      refine wp_goto (tgt := 27) dX11_filledTracks_23 rfl ?_
      refine wp_iadd dX11_filledTracks_27 ?_
      refine wp_istore_n (ls' := [(1, .int (x1 + (0 : Int32))), (0, rv (some a0)), (2, .int x2)]) dX11_filledTracks_28 (by decide) rfl ?_
      refine wp_iinc (v := (x2 + 1)) (ls' := [(2, .int (x2 + 1)), (1, .int (x1 + (0 : Int32))), (0, rv (some a0))]) 2 dX11_filledTracks_29 rfl rfl (by decide) rfl ?_
      refine wp_goto (tgt := 4) dX11_filledTracks_32 rfl ?_
      refine wp_sub (ls' := [(0, rv (some a0)), (1, .int (x1 + (0 : Int32))), (2, .int (x2 + 1))]) [2, 1, 0] rfl ?_
      exact h
theorem C_X11_filledTracks {d : Nat} {q : HP → Int32 → Prop} {a0 : Nat} {H : HP} (h : wb_X11_filledTracks_0 d q a0 H) : CI (d + 1) 0 0 mX11_filledTracks [rv (some a0)] H q := by
  refine call_of (by decide +kernel) (by simp [lg_sl, rv_cat, vc_int, vc_long, vc_float, vc_double]) ?_
  have e : lv_args 0 [rv (some a0)] = [(0, rv (some a0))] := by simp [lv_args, rv_cat, vc_int, vc_long, vc_float, vc_double]
  rw [e]
  exact T_X11_filledTracks_0 h
def wb_X11_find_0 (d : Nat) (q : HP → Int32 → Prop) (a0 : Nat) (H : HP) : Prop :=
  tg H a0 = 12 ∧ (∃ a2, (hC H 1200 a0) = some a2 ∧ (tg H a2 = 8 ∧ (∃ a5, (hC H 1201 a0) = some a5 ∧ (tg H a5 = 11 ∧ (CI d 0 0 mX10_numberOf [rv (hC H 1201 a0), rv (hC H 1200 a0), .int (0 : Int32), .int (hI H 801 a2 0)] H (fun H4 r7 => tg H4 a0 = 12 ∧ (∃ a10, (hC H4 1200 a0) = some a10 ∧ (tg H4 a10 = 8 ∧ (CV d 0 0 mX7_clear [rv (hC H4 1200 a0)] H4 (fun H9 => (0 ≤ r7 → q H9 r7) ∧ (¬ (0 ≤ r7) → q H9 (-5 : Int32))))))))))))
set_option maxRecDepth 40000 in
set_option maxHeartbeats 4000000 in
theorem T_X11_find_0 {d : Nat} {q : HP → Int32 → Prop} {a0 : Nat} {H : HP} (h : wb_X11_find_0 d q a0 H) : WP (d + 1) mX11_find 0 0 0 [(0, rv (some a0))] [] H (qI q) := by
  unfold wb_X11_find_0 at h
  refine wp_aload_n 0 dX11_find_0 rfl ?_
  obtain ⟨ht1, h⟩ := h
  refine wp_getC (ci := 11) (j := 1) dX11_find_1 fi_X11_21r rfl rfl ht1 ?_
  change WP _ _ _ _ _ _ (rv (hC H 1201 a0) :: _) _ _
  refine wp_aload_n 0 dX11_find_4 rfl ?_
  refine wp_getC (ci := 11) (j := 0) dX11_find_5 fi_X11_12r rfl rfl ht1 ?_
  change WP _ _ _ _ _ _ (rv (hC H 1200 a0) :: _) _ _
  refine wp_iconst (v := (0 : Int32)) dX11_find_8 (by decide) ?_
  refine wp_aload_n 0 dX11_find_9 rfl ?_
  refine wp_getC (ci := 11) (j := 0) dX11_find_10 fi_X11_12r rfl rfl ht1 ?_
  change WP _ _ _ _ _ _ (rv (hC H 1200 a0) :: _) _ _
  obtain ⟨a2, ha2, h⟩ := h
  obtain ⟨ht3, h⟩ := h
  refine wp_getI (ci := 7) (j := 1) dX11_find_13 fi_X11_101r rfl ha2 ht3 ?_
  change WP _ _ _ _ _ _ (.int (hI H 801 a2 0) :: _) _ _
  obtain ⟨a5, ha5, h⟩ := h
  obtain ⟨ht6, h⟩ := h
  refine wp_callV (ci := 10) (As := [rv (hC H 1200 a0), .int (0 : Int32), .int (hI H 801 a2 0)]) (rest := []) (mc := 0) (ms := 0) dX11_find_16 lk_X11_125 rfl rfl (by decide) ha5 rfl rfl ht6 rfl rfl rfl w_3_196 (Call.weaken h ?_)
  rintro H4 _ ⟨r7, rfl, h⟩
  change WP _ _ _ _ _ _ [.int r7] H4 _
  refine wp_istore_n (ls' := [(1, .int r7), (0, rv (some a0))]) dX11_find_19 (by decide) rfl ?_
  refine wp_aload_n 1 dX11_find_20 rfl ?_
  obtain ⟨ht8, h⟩ := h
  refine wp_getC (ci := 11) (j := 0) dX11_find_21 fi_X11_12r rfl rfl ht8 ?_
  change WP _ _ _ _ _ _ (rv (hC H4 1200 a0) :: _) _ _
  obtain ⟨a10, ha10, h⟩ := h
  obtain ⟨ht11, h⟩ := h
  refine wp_callV (ci := 7) (As := []) (rest := []) (mc := 0) (ms := 0) dX11_find_24 lk_X11_116 rfl rfl (by decide) ha10 rfl rfl ht11 rfl rfl rfl w_3_147 (Call.weaken h ?_)
  rintro H9 _ ⟨rfl, h⟩
  change WP _ _ _ _ _ _ [] H9 _
  refine wp_iload_n 0 dX11_find_27 rfl ?_
  refine wp_if_ge (tgt := 36) dX11_find_28 rfl (fun c => ?_) (fun c => ?_)
  · replace h := h.1 c
    refine wp_iload_n 0 dX11_find_36 rfl ?_
    exact wp_ireturn (ty := .int) dX11_find_37 rfl rfl ⟨_, rfl, h⟩
  · replace h := h.2 c
    refine wp_bipush (v := (-5 : Int32)) dX11_find_31 (by decide) ?_
    refine wp_goto (tgt := 37) dX11_find_33 rfl ?_
    exact wp_ireturn (ty := .int) dX11_find_37 rfl rfl ⟨_, rfl, h⟩
theorem C_X11_find {d : Nat} {q : HP → Int32 → Prop} {a0 : Nat} {H : HP} (h : wb_X11_find_0 d q a0 H) : CI (d + 1) 0 0 mX11_find [rv (some a0)] H q := by
  refine call_of (by decide +kernel) (by simp [lg_sl, rv_cat, vc_int, vc_long, vc_float, vc_double]) ?_
  have e : lv_args 0 [rv (some a0)] = [(0, rv (some a0))] := by simp [lv_args, rv_cat, vc_int, vc_long, vc_float, vc_double]
  rw [e]
  exact T_X11_find_0 h
/-- UnitProver.goesBeyond([II)Z: the loop at 2 -/
def L_X11_goesBeyond_2 (d : Nat) (q : HP → Bool → Prop) (o0 : Option Nat) (x1 : Int32) (x2 : Int32) (H : HP) : Prop := WP (d + 1) mX11_goesBeyond 0 0 2 [(0, rv o0), (1, .int x1), (2, .int x2)] [] H (qZ q)
def wb_X11_goesBeyond_0 (d : Nat) (q : HP → Bool → Prop) (o0 : Option Nat) (x1 : Int32) (H : HP) : Prop :=
  L_X11_goesBeyond_2 d q o0 x1 (0 : Int32) H
set_option maxRecDepth 40000 in
set_option maxHeartbeats 4000000 in
theorem T_X11_goesBeyond_0 {d : Nat} {q : HP → Bool → Prop} {o0 : Option Nat} {x1 : Int32} {H : HP} (h : wb_X11_goesBeyond_0 d q o0 x1 H) : WP (d + 1) mX11_goesBeyond 0 0 0 [(0, rv o0), (1, .int x1)] [] H (qZ q) := by
  unfold wb_X11_goesBeyond_0 at h
  refine wp_iconst (v := (0 : Int32)) dX11_goesBeyond_0 (by decide) ?_
  refine wp_istore_n (ls' := [(2, .int (0 : Int32)), (0, rv o0), (1, .int x1)]) dX11_goesBeyond_1 (by decide) rfl ?_
  refine wp_sub (ls' := [(0, rv o0), (1, .int x1), (2, .int (0 : Int32))]) [1, 2, 0] rfl ?_
  exact h
def wb_X11_goesBeyond_2 (d : Nat) (q : HP → Bool → Prop) (o0 : Option Nat) (x1 : Int32) (x2 : Int32) (H : HP) : Prop :=
  ((5 : Int32) ≤ x2 → q H false) ∧ (¬ ((5 : Int32) ≤ x2) → ∃ a1, o0 = some a1 ∧ (isA H a1 0 ∧ (vp_in x2 (ln H a1) ∧ (CI d 0 0 mJ9_abs_0f7a4 [.int (hI H (tg H a1) a1 x2.toNatClampNeg)] H (fun H4 r5 => (r5 ≤ x1 → L_X11_goesBeyond_2 d q o0 x1 (x2 + 1) H4) ∧ (¬ (r5 ≤ x1) → q H4 true))))))
set_option maxRecDepth 40000 in
set_option maxHeartbeats 4000000 in
theorem T_X11_goesBeyond_2 {d : Nat} {q : HP → Bool → Prop} {o0 : Option Nat} {x1 : Int32} {x2 : Int32} {H : HP} (h : wb_X11_goesBeyond_2 d q o0 x1 x2 H) : L_X11_goesBeyond_2 d q o0 x1 x2 H := by
  unfold wb_X11_goesBeyond_2 at h
  unfold L_X11_goesBeyond_2
  refine wp_iload_n 2 dX11_goesBeyond_2 rfl ?_
  refine wp_iconst (v := (5 : Int32)) dX11_goesBeyond_3 (by decide) ?_
  refine wp_icmp_ge (tgt := 25) dX11_goesBeyond_4 rfl (fun c => ?_) (fun c => ?_)
  · replace h := h.1 c
    refine wp_iconst (v := (0 : Int32)) dX11_goesBeyond_25 (by decide) ?_
    exact wp_ireturn (ty := .boolean) dX11_goesBeyond_26 rfl rfl ⟨false, rfl, h⟩
  · replace h := h.2 c
    refine wp_aload_n 0 dX11_goesBeyond_7 rfl ?_
    refine wp_iload_n 2 dX11_goesBeyond_8 rfl ?_
    obtain ⟨a1, ha1, h⟩ := h
    obtain ⟨hr2, h⟩ := h
    obtain ⟨hg3, h⟩ := h
    refine wp_iaload dX11_goesBeyond_9 ha1 hr2 hg3 ?_
    refine wp_callS (As := [.int (hI H (tg H a1) a1 x2.toNatClampNeg)]) (rest := []) (mc := 0) (ms := 0) dX11_goesBeyond_10 lk_X11_404 rfl rfl (by decide) rfl rfl rfl (Call.weaken h ?_)
    rintro H4 _ ⟨r5, rfl, h⟩
    change WP _ _ _ _ _ _ [.int r5] H4 _
    refine wp_iload_n 1 dX11_goesBeyond_13 rfl ?_
    refine wp_icmp_le (tgt := 19) dX11_goesBeyond_14 rfl (fun c => ?_) (fun c => ?_)
    · replace h := h.1 c
      refine wp_iinc (v := (x2 + 1)) (ls' := [(2, .int (x2 + 1)), (0, rv o0), (1, .int x1)]) 2 dX11_goesBeyond_19 rfl rfl (by decide) rfl ?_
      refine wp_goto (tgt := 2) dX11_goesBeyond_22 rfl ?_
      refine wp_sub (ls' := [(0, rv o0), (1, .int x1), (2, .int (x2 + 1))]) [1, 2, 0] rfl ?_
      exact h
    · replace h := h.2 c
      refine wp_iconst (v := (1 : Int32)) dX11_goesBeyond_17 (by decide) ?_
      exact wp_ireturn (ty := .boolean) dX11_goesBeyond_18 rfl rfl ⟨true, rfl, h⟩
theorem C_X11_goesBeyond {d : Nat} {q : HP → Bool → Prop} {o0 : Option Nat} {x1 : Int32} {H : HP} (h : wb_X11_goesBeyond_0 d q o0 x1 H) : CZ (d + 1) 0 0 mX11_goesBeyond [rv o0, .int x1] H q := by
  refine call_of (by decide +kernel) (by simp [lg_sl, rv_cat, vc_int, vc_long, vc_float, vc_double]) ?_
  have e : lv_args 0 [rv o0, .int x1] = [(0, rv o0), (1, .int x1)] := by simp [lv_args, rv_cat, vc_int, vc_long, vc_float, vc_double]
  rw [e]
  exact T_X11_goesBeyond_0 h
def wb_X11_hang_0 (d : Nat) (q : HP → Int32 → Prop) (a0 : Nat) (x1 : Int32) (x2 : Int32) (x3 : Int32) (H : HP) : Prop :=
  tg H a0 = 12 ∧ (CR d 0 0 mX11_rackAt [rv (some a0), .int x1] H (fun H1 r3 => (r3 = none → q H1 (-1 : Int32)) ∧ (∀ a4, r3 = some a4 → tg H1 a0 = 12 ∧ (∃ a7, (hC H1 1201 a0) = some a7 ∧ (tg H1 a7 = 11 ∧ (CR d 0 0 mX10_at [rv (hC H1 1201 a0), .int x3] H1 (fun H6 r9 => (r9 = none → q H6 (-1 : Int32)) ∧ (∀ a10, r9 = some a10 → CZ d 0 0 mX11_isPlace [.int x2] H6 (fun H11 b12 => (b12 = true → tg H11 a4 = 6 ∧ (CZ d 0 0 mX5_store [rv r3, .int x2, .int (0 : Int32), .long (x3.toInt64)] H11 (fun H13 b15 => (b15 = false → q H13 (-16 : Int32)) ∧ (b15 = true → q H13 (1 : Int32))))) ∧ (b12 = false → q H11 (-7 : Int32)))))))))))
set_option maxRecDepth 40000 in
set_option maxHeartbeats 4000000 in
theorem T_X11_hang_0 {d : Nat} {q : HP → Int32 → Prop} {a0 : Nat} {x1 : Int32} {x2 : Int32} {x3 : Int32} {H : HP} (h : wb_X11_hang_0 d q a0 x1 x2 x3 H) : WP (d + 1) mX11_hang 0 0 0 [(0, rv (some a0)), (1, .int x1), (2, .int x2), (3, .int x3)] [] H (qI q) := by
  unfold wb_X11_hang_0 at h
  refine wp_aload_n 0 dX11_hang_0 rfl ?_
  refine wp_iload_n 1 dX11_hang_1 rfl ?_
  obtain ⟨ht2, h⟩ := h
  refine wp_callV (ci := 11) (As := [.int x1]) (rest := []) (mc := 0) (ms := 0) dX11_hang_2 lk_X11_371 rfl rfl (by decide) rfl rfl rfl ht2 rfl rfl rfl w_5_169 (Call.weaken h ?_)
  rintro H1 _ ⟨r3, rfl, h⟩
  change WP _ _ _ _ _ _ [rv r3] H1 _
  refine wp_astore (ls' := [(4, rv r3), (0, rv (some a0)), (1, .int x1), (2, .int x2), (3, .int x3)]) dX11_hang_5 (by decide) rfl ?_
  refine wp_aload 0 dX11_hang_7 rfl ?_
  refine wp_ifnull (tgt := 23) dX11_hang_9 rfl (fun c => ?_) (fun a4 ha4 => ?_)
  · replace h := h.1 c
    refine wp_iconst (v := (-1 : Int32)) dX11_hang_23 (by decide) ?_
    exact wp_ireturn (ty := .int) dX11_hang_24 rfl rfl ⟨_, rfl, h⟩
  · replace h := h.2 a4 ha4
    refine wp_aload_n 1 dX11_hang_12 rfl ?_
    obtain ⟨ht5, h⟩ := h
    refine wp_getC (ci := 11) (j := 1) dX11_hang_13 fi_X11_21r rfl rfl ht5 ?_
    change WP _ _ _ _ _ _ (rv (hC H1 1201 a0) :: _) _ _
    refine wp_iload_n 4 dX11_hang_16 rfl ?_
    obtain ⟨a7, ha7, h⟩ := h
    obtain ⟨ht8, h⟩ := h
    refine wp_callV (ci := 10) (As := [.int x3]) (rest := []) (mc := 0) (ms := 0) dX11_hang_17 lk_X11_129 rfl rfl (by decide) ha7 rfl rfl ht8 rfl rfl rfl w_3_201 (Call.weaken h ?_)
    rintro H6 _ ⟨r9, rfl, h⟩
    change WP _ _ _ _ _ _ [rv r9] H6 _
    refine wp_ifnonnull (tgt := 25) dX11_hang_20 rfl (fun a10 ha10 => ?_) (fun c => ?_)
    · replace h := h.2 a10 ha10
      refine wp_iload_n 3 dX11_hang_25 rfl ?_
      refine wp_callS (As := [.int x2]) (rest := []) (mc := 0) (ms := 0) dX11_hang_26 lk_X11_375 rfl rfl (by decide) rfl rfl rfl (Call.weaken h ?_)
      rintro H11 _ ⟨b12, rfl, h⟩
      change WP _ _ _ _ _ _ [.int (bI b12)] H11 _
      refine wp_if_ne (tgt := 35) dX11_hang_29 rfl (fun c => ?_) (fun c => ?_)
      · replace h := h.1 (bI_1.mp c)
        refine wp_aload 0 dX11_hang_35 rfl ?_
        refine wp_iload_n 3 dX11_hang_37 rfl ?_
        refine wp_iconst (v := (0 : Int32)) dX11_hang_38 (by decide) ?_
        refine wp_iload_n 4 dX11_hang_39 rfl ?_
        refine wp_i2l dX11_hang_40 ?_
        obtain ⟨ht14, h⟩ := h
        refine wp_callV (ci := 5) (As := [.int x2, .int (0 : Int32), .long (x3.toInt64)]) (rest := []) (mc := 0) (ms := 0) dX11_hang_41 lk_X11_378 rfl rfl (by decide) ha4 rfl rfl ht14 rfl rfl rfl w_5_176 (Call.weaken h ?_)
        rintro H13 _ ⟨b15, rfl, h⟩
        change WP _ _ _ _ _ _ [.int (bI b15)] H13 _
        refine wp_if_eq (tgt := 51) dX11_hang_44 rfl (fun c => ?_) (fun c => ?_)
        · replace h := h.1 (bI_0.mp c)
          refine wp_bipush (v := (-16 : Int32)) dX11_hang_51 (by decide) ?_
          exact wp_ireturn (ty := .int) dX11_hang_53 rfl rfl ⟨_, rfl, h⟩
        · replace h := h.2 (bI_1.mp c)
          refine wp_iconst (v := (1 : Int32)) dX11_hang_47 (by decide) ?_
          refine wp_goto (tgt := 53) dX11_hang_48 rfl ?_
          exact wp_ireturn (ty := .int) dX11_hang_53 rfl rfl ⟨_, rfl, h⟩
      · replace h := h.2 (bI_0.mp c)
        refine wp_bipush (v := (-7 : Int32)) dX11_hang_32 (by decide) ?_
        exact wp_ireturn (ty := .int) dX11_hang_34 rfl rfl ⟨_, rfl, h⟩
    · replace h := h.1 c
      refine wp_iconst (v := (-1 : Int32)) dX11_hang_23 (by decide) ?_
      exact wp_ireturn (ty := .int) dX11_hang_24 rfl rfl ⟨_, rfl, h⟩
theorem C_X11_hang {d : Nat} {q : HP → Int32 → Prop} {a0 : Nat} {x1 : Int32} {x2 : Int32} {x3 : Int32} {H : HP} (h : wb_X11_hang_0 d q a0 x1 x2 x3 H) : CI (d + 1) 0 0 mX11_hang [rv (some a0), .int x1, .int x2, .int x3] H q := by
  refine call_of (by decide +kernel) (by simp [lg_sl, rv_cat, vc_int, vc_long, vc_float, vc_double]) ?_
  have e : lv_args 0 [rv (some a0), .int x1, .int x2, .int x3] = [(0, rv (some a0)), (1, .int x1), (2, .int x2), (3, .int x3)] := by simp [lv_args, rv_cat, vc_int, vc_long, vc_float, vc_double]
  rw [e]
  exact T_X11_hang_0 h
def wb_X11_hold_0 (d : Nat) (q : HP → Int32 → Prop) (a0 : Nat) (x1 : Int32) (x2 : Int32) (x3 : Int32) (H : HP) : Prop :=
  tg H a0 = 12 ∧ (CR d 0 0 mX11_rackAt [rv (some a0), .int x1] H (fun H1 r3 => (r3 = none → q H1 (-1 : Int32)) ∧ (∀ a4, r3 = some a4 → CZ d 0 0 mX11_isPlace [.int x2] H1 (fun H5 b6 => (b6 = true → tg H5 a0 = 12 ∧ ((¬ (hI H5 1209 a0 0) = 0 → ∃ a9, (hR H5 1207 a0 0) = some a9 ∧ (tg H5 a9 = 5 ∧ (CR d 0 0 mX4_heldStep [rv (hR H5 1207 a0 0), .int x3] H5 (fun H8 r11 => (r11 = none → q H8 (-1 : Int32)) ∧ (∀ a12, r11 = some a12 → tg H8 a12 = 7 ∧ (∃ a14, (hC H8 712 a12) = some a14 ∧ (tg H8 a14 = 4 ∧ (tg H8 a4 = 6 ∧ (CZ d 0 0 mX5_store [rv r3, .int x2, .int (1 : Int32), .long (hL H8 400 a14 0)] H8 (fun H16 b18 => (b18 = false → q H16 (-16 : Int32)) ∧ (b18 = true → q H16 (1 : Int32)))))))))))) ∧ ((hI H5 1209 a0 0) = 0 → q H5 (-3 : Int32)))) ∧ (b6 = false → q H5 (-7 : Int32))))))
set_option maxRecDepth 40000 in
set_option maxHeartbeats 4000000 in
theorem T_X11_hold_0 {d : Nat} {q : HP → Int32 → Prop} {a0 : Nat} {x1 : Int32} {x2 : Int32} {x3 : Int32} {H : HP} (h : wb_X11_hold_0 d q a0 x1 x2 x3 H) : WP (d + 1) mX11_hold 0 0 0 [(0, rv (some a0)), (1, .int x1), (2, .int x2), (3, .int x3)] [] H (qI q) := by
  unfold wb_X11_hold_0 at h
  refine wp_aload_n 0 dX11_hold_0 rfl ?_
  refine wp_iload_n 1 dX11_hold_1 rfl ?_
  obtain ⟨ht2, h⟩ := h
  refine wp_callV (ci := 11) (As := [.int x1]) (rest := []) (mc := 0) (ms := 0) dX11_hold_2 lk_X11_371 rfl rfl (by decide) rfl rfl rfl ht2 rfl rfl rfl w_5_169 (Call.weaken h ?_)
  rintro H1 _ ⟨r3, rfl, h⟩
  change WP _ _ _ _ _ _ [rv r3] H1 _
  refine wp_astore (ls' := [(4, rv r3), (0, rv (some a0)), (1, .int x1), (2, .int x2), (3, .int x3)]) dX11_hold_5 (by decide) rfl ?_
  refine wp_aload 0 dX11_hold_7 rfl ?_
  refine wp_ifnonnull (tgt := 14) dX11_hold_9 rfl (fun a4 ha4 => ?_) (fun c => ?_)
  · replace h := h.2 a4 ha4
    refine wp_iload_n 3 dX11_hold_14 rfl ?_
    refine wp_callS (As := [.int x2]) (rest := []) (mc := 0) (ms := 0) dX11_hold_15 lk_X11_375 rfl rfl (by decide) rfl rfl rfl (Call.weaken h ?_)
    rintro H5 _ ⟨b6, rfl, h⟩
    change WP _ _ _ _ _ _ [.int (bI b6)] H5 _
    refine wp_if_ne (tgt := 24) dX11_hold_18 rfl (fun c => ?_) (fun c => ?_)
    · replace h := h.1 (bI_1.mp c)
      refine wp_aload_n 1 dX11_hold_24 rfl ?_
      obtain ⟨ht7, h⟩ := h
      refine wp_getI (ci := 11) (j := 9) dX11_hold_25 fi_X11_188r rfl rfl ht7 ?_
      change WP _ _ _ _ _ _ (.int (hI H5 1209 a0 0) :: _) _ _
      refine wp_if_ne (tgt := 34) dX11_hold_28 rfl (fun c => ?_) (fun c => ?_)
      · replace h := h.1 c
        refine wp_aload_n 1 dX11_hold_34 rfl ?_
        refine wp_getR (ci := 11) (j := 7) dX11_hold_35 fi_X11_48r rfl rfl ht7 ?_
        change WP _ _ _ _ _ _ (rv (hR H5 1207 a0 0) :: _) _ _
        refine wp_iload_n 4 dX11_hold_38 rfl ?_
        obtain ⟨a9, ha9, h⟩ := h
        obtain ⟨ht10, h⟩ := h
        refine wp_callV (ci := 4) (As := [.int x3]) (rest := []) (mc := 0) (ms := 0) dX11_hold_39 lk_X11_211 rfl rfl (by decide) ha9 rfl rfl ht10 rfl rfl rfl w_4_148 (Call.weaken h ?_)
        rintro H8 _ ⟨r11, rfl, h⟩
        change WP _ _ _ _ _ _ [rv r11] H8 _
        refine wp_astore (ls' := [(5, rv r11), (4, rv r3), (0, rv (some a0)), (1, .int x1), (2, .int x2), (3, .int x3)]) dX11_hold_42 (by decide) (by change st1 _ 5 _ = _; simp [st1, rv_cat, vc_int, vc_long, vc_float, vc_double]) ?_
        refine wp_aload 0 dX11_hold_44 rfl ?_
        refine wp_ifnonnull (tgt := 51) dX11_hold_46 rfl (fun a12 ha12 => ?_) (fun c => ?_)
        · replace h := h.2 a12 ha12
          refine wp_aload 1 dX11_hold_51 rfl ?_
          refine wp_iload_n 4 dX11_hold_53 rfl ?_
          refine wp_iconst (v := (1 : Int32)) dX11_hold_54 (by decide) ?_
          refine wp_aload 0 dX11_hold_55 rfl ?_
          obtain ⟨ht13, h⟩ := h
          refine wp_getC (ci := 6) (j := 12) dX11_hold_57 fi_X11_220 rfl ha12 ht13 ?_
          change WP _ _ _ _ _ _ (rv (hC H8 712 a12) :: _) _ _
          obtain ⟨a14, ha14, h⟩ := h
          obtain ⟨ht15, h⟩ := h
          refine wp_getL (ci := 3) (j := 0) dX11_hold_60 fi_X11_223r rfl ha14 ht15 ?_
          change WP _ _ _ _ _ _ (.long (hL H8 400 a14 0) :: _) _ _
          obtain ⟨ht17, h⟩ := h
          refine wp_callV (ci := 5) (As := [.int x2, .int (1 : Int32), .long (hL H8 400 a14 0)]) (rest := []) (mc := 0) (ms := 0) dX11_hold_63 lk_X11_378 rfl rfl (by decide) ha4 rfl rfl ht17 rfl rfl rfl w_5_176 (Call.weaken h ?_)
          rintro H16 _ ⟨b18, rfl, h⟩
          change WP _ _ _ _ _ _ [.int (bI b18)] H16 _
          refine wp_if_eq (tgt := 73) dX11_hold_66 rfl (fun c => ?_) (fun c => ?_)
          · replace h := h.1 (bI_0.mp c)
            refine wp_bipush (v := (-16 : Int32)) dX11_hold_73 (by decide) ?_
            exact wp_ireturn (ty := .int) dX11_hold_75 rfl rfl ⟨_, rfl, h⟩
          · replace h := h.2 (bI_1.mp c)
            refine wp_iconst (v := (1 : Int32)) dX11_hold_69 (by decide) ?_
            refine wp_goto (tgt := 75) dX11_hold_70 rfl ?_
            exact wp_ireturn (ty := .int) dX11_hold_75 rfl rfl ⟨_, rfl, h⟩
        · replace h := h.1 c
          refine wp_iconst (v := (-1 : Int32)) dX11_hold_49 (by decide) ?_
          exact wp_ireturn (ty := .int) dX11_hold_50 rfl rfl ⟨_, rfl, h⟩
      · replace h := h.2 c
        refine wp_bipush (v := (-3 : Int32)) dX11_hold_31 (by decide) ?_
        exact wp_ireturn (ty := .int) dX11_hold_33 rfl rfl ⟨_, rfl, h⟩
    · replace h := h.2 (bI_0.mp c)
      refine wp_bipush (v := (-7 : Int32)) dX11_hold_21 (by decide) ?_
      exact wp_ireturn (ty := .int) dX11_hold_23 rfl rfl ⟨_, rfl, h⟩
  · replace h := h.1 c
    refine wp_iconst (v := (-1 : Int32)) dX11_hold_12 (by decide) ?_
    exact wp_ireturn (ty := .int) dX11_hold_13 rfl rfl ⟨_, rfl, h⟩
theorem C_X11_hold {d : Nat} {q : HP → Int32 → Prop} {a0 : Nat} {x1 : Int32} {x2 : Int32} {x3 : Int32} {H : HP} (h : wb_X11_hold_0 d q a0 x1 x2 x3 H) : CI (d + 1) 0 0 mX11_hold [rv (some a0), .int x1, .int x2, .int x3] H q := by
  refine call_of (by decide +kernel) (by simp [lg_sl, rv_cat, vc_int, vc_long, vc_float, vc_double]) ?_
  have e : lv_args 0 [rv (some a0), .int x1, .int x2, .int x3] = [(0, rv (some a0)), (1, .int x1), (2, .int x2), (3, .int x3)] := by simp [lv_args, rv_cat, vc_int, vc_long, vc_float, vc_double]
  rw [e]
  exact T_X11_hold_0 h
def wb_X11_image_0 (d : Nat) (q : HP → Int32 → Prop) (a0 : Nat) (H : HP) : Prop :=
  tg H a0 = 12 ∧ (∃ a3, (hC H 1203 a0) = some a3 ∧ (tg H a3 = 11 ∧ (CV d 0 0 mX10_copy [rv (hC H 1203 a0), rv (hC H 1201 a0)] H (fun H2 => tg H2 a0 = 12 ∧ (∃ a7, (hC H2 1204 a0) = some a7 ∧ (tg H2 a7 = 1 ∧ (CV d 0 0 mX0_copy [rv (hC H2 1204 a0), rv (hC H2 1202 a0)] H2 (fun H6 => tg H6 a0 = 12 ∧ (∃ a10, (hC (sI H6 1205 a0 0 (1 : Int32)) 1201 a0) = some a10 ∧ (tg (sI H6 1205 a0 0 (1 : Int32)) a10 = 11 ∧ (q (sI H6 1205 a0 0 (1 : Int32)) (hI (sI H6 1205 a0 0 (1 : Int32)) 1101 a10 0))))))))))))
set_option maxRecDepth 40000 in
set_option maxHeartbeats 4000000 in
theorem T_X11_image_0 {d : Nat} {q : HP → Int32 → Prop} {a0 : Nat} {H : HP} (h : wb_X11_image_0 d q a0 H) : WP (d + 1) mX11_image 0 0 0 [(0, rv (some a0))] [] H (qI q) := by
  unfold wb_X11_image_0 at h
  refine wp_aload_n 0 dX11_image_0 rfl ?_
  obtain ⟨ht1, h⟩ := h
  refine wp_getC (ci := 11) (j := 3) dX11_image_1 fi_X11_32r rfl rfl ht1 ?_
  change WP _ _ _ _ _ _ (rv (hC H 1203 a0) :: _) _ _
  refine wp_aload_n 0 dX11_image_4 rfl ?_
  refine wp_getC (ci := 11) (j := 1) dX11_image_5 fi_X11_21r rfl rfl ht1 ?_
  change WP _ _ _ _ _ _ (rv (hC H 1201 a0) :: _) _ _
  obtain ⟨a3, ha3, h⟩ := h
  obtain ⟨ht4, h⟩ := h
  refine wp_callV (ci := 10) (As := [rv (hC H 1201 a0)]) (rest := []) (mc := 0) (ms := 0) dX11_image_8 lk_X11_388 rfl rfl (by decide) ha3 rfl rfl ht4 rfl rfl rfl w_5_196 (Call.weaken h ?_)
  rintro H2 _ ⟨rfl, h⟩
  change WP _ _ _ _ _ _ [] H2 _
  refine wp_aload_n 0 dX11_image_11 rfl ?_
  obtain ⟨ht5, h⟩ := h
  refine wp_getC (ci := 11) (j := 4) dX11_image_12 fi_X11_35r rfl rfl ht5 ?_
  change WP _ _ _ _ _ _ (rv (hC H2 1204 a0) :: _) _ _
  refine wp_aload_n 0 dX11_image_15 rfl ?_
  refine wp_getC (ci := 11) (j := 2) dX11_image_16 fi_X11_28r rfl rfl ht5 ?_
  change WP _ _ _ _ _ _ (rv (hC H2 1202 a0) :: _) _ _
  obtain ⟨a7, ha7, h⟩ := h
  obtain ⟨ht8, h⟩ := h
  refine wp_callV (ci := 0) (As := [rv (hC H2 1202 a0)]) (rest := []) (mc := 0) (ms := 0) dX11_image_19 lk_X11_391 rfl rfl (by decide) ha7 rfl rfl ht8 rfl rfl rfl w_5_200 (Call.weaken h ?_)
  rintro H6 _ ⟨rfl, h⟩
  change WP _ _ _ _ _ _ [] H6 _
  refine wp_aload_n 0 dX11_image_22 rfl ?_
  refine wp_iconst (v := (1 : Int32)) dX11_image_23 (by decide) ?_
  obtain ⟨ht9, h⟩ := h
  refine wp_putI (ci := 11) (j := 5) dX11_image_24 fi_X11_394 rfl (fun z => by cases z) rfl ht9 rfl rfl ?_
  change WP _ _ _ _ _ _ _ (sI H6 1205 a0 0 (1 : Int32)) _
  refine wp_aload_n 0 dX11_image_27 rfl ?_
  refine wp_getC (ci := 11) (j := 1) dX11_image_28 fi_X11_21r rfl rfl ht9 ?_
  change WP _ _ _ _ _ _ (rv (hC (sI H6 1205 a0 0 (1 : Int32)) 1201 a0) :: _) _ _
  obtain ⟨a10, ha10, h⟩ := h
  obtain ⟨ht11, h⟩ := h
  refine wp_getI (ci := 10) (j := 1) dX11_image_31 fi_X11_119r rfl ha10 ht11 ?_
  change WP _ _ _ _ _ _ (.int (hI (sI H6 1205 a0 0 (1 : Int32)) 1101 a10 0) :: _) _ _
  exact wp_ireturn (ty := .int) dX11_image_34 rfl rfl ⟨_, rfl, h⟩
theorem C_X11_image {d : Nat} {q : HP → Int32 → Prop} {a0 : Nat} {H : HP} (h : wb_X11_image_0 d q a0 H) : CI (d + 1) 0 0 mX11_image [rv (some a0)] H q := by
  refine call_of (by decide +kernel) (by simp [lg_sl, rv_cat, vc_int, vc_long, vc_float, vc_double]) ?_
  have e : lv_args 0 [rv (some a0)] = [(0, rv (some a0))] := by simp [lv_args, rv_cat, vc_int, vc_long, vc_float, vc_double]
  rw [e]
  exact T_X11_image_0 h
def wb_X11_in_0 (d : Nat) (q : HP → Int64 → Prop) (a0 : Nat) (x1 : Int32) (x2 : Int32) (x3 : Int32) (H : HP) : Prop :=
  tg H a0 = 12 ∧ (CZ d 0 0 mX11_answerIn [rv (some a0), .int x1, .int x2] H (fun H1 b3 => (b3 = false → q H1 (-9223372036854775808 : Int64)) ∧ (b3 = true → tg H1 a0 = 12 ∧ (∃ a6, (hC H1 1213 a0) = some a6 ∧ (tg H1 a6 = 4 ∧ (CJ d 0 0 mX3_part [rv (hC H1 1213 a0), .int x3] H1 (fun H5 r8 => q H5 r8)))))))
set_option maxRecDepth 40000 in
set_option maxHeartbeats 4000000 in
theorem T_X11_in_0 {d : Nat} {q : HP → Int64 → Prop} {a0 : Nat} {x1 : Int32} {x2 : Int32} {x3 : Int32} {H : HP} (h : wb_X11_in_0 d q a0 x1 x2 x3 H) : WP (d + 1) mX11_in 0 0 0 [(0, rv (some a0)), (1, .int x1), (2, .int x2), (3, .int x3)] [] H (qJ q) := by
  unfold wb_X11_in_0 at h
  refine wp_aload_n 0 dX11_in_0 rfl ?_
  refine wp_iload_n 1 dX11_in_1 rfl ?_
  refine wp_iload_n 2 dX11_in_2 rfl ?_
  obtain ⟨ht2, h⟩ := h
  refine wp_callV (ci := 11) (As := [.int x1, .int x2]) (rest := []) (mc := 0) (ms := 0) dX11_in_3 lk_X11_243 rfl rfl (by decide) rfl rfl rfl ht2 rfl rfl rfl w_4_170 (Call.weaken h ?_)
  rintro H1 _ ⟨b3, rfl, h⟩
  change WP _ _ _ _ _ _ [.int (bI b3)] H1 _
  refine wp_if_eq (tgt := 20) dX11_in_6 rfl (fun c => ?_) (fun c => ?_)
  · replace h := h.1 (bI_0.mp c)
    refine wp_ldc2 dX11_in_20 w_3_210 ?_
    exact wp_lreturn dX11_in_23 rfl ⟨_, rfl, h⟩
  · replace h := h.2 (bI_1.mp c)
    refine wp_aload_n 0 dX11_in_9 rfl ?_
    obtain ⟨ht4, h⟩ := h
    refine wp_getC (ci := 11) (j := 13) dX11_in_10 fi_X11_77r rfl rfl ht4 ?_
    change WP _ _ _ _ _ _ (rv (hC H1 1213 a0) :: _) _ _
    refine wp_iload_n 3 dX11_in_13 rfl ?_
    obtain ⟨a6, ha6, h⟩ := h
    obtain ⟨ht7, h⟩ := h
    refine wp_callV (ci := 3) (As := [.int x3]) (rest := []) (mc := 0) (ms := 0) dX11_in_14 lk_X11_146 rfl rfl (by decide) ha6 rfl rfl ht7 rfl rfl rfl w_3_211 (Call.weaken h ?_)
    rintro H5 _ ⟨r8, rfl, h⟩
    change WP _ _ _ _ _ _ [.long r8] H5 _
    refine wp_goto (tgt := 23) dX11_in_17 rfl ?_
    exact wp_lreturn dX11_in_23 rfl ⟨_, rfl, h⟩
theorem C_X11_in {d : Nat} {q : HP → Int64 → Prop} {a0 : Nat} {x1 : Int32} {x2 : Int32} {x3 : Int32} {H : HP} (h : wb_X11_in_0 d q a0 x1 x2 x3 H) : CJ (d + 1) 0 0 mX11_in [rv (some a0), .int x1, .int x2, .int x3] H q := by
  refine call_of (by decide +kernel) (by simp [lg_sl, rv_cat, vc_int, vc_long, vc_float, vc_double]) ?_
  have e : lv_args 0 [rv (some a0), .int x1, .int x2, .int x3] = [(0, rv (some a0)), (1, .int x1), (2, .int x2), (3, .int x3)] := by simp [lv_args, rv_cat, vc_int, vc_long, vc_float, vc_double]
  rw [e]
  exact T_X11_in_0 h
/-- UnitProver.<init>()V: the loop at 158 -/
def L_X11_init_158 (d : Nat) (ca sa : Nat) (q : HP → Prop) (a0 : Nat) (x1 : Int32) (H : HP) : Prop := WP (d + 1) mX11_init ca sa 158 [(0, rv (some a0)), (1, .int x1)] [] H (qV q)
/-- UnitProver.<init>()V: the loop at 184 -/
def L_X11_init_184 (d : Nat) (ca sa : Nat) (q : HP → Prop) (a0 : Nat) (x1 : Int32) (H : HP) : Prop := WP (d + 1) mX11_init ca sa 184 [(0, rv (some a0)), (1, .int x1)] [] H (qV q)
def wb_X11_init_0 (d : Nat) (ca sa : Nat) (q : HP → Prop) (a0 : Nat) (H : HP) : Prop :=
  hN H < scrA ∧ (1 ≤ ca ∧ (3 ≤ sa ∧ (1 ≤ (ca - 1) ∧ (60 ≤ (sa - 3) ∧ (CV d 1 60 mX7_init [rv (some (hN H))] (nw H 8 0) (fun H6 => tg H6 a0 = 12 ∧ (hN (sC H6 1200 a0 (some (hN H))) < scrA ∧ (1 ≤ ((ca - 1) - 1) ∧ (2 ≤ ((sa - 3) - 60) ∧ (101 ≤ (((ca - 1) - 1) - 1) ∧ (380 ≤ (((sa - 3) - 60) - 2) ∧ (CV d 101 380 mX10_init [rv (some (hN (sC H6 1200 a0 (some (hN H)))))] (nw (sC H6 1200 a0 (some (hN H))) 11 0) (fun H13 => tg H13 a0 = 12 ∧ (hN (sC H13 1201 a0 (some (hN (sC H6 1200 a0 (some (hN H)))))) < scrA ∧ (1 ≤ ((((ca - 1) - 1) - 1) - 101) ∧ (11 ≤ ((((sa - 3) - 60) - 2) - 380) ∧ (10 ≤ (((((ca - 1) - 1) - 1) - 101) - 1) ∧ (140 ≤ (((((sa - 3) - 60) - 2) - 380) - 11) ∧ (CV d 10 140 mX0_init [rv (some (hN (sC H13 1201 a0 (some (hN (sC H6 1200 a0 (some (hN H))))))))] (nw (sC H13 1201 a0 (some (hN (sC H6 1200 a0 (some (hN H)))))) 1 0) (fun H20 => tg H20 a0 = 12 ∧ (hN (sC H20 1202 a0 (some (hN (sC H13 1201 a0 (some (hN (sC H6 1200 a0 (some (hN H))))))))) < scrA ∧ (1 ≤ ((((((ca - 1) - 1) - 1) - 101) - 1) - 10) ∧ (2 ≤ ((((((sa - 3) - 60) - 2) - 380) - 11) - 140) ∧ (101 ≤ (((((((ca - 1) - 1) - 1) - 101) - 1) - 10) - 1) ∧ (380 ≤ (((((((sa - 3) - 60) - 2) - 380) - 11) - 140) - 2) ∧ (CV d 101 380 mX10_init [rv (some (hN (sC H20 1202 a0 (some (hN (sC H13 1201 a0 (some (hN (sC H6 1200 a0 (some (hN H)))))))))))] (nw (sC H20 1202 a0 (some (hN (sC H13 1201 a0 (some (hN (sC H6 1200 a0 (some (hN H))))))))) 11 0) (fun H27 => tg H27 a0 = 12 ∧ (hN (sC H27 1203 a0 (some (hN (sC H20 1202 a0 (some (hN (sC H13 1201 a0 (some (hN (sC H6 1200 a0 (some (hN H)))))))))))) < scrA ∧ (1 ≤ ((((((((ca - 1) - 1) - 1) - 101) - 1) - 10) - 1) - 101) ∧ (11 ≤ ((((((((sa - 3) - 60) - 2) - 380) - 11) - 140) - 2) - 380) ∧ (10 ≤ (((((((((ca - 1) - 1) - 1) - 101) - 1) - 10) - 1) - 101) - 1) ∧ (140 ≤ (((((((((sa - 3) - 60) - 2) - 380) - 11) - 140) - 2) - 380) - 11) ∧ (CV d 10 140 mX0_init [rv (some (hN (sC H27 1203 a0 (some (hN (sC H20 1202 a0 (some (hN (sC H13 1201 a0 (some (hN (sC H6 1200 a0 (some (hN H))))))))))))))] (nw (sC H27 1203 a0 (some (hN (sC H20 1202 a0 (some (hN (sC H13 1201 a0 (some (hN (sC H6 1200 a0 (some (hN H)))))))))))) 1 0) (fun H34 => tg H34 a0 = 12 ∧ (hN (sC H34 1204 a0 (some (hN (sC H27 1203 a0 (some (hN (sC H20 1202 a0 (some (hN (sC H13 1201 a0 (some (hN (sC H6 1200 a0 (some (hN H))))))))))))))) < scrA ∧ (1 ≤ ((((((((((ca - 1) - 1) - 1) - 101) - 1) - 10) - 1) - 101) - 1) - 10) ∧ (12 ≤ ((((((((((sa - 3) - 60) - 2) - 380) - 11) - 140) - 2) - 380) - 11) - 140) ∧ (12 ≤ (((((((((((ca - 1) - 1) - 1) - 101) - 1) - 10) - 1) - 101) - 1) - 10) - 1) ∧ (172 ≤ (((((((((((sa - 3) - 60) - 2) - 380) - 11) - 140) - 2) - 380) - 11) - 140) - 12) ∧ (CV d 12 172 mX1_init [rv (some (hN (sC H34 1204 a0 (some (hN (sC H27 1203 a0 (some (hN (sC H20 1202 a0 (some (hN (sC H13 1201 a0 (some (hN (sC H6 1200 a0 (some (hN H)))))))))))))))))] (nw (sC H34 1204 a0 (some (hN (sC H27 1203 a0 (some (hN (sC H20 1202 a0 (some (hN (sC H13 1201 a0 (some (hN (sC H6 1200 a0 (some (hN H))))))))))))))) 2 0) (fun H41 => tg H41 a0 = 12 ∧ (∀ H43, (sC H41 1206 a0 (some (hN (sC H34 1204 a0 (some (hN (sC H27 1203 a0 (some (hN (sC H20 1202 a0 (some (hN (sC H13 1201 a0 (some (hN (sC H6 1200 a0 (some (hN H)))))))))))))))))) = H43 → (hN H43 < scrA ∧ (1 ≤ ((((((((((((ca - 1) - 1) - 1) - 101) - 1) - 10) - 1) - 101) - 1) - 10) - 1) - 12) ∧ (7 ≤ ((((((((((((sa - 3) - 60) - 2) - 380) - 11) - 140) - 2) - 380) - 11) - 140) - 12) - 172) ∧ (423 ≤ (((((((((((((ca - 1) - 1) - 1) - 101) - 1) - 10) - 1) - 101) - 1) - 10) - 1) - 12) - 1) ∧ (2226 ≤ (((((((((((((sa - 3) - 60) - 2) - 380) - 11) - 140) - 2) - 380) - 11) - 140) - 12) - 172) - 7) ∧ (CV d 423 2226 mX4_init [rv (some (hN H43))] (nw H43 5 0) (fun H51 => tg H51 a0 = 12 ∧ (hN (sR H51 1207 a0 0 (some (hN H43))) < scrA ∧ (1 ≤ ((((((((((((((ca - 1) - 1) - 1) - 101) - 1) - 10) - 1) - 101) - 1) - 10) - 1) - 12) - 1) - 423) ∧ (7 ≤ ((((((((((((((sa - 3) - 60) - 2) - 380) - 11) - 140) - 2) - 380) - 11) - 140) - 12) - 172) - 7) - 2226) ∧ (423 ≤ (((((((((((((((ca - 1) - 1) - 1) - 101) - 1) - 10) - 1) - 101) - 1) - 10) - 1) - 12) - 1) - 423) - 1) ∧ (2226 ≤ (((((((((((((((sa - 3) - 60) - 2) - 380) - 11) - 140) - 2) - 380) - 11) - 140) - 12) - 172) - 7) - 2226) - 7) ∧ (CV d 423 2226 mX4_init [rv (some (hN (sR H51 1207 a0 0 (some (hN H43)))))] (nw (sR H51 1207 a0 0 (some (hN H43))) 5 0) (fun H58 => tg H58 a0 = 12 ∧ (hN (sR H58 1208 a0 0 (some (hN (sR H51 1207 a0 0 (some (hN H43)))))) < scrA ∧ (1 ≤ ((((((((((((((((ca - 1) - 1) - 1) - 101) - 1) - 10) - 1) - 101) - 1) - 10) - 1) - 12) - 1) - 423) - 1) - 423) ∧ (4 ≤ ((((((((((((((((sa - 3) - 60) - 2) - 380) - 11) - 140) - 2) - 380) - 11) - 140) - 12) - 172) - 7) - 2226) - 7) - 2226) ∧ (tg (nw (sR H58 1208 a0 0 (some (hN (sR H51 1207 a0 0 (some (hN H43)))))) 4568 4) a0 = 12 ∧ (hN (sC (nw (sR H58 1208 a0 0 (some (hN (sR H51 1207 a0 0 (some (hN H43)))))) 4568 4) 1210 a0 (some (hN (sR H58 1208 a0 0 (some (hN (sR H51 1207 a0 0 (some (hN H43))))))))) < scrA ∧ (1 ≤ (((((((((((((((((ca - 1) - 1) - 1) - 101) - 1) - 10) - 1) - 101) - 1) - 10) - 1) - 12) - 1) - 423) - 1) - 423) - 1) ∧ (3 ≤ (((((((((((((((((sa - 3) - 60) - 2) - 380) - 11) - 140) - 2) - 380) - 11) - 140) - 12) - 172) - 7) - 2226) - 7) - 2226) - 4) ∧ (tg (nw (sC (nw (sR H58 1208 a0 0 (some (hN (sR H51 1207 a0 0 (some (hN H43)))))) 4568 4) 1210 a0 (some (hN (sR H58 1208 a0 0 (some (hN (sR H51 1207 a0 0 (some (hN H43))))))))) 4585 3) a0 = 12 ∧ (∀ H68, (sC (nw (sC (nw (sR H58 1208 a0 0 (some (hN (sR H51 1207 a0 0 (some (hN H43)))))) 4568 4) 1210 a0 (some (hN (sR H58 1208 a0 0 (some (hN (sR H51 1207 a0 0 (some (hN H43))))))))) 4585 3) 1211 a0 (some (hN (sC (nw (sR H58 1208 a0 0 (some (hN (sR H51 1207 a0 0 (some (hN H43)))))) 4568 4) 1210 a0 (some (hN (sR H58 1208 a0 0 (some (hN (sR H51 1207 a0 0 (some (hN H43)))))))))))) = H68 → (hN H68 < scrA ∧ (1 ≤ ((((((((((((((((((ca - 1) - 1) - 1) - 101) - 1) - 10) - 1) - 101) - 1) - 10) - 1) - 12) - 1) - 423) - 1) - 423) - 1) - 1) ∧ (2 ≤ ((((((((((((((((((sa - 3) - 60) - 2) - 380) - 11) - 140) - 2) - 380) - 11) - 140) - 12) - 172) - 7) - 2226) - 7) - 2226) - 4) - 3) ∧ (1 ≤ (((((((((((((((((((ca - 1) - 1) - 1) - 101) - 1) - 10) - 1) - 101) - 1) - 10) - 1) - 12) - 1) - 423) - 1) - 423) - 1) - 1) - 1) ∧ (10 ≤ (((((((((((((((((((sa - 3) - 60) - 2) - 380) - 11) - 140) - 2) - 380) - 11) - 140) - 12) - 172) - 7) - 2226) - 7) - 2226) - 4) - 3) - 2) ∧ (CV d 1 10 mX2_init [rv (some (hN H68))] (nw H68 3 0) (fun H76 => tg H76 a0 = 12 ∧ (hN (sC H76 1212 a0 (some (hN H68))) < scrA ∧ (1 ≤ ((((((((((((((((((((ca - 1) - 1) - 1) - 101) - 1) - 10) - 1) - 101) - 1) - 10) - 1) - 12) - 1) - 423) - 1) - 423) - 1) - 1) - 1) - 1) ∧ (2 ≤ ((((((((((((((((((((sa - 3) - 60) - 2) - 380) - 11) - 140) - 2) - 380) - 11) - 140) - 12) - 172) - 7) - 2226) - 7) - 2226) - 4) - 3) - 2) - 10) ∧ (CV d 0 0 mX3_init [rv (some (hN (sC H76 1212 a0 (some (hN H68)))))] (nw (sC H76 1212 a0 (some (hN H68))) 4 0) (fun H81 => tg H81 a0 = 12 ∧ (hN (sC H81 1213 a0 (some (hN (sC H76 1212 a0 (some (hN H68)))))) < scrA ∧ (1 ≤ (((((((((((((((((((((ca - 1) - 1) - 1) - 101) - 1) - 10) - 1) - 101) - 1) - 10) - 1) - 12) - 1) - 423) - 1) - 423) - 1) - 1) - 1) - 1) - 1) ∧ (2 ≤ (((((((((((((((((((((sa - 3) - 60) - 2) - 380) - 11) - 140) - 2) - 380) - 11) - 140) - 12) - 172) - 7) - 2226) - 7) - 2226) - 4) - 3) - 2) - 10) - 2) ∧ (CV d 0 0 mX3_init [rv (some (hN (sC H81 1213 a0 (some (hN (sC H76 1212 a0 (some (hN H68))))))))] (nw (sC H81 1213 a0 (some (hN (sC H76 1212 a0 (some (hN H68)))))) 4 0) (fun H86 => tg H86 a0 = 12 ∧ (hN (sC H86 1214 a0 (some (hN (sC H81 1213 a0 (some (hN (sC H76 1212 a0 (some (hN H68))))))))) < scrA ∧ (1 ≤ ((((((((((((((((((((((ca - 1) - 1) - 1) - 101) - 1) - 10) - 1) - 101) - 1) - 10) - 1) - 12) - 1) - 423) - 1) - 423) - 1) - 1) - 1) - 1) - 1) - 1) ∧ (3 ≤ ((((((((((((((((((((((sa - 3) - 60) - 2) - 380) - 11) - 140) - 2) - 380) - 11) - 140) - 12) - 172) - 7) - 2226) - 7) - 2226) - 4) - 3) - 2) - 10) - 2) - 2) ∧ (tg (nw (sC H86 1214 a0 (some (hN (sC H81 1213 a0 (some (hN (sC H76 1212 a0 (some (hN H68))))))))) 4598 3) a0 = 12 ∧ (∀ H92, (sC (nw (sC H86 1214 a0 (some (hN (sC H81 1213 a0 (some (hN (sC H76 1212 a0 (some (hN H68))))))))) 4598 3) 1215 a0 (some (hN (sC H86 1214 a0 (some (hN (sC H81 1213 a0 (some (hN (sC H76 1212 a0 (some (hN H68)))))))))))) = H92 → (∃ a96, (hC H92 1201 a0) = some a96 ∧ (tg H92 a96 = 11 ∧ (CV d 0 0 mX10_addBases [rv (hC H92 1201 a0)] H92 (fun H95 => L_X11_init_158 d (((((((((((((((((((((((ca - 1) - 1) - 1) - 101) - 1) - 10) - 1) - 101) - 1) - 10) - 1) - 12) - 1) - 423) - 1) - 423) - 1) - 1) - 1) - 1) - 1) - 1) - 1) (((((((((((((((((((((((sa - 3) - 60) - 2) - 380) - 11) - 140) - 2) - 380) - 11) - 140) - 12) - 172) - 7) - 2226) - 7) - 2226) - 4) - 3) - 2) - 10) - 2) - 2) - 3) q a0 (0 : Int32) H95)))))))))))))))))))))))))))))))))))))))))))))))))))))))))))))))))))))))))))))))))))))))))))
set_option maxRecDepth 40000 in
set_option maxHeartbeats 4000000 in
theorem T_X11_init_0 {d : Nat} {ca sa : Nat} {q : HP → Prop} {a0 : Nat} {H : HP} (h : wb_X11_init_0 d ca sa q a0 H) : WP (d + 1) mX11_init ca sa 0 [(0, rv (some a0))] [] H (qV q) := by
  unfold wb_X11_init_0 at h
  refine wp_aload_n 0 dX11_init_0 rfl ?_
  refine wp_objInit dX11_init_1 w_1_28 w_1_29 w_1_30 rfl (by decide) (by omega) ?_
  refine wp_aload_n 0 dX11_init_4 rfl ?_
  obtain ⟨hg1, h⟩ := h
  obtain ⟨hg2, h⟩ := h
  obtain ⟨hg3, h⟩ := h
  refine wp_new (ca' := ca - 1) (sa' := sa - 3) dX11_init_5 (ci := 7) (N := 3) rfl w_1_31 w_1_32 w_1_2 inG7 tyX7_ok (by decide) hg1 (by omega) (by omega) ?_
  refine wp_dup dX11_init_8 (rv_cat _) ?_
  obtain ⟨hg4, h⟩ := h
  obtain ⟨hg5, h⟩ := h
  refine wp_callI (As := []) (rest := [rv (some (hN H)), rv (some a0)]) (mc := 1) (ms := 60) (ca' := ((ca - 1) - 1)) (sa' := ((sa - 3) - 60)) dX11_init_9 lk_X11_11 rfl rfl (by simp [rv_cat, vc_int, vc_long, vc_float, vc_double]) rfl rfl (by omega) (by omega) (Call.weaken h ?_)
  rintro H6 _ ⟨rfl, h⟩
  change WP _ _ _ _ _ _ [rv (some (hN H)), rv (some a0)] H6 _
  obtain ⟨ht7, h⟩ := h
  refine wp_putC (ci := 11) (j := 0) dX11_init_12 fi_X11_12 rfl (fun _ => rfl) rfl ht7 (Or.inl ⟨_, rfl⟩) ?_
  change WP _ _ _ _ _ _ _ (sC H6 1200 a0 (some (hN H))) _
  refine wp_aload_n 0 dX11_init_15 rfl ?_
  obtain ⟨hg8, h⟩ := h
  obtain ⟨hg9, h⟩ := h
  obtain ⟨hg10, h⟩ := h
  refine wp_new (ca' := ((ca - 1) - 1) - 1) (sa' := ((sa - 3) - 60) - 2) dX11_init_16 (ci := 10) (N := 2) rfl w_1_54 w_1_55 w_1_3 inG10 tyX10_ok (by decide) hg8 (by omega) (by omega) ?_
  refine wp_dup dX11_init_19 (rv_cat _) ?_
  obtain ⟨hg11, h⟩ := h
  obtain ⟨hg12, h⟩ := h
  refine wp_callI (As := []) (rest := [rv (some (hN (sC H6 1200 a0 (some (hN H))))), rv (some a0)]) (mc := 101) (ms := 380) (ca' := ((((ca - 1) - 1) - 1) - 101)) (sa' := ((((sa - 3) - 60) - 2) - 380)) dX11_init_20 lk_X11_20 rfl rfl (by simp [rv_cat, vc_int, vc_long, vc_float, vc_double]) rfl rfl (by omega) (by omega) (Call.weaken h ?_)
  rintro H13 _ ⟨rfl, h⟩
  change WP _ _ _ _ _ _ [rv (some (hN (sC H6 1200 a0 (some (hN H))))), rv (some a0)] H13 _
  obtain ⟨ht14, h⟩ := h
  refine wp_putC (ci := 11) (j := 1) dX11_init_23 fi_X11_21 rfl (fun _ => rfl) rfl ht14 (Or.inl ⟨_, rfl⟩) ?_
  change WP _ _ _ _ _ _ _ (sC H13 1201 a0 (some (hN (sC H6 1200 a0 (some (hN H)))))) _
  refine wp_aload_n 0 dX11_init_26 rfl ?_
  obtain ⟨hg15, h⟩ := h
  obtain ⟨hg16, h⟩ := h
  obtain ⟨hg17, h⟩ := h
  refine wp_new (ca' := ((((ca - 1) - 1) - 1) - 101) - 1) (sa' := ((((sa - 3) - 60) - 2) - 380) - 11) dX11_init_27 (ci := 0) (N := 11) rfl w_1_130 w_1_131 w_1_6 inG0 tyX0_ok (by decide) hg15 (by omega) (by omega) ?_
  refine wp_dup dX11_init_30 (rv_cat _) ?_
  obtain ⟨hg18, h⟩ := h
  obtain ⟨hg19, h⟩ := h
  refine wp_callI (As := []) (rest := [rv (some (hN (sC H13 1201 a0 (some (hN (sC H6 1200 a0 (some (hN H)))))))), rv (some a0)]) (mc := 10) (ms := 140) (ca' := ((((((ca - 1) - 1) - 1) - 101) - 1) - 10)) (sa' := ((((((sa - 3) - 60) - 2) - 380) - 11) - 140)) dX11_init_31 lk_X11_27 rfl rfl (by simp [rv_cat, vc_int, vc_long, vc_float, vc_double]) rfl rfl (by omega) (by omega) (Call.weaken h ?_)
  rintro H20 _ ⟨rfl, h⟩
  change WP _ _ _ _ _ _ [rv (some (hN (sC H13 1201 a0 (some (hN (sC H6 1200 a0 (some (hN H)))))))), rv (some a0)] H20 _
  obtain ⟨ht21, h⟩ := h
  refine wp_putC (ci := 11) (j := 2) dX11_init_34 fi_X11_28 rfl (fun _ => rfl) rfl ht21 (Or.inl ⟨_, rfl⟩) ?_
  change WP _ _ _ _ _ _ _ (sC H20 1202 a0 (some (hN (sC H13 1201 a0 (some (hN (sC H6 1200 a0 (some (hN H))))))))) _
  refine wp_aload_n 0 dX11_init_37 rfl ?_
  obtain ⟨hg22, h⟩ := h
  obtain ⟨hg23, h⟩ := h
  obtain ⟨hg24, h⟩ := h
  refine wp_new (ca' := ((((((ca - 1) - 1) - 1) - 101) - 1) - 10) - 1) (sa' := ((((((sa - 3) - 60) - 2) - 380) - 11) - 140) - 2) dX11_init_38 (ci := 10) (N := 2) rfl w_1_54 w_1_55 w_1_3 inG10 tyX10_ok (by decide) hg22 (by omega) (by omega) ?_
  refine wp_dup dX11_init_41 (rv_cat _) ?_
  obtain ⟨hg25, h⟩ := h
  obtain ⟨hg26, h⟩ := h
  refine wp_callI (As := []) (rest := [rv (some (hN (sC H20 1202 a0 (some (hN (sC H13 1201 a0 (some (hN (sC H6 1200 a0 (some (hN H))))))))))), rv (some a0)]) (mc := 101) (ms := 380) (ca' := ((((((((ca - 1) - 1) - 1) - 101) - 1) - 10) - 1) - 101)) (sa' := ((((((((sa - 3) - 60) - 2) - 380) - 11) - 140) - 2) - 380)) dX11_init_42 lk_X11_20 rfl rfl (by simp [rv_cat, vc_int, vc_long, vc_float, vc_double]) rfl rfl (by omega) (by omega) (Call.weaken h ?_)
  rintro H27 _ ⟨rfl, h⟩
  change WP _ _ _ _ _ _ [rv (some (hN (sC H20 1202 a0 (some (hN (sC H13 1201 a0 (some (hN (sC H6 1200 a0 (some (hN H))))))))))), rv (some a0)] H27 _
  obtain ⟨ht28, h⟩ := h
  refine wp_putC (ci := 11) (j := 3) dX11_init_45 fi_X11_32 rfl (fun _ => rfl) rfl ht28 (Or.inl ⟨_, rfl⟩) ?_
  change WP _ _ _ _ _ _ _ (sC H27 1203 a0 (some (hN (sC H20 1202 a0 (some (hN (sC H13 1201 a0 (some (hN (sC H6 1200 a0 (some (hN H)))))))))))) _
  refine wp_aload_n 0 dX11_init_48 rfl ?_
  obtain ⟨hg29, h⟩ := h
  obtain ⟨hg30, h⟩ := h
  obtain ⟨hg31, h⟩ := h
  refine wp_new (ca' := ((((((((ca - 1) - 1) - 1) - 101) - 1) - 10) - 1) - 101) - 1) (sa' := ((((((((sa - 3) - 60) - 2) - 380) - 11) - 140) - 2) - 380) - 11) dX11_init_49 (ci := 0) (N := 11) rfl w_1_130 w_1_131 w_1_6 inG0 tyX0_ok (by decide) hg29 (by omega) (by omega) ?_
  refine wp_dup dX11_init_52 (rv_cat _) ?_
  obtain ⟨hg32, h⟩ := h
  obtain ⟨hg33, h⟩ := h
  refine wp_callI (As := []) (rest := [rv (some (hN (sC H27 1203 a0 (some (hN (sC H20 1202 a0 (some (hN (sC H13 1201 a0 (some (hN (sC H6 1200 a0 (some (hN H)))))))))))))), rv (some a0)]) (mc := 10) (ms := 140) (ca' := ((((((((((ca - 1) - 1) - 1) - 101) - 1) - 10) - 1) - 101) - 1) - 10)) (sa' := ((((((((((sa - 3) - 60) - 2) - 380) - 11) - 140) - 2) - 380) - 11) - 140)) dX11_init_53 lk_X11_27 rfl rfl (by simp [rv_cat, vc_int, vc_long, vc_float, vc_double]) rfl rfl (by omega) (by omega) (Call.weaken h ?_)
  rintro H34 _ ⟨rfl, h⟩
  change WP _ _ _ _ _ _ [rv (some (hN (sC H27 1203 a0 (some (hN (sC H20 1202 a0 (some (hN (sC H13 1201 a0 (some (hN (sC H6 1200 a0 (some (hN H)))))))))))))), rv (some a0)] H34 _
  obtain ⟨ht35, h⟩ := h
  refine wp_putC (ci := 11) (j := 4) dX11_init_56 fi_X11_35 rfl (fun _ => rfl) rfl ht35 (Or.inl ⟨_, rfl⟩) ?_
  change WP _ _ _ _ _ _ _ (sC H34 1204 a0 (some (hN (sC H27 1203 a0 (some (hN (sC H20 1202 a0 (some (hN (sC H13 1201 a0 (some (hN (sC H6 1200 a0 (some (hN H))))))))))))))) _
  refine wp_aload_n 0 dX11_init_59 rfl ?_
  obtain ⟨hg36, h⟩ := h
  obtain ⟨hg37, h⟩ := h
  obtain ⟨hg38, h⟩ := h
  refine wp_new (ca' := ((((((((((ca - 1) - 1) - 1) - 101) - 1) - 10) - 1) - 101) - 1) - 10) - 1) (sa' := ((((((((((sa - 3) - 60) - 2) - 380) - 11) - 140) - 2) - 380) - 11) - 140) - 12) dX11_init_60 (ci := 1) (N := 12) rfl w_1_180 w_1_181 w_1_7 inG1 tyX1_ok (by decide) hg36 (by omega) (by omega) ?_
  refine wp_dup dX11_init_63 (rv_cat _) ?_
  obtain ⟨hg39, h⟩ := h
  obtain ⟨hg40, h⟩ := h
  refine wp_callI (As := []) (rest := [rv (some (hN (sC H34 1204 a0 (some (hN (sC H27 1203 a0 (some (hN (sC H20 1202 a0 (some (hN (sC H13 1201 a0 (some (hN (sC H6 1200 a0 (some (hN H))))))))))))))))), rv (some a0)]) (mc := 12) (ms := 172) (ca' := ((((((((((((ca - 1) - 1) - 1) - 101) - 1) - 10) - 1) - 101) - 1) - 10) - 1) - 12)) (sa' := ((((((((((((sa - 3) - 60) - 2) - 380) - 11) - 140) - 2) - 380) - 11) - 140) - 12) - 172)) dX11_init_64 lk_X11_40 rfl rfl (by simp [rv_cat, vc_int, vc_long, vc_float, vc_double]) rfl rfl (by omega) (by omega) (Call.weaken h ?_)
  rintro H41 _ ⟨rfl, h⟩
  change WP _ _ _ _ _ _ [rv (some (hN (sC H34 1204 a0 (some (hN (sC H27 1203 a0 (some (hN (sC H20 1202 a0 (some (hN (sC H13 1201 a0 (some (hN (sC H6 1200 a0 (some (hN H))))))))))))))))), rv (some a0)] H41 _
  obtain ⟨ht42, h⟩ := h
  refine wp_putC (ci := 11) (j := 6) dX11_init_67 fi_X11_41 rfl (fun _ => rfl) rfl ht42 (Or.inl ⟨_, rfl⟩) ?_
  change WP _ _ _ _ _ _ _ (sC H41 1206 a0 (some (hN (sC H34 1204 a0 (some (hN (sC H27 1203 a0 (some (hN (sC H20 1202 a0 (some (hN (sC H13 1201 a0 (some (hN (sC H6 1200 a0 (some (hN H)))))))))))))))))) _
  replace h := h _ rfl
  generalize e44 : (sC H41 1206 a0 (some (hN (sC H34 1204 a0 (some (hN (sC H27 1203 a0 (some (hN (sC H20 1202 a0 (some (hN (sC H13 1201 a0 (some (hN (sC H6 1200 a0 (some (hN H)))))))))))))))))) = H43 at h ⊢
  have ht45 : tg H43 a0 = 12 := by rw [← e44]; exact ht42
  refine wp_aload_n 0 dX11_init_70 rfl ?_
  obtain ⟨hg46, h⟩ := h
  obtain ⟨hg47, h⟩ := h
  obtain ⟨hg48, h⟩ := h
  refine wp_new (ca' := ((((((((((((ca - 1) - 1) - 1) - 101) - 1) - 10) - 1) - 101) - 1) - 10) - 1) - 12) - 1) (sa' := ((((((((((((sa - 3) - 60) - 2) - 380) - 11) - 140) - 2) - 380) - 11) - 140) - 12) - 172) - 7) dX11_init_71 (ci := 4) (N := 7) rfl w_1_225 w_1_226 w_1_8 inG4 tyX4_ok (by decide) hg46 (by omega) (by omega) ?_
  refine wp_dup dX11_init_74 (rv_cat _) ?_
  obtain ⟨hg49, h⟩ := h
  obtain ⟨hg50, h⟩ := h
  refine wp_callI (As := []) (rest := [rv (some (hN H43)), rv (some a0)]) (mc := 423) (ms := 2226) (ca' := ((((((((((((((ca - 1) - 1) - 1) - 101) - 1) - 10) - 1) - 101) - 1) - 10) - 1) - 12) - 1) - 423)) (sa' := ((((((((((((((sa - 3) - 60) - 2) - 380) - 11) - 140) - 2) - 380) - 11) - 140) - 12) - 172) - 7) - 2226)) dX11_init_75 lk_X11_47 rfl rfl (by simp [rv_cat, vc_int, vc_long, vc_float, vc_double]) rfl rfl (by omega) (by omega) (Call.weaken h ?_)
  rintro H51 _ ⟨rfl, h⟩
  change WP _ _ _ _ _ _ [rv (some (hN H43)), rv (some a0)] H51 _
  obtain ⟨ht52, h⟩ := h
  refine wp_putR (ci := 11) (j := 7) dX11_init_78 fi_X11_48 rfl (fun z => by cases z) rfl ht52 (Or.inl ⟨_, rfl⟩) ?_
  change WP _ _ _ _ _ _ _ (sR H51 1207 a0 0 (some (hN H43))) _
  refine wp_aload_n 0 dX11_init_81 rfl ?_
  obtain ⟨hg53, h⟩ := h
  obtain ⟨hg54, h⟩ := h
  obtain ⟨hg55, h⟩ := h
  refine wp_new (ca' := ((((((((((((((ca - 1) - 1) - 1) - 101) - 1) - 10) - 1) - 101) - 1) - 10) - 1) - 12) - 1) - 423) - 1) (sa' := ((((((((((((((sa - 3) - 60) - 2) - 380) - 11) - 140) - 2) - 380) - 11) - 140) - 12) - 172) - 7) - 2226) - 7) dX11_init_82 (ci := 4) (N := 7) rfl w_1_225 w_1_226 w_1_8 inG4 tyX4_ok (by decide) hg53 (by omega) (by omega) ?_
  refine wp_dup dX11_init_85 (rv_cat _) ?_
  obtain ⟨hg56, h⟩ := h
  obtain ⟨hg57, h⟩ := h
  refine wp_callI (As := []) (rest := [rv (some (hN (sR H51 1207 a0 0 (some (hN H43))))), rv (some a0)]) (mc := 423) (ms := 2226) (ca' := ((((((((((((((((ca - 1) - 1) - 1) - 101) - 1) - 10) - 1) - 101) - 1) - 10) - 1) - 12) - 1) - 423) - 1) - 423)) (sa' := ((((((((((((((((sa - 3) - 60) - 2) - 380) - 11) - 140) - 2) - 380) - 11) - 140) - 12) - 172) - 7) - 2226) - 7) - 2226)) dX11_init_86 lk_X11_47 rfl rfl (by simp [rv_cat, vc_int, vc_long, vc_float, vc_double]) rfl rfl (by omega) (by omega) (Call.weaken h ?_)
  rintro H58 _ ⟨rfl, h⟩
  change WP _ _ _ _ _ _ [rv (some (hN (sR H51 1207 a0 0 (some (hN H43))))), rv (some a0)] H58 _
  obtain ⟨ht59, h⟩ := h
  refine wp_putR (ci := 11) (j := 8) dX11_init_89 fi_X11_52 rfl (fun z => by cases z) rfl ht59 (Or.inl ⟨_, rfl⟩) ?_
  change WP _ _ _ _ _ _ _ (sR H58 1208 a0 0 (some (hN (sR H51 1207 a0 0 (some (hN H43)))))) _
  refine wp_aload_n 0 dX11_init_92 rfl ?_
  refine wp_iconst (v := (4 : Int32)) dX11_init_93 (by decide) ?_
  obtain ⟨hg60, h⟩ := h
  obtain ⟨hg61, h⟩ := h
  obtain ⟨hg62, h⟩ := h
  refine wp_anewarray (t := 4568) (N := 4) (ca' := ((((((((((((((((ca - 1) - 1) - 1) - 101) - 1) - 10) - 1) - 101) - 1) - 10) - 1) - 12) - 1) - 423) - 1) - 423) - 1) (sa' := ((((((((((((((((sa - 3) - 60) - 2) - 380) - 11) - 140) - 2) - 380) - 11) - 140) - 12) - 172) - 7) - 2226) - 7) - 2226) - 4) dX11_init_94 w_2_79 (by decide) (by decide) rfl (by decide) (by decide) (by decide +kernel) hg60 (by omega) (by omega) ?_
  obtain ⟨ht63, h⟩ := h
  refine wp_putC (ci := 11) (j := 10) dX11_init_97 fi_X11_57 rfl (fun _ => rfl) rfl ht63 (Or.inr ⟨_, rfl⟩) ?_
  change WP _ _ _ _ _ _ _ (sC (nw (sR H58 1208 a0 0 (some (hN (sR H51 1207 a0 0 (some (hN H43)))))) 4568 4) 1210 a0 (some (hN (sR H58 1208 a0 0 (some (hN (sR H51 1207 a0 0 (some (hN H43))))))))) _
  refine wp_aload_n 0 dX11_init_100 rfl ?_
  refine wp_iconst (v := (3 : Int32)) dX11_init_101 (by decide) ?_
  obtain ⟨hg64, h⟩ := h
  obtain ⟨hg65, h⟩ := h
  obtain ⟨hg66, h⟩ := h
  refine wp_anewarray (t := 4585) (N := 3) (ca' := (((((((((((((((((ca - 1) - 1) - 1) - 101) - 1) - 10) - 1) - 101) - 1) - 10) - 1) - 12) - 1) - 423) - 1) - 423) - 1) - 1) (sa' := (((((((((((((((((sa - 3) - 60) - 2) - 380) - 11) - 140) - 2) - 380) - 11) - 140) - 12) - 172) - 7) - 2226) - 7) - 2226) - 4) - 3) dX11_init_102 w_2_81 (by decide) (by decide) rfl (by decide) (by decide) (by decide +kernel) hg64 (by omega) (by omega) ?_
  obtain ⟨ht67, h⟩ := h
  refine wp_putC (ci := 11) (j := 11) dX11_init_105 fi_X11_63 rfl (fun _ => rfl) rfl ht67 (Or.inr ⟨_, rfl⟩) ?_
  change WP _ _ _ _ _ _ _ (sC (nw (sC (nw (sR H58 1208 a0 0 (some (hN (sR H51 1207 a0 0 (some (hN H43)))))) 4568 4) 1210 a0 (some (hN (sR H58 1208 a0 0 (some (hN (sR H51 1207 a0 0 (some (hN H43))))))))) 4585 3) 1211 a0 (some (hN (sC (nw (sR H58 1208 a0 0 (some (hN (sR H51 1207 a0 0 (some (hN H43)))))) 4568 4) 1210 a0 (some (hN (sR H58 1208 a0 0 (some (hN (sR H51 1207 a0 0 (some (hN H43)))))))))))) _
  replace h := h _ rfl
  generalize e69 : (sC (nw (sC (nw (sR H58 1208 a0 0 (some (hN (sR H51 1207 a0 0 (some (hN H43)))))) 4568 4) 1210 a0 (some (hN (sR H58 1208 a0 0 (some (hN (sR H51 1207 a0 0 (some (hN H43))))))))) 4585 3) 1211 a0 (some (hN (sC (nw (sR H58 1208 a0 0 (some (hN (sR H51 1207 a0 0 (some (hN H43)))))) 4568 4) 1210 a0 (some (hN (sR H58 1208 a0 0 (some (hN (sR H51 1207 a0 0 (some (hN H43)))))))))))) = H68 at h ⊢
  have ht70 : tg H68 a0 = 12 := by rw [← e69]; exact ht67
  refine wp_aload_n 0 dX11_init_108 rfl ?_
  obtain ⟨hg71, h⟩ := h
  obtain ⟨hg72, h⟩ := h
  obtain ⟨hg73, h⟩ := h
  refine wp_new (ca' := ((((((((((((((((((ca - 1) - 1) - 1) - 101) - 1) - 10) - 1) - 101) - 1) - 10) - 1) - 12) - 1) - 423) - 1) - 423) - 1) - 1) - 1) (sa' := ((((((((((((((((((sa - 3) - 60) - 2) - 380) - 11) - 140) - 2) - 380) - 11) - 140) - 12) - 172) - 7) - 2226) - 7) - 2226) - 4) - 3) - 2) dX11_init_109 (ci := 2) (N := 2) rfl w_2_83 w_2_84 w_1_10 inG2 tyX2_ok (by decide) hg71 (by omega) (by omega) ?_
  refine wp_dup dX11_init_112 (rv_cat _) ?_
  obtain ⟨hg74, h⟩ := h
  obtain ⟨hg75, h⟩ := h
  refine wp_callI (As := []) (rest := [rv (some (hN H68)), rv (some a0)]) (mc := 1) (ms := 10) (ca' := ((((((((((((((((((((ca - 1) - 1) - 1) - 101) - 1) - 10) - 1) - 101) - 1) - 10) - 1) - 12) - 1) - 423) - 1) - 423) - 1) - 1) - 1) - 1)) (sa' := ((((((((((((((((((((sa - 3) - 60) - 2) - 380) - 11) - 140) - 2) - 380) - 11) - 140) - 12) - 172) - 7) - 2226) - 7) - 2226) - 4) - 3) - 2) - 10)) dX11_init_113 lk_X11_69 rfl rfl (by simp [rv_cat, vc_int, vc_long, vc_float, vc_double]) rfl rfl (by omega) (by omega) (Call.weaken h ?_)
  rintro H76 _ ⟨rfl, h⟩
  change WP _ _ _ _ _ _ [rv (some (hN H68)), rv (some a0)] H76 _
  obtain ⟨ht77, h⟩ := h
  refine wp_putC (ci := 11) (j := 12) dX11_init_116 fi_X11_70 rfl (fun _ => rfl) rfl ht77 (Or.inl ⟨_, rfl⟩) ?_
  change WP _ _ _ _ _ _ _ (sC H76 1212 a0 (some (hN H68))) _
  refine wp_aload_n 0 dX11_init_119 rfl ?_
  obtain ⟨hg78, h⟩ := h
  obtain ⟨hg79, h⟩ := h
  obtain ⟨hg80, h⟩ := h
  refine wp_new (ca' := ((((((((((((((((((((ca - 1) - 1) - 1) - 101) - 1) - 10) - 1) - 101) - 1) - 10) - 1) - 12) - 1) - 423) - 1) - 423) - 1) - 1) - 1) - 1) - 1) (sa' := ((((((((((((((((((((sa - 3) - 60) - 2) - 380) - 11) - 140) - 2) - 380) - 11) - 140) - 12) - 172) - 7) - 2226) - 7) - 2226) - 4) - 3) - 2) - 10) - 2) dX11_init_120 (ci := 3) (N := 2) rfl w_2_98 w_1_68 w_1_5 inG3 tyX3_ok (by decide) hg78 (by omega) (by omega) ?_
  refine wp_dup dX11_init_123 (rv_cat _) ?_
  refine wp_callI (As := []) (rest := [rv (some (hN (sC H76 1212 a0 (some (hN H68))))), rv (some a0)]) (mc := 0) (ms := 0) (ca' := (((((((((((((((((((((ca - 1) - 1) - 1) - 101) - 1) - 10) - 1) - 101) - 1) - 10) - 1) - 12) - 1) - 423) - 1) - 423) - 1) - 1) - 1) - 1) - 1)) (sa' := (((((((((((((((((((((sa - 3) - 60) - 2) - 380) - 11) - 140) - 2) - 380) - 11) - 140) - 12) - 172) - 7) - 2226) - 7) - 2226) - 4) - 3) - 2) - 10) - 2)) dX11_init_124 lk_X11_76 rfl rfl (by simp [rv_cat, vc_int, vc_long, vc_float, vc_double]) rfl rfl rfl rfl (Call.weaken h ?_)
  rintro H81 _ ⟨rfl, h⟩
  change WP _ _ _ _ _ _ [rv (some (hN (sC H76 1212 a0 (some (hN H68))))), rv (some a0)] H81 _
  obtain ⟨ht82, h⟩ := h
  refine wp_putC (ci := 11) (j := 13) dX11_init_127 fi_X11_77 rfl (fun _ => rfl) rfl ht82 (Or.inl ⟨_, rfl⟩) ?_
  change WP _ _ _ _ _ _ _ (sC H81 1213 a0 (some (hN (sC H76 1212 a0 (some (hN H68)))))) _
  refine wp_aload_n 0 dX11_init_130 rfl ?_
  obtain ⟨hg83, h⟩ := h
  obtain ⟨hg84, h⟩ := h
  obtain ⟨hg85, h⟩ := h
  refine wp_new (ca' := (((((((((((((((((((((ca - 1) - 1) - 1) - 101) - 1) - 10) - 1) - 101) - 1) - 10) - 1) - 12) - 1) - 423) - 1) - 423) - 1) - 1) - 1) - 1) - 1) - 1) (sa' := (((((((((((((((((((((sa - 3) - 60) - 2) - 380) - 11) - 140) - 2) - 380) - 11) - 140) - 12) - 172) - 7) - 2226) - 7) - 2226) - 4) - 3) - 2) - 10) - 2) - 2) dX11_init_131 (ci := 3) (N := 2) rfl w_2_98 w_1_68 w_1_5 inG3 tyX3_ok (by decide) hg83 (by omega) (by omega) ?_
  refine wp_dup dX11_init_134 (rv_cat _) ?_
  refine wp_callI (As := []) (rest := [rv (some (hN (sC H81 1213 a0 (some (hN (sC H76 1212 a0 (some (hN H68)))))))), rv (some a0)]) (mc := 0) (ms := 0) (ca' := ((((((((((((((((((((((ca - 1) - 1) - 1) - 101) - 1) - 10) - 1) - 101) - 1) - 10) - 1) - 12) - 1) - 423) - 1) - 423) - 1) - 1) - 1) - 1) - 1) - 1)) (sa' := ((((((((((((((((((((((sa - 3) - 60) - 2) - 380) - 11) - 140) - 2) - 380) - 11) - 140) - 12) - 172) - 7) - 2226) - 7) - 2226) - 4) - 3) - 2) - 10) - 2) - 2)) dX11_init_135 lk_X11_76 rfl rfl (by simp [rv_cat, vc_int, vc_long, vc_float, vc_double]) rfl rfl rfl rfl (Call.weaken h ?_)
  rintro H86 _ ⟨rfl, h⟩
  change WP _ _ _ _ _ _ [rv (some (hN (sC H81 1213 a0 (some (hN (sC H76 1212 a0 (some (hN H68)))))))), rv (some a0)] H86 _
  obtain ⟨ht87, h⟩ := h
  refine wp_putC (ci := 11) (j := 14) dX11_init_138 fi_X11_81 rfl (fun _ => rfl) rfl ht87 (Or.inl ⟨_, rfl⟩) ?_
  change WP _ _ _ _ _ _ _ (sC H86 1214 a0 (some (hN (sC H81 1213 a0 (some (hN (sC H76 1212 a0 (some (hN H68))))))))) _
  refine wp_aload_n 0 dX11_init_141 rfl ?_
  refine wp_iconst (v := (3 : Int32)) dX11_init_142 (by decide) ?_
  obtain ⟨hg88, h⟩ := h
  obtain ⟨hg89, h⟩ := h
  obtain ⟨hg90, h⟩ := h
  refine wp_anewarray (t := 4598) (N := 3) (ca' := ((((((((((((((((((((((ca - 1) - 1) - 1) - 101) - 1) - 10) - 1) - 101) - 1) - 10) - 1) - 12) - 1) - 423) - 1) - 423) - 1) - 1) - 1) - 1) - 1) - 1) - 1) (sa' := ((((((((((((((((((((((sa - 3) - 60) - 2) - 380) - 11) - 140) - 2) - 380) - 11) - 140) - 12) - 172) - 7) - 2226) - 7) - 2226) - 4) - 3) - 2) - 10) - 2) - 2) - 3) dX11_init_143 w_2_100 (by decide) (by decide) rfl (by decide) (by decide) (by decide +kernel) hg88 (by omega) (by omega) ?_
  obtain ⟨ht91, h⟩ := h
  refine wp_putC (ci := 11) (j := 15) dX11_init_146 fi_X11_86 rfl (fun _ => rfl) rfl ht91 (Or.inr ⟨_, rfl⟩) ?_
  change WP _ _ _ _ _ _ _ (sC (nw (sC H86 1214 a0 (some (hN (sC H81 1213 a0 (some (hN (sC H76 1212 a0 (some (hN H68))))))))) 4598 3) 1215 a0 (some (hN (sC H86 1214 a0 (some (hN (sC H81 1213 a0 (some (hN (sC H76 1212 a0 (some (hN H68)))))))))))) _
  replace h := h _ rfl
  generalize e93 : (sC (nw (sC H86 1214 a0 (some (hN (sC H81 1213 a0 (some (hN (sC H76 1212 a0 (some (hN H68))))))))) 4598 3) 1215 a0 (some (hN (sC H86 1214 a0 (some (hN (sC H81 1213 a0 (some (hN (sC H76 1212 a0 (some (hN H68)))))))))))) = H92 at h ⊢
  have ht94 : tg H92 a0 = 12 := by rw [← e93]; exact ht91
  refine wp_aload_n 0 dX11_init_149 rfl ?_
  refine wp_getC (ci := 11) (j := 1) dX11_init_150 fi_X11_21r rfl rfl ht94 ?_
  change WP _ _ _ _ _ _ (rv (hC H92 1201 a0) :: _) _ _
  obtain ⟨a96, ha96, h⟩ := h
  obtain ⟨ht97, h⟩ := h
  refine wp_callV (ci := 10) (As := []) (rest := []) (mc := 0) (ms := 0) (ca' := (((((((((((((((((((((((ca - 1) - 1) - 1) - 101) - 1) - 10) - 1) - 101) - 1) - 10) - 1) - 12) - 1) - 423) - 1) - 423) - 1) - 1) - 1) - 1) - 1) - 1) - 1)) (sa' := (((((((((((((((((((((((sa - 3) - 60) - 2) - 380) - 11) - 140) - 2) - 380) - 11) - 140) - 12) - 172) - 7) - 2226) - 7) - 2226) - 4) - 3) - 2) - 10) - 2) - 2) - 3)) dX11_init_153 lk_X11_90 rfl rfl (by decide) ha96 rfl rfl ht97 rfl rfl rfl w_2_101 (Call.weaken h ?_)
  rintro H95 _ ⟨rfl, h⟩
  change WP _ _ _ _ _ _ [] H95 _
  refine wp_iconst (v := (0 : Int32)) dX11_init_156 (by decide) ?_
  refine wp_istore_n (ls' := [(1, .int (0 : Int32)), (0, rv (some a0))]) dX11_init_157 (by decide) rfl ?_
  refine wp_sub (ls' := [(0, rv (some a0)), (1, .int (0 : Int32))]) [1, 0] rfl ?_
  exact h
def wb_X11_init_158 (d : Nat) (ca sa : Nat) (q : HP → Prop) (a0 : Nat) (x1 : Int32) (H : HP) : Prop :=
  ((4 : Int32) ≤ x1 → L_X11_init_184 d ca sa q a0 (0 : Int32) H) ∧ (¬ ((4 : Int32) ≤ x1) → tg H a0 = 12 ∧ (hN H < scrA ∧ (1 ≤ ca ∧ (4 ≤ sa ∧ (2 ≤ (ca - 1) ∧ (60 ≤ (sa - 4) ∧ (CV d 2 60 mX8_init [rv (some (hN H))] (nw H 9 0) (fun H7 => ∃ a8, (hC H 1210 a0) = some a8 ∧ (isA H7 a8 8 ∧ (vp_in x1 (ln H7 a8) ∧ (tg H7 (hN H) = 9 ∧ (L_X11_init_158 d ((ca - 1) - 2) ((sa - 4) - 60) q a0 (x1 + 1) (sR H7 (tg H7 a8) a8 x1.toNatClampNeg (some (hN H)))))))))))))))
set_option maxRecDepth 40000 in
set_option maxHeartbeats 4000000 in
theorem T_X11_init_158 {d : Nat} {ca sa : Nat} {q : HP → Prop} {a0 : Nat} {x1 : Int32} {H : HP} (h : wb_X11_init_158 d ca sa q a0 x1 H) : L_X11_init_158 d ca sa q a0 x1 H := by
  unfold wb_X11_init_158 at h
  unfold L_X11_init_158
  refine wp_iload_n 1 dX11_init_158 rfl ?_
  refine wp_iconst (v := (4 : Int32)) dX11_init_159 (by decide) ?_
  refine wp_icmp_ge (tgt := 182) dX11_init_160 rfl (fun c => ?_) (fun c => ?_)
  · replace h := h.1 c
    refine wp_iconst (v := (0 : Int32)) dX11_init_182 (by decide) ?_
    refine wp_istore_n (ls' := [(1, .int (0 : Int32)), (0, rv (some a0))]) dX11_init_183 (by decide) rfl ?_
    refine wp_sub (ls' := [(0, rv (some a0)), (1, .int (0 : Int32))]) [1, 0] rfl ?_
    exact h
  · replace h := h.2 c
    refine wp_aload_n 0 dX11_init_163 rfl ?_
    obtain ⟨ht1, h⟩ := h
    refine wp_getC (ci := 11) (j := 10) dX11_init_164 fi_X11_57r rfl rfl ht1 ?_
    change WP _ _ _ _ _ _ (rv (hC H 1210 a0) :: _) _ _
    refine wp_iload_n 1 dX11_init_167 rfl ?_
    obtain ⟨hg2, h⟩ := h
    obtain ⟨hg3, h⟩ := h
    obtain ⟨hg4, h⟩ := h
    refine wp_new (ca' := ca - 1) (sa' := sa - 4) dX11_init_168 (ci := 8) (N := 4) rfl w_2_79 w_2_153 w_1_15 inG8 tyX8_ok (by decide) hg2 (by omega) (by omega) ?_
    refine wp_dup dX11_init_171 (rv_cat _) ?_
    obtain ⟨hg5, h⟩ := h
    obtain ⟨hg6, h⟩ := h
    refine wp_callI (As := []) (rest := [rv (some (hN H)), .int x1, rv (hC H 1210 a0)]) (mc := 2) (ms := 60) (ca' := ((ca - 1) - 2)) (sa' := ((sa - 4) - 60)) dX11_init_172 lk_X11_93 rfl rfl (by simp [rv_cat, vc_int, vc_long, vc_float, vc_double]) rfl rfl (by omega) (by omega) (Call.weaken h ?_)
    rintro H7 _ ⟨rfl, h⟩
    change WP _ _ _ _ _ _ [rv (some (hN H)), .int x1, rv (hC H 1210 a0)] H7 _
    obtain ⟨a8, ha8, h⟩ := h
    obtain ⟨hr9, h⟩ := h
    obtain ⟨hg10, h⟩ := h
    obtain ⟨ht11, h⟩ := h
    refine wp_aastore (e := 8) (ci := 8) dX11_init_175 ha8 hr9 (by decide) hg10 rfl el_8 (fun x z => by cases z; exact ht11) ?_
    change WP _ _ _ _ _ _ _ (sR H7 (tg H7 a8) a8 x1.toNatClampNeg (some (hN H))) _
    refine wp_iinc (v := (x1 + 1)) (ls' := [(1, .int (x1 + 1)), (0, rv (some a0))]) 1 dX11_init_176 rfl rfl (by decide) rfl ?_
    refine wp_goto (tgt := 158) dX11_init_179 rfl ?_
    refine wp_sub (ls' := [(0, rv (some a0)), (1, .int (x1 + 1))]) [1, 0] rfl ?_
    exact h
def wb_X11_init_184 (d : Nat) (ca sa : Nat) (q : HP → Prop) (a0 : Nat) (x1 : Int32) (H : HP) : Prop :=
  ((3 : Int32) ≤ x1 → q H) ∧ (¬ ((3 : Int32) ≤ x1) → tg H a0 = 12 ∧ (hN H < scrA ∧ (1 ≤ ca ∧ (3 ≤ sa ∧ (2 ≤ (ca - 1) ∧ (12 ≤ (sa - 3) ∧ (CV d 2 12 mX5_init [rv (some (hN H)), .int x1] (nw H 6 0) (fun H7 => ∃ a8, (hC H 1211 a0) = some a8 ∧ (isA H7 a8 9 ∧ (vp_in x1 (ln H7 a8) ∧ (tg H7 (hN H) = 6 ∧ (L_X11_init_184 d ((ca - 1) - 2) ((sa - 3) - 12) q a0 (x1 + 1) (sR H7 (tg H7 a8) a8 x1.toNatClampNeg (some (hN H)))))))))))))))
set_option maxRecDepth 40000 in
set_option maxHeartbeats 4000000 in
theorem T_X11_init_184 {d : Nat} {ca sa : Nat} {q : HP → Prop} {a0 : Nat} {x1 : Int32} {H : HP} (h : wb_X11_init_184 d ca sa q a0 x1 H) : L_X11_init_184 d ca sa q a0 x1 H := by
  unfold wb_X11_init_184 at h
  unfold L_X11_init_184
  refine wp_iload_n 1 dX11_init_184 rfl ?_
  refine wp_iconst (v := (3 : Int32)) dX11_init_185 (by decide) ?_
  refine wp_icmp_ge (tgt := 209) dX11_init_186 rfl (fun c => ?_) (fun c => ?_)
  · replace h := h.1 c
    exact wp_return dX11_init_209 rfl ⟨rfl, h⟩
  · replace h := h.2 c
    refine wp_aload_n 0 dX11_init_189 rfl ?_
    obtain ⟨ht1, h⟩ := h
    refine wp_getC (ci := 11) (j := 11) dX11_init_190 fi_X11_63r rfl rfl ht1 ?_
    change WP _ _ _ _ _ _ (rv (hC H 1211 a0) :: _) _ _
    refine wp_iload_n 1 dX11_init_193 rfl ?_
    obtain ⟨hg2, h⟩ := h
    obtain ⟨hg3, h⟩ := h
    obtain ⟨hg4, h⟩ := h
    refine wp_new (ca' := ca - 1) (sa' := sa - 3) dX11_init_194 (ci := 5) (N := 3) rfl w_2_81 w_2_175 w_1_16 inG5 tyX5_ok (by decide) hg2 (by omega) (by omega) ?_
    refine wp_dup dX11_init_197 (rv_cat _) ?_
    refine wp_iload_n 1 dX11_init_198 rfl ?_
    obtain ⟨hg5, h⟩ := h
    obtain ⟨hg6, h⟩ := h
    refine wp_callI (As := [.int x1]) (rest := [rv (some (hN H)), .int x1, rv (hC H 1211 a0)]) (mc := 2) (ms := 12) (ca' := ((ca - 1) - 2)) (sa' := ((sa - 3) - 12)) dX11_init_199 lk_X11_94 rfl rfl (by simp [rv_cat, vc_int, vc_long, vc_float, vc_double]) rfl rfl (by omega) (by omega) (Call.weaken h ?_)
    rintro H7 _ ⟨rfl, h⟩
    change WP _ _ _ _ _ _ [rv (some (hN H)), .int x1, rv (hC H 1211 a0)] H7 _
    obtain ⟨a8, ha8, h⟩ := h
    obtain ⟨hr9, h⟩ := h
    obtain ⟨hg10, h⟩ := h
    obtain ⟨ht11, h⟩ := h
    refine wp_aastore (e := 9) (ci := 5) dX11_init_202 ha8 hr9 (by decide) hg10 rfl el_9 (fun x z => by cases z; exact ht11) ?_
    change WP _ _ _ _ _ _ _ (sR H7 (tg H7 a8) a8 x1.toNatClampNeg (some (hN H))) _
    refine wp_iinc (v := (x1 + 1)) (ls' := [(1, .int (x1 + 1)), (0, rv (some a0))]) 1 dX11_init_203 rfl rfl (by decide) rfl ?_
    refine wp_goto (tgt := 184) dX11_init_206 rfl ?_
    refine wp_sub (ls' := [(0, rv (some a0)), (1, .int (x1 + 1))]) [1, 0] rfl ?_
    exact h
theorem C_X11_init {d : Nat} {ca sa : Nat} {q : HP → Prop} {a0 : Nat} {H : HP} (h : wb_X11_init_0 d ca sa q a0 H) : CV (d + 1) ca sa mX11_init [rv (some a0)] H q := by
  refine call_of (by decide +kernel) (by simp [lg_sl, rv_cat, vc_int, vc_long, vc_float, vc_double]) ?_
  have e : lv_args 0 [rv (some a0)] = [(0, rv (some a0))] := by simp [lv_args, rv_cat, vc_int, vc_long, vc_float, vc_double]
  rw [e]
  exact T_X11_init_0 h
def wb_X11_isPlace_0 (d : Nat) (q : HP → Bool → Prop) (x0 : Int32) (H : HP) : Prop :=
  (x0 < 0 → q H false) ∧ (¬ (x0 < 0) → ((6 : Int32) ≤ x0 → q H false) ∧ (¬ ((6 : Int32) ≤ x0) → q H true))
set_option maxRecDepth 40000 in
set_option maxHeartbeats 4000000 in
theorem T_X11_isPlace_0 {d : Nat} {q : HP → Bool → Prop} {x0 : Int32} {H : HP} (h : wb_X11_isPlace_0 d q x0 H) : WP (d + 1) mX11_isPlace 0 0 0 [(0, .int x0)] [] H (qZ q) := by
  unfold wb_X11_isPlace_0 at h
  refine wp_iload_n 0 dX11_isPlace_0 rfl ?_
  refine wp_if_lt (tgt := 14) dX11_isPlace_1 rfl (fun c => ?_) (fun c => ?_)
  · replace h := h.1 c
    refine wp_iconst (v := (0 : Int32)) dX11_isPlace_14 (by decide) ?_
    exact wp_ireturn (ty := .boolean) dX11_isPlace_15 rfl rfl ⟨false, rfl, h⟩
  · replace h := h.2 c
    refine wp_iload_n 0 dX11_isPlace_4 rfl ?_
    refine wp_bipush (v := (6 : Int32)) dX11_isPlace_5 (by decide) ?_
    refine wp_icmp_ge (tgt := 14) dX11_isPlace_7 rfl (fun c => ?_) (fun c => ?_)
    · replace h := h.1 c
      refine wp_iconst (v := (0 : Int32)) dX11_isPlace_14 (by decide) ?_
      exact wp_ireturn (ty := .boolean) dX11_isPlace_15 rfl rfl ⟨false, rfl, h⟩
    · replace h := h.2 c
      refine wp_iconst (v := (1 : Int32)) dX11_isPlace_10 (by decide) ?_
      refine wp_goto (tgt := 15) dX11_isPlace_11 rfl ?_
      exact wp_ireturn (ty := .boolean) dX11_isPlace_15 rfl rfl ⟨true, rfl, h⟩
theorem C_X11_isPlace {d : Nat} {q : HP → Bool → Prop} {x0 : Int32} {H : HP} (h : wb_X11_isPlace_0 d q x0 H) : CZ (d + 1) 0 0 mX11_isPlace [.int x0] H q := by
  refine call_of (by decide +kernel) (by simp [lg_sl, rv_cat, vc_int, vc_long, vc_float, vc_double]) ?_
  have e : lv_args 0 [.int x0] = [(0, .int x0)] := by simp [lv_args, rv_cat, vc_int, vc_long, vc_float, vc_double]
  rw [e]
  exact T_X11_isPlace_0 h
def wb_X11_isTold_0 (d : Nat) (q : HP → Bool → Prop) (x0 : Int32) (H : HP) : Prop :=
  (x0 < (1 : Int32) → q H false) ∧ (¬ (x0 < (1 : Int32)) → ((999999 : Int32) < x0 → q H false) ∧ (¬ ((999999 : Int32) < x0) → q H true))
set_option maxRecDepth 40000 in
set_option maxHeartbeats 4000000 in
theorem T_X11_isTold_0 {d : Nat} {q : HP → Bool → Prop} {x0 : Int32} {H : HP} (h : wb_X11_isTold_0 d q x0 H) : WP (d + 1) mX11_isTold 0 0 0 [(0, .int x0)] [] H (qZ q) := by
  unfold wb_X11_isTold_0 at h
  refine wp_iload_n 0 dX11_isTold_0 rfl ?_
  refine wp_iconst (v := (1 : Int32)) dX11_isTold_1 (by decide) ?_
  refine wp_icmp_lt (tgt := 16) dX11_isTold_2 rfl (fun c => ?_) (fun c => ?_)
  · replace h := h.1 c
    refine wp_iconst (v := (0 : Int32)) dX11_isTold_16 (by decide) ?_
    exact wp_ireturn (ty := .boolean) dX11_isTold_17 rfl rfl ⟨false, rfl, h⟩
  · replace h := h.2 c
    refine wp_iload_n 0 dX11_isTold_5 rfl ?_
    refine wp_ldcw dX11_isTold_6 w_3_236 ?_
    refine wp_icmp_gt (tgt := 16) dX11_isTold_9 rfl (fun c => ?_) (fun c => ?_)
    · replace h := h.1 c
      refine wp_iconst (v := (0 : Int32)) dX11_isTold_16 (by decide) ?_
      exact wp_ireturn (ty := .boolean) dX11_isTold_17 rfl rfl ⟨false, rfl, h⟩
    · replace h := h.2 c
      refine wp_iconst (v := (1 : Int32)) dX11_isTold_12 (by decide) ?_
      refine wp_goto (tgt := 17) dX11_isTold_13 rfl ?_
      exact wp_ireturn (ty := .boolean) dX11_isTold_17 rfl rfl ⟨true, rfl, h⟩
theorem C_X11_isTold {d : Nat} {q : HP → Bool → Prop} {x0 : Int32} {H : HP} (h : wb_X11_isTold_0 d q x0 H) : CZ (d + 1) 0 0 mX11_isTold [.int x0] H q := by
  refine call_of (by decide +kernel) (by simp [lg_sl, rv_cat, vc_int, vc_long, vc_float, vc_double]) ?_
  have e : lv_args 0 [.int x0] = [(0, .int x0)] := by simp [lv_args, rv_cat, vc_int, vc_long, vc_float, vc_double]
  rw [e]
  exact T_X11_isTold_0 h
def wb_X11_item_0 (d : Nat) (q : HP → Int64 → Prop) (a0 : Nat) (x1 : Int32) (x2 : Int32) (H : HP) : Prop :=
  tg H a0 = 12 ∧ (CI d 0 0 mX11_itemRefusal [rv (some a0), .int x1, .int x2] H (fun H1 r3 => (r3 = 0 → tg H1 a0 = 12 ∧ (∃ a5, (hC H1 1210 a0) = some a5 ∧ (isA H1 a5 8 ∧ (vp_in x1 (ln H1 a5) ∧ (∃ a8, (hR H1 (tg H1 a5) a5 x1.toNatClampNeg) = some a8 ∧ (tg H1 a8 = 9 ∧ (∃ a10, (hC H1 902 a8) = some a10 ∧ (isA H1 a10 5 ∧ (vp_in x2 (ln H1 a10) ∧ (∃ a13, (hC H1 903 a8) = some a13 ∧ (isA H1 a13 2 ∧ (vp_in x2 (ln H1 a13) ∧ (CJ d 0 0 mX8_bitsOf [rv (hR H1 (tg H1 a5) a5 x1.toNatClampNeg), .double (hD H1 (tg H1 a10) a10 x2.toNatClampNeg), .int (hI H1 (tg H1 a13) a13 x2.toNatClampNeg), rv (hC H1 1212 a0)] H1 (fun H16 r17 => q H16 r17)))))))))))))) ∧ (¬ (r3 = 0) → q H1 (-9223372036854775808 : Int64))))
set_option maxRecDepth 40000 in
set_option maxHeartbeats 4000000 in
theorem T_X11_item_0 {d : Nat} {q : HP → Int64 → Prop} {a0 : Nat} {x1 : Int32} {x2 : Int32} {H : HP} (h : wb_X11_item_0 d q a0 x1 x2 H) : WP (d + 1) mX11_item 0 0 0 [(0, rv (some a0)), (1, .int x1), (2, .int x2)] [] H (qJ q) := by
  unfold wb_X11_item_0 at h
  refine wp_aload_n 0 dX11_item_0 rfl ?_
  refine wp_iload_n 1 dX11_item_1 rfl ?_
  refine wp_iload_n 2 dX11_item_2 rfl ?_
  obtain ⟨ht2, h⟩ := h
  refine wp_callV (ci := 11) (As := [.int x1, .int x2]) (rest := []) (mc := 0) (ms := 0) dX11_item_3 lk_X11_323 rfl rfl (by decide) rfl rfl rfl ht2 rfl rfl rfl w_5_66 (Call.weaken h ?_)
  rintro H1 _ ⟨r3, rfl, h⟩
  change WP _ _ _ _ _ _ [.int r3] H1 _
  refine wp_if_eq (tgt := 13) dX11_item_6 rfl (fun c => ?_) (fun c => ?_)
  · replace h := h.1 c
    refine wp_aload_n 0 dX11_item_13 rfl ?_
    obtain ⟨ht4, h⟩ := h
    refine wp_getC (ci := 11) (j := 10) dX11_item_14 fi_X11_57r rfl rfl ht4 ?_
    change WP _ _ _ _ _ _ (rv (hC H1 1210 a0) :: _) _ _
    refine wp_iload_n 1 dX11_item_17 rfl ?_
    obtain ⟨a5, ha5, h⟩ := h
    obtain ⟨hr6, h⟩ := h
    obtain ⟨hg7, h⟩ := h
    refine wp_aaload (e := 8) dX11_item_18 ha5 hr6 (by decide) hg7 ?_
    refine wp_astore_n (ls' := [(3, rv (hR H1 (tg H1 a5) a5 x1.toNatClampNeg)), (0, rv (some a0)), (1, .int x1), (2, .int x2)]) dX11_item_19 (by decide) rfl ?_
    refine wp_aload_n 0 dX11_item_20 rfl ?_
    refine wp_aload_n 0 dX11_item_21 rfl ?_
    obtain ⟨a8, ha8, h⟩ := h
    obtain ⟨ht9, h⟩ := h
    refine wp_getC (ci := 8) (j := 2) dX11_item_22 fi_X11_340 rfl ha8 ht9 ?_
    change WP _ _ _ _ _ _ (rv (hC H1 902 a8) :: _) _ _
    refine wp_iload_n 3 dX11_item_25 rfl ?_
    obtain ⟨a10, ha10, h⟩ := h
    obtain ⟨hr11, h⟩ := h
    obtain ⟨hg12, h⟩ := h
    refine wp_daload dX11_item_26 ha10 hr11 hg12 ?_
    refine wp_aload_n 0 dX11_item_27 rfl ?_
    refine wp_getC (ci := 8) (j := 3) dX11_item_28 fi_X11_344 rfl ha8 ht9 ?_
    change WP _ _ _ _ _ _ (rv (hC H1 903 a8) :: _) _ _
    refine wp_iload_n 3 dX11_item_31 rfl ?_
    obtain ⟨a13, ha13, h⟩ := h
    obtain ⟨hr14, h⟩ := h
    obtain ⟨hg15, h⟩ := h
    refine wp_zaload dX11_item_32 ha13 hr14 hg15 ?_
    refine wp_aload_n 1 dX11_item_33 rfl ?_
    refine wp_getC (ci := 11) (j := 12) dX11_item_34 fi_X11_70r rfl rfl ht4 ?_
    change WP _ _ _ _ _ _ (rv (hC H1 1212 a0) :: _) _ _
    refine wp_callV (ci := 8) (As := [.double (hD H1 (tg H1 a10) a10 x2.toNatClampNeg), .int (hI H1 (tg H1 a13) a13 x2.toNatClampNeg), rv (hC H1 1212 a0)]) (rest := []) (mc := 0) (ms := 0) dX11_item_37 lk_X11_348 rfl rfl (by decide) ha8 rfl rfl ht9 rfl rfl rfl w_5_113 (Call.weaken h ?_)
    rintro H16 _ ⟨r17, rfl, h⟩
    change WP _ _ _ _ _ _ [.long r17] H16 _
    exact wp_lreturn dX11_item_40 rfl ⟨_, rfl, h⟩
  · replace h := h.2 c
    refine wp_ldc2 dX11_item_9 w_3_210 ?_
    exact wp_lreturn dX11_item_12 rfl ⟨_, rfl, h⟩
theorem C_X11_item {d : Nat} {q : HP → Int64 → Prop} {a0 : Nat} {x1 : Int32} {x2 : Int32} {H : HP} (h : wb_X11_item_0 d q a0 x1 x2 H) : CJ (d + 1) 0 0 mX11_item [rv (some a0), .int x1, .int x2] H q := by
  refine call_of (by decide +kernel) (by simp [lg_sl, rv_cat, vc_int, vc_long, vc_float, vc_double]) ?_
  have e : lv_args 0 [rv (some a0), .int x1, .int x2] = [(0, rv (some a0)), (1, .int x1), (2, .int x2)] := by simp [lv_args, rv_cat, vc_int, vc_long, vc_float, vc_double]
  rw [e]
  exact T_X11_item_0 h
def wb_X11_itemRefusal_0 (d : Nat) (q : HP → Int32 → Prop) (a0 : Nat) (x1 : Int32) (x2 : Int32) (H : HP) : Prop :=
  tg H a0 = 12 ∧ (CR d 0 0 mX11_trackAt [rv (some a0), .int x1] H (fun H1 r3 => (r3 = none → q H1 (-1 : Int32)) ∧ (∀ a4, r3 = some a4 → tg H1 a4 = 9 ∧ (CZ d 0 0 mX8_isNothing [rv r3] H1 (fun H5 b7 => (b7 = false → (x2 < 0 → q H5 (-7 : Int32)) ∧ (¬ (x2 < 0) → tg H5 a4 = 9 ∧ ((x2 < (hI H5 901 a4 0) → q H5 (0 : Int32)) ∧ (¬ (x2 < (hI H5 901 a4 0)) → q H5 (-7 : Int32))))) ∧ (b7 = true → q H5 (-6 : Int32)))))))
set_option maxRecDepth 40000 in
set_option maxHeartbeats 4000000 in
theorem T_X11_itemRefusal_0 {d : Nat} {q : HP → Int32 → Prop} {a0 : Nat} {x1 : Int32} {x2 : Int32} {H : HP} (h : wb_X11_itemRefusal_0 d q a0 x1 x2 H) : WP (d + 1) mX11_itemRefusal 0 0 0 [(0, rv (some a0)), (1, .int x1), (2, .int x2)] [] H (qI q) := by
  unfold wb_X11_itemRefusal_0 at h
  refine wp_aload_n 0 dX11_itemRefusal_0 rfl ?_
  refine wp_iload_n 1 dX11_itemRefusal_1 rfl ?_
  obtain ⟨ht2, h⟩ := h
  refine wp_callV (ci := 11) (As := [.int x1]) (rest := []) (mc := 0) (ms := 0) dX11_itemRefusal_2 lk_X11_315 rfl rfl (by decide) rfl rfl rfl ht2 rfl rfl rfl w_5_50 (Call.weaken h ?_)
  rintro H1 _ ⟨r3, rfl, h⟩
  change WP _ _ _ _ _ _ [rv r3] H1 _
  refine wp_astore_n (ls' := [(3, rv r3), (0, rv (some a0)), (1, .int x1), (2, .int x2)]) dX11_itemRefusal_5 (by decide) rfl ?_
  refine wp_aload_n 0 dX11_itemRefusal_6 rfl ?_
  refine wp_ifnonnull (tgt := 12) dX11_itemRefusal_7 rfl (fun a4 ha4 => ?_) (fun c => ?_)
  · replace h := h.2 a4 ha4
    refine wp_aload_n 0 dX11_itemRefusal_12 rfl ?_
    obtain ⟨ht6, h⟩ := h
    refine wp_callV (ci := 8) (As := []) (rest := []) (mc := 0) (ms := 0) dX11_itemRefusal_13 lk_X11_352 rfl rfl (by decide) ha4 rfl rfl ht6 rfl rfl rfl w_5_70 (Call.weaken h ?_)
    rintro H5 _ ⟨b7, rfl, h⟩
    change WP _ _ _ _ _ _ [.int (bI b7)] H5 _
    refine wp_if_eq (tgt := 22) dX11_itemRefusal_16 rfl (fun c => ?_) (fun c => ?_)
    · replace h := h.1 (bI_0.mp c)
      refine wp_iload_n 3 dX11_itemRefusal_22 rfl ?_
      refine wp_if_lt (tgt := 34) dX11_itemRefusal_23 rfl (fun c => ?_) (fun c => ?_)
      · replace h := h.1 c
        refine wp_bipush (v := (-7 : Int32)) dX11_itemRefusal_34 (by decide) ?_
        refine wp_goto (tgt := 40) dX11_itemRefusal_36 rfl ?_
        exact wp_ireturn (ty := .int) dX11_itemRefusal_40 rfl rfl ⟨_, rfl, h⟩
      · replace h := h.2 c
        refine wp_iload_n 3 dX11_itemRefusal_26 rfl ?_
        refine wp_aload_n 0 dX11_itemRefusal_27 rfl ?_
        obtain ⟨ht8, h⟩ := h
        refine wp_getI (ci := 8) (j := 1) dX11_itemRefusal_28 fi_X11_359r rfl ha4 ht8 ?_
        change WP _ _ _ _ _ _ (.int (hI H5 901 a4 0) :: _) _ _
        refine wp_icmp_lt (tgt := 39) dX11_itemRefusal_31 rfl (fun c => ?_) (fun c => ?_)
        · replace h := h.1 c
          refine wp_iconst (v := (0 : Int32)) dX11_itemRefusal_39 (by decide) ?_
          exact wp_ireturn (ty := .int) dX11_itemRefusal_40 rfl rfl ⟨_, rfl, h⟩
        · replace h := h.2 c
          refine wp_bipush (v := (-7 : Int32)) dX11_itemRefusal_34 (by decide) ?_
          refine wp_goto (tgt := 40) dX11_itemRefusal_36 rfl ?_
          exact wp_ireturn (ty := .int) dX11_itemRefusal_40 rfl rfl ⟨_, rfl, h⟩
    · replace h := h.2 (bI_1.mp c)
      refine wp_bipush (v := (-6 : Int32)) dX11_itemRefusal_19 (by decide) ?_
      exact wp_ireturn (ty := .int) dX11_itemRefusal_21 rfl rfl ⟨_, rfl, h⟩
  · replace h := h.1 c
    refine wp_iconst (v := (-1 : Int32)) dX11_itemRefusal_10 (by decide) ?_
    exact wp_ireturn (ty := .int) dX11_itemRefusal_11 rfl rfl ⟨_, rfl, h⟩
theorem C_X11_itemRefusal {d : Nat} {q : HP → Int32 → Prop} {a0 : Nat} {x1 : Int32} {x2 : Int32} {H : HP} (h : wb_X11_itemRefusal_0 d q a0 x1 x2 H) : CI (d + 1) 0 0 mX11_itemRefusal [rv (some a0), .int x1, .int x2] H q := by
  refine call_of (by decide +kernel) (by simp [lg_sl, rv_cat, vc_int, vc_long, vc_float, vc_double]) ?_
  have e : lv_args 0 [rv (some a0), .int x1, .int x2] = [(0, rv (some a0)), (1, .int x1), (2, .int x2)] := by simp [lv_args, rv_cat, vc_int, vc_long, vc_float, vc_double]
  rw [e]
  exact T_X11_itemRefusal_0 h
def wb_X11_name_0 (d : Nat) (q : HP → Int32 → Prop) (a0 : Nat) (x1 : Int32) (x2 : Int32) (H : HP) : Prop :=
  tg H a0 = 12 ∧ (∃ a3, (hC H 1201 a0) = some a3 ∧ (tg H a3 = 11 ∧ (CR d 0 0 mX10_at [rv (hC H 1201 a0), .int x1] H (fun H2 r5 => (r5 = none → q H2 (-1 : Int32)) ∧ (∀ a6, r5 = some a6 → (x2 < (-1 : Int32) → q H2 (-1 : Int32)) ∧ (¬ (x2 < (-1 : Int32)) → tg H2 a6 = 10 ∧ ((x2 < (hI H2 1001 a6 0) → (¬ x2 = (-1 : Int32) → ∃ a8, (hC H2 1000 a6) = some a8 ∧ (isA H2 a8 1 ∧ (vp_in x2 (ln H2 a8) ∧ (q H2 (hI H2 (tg H2 a8) a8 x2.toNatClampNeg))))) ∧ (x2 = (-1 : Int32) → q H2 (hI H2 1001 a6 0))) ∧ (¬ (x2 < (hI H2 1001 a6 0)) → q H2 (-1 : Int32)))))))))
set_option maxRecDepth 40000 in
set_option maxHeartbeats 4000000 in
theorem T_X11_name_0 {d : Nat} {q : HP → Int32 → Prop} {a0 : Nat} {x1 : Int32} {x2 : Int32} {H : HP} (h : wb_X11_name_0 d q a0 x1 x2 H) : WP (d + 1) mX11_name 0 0 0 [(0, rv (some a0)), (1, .int x1), (2, .int x2)] [] H (qI q) := by
  unfold wb_X11_name_0 at h
  refine wp_aload_n 0 dX11_name_0 rfl ?_
  obtain ⟨ht1, h⟩ := h
  refine wp_getC (ci := 11) (j := 1) dX11_name_1 fi_X11_21r rfl rfl ht1 ?_
  change WP _ _ _ _ _ _ (rv (hC H 1201 a0) :: _) _ _
  refine wp_iload_n 1 dX11_name_4 rfl ?_
  obtain ⟨a3, ha3, h⟩ := h
  obtain ⟨ht4, h⟩ := h
  refine wp_callV (ci := 10) (As := [.int x1]) (rest := []) (mc := 0) (ms := 0) dX11_name_5 lk_X11_129 rfl rfl (by decide) ha3 rfl rfl ht4 rfl rfl rfl w_3_201 (Call.weaken h ?_)
  rintro H2 _ ⟨r5, rfl, h⟩
  change WP _ _ _ _ _ _ [rv r5] H2 _
  refine wp_astore_n (ls' := [(3, rv r5), (0, rv (some a0)), (1, .int x1), (2, .int x2)]) dX11_name_8 (by decide) rfl ?_
  refine wp_aload_n 0 dX11_name_9 rfl ?_
  refine wp_ifnull (tgt := 26) dX11_name_10 rfl (fun c => ?_) (fun a6 ha6 => ?_)
  · replace h := h.1 c
    refine wp_iconst (v := (-1 : Int32)) dX11_name_26 (by decide) ?_
    exact wp_ireturn (ty := .int) dX11_name_27 rfl rfl ⟨_, rfl, h⟩
  · replace h := h.2 a6 ha6
    refine wp_iload_n 3 dX11_name_13 rfl ?_
    refine wp_iconst (v := (-1 : Int32)) dX11_name_14 (by decide) ?_
    refine wp_icmp_lt (tgt := 26) dX11_name_15 rfl (fun c => ?_) (fun c => ?_)
    · replace h := h.1 c
      refine wp_iconst (v := (-1 : Int32)) dX11_name_26 (by decide) ?_
      exact wp_ireturn (ty := .int) dX11_name_27 rfl rfl ⟨_, rfl, h⟩
    · replace h := h.2 c
      refine wp_iload_n 3 dX11_name_18 rfl ?_
      refine wp_aload_n 0 dX11_name_19 rfl ?_
      obtain ⟨ht7, h⟩ := h
      refine wp_getI (ci := 9) (j := 1) dX11_name_20 fi_X11_132r rfl ha6 ht7 ?_
      change WP _ _ _ _ _ _ (.int (hI H2 1001 a6 0) :: _) _ _
      refine wp_icmp_lt (tgt := 28) dX11_name_23 rfl (fun c => ?_) (fun c => ?_)
      · replace h := h.1 c
        refine wp_iload_n 3 dX11_name_28 rfl ?_
        refine wp_iconst (v := (-1 : Int32)) dX11_name_29 (by decide) ?_
        refine wp_icmp_ne (tgt := 40) dX11_name_30 rfl (fun c => ?_) (fun c => ?_)
        · replace h := h.1 c
          refine wp_aload_n 0 dX11_name_40 rfl ?_
          refine wp_getC (ci := 9) (j := 0) dX11_name_41 fi_X11_133 rfl ha6 ht7 ?_
          change WP _ _ _ _ _ _ (rv (hC H2 1000 a6) :: _) _ _
          refine wp_iload_n 3 dX11_name_44 rfl ?_
          obtain ⟨a8, ha8, h⟩ := h
          obtain ⟨hr9, h⟩ := h
          obtain ⟨hg10, h⟩ := h
          refine wp_baload dX11_name_45 ha8 hr9 hg10 ?_
          exact wp_ireturn (ty := .int) dX11_name_46 rfl rfl ⟨_, rfl, h⟩
        · replace h := h.2 c
          refine wp_aload_n 0 dX11_name_33 rfl ?_
          refine wp_getI (ci := 9) (j := 1) dX11_name_34 fi_X11_132r rfl ha6 ht7 ?_
          change WP _ _ _ _ _ _ (.int (hI H2 1001 a6 0) :: _) _ _
          refine wp_goto (tgt := 46) dX11_name_37 rfl ?_
          exact wp_ireturn (ty := .int) dX11_name_46 rfl rfl ⟨_, rfl, h⟩
      · replace h := h.2 c
        refine wp_iconst (v := (-1 : Int32)) dX11_name_26 (by decide) ?_
        exact wp_ireturn (ty := .int) dX11_name_27 rfl rfl ⟨_, rfl, h⟩
theorem C_X11_name {d : Nat} {q : HP → Int32 → Prop} {a0 : Nat} {x1 : Int32} {x2 : Int32} {H : HP} (h : wb_X11_name_0 d q a0 x1 x2 H) : CI (d + 1) 0 0 mX11_name [rv (some a0), .int x1, .int x2] H q := by
  refine call_of (by decide +kernel) (by simp [lg_sl, rv_cat, vc_int, vc_long, vc_float, vc_double]) ?_
  have e : lv_args 0 [rv (some a0), .int x1, .int x2] = [(0, rv (some a0)), (1, .int x1), (2, .int x2)] := by simp [lv_args, rv_cat, vc_int, vc_long, vc_float, vc_double]
  rw [e]
  exact T_X11_name_0 h
def wb_X11_nearest_0 (d : Nat) (q : HP → Int32 → Prop) (a0 : Nat) (x1 : Int32) (x2 : Int32) (x3 : Int32) (H : HP) : Prop :=
  tg H a0 = 12 ∧ (∃ a3, (hC H 1201 a0) = some a3 ∧ (tg H a3 = 11 ∧ (CR d 0 0 mX10_at [rv (hC H 1201 a0), .int x1] H (fun H2 r5 => (r5 = none → q H2 (-1 : Int32)) ∧ (∀ a6, r5 = some a6 → CZ d 0 0 mX11_isTold [.int x2] H2 (fun H7 b8 => (b8 = false → q H7 (-2 : Int32)) ∧ (b8 = true → CZ d 0 0 mX11_isTold [.int x3] H7 (fun H9 b10 => (b10 = true → tg H9 a0 = 12 ∧ (∃ a13, (hC H9 1213 a0) = some a13 ∧ (tg H9 a13 = 4 ∧ (CV d 0 0 mX3_set [rv (hC H9 1213 a0), .long (x2.toInt64), .long (x3.toInt64)] H9 (fun H12 => tg H12 a0 = 12 ∧ (tg H12 a6 = 10 ∧ (∃ a18, (hC H12 1213 a0) = some a18 ∧ (tg H12 a18 = 4 ∧ (CZ d 0 0 mX3_multiply [rv (hC H12 1213 a0), rv (hC H12 1003 a6)] H12 (fun H17 b20 => (b20 = false → q H17 (-5 : Int32)) ∧ (b20 = true → tg H17 a0 = 12 ∧ (∃ a23, (hC H17 1201 a0) = some a23 ∧ (tg H17 a23 = 11 ∧ (CI d 0 0 mX10_nearestBelow [rv (hC H17 1201 a0), rv r5, rv (hC H17 1213 a0)] H17 (fun H22 r25 => q H22 r25))))))))))))))) ∧ (b10 = false → q H9 (-2 : Int32))))))))))
set_option maxRecDepth 40000 in
set_option maxHeartbeats 4000000 in
theorem T_X11_nearest_0 {d : Nat} {q : HP → Int32 → Prop} {a0 : Nat} {x1 : Int32} {x2 : Int32} {x3 : Int32} {H : HP} (h : wb_X11_nearest_0 d q a0 x1 x2 x3 H) : WP (d + 1) mX11_nearest 0 0 0 [(0, rv (some a0)), (1, .int x1), (2, .int x2), (3, .int x3)] [] H (qI q) := by
  unfold wb_X11_nearest_0 at h
  refine wp_aload_n 0 dX11_nearest_0 rfl ?_
  obtain ⟨ht1, h⟩ := h
  refine wp_getC (ci := 11) (j := 1) dX11_nearest_1 fi_X11_21r rfl rfl ht1 ?_
  change WP _ _ _ _ _ _ (rv (hC H 1201 a0) :: _) _ _
  refine wp_iload_n 1 dX11_nearest_4 rfl ?_
  obtain ⟨a3, ha3, h⟩ := h
  obtain ⟨ht4, h⟩ := h
  refine wp_callV (ci := 10) (As := [.int x1]) (rest := []) (mc := 0) (ms := 0) dX11_nearest_5 lk_X11_129 rfl rfl (by decide) ha3 rfl rfl ht4 rfl rfl rfl w_3_201 (Call.weaken h ?_)
  rintro H2 _ ⟨r5, rfl, h⟩
  change WP _ _ _ _ _ _ [rv r5] H2 _
  refine wp_astore (ls' := [(4, rv r5), (0, rv (some a0)), (1, .int x1), (2, .int x2), (3, .int x3)]) dX11_nearest_8 (by decide) rfl ?_
  refine wp_aload 0 dX11_nearest_10 rfl ?_
  refine wp_ifnonnull (tgt := 17) dX11_nearest_12 rfl (fun a6 ha6 => ?_) (fun c => ?_)
  · replace h := h.2 a6 ha6
    refine wp_iload_n 3 dX11_nearest_17 rfl ?_
    refine wp_callS (As := [.int x2]) (rest := []) (mc := 0) (ms := 0) dX11_nearest_18 lk_X11_169 rfl rfl (by decide) rfl rfl rfl (Call.weaken h ?_)
    rintro H7 _ ⟨b8, rfl, h⟩
    change WP _ _ _ _ _ _ [.int (bI b8)] H7 _
    refine wp_if_eq (tgt := 31) dX11_nearest_21 rfl (fun c => ?_) (fun c => ?_)
    · replace h := h.1 (bI_0.mp c)
      refine wp_bipush (v := (-2 : Int32)) dX11_nearest_31 (by decide) ?_
      exact wp_ireturn (ty := .int) dX11_nearest_33 rfl rfl ⟨_, rfl, h⟩
    · replace h := h.2 (bI_1.mp c)
      refine wp_iload_n 4 dX11_nearest_24 rfl ?_
      refine wp_callS (As := [.int x3]) (rest := []) (mc := 0) (ms := 0) dX11_nearest_25 lk_X11_169 rfl rfl (by decide) rfl rfl rfl (Call.weaken h ?_)
      rintro H9 _ ⟨b10, rfl, h⟩
      change WP _ _ _ _ _ _ [.int (bI b10)] H9 _
      refine wp_if_ne (tgt := 34) dX11_nearest_28 rfl (fun c => ?_) (fun c => ?_)
      · replace h := h.1 (bI_1.mp c)
        refine wp_aload_n 1 dX11_nearest_34 rfl ?_
        obtain ⟨ht11, h⟩ := h
        refine wp_getC (ci := 11) (j := 13) dX11_nearest_35 fi_X11_77r rfl rfl ht11 ?_
        change WP _ _ _ _ _ _ (rv (hC H9 1213 a0) :: _) _ _
        refine wp_iload_n 3 dX11_nearest_38 rfl ?_
        refine wp_i2l dX11_nearest_39 ?_
        refine wp_iload_n 4 dX11_nearest_40 rfl ?_
        refine wp_i2l dX11_nearest_41 ?_
        obtain ⟨a13, ha13, h⟩ := h
        obtain ⟨ht14, h⟩ := h
        refine wp_callV (ci := 3) (As := [.long (x2.toInt64), .long (x3.toInt64)]) (rest := []) (mc := 0) (ms := 0) dX11_nearest_42 lk_X11_172 rfl rfl (by decide) ha13 rfl rfl ht14 rfl rfl rfl w_3_237 (Call.weaken h ?_)
        rintro H12 _ ⟨rfl, h⟩
        change WP _ _ _ _ _ _ [] H12 _
        refine wp_aload_n 1 dX11_nearest_45 rfl ?_
        obtain ⟨ht15, h⟩ := h
        refine wp_getC (ci := 11) (j := 13) dX11_nearest_46 fi_X11_77r rfl rfl ht15 ?_
        change WP _ _ _ _ _ _ (rv (hC H12 1213 a0) :: _) _ _
        refine wp_aload 0 dX11_nearest_49 rfl ?_
        obtain ⟨ht16, h⟩ := h
        refine wp_getC (ci := 9) (j := 3) dX11_nearest_51 fi_X11_143 rfl ha6 ht16 ?_
        change WP _ _ _ _ _ _ (rv (hC H12 1003 a6) :: _) _ _
        obtain ⟨a18, ha18, h⟩ := h
        obtain ⟨ht19, h⟩ := h
        refine wp_callV (ci := 3) (As := [rv (hC H12 1003 a6)]) (rest := []) (mc := 0) (ms := 0) dX11_nearest_54 lk_X11_176 rfl rfl (by decide) ha18 rfl rfl ht19 rfl rfl rfl w_3_238 (Call.weaken h ?_)
        rintro H17 _ ⟨b20, rfl, h⟩
        change WP _ _ _ _ _ _ [.int (bI b20)] H17 _
        refine wp_if_eq (tgt := 76) dX11_nearest_57 rfl (fun c => ?_) (fun c => ?_)
        · replace h := h.1 (bI_0.mp c)
          refine wp_bipush (v := (-5 : Int32)) dX11_nearest_76 (by decide) ?_
          exact wp_ireturn (ty := .int) dX11_nearest_78 rfl rfl ⟨_, rfl, h⟩
        · replace h := h.2 (bI_1.mp c)
          refine wp_aload_n 1 dX11_nearest_60 rfl ?_
          obtain ⟨ht21, h⟩ := h
          refine wp_getC (ci := 11) (j := 1) dX11_nearest_61 fi_X11_21r rfl rfl ht21 ?_
          change WP _ _ _ _ _ _ (rv (hC H17 1201 a0) :: _) _ _
          refine wp_aload 0 dX11_nearest_64 rfl ?_
          refine wp_aload_n 1 dX11_nearest_66 rfl ?_
          refine wp_getC (ci := 11) (j := 13) dX11_nearest_67 fi_X11_77r rfl rfl ht21 ?_
          change WP _ _ _ _ _ _ (rv (hC H17 1213 a0) :: _) _ _
          obtain ⟨a23, ha23, h⟩ := h
          obtain ⟨ht24, h⟩ := h
          refine wp_callV (ci := 10) (As := [rv r5, rv (hC H17 1213 a0)]) (rest := []) (mc := 0) (ms := 0) dX11_nearest_70 lk_X11_179 rfl rfl (by decide) ha23 rfl rfl ht24 rfl rfl rfl w_3_239 (Call.weaken h ?_)
          rintro H22 _ ⟨r25, rfl, h⟩
          change WP _ _ _ _ _ _ [.int r25] H22 _
          refine wp_goto (tgt := 78) dX11_nearest_73 rfl ?_
          exact wp_ireturn (ty := .int) dX11_nearest_78 rfl rfl ⟨_, rfl, h⟩
      · replace h := h.2 (bI_0.mp c)
        refine wp_bipush (v := (-2 : Int32)) dX11_nearest_31 (by decide) ?_
        exact wp_ireturn (ty := .int) dX11_nearest_33 rfl rfl ⟨_, rfl, h⟩
  · replace h := h.1 c
    refine wp_iconst (v := (-1 : Int32)) dX11_nearest_15 (by decide) ?_
    exact wp_ireturn (ty := .int) dX11_nearest_16 rfl rfl ⟨_, rfl, h⟩
theorem C_X11_nearest {d : Nat} {q : HP → Int32 → Prop} {a0 : Nat} {x1 : Int32} {x2 : Int32} {x3 : Int32} {H : HP} (h : wb_X11_nearest_0 d q a0 x1 x2 x3 H) : CI (d + 1) 0 0 mX11_nearest [rv (some a0), .int x1, .int x2, .int x3] H q := by
  refine call_of (by decide +kernel) (by simp [lg_sl, rv_cat, vc_int, vc_long, vc_float, vc_double]) ?_
  have e : lv_args 0 [rv (some a0), .int x1, .int x2, .int x3] = [(0, rv (some a0)), (1, .int x1), (2, .int x2), (3, .int x3)] := by simp [lv_args, rv_cat, vc_int, vc_long, vc_float, vc_double]
  rw [e]
  exact T_X11_nearest_0 h
/-- UnitProver.partOf(LUnitProver$Step;II)Z: the loop at 14 -/
def L_X11_partOf_14 (d : Nat) (q : HP → Bool → Prop) (a0 : Nat) (x2 : Int32) (x3 : Int32) (x4 : Int32) (H : HP) : Prop := WP (d + 1) mX11_partOf 0 0 14 [(0, rv (some a0)), (2, .int x2), (3, .int x3), (4, .int x4)] [] H (qZ q)
def wb_X11_partOf_0 (d : Nat) (q : HP → Bool → Prop) (a0 : Nat) (o1 : Option Nat) (x2 : Int32) (x3 : Int32) (H : HP) : Prop :=
  tg H a0 = 12 ∧ (∃ a2, o1 = some a2 ∧ (tg H a2 = 7 ∧ (∃ a5, (hC H 1214 a0) = some a5 ∧ (tg H a5 = 4 ∧ (CV d 0 0 mX3_copy [rv (hC H 1214 a0), rv (hC H 712 a2)] H (fun H4 => L_X11_partOf_14 d q a0 x2 x3 (0 : Int32) H4))))))
set_option maxRecDepth 40000 in
set_option maxHeartbeats 4000000 in
theorem T_X11_partOf_0 {d : Nat} {q : HP → Bool → Prop} {a0 : Nat} {o1 : Option Nat} {x2 : Int32} {x3 : Int32} {H : HP} (h : wb_X11_partOf_0 d q a0 o1 x2 x3 H) : WP (d + 1) mX11_partOf 0 0 0 [(0, rv (some a0)), (1, rv o1), (2, .int x2), (3, .int x3)] [] H (qZ q) := by
  unfold wb_X11_partOf_0 at h
  refine wp_aload_n 0 dX11_partOf_0 rfl ?_
  obtain ⟨ht1, h⟩ := h
  refine wp_getC (ci := 11) (j := 14) dX11_partOf_1 fi_X11_81r rfl rfl ht1 ?_
  change WP _ _ _ _ _ _ (rv (hC H 1214 a0) :: _) _ _
  refine wp_aload_n 1 dX11_partOf_4 rfl ?_
  obtain ⟨a2, ha2, h⟩ := h
  obtain ⟨ht3, h⟩ := h
  refine wp_getC (ci := 6) (j := 12) dX11_partOf_5 fi_X11_220 rfl ha2 ht3 ?_
  change WP _ _ _ _ _ _ (rv (hC H 712 a2) :: _) _ _
  obtain ⟨a5, ha5, h⟩ := h
  obtain ⟨ht6, h⟩ := h
  refine wp_callV (ci := 3) (As := [rv (hC H 712 a2)]) (rest := []) (mc := 0) (ms := 0) dX11_partOf_8 lk_X11_161 rfl rfl (by decide) ha5 rfl rfl ht6 rfl rfl rfl w_3_227 (Call.weaken h ?_)
  rintro H4 _ ⟨rfl, h⟩
  change WP _ _ _ _ _ _ [] H4 _
  refine wp_iconst (v := (0 : Int32)) dX11_partOf_11 (by decide) ?_
  refine wp_istore (ls' := [(4, .int (0 : Int32)), (0, rv (some a0)), (1, rv o1), (2, .int x2), (3, .int x3)]) dX11_partOf_12 (by decide) rfl ?_
  refine wp_sub (ls' := [(0, rv (some a0)), (2, .int x2), (3, .int x3), (4, .int (0 : Int32))]) [1, 3, 4, 0] rfl ?_
  exact h
def wb_X11_partOf_14 (d : Nat) (q : HP → Bool → Prop) (a0 : Nat) (x2 : Int32) (x3 : Int32) (x4 : Int32) (H : HP) : Prop :=
  (x3 < x4 → q H false) ∧ (¬ (x3 < x4) → ((3 : Int32) ≤ x4 → q H false) ∧ (¬ ((3 : Int32) ≤ x4) → tg H a0 = 12 ∧ (∃ a2, (hC H 1215 a0) = some a2 ∧ (isA H a2 6 ∧ (vp_in x4 (ln H a2) ∧ (((hR H (tg H a2) a2 x4.toNatClampNeg) = none → q H false) ∧ (∀ a5, (hR H (tg H a2) a2 x4.toNatClampNeg) = some a5 → ∃ a7, (hC H 1213 a0) = some a7 ∧ (tg H a7 = 4 ∧ (CV d 0 0 mX3_copy [rv (hC H 1213 a0), rv (hC H 1214 a0)] H (fun H6 => tg H6 a0 = 12 ∧ (tg H6 a5 = 10 ∧ (∃ a12, (hC H6 1213 a0) = some a12 ∧ (tg H6 a12 = 4 ∧ (CZ d 0 0 mX3_divide [rv (hC H6 1213 a0), rv (hC H6 1003 a5)] H6 (fun H11 b14 => (b14 = true → ((x2 - (1 : Int32)) ≤ x4 → (¬ x4 = x3 → tg H11 a0 = 12 ∧ (tg H11 a5 = 10 ∧ (∃ a18, (hC H11 1213 a0) = some a18 ∧ (tg H11 a18 = 4 ∧ (CZ d 0 0 mX3_multiply [rv (hC H11 1213 a0), rv (hC H11 1003 a5)] H11 (fun H17 b20 => (b20 = false → q H17 false) ∧ (b20 = true → tg H17 a0 = 12 ∧ (∃ a23, (hC H17 1214 a0) = some a23 ∧ (tg H17 a23 = 4 ∧ (CZ d 0 0 mX3_subtract [rv (hC H17 1214 a0), rv (hC H17 1213 a0)] H17 (fun H22 b25 => (b25 = true → L_X11_partOf_14 d q a0 x2 x3 (x4 + 1) H22) ∧ (b25 = false → q H22 false)))))))))))) ∧ (x4 = x3 → q H11 true)) ∧ (¬ ((x2 - (1 : Int32)) ≤ x4) → tg H11 a0 = 12 ∧ (∃ a28, (hC H11 1213 a0) = some a28 ∧ (tg H11 a28 = 4 ∧ (CV d 0 0 mX3_cutToWhole [rv (hC H11 1213 a0)] H11 (fun H27 => (¬ x4 = x3 → tg H27 a0 = 12 ∧ (tg H27 a5 = 10 ∧ (∃ a33, (hC H27 1213 a0) = some a33 ∧ (tg H27 a33 = 4 ∧ (CZ d 0 0 mX3_multiply [rv (hC H27 1213 a0), rv (hC H27 1003 a5)] H27 (fun H32 b35 => (b35 = false → q H32 false) ∧ (b35 = true → tg H32 a0 = 12 ∧ (∃ a38, (hC H32 1214 a0) = some a38 ∧ (tg H32 a38 = 4 ∧ (CZ d 0 0 mX3_subtract [rv (hC H32 1214 a0), rv (hC H32 1213 a0)] H32 (fun H37 b40 => (b40 = true → L_X11_partOf_14 d q a0 x2 x3 (x4 + 1) H37) ∧ (b40 = false → q H37 false)))))))))))) ∧ (x4 = x3 → q H27 true))))))) ∧ (b14 = false → q H11 false))))))))))))))))
set_option maxRecDepth 40000 in
set_option maxHeartbeats 4000000 in
theorem T_X11_partOf_14 {d : Nat} {q : HP → Bool → Prop} {a0 : Nat} {x2 : Int32} {x3 : Int32} {x4 : Int32} {H : HP} (h : wb_X11_partOf_14 d q a0 x2 x3 x4 H) : L_X11_partOf_14 d q a0 x2 x3 x4 H := by
  unfold wb_X11_partOf_14 at h
  unfold L_X11_partOf_14
  refine wp_iload 3 dX11_partOf_14 rfl ?_
  refine wp_iload_n 2 dX11_partOf_16 rfl ?_
  refine wp_icmp_gt (tgt := 130) dX11_partOf_17 rfl (fun c => ?_) (fun c => ?_)
  · replace h := h.1 c
    refine wp_iconst (v := (0 : Int32)) dX11_partOf_130 (by decide) ?_
    exact wp_ireturn (ty := .boolean) dX11_partOf_131 rfl rfl ⟨false, rfl, h⟩
  · replace h := h.2 c
    refine wp_iload 3 dX11_partOf_20 rfl ?_
    refine wp_iconst (v := (3 : Int32)) dX11_partOf_22 (by decide) ?_
    refine wp_icmp_ge (tgt := 130) dX11_partOf_23 rfl (fun c => ?_) (fun c => ?_)
    · replace h := h.1 c
      refine wp_iconst (v := (0 : Int32)) dX11_partOf_130 (by decide) ?_
      exact wp_ireturn (ty := .boolean) dX11_partOf_131 rfl rfl ⟨false, rfl, h⟩
    · replace h := h.2 c
      refine wp_aload_n 0 dX11_partOf_26 rfl ?_
      obtain ⟨ht1, h⟩ := h
      refine wp_getC (ci := 11) (j := 15) dX11_partOf_27 fi_X11_86r rfl rfl ht1 ?_
      change WP _ _ _ _ _ _ (rv (hC H 1215 a0) :: _) _ _
      refine wp_iload 3 dX11_partOf_30 rfl ?_
      obtain ⟨a2, ha2, h⟩ := h
      obtain ⟨hr3, h⟩ := h
      obtain ⟨hg4, h⟩ := h
      refine wp_aaload (e := 6) dX11_partOf_32 ha2 hr3 (by decide) hg4 ?_
      refine wp_astore (ls' := [(5, rv (hR H (tg H a2) a2 x4.toNatClampNeg)), (0, rv (some a0)), (2, .int x2), (3, .int x3), (4, .int x4)]) dX11_partOf_33 (by decide) rfl ?_
      refine wp_aload 0 dX11_partOf_35 rfl ?_
      refine wp_ifnonnull (tgt := 42) dX11_partOf_37 rfl (fun a5 ha5 => ?_) (fun c => ?_)
      · replace h := h.2 a5 ha5
        refine wp_aload_n 1 dX11_partOf_42 rfl ?_
        refine wp_getC (ci := 11) (j := 13) dX11_partOf_43 fi_X11_77r rfl rfl ht1 ?_
        change WP _ _ _ _ _ _ (rv (hC H 1213 a0) :: _) _ _
        refine wp_aload_n 1 dX11_partOf_46 rfl ?_
        refine wp_getC (ci := 11) (j := 14) dX11_partOf_47 fi_X11_81r rfl rfl ht1 ?_
        change WP _ _ _ _ _ _ (rv (hC H 1214 a0) :: _) _ _
        obtain ⟨a7, ha7, h⟩ := h
        obtain ⟨ht8, h⟩ := h
        refine wp_callV (ci := 3) (As := [rv (hC H 1214 a0)]) (rest := []) (mc := 0) (ms := 0) dX11_partOf_50 lk_X11_161 rfl rfl (by decide) ha7 rfl rfl ht8 rfl rfl rfl w_3_227 (Call.weaken h ?_)
        rintro H6 _ ⟨rfl, h⟩
        change WP _ _ _ _ _ _ [] H6 _
        refine wp_aload_n 1 dX11_partOf_53 rfl ?_
        obtain ⟨ht9, h⟩ := h
        refine wp_getC (ci := 11) (j := 13) dX11_partOf_54 fi_X11_77r rfl rfl ht9 ?_
        change WP _ _ _ _ _ _ (rv (hC H6 1213 a0) :: _) _ _
        refine wp_aload 0 dX11_partOf_57 rfl ?_
        obtain ⟨ht10, h⟩ := h
        refine wp_getC (ci := 9) (j := 3) dX11_partOf_59 fi_X11_143 rfl ha5 ht10 ?_
        change WP _ _ _ _ _ _ (rv (hC H6 1003 a5) :: _) _ _
        obtain ⟨a12, ha12, h⟩ := h
        obtain ⟨ht13, h⟩ := h
        refine wp_callV (ci := 3) (As := [rv (hC H6 1003 a5)]) (rest := []) (mc := 0) (ms := 0) dX11_partOf_62 lk_X11_165 rfl rfl (by decide) ha12 rfl rfl ht13 rfl rfl rfl w_3_228 (Call.weaken h ?_)
        rintro H11 _ ⟨b14, rfl, h⟩
        change WP _ _ _ _ _ _ [.int (bI b14)] H11 _
        refine wp_if_ne (tgt := 70) dX11_partOf_65 rfl (fun c => ?_) (fun c => ?_)
        · replace h := h.1 (bI_1.mp c)
          refine wp_iload 4 dX11_partOf_70 rfl ?_
          refine wp_iload_n 2 dX11_partOf_72 rfl ?_
          refine wp_iconst (v := (1 : Int32)) dX11_partOf_73 (by decide) ?_
          refine wp_isub dX11_partOf_74 ?_
          refine wp_icmp_ge (tgt := 85) dX11_partOf_75 rfl (fun c => ?_) (fun c => ?_)
          · replace h := h.1 c
            refine wp_iload 4 dX11_partOf_85 rfl ?_
            refine wp_iload_n 3 dX11_partOf_87 rfl ?_
            refine wp_icmp_ne (tgt := 93) dX11_partOf_88 rfl (fun c => ?_) (fun c => ?_)
            · replace h := h.1 c
              refine wp_aload_n 1 dX11_partOf_93 rfl ?_
              obtain ⟨ht15, h⟩ := h
              refine wp_getC (ci := 11) (j := 13) dX11_partOf_94 fi_X11_77r rfl rfl ht15 ?_
              change WP _ _ _ _ _ _ (rv (hC H11 1213 a0) :: _) _ _
              refine wp_aload 0 dX11_partOf_97 rfl ?_
              obtain ⟨ht16, h⟩ := h
              refine wp_getC (ci := 9) (j := 3) dX11_partOf_99 fi_X11_143 rfl ha5 ht16 ?_
              change WP _ _ _ _ _ _ (rv (hC H11 1003 a5) :: _) _ _
              obtain ⟨a18, ha18, h⟩ := h
              obtain ⟨ht19, h⟩ := h
              refine wp_callV (ci := 3) (As := [rv (hC H11 1003 a5)]) (rest := []) (mc := 0) (ms := 0) dX11_partOf_102 lk_X11_176 rfl rfl (by decide) ha18 rfl rfl ht19 rfl rfl rfl w_3_238 (Call.weaken h ?_)
              rintro H17 _ ⟨b20, rfl, h⟩
              change WP _ _ _ _ _ _ [.int (bI b20)] H17 _
              refine wp_if_eq (tgt := 122) dX11_partOf_105 rfl (fun c => ?_) (fun c => ?_)
              · replace h := h.1 (bI_0.mp c)
                refine wp_iconst (v := (0 : Int32)) dX11_partOf_122 (by decide) ?_
                exact wp_ireturn (ty := .boolean) dX11_partOf_123 rfl rfl ⟨false, rfl, h⟩
              · replace h := h.2 (bI_1.mp c)
                refine wp_aload_n 1 dX11_partOf_108 rfl ?_
                obtain ⟨ht21, h⟩ := h
                refine wp_getC (ci := 11) (j := 14) dX11_partOf_109 fi_X11_81r rfl rfl ht21 ?_
                change WP _ _ _ _ _ _ (rv (hC H17 1214 a0) :: _) _ _
                refine wp_aload_n 1 dX11_partOf_112 rfl ?_
                refine wp_getC (ci := 11) (j := 13) dX11_partOf_113 fi_X11_77r rfl rfl ht21 ?_
                change WP _ _ _ _ _ _ (rv (hC H17 1213 a0) :: _) _ _
                obtain ⟨a23, ha23, h⟩ := h
                obtain ⟨ht24, h⟩ := h
                refine wp_callV (ci := 3) (As := [rv (hC H17 1213 a0)]) (rest := []) (mc := 0) (ms := 0) dX11_partOf_116 lk_X11_412 rfl rfl (by decide) ha23 rfl rfl ht24 rfl rfl rfl w_4_182 (Call.weaken h ?_)
                rintro H22 _ ⟨b25, rfl, h⟩
                change WP _ _ _ _ _ _ [.int (bI b25)] H22 _
                refine wp_if_ne (tgt := 124) dX11_partOf_119 rfl (fun c => ?_) (fun c => ?_)
                · replace h := h.1 (bI_1.mp c)
                  refine wp_iinc (v := (x4 + 1)) (ls' := [(4, .int (x4 + 1)), (5, rv (hR H (tg H a2) a2 x4.toNatClampNeg)), (0, rv (some a0)), (2, .int x2), (3, .int x3)]) 4 dX11_partOf_124 rfl rfl (by decide) rfl ?_
                  refine wp_goto (tgt := 14) dX11_partOf_127 rfl ?_
                  refine wp_sub (ls' := [(0, rv (some a0)), (2, .int x2), (3, .int x3), (4, .int (x4 + 1))]) [2, 3, 4, 0] rfl ?_
                  exact h
                · replace h := h.2 (bI_0.mp c)
                  refine wp_iconst (v := (0 : Int32)) dX11_partOf_122 (by decide) ?_
                  exact wp_ireturn (ty := .boolean) dX11_partOf_123 rfl rfl ⟨false, rfl, h⟩
            · replace h := h.2 c
              refine wp_iconst (v := (1 : Int32)) dX11_partOf_91 (by decide) ?_
              exact wp_ireturn (ty := .boolean) dX11_partOf_92 rfl rfl ⟨true, rfl, h⟩
          · replace h := h.2 c
            refine wp_aload_n 1 dX11_partOf_78 rfl ?_
            obtain ⟨ht26, h⟩ := h
            refine wp_getC (ci := 11) (j := 13) dX11_partOf_79 fi_X11_77r rfl rfl ht26 ?_
            change WP _ _ _ _ _ _ (rv (hC H11 1213 a0) :: _) _ _
            obtain ⟨a28, ha28, h⟩ := h
            obtain ⟨ht29, h⟩ := h
            refine wp_callV (ci := 3) (As := []) (rest := []) (mc := 0) (ms := 0) dX11_partOf_82 lk_X11_415 rfl rfl (by decide) ha28 rfl rfl ht29 rfl rfl rfl w_4_233 (Call.weaken h ?_)
            rintro H27 _ ⟨rfl, h⟩
            change WP _ _ _ _ _ _ [] H27 _
            refine wp_iload 4 dX11_partOf_85 rfl ?_
            refine wp_iload_n 3 dX11_partOf_87 rfl ?_
            refine wp_icmp_ne (tgt := 93) dX11_partOf_88 rfl (fun c => ?_) (fun c => ?_)
            · replace h := h.1 c
              refine wp_aload_n 1 dX11_partOf_93 rfl ?_
              obtain ⟨ht30, h⟩ := h
              refine wp_getC (ci := 11) (j := 13) dX11_partOf_94 fi_X11_77r rfl rfl ht30 ?_
              change WP _ _ _ _ _ _ (rv (hC H27 1213 a0) :: _) _ _
              refine wp_aload 0 dX11_partOf_97 rfl ?_
              obtain ⟨ht31, h⟩ := h
              refine wp_getC (ci := 9) (j := 3) dX11_partOf_99 fi_X11_143 rfl ha5 ht31 ?_
              change WP _ _ _ _ _ _ (rv (hC H27 1003 a5) :: _) _ _
              obtain ⟨a33, ha33, h⟩ := h
              obtain ⟨ht34, h⟩ := h
              refine wp_callV (ci := 3) (As := [rv (hC H27 1003 a5)]) (rest := []) (mc := 0) (ms := 0) dX11_partOf_102 lk_X11_176 rfl rfl (by decide) ha33 rfl rfl ht34 rfl rfl rfl w_3_238 (Call.weaken h ?_)
              rintro H32 _ ⟨b35, rfl, h⟩
              change WP _ _ _ _ _ _ [.int (bI b35)] H32 _
              refine wp_if_eq (tgt := 122) dX11_partOf_105 rfl (fun c => ?_) (fun c => ?_)
              · replace h := h.1 (bI_0.mp c)
                refine wp_iconst (v := (0 : Int32)) dX11_partOf_122 (by decide) ?_
                exact wp_ireturn (ty := .boolean) dX11_partOf_123 rfl rfl ⟨false, rfl, h⟩
              · replace h := h.2 (bI_1.mp c)
                refine wp_aload_n 1 dX11_partOf_108 rfl ?_
                obtain ⟨ht36, h⟩ := h
                refine wp_getC (ci := 11) (j := 14) dX11_partOf_109 fi_X11_81r rfl rfl ht36 ?_
                change WP _ _ _ _ _ _ (rv (hC H32 1214 a0) :: _) _ _
                refine wp_aload_n 1 dX11_partOf_112 rfl ?_
                refine wp_getC (ci := 11) (j := 13) dX11_partOf_113 fi_X11_77r rfl rfl ht36 ?_
                change WP _ _ _ _ _ _ (rv (hC H32 1213 a0) :: _) _ _
                obtain ⟨a38, ha38, h⟩ := h
                obtain ⟨ht39, h⟩ := h
                refine wp_callV (ci := 3) (As := [rv (hC H32 1213 a0)]) (rest := []) (mc := 0) (ms := 0) dX11_partOf_116 lk_X11_412 rfl rfl (by decide) ha38 rfl rfl ht39 rfl rfl rfl w_4_182 (Call.weaken h ?_)
                rintro H37 _ ⟨b40, rfl, h⟩
                change WP _ _ _ _ _ _ [.int (bI b40)] H37 _
                refine wp_if_ne (tgt := 124) dX11_partOf_119 rfl (fun c => ?_) (fun c => ?_)
                · replace h := h.1 (bI_1.mp c)
                  refine wp_iinc (v := (x4 + 1)) (ls' := [(4, .int (x4 + 1)), (5, rv (hR H (tg H a2) a2 x4.toNatClampNeg)), (0, rv (some a0)), (2, .int x2), (3, .int x3)]) 4 dX11_partOf_124 rfl rfl (by decide) rfl ?_
                  refine wp_goto (tgt := 14) dX11_partOf_127 rfl ?_
                  refine wp_sub (ls' := [(0, rv (some a0)), (2, .int x2), (3, .int x3), (4, .int (x4 + 1))]) [2, 3, 4, 0] rfl ?_
                  exact h
                · replace h := h.2 (bI_0.mp c)
                  refine wp_iconst (v := (0 : Int32)) dX11_partOf_122 (by decide) ?_
                  exact wp_ireturn (ty := .boolean) dX11_partOf_123 rfl rfl ⟨false, rfl, h⟩
            · replace h := h.2 c
              refine wp_iconst (v := (1 : Int32)) dX11_partOf_91 (by decide) ?_
              exact wp_ireturn (ty := .boolean) dX11_partOf_92 rfl rfl ⟨true, rfl, h⟩
        · replace h := h.2 (bI_0.mp c)
          refine wp_iconst (v := (0 : Int32)) dX11_partOf_68 (by decide) ?_
          exact wp_ireturn (ty := .boolean) dX11_partOf_69 rfl rfl ⟨false, rfl, h⟩
      · replace h := h.1 c
        refine wp_iconst (v := (0 : Int32)) dX11_partOf_40 (by decide) ?_
        exact wp_ireturn (ty := .boolean) dX11_partOf_41 rfl rfl ⟨false, rfl, h⟩
theorem C_X11_partOf {d : Nat} {q : HP → Bool → Prop} {a0 : Nat} {o1 : Option Nat} {x2 : Int32} {x3 : Int32} {H : HP} (h : wb_X11_partOf_0 d q a0 o1 x2 x3 H) : CZ (d + 1) 0 0 mX11_partOf [rv (some a0), rv o1, .int x2, .int x3] H q := by
  refine call_of (by decide +kernel) (by simp [lg_sl, rv_cat, vc_int, vc_long, vc_float, vc_double]) ?_
  have e : lv_args 0 [rv (some a0), rv o1, .int x2, .int x3] = [(0, rv (some a0)), (1, rv o1), (2, .int x2), (3, .int x3)] := by simp [lv_args, rv_cat, vc_int, vc_long, vc_float, vc_double]
  rw [e]
  exact T_X11_partOf_0 h
def wb_X11_parted_33 (d : Nat) (q : HP → Int64 → Prop) (a0 : Nat) (x1 : Int32) (x2 : Int32) (x3 : Int32) (x4 : Int32) (x5 : Int32) (s0 : Int32) (H : HP) : Prop :=
  tg H a0 = 12 ∧ (∃ a3, (hC H 1201 a0) = some a3 ∧ (tg H a3 = 11 ∧ (CR d 0 0 mX10_at [rv (hC H 1201 a0), .int x1] H (fun H2 r5 => ∃ a6, (hC H 1215 a0) = some a6 ∧ (isA H2 a6 6 ∧ (vp_in (0 : Int32) (ln H2 a6) ∧ ((∀ x, r5 = some x → tg H2 x = 10) ∧ (tg (sR H2 (tg H2 a6) a6 (0 : Int32).toNatClampNeg r5) a0 = 12 ∧ (∃ a12, (hC (sR H2 (tg H2 a6) a6 (0 : Int32).toNatClampNeg r5) 1201 a0) = some a12 ∧ (tg (sR H2 (tg H2 a6) a6 (0 : Int32).toNatClampNeg r5) a12 = 11 ∧ (CR d 0 0 mX10_at [rv (hC (sR H2 (tg H2 a6) a6 (0 : Int32).toNatClampNeg r5) 1201 a0), .int x2] (sR H2 (tg H2 a6) a6 (0 : Int32).toNatClampNeg r5) (fun H11 r14 => ∃ a15, (hC (sR H2 (tg H2 a6) a6 (0 : Int32).toNatClampNeg r5) 1215 a0) = some a15 ∧ (isA H11 a15 6 ∧ (vp_in (1 : Int32) (ln H11 a15) ∧ ((∀ x, r14 = some x → tg H11 x = 10) ∧ (tg (sR H11 (tg H11 a15) a15 (1 : Int32).toNatClampNeg r14) a0 = 12 ∧ (∃ a21, (hC (sR H11 (tg H11 a15) a15 (1 : Int32).toNatClampNeg r14) 1201 a0) = some a21 ∧ (tg (sR H11 (tg H11 a15) a15 (1 : Int32).toNatClampNeg r14) a21 = 11 ∧ (CR d 0 0 mX10_at [rv (hC (sR H11 (tg H11 a15) a15 (1 : Int32).toNatClampNeg r14) 1201 a0), .int x3] (sR H11 (tg H11 a15) a15 (1 : Int32).toNatClampNeg r14) (fun H20 r23 => ∃ a24, (hC (sR H11 (tg H11 a15) a15 (1 : Int32).toNatClampNeg r14) 1215 a0) = some a24 ∧ (isA H20 a24 6 ∧ (vp_in (2 : Int32) (ln H20 a24) ∧ ((∀ x, r23 = some x → tg H20 x = 10) ∧ (tg (sR H20 (tg H20 a24) a24 (2 : Int32).toNatClampNeg r23) a0 = 12 ∧ (CR d 0 0 mX11_resultSide [rv (some a0), .int (0 : Int32)] (sR H20 (tg H20 a24) a24 (2 : Int32).toNatClampNeg r23) (fun H28 r30 => (x4 < 0 → q H28 (-9223372036854775808 : Int64)) ∧ (¬ (x4 < 0) → (s0 ≤ x4 → q H28 (-9223372036854775808 : Int64)) ∧ (¬ (s0 ≤ x4) → (r30 = none → q H28 (-9223372036854775808 : Int64)) ∧ (∀ a31, r30 = some a31 → tg H28 a31 = 7 ∧ (∃ a33, (hC H28 712 a31) = some a33 ∧ (tg H28 a33 = 4 ∧ (((hL H28 400 a33 0) < (0 : Int64) → q H28 (-9223372036854775808 : Int64)) ∧ (¬ ((hL H28 400 a33 0) < (0 : Int64)) → tg H28 a0 = 12 ∧ (CZ d 0 0 mX11_splits [rv (some a0), rv r30, .int s0] H28 (fun H35 b37 => (b37 = true → tg H35 a0 = 12 ∧ (CZ d 0 0 mX11_partOf [rv (some a0), rv r30, .int s0, .int x4] H35 (fun H38 b40 => (b40 = false → q H38 (-9223372036854775808 : Int64)) ∧ (b40 = true → tg H38 a0 = 12 ∧ (∃ a43, (hC H38 1213 a0) = some a43 ∧ (tg H38 a43 = 4 ∧ (CJ d 0 0 mX3_part [rv (hC H38 1213 a0), .int x5] H38 (fun H42 r45 => q H42 r45)))))))) ∧ (b37 = false → q H35 (-9223372036854775808 : Int64)))))))))))))))))))))))))))))))))))))
set_option maxRecDepth 40000 in
set_option maxHeartbeats 4000000 in
theorem T_X11_parted_33 {d : Nat} {q : HP → Int64 → Prop} {a0 : Nat} {x1 : Int32} {x2 : Int32} {x3 : Int32} {x4 : Int32} {x5 : Int32} {s0 : Int32} {H : HP} (h : wb_X11_parted_33 d q a0 x1 x2 x3 x4 x5 s0 H) : WP (d + 1) mX11_parted 0 0 33 [(0, rv (some a0)), (1, .int x1), (2, .int x2), (3, .int x3), (4, .int x4), (5, .int x5)] [.int s0] H (qJ q) := by
  unfold wb_X11_parted_33 at h
  refine wp_istore (ls' := [(6, .int s0), (0, rv (some a0)), (1, .int x1), (2, .int x2), (3, .int x3), (4, .int x4), (5, .int x5)]) dX11_parted_33 (by decide) rfl ?_
  refine wp_aload_n 1 dX11_parted_35 rfl ?_
  obtain ⟨ht1, h⟩ := h
  refine wp_getC (ci := 11) (j := 15) dX11_parted_36 fi_X11_86r rfl rfl ht1 ?_
  change WP _ _ _ _ _ _ (rv (hC H 1215 a0) :: _) _ _
  refine wp_iconst (v := (0 : Int32)) dX11_parted_39 (by decide) ?_
  refine wp_aload_n 1 dX11_parted_40 rfl ?_
  refine wp_getC (ci := 11) (j := 1) dX11_parted_41 fi_X11_21r rfl rfl ht1 ?_
  change WP _ _ _ _ _ _ (rv (hC H 1201 a0) :: _) _ _
  refine wp_iload_n 2 dX11_parted_44 rfl ?_
  obtain ⟨a3, ha3, h⟩ := h
  obtain ⟨ht4, h⟩ := h
  refine wp_callV (ci := 10) (As := [.int x1]) (rest := [.int (0 : Int32), rv (hC H 1215 a0)]) (mc := 0) (ms := 0) dX11_parted_45 lk_X11_129 rfl rfl (by simp [rv_cat, vc_int, vc_long, vc_float, vc_double]) ha3 rfl rfl ht4 rfl rfl rfl w_3_201 (Call.weaken h ?_)
  rintro H2 _ ⟨r5, rfl, h⟩
  change WP _ _ _ _ _ _ [rv r5, .int (0 : Int32), rv (hC H 1215 a0)] H2 _
  obtain ⟨a6, ha6, h⟩ := h
  obtain ⟨hr7, h⟩ := h
  obtain ⟨hg8, h⟩ := h
  obtain ⟨hg9, h⟩ := h
  refine wp_aastore (e := 6) (ci := 9) dX11_parted_48 ha6 hr7 (by decide) hg8 rfl el_6 hg9 ?_
  change WP _ _ _ _ _ _ _ (sR H2 (tg H2 a6) a6 (0 : Int32).toNatClampNeg r5) _
  refine wp_aload_n 1 dX11_parted_49 rfl ?_
  obtain ⟨ht10, h⟩ := h
  refine wp_getC (ci := 11) (j := 15) dX11_parted_50 fi_X11_86r rfl rfl ht10 ?_
  change WP _ _ _ _ _ _ (rv (hC (sR H2 (tg H2 a6) a6 (0 : Int32).toNatClampNeg r5) 1215 a0) :: _) _ _
  refine wp_iconst (v := (1 : Int32)) dX11_parted_53 (by decide) ?_
  refine wp_aload_n 1 dX11_parted_54 rfl ?_
  refine wp_getC (ci := 11) (j := 1) dX11_parted_55 fi_X11_21r rfl rfl ht10 ?_
  change WP _ _ _ _ _ _ (rv (hC (sR H2 (tg H2 a6) a6 (0 : Int32).toNatClampNeg r5) 1201 a0) :: _) _ _
  refine wp_iload_n 3 dX11_parted_58 rfl ?_
  obtain ⟨a12, ha12, h⟩ := h
  obtain ⟨ht13, h⟩ := h
  refine wp_callV (ci := 10) (As := [.int x2]) (rest := [.int (1 : Int32), rv (hC (sR H2 (tg H2 a6) a6 (0 : Int32).toNatClampNeg r5) 1215 a0)]) (mc := 0) (ms := 0) dX11_parted_59 lk_X11_129 rfl rfl (by simp [rv_cat, vc_int, vc_long, vc_float, vc_double]) ha12 rfl rfl ht13 rfl rfl rfl w_3_201 (Call.weaken h ?_)
  rintro H11 _ ⟨r14, rfl, h⟩
  change WP _ _ _ _ _ _ [rv r14, .int (1 : Int32), rv (hC (sR H2 (tg H2 a6) a6 (0 : Int32).toNatClampNeg r5) 1215 a0)] H11 _
  obtain ⟨a15, ha15, h⟩ := h
  obtain ⟨hr16, h⟩ := h
  obtain ⟨hg17, h⟩ := h
  obtain ⟨hg18, h⟩ := h
  refine wp_aastore (e := 6) (ci := 9) dX11_parted_62 ha15 hr16 (by decide) hg17 rfl el_6 hg18 ?_
  change WP _ _ _ _ _ _ _ (sR H11 (tg H11 a15) a15 (1 : Int32).toNatClampNeg r14) _
  refine wp_aload_n 1 dX11_parted_63 rfl ?_
  obtain ⟨ht19, h⟩ := h
  refine wp_getC (ci := 11) (j := 15) dX11_parted_64 fi_X11_86r rfl rfl ht19 ?_
  change WP _ _ _ _ _ _ (rv (hC (sR H11 (tg H11 a15) a15 (1 : Int32).toNatClampNeg r14) 1215 a0) :: _) _ _
  refine wp_iconst (v := (2 : Int32)) dX11_parted_67 (by decide) ?_
  refine wp_aload_n 1 dX11_parted_68 rfl ?_
  refine wp_getC (ci := 11) (j := 1) dX11_parted_69 fi_X11_21r rfl rfl ht19 ?_
  change WP _ _ _ _ _ _ (rv (hC (sR H11 (tg H11 a15) a15 (1 : Int32).toNatClampNeg r14) 1201 a0) :: _) _ _
  refine wp_iload_n 4 dX11_parted_72 rfl ?_
  obtain ⟨a21, ha21, h⟩ := h
  obtain ⟨ht22, h⟩ := h
  refine wp_callV (ci := 10) (As := [.int x3]) (rest := [.int (2 : Int32), rv (hC (sR H11 (tg H11 a15) a15 (1 : Int32).toNatClampNeg r14) 1215 a0)]) (mc := 0) (ms := 0) dX11_parted_73 lk_X11_129 rfl rfl (by simp [rv_cat, vc_int, vc_long, vc_float, vc_double]) ha21 rfl rfl ht22 rfl rfl rfl w_3_201 (Call.weaken h ?_)
  rintro H20 _ ⟨r23, rfl, h⟩
  change WP _ _ _ _ _ _ [rv r23, .int (2 : Int32), rv (hC (sR H11 (tg H11 a15) a15 (1 : Int32).toNatClampNeg r14) 1215 a0)] H20 _
  obtain ⟨a24, ha24, h⟩ := h
  obtain ⟨hr25, h⟩ := h
  obtain ⟨hg26, h⟩ := h
  obtain ⟨hg27, h⟩ := h
  refine wp_aastore (e := 6) (ci := 9) dX11_parted_76 ha24 hr25 (by decide) hg26 rfl el_6 hg27 ?_
  change WP _ _ _ _ _ _ _ (sR H20 (tg H20 a24) a24 (2 : Int32).toNatClampNeg r23) _
  refine wp_aload_n 1 dX11_parted_77 rfl ?_
  refine wp_iconst (v := (0 : Int32)) dX11_parted_78 (by decide) ?_
  obtain ⟨ht29, h⟩ := h
  refine wp_callV (ci := 11) (As := [.int (0 : Int32)]) (rest := []) (mc := 0) (ms := 0) dX11_parted_79 lk_X11_259 rfl rfl (by decide) rfl rfl rfl ht29 rfl rfl rfl w_4_174 (Call.weaken h ?_)
  rintro H28 _ ⟨r30, rfl, h⟩
  change WP _ _ _ _ _ _ [rv r30] H28 _
  refine wp_astore (ls' := [(7, rv r30), (6, .int s0), (0, rv (some a0)), (1, .int x1), (2, .int x2), (3, .int x3), (4, .int x4), (5, .int x5)]) dX11_parted_82 (by decide) rfl ?_
  refine wp_iload 6 dX11_parted_84 rfl ?_
  refine wp_if_lt (tgt := 125) dX11_parted_86 rfl (fun c => ?_) (fun c => ?_)
  · replace h := h.1 c
    refine wp_ldc2 dX11_parted_125 w_3_210 ?_
    exact wp_lreturn dX11_parted_128 rfl ⟨_, rfl, h⟩
  · replace h := h.2 c
    refine wp_iload 6 dX11_parted_89 rfl ?_
    refine wp_iload 1 dX11_parted_91 rfl ?_
    refine wp_icmp_ge (tgt := 125) dX11_parted_93 rfl (fun c => ?_) (fun c => ?_)
    · replace h := h.1 c
      refine wp_ldc2 dX11_parted_125 w_3_210 ?_
      exact wp_lreturn dX11_parted_128 rfl ⟨_, rfl, h⟩
    · replace h := h.2 c
      refine wp_aload 0 dX11_parted_96 rfl ?_
      refine wp_ifnull (tgt := 125) dX11_parted_98 rfl (fun c => ?_) (fun a31 ha31 => ?_)
      · replace h := h.1 c
        refine wp_ldc2 dX11_parted_125 w_3_210 ?_
        exact wp_lreturn dX11_parted_128 rfl ⟨_, rfl, h⟩
      · replace h := h.2 a31 ha31
        refine wp_aload 0 dX11_parted_101 rfl ?_
        obtain ⟨ht32, h⟩ := h
        refine wp_getC (ci := 6) (j := 12) dX11_parted_103 fi_X11_220 rfl ha31 ht32 ?_
        change WP _ _ _ _ _ _ (rv (hC H28 712 a31) :: _) _ _
        obtain ⟨a33, ha33, h⟩ := h
        obtain ⟨ht34, h⟩ := h
        refine wp_getL (ci := 3) (j := 0) dX11_parted_106 fi_X11_223r rfl ha33 ht34 ?_
        change WP _ _ _ _ _ _ (.long (hL H28 400 a33 0) :: _) _ _
        refine wp_lconst (v := (0 : Int64)) dX11_parted_109 (by decide) ?_
        refine wp_lcmp dX11_parted_110 ?_
        refine wp_if_lt (tgt := 125) dX11_parted_111 rfl (fun c => ?_) (fun c => ?_)
        · replace h := h.1 (lgc_lt.mp c)
          refine wp_ldc2 dX11_parted_125 w_3_210 ?_
          exact wp_lreturn dX11_parted_128 rfl ⟨_, rfl, h⟩
        · replace h := h.2 (fun z => c (lgc_lt.mpr z))
          refine wp_aload_n 2 dX11_parted_114 rfl ?_
          refine wp_aload 0 dX11_parted_115 rfl ?_
          refine wp_iload 1 dX11_parted_117 rfl ?_
          obtain ⟨ht36, h⟩ := h
          refine wp_callV (ci := 11) (As := [rv r30, .int s0]) (rest := []) (mc := 0) (ms := 0) dX11_parted_119 lk_X11_262 rfl rfl (by decide) rfl rfl rfl ht36 rfl rfl rfl w_4_225 (Call.weaken h ?_)
          rintro H35 _ ⟨b37, rfl, h⟩
          change WP _ _ _ _ _ _ [.int (bI b37)] H35 _
          refine wp_if_ne (tgt := 129) dX11_parted_122 rfl (fun c => ?_) (fun c => ?_)
          · replace h := h.1 (bI_1.mp c)
            refine wp_aload_n 2 dX11_parted_129 rfl ?_
            refine wp_aload 0 dX11_parted_130 rfl ?_
            refine wp_iload 1 dX11_parted_132 rfl ?_
            refine wp_iload 6 dX11_parted_134 rfl ?_
            obtain ⟨ht39, h⟩ := h
            refine wp_callV (ci := 11) (As := [rv r30, .int s0, .int x4]) (rest := []) (mc := 0) (ms := 0) dX11_parted_136 lk_X11_266 rfl rfl (by decide) rfl rfl rfl ht39 rfl rfl rfl w_4_229 (Call.weaken h ?_)
            rintro H38 _ ⟨b40, rfl, h⟩
            change WP _ _ _ _ _ _ [.int (bI b40)] H38 _
            refine wp_if_eq (tgt := 154) dX11_parted_139 rfl (fun c => ?_) (fun c => ?_)
            · replace h := h.1 (bI_0.mp c)
              refine wp_ldc2 dX11_parted_154 w_3_210 ?_
              exact wp_lreturn dX11_parted_157 rfl ⟨_, rfl, h⟩
            · replace h := h.2 (bI_1.mp c)
              refine wp_aload_n 2 dX11_parted_142 rfl ?_
              obtain ⟨ht41, h⟩ := h
              refine wp_getC (ci := 11) (j := 13) dX11_parted_143 fi_X11_77r rfl rfl ht41 ?_
              change WP _ _ _ _ _ _ (rv (hC H38 1213 a0) :: _) _ _
              refine wp_iload 7 dX11_parted_146 rfl ?_
              obtain ⟨a43, ha43, h⟩ := h
              obtain ⟨ht44, h⟩ := h
              refine wp_callV (ci := 3) (As := [.int x5]) (rest := []) (mc := 0) (ms := 0) dX11_parted_148 lk_X11_146 rfl rfl (by decide) ha43 rfl rfl ht44 rfl rfl rfl w_3_211 (Call.weaken h ?_)
              rintro H42 _ ⟨r45, rfl, h⟩
              change WP _ _ _ _ _ _ [.long r45] H42 _
              refine wp_goto (tgt := 157) dX11_parted_151 rfl ?_
              exact wp_lreturn dX11_parted_157 rfl ⟨_, rfl, h⟩
          · replace h := h.2 (bI_0.mp c)
            refine wp_ldc2 dX11_parted_125 w_3_210 ?_
            exact wp_lreturn dX11_parted_128 rfl ⟨_, rfl, h⟩
def wb_X11_parted_0 (d : Nat) (q : HP → Int64 → Prop) (a0 : Nat) (x1 : Int32) (x2 : Int32) (x3 : Int32) (x4 : Int32) (x5 : Int32) (H : HP) : Prop :=
  (¬ x2 = (-1 : Int32) → (¬ x2 = (-1 : Int32) → (¬ x3 = (-1 : Int32) → wb_X11_parted_33 d q a0 x1 x2 x3 x4 x5 (3 : Int32) H) ∧ (x3 = (-1 : Int32) → wb_X11_parted_33 d q a0 x1 x2 x3 x4 x5 (2 : Int32) H)) ∧ (x2 = (-1 : Int32) → wb_X11_parted_33 d q a0 x1 x2 x3 x4 x5 (1 : Int32) H)) ∧ (x2 = (-1 : Int32) → (x3 = (-1 : Int32) → (¬ x2 = (-1 : Int32) → (¬ x3 = (-1 : Int32) → wb_X11_parted_33 d q a0 x1 x2 x3 x4 x5 (3 : Int32) H) ∧ (x3 = (-1 : Int32) → wb_X11_parted_33 d q a0 x1 x2 x3 x4 x5 (2 : Int32) H)) ∧ (x2 = (-1 : Int32) → wb_X11_parted_33 d q a0 x1 x2 x3 x4 x5 (1 : Int32) H)) ∧ (¬ (x3 = (-1 : Int32)) → q H (-9223372036854775808 : Int64)))
set_option maxRecDepth 40000 in
set_option maxHeartbeats 4000000 in
theorem T_X11_parted_0 {d : Nat} {q : HP → Int64 → Prop} {a0 : Nat} {x1 : Int32} {x2 : Int32} {x3 : Int32} {x4 : Int32} {x5 : Int32} {H : HP} (h : wb_X11_parted_0 d q a0 x1 x2 x3 x4 x5 H) : WP (d + 1) mX11_parted 0 0 0 [(0, rv (some a0)), (1, .int x1), (2, .int x2), (3, .int x3), (4, .int x4), (5, .int x5)] [] H (qJ q) := by
  unfold wb_X11_parted_0 at h
  refine wp_iload_n 2 dX11_parted_0 rfl ?_
  refine wp_iconst (v := (-1 : Int32)) dX11_parted_1 (by decide) ?_
  refine wp_icmp_ne (tgt := 14) dX11_parted_2 rfl (fun c => ?_) (fun c => ?_)
  · replace h := h.1 c
    refine wp_iload_n 2 dX11_parted_14 rfl ?_
    refine wp_iconst (v := (-1 : Int32)) dX11_parted_15 (by decide) ?_
    refine wp_icmp_ne (tgt := 23) dX11_parted_16 rfl (fun c => ?_) (fun c => ?_)
    · replace h := h.1 c
      refine wp_iload_n 3 dX11_parted_23 rfl ?_
      refine wp_iconst (v := (-1 : Int32)) dX11_parted_24 (by decide) ?_
      refine wp_icmp_ne (tgt := 32) dX11_parted_25 rfl (fun c => ?_) (fun c => ?_)
      · replace h := h.1 c
        refine wp_iconst (v := (3 : Int32)) dX11_parted_32 (by decide) ?_
        exact T_X11_parted_33 h
      · replace h := h.2 c
        refine wp_iconst (v := (2 : Int32)) dX11_parted_28 (by decide) ?_
        refine wp_goto (tgt := 33) dX11_parted_29 rfl ?_
        exact T_X11_parted_33 h
    · replace h := h.2 c
      refine wp_iconst (v := (1 : Int32)) dX11_parted_19 (by decide) ?_
      refine wp_goto (tgt := 33) dX11_parted_20 rfl ?_
      exact T_X11_parted_33 h
  · replace h := h.2 c
    refine wp_iload_n 3 dX11_parted_5 rfl ?_
    refine wp_iconst (v := (-1 : Int32)) dX11_parted_6 (by decide) ?_
    refine wp_icmp_eq (tgt := 14) dX11_parted_7 rfl (fun c => ?_) (fun c => ?_)
    · replace h := h.1 c
      refine wp_iload_n 2 dX11_parted_14 rfl ?_
      refine wp_iconst (v := (-1 : Int32)) dX11_parted_15 (by decide) ?_
      refine wp_icmp_ne (tgt := 23) dX11_parted_16 rfl (fun c => ?_) (fun c => ?_)
      · replace h := h.1 c
        refine wp_iload_n 3 dX11_parted_23 rfl ?_
        refine wp_iconst (v := (-1 : Int32)) dX11_parted_24 (by decide) ?_
        refine wp_icmp_ne (tgt := 32) dX11_parted_25 rfl (fun c => ?_) (fun c => ?_)
        · replace h := h.1 c
          refine wp_iconst (v := (3 : Int32)) dX11_parted_32 (by decide) ?_
          exact T_X11_parted_33 h
        · replace h := h.2 c
          refine wp_iconst (v := (2 : Int32)) dX11_parted_28 (by decide) ?_
          refine wp_goto (tgt := 33) dX11_parted_29 rfl ?_
          exact T_X11_parted_33 h
      · replace h := h.2 c
        refine wp_iconst (v := (1 : Int32)) dX11_parted_19 (by decide) ?_
        refine wp_goto (tgt := 33) dX11_parted_20 rfl ?_
        exact T_X11_parted_33 h
    · replace h := h.2 c
      refine wp_ldc2 dX11_parted_10 w_3_210 ?_
      exact wp_lreturn dX11_parted_13 rfl ⟨_, rfl, h⟩
theorem C_X11_parted {d : Nat} {q : HP → Int64 → Prop} {a0 : Nat} {x1 : Int32} {x2 : Int32} {x3 : Int32} {x4 : Int32} {x5 : Int32} {H : HP} (h : wb_X11_parted_0 d q a0 x1 x2 x3 x4 x5 H) : CJ (d + 1) 0 0 mX11_parted [rv (some a0), .int x1, .int x2, .int x3, .int x4, .int x5] H q := by
  refine call_of (by decide +kernel) (by simp [lg_sl, rv_cat, vc_int, vc_long, vc_float, vc_double]) ?_
  have e : lv_args 0 [rv (some a0), .int x1, .int x2, .int x3, .int x4, .int x5] = [(0, rv (some a0)), (1, .int x1), (2, .int x2), (3, .int x3), (4, .int x4), (5, .int x5)] := by simp [lv_args, rv_cat, vc_int, vc_long, vc_float, vc_double]
  rw [e]
  exact T_X11_parted_0 h
def wb_X11_power_0 (d : Nat) (q : HP → Int32 → Prop) (a0 : Nat) (x1 : Int32) (x2 : Int32) (H : HP) : Prop :=
  tg H a0 = 12 ∧ (∃ a3, (hC H 1201 a0) = some a3 ∧ (tg H a3 = 11 ∧ (CR d 0 0 mX10_at [rv (hC H 1201 a0), .int x1] H (fun H2 r5 => (r5 = none → q H2 (-1 : Int32)) ∧ (∀ a6, r5 = some a6 → (x2 < 0 → q H2 (-1 : Int32)) ∧ (¬ (x2 < 0) → (x2 < (5 : Int32) → tg H2 a6 = 10 ∧ (∃ a8, (hC H2 1002 a6) = some a8 ∧ (isA H2 a8 0 ∧ (vp_in x2 (ln H2 a8) ∧ (q H2 ((hI H2 (tg H2 a8) a8 x2.toNatClampNeg) + (10 : Int32))))))) ∧ (¬ (x2 < (5 : Int32)) → q H2 (-1 : Int32))))))))
set_option maxRecDepth 40000 in
set_option maxHeartbeats 4000000 in
theorem T_X11_power_0 {d : Nat} {q : HP → Int32 → Prop} {a0 : Nat} {x1 : Int32} {x2 : Int32} {H : HP} (h : wb_X11_power_0 d q a0 x1 x2 H) : WP (d + 1) mX11_power 0 0 0 [(0, rv (some a0)), (1, .int x1), (2, .int x2)] [] H (qI q) := by
  unfold wb_X11_power_0 at h
  refine wp_aload_n 0 dX11_power_0 rfl ?_
  obtain ⟨ht1, h⟩ := h
  refine wp_getC (ci := 11) (j := 1) dX11_power_1 fi_X11_21r rfl rfl ht1 ?_
  change WP _ _ _ _ _ _ (rv (hC H 1201 a0) :: _) _ _
  refine wp_iload_n 1 dX11_power_4 rfl ?_
  obtain ⟨a3, ha3, h⟩ := h
  obtain ⟨ht4, h⟩ := h
  refine wp_callV (ci := 10) (As := [.int x1]) (rest := []) (mc := 0) (ms := 0) dX11_power_5 lk_X11_129 rfl rfl (by decide) ha3 rfl rfl ht4 rfl rfl rfl w_3_201 (Call.weaken h ?_)
  rintro H2 _ ⟨r5, rfl, h⟩
  change WP _ _ _ _ _ _ [rv r5] H2 _
  refine wp_astore_n (ls' := [(3, rv r5), (0, rv (some a0)), (1, .int x1), (2, .int x2)]) dX11_power_8 (by decide) rfl ?_
  refine wp_aload_n 0 dX11_power_9 rfl ?_
  refine wp_ifnull (tgt := 22) dX11_power_10 rfl (fun c => ?_) (fun a6 ha6 => ?_)
  · replace h := h.1 c
    refine wp_iconst (v := (-1 : Int32)) dX11_power_22 (by decide) ?_
    exact wp_ireturn (ty := .int) dX11_power_23 rfl rfl ⟨_, rfl, h⟩
  · replace h := h.2 a6 ha6
    refine wp_iload_n 3 dX11_power_13 rfl ?_
    refine wp_if_lt (tgt := 22) dX11_power_14 rfl (fun c => ?_) (fun c => ?_)
    · replace h := h.1 c
      refine wp_iconst (v := (-1 : Int32)) dX11_power_22 (by decide) ?_
      exact wp_ireturn (ty := .int) dX11_power_23 rfl rfl ⟨_, rfl, h⟩
    · replace h := h.2 c
      refine wp_iload_n 3 dX11_power_17 rfl ?_
      refine wp_iconst (v := (5 : Int32)) dX11_power_18 (by decide) ?_
      refine wp_icmp_lt (tgt := 24) dX11_power_19 rfl (fun c => ?_) (fun c => ?_)
      · replace h := h.1 c
        refine wp_aload_n 0 dX11_power_24 rfl ?_
        obtain ⟨ht7, h⟩ := h
        refine wp_getC (ci := 9) (j := 2) dX11_power_25 fi_X11_137 rfl ha6 ht7 ?_
        change WP _ _ _ _ _ _ (rv (hC H2 1002 a6) :: _) _ _
        refine wp_iload_n 3 dX11_power_28 rfl ?_
        obtain ⟨a8, ha8, h⟩ := h
        obtain ⟨hr9, h⟩ := h
        obtain ⟨hg10, h⟩ := h
        refine wp_iaload dX11_power_29 ha8 hr9 hg10 ?_
        refine wp_bipush (v := (10 : Int32)) dX11_power_30 (by decide) ?_
        refine wp_iadd dX11_power_32 ?_
        exact wp_ireturn (ty := .int) dX11_power_33 rfl rfl ⟨_, rfl, h⟩
      · replace h := h.2 c
        refine wp_iconst (v := (-1 : Int32)) dX11_power_22 (by decide) ?_
        exact wp_ireturn (ty := .int) dX11_power_23 rfl rfl ⟨_, rfl, h⟩
theorem C_X11_power {d : Nat} {q : HP → Int32 → Prop} {a0 : Nat} {x1 : Int32} {x2 : Int32} {H : HP} (h : wb_X11_power_0 d q a0 x1 x2 H) : CI (d + 1) 0 0 mX11_power [rv (some a0), .int x1, .int x2] H q := by
  refine call_of (by decide +kernel) (by simp [lg_sl, rv_cat, vc_int, vc_long, vc_float, vc_double]) ?_
  have e : lv_args 0 [rv (some a0), .int x1, .int x2] = [(0, rv (some a0)), (1, .int x1), (2, .int x2)] := by simp [lv_args, rv_cat, vc_int, vc_long, vc_float, vc_double]
  rw [e]
  exact T_X11_power_0 h
def wb_X11_proof_0 (d : Nat) (q : HP → Int32 → Prop) (a0 : Nat) (x1 : Int32) (H : HP) : Prop :=
  tg H a0 = 12 ∧ ((¬ (hI H 1209 a0 0) = 0 → ((x1.toInt < 0 ∨ 4 < x1.toInt) → q H (-1 : Int32)) ∧ (x1 = 0 → ∃ a3, (hR H 1207 a0 0) = some a3 ∧ (tg H a3 = 5 ∧ (CZ d 0 0 mX4_isHeld [rv (hR H 1207 a0 0)] H (fun H2 b5 => (b5 = false → tg H2 a0 = 12 ∧ (∃ a7, (hR H2 1207 a0 0) = some a7 ∧ (tg H2 a7 = 5 ∧ (q H2 (hI H2 503 a7 0))))) ∧ (b5 = true → q H2 (1 : Int32)))))) ∧ (x1 = 1 → ∃ a9, (hR H 1207 a0 0) = some a9 ∧ (tg H a9 = 5 ∧ (q H (hI H 502 a9 0)))) ∧ (x1 = 2 → ∃ a11, (hR H 1207 a0 0) = some a11 ∧ (tg H a11 = 5 ∧ (((hI H 504 a11 0) = 0 → q H (0 : Int32)) ∧ (¬ ((hI H 504 a11 0) = 0) → q H (1 : Int32))))) ∧ (x1 = 3 → ∃ a14, (hR H 1207 a0 0) = some a14 ∧ (tg H a14 = 5 ∧ (CZ d 0 0 mX4_sidesAgree [rv (hR H 1207 a0 0)] H (fun H13 b16 => (b16 = false → q H13 (0 : Int32)) ∧ (b16 = true → q H13 (1 : Int32)))))) ∧ (x1 = 4 → ∃ a18, (hR H 1207 a0 0) = some a18 ∧ (tg H a18 = 5 ∧ (CI d 0 0 mX4_heldParts [rv (hR H 1207 a0 0)] H (fun H17 r20 => q H17 r20))))) ∧ ((hI H 1209 a0 0) = 0 → q H (-3 : Int32)))
set_option maxRecDepth 40000 in
set_option maxHeartbeats 4000000 in
theorem T_X11_proof_0 {d : Nat} {q : HP → Int32 → Prop} {a0 : Nat} {x1 : Int32} {H : HP} (h : wb_X11_proof_0 d q a0 x1 H) : WP (d + 1) mX11_proof 0 0 0 [(0, rv (some a0)), (1, .int x1)] [] H (qI q) := by
  unfold wb_X11_proof_0 at h
  refine wp_aload_n 0 dX11_proof_0 rfl ?_
  obtain ⟨ht1, h⟩ := h
  refine wp_getI (ci := 11) (j := 9) dX11_proof_1 fi_X11_188r rfl rfl ht1 ?_
  change WP _ _ _ _ _ _ (.int (hI H 1209 a0 0) :: _) _ _
  refine wp_if_ne (tgt := 10) dX11_proof_4 rfl (fun c => ?_) (fun c => ?_)
  · replace h := h.1 c
    refine wp_iload_n 1 dX11_proof_10 rfl ?_
    by_cases c : x1.toInt < 0 ∨ 4 < x1.toInt
    · replace h := h.1 c
      refine wp_tableOut (tgt := 114) dX11_proof_11 c rfl ?_
      refine wp_iconst (v := (-1 : Int32)) dX11_proof_114 (by decide) ?_
      exact wp_ireturn (ty := .int) dX11_proof_115 rfl rfl ⟨_, rfl, h⟩
    · replace h := h.2
      have e : x1.toInt = 0 ∨ x1.toInt = 1 ∨ x1.toInt = 2 ∨ x1.toInt = 3 ∨ x1.toInt = 4 := by omega
      rcases e with e | e | e | e | e
      · replace h := h.1 (Int32.toInt_inj.mp e)
        refine wp_tableIn (tgt := 44) dX11_proof_11 (by omega) (by omega) (by rw [e]; rfl) rfl ?_
        refine wp_aload_n 0 dX11_proof_44 rfl ?_
        refine wp_getR (ci := 11) (j := 7) dX11_proof_45 fi_X11_48r rfl rfl ht1 ?_
        change WP _ _ _ _ _ _ (rv (hR H 1207 a0 0) :: _) _ _
        obtain ⟨a3, ha3, h⟩ := h
        obtain ⟨ht4, h⟩ := h
        refine wp_callV (ci := 4) (As := []) (rest := []) (mc := 0) (ms := 0) dX11_proof_48 lk_X11_195 rfl rfl (by decide) ha3 rfl rfl ht4 rfl rfl rfl w_4_127 (Call.weaken h ?_)
        rintro H2 _ ⟨b5, rfl, h⟩
        change WP _ _ _ _ _ _ [.int (bI b5)] H2 _
        refine wp_if_eq (tgt := 58) dX11_proof_51 rfl (fun c => ?_) (fun c => ?_)
        · replace h := h.1 (bI_0.mp c)
          refine wp_aload_n 0 dX11_proof_58 rfl ?_
          obtain ⟨ht6, h⟩ := h
          refine wp_getR (ci := 11) (j := 7) dX11_proof_59 fi_X11_48r rfl rfl ht6 ?_
          change WP _ _ _ _ _ _ (rv (hR H2 1207 a0 0) :: _) _ _
          obtain ⟨a7, ha7, h⟩ := h
          obtain ⟨ht8, h⟩ := h
          refine wp_getI (ci := 4) (j := 3) dX11_proof_62 fi_X11_198r rfl ha7 ht8 ?_
          change WP _ _ _ _ _ _ (.int (hI H2 503 a7 0) :: _) _ _
          exact wp_ireturn (ty := .int) dX11_proof_65 rfl rfl ⟨_, rfl, h⟩
        · replace h := h.2 (bI_1.mp c)
          refine wp_iconst (v := (1 : Int32)) dX11_proof_54 (by decide) ?_
          refine wp_goto (tgt := 65) dX11_proof_55 rfl ?_
          exact wp_ireturn (ty := .int) dX11_proof_65 rfl rfl ⟨_, rfl, h⟩
      · replace h := h.2.1 (Int32.toInt_inj.mp e)
        refine wp_tableIn (tgt := 66) dX11_proof_11 (by omega) (by omega) (by rw [e]; rfl) rfl ?_
        refine wp_aload_n 0 dX11_proof_66 rfl ?_
        refine wp_getR (ci := 11) (j := 7) dX11_proof_67 fi_X11_48r rfl rfl ht1 ?_
        change WP _ _ _ _ _ _ (rv (hR H 1207 a0 0) :: _) _ _
        obtain ⟨a9, ha9, h⟩ := h
        obtain ⟨ht10, h⟩ := h
        refine wp_getI (ci := 4) (j := 2) dX11_proof_70 fi_X11_192r rfl ha9 ht10 ?_
        change WP _ _ _ _ _ _ (.int (hI H 502 a9 0) :: _) _ _
        exact wp_ireturn (ty := .int) dX11_proof_73 rfl rfl ⟨_, rfl, h⟩
      · replace h := h.2.2.1 (Int32.toInt_inj.mp e)
        refine wp_tableIn (tgt := 74) dX11_proof_11 (by omega) (by omega) (by rw [e]; rfl) rfl ?_
        refine wp_aload_n 0 dX11_proof_74 rfl ?_
        refine wp_getR (ci := 11) (j := 7) dX11_proof_75 fi_X11_48r rfl rfl ht1 ?_
        change WP _ _ _ _ _ _ (rv (hR H 1207 a0 0) :: _) _ _
        obtain ⟨a11, ha11, h⟩ := h
        obtain ⟨ht12, h⟩ := h
        refine wp_getI (ci := 4) (j := 4) dX11_proof_78 fi_X11_201r rfl ha11 ht12 ?_
        change WP _ _ _ _ _ _ (.int (hI H 504 a11 0) :: _) _ _
        refine wp_if_eq (tgt := 88) dX11_proof_81 rfl (fun c => ?_) (fun c => ?_)
        · replace h := h.1 c
          refine wp_iconst (v := (0 : Int32)) dX11_proof_88 (by decide) ?_
          exact wp_ireturn (ty := .int) dX11_proof_89 rfl rfl ⟨_, rfl, h⟩
        · replace h := h.2 c
          refine wp_iconst (v := (1 : Int32)) dX11_proof_84 (by decide) ?_
          refine wp_goto (tgt := 89) dX11_proof_85 rfl ?_
          exact wp_ireturn (ty := .int) dX11_proof_89 rfl rfl ⟨_, rfl, h⟩
      · replace h := h.2.2.2.1 (Int32.toInt_inj.mp e)
        refine wp_tableIn (tgt := 90) dX11_proof_11 (by omega) (by omega) (by rw [e]; rfl) rfl ?_
        refine wp_aload_n 0 dX11_proof_90 rfl ?_
        refine wp_getR (ci := 11) (j := 7) dX11_proof_91 fi_X11_48r rfl rfl ht1 ?_
        change WP _ _ _ _ _ _ (rv (hR H 1207 a0 0) :: _) _ _
        obtain ⟨a14, ha14, h⟩ := h
        obtain ⟨ht15, h⟩ := h
        refine wp_callV (ci := 4) (As := []) (rest := []) (mc := 0) (ms := 0) dX11_proof_94 lk_X11_204 rfl rfl (by decide) ha14 rfl rfl ht15 rfl rfl rfl w_4_131 (Call.weaken h ?_)
        rintro H13 _ ⟨b16, rfl, h⟩
        change WP _ _ _ _ _ _ [.int (bI b16)] H13 _
        refine wp_if_eq (tgt := 104) dX11_proof_97 rfl (fun c => ?_) (fun c => ?_)
        · replace h := h.1 (bI_0.mp c)
          refine wp_iconst (v := (0 : Int32)) dX11_proof_104 (by decide) ?_
          exact wp_ireturn (ty := .int) dX11_proof_105 rfl rfl ⟨_, rfl, h⟩
        · replace h := h.2 (bI_1.mp c)
          refine wp_iconst (v := (1 : Int32)) dX11_proof_100 (by decide) ?_
          refine wp_goto (tgt := 105) dX11_proof_101 rfl ?_
          exact wp_ireturn (ty := .int) dX11_proof_105 rfl rfl ⟨_, rfl, h⟩
      · replace h := h.2.2.2.2 (Int32.toInt_inj.mp e)
        refine wp_tableIn (tgt := 106) dX11_proof_11 (by omega) (by omega) (by rw [e]; rfl) rfl ?_
        refine wp_aload_n 0 dX11_proof_106 rfl ?_
        refine wp_getR (ci := 11) (j := 7) dX11_proof_107 fi_X11_48r rfl rfl ht1 ?_
        change WP _ _ _ _ _ _ (rv (hR H 1207 a0 0) :: _) _ _
        obtain ⟨a18, ha18, h⟩ := h
        obtain ⟨ht19, h⟩ := h
        refine wp_callV (ci := 4) (As := []) (rest := []) (mc := 0) (ms := 0) dX11_proof_110 lk_X11_207 rfl rfl (by decide) ha18 rfl rfl ht19 rfl rfl rfl w_4_140 (Call.weaken h ?_)
        rintro H17 _ ⟨r20, rfl, h⟩
        change WP _ _ _ _ _ _ [.int r20] H17 _
        exact wp_ireturn (ty := .int) dX11_proof_113 rfl rfl ⟨_, rfl, h⟩
  · replace h := h.2 c
    refine wp_bipush (v := (-3 : Int32)) dX11_proof_7 (by decide) ?_
    exact wp_ireturn (ty := .int) dX11_proof_9 rfl rfl ⟨_, rfl, h⟩
theorem C_X11_proof {d : Nat} {q : HP → Int32 → Prop} {a0 : Nat} {x1 : Int32} {H : HP} (h : wb_X11_proof_0 d q a0 x1 H) : CI (d + 1) 0 0 mX11_proof [rv (some a0), .int x1] H q := by
  refine call_of (by decide +kernel) (by simp [lg_sl, rv_cat, vc_int, vc_long, vc_float, vc_double]) ?_
  have e : lv_args 0 [rv (some a0), .int x1] = [(0, rv (some a0)), (1, .int x1)] := by simp [lv_args, rv_cat, vc_int, vc_long, vc_float, vc_double]
  rw [e]
  exact T_X11_proof_0 h
def wb_X11_prove_0 (d : Nat) (q : HP → Int32 → Prop) (a0 : Nat) (H : HP) : Prop :=
  tg H a0 = 12 ∧ (∃ a3, (hR H 1208 a0 0) = some a3 ∧ (tg H a3 = 5 ∧ (CZ d 0 0 mX4_read [rv (hR H 1208 a0 0), rv (hC H 1200 a0)] H (fun H2 b5 => (b5 = false → (b5 = false → tg H2 a0 = 12 ∧ (∃ a7, (hC H2 1200 a0) = some a7 ∧ (tg H2 a7 = 8 ∧ (CV d 0 0 mX7_clear [rv (hC H2 1200 a0)] H2 (fun H9 => q H9 ((-100 : Int32) - (hI H2 802 a7 0))))))) ∧ (b5 = true → tg H2 a0 = 12 ∧ (∃ a11, (hR H2 1207 a0 0) = some a11 ∧ (tg H2 a11 = 5 ∧ (∃ a14, (hC H2 1200 a0) = some a14 ∧ (tg H2 a14 = 8 ∧ (CV d 0 0 mX7_clear [rv (hC H2 1200 a0)] H2 (fun H13 => q H13 (hI H2 502 a11 0))))))))) ∧ (b5 = true → tg H2 a0 = 12 ∧ (∃ a18, (hR H2 1208 a0 0) = some a18 ∧ (tg H2 a18 = 5 ∧ (CV d 0 0 mX4_proveAll [rv (hR H2 1208 a0 0), rv (hC H2 1200 a0), rv (hC H2 1201 a0)] H2 (fun H17 => tg H17 a0 = 12 ∧ ((b5 = false → ∃ a21, (hC (sI (sR (sR H17 1207 a0 0 (hR H17 1208 a0 0)) 1208 a0 0 (hR H17 1207 a0 0)) 1209 a0 0 (1 : Int32)) 1200 a0) = some a21 ∧ (tg (sI (sR (sR H17 1207 a0 0 (hR H17 1208 a0 0)) 1208 a0 0 (hR H17 1207 a0 0)) 1209 a0 0 (1 : Int32)) a21 = 8 ∧ (CV d 0 0 mX7_clear [rv (hC (sI (sR (sR H17 1207 a0 0 (hR H17 1208 a0 0)) 1208 a0 0 (hR H17 1207 a0 0)) 1209 a0 0 (1 : Int32)) 1200 a0)] (sI (sR (sR H17 1207 a0 0 (hR H17 1208 a0 0)) 1208 a0 0 (hR H17 1207 a0 0)) 1209 a0 0 (1 : Int32)) (fun H23 => q H23 ((-100 : Int32) - (hI (sI (sR (sR H17 1207 a0 0 (hR H17 1208 a0 0)) 1208 a0 0 (hR H17 1207 a0 0)) 1209 a0 0 (1 : Int32)) 802 a21 0)))))) ∧ (b5 = true → ∃ a24, (hR (sI (sR (sR H17 1207 a0 0 (hR H17 1208 a0 0)) 1208 a0 0 (hR H17 1207 a0 0)) 1209 a0 0 (1 : Int32)) 1207 a0 0) = some a24 ∧ (tg (sI (sR (sR H17 1207 a0 0 (hR H17 1208 a0 0)) 1208 a0 0 (hR H17 1207 a0 0)) 1209 a0 0 (1 : Int32)) a24 = 5 ∧ (∃ a27, (hC (sI (sR (sR H17 1207 a0 0 (hR H17 1208 a0 0)) 1208 a0 0 (hR H17 1207 a0 0)) 1209 a0 0 (1 : Int32)) 1200 a0) = some a27 ∧ (tg (sI (sR (sR H17 1207 a0 0 (hR H17 1208 a0 0)) 1208 a0 0 (hR H17 1207 a0 0)) 1209 a0 0 (1 : Int32)) a27 = 8 ∧ (CV d 0 0 mX7_clear [rv (hC (sI (sR (sR H17 1207 a0 0 (hR H17 1208 a0 0)) 1208 a0 0 (hR H17 1207 a0 0)) 1209 a0 0 (1 : Int32)) 1200 a0)] (sI (sR (sR H17 1207 a0 0 (hR H17 1208 a0 0)) 1208 a0 0 (hR H17 1207 a0 0)) 1209 a0 0 (1 : Int32)) (fun H26 => q H26 (hI (sI (sR (sR H17 1207 a0 0 (hR H17 1208 a0 0)) 1208 a0 0 (hR H17 1207 a0 0)) 1209 a0 0 (1 : Int32)) 502 a24 0)))))))))))))))))
set_option maxRecDepth 40000 in
set_option maxHeartbeats 4000000 in
theorem T_X11_prove_0 {d : Nat} {q : HP → Int32 → Prop} {a0 : Nat} {H : HP} (h : wb_X11_prove_0 d q a0 H) : WP (d + 1) mX11_prove 0 0 0 [(0, rv (some a0))] [] H (qI q) := by
  unfold wb_X11_prove_0 at h
  refine wp_aload_n 0 dX11_prove_0 rfl ?_
  obtain ⟨ht1, h⟩ := h
  refine wp_getR (ci := 11) (j := 8) dX11_prove_1 fi_X11_52r rfl rfl ht1 ?_
  change WP _ _ _ _ _ _ (rv (hR H 1208 a0 0) :: _) _ _
  refine wp_aload_n 0 dX11_prove_4 rfl ?_
  refine wp_getC (ci := 11) (j := 0) dX11_prove_5 fi_X11_12r rfl rfl ht1 ?_
  change WP _ _ _ _ _ _ (rv (hC H 1200 a0) :: _) _ _
  obtain ⟨a3, ha3, h⟩ := h
  obtain ⟨ht4, h⟩ := h
  refine wp_callV (ci := 4) (As := [rv (hC H 1200 a0)]) (rest := []) (mc := 0) (ms := 0) dX11_prove_8 lk_X11_183 rfl rfl (by decide) ha3 rfl rfl ht4 rfl rfl rfl w_4_9 (Call.weaken h ?_)
  rintro H2 _ ⟨b5, rfl, h⟩
  change WP _ _ _ _ _ _ [.int (bI b5)] H2 _
  refine wp_istore_n (ls' := [(1, .int (bI b5)), (0, rv (some a0))]) dX11_prove_11 (by decide) rfl ?_
  refine wp_iload_n 0 dX11_prove_12 rfl ?_
  refine wp_if_eq (tgt := 54) dX11_prove_13 rfl (fun c => ?_) (fun c => ?_)
  · replace h := h.1 (bI_0.mp c)
    refine wp_iload_n 0 dX11_prove_54 rfl ?_
    refine wp_if_eq (tgt := 68) dX11_prove_55 rfl (fun c => ?_) (fun c => ?_)
    · replace h := h.1 (bI_0.mp c)
      refine wp_bipush (v := (-100 : Int32)) dX11_prove_68 (by decide) ?_
      refine wp_aload_n 1 dX11_prove_70 rfl ?_
      obtain ⟨ht6, h⟩ := h
      refine wp_getC (ci := 11) (j := 0) dX11_prove_71 fi_X11_12r rfl rfl ht6 ?_
      change WP _ _ _ _ _ _ (rv (hC H2 1200 a0) :: _) _ _
      obtain ⟨a7, ha7, h⟩ := h
      obtain ⟨ht8, h⟩ := h
      refine wp_getI (ci := 7) (j := 2) dX11_prove_74 fi_X11_113r rfl ha7 ht8 ?_
      change WP _ _ _ _ _ _ (.int (hI H2 802 a7 0) :: _) _ _
      refine wp_isub dX11_prove_77 ?_
      refine wp_istore_n (ls' := [(2, .int ((-100 : Int32) - (hI H2 802 a7 0))), (1, .int (bI b5)), (0, rv (some a0))]) dX11_prove_78 (by decide) rfl ?_
      refine wp_aload_n 2 dX11_prove_79 rfl ?_
      refine wp_getC (ci := 11) (j := 0) dX11_prove_80 fi_X11_12r rfl rfl ht6 ?_
      change WP _ _ _ _ _ _ (rv (hC H2 1200 a0) :: _) _ _
      refine wp_callV (ci := 7) (As := []) (rest := []) (mc := 0) (ms := 0) dX11_prove_83 lk_X11_116 rfl rfl (by decide) ha7 rfl rfl ht8 rfl rfl rfl w_3_147 (Call.weaken h ?_)
      rintro H9 _ ⟨rfl, h⟩
      change WP _ _ _ _ _ _ [] H9 _
      refine wp_iload_n 0 dX11_prove_86 rfl ?_
      exact wp_ireturn (ty := .int) dX11_prove_87 rfl rfl ⟨_, rfl, h⟩
    · replace h := h.2 (bI_1.mp c)
      refine wp_aload_n 1 dX11_prove_58 rfl ?_
      obtain ⟨ht10, h⟩ := h
      refine wp_getR (ci := 11) (j := 7) dX11_prove_59 fi_X11_48r rfl rfl ht10 ?_
      change WP _ _ _ _ _ _ (rv (hR H2 1207 a0 0) :: _) _ _
      obtain ⟨a11, ha11, h⟩ := h
      obtain ⟨ht12, h⟩ := h
      refine wp_getI (ci := 4) (j := 2) dX11_prove_62 fi_X11_192r rfl ha11 ht12 ?_
      change WP _ _ _ _ _ _ (.int (hI H2 502 a11 0) :: _) _ _
      refine wp_goto (tgt := 78) dX11_prove_65 rfl ?_
      refine wp_istore_n (ls' := [(2, .int (hI H2 502 a11 0)), (1, .int (bI b5)), (0, rv (some a0))]) dX11_prove_78 (by decide) rfl ?_
      refine wp_aload_n 2 dX11_prove_79 rfl ?_
      refine wp_getC (ci := 11) (j := 0) dX11_prove_80 fi_X11_12r rfl rfl ht10 ?_
      change WP _ _ _ _ _ _ (rv (hC H2 1200 a0) :: _) _ _
      obtain ⟨a14, ha14, h⟩ := h
      obtain ⟨ht15, h⟩ := h
      refine wp_callV (ci := 7) (As := []) (rest := []) (mc := 0) (ms := 0) dX11_prove_83 lk_X11_116 rfl rfl (by decide) ha14 rfl rfl ht15 rfl rfl rfl w_3_147 (Call.weaken h ?_)
      rintro H13 _ ⟨rfl, h⟩
      change WP _ _ _ _ _ _ [] H13 _
      refine wp_iload_n 0 dX11_prove_86 rfl ?_
      exact wp_ireturn (ty := .int) dX11_prove_87 rfl rfl ⟨_, rfl, h⟩
  · replace h := h.2 (bI_1.mp c)
    refine wp_aload_n 1 dX11_prove_16 rfl ?_
    obtain ⟨ht16, h⟩ := h
    refine wp_getR (ci := 11) (j := 8) dX11_prove_17 fi_X11_52r rfl rfl ht16 ?_
    change WP _ _ _ _ _ _ (rv (hR H2 1208 a0 0) :: _) _ _
    refine wp_aload_n 1 dX11_prove_20 rfl ?_
    refine wp_getC (ci := 11) (j := 0) dX11_prove_21 fi_X11_12r rfl rfl ht16 ?_
    change WP _ _ _ _ _ _ (rv (hC H2 1200 a0) :: _) _ _
    refine wp_aload_n 1 dX11_prove_24 rfl ?_
    refine wp_getC (ci := 11) (j := 1) dX11_prove_25 fi_X11_21r rfl rfl ht16 ?_
    change WP _ _ _ _ _ _ (rv (hC H2 1201 a0) :: _) _ _
    obtain ⟨a18, ha18, h⟩ := h
    obtain ⟨ht19, h⟩ := h
    refine wp_callV (ci := 4) (As := [rv (hC H2 1200 a0), rv (hC H2 1201 a0)]) (rest := []) (mc := 0) (ms := 0) dX11_prove_28 lk_X11_184 rfl rfl (by decide) ha18 rfl rfl ht19 rfl rfl rfl w_4_60 (Call.weaken h ?_)
    rintro H17 _ ⟨rfl, h⟩
    change WP _ _ _ _ _ _ [] H17 _
    refine wp_aload_n 1 dX11_prove_31 rfl ?_
    obtain ⟨ht20, h⟩ := h
    refine wp_getR (ci := 11) (j := 7) dX11_prove_32 fi_X11_48r rfl rfl ht20 ?_
    change WP _ _ _ _ _ _ (rv (hR H17 1207 a0 0) :: _) _ _
    refine wp_astore_n (ls' := [(2, rv (hR H17 1207 a0 0)), (1, .int (bI b5)), (0, rv (some a0))]) dX11_prove_35 (by decide) rfl ?_
    refine wp_aload_n 2 dX11_prove_36 rfl ?_
    refine wp_aload_n 2 dX11_prove_37 rfl ?_
    refine wp_getR (ci := 11) (j := 8) dX11_prove_38 fi_X11_52r rfl rfl ht20 ?_
    change WP _ _ _ _ _ _ (rv (hR H17 1208 a0 0) :: _) _ _
    refine wp_putR (ci := 11) (j := 7) dX11_prove_41 fi_X11_48 rfl (fun z => by cases z) rfl ht20 (Or.inl ⟨_, rfl⟩) ?_
    change WP _ _ _ _ _ _ _ (sR H17 1207 a0 0 (hR H17 1208 a0 0)) _
    refine wp_aload_n 2 dX11_prove_44 rfl ?_
    refine wp_aload_n 0 dX11_prove_45 rfl ?_
    refine wp_putR (ci := 11) (j := 8) dX11_prove_46 fi_X11_52 rfl (fun z => by cases z) rfl ht20 (Or.inl ⟨_, rfl⟩) ?_
    change WP _ _ _ _ _ _ _ (sR (sR H17 1207 a0 0 (hR H17 1208 a0 0)) 1208 a0 0 (hR H17 1207 a0 0)) _
    refine wp_aload_n 2 dX11_prove_49 rfl ?_
    refine wp_iconst (v := (1 : Int32)) dX11_prove_50 (by decide) ?_
    refine wp_putI (ci := 11) (j := 9) dX11_prove_51 fi_X11_188 rfl (fun z => by cases z) rfl ht20 rfl rfl ?_
    change WP _ _ _ _ _ _ _ (sI (sR (sR H17 1207 a0 0 (hR H17 1208 a0 0)) 1208 a0 0 (hR H17 1207 a0 0)) 1209 a0 0 (1 : Int32)) _
    refine wp_iload_n 1 dX11_prove_54 rfl ?_
    refine wp_if_eq (tgt := 68) dX11_prove_55 rfl (fun c => ?_) (fun c => ?_)
    · replace h := h.1 (bI_0.mp c)
      refine wp_bipush (v := (-100 : Int32)) dX11_prove_68 (by decide) ?_
      refine wp_aload_n 2 dX11_prove_70 rfl ?_
      refine wp_getC (ci := 11) (j := 0) dX11_prove_71 fi_X11_12r rfl rfl ht20 ?_
      change WP _ _ _ _ _ _ (rv (hC (sI (sR (sR H17 1207 a0 0 (hR H17 1208 a0 0)) 1208 a0 0 (hR H17 1207 a0 0)) 1209 a0 0 (1 : Int32)) 1200 a0) :: _) _ _
      obtain ⟨a21, ha21, h⟩ := h
      obtain ⟨ht22, h⟩ := h
      refine wp_getI (ci := 7) (j := 2) dX11_prove_74 fi_X11_113r rfl ha21 ht22 ?_
      change WP _ _ _ _ _ _ (.int (hI (sI (sR (sR H17 1207 a0 0 (hR H17 1208 a0 0)) 1208 a0 0 (hR H17 1207 a0 0)) 1209 a0 0 (1 : Int32)) 802 a21 0) :: _) _ _
      refine wp_isub dX11_prove_77 ?_
      refine wp_istore_n (ls' := [(2, .int ((-100 : Int32) - (hI (sI (sR (sR H17 1207 a0 0 (hR H17 1208 a0 0)) 1208 a0 0 (hR H17 1207 a0 0)) 1209 a0 0 (1 : Int32)) 802 a21 0))), (1, .int (bI b5)), (0, rv (some a0))]) dX11_prove_78 (by decide) rfl ?_
      refine wp_aload_n 2 dX11_prove_79 rfl ?_
      refine wp_getC (ci := 11) (j := 0) dX11_prove_80 fi_X11_12r rfl rfl ht20 ?_
      change WP _ _ _ _ _ _ (rv (hC (sI (sR (sR H17 1207 a0 0 (hR H17 1208 a0 0)) 1208 a0 0 (hR H17 1207 a0 0)) 1209 a0 0 (1 : Int32)) 1200 a0) :: _) _ _
      refine wp_callV (ci := 7) (As := []) (rest := []) (mc := 0) (ms := 0) dX11_prove_83 lk_X11_116 rfl rfl (by decide) ha21 rfl rfl ht22 rfl rfl rfl w_3_147 (Call.weaken h ?_)
      rintro H23 _ ⟨rfl, h⟩
      change WP _ _ _ _ _ _ [] H23 _
      refine wp_iload_n 0 dX11_prove_86 rfl ?_
      exact wp_ireturn (ty := .int) dX11_prove_87 rfl rfl ⟨_, rfl, h⟩
    · replace h := h.2 (bI_1.mp c)
      refine wp_aload_n 2 dX11_prove_58 rfl ?_
      refine wp_getR (ci := 11) (j := 7) dX11_prove_59 fi_X11_48r rfl rfl ht20 ?_
      change WP _ _ _ _ _ _ (rv (hR (sI (sR (sR H17 1207 a0 0 (hR H17 1208 a0 0)) 1208 a0 0 (hR H17 1207 a0 0)) 1209 a0 0 (1 : Int32)) 1207 a0 0) :: _) _ _
      obtain ⟨a24, ha24, h⟩ := h
      obtain ⟨ht25, h⟩ := h
      refine wp_getI (ci := 4) (j := 2) dX11_prove_62 fi_X11_192r rfl ha24 ht25 ?_
      change WP _ _ _ _ _ _ (.int (hI (sI (sR (sR H17 1207 a0 0 (hR H17 1208 a0 0)) 1208 a0 0 (hR H17 1207 a0 0)) 1209 a0 0 (1 : Int32)) 502 a24 0) :: _) _ _
      refine wp_goto (tgt := 78) dX11_prove_65 rfl ?_
      refine wp_istore_n (ls' := [(2, .int (hI (sI (sR (sR H17 1207 a0 0 (hR H17 1208 a0 0)) 1208 a0 0 (hR H17 1207 a0 0)) 1209 a0 0 (1 : Int32)) 502 a24 0)), (1, .int (bI b5)), (0, rv (some a0))]) dX11_prove_78 (by decide) rfl ?_
      refine wp_aload_n 2 dX11_prove_79 rfl ?_
      refine wp_getC (ci := 11) (j := 0) dX11_prove_80 fi_X11_12r rfl rfl ht20 ?_
      change WP _ _ _ _ _ _ (rv (hC (sI (sR (sR H17 1207 a0 0 (hR H17 1208 a0 0)) 1208 a0 0 (hR H17 1207 a0 0)) 1209 a0 0 (1 : Int32)) 1200 a0) :: _) _ _
      obtain ⟨a27, ha27, h⟩ := h
      obtain ⟨ht28, h⟩ := h
      refine wp_callV (ci := 7) (As := []) (rest := []) (mc := 0) (ms := 0) dX11_prove_83 lk_X11_116 rfl rfl (by decide) ha27 rfl rfl ht28 rfl rfl rfl w_3_147 (Call.weaken h ?_)
      rintro H26 _ ⟨rfl, h⟩
      change WP _ _ _ _ _ _ [] H26 _
      refine wp_iload_n 0 dX11_prove_86 rfl ?_
      exact wp_ireturn (ty := .int) dX11_prove_87 rfl rfl ⟨_, rfl, h⟩
theorem C_X11_prove {d : Nat} {q : HP → Int32 → Prop} {a0 : Nat} {H : HP} (h : wb_X11_prove_0 d q a0 H) : CI (d + 1) 0 0 mX11_prove [rv (some a0)] H q := by
  refine call_of (by decide +kernel) (by simp [lg_sl, rv_cat, vc_int, vc_long, vc_float, vc_double]) ?_
  have e : lv_args 0 [rv (some a0)] = [(0, rv (some a0))] := by simp [lv_args, rv_cat, vc_int, vc_long, vc_float, vc_double]
  rw [e]
  exact T_X11_prove_0 h
def wb_X11_provedStep_0 (d : Nat) (q : HP → Option Nat → Prop) (a0 : Nat) (x1 : Int32) (H : HP) : Prop :=
  tg H a0 = 12 ∧ (((hI H 1209 a0 0) = 0 → q H none) ∧ (¬ ((hI H 1209 a0 0) = 0) → ∃ a3, (hR H 1207 a0 0) = some a3 ∧ (tg H a3 = 5 ∧ (CR d 0 0 mX4_heldStep [rv (hR H 1207 a0 0), .int x1] H (fun H2 r5 => q H2 r5)))))
set_option maxRecDepth 40000 in
set_option maxHeartbeats 4000000 in
theorem T_X11_provedStep_0 {d : Nat} {q : HP → Option Nat → Prop} {a0 : Nat} {x1 : Int32} {H : HP} (h : wb_X11_provedStep_0 d q a0 x1 H) : WP (d + 1) mX11_provedStep 0 0 0 [(0, rv (some a0)), (1, .int x1)] [] H (qR q) := by
  unfold wb_X11_provedStep_0 at h
  refine wp_aload_n 0 dX11_provedStep_0 rfl ?_
  obtain ⟨ht1, h⟩ := h
  refine wp_getI (ci := 11) (j := 9) dX11_provedStep_1 fi_X11_188r rfl rfl ht1 ?_
  change WP _ _ _ _ _ _ (.int (hI H 1209 a0 0) :: _) _ _
  refine wp_if_eq (tgt := 18) dX11_provedStep_4 rfl (fun c => ?_) (fun c => ?_)
  · replace h := h.1 c
    refine wp_null dX11_provedStep_18 ?_
    exact wp_areturn dX11_provedStep_19 rfl ⟨_, rfl, h⟩
  · replace h := h.2 c
    refine wp_aload_n 0 dX11_provedStep_7 rfl ?_
    refine wp_getR (ci := 11) (j := 7) dX11_provedStep_8 fi_X11_48r rfl rfl ht1 ?_
    change WP _ _ _ _ _ _ (rv (hR H 1207 a0 0) :: _) _ _
    refine wp_iload_n 1 dX11_provedStep_11 rfl ?_
    obtain ⟨a3, ha3, h⟩ := h
    obtain ⟨ht4, h⟩ := h
    refine wp_callV (ci := 4) (As := [.int x1]) (rest := []) (mc := 0) (ms := 0) dX11_provedStep_12 lk_X11_211 rfl rfl (by decide) ha3 rfl rfl ht4 rfl rfl rfl w_4_148 (Call.weaken h ?_)
    rintro H2 _ ⟨r5, rfl, h⟩
    change WP _ _ _ _ _ _ [rv r5] H2 _
    refine wp_goto (tgt := 19) dX11_provedStep_15 rfl ?_
    exact wp_areturn dX11_provedStep_19 rfl ⟨_, rfl, h⟩
theorem C_X11_provedStep {d : Nat} {q : HP → Option Nat → Prop} {a0 : Nat} {x1 : Int32} {H : HP} (h : wb_X11_provedStep_0 d q a0 x1 H) : CR (d + 1) 0 0 mX11_provedStep [rv (some a0), .int x1] H q := by
  refine call_of (by decide +kernel) (by simp [lg_sl, rv_cat, vc_int, vc_long, vc_float, vc_double]) ?_
  have e : lv_args 0 [rv (some a0), .int x1] = [(0, rv (some a0)), (1, .int x1)] := by simp [lv_args, rv_cat, vc_int, vc_long, vc_float, vc_double]
  rw [e]
  exact T_X11_provedStep_0 h
def wb_X11_put_0 (d : Nat) (q : HP → Int32 → Prop) (a0 : Nat) (x1 : Int32) (x2 : Int32) (x3 : Int32) (H : HP) : Prop :=
  tg H a0 = 12 ∧ (CI d 0 0 mX11_itemRefusal [rv (some a0), .int x1, .int x2] H (fun H1 r3 => (r3 = 0 → tg H1 a0 = 12 ∧ (∃ a5, (hC H1 1210 a0) = some a5 ∧ (isA H1 a5 8 ∧ (vp_in x1 (ln H1 a5) ∧ (∃ a8, (hR H1 (tg H1 a5) a5 x1.toNatClampNeg) = some a8 ∧ (tg H1 a8 = 9 ∧ ((¬ (hI H1 900 a8 0) = 0 → ∀ r10, alike64 r10 (FP.ddiv (FP.i2d x3) (4652007308841189376 : UInt64)) = true → (CV d 0 0 mX8_store [rv (hR H1 (tg H1 a5) a5 x1.toNatClampNeg), .int x2, .double r10] H1 (fun H11 => q H11 (1 : Int32)))) ∧ ((hI H1 900 a8 0) = 0 → ∀ r12, alike32 r12 (FP.fdiv (FP.i2f x3) (1148846080 : UInt32)) = true → (∀ r13, alike64 r13 (FP.f2d r12) = true → (CV d 0 0 mX8_store [rv (hR H1 (tg H1 a5) a5 x1.toNatClampNeg), .int x2, .double r13] H1 (fun H14 => q H14 (1 : Int32)))))))))))) ∧ (¬ (r3 = 0) → q H1 r3)))
set_option maxRecDepth 40000 in
set_option maxHeartbeats 4000000 in
theorem T_X11_put_0 {d : Nat} {q : HP → Int32 → Prop} {a0 : Nat} {x1 : Int32} {x2 : Int32} {x3 : Int32} {H : HP} (h : wb_X11_put_0 d q a0 x1 x2 x3 H) : WP (d + 1) mX11_put 0 0 0 [(0, rv (some a0)), (1, .int x1), (2, .int x2), (3, .int x3)] [] H (qI q) := by
  unfold wb_X11_put_0 at h
  refine wp_aload_n 0 dX11_put_0 rfl ?_
  refine wp_iload_n 1 dX11_put_1 rfl ?_
  refine wp_iload_n 2 dX11_put_2 rfl ?_
  obtain ⟨ht2, h⟩ := h
  refine wp_callV (ci := 11) (As := [.int x1, .int x2]) (rest := []) (mc := 0) (ms := 0) dX11_put_3 lk_X11_323 rfl rfl (by decide) rfl rfl rfl ht2 rfl rfl rfl w_5_66 (Call.weaken h ?_)
  rintro H1 _ ⟨r3, rfl, h⟩
  change WP _ _ _ _ _ _ [.int r3] H1 _
  refine wp_istore (ls' := [(4, .int r3), (0, rv (some a0)), (1, .int x1), (2, .int x2), (3, .int x3)]) dX11_put_6 (by decide) rfl ?_
  refine wp_iload 0 dX11_put_8 rfl ?_
  refine wp_if_eq (tgt := 16) dX11_put_10 rfl (fun c => ?_) (fun c => ?_)
  · replace h := h.1 c
    refine wp_aload_n 1 dX11_put_16 rfl ?_
    obtain ⟨ht4, h⟩ := h
    refine wp_getC (ci := 11) (j := 10) dX11_put_17 fi_X11_57r rfl rfl ht4 ?_
    change WP _ _ _ _ _ _ (rv (hC H1 1210 a0) :: _) _ _
    refine wp_iload_n 2 dX11_put_20 rfl ?_
    obtain ⟨a5, ha5, h⟩ := h
    obtain ⟨hr6, h⟩ := h
    obtain ⟨hg7, h⟩ := h
    refine wp_aaload (e := 8) dX11_put_21 ha5 hr6 (by decide) hg7 ?_
    refine wp_astore (ls' := [(5, rv (hR H1 (tg H1 a5) a5 x1.toNatClampNeg)), (4, .int r3), (0, rv (some a0)), (1, .int x1), (2, .int x2), (3, .int x3)]) dX11_put_22 (by decide) rfl ?_
    refine wp_aload 0 dX11_put_24 rfl ?_
    refine wp_iload_n 4 dX11_put_26 rfl ?_
    refine wp_aload 0 dX11_put_27 rfl ?_
    obtain ⟨a8, ha8, h⟩ := h
    obtain ⟨ht9, h⟩ := h
    refine wp_getI (ci := 8) (j := 0) dX11_put_29 fi_X11_326r rfl ha8 ht9 ?_
    change WP _ _ _ _ _ _ (.int (hI H1 900 a8 0) :: _) _ _
    refine wp_if_ne (tgt := 45) dX11_put_32 rfl (fun c => ?_) (fun c => ?_)
    · replace h := h.1 c
      refine wp_iload_n 5 dX11_put_45 rfl ?_
      refine wp_i2d dX11_put_46 ?_
      refine wp_ldc2d dX11_put_47 w_5_75 ?_
      refine wp_ddiv dX11_put_50 (fun r10 hr10 => ?_)
      replace h := h r10 hr10
      refine wp_callV (ci := 8) (As := [.int x2, .double r10]) (rest := []) (mc := 0) (ms := 0) dX11_put_51 lk_X11_332 rfl rfl (by decide) ha8 rfl rfl ht9 rfl rfl rfl w_5_76 (Call.weaken h ?_)
      rintro H11 _ ⟨rfl, h⟩
      change WP _ _ _ _ _ _ [] H11 _
      refine wp_iconst (v := (1 : Int32)) dX11_put_54 (by decide) ?_
      exact wp_ireturn (ty := .int) dX11_put_55 rfl rfl ⟨_, rfl, h⟩
    · replace h := h.2 c
      refine wp_iload_n 5 dX11_put_35 rfl ?_
      refine wp_i2f dX11_put_36 ?_
      refine wp_ldcwf dX11_put_37 w_5_74 ?_
      refine wp_fdiv dX11_put_40 (fun r12 hr12 => ?_)
      replace h := h r12 hr12
      refine wp_f2d dX11_put_41 (fun r13 hr13 => ?_)
      replace h := h r13 hr13
      refine wp_goto (tgt := 51) dX11_put_42 rfl ?_
      refine wp_callV (ci := 8) (As := [.int x2, .double r13]) (rest := []) (mc := 0) (ms := 0) dX11_put_51 lk_X11_332 rfl rfl (by decide) ha8 rfl rfl ht9 rfl rfl rfl w_5_76 (Call.weaken h ?_)
      rintro H14 _ ⟨rfl, h⟩
      change WP _ _ _ _ _ _ [] H14 _
      refine wp_iconst (v := (1 : Int32)) dX11_put_54 (by decide) ?_
      exact wp_ireturn (ty := .int) dX11_put_55 rfl rfl ⟨_, rfl, h⟩
  · replace h := h.2 c
    refine wp_iload 0 dX11_put_13 rfl ?_
    exact wp_ireturn (ty := .int) dX11_put_15 rfl rfl ⟨_, rfl, h⟩
theorem C_X11_put {d : Nat} {q : HP → Int32 → Prop} {a0 : Nat} {x1 : Int32} {x2 : Int32} {x3 : Int32} {H : HP} (h : wb_X11_put_0 d q a0 x1 x2 x3 H) : CI (d + 1) 0 0 mX11_put [rv (some a0), .int x1, .int x2, .int x3] H q := by
  refine call_of (by decide +kernel) (by simp [lg_sl, rv_cat, vc_int, vc_long, vc_float, vc_double]) ?_
  have e : lv_args 0 [rv (some a0), .int x1, .int x2, .int x3] = [(0, rv (some a0)), (1, .int x1), (2, .int x2), (3, .int x3)] := by simp [lv_args, rv_cat, vc_int, vc_long, vc_float, vc_double]
  rw [e]
  exact T_X11_put_0 h
def wb_X11_putBits_0 (d : Nat) (q : HP → Int32 → Prop) (a0 : Nat) (x1 : Int32) (x2 : Int32) (x3 : Int64) (H : HP) : Prop :=
  tg H a0 = 12 ∧ (CI d 0 0 mX11_itemRefusal [rv (some a0), .int x1, .int x2] H (fun H1 r3 => (r3 = 0 → tg H1 a0 = 12 ∧ (∃ a5, (hC H1 1210 a0) = some a5 ∧ (isA H1 a5 8 ∧ (vp_in x1 (ln H1 a5) ∧ (∃ a9, (hR H1 (tg H1 a5) a5 x1.toNatClampNeg) = some a9 ∧ (tg H1 a9 = 9 ∧ (CV d 0 0 mX8_storeBits [rv (hR H1 (tg H1 a5) a5 x1.toNatClampNeg), .int x2, .long x3, rv (hC H1 1212 a0)] H1 (fun H8 => q H8 (1 : Int32))))))))) ∧ (¬ (r3 = 0) → q H1 r3)))
set_option maxRecDepth 40000 in
set_option maxHeartbeats 4000000 in
theorem T_X11_putBits_0 {d : Nat} {q : HP → Int32 → Prop} {a0 : Nat} {x1 : Int32} {x2 : Int32} {x3 : Int64} {H : HP} (h : wb_X11_putBits_0 d q a0 x1 x2 x3 H) : WP (d + 1) mX11_putBits 0 0 0 [(0, rv (some a0)), (1, .int x1), (2, .int x2), (3, .long x3)] [] H (qI q) := by
  unfold wb_X11_putBits_0 at h
  refine wp_aload_n 0 dX11_putBits_0 rfl ?_
  refine wp_iload_n 1 dX11_putBits_1 rfl ?_
  refine wp_iload_n 2 dX11_putBits_2 rfl ?_
  obtain ⟨ht2, h⟩ := h
  refine wp_callV (ci := 11) (As := [.int x1, .int x2]) (rest := []) (mc := 0) (ms := 0) dX11_putBits_3 lk_X11_323 rfl rfl (by decide) rfl rfl rfl ht2 rfl rfl rfl w_5_66 (Call.weaken h ?_)
  rintro H1 _ ⟨r3, rfl, h⟩
  change WP _ _ _ _ _ _ [.int r3] H1 _
  refine wp_istore (ls' := [(5, .int r3), (0, rv (some a0)), (1, .int x1), (2, .int x2), (3, .long x3)]) dX11_putBits_6 (by decide) rfl ?_
  refine wp_iload 0 dX11_putBits_8 rfl ?_
  refine wp_if_eq (tgt := 16) dX11_putBits_10 rfl (fun c => ?_) (fun c => ?_)
  · replace h := h.1 c
    refine wp_aload_n 1 dX11_putBits_16 rfl ?_
    obtain ⟨ht4, h⟩ := h
    refine wp_getC (ci := 11) (j := 10) dX11_putBits_17 fi_X11_57r rfl rfl ht4 ?_
    change WP _ _ _ _ _ _ (rv (hC H1 1210 a0) :: _) _ _
    refine wp_iload_n 2 dX11_putBits_20 rfl ?_
    obtain ⟨a5, ha5, h⟩ := h
    obtain ⟨hr6, h⟩ := h
    obtain ⟨hg7, h⟩ := h
    refine wp_aaload (e := 8) dX11_putBits_21 ha5 hr6 (by decide) hg7 ?_
    refine wp_iload_n 3 dX11_putBits_22 rfl ?_
    refine wp_lload_n 4 dX11_putBits_23 rfl ?_
    refine wp_aload_n 1 dX11_putBits_24 rfl ?_
    refine wp_getC (ci := 11) (j := 12) dX11_putBits_25 fi_X11_70r rfl rfl ht4 ?_
    change WP _ _ _ _ _ _ (rv (hC H1 1212 a0) :: _) _ _
    obtain ⟨a9, ha9, h⟩ := h
    obtain ⟨ht10, h⟩ := h
    refine wp_callV (ci := 8) (As := [.int x2, .long x3, rv (hC H1 1212 a0)]) (rest := []) (mc := 0) (ms := 0) dX11_putBits_28 lk_X11_336 rfl rfl (by decide) ha9 rfl rfl ht10 rfl rfl rfl w_5_81 (Call.weaken h ?_)
    rintro H8 _ ⟨rfl, h⟩
    change WP _ _ _ _ _ _ [] H8 _
    refine wp_iconst (v := (1 : Int32)) dX11_putBits_31 (by decide) ?_
    exact wp_ireturn (ty := .int) dX11_putBits_32 rfl rfl ⟨_, rfl, h⟩
  · replace h := h.2 c
    refine wp_iload 0 dX11_putBits_13 rfl ?_
    exact wp_ireturn (ty := .int) dX11_putBits_15 rfl rfl ⟨_, rfl, h⟩
theorem C_X11_putBits {d : Nat} {q : HP → Int32 → Prop} {a0 : Nat} {x1 : Int32} {x2 : Int32} {x3 : Int64} {H : HP} (h : wb_X11_putBits_0 d q a0 x1 x2 x3 H) : CI (d + 1) 0 0 mX11_putBits [rv (some a0), .int x1, .int x2, .long x3] H q := by
  refine call_of (by decide +kernel) (by simp [lg_sl, rv_cat, vc_int, vc_long, vc_float, vc_double]) ?_
  have e : lv_args 0 [rv (some a0), .int x1, .int x2, .long x3] = [(0, rv (some a0)), (1, .int x1), (2, .int x2), (3, .long x3)] := by simp [lv_args, rv_cat, vc_int, vc_long, vc_float, vc_double]
  rw [e]
  exact T_X11_putBits_0 h
def wb_X11_rack_0 (d : Nat) (q : HP → Int32 → Prop) (a0 : Nat) (x1 : Int32) (x2 : Int32) (x3 : Int32) (H : HP) : Prop :=
  tg H a0 = 12 ∧ (CR d 0 0 mX11_rackAt [rv (some a0), .int x1] H (fun H1 r3 => (r3 = none → q H1 (-1 : Int32)) ∧ (∀ a4, r3 = some a4 → (x3 < 0 → q H1 (-1 : Int32)) ∧ (¬ (x3 < 0) → (x3 ≤ (1 : Int32) → CZ d 0 0 mX11_isPlace [.int x2] H1 (fun H5 b6 => (b6 = true → tg H5 a4 = 6 ∧ (∃ a8, (hC H5 601 a4) = some a8 ∧ (isA H5 a8 0 ∧ (vp_in x2 (ln H5 a8) ∧ ((¬ (hI H5 (tg H5 a8) a8 x2.toNatClampNeg) = (-1 : Int32) → (¬ x3 = 0 → ∃ a11, (hC H5 602 a4) = some a11 ∧ (isA H5 a11 3 ∧ (vp_in x2 (ln H5 a11) ∧ (q H5 ((hL H5 (tg H5 a11) a11 x2.toNatClampNeg).toInt32))))) ∧ (x3 = 0 → vp_in x2 (ln H5 a8) ∧ (q H5 (hI H5 (tg H5 a8) a8 x2.toNatClampNeg)))) ∧ ((hI H5 (tg H5 a8) a8 x2.toNatClampNeg) = (-1 : Int32) → q H5 (-6 : Int32))))))) ∧ (b6 = false → q H5 (-7 : Int32)))) ∧ (¬ (x3 ≤ (1 : Int32)) → q H1 (-1 : Int32))))))
set_option maxRecDepth 40000 in
set_option maxHeartbeats 4000000 in
theorem T_X11_rack_0 {d : Nat} {q : HP → Int32 → Prop} {a0 : Nat} {x1 : Int32} {x2 : Int32} {x3 : Int32} {H : HP} (h : wb_X11_rack_0 d q a0 x1 x2 x3 H) : WP (d + 1) mX11_rack 0 0 0 [(0, rv (some a0)), (1, .int x1), (2, .int x2), (3, .int x3)] [] H (qI q) := by
  unfold wb_X11_rack_0 at h
  refine wp_aload_n 0 dX11_rack_0 rfl ?_
  refine wp_iload_n 1 dX11_rack_1 rfl ?_
  obtain ⟨ht2, h⟩ := h
  refine wp_callV (ci := 11) (As := [.int x1]) (rest := []) (mc := 0) (ms := 0) dX11_rack_2 lk_X11_371 rfl rfl (by decide) rfl rfl rfl ht2 rfl rfl rfl w_5_169 (Call.weaken h ?_)
  rintro H1 _ ⟨r3, rfl, h⟩
  change WP _ _ _ _ _ _ [rv r3] H1 _
  refine wp_astore (ls' := [(4, rv r3), (0, rv (some a0)), (1, .int x1), (2, .int x2), (3, .int x3)]) dX11_rack_5 (by decide) rfl ?_
  refine wp_aload 0 dX11_rack_7 rfl ?_
  refine wp_ifnull (tgt := 21) dX11_rack_9 rfl (fun c => ?_) (fun a4 ha4 => ?_)
  · replace h := h.1 c
    refine wp_iconst (v := (-1 : Int32)) dX11_rack_21 (by decide) ?_
    exact wp_ireturn (ty := .int) dX11_rack_22 rfl rfl ⟨_, rfl, h⟩
  · replace h := h.2 a4 ha4
    refine wp_iload_n 4 dX11_rack_12 rfl ?_
    refine wp_if_lt (tgt := 21) dX11_rack_13 rfl (fun c => ?_) (fun c => ?_)
    · replace h := h.1 c
      refine wp_iconst (v := (-1 : Int32)) dX11_rack_21 (by decide) ?_
      exact wp_ireturn (ty := .int) dX11_rack_22 rfl rfl ⟨_, rfl, h⟩
    · replace h := h.2 c
      refine wp_iload_n 4 dX11_rack_16 rfl ?_
      refine wp_iconst (v := (1 : Int32)) dX11_rack_17 (by decide) ?_
      refine wp_icmp_le (tgt := 23) dX11_rack_18 rfl (fun c => ?_) (fun c => ?_)
      · replace h := h.1 c
        refine wp_iload_n 3 dX11_rack_23 rfl ?_
        refine wp_callS (As := [.int x2]) (rest := []) (mc := 0) (ms := 0) dX11_rack_24 lk_X11_375 rfl rfl (by decide) rfl rfl rfl (Call.weaken h ?_)
        rintro H5 _ ⟨b6, rfl, h⟩
        change WP _ _ _ _ _ _ [.int (bI b6)] H5 _
        refine wp_if_ne (tgt := 33) dX11_rack_27 rfl (fun c => ?_) (fun c => ?_)
        · replace h := h.1 (bI_1.mp c)
          refine wp_aload 0 dX11_rack_33 rfl ?_
          obtain ⟨ht7, h⟩ := h
          refine wp_getC (ci := 5) (j := 1) dX11_rack_35 fi_X11_381 rfl ha4 ht7 ?_
          change WP _ _ _ _ _ _ (rv (hC H5 601 a4) :: _) _ _
          refine wp_iload_n 3 dX11_rack_38 rfl ?_
          obtain ⟨a8, ha8, h⟩ := h
          obtain ⟨hr9, h⟩ := h
          obtain ⟨hg10, h⟩ := h
          refine wp_iaload dX11_rack_39 ha8 hr9 hg10 ?_
          refine wp_iconst (v := (-1 : Int32)) dX11_rack_40 (by decide) ?_
          refine wp_icmp_ne (tgt := 47) dX11_rack_41 rfl (fun c => ?_) (fun c => ?_)
          · replace h := h.1 c
            refine wp_iload_n 4 dX11_rack_47 rfl ?_
            refine wp_if_ne (tgt := 61) dX11_rack_48 rfl (fun c => ?_) (fun c => ?_)
            · replace h := h.1 c
              refine wp_aload 0 dX11_rack_61 rfl ?_
              refine wp_getC (ci := 5) (j := 2) dX11_rack_63 fi_X11_384 rfl ha4 ht7 ?_
              change WP _ _ _ _ _ _ (rv (hC H5 602 a4) :: _) _ _
              refine wp_iload_n 3 dX11_rack_66 rfl ?_
              obtain ⟨a11, ha11, h⟩ := h
              obtain ⟨hr12, h⟩ := h
              obtain ⟨hg13, h⟩ := h
              refine wp_laload dX11_rack_67 ha11 hr12 hg13 ?_
              refine wp_l2i dX11_rack_68 ?_
              exact wp_ireturn (ty := .int) dX11_rack_69 rfl rfl ⟨_, rfl, h⟩
            · replace h := h.2 c
              refine wp_aload 0 dX11_rack_51 rfl ?_
              refine wp_getC (ci := 5) (j := 1) dX11_rack_53 fi_X11_381 rfl ha4 ht7 ?_
              change WP _ _ _ _ _ _ (rv (hC H5 601 a4) :: _) _ _
              refine wp_iload_n 3 dX11_rack_56 rfl ?_
              obtain ⟨hg14, h⟩ := h
              refine wp_iaload dX11_rack_57 ha8 hr9 hg14 ?_
              refine wp_goto (tgt := 69) dX11_rack_58 rfl ?_
              exact wp_ireturn (ty := .int) dX11_rack_69 rfl rfl ⟨_, rfl, h⟩
          · replace h := h.2 c
            refine wp_bipush (v := (-6 : Int32)) dX11_rack_44 (by decide) ?_
            exact wp_ireturn (ty := .int) dX11_rack_46 rfl rfl ⟨_, rfl, h⟩
        · replace h := h.2 (bI_0.mp c)
          refine wp_bipush (v := (-7 : Int32)) dX11_rack_30 (by decide) ?_
          exact wp_ireturn (ty := .int) dX11_rack_32 rfl rfl ⟨_, rfl, h⟩
      · replace h := h.2 c
        refine wp_iconst (v := (-1 : Int32)) dX11_rack_21 (by decide) ?_
        exact wp_ireturn (ty := .int) dX11_rack_22 rfl rfl ⟨_, rfl, h⟩
theorem C_X11_rack {d : Nat} {q : HP → Int32 → Prop} {a0 : Nat} {x1 : Int32} {x2 : Int32} {x3 : Int32} {H : HP} (h : wb_X11_rack_0 d q a0 x1 x2 x3 H) : CI (d + 1) 0 0 mX11_rack [rv (some a0), .int x1, .int x2, .int x3] H q := by
  refine call_of (by decide +kernel) (by simp [lg_sl, rv_cat, vc_int, vc_long, vc_float, vc_double]) ?_
  have e : lv_args 0 [rv (some a0), .int x1, .int x2, .int x3] = [(0, rv (some a0)), (1, .int x1), (2, .int x2), (3, .int x3)] := by simp [lv_args, rv_cat, vc_int, vc_long, vc_float, vc_double]
  rw [e]
  exact T_X11_rack_0 h
def wb_X11_rackAt_0 (d : Nat) (q : HP → Option Nat → Prop) (a0 : Nat) (x1 : Int32) (H : HP) : Prop :=
  (x1 < 0 → q H none) ∧ (¬ (x1 < 0) → (x1 < (3 : Int32) → tg H a0 = 12 ∧ (∃ a2, (hC H 1211 a0) = some a2 ∧ (isA H a2 9 ∧ (vp_in x1 (ln H a2) ∧ (q H (hR H (tg H a2) a2 x1.toNatClampNeg)))))) ∧ (¬ (x1 < (3 : Int32)) → q H none))
set_option maxRecDepth 40000 in
set_option maxHeartbeats 4000000 in
theorem T_X11_rackAt_0 {d : Nat} {q : HP → Option Nat → Prop} {a0 : Nat} {x1 : Int32} {H : HP} (h : wb_X11_rackAt_0 d q a0 x1 H) : WP (d + 1) mX11_rackAt 0 0 0 [(0, rv (some a0)), (1, .int x1)] [] H (qR q) := by
  unfold wb_X11_rackAt_0 at h
  refine wp_iload_n 1 dX11_rackAt_0 rfl ?_
  refine wp_if_lt (tgt := 9) dX11_rackAt_1 rfl (fun c => ?_) (fun c => ?_)
  · replace h := h.1 c
    refine wp_null dX11_rackAt_9 ?_
    refine wp_goto (tgt := 19) dX11_rackAt_10 rfl ?_
    exact wp_areturn dX11_rackAt_19 rfl ⟨_, rfl, h⟩
  · replace h := h.2 c
    refine wp_iload_n 1 dX11_rackAt_4 rfl ?_
    refine wp_iconst (v := (3 : Int32)) dX11_rackAt_5 (by decide) ?_
    refine wp_icmp_lt (tgt := 13) dX11_rackAt_6 rfl (fun c => ?_) (fun c => ?_)
    · replace h := h.1 c
      refine wp_aload_n 0 dX11_rackAt_13 rfl ?_
      obtain ⟨ht1, h⟩ := h
      refine wp_getC (ci := 11) (j := 11) dX11_rackAt_14 fi_X11_63r rfl rfl ht1 ?_
      change WP _ _ _ _ _ _ (rv (hC H 1211 a0) :: _) _ _
      refine wp_iload_n 1 dX11_rackAt_17 rfl ?_
      obtain ⟨a2, ha2, h⟩ := h
      obtain ⟨hr3, h⟩ := h
      obtain ⟨hg4, h⟩ := h
      refine wp_aaload (e := 9) dX11_rackAt_18 ha2 hr3 (by decide) hg4 ?_
      exact wp_areturn dX11_rackAt_19 rfl ⟨_, rfl, h⟩
    · replace h := h.2 c
      refine wp_null dX11_rackAt_9 ?_
      refine wp_goto (tgt := 19) dX11_rackAt_10 rfl ?_
      exact wp_areturn dX11_rackAt_19 rfl ⟨_, rfl, h⟩
theorem C_X11_rackAt {d : Nat} {q : HP → Option Nat → Prop} {a0 : Nat} {x1 : Int32} {H : HP} (h : wb_X11_rackAt_0 d q a0 x1 H) : CR (d + 1) 0 0 mX11_rackAt [rv (some a0), .int x1] H q := by
  refine call_of (by decide +kernel) (by simp [lg_sl, rv_cat, vc_int, vc_long, vc_float, vc_double]) ?_
  have e : lv_args 0 [rv (some a0), .int x1] = [(0, rv (some a0)), (1, .int x1)] := by simp [lv_args, rv_cat, vc_int, vc_long, vc_float, vc_double]
  rw [e]
  exact T_X11_rackAt_0 h
def wb_X11_ratio_0 (d : Nat) (q : HP → Int64 → Prop) (a0 : Nat) (x1 : Int32) (x2 : Int32) (x3 : Int32) (H : HP) : Prop :=
  tg H a0 = 12 ∧ (∃ a3, (hC H 1201 a0) = some a3 ∧ (tg H a3 = 11 ∧ (CR d 0 0 mX10_at [rv (hC H 1201 a0), .int x1] H (fun H2 r5 => tg H2 a0 = 12 ∧ (∃ a8, (hC H2 1201 a0) = some a8 ∧ (tg H2 a8 = 11 ∧ (CR d 0 0 mX10_at [rv (hC H2 1201 a0), .int x2] H2 (fun H7 r10 => (r5 = none → q H7 (-9223372036854775808 : Int64)) ∧ (∀ a11, r5 = some a11 → (r10 = none → q H7 (-9223372036854775808 : Int64)) ∧ (∀ a12, r10 = some a12 → tg H7 a11 = 10 ∧ (CZ d 0 0 mX9_isLike [rv r5, rv r10] H7 (fun H13 b15 => (b15 = false → q H13 (-9223372036854775808 : Int64)) ∧ (b15 = true → tg H13 a11 = 10 ∧ (CZ d 0 0 mX9_hasOffset [rv r5] H13 (fun H16 b18 => (b18 = true → q H16 (-9223372036854775808 : Int64)) ∧ (b18 = false → tg H16 a12 = 10 ∧ (CZ d 0 0 mX9_hasOffset [rv r10] H16 (fun H19 b21 => (b21 = false → tg H19 a0 = 12 ∧ (tg H19 a12 = 10 ∧ (∃ a25, (hC H19 1213 a0) = some a25 ∧ (tg H19 a25 = 4 ∧ (CV d 0 0 mX3_copy [rv (hC H19 1213 a0), rv (hC H19 1003 a12)] H19 (fun H24 => tg H24 a0 = 12 ∧ (tg H24 a11 = 10 ∧ (∃ a30, (hC H24 1213 a0) = some a30 ∧ (tg H24 a30 = 4 ∧ (CZ d 0 0 mX3_divide [rv (hC H24 1213 a0), rv (hC H24 1003 a11)] H24 (fun H29 b32 => (b32 = false → q H29 (-9223372036854775808 : Int64)) ∧ (b32 = true → tg H29 a0 = 12 ∧ (∃ a35, (hC H29 1213 a0) = some a35 ∧ (tg H29 a35 = 4 ∧ (CJ d 0 0 mX3_part [rv (hC H29 1213 a0), .int x3] H29 (fun H34 r37 => q H34 r37)))))))))))))))) ∧ (b21 = true → q H19 (-9223372036854775808 : Int64))))))))))))))))))))
set_option maxRecDepth 40000 in
set_option maxHeartbeats 4000000 in
theorem T_X11_ratio_0 {d : Nat} {q : HP → Int64 → Prop} {a0 : Nat} {x1 : Int32} {x2 : Int32} {x3 : Int32} {H : HP} (h : wb_X11_ratio_0 d q a0 x1 x2 x3 H) : WP (d + 1) mX11_ratio 0 0 0 [(0, rv (some a0)), (1, .int x1), (2, .int x2), (3, .int x3)] [] H (qJ q) := by
  unfold wb_X11_ratio_0 at h
  refine wp_aload_n 0 dX11_ratio_0 rfl ?_
  obtain ⟨ht1, h⟩ := h
  refine wp_getC (ci := 11) (j := 1) dX11_ratio_1 fi_X11_21r rfl rfl ht1 ?_
  change WP _ _ _ _ _ _ (rv (hC H 1201 a0) :: _) _ _
  refine wp_iload_n 1 dX11_ratio_4 rfl ?_
  obtain ⟨a3, ha3, h⟩ := h
  obtain ⟨ht4, h⟩ := h
  refine wp_callV (ci := 10) (As := [.int x1]) (rest := []) (mc := 0) (ms := 0) dX11_ratio_5 lk_X11_129 rfl rfl (by decide) ha3 rfl rfl ht4 rfl rfl rfl w_3_201 (Call.weaken h ?_)
  rintro H2 _ ⟨r5, rfl, h⟩
  change WP _ _ _ _ _ _ [rv r5] H2 _
  refine wp_astore (ls' := [(4, rv r5), (0, rv (some a0)), (1, .int x1), (2, .int x2), (3, .int x3)]) dX11_ratio_8 (by decide) rfl ?_
  refine wp_aload_n 1 dX11_ratio_10 rfl ?_
  obtain ⟨ht6, h⟩ := h
  refine wp_getC (ci := 11) (j := 1) dX11_ratio_11 fi_X11_21r rfl rfl ht6 ?_
  change WP _ _ _ _ _ _ (rv (hC H2 1201 a0) :: _) _ _
  refine wp_iload_n 3 dX11_ratio_14 rfl ?_
  obtain ⟨a8, ha8, h⟩ := h
  obtain ⟨ht9, h⟩ := h
  refine wp_callV (ci := 10) (As := [.int x2]) (rest := []) (mc := 0) (ms := 0) dX11_ratio_15 lk_X11_129 rfl rfl (by decide) ha8 rfl rfl ht9 rfl rfl rfl w_3_201 (Call.weaken h ?_)
  rintro H7 _ ⟨r10, rfl, h⟩
  change WP _ _ _ _ _ _ [rv r10] H7 _
  refine wp_astore (ls' := [(5, rv r10), (4, rv r5), (0, rv (some a0)), (1, .int x1), (2, .int x2), (3, .int x3)]) dX11_ratio_18 (by decide) (by change st1 _ 5 _ = _; simp [st1, rv_cat, vc_int, vc_long, vc_float, vc_double]) ?_
  refine wp_aload 1 dX11_ratio_20 rfl ?_
  refine wp_ifnull (tgt := 56) dX11_ratio_22 rfl (fun c => ?_) (fun a11 ha11 => ?_)
  · replace h := h.1 c
    refine wp_ldc2 dX11_ratio_56 w_3_210 ?_
    exact wp_lreturn dX11_ratio_59 rfl ⟨_, rfl, h⟩
  · replace h := h.2 a11 ha11
    refine wp_aload 0 dX11_ratio_25 rfl ?_
    refine wp_ifnull (tgt := 56) dX11_ratio_27 rfl (fun c => ?_) (fun a12 ha12 => ?_)
    · replace h := h.1 c
      refine wp_ldc2 dX11_ratio_56 w_3_210 ?_
      exact wp_lreturn dX11_ratio_59 rfl ⟨_, rfl, h⟩
    · replace h := h.2 a12 ha12
      refine wp_aload 1 dX11_ratio_30 rfl ?_
      refine wp_aload 0 dX11_ratio_32 rfl ?_
      obtain ⟨ht14, h⟩ := h
      refine wp_callV (ci := 9) (As := [rv r10]) (rest := []) (mc := 0) (ms := 0) dX11_ratio_34 lk_X11_153 rfl rfl (by decide) ha11 rfl rfl ht14 rfl rfl rfl w_3_219 (Call.weaken h ?_)
      rintro H13 _ ⟨b15, rfl, h⟩
      change WP _ _ _ _ _ _ [.int (bI b15)] H13 _
      refine wp_if_eq (tgt := 56) dX11_ratio_37 rfl (fun c => ?_) (fun c => ?_)
      · replace h := h.1 (bI_0.mp c)
        refine wp_ldc2 dX11_ratio_56 w_3_210 ?_
        exact wp_lreturn dX11_ratio_59 rfl ⟨_, rfl, h⟩
      · replace h := h.2 (bI_1.mp c)
        refine wp_aload 1 dX11_ratio_40 rfl ?_
        obtain ⟨ht17, h⟩ := h
        refine wp_callV (ci := 9) (As := []) (rest := []) (mc := 0) (ms := 0) dX11_ratio_42 lk_X11_157 rfl rfl (by decide) ha11 rfl rfl ht17 rfl rfl rfl w_3_226 (Call.weaken h ?_)
        rintro H16 _ ⟨b18, rfl, h⟩
        change WP _ _ _ _ _ _ [.int (bI b18)] H16 _
        refine wp_if_ne (tgt := 56) dX11_ratio_45 rfl (fun c => ?_) (fun c => ?_)
        · replace h := h.1 (bI_1.mp c)
          refine wp_ldc2 dX11_ratio_56 w_3_210 ?_
          exact wp_lreturn dX11_ratio_59 rfl ⟨_, rfl, h⟩
        · replace h := h.2 (bI_0.mp c)
          refine wp_aload 0 dX11_ratio_48 rfl ?_
          obtain ⟨ht20, h⟩ := h
          refine wp_callV (ci := 9) (As := []) (rest := []) (mc := 0) (ms := 0) dX11_ratio_50 lk_X11_157 rfl rfl (by decide) ha12 rfl rfl ht20 rfl rfl rfl w_3_226 (Call.weaken h ?_)
          rintro H19 _ ⟨b21, rfl, h⟩
          change WP _ _ _ _ _ _ [.int (bI b21)] H19 _
          refine wp_if_eq (tgt := 60) dX11_ratio_53 rfl (fun c => ?_) (fun c => ?_)
          · replace h := h.1 (bI_0.mp c)
            refine wp_aload_n 2 dX11_ratio_60 rfl ?_
            obtain ⟨ht22, h⟩ := h
            refine wp_getC (ci := 11) (j := 13) dX11_ratio_61 fi_X11_77r rfl rfl ht22 ?_
            change WP _ _ _ _ _ _ (rv (hC H19 1213 a0) :: _) _ _
            refine wp_aload 0 dX11_ratio_64 rfl ?_
            obtain ⟨ht23, h⟩ := h
            refine wp_getC (ci := 9) (j := 3) dX11_ratio_66 fi_X11_143 rfl ha12 ht23 ?_
            change WP _ _ _ _ _ _ (rv (hC H19 1003 a12) :: _) _ _
            obtain ⟨a25, ha25, h⟩ := h
            obtain ⟨ht26, h⟩ := h
            refine wp_callV (ci := 3) (As := [rv (hC H19 1003 a12)]) (rest := []) (mc := 0) (ms := 0) dX11_ratio_69 lk_X11_161 rfl rfl (by decide) ha25 rfl rfl ht26 rfl rfl rfl w_3_227 (Call.weaken h ?_)
            rintro H24 _ ⟨rfl, h⟩
            change WP _ _ _ _ _ _ [] H24 _
            refine wp_aload_n 2 dX11_ratio_72 rfl ?_
            obtain ⟨ht27, h⟩ := h
            refine wp_getC (ci := 11) (j := 13) dX11_ratio_73 fi_X11_77r rfl rfl ht27 ?_
            change WP _ _ _ _ _ _ (rv (hC H24 1213 a0) :: _) _ _
            refine wp_aload 1 dX11_ratio_76 rfl ?_
            obtain ⟨ht28, h⟩ := h
            refine wp_getC (ci := 9) (j := 3) dX11_ratio_78 fi_X11_143 rfl ha11 ht28 ?_
            change WP _ _ _ _ _ _ (rv (hC H24 1003 a11) :: _) _ _
            obtain ⟨a30, ha30, h⟩ := h
            obtain ⟨ht31, h⟩ := h
            refine wp_callV (ci := 3) (As := [rv (hC H24 1003 a11)]) (rest := []) (mc := 0) (ms := 0) dX11_ratio_81 lk_X11_165 rfl rfl (by decide) ha30 rfl rfl ht31 rfl rfl rfl w_3_228 (Call.weaken h ?_)
            rintro H29 _ ⟨b32, rfl, h⟩
            change WP _ _ _ _ _ _ [.int (bI b32)] H29 _
            refine wp_if_eq (tgt := 98) dX11_ratio_84 rfl (fun c => ?_) (fun c => ?_)
            · replace h := h.1 (bI_0.mp c)
              refine wp_ldc2 dX11_ratio_98 w_3_210 ?_
              exact wp_lreturn dX11_ratio_101 rfl ⟨_, rfl, h⟩
            · replace h := h.2 (bI_1.mp c)
              refine wp_aload_n 2 dX11_ratio_87 rfl ?_
              obtain ⟨ht33, h⟩ := h
              refine wp_getC (ci := 11) (j := 13) dX11_ratio_88 fi_X11_77r rfl rfl ht33 ?_
              change WP _ _ _ _ _ _ (rv (hC H29 1213 a0) :: _) _ _
              refine wp_iload_n 5 dX11_ratio_91 rfl ?_
              obtain ⟨a35, ha35, h⟩ := h
              obtain ⟨ht36, h⟩ := h
              refine wp_callV (ci := 3) (As := [.int x3]) (rest := []) (mc := 0) (ms := 0) dX11_ratio_92 lk_X11_146 rfl rfl (by decide) ha35 rfl rfl ht36 rfl rfl rfl w_3_211 (Call.weaken h ?_)
              rintro H34 _ ⟨r37, rfl, h⟩
              change WP _ _ _ _ _ _ [.long r37] H34 _
              refine wp_goto (tgt := 101) dX11_ratio_95 rfl ?_
              exact wp_lreturn dX11_ratio_101 rfl ⟨_, rfl, h⟩
          · replace h := h.2 (bI_1.mp c)
            refine wp_ldc2 dX11_ratio_56 w_3_210 ?_
            exact wp_lreturn dX11_ratio_59 rfl ⟨_, rfl, h⟩
theorem C_X11_ratio {d : Nat} {q : HP → Int64 → Prop} {a0 : Nat} {x1 : Int32} {x2 : Int32} {x3 : Int32} {H : HP} (h : wb_X11_ratio_0 d q a0 x1 x2 x3 H) : CJ (d + 1) 0 0 mX11_ratio [rv (some a0), .int x1, .int x2, .int x3] H q := by
  refine call_of (by decide +kernel) (by simp [lg_sl, rv_cat, vc_int, vc_long, vc_float, vc_double]) ?_
  have e : lv_args 0 [rv (some a0), .int x1, .int x2, .int x3] = [(0, rv (some a0)), (1, .int x1), (2, .int x2), (3, .int x3)] := by simp [lv_args, rv_cat, vc_int, vc_long, vc_float, vc_double]
  rw [e]
  exact T_X11_ratio_0 h
def wb_X11_resultSide_0 (d : Nat) (q : HP → Option Nat → Prop) (a0 : Nat) (x1 : Int32) (H : HP) : Prop :=
  tg H a0 = 12 ∧ (((hI H 1209 a0 0) = 0 → q H none) ∧ (¬ ((hI H 1209 a0 0) = 0) → ∃ a3, (hR H 1207 a0 0) = some a3 ∧ (tg H a3 = 5 ∧ (CR d 0 0 mX4_side [rv (hR H 1207 a0 0), .int x1] H (fun H2 r5 => q H2 r5)))))
set_option maxRecDepth 40000 in
set_option maxHeartbeats 4000000 in
theorem T_X11_resultSide_0 {d : Nat} {q : HP → Option Nat → Prop} {a0 : Nat} {x1 : Int32} {H : HP} (h : wb_X11_resultSide_0 d q a0 x1 H) : WP (d + 1) mX11_resultSide 0 0 0 [(0, rv (some a0)), (1, .int x1)] [] H (qR q) := by
  unfold wb_X11_resultSide_0 at h
  refine wp_aload_n 0 dX11_resultSide_0 rfl ?_
  obtain ⟨ht1, h⟩ := h
  refine wp_getI (ci := 11) (j := 9) dX11_resultSide_1 fi_X11_188r rfl rfl ht1 ?_
  change WP _ _ _ _ _ _ (.int (hI H 1209 a0 0) :: _) _ _
  refine wp_if_eq (tgt := 18) dX11_resultSide_4 rfl (fun c => ?_) (fun c => ?_)
  · replace h := h.1 c
    refine wp_null dX11_resultSide_18 ?_
    exact wp_areturn dX11_resultSide_19 rfl ⟨_, rfl, h⟩
  · replace h := h.2 c
    refine wp_aload_n 0 dX11_resultSide_7 rfl ?_
    refine wp_getR (ci := 11) (j := 7) dX11_resultSide_8 fi_X11_48r rfl rfl ht1 ?_
    change WP _ _ _ _ _ _ (rv (hR H 1207 a0 0) :: _) _ _
    refine wp_iload_n 1 dX11_resultSide_11 rfl ?_
    obtain ⟨a3, ha3, h⟩ := h
    obtain ⟨ht4, h⟩ := h
    refine wp_callV (ci := 4) (As := [.int x1]) (rest := []) (mc := 0) (ms := 0) dX11_resultSide_12 lk_X11_409 rfl rfl (by decide) ha3 rfl rfl ht4 rfl rfl rfl w_4_178 (Call.weaken h ?_)
    rintro H2 _ ⟨r5, rfl, h⟩
    change WP _ _ _ _ _ _ [rv r5] H2 _
    refine wp_goto (tgt := 19) dX11_resultSide_15 rfl ?_
    exact wp_areturn dX11_resultSide_19 rfl ⟨_, rfl, h⟩
theorem C_X11_resultSide {d : Nat} {q : HP → Option Nat → Prop} {a0 : Nat} {x1 : Int32} {H : HP} (h : wb_X11_resultSide_0 d q a0 x1 H) : CR (d + 1) 0 0 mX11_resultSide [rv (some a0), .int x1] H q := by
  refine call_of (by decide +kernel) (by simp [lg_sl, rv_cat, vc_int, vc_long, vc_float, vc_double]) ?_
  have e : lv_args 0 [rv (some a0), .int x1] = [(0, rv (some a0)), (1, .int x1)] := by simp [lv_args, rv_cat, vc_int, vc_long, vc_float, vc_double]
  rw [e]
  exact T_X11_resultSide_0 h
def wb_X11_rings_0 (d : Nat) (q : HP → Int32 → Prop) (a0 : Nat) (x1 : Int32) (H : HP) : Prop :=
  ((x1.toInt < 0 ∨ 3 < x1.toInt) → q H (-1 : Int32)) ∧ (x1 = 0 → tg H a0 = 12 ∧ (∃ a3, (hC H 1202 a0) = some a3 ∧ (tg H a3 = 1 ∧ (CZ d 0 0 mX0_isOver [rv (hC H 1202 a0)] H (fun H2 b5 => (b5 = false → tg H2 a0 = 12 ∧ (∃ a8, (hC H2 1202 a0) = some a8 ∧ (tg H2 a8 = 1 ∧ (CI d 0 0 mX0_against [rv (hC H2 1202 a0)] H2 (fun H7 r10 => q H7 r10))))) ∧ (b5 = true → q H2 (-15 : Int32))))))) ∧ (x1 = 1 → tg H a0 = 12 ∧ (∃ a13, (hC H 1202 a0) = some a13 ∧ (tg H a13 = 1 ∧ (CZ d 0 0 mX0_isOver [rv (hC H 1202 a0)] H (fun H12 b15 => (b15 = false → tg H12 a0 = 12 ∧ (∃ a17, (hC H12 1202 a0) = some a17 ∧ (tg H12 a17 = 1 ∧ (CI d 0 0 mX0_joining [rv (hC H12 1202 a0)] H12 (fun H19 r20 => tg H19 a0 = 12 ∧ (∃ a23, (hC H19 1202 a0) = some a23 ∧ (tg H19 a23 = 1 ∧ (CI d 0 0 mX0_against [rv (hC H19 1202 a0)] H19 (fun H22 r25 => q H22 (((hI H12 104 a17 0) - r20) - r25)))))))))) ∧ (b15 = true → q H12 (-15 : Int32))))))) ∧ (x1 = 2 → tg H a0 = 12 ∧ (CI d 0 0 mX11_trueClaims [rv (some a0)] H (fun H26 r28 => q H26 r28))) ∧ (x1 = 3 → tg H a0 = 12 ∧ (∃ a30, (hC H 1201 a0) = some a30 ∧ (tg H a30 = 11 ∧ (∃ a33, (hC H 1202 a0) = some a33 ∧ (tg H a33 = 1 ∧ (CI d 0 0 mX0_joining [rv (hC H 1202 a0)] H (fun H32 r35 => q H32 ((hI H 1101 a30 0) - r35))))))))
set_option maxRecDepth 40000 in
set_option maxHeartbeats 4000000 in
theorem T_X11_rings_0 {d : Nat} {q : HP → Int32 → Prop} {a0 : Nat} {x1 : Int32} {H : HP} (h : wb_X11_rings_0 d q a0 x1 H) : WP (d + 1) mX11_rings 0 0 0 [(0, rv (some a0)), (1, .int x1)] [] H (qI q) := by
  unfold wb_X11_rings_0 at h
  refine wp_iload_n 1 dX11_rings_0 rfl ?_
  by_cases c : x1.toInt < 0 ∨ 3 < x1.toInt
  · replace h := h.1 c
    refine wp_tableOut (tgt := 115) dX11_rings_1 c rfl ?_
    refine wp_iconst (v := (-1 : Int32)) dX11_rings_115 (by decide) ?_
    exact wp_ireturn (ty := .int) dX11_rings_116 rfl rfl ⟨_, rfl, h⟩
  · replace h := h.2
    have e : x1.toInt = 0 ∨ x1.toInt = 1 ∨ x1.toInt = 2 ∨ x1.toInt = 3 := by omega
    rcases e with e | e | e | e
    · replace h := h.1 (Int32.toInt_inj.mp e)
      refine wp_tableIn (tgt := 32) dX11_rings_1 (by omega) (by omega) (by rw [e]; rfl) rfl ?_
      refine wp_aload_n 0 dX11_rings_32 rfl ?_
      obtain ⟨ht1, h⟩ := h
      refine wp_getC (ci := 11) (j := 2) dX11_rings_33 fi_X11_28r rfl rfl ht1 ?_
      change WP _ _ _ _ _ _ (rv (hC H 1202 a0) :: _) _ _
      obtain ⟨a3, ha3, h⟩ := h
      obtain ⟨ht4, h⟩ := h
      refine wp_callV (ci := 0) (As := []) (rest := []) (mc := 0) (ms := 0) dX11_rings_36 lk_X11_296 rfl rfl (by decide) ha3 rfl rfl ht4 rfl rfl rfl w_5_25 (Call.weaken h ?_)
      rintro H2 _ ⟨b5, rfl, h⟩
      change WP _ _ _ _ _ _ [.int (bI b5)] H2 _
      refine wp_if_eq (tgt := 47) dX11_rings_39 rfl (fun c => ?_) (fun c => ?_)
      · replace h := h.1 (bI_0.mp c)
        refine wp_aload_n 0 dX11_rings_47 rfl ?_
        obtain ⟨ht6, h⟩ := h
        refine wp_getC (ci := 11) (j := 2) dX11_rings_48 fi_X11_28r rfl rfl ht6 ?_
        change WP _ _ _ _ _ _ (rv (hC H2 1202 a0) :: _) _ _
        obtain ⟨a8, ha8, h⟩ := h
        obtain ⟨ht9, h⟩ := h
        refine wp_callV (ci := 0) (As := []) (rest := []) (mc := 0) (ms := 0) dX11_rings_51 lk_X11_299 rfl rfl (by decide) ha8 rfl rfl ht9 rfl rfl rfl w_5_29 (Call.weaken h ?_)
        rintro H7 _ ⟨r10, rfl, h⟩
        change WP _ _ _ _ _ _ [.int r10] H7 _
        exact wp_ireturn (ty := .int) dX11_rings_54 rfl rfl ⟨_, rfl, h⟩
      · replace h := h.2 (bI_1.mp c)
        refine wp_bipush (v := (-15 : Int32)) dX11_rings_42 (by decide) ?_
        refine wp_goto (tgt := 54) dX11_rings_44 rfl ?_
        exact wp_ireturn (ty := .int) dX11_rings_54 rfl rfl ⟨_, rfl, h⟩
    · replace h := h.2.1 (Int32.toInt_inj.mp e)
      refine wp_tableIn (tgt := 55) dX11_rings_1 (by omega) (by omega) (by rw [e]; rfl) rfl ?_
      refine wp_aload_n 0 dX11_rings_55 rfl ?_
      obtain ⟨ht11, h⟩ := h
      refine wp_getC (ci := 11) (j := 2) dX11_rings_56 fi_X11_28r rfl rfl ht11 ?_
      change WP _ _ _ _ _ _ (rv (hC H 1202 a0) :: _) _ _
      obtain ⟨a13, ha13, h⟩ := h
      obtain ⟨ht14, h⟩ := h
      refine wp_callV (ci := 0) (As := []) (rest := []) (mc := 0) (ms := 0) dX11_rings_59 lk_X11_296 rfl rfl (by decide) ha13 rfl rfl ht14 rfl rfl rfl w_5_25 (Call.weaken h ?_)
      rintro H12 _ ⟨b15, rfl, h⟩
      change WP _ _ _ _ _ _ [.int (bI b15)] H12 _
      refine wp_if_eq (tgt := 70) dX11_rings_62 rfl (fun c => ?_) (fun c => ?_)
      · replace h := h.1 (bI_0.mp c)
        refine wp_aload_n 0 dX11_rings_70 rfl ?_
        obtain ⟨ht16, h⟩ := h
        refine wp_getC (ci := 11) (j := 2) dX11_rings_71 fi_X11_28r rfl rfl ht16 ?_
        change WP _ _ _ _ _ _ (rv (hC H12 1202 a0) :: _) _ _
        obtain ⟨a17, ha17, h⟩ := h
        obtain ⟨ht18, h⟩ := h
        refine wp_getI (ci := 0) (j := 4) dX11_rings_74 fi_X11_273r rfl ha17 ht18 ?_
        change WP _ _ _ _ _ _ (.int (hI H12 104 a17 0) :: _) _ _
        refine wp_aload_n 0 dX11_rings_77 rfl ?_
        refine wp_getC (ci := 11) (j := 2) dX11_rings_78 fi_X11_28r rfl rfl ht16 ?_
        change WP _ _ _ _ _ _ (rv (hC H12 1202 a0) :: _) _ _
        refine wp_callV (ci := 0) (As := []) (rest := [.int (hI H12 104 a17 0)]) (mc := 0) (ms := 0) dX11_rings_81 lk_X11_302 rfl rfl (by simp [rv_cat, vc_int, vc_long, vc_float, vc_double]) ha17 rfl rfl ht18 rfl rfl rfl w_5_33 (Call.weaken h ?_)
        rintro H19 _ ⟨r20, rfl, h⟩
        change WP _ _ _ _ _ _ [.int r20, .int (hI H12 104 a17 0)] H19 _
        refine wp_isub dX11_rings_84 ?_
        refine wp_aload_n 0 dX11_rings_85 rfl ?_
        obtain ⟨ht21, h⟩ := h
        refine wp_getC (ci := 11) (j := 2) dX11_rings_86 fi_X11_28r rfl rfl ht21 ?_
        change WP _ _ _ _ _ _ (rv (hC H19 1202 a0) :: _) _ _
        obtain ⟨a23, ha23, h⟩ := h
        obtain ⟨ht24, h⟩ := h
        refine wp_callV (ci := 0) (As := []) (rest := [.int ((hI H12 104 a17 0) - r20)]) (mc := 0) (ms := 0) dX11_rings_89 lk_X11_299 rfl rfl (by simp [rv_cat, vc_int, vc_long, vc_float, vc_double]) ha23 rfl rfl ht24 rfl rfl rfl w_5_29 (Call.weaken h ?_)
        rintro H22 _ ⟨r25, rfl, h⟩
        change WP _ _ _ _ _ _ [.int r25, .int ((hI H12 104 a17 0) - r20)] H22 _
        refine wp_isub dX11_rings_92 ?_
        exact wp_ireturn (ty := .int) dX11_rings_93 rfl rfl ⟨_, rfl, h⟩
      · replace h := h.2 (bI_1.mp c)
        refine wp_bipush (v := (-15 : Int32)) dX11_rings_65 (by decide) ?_
        refine wp_goto (tgt := 93) dX11_rings_67 rfl ?_
        exact wp_ireturn (ty := .int) dX11_rings_93 rfl rfl ⟨_, rfl, h⟩
    · replace h := h.2.2.1 (Int32.toInt_inj.mp e)
      refine wp_tableIn (tgt := 94) dX11_rings_1 (by omega) (by omega) (by rw [e]; rfl) rfl ?_
      refine wp_aload_n 0 dX11_rings_94 rfl ?_
      obtain ⟨ht27, h⟩ := h
      refine wp_callV (ci := 11) (As := []) (rest := []) (mc := 0) (ms := 0) dX11_rings_95 lk_X11_305 rfl rfl (by decide) rfl rfl rfl ht27 rfl rfl rfl w_5_37 (Call.weaken h ?_)
      rintro H26 _ ⟨r28, rfl, h⟩
      change WP _ _ _ _ _ _ [.int r28] H26 _
      exact wp_ireturn (ty := .int) dX11_rings_98 rfl rfl ⟨_, rfl, h⟩
    · replace h := h.2.2.2 (Int32.toInt_inj.mp e)
      refine wp_tableIn (tgt := 99) dX11_rings_1 (by omega) (by omega) (by rw [e]; rfl) rfl ?_
      refine wp_aload_n 0 dX11_rings_99 rfl ?_
      obtain ⟨ht29, h⟩ := h
      refine wp_getC (ci := 11) (j := 1) dX11_rings_100 fi_X11_21r rfl rfl ht29 ?_
      change WP _ _ _ _ _ _ (rv (hC H 1201 a0) :: _) _ _
      obtain ⟨a30, ha30, h⟩ := h
      obtain ⟨ht31, h⟩ := h
      refine wp_getI (ci := 10) (j := 1) dX11_rings_103 fi_X11_119r rfl ha30 ht31 ?_
      change WP _ _ _ _ _ _ (.int (hI H 1101 a30 0) :: _) _ _
      refine wp_aload_n 0 dX11_rings_106 rfl ?_
      refine wp_getC (ci := 11) (j := 2) dX11_rings_107 fi_X11_28r rfl rfl ht29 ?_
      change WP _ _ _ _ _ _ (rv (hC H 1202 a0) :: _) _ _
      obtain ⟨a33, ha33, h⟩ := h
      obtain ⟨ht34, h⟩ := h
      refine wp_callV (ci := 0) (As := []) (rest := [.int (hI H 1101 a30 0)]) (mc := 0) (ms := 0) dX11_rings_110 lk_X11_302 rfl rfl (by simp [rv_cat, vc_int, vc_long, vc_float, vc_double]) ha33 rfl rfl ht34 rfl rfl rfl w_5_33 (Call.weaken h ?_)
      rintro H32 _ ⟨r35, rfl, h⟩
      change WP _ _ _ _ _ _ [.int r35, .int (hI H 1101 a30 0)] H32 _
      refine wp_isub dX11_rings_113 ?_
      exact wp_ireturn (ty := .int) dX11_rings_114 rfl rfl ⟨_, rfl, h⟩
theorem C_X11_rings {d : Nat} {q : HP → Int32 → Prop} {a0 : Nat} {x1 : Int32} {H : HP} (h : wb_X11_rings_0 d q a0 x1 H) : CI (d + 1) 0 0 mX11_rings [rv (some a0), .int x1] H q := by
  refine call_of (by decide +kernel) (by simp [lg_sl, rv_cat, vc_int, vc_long, vc_float, vc_double]) ?_
  have e : lv_args 0 [rv (some a0), .int x1] = [(0, rv (some a0)), (1, .int x1)] := by simp [lv_args, rv_cat, vc_int, vc_long, vc_float, vc_double]
  rw [e]
  exact T_X11_rings_0 h
def wb_X11_same_0 (d : Nat) (q : HP → Int32 → Prop) (a0 : Nat) (x1 : Int32) (x2 : Int32) (H : HP) : Prop :=
  tg H a0 = 12 ∧ ((¬ (hI H 1209 a0 0) = 0 → ∃ a3, (hR H 1207 a0 0) = some a3 ∧ (tg H a3 = 5 ∧ (CR d 0 0 mX4_heldStep [rv (hR H 1207 a0 0), .int x1] H (fun H2 r5 => tg H2 a0 = 12 ∧ (∃ a8, (hR H2 1207 a0 0) = some a8 ∧ (tg H2 a8 = 5 ∧ (CR d 0 0 mX4_heldStep [rv (hR H2 1207 a0 0), .int x2] H2 (fun H7 r10 => (r5 = none → q H7 (-1 : Int32)) ∧ (∀ a11, r5 = some a11 → (r10 = none → q H7 (-1 : Int32)) ∧ (∀ a12, r10 = some a12 → tg H7 a11 = 7 ∧ (tg H7 a12 = 7 ∧ (CZ d 0 0 mX11_equalRows [rv (hC H7 711 a11), rv (hC H7 711 a12)] H7 (fun H15 b16 => (b16 = true → tg H15 a11 = 7 ∧ (tg H15 a12 = 7 ∧ (∃ a20, (hC H15 712 a11) = some a20 ∧ (tg H15 a20 = 4 ∧ (CI d 0 0 mX3_compareWith [rv (hC H15 712 a11), rv (hC H15 712 a12)] H15 (fun H19 r22 => (¬ r22 = 0 → q H19 (1 : Int32)) ∧ (r22 = 0 → q H19 (2 : Int32)))))))) ∧ (b16 = false → q H15 (0 : Int32))))))))))))))) ∧ ((hI H 1209 a0 0) = 0 → q H (-3 : Int32)))
set_option maxRecDepth 40000 in
set_option maxHeartbeats 4000000 in
theorem T_X11_same_0 {d : Nat} {q : HP → Int32 → Prop} {a0 : Nat} {x1 : Int32} {x2 : Int32} {H : HP} (h : wb_X11_same_0 d q a0 x1 x2 H) : WP (d + 1) mX11_same 0 0 0 [(0, rv (some a0)), (1, .int x1), (2, .int x2)] [] H (qI q) := by
  unfold wb_X11_same_0 at h
  refine wp_aload_n 0 dX11_same_0 rfl ?_
  obtain ⟨ht1, h⟩ := h
  refine wp_getI (ci := 11) (j := 9) dX11_same_1 fi_X11_188r rfl rfl ht1 ?_
  change WP _ _ _ _ _ _ (.int (hI H 1209 a0 0) :: _) _ _
  refine wp_if_ne (tgt := 10) dX11_same_4 rfl (fun c => ?_) (fun c => ?_)
  · replace h := h.1 c
    refine wp_aload_n 0 dX11_same_10 rfl ?_
    refine wp_getR (ci := 11) (j := 7) dX11_same_11 fi_X11_48r rfl rfl ht1 ?_
    change WP _ _ _ _ _ _ (rv (hR H 1207 a0 0) :: _) _ _
    refine wp_iload_n 1 dX11_same_14 rfl ?_
    obtain ⟨a3, ha3, h⟩ := h
    obtain ⟨ht4, h⟩ := h
    refine wp_callV (ci := 4) (As := [.int x1]) (rest := []) (mc := 0) (ms := 0) dX11_same_15 lk_X11_211 rfl rfl (by decide) ha3 rfl rfl ht4 rfl rfl rfl w_4_148 (Call.weaken h ?_)
    rintro H2 _ ⟨r5, rfl, h⟩
    change WP _ _ _ _ _ _ [rv r5] H2 _
    refine wp_astore_n (ls' := [(3, rv r5), (0, rv (some a0)), (1, .int x1), (2, .int x2)]) dX11_same_18 (by decide) rfl ?_
    refine wp_aload_n 1 dX11_same_19 rfl ?_
    obtain ⟨ht6, h⟩ := h
    refine wp_getR (ci := 11) (j := 7) dX11_same_20 fi_X11_48r rfl rfl ht6 ?_
    change WP _ _ _ _ _ _ (rv (hR H2 1207 a0 0) :: _) _ _
    refine wp_iload_n 3 dX11_same_23 rfl ?_
    obtain ⟨a8, ha8, h⟩ := h
    obtain ⟨ht9, h⟩ := h
    refine wp_callV (ci := 4) (As := [.int x2]) (rest := []) (mc := 0) (ms := 0) dX11_same_24 lk_X11_211 rfl rfl (by decide) ha8 rfl rfl ht9 rfl rfl rfl w_4_148 (Call.weaken h ?_)
    rintro H7 _ ⟨r10, rfl, h⟩
    change WP _ _ _ _ _ _ [rv r10] H7 _
    refine wp_astore (ls' := [(4, rv r10), (3, rv r5), (0, rv (some a0)), (1, .int x1), (2, .int x2)]) dX11_same_27 (by decide) (by change st1 _ 4 _ = _; simp [st1, rv_cat, vc_int, vc_long, vc_float, vc_double]) ?_
    refine wp_aload_n 1 dX11_same_29 rfl ?_
    refine wp_ifnull (tgt := 38) dX11_same_30 rfl (fun c => ?_) (fun a11 ha11 => ?_)
    · replace h := h.1 c
      refine wp_iconst (v := (-1 : Int32)) dX11_same_38 (by decide) ?_
      exact wp_ireturn (ty := .int) dX11_same_39 rfl rfl ⟨_, rfl, h⟩
    · replace h := h.2 a11 ha11
      refine wp_aload 0 dX11_same_33 rfl ?_
      refine wp_ifnonnull (tgt := 40) dX11_same_35 rfl (fun a12 ha12 => ?_) (fun c => ?_)
      · replace h := h.2 a12 ha12
        refine wp_aload_n 1 dX11_same_40 rfl ?_
        obtain ⟨ht13, h⟩ := h
        refine wp_getC (ci := 6) (j := 11) dX11_same_41 fi_X11_231 rfl ha11 ht13 ?_
        change WP _ _ _ _ _ _ (rv (hC H7 711 a11) :: _) _ _
        refine wp_aload 0 dX11_same_44 rfl ?_
        obtain ⟨ht14, h⟩ := h
        refine wp_getC (ci := 6) (j := 11) dX11_same_46 fi_X11_231 rfl ha12 ht14 ?_
        change WP _ _ _ _ _ _ (rv (hC H7 711 a12) :: _) _ _
        refine wp_callS (As := [rv (hC H7 711 a11), rv (hC H7 711 a12)]) (rest := []) (mc := 0) (ms := 0) dX11_same_49 lk_X11_235 rfl rfl (by decide) rfl rfl rfl (Call.weaken h ?_)
        rintro H15 _ ⟨b16, rfl, h⟩
        change WP _ _ _ _ _ _ [.int (bI b16)] H15 _
        refine wp_if_ne (tgt := 57) dX11_same_52 rfl (fun c => ?_) (fun c => ?_)
        · replace h := h.1 (bI_1.mp c)
          refine wp_aload_n 1 dX11_same_57 rfl ?_
          obtain ⟨ht17, h⟩ := h
          refine wp_getC (ci := 6) (j := 12) dX11_same_58 fi_X11_220 rfl ha11 ht17 ?_
          change WP _ _ _ _ _ _ (rv (hC H15 712 a11) :: _) _ _
          refine wp_aload 0 dX11_same_61 rfl ?_
          obtain ⟨ht18, h⟩ := h
          refine wp_getC (ci := 6) (j := 12) dX11_same_63 fi_X11_220 rfl ha12 ht18 ?_
          change WP _ _ _ _ _ _ (rv (hC H15 712 a12) :: _) _ _
          obtain ⟨a20, ha20, h⟩ := h
          obtain ⟨ht21, h⟩ := h
          refine wp_callV (ci := 3) (As := [rv (hC H15 712 a12)]) (rest := []) (mc := 0) (ms := 0) dX11_same_66 lk_X11_239 rfl rfl (by decide) ha20 rfl rfl ht21 rfl rfl rfl w_4_165 (Call.weaken h ?_)
          rintro H19 _ ⟨r22, rfl, h⟩
          change WP _ _ _ _ _ _ [.int r22] H19 _
          refine wp_if_ne (tgt := 76) dX11_same_69 rfl (fun c => ?_) (fun c => ?_)
          · replace h := h.1 c
            refine wp_iconst (v := (1 : Int32)) dX11_same_76 (by decide) ?_
            exact wp_ireturn (ty := .int) dX11_same_77 rfl rfl ⟨_, rfl, h⟩
          · replace h := h.2 c
            refine wp_iconst (v := (2 : Int32)) dX11_same_72 (by decide) ?_
            refine wp_goto (tgt := 77) dX11_same_73 rfl ?_
            exact wp_ireturn (ty := .int) dX11_same_77 rfl rfl ⟨_, rfl, h⟩
        · replace h := h.2 (bI_0.mp c)
          refine wp_iconst (v := (0 : Int32)) dX11_same_55 (by decide) ?_
          exact wp_ireturn (ty := .int) dX11_same_56 rfl rfl ⟨_, rfl, h⟩
      · replace h := h.1 c
        refine wp_iconst (v := (-1 : Int32)) dX11_same_38 (by decide) ?_
        exact wp_ireturn (ty := .int) dX11_same_39 rfl rfl ⟨_, rfl, h⟩
  · replace h := h.2 c
    refine wp_bipush (v := (-3 : Int32)) dX11_same_7 (by decide) ?_
    exact wp_ireturn (ty := .int) dX11_same_9 rfl rfl ⟨_, rfl, h⟩
theorem C_X11_same {d : Nat} {q : HP → Int32 → Prop} {a0 : Nat} {x1 : Int32} {x2 : Int32} {H : HP} (h : wb_X11_same_0 d q a0 x1 x2 H) : CI (d + 1) 0 0 mX11_same [rv (some a0), .int x1, .int x2] H q := by
  refine call_of (by decide +kernel) (by simp [lg_sl, rv_cat, vc_int, vc_long, vc_float, vc_double]) ?_
  have e : lv_args 0 [rv (some a0), .int x1, .int x2] = [(0, rv (some a0)), (1, .int x1), (2, .int x2)] := by simp [lv_args, rv_cat, vc_int, vc_long, vc_float, vc_double]
  rw [e]
  exact T_X11_same_0 h
def wb_X11_scale_0 (d : Nat) (q : HP → Int64 → Prop) (a0 : Nat) (x1 : Int32) (x2 : Int32) (x3 : Int32) (H : HP) : Prop :=
  tg H a0 = 12 ∧ (∃ a3, (hC H 1201 a0) = some a3 ∧ (tg H a3 = 11 ∧ (CR d 0 0 mX10_at [rv (hC H 1201 a0), .int x1] H (fun H2 r5 => (r5 = none → q H2 (-9223372036854775808 : Int64)) ∧ (∀ a6, r5 = some a6 → (x2 < 0 → q H2 (-9223372036854775808 : Int64)) ∧ (¬ (x2 < 0) → (x2 ≤ (1 : Int32) → (¬ x2 = 0 → tg H2 a6 = 10 ∧ (∃ a9, (hC H2 1004 a6) = some a9 ∧ (tg H2 a9 = 4 ∧ (CJ d 0 0 mX3_part [rv (hC H2 1004 a6), .int x3] H2 (fun H8 r11 => q H8 r11))))) ∧ (x2 = 0 → tg H2 a6 = 10 ∧ (∃ a14, (hC H2 1003 a6) = some a14 ∧ (tg H2 a14 = 4 ∧ (CJ d 0 0 mX3_part [rv (hC H2 1003 a6), .int x3] H2 (fun H13 r16 => q H13 r16)))))) ∧ (¬ (x2 ≤ (1 : Int32)) → q H2 (-9223372036854775808 : Int64))))))))
set_option maxRecDepth 40000 in
set_option maxHeartbeats 4000000 in
theorem T_X11_scale_0 {d : Nat} {q : HP → Int64 → Prop} {a0 : Nat} {x1 : Int32} {x2 : Int32} {x3 : Int32} {H : HP} (h : wb_X11_scale_0 d q a0 x1 x2 x3 H) : WP (d + 1) mX11_scale 0 0 0 [(0, rv (some a0)), (1, .int x1), (2, .int x2), (3, .int x3)] [] H (qJ q) := by
  unfold wb_X11_scale_0 at h
  refine wp_aload_n 0 dX11_scale_0 rfl ?_
  obtain ⟨ht1, h⟩ := h
  refine wp_getC (ci := 11) (j := 1) dX11_scale_1 fi_X11_21r rfl rfl ht1 ?_
  change WP _ _ _ _ _ _ (rv (hC H 1201 a0) :: _) _ _
  refine wp_iload_n 1 dX11_scale_4 rfl ?_
  obtain ⟨a3, ha3, h⟩ := h
  obtain ⟨ht4, h⟩ := h
  refine wp_callV (ci := 10) (As := [.int x1]) (rest := []) (mc := 0) (ms := 0) dX11_scale_5 lk_X11_129 rfl rfl (by decide) ha3 rfl rfl ht4 rfl rfl rfl w_3_201 (Call.weaken h ?_)
  rintro H2 _ ⟨r5, rfl, h⟩
  change WP _ _ _ _ _ _ [rv r5] H2 _
  refine wp_astore (ls' := [(4, rv r5), (0, rv (some a0)), (1, .int x1), (2, .int x2), (3, .int x3)]) dX11_scale_8 (by decide) rfl ?_
  refine wp_aload 0 dX11_scale_10 rfl ?_
  refine wp_ifnull (tgt := 24) dX11_scale_12 rfl (fun c => ?_) (fun a6 ha6 => ?_)
  · replace h := h.1 c
    refine wp_ldc2 dX11_scale_24 w_3_210 ?_
    exact wp_lreturn dX11_scale_27 rfl ⟨_, rfl, h⟩
  · replace h := h.2 a6 ha6
    refine wp_iload_n 3 dX11_scale_15 rfl ?_
    refine wp_if_lt (tgt := 24) dX11_scale_16 rfl (fun c => ?_) (fun c => ?_)
    · replace h := h.1 c
      refine wp_ldc2 dX11_scale_24 w_3_210 ?_
      exact wp_lreturn dX11_scale_27 rfl ⟨_, rfl, h⟩
    · replace h := h.2 c
      refine wp_iload_n 3 dX11_scale_19 rfl ?_
      refine wp_iconst (v := (1 : Int32)) dX11_scale_20 (by decide) ?_
      refine wp_icmp_le (tgt := 28) dX11_scale_21 rfl (fun c => ?_) (fun c => ?_)
      · replace h := h.1 c
        refine wp_iload_n 3 dX11_scale_28 rfl ?_
        refine wp_if_ne (tgt := 44) dX11_scale_29 rfl (fun c => ?_) (fun c => ?_)
        · replace h := h.1 c
          refine wp_aload 0 dX11_scale_44 rfl ?_
          obtain ⟨ht7, h⟩ := h
          refine wp_getC (ci := 9) (j := 4) dX11_scale_46 fi_X11_150 rfl ha6 ht7 ?_
          change WP _ _ _ _ _ _ (rv (hC H2 1004 a6) :: _) _ _
          refine wp_iload_n 4 dX11_scale_49 rfl ?_
          obtain ⟨a9, ha9, h⟩ := h
          obtain ⟨ht10, h⟩ := h
          refine wp_callV (ci := 3) (As := [.int x3]) (rest := []) (mc := 0) (ms := 0) dX11_scale_50 lk_X11_146 rfl rfl (by decide) ha9 rfl rfl ht10 rfl rfl rfl w_3_211 (Call.weaken h ?_)
          rintro H8 _ ⟨r11, rfl, h⟩
          change WP _ _ _ _ _ _ [.long r11] H8 _
          exact wp_lreturn dX11_scale_53 rfl ⟨_, rfl, h⟩
        · replace h := h.2 c
          refine wp_aload 0 dX11_scale_32 rfl ?_
          obtain ⟨ht12, h⟩ := h
          refine wp_getC (ci := 9) (j := 3) dX11_scale_34 fi_X11_143 rfl ha6 ht12 ?_
          change WP _ _ _ _ _ _ (rv (hC H2 1003 a6) :: _) _ _
          refine wp_iload_n 4 dX11_scale_37 rfl ?_
          obtain ⟨a14, ha14, h⟩ := h
          obtain ⟨ht15, h⟩ := h
          refine wp_callV (ci := 3) (As := [.int x3]) (rest := []) (mc := 0) (ms := 0) dX11_scale_38 lk_X11_146 rfl rfl (by decide) ha14 rfl rfl ht15 rfl rfl rfl w_3_211 (Call.weaken h ?_)
          rintro H13 _ ⟨r16, rfl, h⟩
          change WP _ _ _ _ _ _ [.long r16] H13 _
          refine wp_goto (tgt := 53) dX11_scale_41 rfl ?_
          exact wp_lreturn dX11_scale_53 rfl ⟨_, rfl, h⟩
      · replace h := h.2 c
        refine wp_ldc2 dX11_scale_24 w_3_210 ?_
        exact wp_lreturn dX11_scale_27 rfl ⟨_, rfl, h⟩
theorem C_X11_scale {d : Nat} {q : HP → Int64 → Prop} {a0 : Nat} {x1 : Int32} {x2 : Int32} {x3 : Int32} {H : HP} (h : wb_X11_scale_0 d q a0 x1 x2 x3 H) : CJ (d + 1) 0 0 mX11_scale [rv (some a0), .int x1, .int x2, .int x3] H q := by
  refine call_of (by decide +kernel) (by simp [lg_sl, rv_cat, vc_int, vc_long, vc_float, vc_double]) ?_
  have e : lv_args 0 [rv (some a0), .int x1, .int x2, .int x3] = [(0, rv (some a0)), (1, .int x1), (2, .int x2), (3, .int x3)] := by simp [lv_args, rv_cat, vc_int, vc_long, vc_float, vc_double]
  rw [e]
  exact T_X11_scale_0 h
/-- UnitProver.shift(II)I: the loop at 27 -/
def L_X11_shift_27 (d : Nat) (q : HP → Int32 → Prop) (o3 : Option Nat) (o4 : Option Nat) (x5 : Int32) (H : HP) : Prop := WP (d + 1) mX11_shift 0 0 27 [(3, rv o3), (4, rv o4), (5, .int x5)] [] H (qI q)
def wb_X11_shift_0 (d : Nat) (q : HP → Int32 → Prop) (a0 : Nat) (x1 : Int32) (x2 : Int32) (H : HP) : Prop :=
  tg H a0 = 12 ∧ (CR d 0 0 mX11_rackAt [rv (some a0), .int x1] H (fun H1 r3 => tg H1 a0 = 12 ∧ (CR d 0 0 mX11_rackAt [rv (some a0), .int x2] H1 (fun H4 r6 => (r3 = none → q H4 (-1 : Int32)) ∧ (∀ a7, r3 = some a7 → (r6 = none → q H4 (-1 : Int32)) ∧ (∀ a8, r6 = some a8 → L_X11_shift_27 d q r3 r6 (0 : Int32) H4))))))
set_option maxRecDepth 40000 in
set_option maxHeartbeats 4000000 in
theorem T_X11_shift_0 {d : Nat} {q : HP → Int32 → Prop} {a0 : Nat} {x1 : Int32} {x2 : Int32} {H : HP} (h : wb_X11_shift_0 d q a0 x1 x2 H) : WP (d + 1) mX11_shift 0 0 0 [(0, rv (some a0)), (1, .int x1), (2, .int x2)] [] H (qI q) := by
  unfold wb_X11_shift_0 at h
  refine wp_aload_n 0 dX11_shift_0 rfl ?_
  refine wp_iload_n 1 dX11_shift_1 rfl ?_
  obtain ⟨ht2, h⟩ := h
  refine wp_callV (ci := 11) (As := [.int x1]) (rest := []) (mc := 0) (ms := 0) dX11_shift_2 lk_X11_371 rfl rfl (by decide) rfl rfl rfl ht2 rfl rfl rfl w_5_169 (Call.weaken h ?_)
  rintro H1 _ ⟨r3, rfl, h⟩
  change WP _ _ _ _ _ _ [rv r3] H1 _
  refine wp_astore_n (ls' := [(3, rv r3), (0, rv (some a0)), (1, .int x1), (2, .int x2)]) dX11_shift_5 (by decide) rfl ?_
  refine wp_aload_n 1 dX11_shift_6 rfl ?_
  refine wp_iload_n 3 dX11_shift_7 rfl ?_
  obtain ⟨ht5, h⟩ := h
  refine wp_callV (ci := 11) (As := [.int x2]) (rest := []) (mc := 0) (ms := 0) dX11_shift_8 lk_X11_371 rfl rfl (by decide) rfl rfl rfl ht5 rfl rfl rfl w_5_169 (Call.weaken h ?_)
  rintro H4 _ ⟨r6, rfl, h⟩
  change WP _ _ _ _ _ _ [rv r6] H4 _
  refine wp_astore (ls' := [(4, rv r6), (3, rv r3), (0, rv (some a0)), (1, .int x1), (2, .int x2)]) dX11_shift_11 (by decide) (by change st1 _ 4 _ = _; simp [st1, rv_cat, vc_int, vc_long, vc_float, vc_double]) ?_
  refine wp_aload_n 1 dX11_shift_13 rfl ?_
  refine wp_ifnull (tgt := 22) dX11_shift_14 rfl (fun c => ?_) (fun a7 ha7 => ?_)
  · replace h := h.1 c
    refine wp_iconst (v := (-1 : Int32)) dX11_shift_22 (by decide) ?_
    exact wp_ireturn (ty := .int) dX11_shift_23 rfl rfl ⟨_, rfl, h⟩
  · replace h := h.2 a7 ha7
    refine wp_aload 0 dX11_shift_17 rfl ?_
    refine wp_ifnonnull (tgt := 24) dX11_shift_19 rfl (fun a8 ha8 => ?_) (fun c => ?_)
    · replace h := h.2 a8 ha8
      refine wp_iconst (v := (0 : Int32)) dX11_shift_24 (by decide) ?_
      refine wp_istore (ls' := [(5, .int (0 : Int32)), (4, rv r6), (3, rv r3), (0, rv (some a0)), (1, .int x1), (2, .int x2)]) dX11_shift_25 (by decide) (by change st1 _ 5 _ = _; simp [st1, rv_cat, vc_int, vc_long, vc_float, vc_double]) ?_
      refine wp_sub (ls' := [(3, rv r3), (4, rv r6), (5, .int (0 : Int32))]) [2, 1, 0] rfl ?_
      exact h
    · replace h := h.1 c
      refine wp_iconst (v := (-1 : Int32)) dX11_shift_22 (by decide) ?_
      exact wp_ireturn (ty := .int) dX11_shift_23 rfl rfl ⟨_, rfl, h⟩
def wb_X11_shift_27 (d : Nat) (q : HP → Int32 → Prop) (o3 : Option Nat) (o4 : Option Nat) (x5 : Int32) (H : HP) : Prop :=
  ((6 : Int32) ≤ x5 → q H (6 : Int32)) ∧ (¬ ((6 : Int32) ≤ x5) → ∃ a1, o3 = some a1 ∧ (tg H a1 = 6 ∧ (∃ a3, (hC H 601 a1) = some a3 ∧ (isA H a3 0 ∧ (vp_in x5 (ln H a3) ∧ (∃ a6, (hC H 602 a1) = some a6 ∧ (isA H a6 3 ∧ (vp_in x5 (ln H a6) ∧ (∃ a10, o4 = some a10 ∧ (tg H a10 = 6 ∧ (CZ d 0 0 mX5_store [rv o4, .int x5, .int (hI H (tg H a3) a3 x5.toNatClampNeg), .long (hL H (tg H a6) a6 x5.toNatClampNeg)] H (fun H9 b12 => (b12 = true → L_X11_shift_27 d q o3 o4 (x5 + 1) H9) ∧ (b12 = false → q H9 x5)))))))))))))
set_option maxRecDepth 40000 in
set_option maxHeartbeats 4000000 in
theorem T_X11_shift_27 {d : Nat} {q : HP → Int32 → Prop} {o3 : Option Nat} {o4 : Option Nat} {x5 : Int32} {H : HP} (h : wb_X11_shift_27 d q o3 o4 x5 H) : L_X11_shift_27 d q o3 o4 x5 H := by
  unfold wb_X11_shift_27 at h
  unfold L_X11_shift_27
  refine wp_iload 2 dX11_shift_27 rfl ?_
  refine wp_bipush (v := (6 : Int32)) dX11_shift_29 (by decide) ?_
  refine wp_icmp_ge (tgt := 67) dX11_shift_31 rfl (fun c => ?_) (fun c => ?_)
  · replace h := h.1 c
    refine wp_bipush (v := (6 : Int32)) dX11_shift_67 (by decide) ?_
    exact wp_ireturn (ty := .int) dX11_shift_69 rfl rfl ⟨_, rfl, h⟩
  · replace h := h.2 c
    refine wp_aload 1 dX11_shift_34 rfl ?_
    refine wp_iload 2 dX11_shift_36 rfl ?_
    refine wp_aload_n 0 dX11_shift_38 rfl ?_
    obtain ⟨a1, ha1, h⟩ := h
    obtain ⟨ht2, h⟩ := h
    refine wp_getC (ci := 5) (j := 1) dX11_shift_39 fi_X11_381 rfl ha1 ht2 ?_
    change WP _ _ _ _ _ _ (rv (hC H 601 a1) :: _) _ _
    refine wp_iload 2 dX11_shift_42 rfl ?_
    obtain ⟨a3, ha3, h⟩ := h
    obtain ⟨hr4, h⟩ := h
    obtain ⟨hg5, h⟩ := h
    refine wp_iaload dX11_shift_44 ha3 hr4 hg5 ?_
    refine wp_aload_n 0 dX11_shift_45 rfl ?_
    refine wp_getC (ci := 5) (j := 2) dX11_shift_46 fi_X11_384 rfl ha1 ht2 ?_
    change WP _ _ _ _ _ _ (rv (hC H 602 a1) :: _) _ _
    refine wp_iload 2 dX11_shift_49 rfl ?_
    obtain ⟨a6, ha6, h⟩ := h
    obtain ⟨hr7, h⟩ := h
    obtain ⟨hg8, h⟩ := h
    refine wp_laload dX11_shift_51 ha6 hr7 hg8 ?_
    obtain ⟨a10, ha10, h⟩ := h
    obtain ⟨ht11, h⟩ := h
    refine wp_callV (ci := 5) (As := [.int x5, .int (hI H (tg H a3) a3 x5.toNatClampNeg), .long (hL H (tg H a6) a6 x5.toNatClampNeg)]) (rest := []) (mc := 0) (ms := 0) dX11_shift_52 lk_X11_378 rfl rfl (by decide) ha10 rfl rfl ht11 rfl rfl rfl w_5_176 (Call.weaken h ?_)
    rintro H9 _ ⟨b12, rfl, h⟩
    change WP _ _ _ _ _ _ [.int (bI b12)] H9 _
    refine wp_if_ne (tgt := 61) dX11_shift_55 rfl (fun c => ?_) (fun c => ?_)
    · replace h := h.1 (bI_1.mp c)
      refine wp_iinc (v := (x5 + 1)) (ls' := [(5, .int (x5 + 1)), (3, rv o3), (4, rv o4)]) 2 dX11_shift_61 rfl rfl (by decide) (by simp [st1, rv_cat, vc_int, vc_long, vc_float, vc_double]) ?_
      refine wp_goto (tgt := 27) dX11_shift_64 rfl ?_
      refine wp_sub (ls' := [(3, rv o3), (4, rv o4), (5, .int (x5 + 1))]) [1, 2, 0] rfl ?_
      exact h
    · replace h := h.2 (bI_0.mp c)
      refine wp_iload 2 dX11_shift_58 rfl ?_
      exact wp_ireturn (ty := .int) dX11_shift_60 rfl rfl ⟨_, rfl, h⟩
theorem C_X11_shift {d : Nat} {q : HP → Int32 → Prop} {a0 : Nat} {x1 : Int32} {x2 : Int32} {H : HP} (h : wb_X11_shift_0 d q a0 x1 x2 H) : CI (d + 1) 0 0 mX11_shift [rv (some a0), .int x1, .int x2] H q := by
  refine call_of (by decide +kernel) (by simp [lg_sl, rv_cat, vc_int, vc_long, vc_float, vc_double]) ?_
  have e : lv_args 0 [rv (some a0), .int x1, .int x2] = [(0, rv (some a0)), (1, .int x1), (2, .int x2)] := by simp [lv_args, rv_cat, vc_int, vc_long, vc_float, vc_double]
  rw [e]
  exact T_X11_shift_0 h
/-- UnitProver.splits(LUnitProver$Step;I)Z: the loop at 5 -/
def L_X11_splits_5 (d : Nat) (q : HP → Bool → Prop) (a0 : Nat) (o1 : Option Nat) (x2 : Int32) (o3 : Option Nat) (x4 : Int32) (H : HP) : Prop := WP (d + 1) mX11_splits 0 0 5 [(0, rv (some a0)), (1, rv o1), (2, .int x2), (3, rv o3), (4, .int x4)] [] H (qZ q)
def wb_X11_splits_0 (d : Nat) (q : HP → Bool → Prop) (a0 : Nat) (o1 : Option Nat) (x2 : Int32) (H : HP) : Prop :=
  L_X11_splits_5 d q a0 o1 x2 none (0 : Int32) H
set_option maxRecDepth 40000 in
set_option maxHeartbeats 4000000 in
theorem T_X11_splits_0 {d : Nat} {q : HP → Bool → Prop} {a0 : Nat} {o1 : Option Nat} {x2 : Int32} {H : HP} (h : wb_X11_splits_0 d q a0 o1 x2 H) : WP (d + 1) mX11_splits 0 0 0 [(0, rv (some a0)), (1, rv o1), (2, .int x2)] [] H (qZ q) := by
  unfold wb_X11_splits_0 at h
  refine wp_null dX11_splits_0 ?_
  refine wp_astore_n (ls' := [(3, rv none), (0, rv (some a0)), (1, rv o1), (2, .int x2)]) dX11_splits_1 (by decide) rfl ?_
  refine wp_iconst (v := (0 : Int32)) dX11_splits_2 (by decide) ?_
  refine wp_istore (ls' := [(4, .int (0 : Int32)), (3, rv none), (0, rv (some a0)), (1, rv o1), (2, .int x2)]) dX11_splits_3 (by decide) (by change st1 _ 4 _ = _; simp [st1, rv_cat, vc_int, vc_long, vc_float, vc_double]) ?_
  refine wp_sub (ls' := [(0, rv (some a0)), (1, rv o1), (2, .int x2), (3, rv none), (4, .int (0 : Int32))]) [2, 3, 4, 1, 0] rfl ?_
  exact h
def wb_X11_splits_5 (d : Nat) (q : HP → Bool → Prop) (a0 : Nat) (o1 : Option Nat) (x2 : Int32) (o3 : Option Nat) (x4 : Int32) (H : HP) : Prop :=
  (x2 ≤ x4 → q H true) ∧ (¬ (x2 ≤ x4) → ((3 : Int32) ≤ x4 → q H true) ∧ (¬ ((3 : Int32) ≤ x4) → tg H a0 = 12 ∧ (∃ a2, (hC H 1215 a0) = some a2 ∧ (isA H a2 6 ∧ (vp_in x4 (ln H a2) ∧ (((hR H (tg H a2) a2 x4.toNatClampNeg) = none → q H false) ∧ (∀ a5, (hR H (tg H a2) a2 x4.toNatClampNeg) = some a5 → tg H a5 = 10 ∧ (CZ d 0 0 mX9_hasOffset [rv (hR H (tg H a2) a2 x4.toNatClampNeg)] H (fun H6 b8 => (b8 = true → q H6 false) ∧ (b8 = false → tg H6 a5 = 10 ∧ (∃ a10, o1 = some a10 ∧ (tg H6 a10 = 7 ∧ (CZ d 0 0 mX11_equalRows [rv (hC H6 1002 a5), rv (hC H6 711 a10)] H6 (fun H12 b13 => (b13 = true → (o3 = none → L_X11_splits_5 d q a0 o1 x2 (hR H (tg H a2) a2 x4.toNatClampNeg) (x4 + 1) H12) ∧ (∀ a14, o3 = some a14 → tg H12 a5 = 10 ∧ (tg H12 a14 = 10 ∧ (∃ a18, (hC H12 1003 a5) = some a18 ∧ (tg H12 a18 = 4 ∧ (CI d 0 0 mX3_compareWith [rv (hC H12 1003 a5), rv (hC H12 1003 a14)] H12 (fun H17 r20 => (r20 < 0 → L_X11_splits_5 d q a0 o1 x2 (hR H (tg H a2) a2 x4.toNatClampNeg) (x4 + 1) H17) ∧ (¬ (r20 < 0) → q H17 false)))))))) ∧ (b13 = false → q H12 false)))))))))))))))
set_option maxRecDepth 40000 in
set_option maxHeartbeats 4000000 in
theorem T_X11_splits_5 {d : Nat} {q : HP → Bool → Prop} {a0 : Nat} {o1 : Option Nat} {x2 : Int32} {o3 : Option Nat} {x4 : Int32} {H : HP} (h : wb_X11_splits_5 d q a0 o1 x2 o3 x4 H) : L_X11_splits_5 d q a0 o1 x2 o3 x4 H := by
  unfold wb_X11_splits_5 at h
  unfold L_X11_splits_5
  refine wp_iload 4 dX11_splits_5 rfl ?_
  refine wp_iload_n 2 dX11_splits_7 rfl ?_
  refine wp_icmp_ge (tgt := 86) dX11_splits_8 rfl (fun c => ?_) (fun c => ?_)
  · replace h := h.1 c
    refine wp_iconst (v := (1 : Int32)) dX11_splits_86 (by decide) ?_
    exact wp_ireturn (ty := .boolean) dX11_splits_87 rfl rfl ⟨true, rfl, h⟩
  · replace h := h.2 c
    refine wp_iload 4 dX11_splits_11 rfl ?_
    refine wp_iconst (v := (3 : Int32)) dX11_splits_13 (by decide) ?_
    refine wp_icmp_ge (tgt := 86) dX11_splits_14 rfl (fun c => ?_) (fun c => ?_)
    · replace h := h.1 c
      refine wp_iconst (v := (1 : Int32)) dX11_splits_86 (by decide) ?_
      exact wp_ireturn (ty := .boolean) dX11_splits_87 rfl rfl ⟨true, rfl, h⟩
    · replace h := h.2 c
      refine wp_aload_n 0 dX11_splits_17 rfl ?_
      obtain ⟨ht1, h⟩ := h
      refine wp_getC (ci := 11) (j := 15) dX11_splits_18 fi_X11_86r rfl rfl ht1 ?_
      change WP _ _ _ _ _ _ (rv (hC H 1215 a0) :: _) _ _
      refine wp_iload 4 dX11_splits_21 rfl ?_
      obtain ⟨a2, ha2, h⟩ := h
      obtain ⟨hr3, h⟩ := h
      obtain ⟨hg4, h⟩ := h
      refine wp_aaload (e := 6) dX11_splits_23 ha2 hr3 (by decide) hg4 ?_
      refine wp_astore (ls' := [(5, rv (hR H (tg H a2) a2 x4.toNatClampNeg)), (0, rv (some a0)), (1, rv o1), (2, .int x2), (3, rv o3), (4, .int x4)]) dX11_splits_24 (by decide) rfl ?_
      refine wp_aload 0 dX11_splits_26 rfl ?_
      refine wp_ifnull (tgt := 54) dX11_splits_28 rfl (fun c => ?_) (fun a5 ha5 => ?_)
      · replace h := h.1 c
        refine wp_iconst (v := (0 : Int32)) dX11_splits_54 (by decide) ?_
        exact wp_ireturn (ty := .boolean) dX11_splits_55 rfl rfl ⟨false, rfl, h⟩
      · replace h := h.2 a5 ha5
        refine wp_aload 0 dX11_splits_31 rfl ?_
        obtain ⟨ht7, h⟩ := h
        refine wp_callV (ci := 9) (As := []) (rest := []) (mc := 0) (ms := 0) dX11_splits_33 lk_X11_157 rfl rfl (by decide) ha5 rfl rfl ht7 rfl rfl rfl w_3_226 (Call.weaken h ?_)
        rintro H6 _ ⟨b8, rfl, h⟩
        change WP _ _ _ _ _ _ [.int (bI b8)] H6 _
        refine wp_if_ne (tgt := 54) dX11_splits_36 rfl (fun c => ?_) (fun c => ?_)
        · replace h := h.1 (bI_1.mp c)
          refine wp_iconst (v := (0 : Int32)) dX11_splits_54 (by decide) ?_
          exact wp_ireturn (ty := .boolean) dX11_splits_55 rfl rfl ⟨false, rfl, h⟩
        · replace h := h.2 (bI_0.mp c)
          refine wp_aload 0 dX11_splits_39 rfl ?_
          obtain ⟨ht9, h⟩ := h
          refine wp_getC (ci := 9) (j := 2) dX11_splits_41 fi_X11_137 rfl ha5 ht9 ?_
          change WP _ _ _ _ _ _ (rv (hC H6 1002 a5) :: _) _ _
          refine wp_aload_n 2 dX11_splits_44 rfl ?_
          obtain ⟨a10, ha10, h⟩ := h
          obtain ⟨ht11, h⟩ := h
          refine wp_getC (ci := 6) (j := 11) dX11_splits_45 fi_X11_231 rfl ha10 ht11 ?_
          change WP _ _ _ _ _ _ (rv (hC H6 711 a10) :: _) _ _
          refine wp_callS (As := [rv (hC H6 1002 a5), rv (hC H6 711 a10)]) (rest := []) (mc := 0) (ms := 0) dX11_splits_48 lk_X11_235 rfl rfl (by decide) rfl rfl rfl (Call.weaken h ?_)
          rintro H12 _ ⟨b13, rfl, h⟩
          change WP _ _ _ _ _ _ [.int (bI b13)] H12 _
          refine wp_if_ne (tgt := 56) dX11_splits_51 rfl (fun c => ?_) (fun c => ?_)
          · replace h := h.1 (bI_1.mp c)
            refine wp_aload_n 4 dX11_splits_56 rfl ?_
            refine wp_ifnull (tgt := 77) dX11_splits_57 rfl (fun c => ?_) (fun a14 ha14 => ?_)
            · replace h := h.1 c
              refine wp_aload 0 dX11_splits_77 rfl ?_
              refine wp_astore_n (ls' := [(3, rv (hR H (tg H a2) a2 x4.toNatClampNeg)), (5, rv (hR H (tg H a2) a2 x4.toNatClampNeg)), (0, rv (some a0)), (1, rv o1), (2, .int x2), (4, .int x4)]) dX11_splits_79 (by decide) rfl ?_
              refine wp_iinc (v := (x4 + 1)) (ls' := [(4, .int (x4 + 1)), (3, rv (hR H (tg H a2) a2 x4.toNatClampNeg)), (5, rv (hR H (tg H a2) a2 x4.toNatClampNeg)), (0, rv (some a0)), (1, rv o1), (2, .int x2)]) 5 dX11_splits_80 rfl rfl (by decide) (by simp [st1, rv_cat, vc_int, vc_long, vc_float, vc_double]) ?_
              refine wp_goto (tgt := 5) dX11_splits_83 rfl ?_
              refine wp_sub (ls' := [(0, rv (some a0)), (1, rv o1), (2, .int x2), (3, rv (hR H (tg H a2) a2 x4.toNatClampNeg)), (4, .int (x4 + 1))]) [3, 4, 5, 1, 0] rfl ?_
              exact h
            · replace h := h.2 a14 ha14
              refine wp_aload 0 dX11_splits_60 rfl ?_
              obtain ⟨ht15, h⟩ := h
              refine wp_getC (ci := 9) (j := 3) dX11_splits_62 fi_X11_143 rfl ha5 ht15 ?_
              change WP _ _ _ _ _ _ (rv (hC H12 1003 a5) :: _) _ _
              refine wp_aload_n 4 dX11_splits_65 rfl ?_
              obtain ⟨ht16, h⟩ := h
              refine wp_getC (ci := 9) (j := 3) dX11_splits_66 fi_X11_143 rfl ha14 ht16 ?_
              change WP _ _ _ _ _ _ (rv (hC H12 1003 a14) :: _) _ _
              obtain ⟨a18, ha18, h⟩ := h
              obtain ⟨ht19, h⟩ := h
              refine wp_callV (ci := 3) (As := [rv (hC H12 1003 a14)]) (rest := []) (mc := 0) (ms := 0) dX11_splits_69 lk_X11_239 rfl rfl (by decide) ha18 rfl rfl ht19 rfl rfl rfl w_4_165 (Call.weaken h ?_)
              rintro H17 _ ⟨r20, rfl, h⟩
              change WP _ _ _ _ _ _ [.int r20] H17 _
              refine wp_if_lt (tgt := 77) dX11_splits_72 rfl (fun c => ?_) (fun c => ?_)
              · replace h := h.1 c
                refine wp_aload 0 dX11_splits_77 rfl ?_
                refine wp_astore_n (ls' := [(3, rv (hR H (tg H a2) a2 x4.toNatClampNeg)), (5, rv (hR H (tg H a2) a2 x4.toNatClampNeg)), (0, rv (some a0)), (1, rv o1), (2, .int x2), (4, .int x4)]) dX11_splits_79 (by decide) rfl ?_
                refine wp_iinc (v := (x4 + 1)) (ls' := [(4, .int (x4 + 1)), (3, rv (hR H (tg H a2) a2 x4.toNatClampNeg)), (5, rv (hR H (tg H a2) a2 x4.toNatClampNeg)), (0, rv (some a0)), (1, rv o1), (2, .int x2)]) 5 dX11_splits_80 rfl rfl (by decide) (by simp [st1, rv_cat, vc_int, vc_long, vc_float, vc_double]) ?_
                refine wp_goto (tgt := 5) dX11_splits_83 rfl ?_
                refine wp_sub (ls' := [(0, rv (some a0)), (1, rv o1), (2, .int x2), (3, rv (hR H (tg H a2) a2 x4.toNatClampNeg)), (4, .int (x4 + 1))]) [3, 4, 5, 1, 0] rfl ?_
                exact h
              · replace h := h.2 c
                refine wp_iconst (v := (0 : Int32)) dX11_splits_75 (by decide) ?_
                exact wp_ireturn (ty := .boolean) dX11_splits_76 rfl rfl ⟨false, rfl, h⟩
          · replace h := h.2 (bI_0.mp c)
            refine wp_iconst (v := (0 : Int32)) dX11_splits_54 (by decide) ?_
            exact wp_ireturn (ty := .boolean) dX11_splits_55 rfl rfl ⟨false, rfl, h⟩
theorem C_X11_splits {d : Nat} {q : HP → Bool → Prop} {a0 : Nat} {o1 : Option Nat} {x2 : Int32} {H : HP} (h : wb_X11_splits_0 d q a0 o1 x2 H) : CZ (d + 1) 0 0 mX11_splits [rv (some a0), rv o1, .int x2] H q := by
  refine call_of (by decide +kernel) (by simp [lg_sl, rv_cat, vc_int, vc_long, vc_float, vc_double]) ?_
  have e : lv_args 0 [rv (some a0), rv o1, .int x2] = [(0, rv (some a0)), (1, rv o1), (2, .int x2)] := by simp [lv_args, rv_cat, vc_int, vc_long, vc_float, vc_double]
  rw [e]
  exact T_X11_splits_0 h
def wb_X11_step_0 (d : Nat) (q : HP → Int32 → Prop) (a0 : Nat) (x1 : Int32) (x2 : Int32) (H : HP) : Prop :=
  tg H a0 = 12 ∧ ((¬ (hI H 1209 a0 0) = 0 → ∃ a3, (hR H 1207 a0 0) = some a3 ∧ (tg H a3 = 5 ∧ (CR d 0 0 mX4_heldStep [rv (hR H 1207 a0 0), .int x1] H (fun H2 r5 => (r5 = none → q H2 (-1 : Int32)) ∧ (∀ a6, r5 = some a6 → (x2 < 0 → q H2 (-1 : Int32)) ∧ (¬ (x2 < 0) → (x2 ≤ (6 : Int32) → (¬ x2 = 0 → (¬ x2 = (6 : Int32) → tg H2 a6 = 7 ∧ (∃ a8, (hC H2 711 a6) = some a8 ∧ (isA H2 a8 0 ∧ (vp_in (x2 - (1 : Int32)) (ln H2 a8) ∧ (q H2 ((hI H2 (tg H2 a8) a8 (x2 - (1 : Int32)).toNatClampNeg) + (100 : Int32))))))) ∧ (x2 = (6 : Int32) → tg H2 a6 = 7 ∧ (∃ a12, (hC H2 712 a6) = some a12 ∧ (tg H2 a12 = 4 ∧ (CI d 0 0 mJ13_compare_74951 [.long (hL H2 400 a12 0), .long (0 : Int64)] H2 (fun H14 r15 => q H14 (r15 + (1 : Int32)))))))) ∧ (x2 = 0 → tg H2 a6 = 7 ∧ (q H2 (hI H2 700 a6 0)))) ∧ (¬ (x2 ≤ (6 : Int32)) → q H2 (-1 : Int32)))))))) ∧ ((hI H 1209 a0 0) = 0 → q H (-3 : Int32)))
set_option maxRecDepth 40000 in
set_option maxHeartbeats 4000000 in
theorem T_X11_step_0 {d : Nat} {q : HP → Int32 → Prop} {a0 : Nat} {x1 : Int32} {x2 : Int32} {H : HP} (h : wb_X11_step_0 d q a0 x1 x2 H) : WP (d + 1) mX11_step 0 0 0 [(0, rv (some a0)), (1, .int x1), (2, .int x2)] [] H (qI q) := by
  unfold wb_X11_step_0 at h
  refine wp_aload_n 0 dX11_step_0 rfl ?_
  obtain ⟨ht1, h⟩ := h
  refine wp_getI (ci := 11) (j := 9) dX11_step_1 fi_X11_188r rfl rfl ht1 ?_
  change WP _ _ _ _ _ _ (.int (hI H 1209 a0 0) :: _) _ _
  refine wp_if_ne (tgt := 10) dX11_step_4 rfl (fun c => ?_) (fun c => ?_)
  · replace h := h.1 c
    refine wp_aload_n 0 dX11_step_10 rfl ?_
    refine wp_getR (ci := 11) (j := 7) dX11_step_11 fi_X11_48r rfl rfl ht1 ?_
    change WP _ _ _ _ _ _ (rv (hR H 1207 a0 0) :: _) _ _
    refine wp_iload_n 1 dX11_step_14 rfl ?_
    obtain ⟨a3, ha3, h⟩ := h
    obtain ⟨ht4, h⟩ := h
    refine wp_callV (ci := 4) (As := [.int x1]) (rest := []) (mc := 0) (ms := 0) dX11_step_15 lk_X11_211 rfl rfl (by decide) ha3 rfl rfl ht4 rfl rfl rfl w_4_148 (Call.weaken h ?_)
    rintro H2 _ ⟨r5, rfl, h⟩
    change WP _ _ _ _ _ _ [rv r5] H2 _
    refine wp_astore_n (ls' := [(3, rv r5), (0, rv (some a0)), (1, .int x1), (2, .int x2)]) dX11_step_18 (by decide) rfl ?_
    refine wp_aload_n 0 dX11_step_19 rfl ?_
    refine wp_ifnull (tgt := 33) dX11_step_20 rfl (fun c => ?_) (fun a6 ha6 => ?_)
    · replace h := h.1 c
      refine wp_iconst (v := (-1 : Int32)) dX11_step_33 (by decide) ?_
      exact wp_ireturn (ty := .int) dX11_step_34 rfl rfl ⟨_, rfl, h⟩
    · replace h := h.2 a6 ha6
      refine wp_iload_n 3 dX11_step_23 rfl ?_
      refine wp_if_lt (tgt := 33) dX11_step_24 rfl (fun c => ?_) (fun c => ?_)
      · replace h := h.1 c
        refine wp_iconst (v := (-1 : Int32)) dX11_step_33 (by decide) ?_
        exact wp_ireturn (ty := .int) dX11_step_34 rfl rfl ⟨_, rfl, h⟩
      · replace h := h.2 c
        refine wp_iload_n 3 dX11_step_27 rfl ?_
        refine wp_bipush (v := (6 : Int32)) dX11_step_28 (by decide) ?_
        refine wp_icmp_le (tgt := 35) dX11_step_30 rfl (fun c => ?_) (fun c => ?_)
        · replace h := h.1 c
          refine wp_iload_n 3 dX11_step_35 rfl ?_
          refine wp_if_ne (tgt := 44) dX11_step_36 rfl (fun c => ?_) (fun c => ?_)
          · replace h := h.1 c
            refine wp_iload_n 3 dX11_step_44 rfl ?_
            refine wp_bipush (v := (6 : Int32)) dX11_step_45 (by decide) ?_
            refine wp_icmp_ne (tgt := 66) dX11_step_47 rfl (fun c => ?_) (fun c => ?_)
            · replace h := h.1 c
              refine wp_aload_n 0 dX11_step_66 rfl ?_
              obtain ⟨ht7, h⟩ := h
              refine wp_getC (ci := 6) (j := 11) dX11_step_67 fi_X11_231 rfl ha6 ht7 ?_
              change WP _ _ _ _ _ _ (rv (hC H2 711 a6) :: _) _ _
              refine wp_iload_n 3 dX11_step_70 rfl ?_
              refine wp_iconst (v := (1 : Int32)) dX11_step_71 (by decide) ?_
              refine wp_isub dX11_step_72 ?_
              obtain ⟨a8, ha8, h⟩ := h
              obtain ⟨hr9, h⟩ := h
              obtain ⟨hg10, h⟩ := h
              refine wp_iaload dX11_step_73 ha8 hr9 hg10 ?_
              refine wp_bipush (v := (100 : Int32)) dX11_step_74 (by decide) ?_
              refine wp_iadd dX11_step_76 ?_
              exact wp_ireturn (ty := .int) dX11_step_77 rfl rfl ⟨_, rfl, h⟩
            · replace h := h.2 c
              refine wp_aload_n 0 dX11_step_50 rfl ?_
              obtain ⟨ht11, h⟩ := h
              refine wp_getC (ci := 6) (j := 12) dX11_step_51 fi_X11_220 rfl ha6 ht11 ?_
              change WP _ _ _ _ _ _ (rv (hC H2 712 a6) :: _) _ _
              obtain ⟨a12, ha12, h⟩ := h
              obtain ⟨ht13, h⟩ := h
              refine wp_getL (ci := 3) (j := 0) dX11_step_54 fi_X11_223r rfl ha12 ht13 ?_
              change WP _ _ _ _ _ _ (.long (hL H2 400 a12 0) :: _) _ _
              refine wp_lconst (v := (0 : Int64)) dX11_step_57 (by decide) ?_
              refine wp_callS (As := [.long (hL H2 400 a12 0), .long (0 : Int64)]) (rest := []) (mc := 0) (ms := 0) dX11_step_58 lk_X11_227 rfl rfl (by decide) rfl rfl rfl (Call.weaken h ?_)
              rintro H14 _ ⟨r15, rfl, h⟩
              change WP _ _ _ _ _ _ [.int r15] H14 _
              refine wp_iconst (v := (1 : Int32)) dX11_step_61 (by decide) ?_
              refine wp_iadd dX11_step_62 ?_
              refine wp_goto (tgt := 77) dX11_step_63 rfl ?_
              exact wp_ireturn (ty := .int) dX11_step_77 rfl rfl ⟨_, rfl, h⟩
          · replace h := h.2 c
            refine wp_aload_n 0 dX11_step_39 rfl ?_
            obtain ⟨ht16, h⟩ := h
            refine wp_getI (ci := 6) (j := 0) dX11_step_40 fi_X11_215r rfl ha6 ht16 ?_
            change WP _ _ _ _ _ _ (.int (hI H2 700 a6 0) :: _) _ _
            exact wp_ireturn (ty := .int) dX11_step_43 rfl rfl ⟨_, rfl, h⟩
        · replace h := h.2 c
          refine wp_iconst (v := (-1 : Int32)) dX11_step_33 (by decide) ?_
          exact wp_ireturn (ty := .int) dX11_step_34 rfl rfl ⟨_, rfl, h⟩
  · replace h := h.2 c
    refine wp_bipush (v := (-3 : Int32)) dX11_step_7 (by decide) ?_
    exact wp_ireturn (ty := .int) dX11_step_9 rfl rfl ⟨_, rfl, h⟩
theorem C_X11_step {d : Nat} {q : HP → Int32 → Prop} {a0 : Nat} {x1 : Int32} {x2 : Int32} {H : HP} (h : wb_X11_step_0 d q a0 x1 x2 H) : CI (d + 1) 0 0 mX11_step [rv (some a0), .int x1, .int x2] H q := by
  refine call_of (by decide +kernel) (by simp [lg_sl, rv_cat, vc_int, vc_long, vc_float, vc_double]) ?_
  have e : lv_args 0 [rv (some a0), .int x1, .int x2] = [(0, rv (some a0)), (1, .int x1), (2, .int x2)] := by simp [lv_args, rv_cat, vc_int, vc_long, vc_float, vc_double]
  rw [e]
  exact T_X11_step_0 h
def wb_X11_track_0 (d : Nat) (q : HP → Int32 → Prop) (a0 : Nat) (x1 : Int32) (x2 : Int32) (x3 : Int32) (H : HP) : Prop :=
  tg H a0 = 12 ∧ (CR d 0 0 mX11_trackAt [rv (some a0), .int x1] H (fun H1 r3 => (r3 = none → q H1 (-1 : Int32)) ∧ (∀ a4, r3 = some a4 → (x2 < (-1 : Int32) → q H1 (-2 : Int32)) ∧ (¬ (x2 < (-1 : Int32)) → ((1 : Int32) < x2 → q H1 (-2 : Int32)) ∧ (¬ ((1 : Int32) < x2) → (x2 < 0 → (0 ≤ x2 → tg H1 a4 = 9 ∧ (CV d 0 0 mX8_become [rv r3, .int x2, .int x3] H1 (fun H5 => q H5 (1 : Int32)))) ∧ (¬ (0 ≤ x2) → tg H1 a4 = 9 ∧ (CV d 0 0 mX8_become [rv r3, .int x2, .int (0 : Int32)] H1 (fun H7 => q H7 (1 : Int32))))) ∧ (¬ (x2 < 0) → (x3 < 0 → q H1 (-2 : Int32)) ∧ (¬ (x3 < 0) → (x3 ≤ (30 : Int32) → (0 ≤ x2 → tg H1 a4 = 9 ∧ (CV d 0 0 mX8_become [rv r3, .int x2, .int x3] H1 (fun H9 => q H9 (1 : Int32)))) ∧ (¬ (0 ≤ x2) → tg H1 a4 = 9 ∧ (CV d 0 0 mX8_become [rv r3, .int x2, .int (0 : Int32)] H1 (fun H11 => q H11 (1 : Int32))))) ∧ (¬ (x3 ≤ (30 : Int32)) → q H1 (-2 : Int32)))))))))
set_option maxRecDepth 40000 in
set_option maxHeartbeats 4000000 in
theorem T_X11_track_0 {d : Nat} {q : HP → Int32 → Prop} {a0 : Nat} {x1 : Int32} {x2 : Int32} {x3 : Int32} {H : HP} (h : wb_X11_track_0 d q a0 x1 x2 x3 H) : WP (d + 1) mX11_track 0 0 0 [(0, rv (some a0)), (1, .int x1), (2, .int x2), (3, .int x3)] [] H (qI q) := by
  unfold wb_X11_track_0 at h
  refine wp_aload_n 0 dX11_track_0 rfl ?_
  refine wp_iload_n 1 dX11_track_1 rfl ?_
  obtain ⟨ht2, h⟩ := h
  refine wp_callV (ci := 11) (As := [.int x1]) (rest := []) (mc := 0) (ms := 0) dX11_track_2 lk_X11_315 rfl rfl (by decide) rfl rfl rfl ht2 rfl rfl rfl w_5_50 (Call.weaken h ?_)
  rintro H1 _ ⟨r3, rfl, h⟩
  change WP _ _ _ _ _ _ [rv r3] H1 _
  refine wp_astore (ls' := [(4, rv r3), (0, rv (some a0)), (1, .int x1), (2, .int x2), (3, .int x3)]) dX11_track_5 (by decide) rfl ?_
  refine wp_aload 0 dX11_track_7 rfl ?_
  refine wp_ifnonnull (tgt := 14) dX11_track_9 rfl (fun a4 ha4 => ?_) (fun c => ?_)
  · replace h := h.2 a4 ha4
    refine wp_iload_n 3 dX11_track_14 rfl ?_
    refine wp_iconst (v := (-1 : Int32)) dX11_track_15 (by decide) ?_
    refine wp_icmp_lt (tgt := 38) dX11_track_16 rfl (fun c => ?_) (fun c => ?_)
    · replace h := h.1 c
      refine wp_bipush (v := (-2 : Int32)) dX11_track_38 (by decide) ?_
      exact wp_ireturn (ty := .int) dX11_track_40 rfl rfl ⟨_, rfl, h⟩
    · replace h := h.2 c
      refine wp_iload_n 3 dX11_track_19 rfl ?_
      refine wp_iconst (v := (1 : Int32)) dX11_track_20 (by decide) ?_
      refine wp_icmp_gt (tgt := 38) dX11_track_21 rfl (fun c => ?_) (fun c => ?_)
      · replace h := h.1 c
        refine wp_bipush (v := (-2 : Int32)) dX11_track_38 (by decide) ?_
        exact wp_ireturn (ty := .int) dX11_track_40 rfl rfl ⟨_, rfl, h⟩
      · replace h := h.2 c
        refine wp_iload_n 3 dX11_track_24 rfl ?_
        refine wp_if_lt (tgt := 41) dX11_track_25 rfl (fun c => ?_) (fun c => ?_)
        · replace h := h.1 c
          refine wp_aload 0 dX11_track_41 rfl ?_
          refine wp_iload_n 3 dX11_track_43 rfl ?_
          refine wp_iload_n 3 dX11_track_44 rfl ?_
          refine wp_if_ge (tgt := 52) dX11_track_45 rfl (fun c => ?_) (fun c => ?_)
          · replace h := h.1 c
            refine wp_iload_n 4 dX11_track_52 rfl ?_
            obtain ⟨ht6, h⟩ := h
            refine wp_callV (ci := 8) (As := [.int x2, .int x3]) (rest := []) (mc := 0) (ms := 0) dX11_track_53 lk_X11_319 rfl rfl (by decide) ha4 rfl rfl ht6 rfl rfl rfl w_5_54 (Call.weaken h ?_)
            rintro H5 _ ⟨rfl, h⟩
            change WP _ _ _ _ _ _ [] H5 _
            refine wp_iconst (v := (1 : Int32)) dX11_track_56 (by decide) ?_
            exact wp_ireturn (ty := .int) dX11_track_57 rfl rfl ⟨_, rfl, h⟩
          · replace h := h.2 c
            refine wp_iconst (v := (0 : Int32)) dX11_track_48 (by decide) ?_
            refine wp_goto (tgt := 53) dX11_track_49 rfl ?_
            obtain ⟨ht8, h⟩ := h
            refine wp_callV (ci := 8) (As := [.int x2, .int (0 : Int32)]) (rest := []) (mc := 0) (ms := 0) dX11_track_53 lk_X11_319 rfl rfl (by decide) ha4 rfl rfl ht8 rfl rfl rfl w_5_54 (Call.weaken h ?_)
            rintro H7 _ ⟨rfl, h⟩
            change WP _ _ _ _ _ _ [] H7 _
            refine wp_iconst (v := (1 : Int32)) dX11_track_56 (by decide) ?_
            exact wp_ireturn (ty := .int) dX11_track_57 rfl rfl ⟨_, rfl, h⟩
        · replace h := h.2 c
          refine wp_iload_n 4 dX11_track_28 rfl ?_
          refine wp_if_lt (tgt := 38) dX11_track_29 rfl (fun c => ?_) (fun c => ?_)
          · replace h := h.1 c
            refine wp_bipush (v := (-2 : Int32)) dX11_track_38 (by decide) ?_
            exact wp_ireturn (ty := .int) dX11_track_40 rfl rfl ⟨_, rfl, h⟩
          · replace h := h.2 c
            refine wp_iload_n 4 dX11_track_32 rfl ?_
            refine wp_bipush (v := (30 : Int32)) dX11_track_33 (by decide) ?_
            refine wp_icmp_le (tgt := 41) dX11_track_35 rfl (fun c => ?_) (fun c => ?_)
            · replace h := h.1 c
              refine wp_aload 0 dX11_track_41 rfl ?_
              refine wp_iload_n 3 dX11_track_43 rfl ?_
              refine wp_iload_n 3 dX11_track_44 rfl ?_
              refine wp_if_ge (tgt := 52) dX11_track_45 rfl (fun c => ?_) (fun c => ?_)
              · replace h := h.1 c
                refine wp_iload_n 4 dX11_track_52 rfl ?_
                obtain ⟨ht10, h⟩ := h
                refine wp_callV (ci := 8) (As := [.int x2, .int x3]) (rest := []) (mc := 0) (ms := 0) dX11_track_53 lk_X11_319 rfl rfl (by decide) ha4 rfl rfl ht10 rfl rfl rfl w_5_54 (Call.weaken h ?_)
                rintro H9 _ ⟨rfl, h⟩
                change WP _ _ _ _ _ _ [] H9 _
                refine wp_iconst (v := (1 : Int32)) dX11_track_56 (by decide) ?_
                exact wp_ireturn (ty := .int) dX11_track_57 rfl rfl ⟨_, rfl, h⟩
              · replace h := h.2 c
                refine wp_iconst (v := (0 : Int32)) dX11_track_48 (by decide) ?_
                refine wp_goto (tgt := 53) dX11_track_49 rfl ?_
                obtain ⟨ht12, h⟩ := h
                refine wp_callV (ci := 8) (As := [.int x2, .int (0 : Int32)]) (rest := []) (mc := 0) (ms := 0) dX11_track_53 lk_X11_319 rfl rfl (by decide) ha4 rfl rfl ht12 rfl rfl rfl w_5_54 (Call.weaken h ?_)
                rintro H11 _ ⟨rfl, h⟩
                change WP _ _ _ _ _ _ [] H11 _
                refine wp_iconst (v := (1 : Int32)) dX11_track_56 (by decide) ?_
                exact wp_ireturn (ty := .int) dX11_track_57 rfl rfl ⟨_, rfl, h⟩
            · replace h := h.2 c
              refine wp_bipush (v := (-2 : Int32)) dX11_track_38 (by decide) ?_
              exact wp_ireturn (ty := .int) dX11_track_40 rfl rfl ⟨_, rfl, h⟩
  · replace h := h.1 c
    refine wp_iconst (v := (-1 : Int32)) dX11_track_12 (by decide) ?_
    exact wp_ireturn (ty := .int) dX11_track_13 rfl rfl ⟨_, rfl, h⟩
theorem C_X11_track {d : Nat} {q : HP → Int32 → Prop} {a0 : Nat} {x1 : Int32} {x2 : Int32} {x3 : Int32} {H : HP} (h : wb_X11_track_0 d q a0 x1 x2 x3 H) : CI (d + 1) 0 0 mX11_track [rv (some a0), .int x1, .int x2, .int x3] H q := by
  refine call_of (by decide +kernel) (by simp [lg_sl, rv_cat, vc_int, vc_long, vc_float, vc_double]) ?_
  have e : lv_args 0 [rv (some a0), .int x1, .int x2, .int x3] = [(0, rv (some a0)), (1, .int x1), (2, .int x2), (3, .int x3)] := by simp [lv_args, rv_cat, vc_int, vc_long, vc_float, vc_double]
  rw [e]
  exact T_X11_track_0 h
def wb_X11_trackAt_0 (d : Nat) (q : HP → Option Nat → Prop) (a0 : Nat) (x1 : Int32) (H : HP) : Prop :=
  (x1 < 0 → q H none) ∧ (¬ (x1 < 0) → (x1 < (4 : Int32) → tg H a0 = 12 ∧ (∃ a2, (hC H 1210 a0) = some a2 ∧ (isA H a2 8 ∧ (vp_in x1 (ln H a2) ∧ (q H (hR H (tg H a2) a2 x1.toNatClampNeg)))))) ∧ (¬ (x1 < (4 : Int32)) → q H none))
set_option maxRecDepth 40000 in
set_option maxHeartbeats 4000000 in
theorem T_X11_trackAt_0 {d : Nat} {q : HP → Option Nat → Prop} {a0 : Nat} {x1 : Int32} {H : HP} (h : wb_X11_trackAt_0 d q a0 x1 H) : WP (d + 1) mX11_trackAt 0 0 0 [(0, rv (some a0)), (1, .int x1)] [] H (qR q) := by
  unfold wb_X11_trackAt_0 at h
  refine wp_iload_n 1 dX11_trackAt_0 rfl ?_
  refine wp_if_lt (tgt := 9) dX11_trackAt_1 rfl (fun c => ?_) (fun c => ?_)
  · replace h := h.1 c
    refine wp_null dX11_trackAt_9 ?_
    refine wp_goto (tgt := 19) dX11_trackAt_10 rfl ?_
    exact wp_areturn dX11_trackAt_19 rfl ⟨_, rfl, h⟩
  · replace h := h.2 c
    refine wp_iload_n 1 dX11_trackAt_4 rfl ?_
    refine wp_iconst (v := (4 : Int32)) dX11_trackAt_5 (by decide) ?_
    refine wp_icmp_lt (tgt := 13) dX11_trackAt_6 rfl (fun c => ?_) (fun c => ?_)
    · replace h := h.1 c
      refine wp_aload_n 0 dX11_trackAt_13 rfl ?_
      obtain ⟨ht1, h⟩ := h
      refine wp_getC (ci := 11) (j := 10) dX11_trackAt_14 fi_X11_57r rfl rfl ht1 ?_
      change WP _ _ _ _ _ _ (rv (hC H 1210 a0) :: _) _ _
      refine wp_iload_n 1 dX11_trackAt_17 rfl ?_
      obtain ⟨a2, ha2, h⟩ := h
      obtain ⟨hr3, h⟩ := h
      obtain ⟨hg4, h⟩ := h
      refine wp_aaload (e := 8) dX11_trackAt_18 ha2 hr3 (by decide) hg4 ?_
      exact wp_areturn dX11_trackAt_19 rfl ⟨_, rfl, h⟩
    · replace h := h.2 c
      refine wp_null dX11_trackAt_9 ?_
      refine wp_goto (tgt := 19) dX11_trackAt_10 rfl ?_
      exact wp_areturn dX11_trackAt_19 rfl ⟨_, rfl, h⟩
theorem C_X11_trackAt {d : Nat} {q : HP → Option Nat → Prop} {a0 : Nat} {x1 : Int32} {H : HP} (h : wb_X11_trackAt_0 d q a0 x1 H) : CR (d + 1) 0 0 mX11_trackAt [rv (some a0), .int x1] H q := by
  refine call_of (by decide +kernel) (by simp [lg_sl, rv_cat, vc_int, vc_long, vc_float, vc_double]) ?_
  have e : lv_args 0 [rv (some a0), .int x1] = [(0, rv (some a0)), (1, .int x1)] := by simp [lv_args, rv_cat, vc_int, vc_long, vc_float, vc_double]
  rw [e]
  exact T_X11_trackAt_0 h
/-- UnitProver.trueClaims()I: the loop at 4 -/
def L_X11_trueClaims_4 (d : Nat) (q : HP → Int32 → Prop) (a0 : Nat) (x1 : Int32) (x2 : Int32) (H : HP) : Prop := WP (d + 1) mX11_trueClaims 0 0 4 [(0, rv (some a0)), (1, .int x1), (2, .int x2)] [] H (qI q)
def wb_X11_trueClaims_0 (d : Nat) (q : HP → Int32 → Prop) (a0 : Nat) (H : HP) : Prop :=
  L_X11_trueClaims_4 d q a0 (0 : Int32) (0 : Int32) H
set_option maxRecDepth 40000 in
set_option maxHeartbeats 4000000 in
theorem T_X11_trueClaims_0 {d : Nat} {q : HP → Int32 → Prop} {a0 : Nat} {H : HP} (h : wb_X11_trueClaims_0 d q a0 H) : WP (d + 1) mX11_trueClaims 0 0 0 [(0, rv (some a0))] [] H (qI q) := by
  unfold wb_X11_trueClaims_0 at h
  refine wp_iconst (v := (0 : Int32)) dX11_trueClaims_0 (by decide) ?_
  refine wp_istore_n (ls' := [(1, .int (0 : Int32)), (0, rv (some a0))]) dX11_trueClaims_1 (by decide) rfl ?_
  refine wp_iconst (v := (0 : Int32)) dX11_trueClaims_2 (by decide) ?_
  refine wp_istore_n (ls' := [(2, .int (0 : Int32)), (1, .int (0 : Int32)), (0, rv (some a0))]) dX11_trueClaims_3 (by decide) rfl ?_
  refine wp_sub (ls' := [(0, rv (some a0)), (1, .int (0 : Int32)), (2, .int (0 : Int32))]) [2, 1, 0] rfl ?_
  exact h
def wb_X11_trueClaims_4 (d : Nat) (q : HP → Int32 → Prop) (a0 : Nat) (x1 : Int32) (x2 : Int32) (H : HP) : Prop :=
  tg H a0 = 12 ∧ (∃ a2, (hC H 1202 a0) = some a2 ∧ (tg H a2 = 1 ∧ (((hI H 104 a2 0) ≤ x2 → q H x1) ∧ (¬ ((hI H 104 a2 0) ≤ x2) → CI d 0 0 mX11_truthOf [rv (some a0), .int x2] H (fun H4 r5 => (¬ r5 = (-15 : Int32) → L_X11_trueClaims_4 d q a0 (x1 + r5) (x2 + 1) H4) ∧ (r5 = (-15 : Int32) → q H4 (-15 : Int32)))))))
set_option maxRecDepth 40000 in
set_option maxHeartbeats 4000000 in
theorem T_X11_trueClaims_4 {d : Nat} {q : HP → Int32 → Prop} {a0 : Nat} {x1 : Int32} {x2 : Int32} {H : HP} (h : wb_X11_trueClaims_4 d q a0 x1 x2 H) : L_X11_trueClaims_4 d q a0 x1 x2 H := by
  unfold wb_X11_trueClaims_4 at h
  unfold L_X11_trueClaims_4
  refine wp_iload_n 2 dX11_trueClaims_4 rfl ?_
  refine wp_aload_n 0 dX11_trueClaims_5 rfl ?_
  obtain ⟨ht1, h⟩ := h
  refine wp_getC (ci := 11) (j := 2) dX11_trueClaims_6 fi_X11_28r rfl rfl ht1 ?_
  change WP _ _ _ _ _ _ (rv (hC H 1202 a0) :: _) _ _
  obtain ⟨a2, ha2, h⟩ := h
  obtain ⟨ht3, h⟩ := h
  refine wp_getI (ci := 0) (j := 4) dX11_trueClaims_9 fi_X11_273r rfl ha2 ht3 ?_
  change WP _ _ _ _ _ _ (.int (hI H 104 a2 0) :: _) _ _
  refine wp_icmp_ge (tgt := 40) dX11_trueClaims_12 rfl (fun c => ?_) (fun c => ?_)
  · replace h := h.1 c
    refine wp_iload_n 1 dX11_trueClaims_40 rfl ?_
    exact wp_ireturn (ty := .int) dX11_trueClaims_41 rfl rfl ⟨_, rfl, h⟩
  · replace h := h.2 c
    refine wp_aload_n 0 dX11_trueClaims_15 rfl ?_
    refine wp_iload_n 2 dX11_trueClaims_16 rfl ?_
    refine wp_callV (ci := 11) (As := [.int x2]) (rest := []) (mc := 0) (ms := 0) dX11_trueClaims_17 lk_X11_292 rfl rfl (by decide) rfl rfl rfl ht1 rfl rfl rfl w_5_17 (Call.weaken h ?_)
    rintro H4 _ ⟨r5, rfl, h⟩
    change WP _ _ _ _ _ _ [.int r5] H4 _
    refine wp_istore_n (ls' := [(3, .int r5), (0, rv (some a0)), (1, .int x1), (2, .int x2)]) dX11_trueClaims_20 (by decide) rfl ?_
    refine wp_iload_n 0 dX11_trueClaims_21 rfl ?_
    refine wp_bipush (v := (-15 : Int32)) dX11_trueClaims_22 (by decide) ?_
    refine wp_icmp_ne (tgt := 30) dX11_trueClaims_24 rfl (fun c => ?_) (fun c => ?_)
    · replace h := h.1 c
      refine wp_iload_n 2 dX11_trueClaims_30 rfl ?_
      refine wp_iload_n 0 dX11_trueClaims_31 rfl ?_
      refine wp_iadd dX11_trueClaims_32 ?_
      refine wp_istore_n (ls' := [(1, .int (x1 + r5)), (3, .int r5), (0, rv (some a0)), (2, .int x2)]) dX11_trueClaims_33 (by decide) rfl ?_
      refine wp_iinc (v := (x2 + 1)) (ls' := [(2, .int (x2 + 1)), (1, .int (x1 + r5)), (3, .int r5), (0, rv (some a0))]) 3 dX11_trueClaims_34 rfl rfl (by decide) rfl ?_
      refine wp_goto (tgt := 4) dX11_trueClaims_37 rfl ?_
      refine wp_sub (ls' := [(0, rv (some a0)), (1, .int (x1 + r5)), (2, .int (x2 + 1))]) [3, 1, 0] rfl ?_
      exact h
    · replace h := h.2 c
      refine wp_bipush (v := (-15 : Int32)) dX11_trueClaims_27 (by decide) ?_
      exact wp_ireturn (ty := .int) dX11_trueClaims_29 rfl rfl ⟨_, rfl, h⟩
theorem C_X11_trueClaims {d : Nat} {q : HP → Int32 → Prop} {a0 : Nat} {H : HP} (h : wb_X11_trueClaims_0 d q a0 H) : CI (d + 1) 0 0 mX11_trueClaims [rv (some a0)] H q := by
  refine call_of (by decide +kernel) (by simp [lg_sl, rv_cat, vc_int, vc_long, vc_float, vc_double]) ?_
  have e : lv_args 0 [rv (some a0)] = [(0, rv (some a0))] := by simp [lv_args, rv_cat, vc_int, vc_long, vc_float, vc_double]
  rw [e]
  exact T_X11_trueClaims_0 h
def wb_X11_truthOf_0 (d : Nat) (q : HP → Int32 → Prop) (a0 : Nat) (x1 : Int32) (H : HP) : Prop :=
  tg H a0 = 12 ∧ (∃ a2, (hC H 1202 a0) = some a2 ∧ (tg H a2 = 1 ∧ (∃ a4, (hC H 100 a2) = some a4 ∧ (isA H a4 0 ∧ (vp_in x1 (ln H a4) ∧ (∃ a8, (hC H 1201 a0) = some a8 ∧ (tg H a8 = 11 ∧ (CR d 0 0 mX10_at [rv (hC H 1201 a0), .int (hI H (tg H a4) a4 x1.toNatClampNeg)] H (fun H7 r10 => tg H7 a0 = 12 ∧ (∃ a12, (hC H7 1202 a0) = some a12 ∧ (tg H7 a12 = 1 ∧ (∃ a14, (hC H7 101 a12) = some a14 ∧ (isA H7 a14 0 ∧ (vp_in x1 (ln H7 a14) ∧ (∃ a18, (hC H7 1201 a0) = some a18 ∧ (tg H7 a18 = 11 ∧ (CR d 0 0 mX10_at [rv (hC H7 1201 a0), .int (hI H7 (tg H7 a14) a14 x1.toNatClampNeg)] H7 (fun H17 r20 => (r10 = none → q H17 (0 : Int32)) ∧ (∀ a21, r10 = some a21 → (r20 = none → q H17 (0 : Int32)) ∧ (∀ a22, r20 = some a22 → tg H17 a21 = 10 ∧ (CZ d 0 0 mX9_isLike [rv r10, rv r20] H17 (fun H23 b25 => (b25 = false → q H23 (0 : Int32)) ∧ (b25 = true → tg H23 a21 = 10 ∧ (CZ d 0 0 mX9_hasOffset [rv r10] H23 (fun H26 b28 => (b28 = true → q H26 (0 : Int32)) ∧ (b28 = false → tg H26 a22 = 10 ∧ (CZ d 0 0 mX9_hasOffset [rv r20] H26 (fun H29 b31 => (b31 = false → tg H29 a0 = 12 ∧ (∃ a33, (hC H29 1202 a0) = some a33 ∧ (tg H29 a33 = 1 ∧ (∃ a35, (hC H29 102 a33) = some a35 ∧ (isA H29 a35 0 ∧ (vp_in x1 (ln H29 a35) ∧ (∃ a38, (hC H29 103 a33) = some a38 ∧ (isA H29 a38 0 ∧ (vp_in x1 (ln H29 a38) ∧ (∃ a42, (hC H29 1213 a0) = some a42 ∧ (tg H29 a42 = 4 ∧ (CV d 0 0 mX3_set [rv (hC H29 1213 a0), .long ((hI H29 (tg H29 a35) a35 x1.toNatClampNeg).toInt64), .long ((hI H29 (tg H29 a38) a38 x1.toNatClampNeg).toInt64)] H29 (fun H41 => tg H41 a0 = 12 ∧ (tg H41 a22 = 10 ∧ (∃ a47, (hC H41 1213 a0) = some a47 ∧ (tg H41 a47 = 4 ∧ (CZ d 0 0 mX3_multiply [rv (hC H41 1213 a0), rv (hC H41 1003 a22)] H41 (fun H46 b49 => (b49 = true → tg H46 a0 = 12 ∧ (tg H46 a21 = 10 ∧ (∃ a53, (hC H46 1213 a0) = some a53 ∧ (tg H46 a53 = 4 ∧ (CI d 0 0 mX3_compareWith [rv (hC H46 1213 a0), rv (hC H46 1003 a21)] H46 (fun H52 r55 => (¬ r55 = 0 → q H52 (0 : Int32)) ∧ (r55 = 0 → q H52 (1 : Int32)))))))) ∧ (b49 = false → q H46 (-15 : Int32)))))))))))))))))))) ∧ (b31 = true → q H29 (0 : Int32))))))))))))))))))))))))))))))
set_option maxRecDepth 40000 in
set_option maxHeartbeats 4000000 in
theorem T_X11_truthOf_0 {d : Nat} {q : HP → Int32 → Prop} {a0 : Nat} {x1 : Int32} {H : HP} (h : wb_X11_truthOf_0 d q a0 x1 H) : WP (d + 1) mX11_truthOf 0 0 0 [(0, rv (some a0)), (1, .int x1)] [] H (qI q) := by
  unfold wb_X11_truthOf_0 at h
  refine wp_aload_n 0 dX11_truthOf_0 rfl ?_
  obtain ⟨ht1, h⟩ := h
  refine wp_getC (ci := 11) (j := 1) dX11_truthOf_1 fi_X11_21r rfl rfl ht1 ?_
  change WP _ _ _ _ _ _ (rv (hC H 1201 a0) :: _) _ _
  refine wp_aload_n 0 dX11_truthOf_4 rfl ?_
  refine wp_getC (ci := 11) (j := 2) dX11_truthOf_5 fi_X11_28r rfl rfl ht1 ?_
  change WP _ _ _ _ _ _ (rv (hC H 1202 a0) :: _) _ _
  obtain ⟨a2, ha2, h⟩ := h
  obtain ⟨ht3, h⟩ := h
  refine wp_getC (ci := 0) (j := 0) dX11_truthOf_8 fi_X11_277 rfl ha2 ht3 ?_
  change WP _ _ _ _ _ _ (rv (hC H 100 a2) :: _) _ _
  refine wp_iload_n 1 dX11_truthOf_11 rfl ?_
  obtain ⟨a4, ha4, h⟩ := h
  obtain ⟨hr5, h⟩ := h
  obtain ⟨hg6, h⟩ := h
  refine wp_iaload dX11_truthOf_12 ha4 hr5 hg6 ?_
  obtain ⟨a8, ha8, h⟩ := h
  obtain ⟨ht9, h⟩ := h
  refine wp_callV (ci := 10) (As := [.int (hI H (tg H a4) a4 x1.toNatClampNeg)]) (rest := []) (mc := 0) (ms := 0) dX11_truthOf_13 lk_X11_129 rfl rfl (by decide) ha8 rfl rfl ht9 rfl rfl rfl w_3_201 (Call.weaken h ?_)
  rintro H7 _ ⟨r10, rfl, h⟩
  change WP _ _ _ _ _ _ [rv r10] H7 _
  refine wp_astore_n (ls' := [(2, rv r10), (0, rv (some a0)), (1, .int x1)]) dX11_truthOf_16 (by decide) rfl ?_
  refine wp_aload_n 1 dX11_truthOf_17 rfl ?_
  obtain ⟨ht11, h⟩ := h
  refine wp_getC (ci := 11) (j := 1) dX11_truthOf_18 fi_X11_21r rfl rfl ht11 ?_
  change WP _ _ _ _ _ _ (rv (hC H7 1201 a0) :: _) _ _
  refine wp_aload_n 1 dX11_truthOf_21 rfl ?_
  refine wp_getC (ci := 11) (j := 2) dX11_truthOf_22 fi_X11_28r rfl rfl ht11 ?_
  change WP _ _ _ _ _ _ (rv (hC H7 1202 a0) :: _) _ _
  obtain ⟨a12, ha12, h⟩ := h
  obtain ⟨ht13, h⟩ := h
  refine wp_getC (ci := 0) (j := 1) dX11_truthOf_25 fi_X11_280 rfl ha12 ht13 ?_
  change WP _ _ _ _ _ _ (rv (hC H7 101 a12) :: _) _ _
  refine wp_iload_n 2 dX11_truthOf_28 rfl ?_
  obtain ⟨a14, ha14, h⟩ := h
  obtain ⟨hr15, h⟩ := h
  obtain ⟨hg16, h⟩ := h
  refine wp_iaload dX11_truthOf_29 ha14 hr15 hg16 ?_
  obtain ⟨a18, ha18, h⟩ := h
  obtain ⟨ht19, h⟩ := h
  refine wp_callV (ci := 10) (As := [.int (hI H7 (tg H7 a14) a14 x1.toNatClampNeg)]) (rest := []) (mc := 0) (ms := 0) dX11_truthOf_30 lk_X11_129 rfl rfl (by decide) ha18 rfl rfl ht19 rfl rfl rfl w_3_201 (Call.weaken h ?_)
  rintro H17 _ ⟨r20, rfl, h⟩
  change WP _ _ _ _ _ _ [rv r20] H17 _
  refine wp_astore_n (ls' := [(3, rv r20), (2, rv r10), (0, rv (some a0)), (1, .int x1)]) dX11_truthOf_33 (by decide) (by change st1 _ 3 _ = _; simp [st1, rv_cat, vc_int, vc_long, vc_float, vc_double]) ?_
  refine wp_aload_n 1 dX11_truthOf_34 rfl ?_
  refine wp_ifnull (tgt := 64) dX11_truthOf_35 rfl (fun c => ?_) (fun a21 ha21 => ?_)
  · replace h := h.1 c
    refine wp_iconst (v := (0 : Int32)) dX11_truthOf_64 (by decide) ?_
    exact wp_ireturn (ty := .int) dX11_truthOf_65 rfl rfl ⟨_, rfl, h⟩
  · replace h := h.2 a21 ha21
    refine wp_aload_n 0 dX11_truthOf_38 rfl ?_
    refine wp_ifnull (tgt := 64) dX11_truthOf_39 rfl (fun c => ?_) (fun a22 ha22 => ?_)
    · replace h := h.1 c
      refine wp_iconst (v := (0 : Int32)) dX11_truthOf_64 (by decide) ?_
      exact wp_ireturn (ty := .int) dX11_truthOf_65 rfl rfl ⟨_, rfl, h⟩
    · replace h := h.2 a22 ha22
      refine wp_aload_n 1 dX11_truthOf_42 rfl ?_
      refine wp_aload_n 0 dX11_truthOf_43 rfl ?_
      obtain ⟨ht24, h⟩ := h
      refine wp_callV (ci := 9) (As := [rv r20]) (rest := []) (mc := 0) (ms := 0) dX11_truthOf_44 lk_X11_153 rfl rfl (by decide) ha21 rfl rfl ht24 rfl rfl rfl w_3_219 (Call.weaken h ?_)
      rintro H23 _ ⟨b25, rfl, h⟩
      change WP _ _ _ _ _ _ [.int (bI b25)] H23 _
      refine wp_if_eq (tgt := 64) dX11_truthOf_47 rfl (fun c => ?_) (fun c => ?_)
      · replace h := h.1 (bI_0.mp c)
        refine wp_iconst (v := (0 : Int32)) dX11_truthOf_64 (by decide) ?_
        exact wp_ireturn (ty := .int) dX11_truthOf_65 rfl rfl ⟨_, rfl, h⟩
      · replace h := h.2 (bI_1.mp c)
        refine wp_aload_n 1 dX11_truthOf_50 rfl ?_
        obtain ⟨ht27, h⟩ := h
        refine wp_callV (ci := 9) (As := []) (rest := []) (mc := 0) (ms := 0) dX11_truthOf_51 lk_X11_157 rfl rfl (by decide) ha21 rfl rfl ht27 rfl rfl rfl w_3_226 (Call.weaken h ?_)
        rintro H26 _ ⟨b28, rfl, h⟩
        change WP _ _ _ _ _ _ [.int (bI b28)] H26 _
        refine wp_if_ne (tgt := 64) dX11_truthOf_54 rfl (fun c => ?_) (fun c => ?_)
        · replace h := h.1 (bI_1.mp c)
          refine wp_iconst (v := (0 : Int32)) dX11_truthOf_64 (by decide) ?_
          exact wp_ireturn (ty := .int) dX11_truthOf_65 rfl rfl ⟨_, rfl, h⟩
        · replace h := h.2 (bI_0.mp c)
          refine wp_aload_n 0 dX11_truthOf_57 rfl ?_
          obtain ⟨ht30, h⟩ := h
          refine wp_callV (ci := 9) (As := []) (rest := []) (mc := 0) (ms := 0) dX11_truthOf_58 lk_X11_157 rfl rfl (by decide) ha22 rfl rfl ht30 rfl rfl rfl w_3_226 (Call.weaken h ?_)
          rintro H29 _ ⟨b31, rfl, h⟩
          change WP _ _ _ _ _ _ [.int (bI b31)] H29 _
          refine wp_if_eq (tgt := 66) dX11_truthOf_61 rfl (fun c => ?_) (fun c => ?_)
          · replace h := h.1 (bI_0.mp c)
            refine wp_aload_n 2 dX11_truthOf_66 rfl ?_
            obtain ⟨ht32, h⟩ := h
            refine wp_getC (ci := 11) (j := 13) dX11_truthOf_67 fi_X11_77r rfl rfl ht32 ?_
            change WP _ _ _ _ _ _ (rv (hC H29 1213 a0) :: _) _ _
            refine wp_aload_n 2 dX11_truthOf_70 rfl ?_
            refine wp_getC (ci := 11) (j := 2) dX11_truthOf_71 fi_X11_28r rfl rfl ht32 ?_
            change WP _ _ _ _ _ _ (rv (hC H29 1202 a0) :: _) _ _
            obtain ⟨a33, ha33, h⟩ := h
            obtain ⟨ht34, h⟩ := h
            refine wp_getC (ci := 0) (j := 2) dX11_truthOf_74 fi_X11_283 rfl ha33 ht34 ?_
            change WP _ _ _ _ _ _ (rv (hC H29 102 a33) :: _) _ _
            refine wp_iload_n 3 dX11_truthOf_77 rfl ?_
            obtain ⟨a35, ha35, h⟩ := h
            obtain ⟨hr36, h⟩ := h
            obtain ⟨hg37, h⟩ := h
            refine wp_iaload dX11_truthOf_78 ha35 hr36 hg37 ?_
            refine wp_i2l dX11_truthOf_79 ?_
            refine wp_aload_n 2 dX11_truthOf_80 rfl ?_
            refine wp_getC (ci := 11) (j := 2) dX11_truthOf_81 fi_X11_28r rfl rfl ht32 ?_
            change WP _ _ _ _ _ _ (rv (hC H29 1202 a0) :: _) _ _
            refine wp_getC (ci := 0) (j := 3) dX11_truthOf_84 fi_X11_286 rfl ha33 ht34 ?_
            change WP _ _ _ _ _ _ (rv (hC H29 103 a33) :: _) _ _
            refine wp_iload_n 3 dX11_truthOf_87 rfl ?_
            obtain ⟨a38, ha38, h⟩ := h
            obtain ⟨hr39, h⟩ := h
            obtain ⟨hg40, h⟩ := h
            refine wp_iaload dX11_truthOf_88 ha38 hr39 hg40 ?_
            refine wp_i2l dX11_truthOf_89 ?_
            obtain ⟨a42, ha42, h⟩ := h
            obtain ⟨ht43, h⟩ := h
            refine wp_callV (ci := 3) (As := [.long ((hI H29 (tg H29 a35) a35 x1.toNatClampNeg).toInt64), .long ((hI H29 (tg H29 a38) a38 x1.toNatClampNeg).toInt64)]) (rest := []) (mc := 0) (ms := 0) dX11_truthOf_90 lk_X11_172 rfl rfl (by decide) ha42 rfl rfl ht43 rfl rfl rfl w_3_237 (Call.weaken h ?_)
            rintro H41 _ ⟨rfl, h⟩
            change WP _ _ _ _ _ _ [] H41 _
            refine wp_aload_n 2 dX11_truthOf_93 rfl ?_
            obtain ⟨ht44, h⟩ := h
            refine wp_getC (ci := 11) (j := 13) dX11_truthOf_94 fi_X11_77r rfl rfl ht44 ?_
            change WP _ _ _ _ _ _ (rv (hC H41 1213 a0) :: _) _ _
            refine wp_aload_n 0 dX11_truthOf_97 rfl ?_
            obtain ⟨ht45, h⟩ := h
            refine wp_getC (ci := 9) (j := 3) dX11_truthOf_98 fi_X11_143 rfl ha22 ht45 ?_
            change WP _ _ _ _ _ _ (rv (hC H41 1003 a22) :: _) _ _
            obtain ⟨a47, ha47, h⟩ := h
            obtain ⟨ht48, h⟩ := h
            refine wp_callV (ci := 3) (As := [rv (hC H41 1003 a22)]) (rest := []) (mc := 0) (ms := 0) dX11_truthOf_101 lk_X11_176 rfl rfl (by decide) ha47 rfl rfl ht48 rfl rfl rfl w_3_238 (Call.weaken h ?_)
            rintro H46 _ ⟨b49, rfl, h⟩
            change WP _ _ _ _ _ _ [.int (bI b49)] H46 _
            refine wp_if_ne (tgt := 110) dX11_truthOf_104 rfl (fun c => ?_) (fun c => ?_)
            · replace h := h.1 (bI_1.mp c)
              refine wp_aload_n 2 dX11_truthOf_110 rfl ?_
              obtain ⟨ht50, h⟩ := h
              refine wp_getC (ci := 11) (j := 13) dX11_truthOf_111 fi_X11_77r rfl rfl ht50 ?_
              change WP _ _ _ _ _ _ (rv (hC H46 1213 a0) :: _) _ _
              refine wp_aload_n 1 dX11_truthOf_114 rfl ?_
              obtain ⟨ht51, h⟩ := h
              refine wp_getC (ci := 9) (j := 3) dX11_truthOf_115 fi_X11_143 rfl ha21 ht51 ?_
              change WP _ _ _ _ _ _ (rv (hC H46 1003 a21) :: _) _ _
              obtain ⟨a53, ha53, h⟩ := h
              obtain ⟨ht54, h⟩ := h
              refine wp_callV (ci := 3) (As := [rv (hC H46 1003 a21)]) (rest := []) (mc := 0) (ms := 0) dX11_truthOf_118 lk_X11_239 rfl rfl (by decide) ha53 rfl rfl ht54 rfl rfl rfl w_4_165 (Call.weaken h ?_)
              rintro H52 _ ⟨r55, rfl, h⟩
              change WP _ _ _ _ _ _ [.int r55] H52 _
              refine wp_if_ne (tgt := 128) dX11_truthOf_121 rfl (fun c => ?_) (fun c => ?_)
              · replace h := h.1 c
                refine wp_iconst (v := (0 : Int32)) dX11_truthOf_128 (by decide) ?_
                exact wp_ireturn (ty := .int) dX11_truthOf_129 rfl rfl ⟨_, rfl, h⟩
              · replace h := h.2 c
                refine wp_iconst (v := (1 : Int32)) dX11_truthOf_124 (by decide) ?_
                refine wp_goto (tgt := 129) dX11_truthOf_125 rfl ?_
                exact wp_ireturn (ty := .int) dX11_truthOf_129 rfl rfl ⟨_, rfl, h⟩
            · replace h := h.2 (bI_0.mp c)
              refine wp_bipush (v := (-15 : Int32)) dX11_truthOf_107 (by decide) ?_
              exact wp_ireturn (ty := .int) dX11_truthOf_109 rfl rfl ⟨_, rfl, h⟩
          · replace h := h.2 (bI_1.mp c)
            refine wp_iconst (v := (0 : Int32)) dX11_truthOf_64 (by decide) ?_
            exact wp_ireturn (ty := .int) dX11_truthOf_65 rfl rfl ⟨_, rfl, h⟩
theorem C_X11_truthOf {d : Nat} {q : HP → Int32 → Prop} {a0 : Nat} {x1 : Int32} {H : HP} (h : wb_X11_truthOf_0 d q a0 x1 H) : CI (d + 1) 0 0 mX11_truthOf [rv (some a0), .int x1] H q := by
  refine call_of (by decide +kernel) (by simp [lg_sl, rv_cat, vc_int, vc_long, vc_float, vc_double]) ?_
  have e : lv_args 0 [rv (some a0), .int x1] = [(0, rv (some a0)), (1, .int x1)] := by simp [lv_args, rv_cat, vc_int, vc_long, vc_float, vc_double]
  rw [e]
  exact T_X11_truthOf_0 h
def wb_X11_twin_0 (d : Nat) (q : HP → Int32 → Prop) (a0 : Nat) (x1 : Int32) (x2 : Int32) (H : HP) : Prop :=
  tg H a0 = 12 ∧ (CR d 0 0 mX11_trackAt [rv (some a0), .int x1] H (fun H1 r3 => tg H1 a0 = 12 ∧ (CR d 0 0 mX11_trackAt [rv (some a0), .int x2] H1 (fun H4 r6 => (r3 = none → q H4 (-1 : Int32)) ∧ (∀ a7, r3 = some a7 → (r6 = none → q H4 (-1 : Int32)) ∧ (∀ a8, r6 = some a8 → tg H4 a8 = 9 ∧ (CZ d 0 0 mX8_isNothing [rv r6] H4 (fun H9 b11 => (b11 = false → tg H9 a7 = 9 ∧ (CV d 0 0 mX8_copy [rv r3, rv r6] H9 (fun H12 => tg H12 a7 = 9 ∧ (q H12 (hI H12 901 a7 0))))) ∧ (b11 = true → q H9 (-6 : Int32))))))))))
set_option maxRecDepth 40000 in
set_option maxHeartbeats 4000000 in
theorem T_X11_twin_0 {d : Nat} {q : HP → Int32 → Prop} {a0 : Nat} {x1 : Int32} {x2 : Int32} {H : HP} (h : wb_X11_twin_0 d q a0 x1 x2 H) : WP (d + 1) mX11_twin 0 0 0 [(0, rv (some a0)), (1, .int x1), (2, .int x2)] [] H (qI q) := by
  unfold wb_X11_twin_0 at h
  refine wp_aload_n 0 dX11_twin_0 rfl ?_
  refine wp_iload_n 1 dX11_twin_1 rfl ?_
  obtain ⟨ht2, h⟩ := h
  refine wp_callV (ci := 11) (As := [.int x1]) (rest := []) (mc := 0) (ms := 0) dX11_twin_2 lk_X11_315 rfl rfl (by decide) rfl rfl rfl ht2 rfl rfl rfl w_5_50 (Call.weaken h ?_)
  rintro H1 _ ⟨r3, rfl, h⟩
  change WP _ _ _ _ _ _ [rv r3] H1 _
  refine wp_astore_n (ls' := [(3, rv r3), (0, rv (some a0)), (1, .int x1), (2, .int x2)]) dX11_twin_5 (by decide) rfl ?_
  refine wp_aload_n 1 dX11_twin_6 rfl ?_
  refine wp_iload_n 3 dX11_twin_7 rfl ?_
  obtain ⟨ht5, h⟩ := h
  refine wp_callV (ci := 11) (As := [.int x2]) (rest := []) (mc := 0) (ms := 0) dX11_twin_8 lk_X11_315 rfl rfl (by decide) rfl rfl rfl ht5 rfl rfl rfl w_5_50 (Call.weaken h ?_)
  rintro H4 _ ⟨r6, rfl, h⟩
  change WP _ _ _ _ _ _ [rv r6] H4 _
  refine wp_astore (ls' := [(4, rv r6), (3, rv r3), (0, rv (some a0)), (1, .int x1), (2, .int x2)]) dX11_twin_11 (by decide) (by change st1 _ 4 _ = _; simp [st1, rv_cat, vc_int, vc_long, vc_float, vc_double]) ?_
  refine wp_aload_n 1 dX11_twin_13 rfl ?_
  refine wp_ifnull (tgt := 22) dX11_twin_14 rfl (fun c => ?_) (fun a7 ha7 => ?_)
  · replace h := h.1 c
    refine wp_iconst (v := (-1 : Int32)) dX11_twin_22 (by decide) ?_
    exact wp_ireturn (ty := .int) dX11_twin_23 rfl rfl ⟨_, rfl, h⟩
  · replace h := h.2 a7 ha7
    refine wp_aload 0 dX11_twin_17 rfl ?_
    refine wp_ifnonnull (tgt := 24) dX11_twin_19 rfl (fun a8 ha8 => ?_) (fun c => ?_)
    · replace h := h.2 a8 ha8
      refine wp_aload 0 dX11_twin_24 rfl ?_
      obtain ⟨ht10, h⟩ := h
      refine wp_callV (ci := 8) (As := []) (rest := []) (mc := 0) (ms := 0) dX11_twin_26 lk_X11_352 rfl rfl (by decide) ha8 rfl rfl ht10 rfl rfl rfl w_5_70 (Call.weaken h ?_)
      rintro H9 _ ⟨b11, rfl, h⟩
      change WP _ _ _ _ _ _ [.int (bI b11)] H9 _
      refine wp_if_eq (tgt := 35) dX11_twin_29 rfl (fun c => ?_) (fun c => ?_)
      · replace h := h.1 (bI_0.mp c)
        refine wp_aload_n 1 dX11_twin_35 rfl ?_
        refine wp_aload 0 dX11_twin_36 rfl ?_
        obtain ⟨ht13, h⟩ := h
        refine wp_callV (ci := 8) (As := [rv r6]) (rest := []) (mc := 0) (ms := 0) dX11_twin_38 lk_X11_368 rfl rfl (by decide) ha7 rfl rfl ht13 rfl rfl rfl w_5_160 (Call.weaken h ?_)
        rintro H12 _ ⟨rfl, h⟩
        change WP _ _ _ _ _ _ [] H12 _
        refine wp_aload_n 1 dX11_twin_41 rfl ?_
        obtain ⟨ht14, h⟩ := h
        refine wp_getI (ci := 8) (j := 1) dX11_twin_42 fi_X11_359r rfl ha7 ht14 ?_
        change WP _ _ _ _ _ _ (.int (hI H12 901 a7 0) :: _) _ _
        exact wp_ireturn (ty := .int) dX11_twin_45 rfl rfl ⟨_, rfl, h⟩
      · replace h := h.2 (bI_1.mp c)
        refine wp_bipush (v := (-6 : Int32)) dX11_twin_32 (by decide) ?_
        exact wp_ireturn (ty := .int) dX11_twin_34 rfl rfl ⟨_, rfl, h⟩
    · replace h := h.1 c
      refine wp_iconst (v := (-1 : Int32)) dX11_twin_22 (by decide) ?_
      exact wp_ireturn (ty := .int) dX11_twin_23 rfl rfl ⟨_, rfl, h⟩
theorem C_X11_twin {d : Nat} {q : HP → Int32 → Prop} {a0 : Nat} {x1 : Int32} {x2 : Int32} {H : HP} (h : wb_X11_twin_0 d q a0 x1 x2 H) : CI (d + 1) 0 0 mX11_twin [rv (some a0), .int x1, .int x2] H q := by
  refine call_of (by decide +kernel) (by simp [lg_sl, rv_cat, vc_int, vc_long, vc_float, vc_double]) ?_
  have e : lv_args 0 [rv (some a0), .int x1, .int x2] = [(0, rv (some a0)), (1, .int x1), (2, .int x2)] := by simp [lv_args, rv_cat, vc_int, vc_long, vc_float, vc_double]
  rw [e]
  exact T_X11_twin_0 h
def wb_X11_unclaim_0 (d : Nat) (q : HP → Int32 → Prop) (a0 : Nat) (x1 : Int32) (H : HP) : Prop :=
  (x1 < 0 → q H (-1 : Int32)) ∧ (¬ (x1 < 0) → tg H a0 = 12 ∧ (∃ a2, (hC H 1202 a0) = some a2 ∧ (tg H a2 = 1 ∧ ((x1 < (hI H 104 a2 0) → CV d 0 0 mX0_remove [rv (hC H 1202 a0), .int x1] H (fun H4 => tg H4 a0 = 12 ∧ (∃ a6, (hC H4 1202 a0) = some a6 ∧ (tg H4 a6 = 1 ∧ (q H4 (hI H4 104 a6 0)))))) ∧ (¬ (x1 < (hI H 104 a2 0)) → q H (-1 : Int32))))))
set_option maxRecDepth 40000 in
set_option maxHeartbeats 4000000 in
theorem T_X11_unclaim_0 {d : Nat} {q : HP → Int32 → Prop} {a0 : Nat} {x1 : Int32} {H : HP} (h : wb_X11_unclaim_0 d q a0 x1 H) : WP (d + 1) mX11_unclaim 0 0 0 [(0, rv (some a0)), (1, .int x1)] [] H (qI q) := by
  unfold wb_X11_unclaim_0 at h
  refine wp_iload_n 1 dX11_unclaim_0 rfl ?_
  refine wp_if_lt (tgt := 15) dX11_unclaim_1 rfl (fun c => ?_) (fun c => ?_)
  · replace h := h.1 c
    refine wp_iconst (v := (-1 : Int32)) dX11_unclaim_15 (by decide) ?_
    exact wp_ireturn (ty := .int) dX11_unclaim_16 rfl rfl ⟨_, rfl, h⟩
  · replace h := h.2 c
    refine wp_iload_n 1 dX11_unclaim_4 rfl ?_
    refine wp_aload_n 0 dX11_unclaim_5 rfl ?_
    obtain ⟨ht1, h⟩ := h
    refine wp_getC (ci := 11) (j := 2) dX11_unclaim_6 fi_X11_28r rfl rfl ht1 ?_
    change WP _ _ _ _ _ _ (rv (hC H 1202 a0) :: _) _ _
    obtain ⟨a2, ha2, h⟩ := h
    obtain ⟨ht3, h⟩ := h
    refine wp_getI (ci := 0) (j := 4) dX11_unclaim_9 fi_X11_273r rfl ha2 ht3 ?_
    change WP _ _ _ _ _ _ (.int (hI H 104 a2 0) :: _) _ _
    refine wp_icmp_lt (tgt := 17) dX11_unclaim_12 rfl (fun c => ?_) (fun c => ?_)
    · replace h := h.1 c
      refine wp_aload_n 0 dX11_unclaim_17 rfl ?_
      refine wp_getC (ci := 11) (j := 2) dX11_unclaim_18 fi_X11_28r rfl rfl ht1 ?_
      change WP _ _ _ _ _ _ (rv (hC H 1202 a0) :: _) _ _
      refine wp_iload_n 1 dX11_unclaim_21 rfl ?_
      refine wp_callV (ci := 0) (As := [.int x1]) (rest := []) (mc := 0) (ms := 0) dX11_unclaim_22 lk_X11_274 rfl rfl (by decide) ha2 rfl rfl ht3 rfl rfl rfl w_5_9 (Call.weaken h ?_)
      rintro H4 _ ⟨rfl, h⟩
      change WP _ _ _ _ _ _ [] H4 _
      refine wp_aload_n 0 dX11_unclaim_25 rfl ?_
      obtain ⟨ht5, h⟩ := h
      refine wp_getC (ci := 11) (j := 2) dX11_unclaim_26 fi_X11_28r rfl rfl ht5 ?_
      change WP _ _ _ _ _ _ (rv (hC H4 1202 a0) :: _) _ _
      obtain ⟨a6, ha6, h⟩ := h
      obtain ⟨ht7, h⟩ := h
      refine wp_getI (ci := 0) (j := 4) dX11_unclaim_29 fi_X11_273r rfl ha6 ht7 ?_
      change WP _ _ _ _ _ _ (.int (hI H4 104 a6 0) :: _) _ _
      exact wp_ireturn (ty := .int) dX11_unclaim_32 rfl rfl ⟨_, rfl, h⟩
    · replace h := h.2 c
      refine wp_iconst (v := (-1 : Int32)) dX11_unclaim_15 (by decide) ?_
      exact wp_ireturn (ty := .int) dX11_unclaim_16 rfl rfl ⟨_, rfl, h⟩
theorem C_X11_unclaim {d : Nat} {q : HP → Int32 → Prop} {a0 : Nat} {x1 : Int32} {H : HP} (h : wb_X11_unclaim_0 d q a0 x1 H) : CI (d + 1) 0 0 mX11_unclaim [rv (some a0), .int x1] H q := by
  refine call_of (by decide +kernel) (by simp [lg_sl, rv_cat, vc_int, vc_long, vc_float, vc_double]) ?_
  have e : lv_args 0 [rv (some a0), .int x1] = [(0, rv (some a0)), (1, .int x1)] := by simp [lv_args, rv_cat, vc_int, vc_long, vc_float, vc_double]
  rw [e]
  exact T_X11_unclaim_0 h
def wb_X11_undo_0 (d : Nat) (q : HP → Int32 → Prop) (a0 : Nat) (H : HP) : Prop :=
  tg H a0 = 12 ∧ ((¬ (hI H 1205 a0 0) = 0 → ∃ a3, (hC H 1201 a0) = some a3 ∧ (tg H a3 = 11 ∧ (CV d 0 0 mX10_copy [rv (hC H 1201 a0), rv (hC H 1203 a0)] H (fun H2 => tg H2 a0 = 12 ∧ (∃ a7, (hC H2 1202 a0) = some a7 ∧ (tg H2 a7 = 1 ∧ (CV d 0 0 mX0_copy [rv (hC H2 1202 a0), rv (hC H2 1204 a0)] H2 (fun H6 => tg H6 a0 = 12 ∧ (∃ a10, (hC H6 1201 a0) = some a10 ∧ (tg H6 a10 = 11 ∧ (q H6 (hI H6 1101 a10 0)))))))))))) ∧ ((hI H 1205 a0 0) = 0 → q H (-3 : Int32)))
set_option maxRecDepth 40000 in
set_option maxHeartbeats 4000000 in
theorem T_X11_undo_0 {d : Nat} {q : HP → Int32 → Prop} {a0 : Nat} {H : HP} (h : wb_X11_undo_0 d q a0 H) : WP (d + 1) mX11_undo 0 0 0 [(0, rv (some a0))] [] H (qI q) := by
  unfold wb_X11_undo_0 at h
  refine wp_aload_n 0 dX11_undo_0 rfl ?_
  obtain ⟨ht1, h⟩ := h
  refine wp_getI (ci := 11) (j := 5) dX11_undo_1 fi_X11_394r rfl rfl ht1 ?_
  change WP _ _ _ _ _ _ (.int (hI H 1205 a0 0) :: _) _ _
  refine wp_if_ne (tgt := 10) dX11_undo_4 rfl (fun c => ?_) (fun c => ?_)
  · replace h := h.1 c
    refine wp_aload_n 0 dX11_undo_10 rfl ?_
    refine wp_getC (ci := 11) (j := 1) dX11_undo_11 fi_X11_21r rfl rfl ht1 ?_
    change WP _ _ _ _ _ _ (rv (hC H 1201 a0) :: _) _ _
    refine wp_aload_n 0 dX11_undo_14 rfl ?_
    refine wp_getC (ci := 11) (j := 3) dX11_undo_15 fi_X11_32r rfl rfl ht1 ?_
    change WP _ _ _ _ _ _ (rv (hC H 1203 a0) :: _) _ _
    obtain ⟨a3, ha3, h⟩ := h
    obtain ⟨ht4, h⟩ := h
    refine wp_callV (ci := 10) (As := [rv (hC H 1203 a0)]) (rest := []) (mc := 0) (ms := 0) dX11_undo_18 lk_X11_388 rfl rfl (by decide) ha3 rfl rfl ht4 rfl rfl rfl w_5_196 (Call.weaken h ?_)
    rintro H2 _ ⟨rfl, h⟩
    change WP _ _ _ _ _ _ [] H2 _
    refine wp_aload_n 0 dX11_undo_21 rfl ?_
    obtain ⟨ht5, h⟩ := h
    refine wp_getC (ci := 11) (j := 2) dX11_undo_22 fi_X11_28r rfl rfl ht5 ?_
    change WP _ _ _ _ _ _ (rv (hC H2 1202 a0) :: _) _ _
    refine wp_aload_n 0 dX11_undo_25 rfl ?_
    refine wp_getC (ci := 11) (j := 4) dX11_undo_26 fi_X11_35r rfl rfl ht5 ?_
    change WP _ _ _ _ _ _ (rv (hC H2 1204 a0) :: _) _ _
    obtain ⟨a7, ha7, h⟩ := h
    obtain ⟨ht8, h⟩ := h
    refine wp_callV (ci := 0) (As := [rv (hC H2 1204 a0)]) (rest := []) (mc := 0) (ms := 0) dX11_undo_29 lk_X11_391 rfl rfl (by decide) ha7 rfl rfl ht8 rfl rfl rfl w_5_200 (Call.weaken h ?_)
    rintro H6 _ ⟨rfl, h⟩
    change WP _ _ _ _ _ _ [] H6 _
    refine wp_aload_n 0 dX11_undo_32 rfl ?_
    obtain ⟨ht9, h⟩ := h
    refine wp_getC (ci := 11) (j := 1) dX11_undo_33 fi_X11_21r rfl rfl ht9 ?_
    change WP _ _ _ _ _ _ (rv (hC H6 1201 a0) :: _) _ _
    obtain ⟨a10, ha10, h⟩ := h
    obtain ⟨ht11, h⟩ := h
    refine wp_getI (ci := 10) (j := 1) dX11_undo_36 fi_X11_119r rfl ha10 ht11 ?_
    change WP _ _ _ _ _ _ (.int (hI H6 1101 a10 0) :: _) _ _
    exact wp_ireturn (ty := .int) dX11_undo_39 rfl rfl ⟨_, rfl, h⟩
  · replace h := h.2 c
    refine wp_bipush (v := (-3 : Int32)) dX11_undo_7 (by decide) ?_
    exact wp_ireturn (ty := .int) dX11_undo_9 rfl rfl ⟨_, rfl, h⟩
theorem C_X11_undo {d : Nat} {q : HP → Int32 → Prop} {a0 : Nat} {H : HP} (h : wb_X11_undo_0 d q a0 H) : CI (d + 1) 0 0 mX11_undo [rv (some a0)] H q := by
  refine call_of (by decide +kernel) (by simp [lg_sl, rv_cat, vc_int, vc_long, vc_float, vc_double]) ?_
  have e : lv_args 0 [rv (some a0)] = [(0, rv (some a0))] := by simp [lv_args, rv_cat, vc_int, vc_long, vc_float, vc_double]
  rw [e]
  exact T_X11_undo_0 h
def wb_X11_value_0 (d : Nat) (q : HP → Int64 → Prop) (a0 : Nat) (x1 : Int32) (x2 : Int32) (H : HP) : Prop :=
  tg H a0 = 12 ∧ (CR d 0 0 mX11_provedStep [rv (some a0), .int x1] H (fun H1 r3 => (r3 = none → q H1 (-9223372036854775808 : Int64)) ∧ (∀ a4, r3 = some a4 → tg H1 a4 = 7 ∧ (∃ a7, (hC H1 712 a4) = some a7 ∧ (tg H1 a7 = 4 ∧ (CJ d 0 0 mX3_part [rv (hC H1 712 a4), .int x2] H1 (fun H6 r9 => q H6 r9)))))))
set_option maxRecDepth 40000 in
set_option maxHeartbeats 4000000 in
theorem T_X11_value_0 {d : Nat} {q : HP → Int64 → Prop} {a0 : Nat} {x1 : Int32} {x2 : Int32} {H : HP} (h : wb_X11_value_0 d q a0 x1 x2 H) : WP (d + 1) mX11_value 0 0 0 [(0, rv (some a0)), (1, .int x1), (2, .int x2)] [] H (qJ q) := by
  unfold wb_X11_value_0 at h
  refine wp_aload_n 0 dX11_value_0 rfl ?_
  refine wp_iload_n 1 dX11_value_1 rfl ?_
  obtain ⟨ht2, h⟩ := h
  refine wp_callV (ci := 11) (As := [.int x1]) (rest := []) (mc := 0) (ms := 0) dX11_value_2 lk_X11_232 rfl rfl (by decide) rfl rfl rfl ht2 rfl rfl rfl w_4_156 (Call.weaken h ?_)
  rintro H1 _ ⟨r3, rfl, h⟩
  change WP _ _ _ _ _ _ [rv r3] H1 _
  refine wp_astore_n (ls' := [(3, rv r3), (0, rv (some a0)), (1, .int x1), (2, .int x2)]) dX11_value_5 (by decide) rfl ?_
  refine wp_aload_n 0 dX11_value_6 rfl ?_
  refine wp_ifnonnull (tgt := 16) dX11_value_7 rfl (fun a4 ha4 => ?_) (fun c => ?_)
  · replace h := h.2 a4 ha4
    refine wp_aload_n 0 dX11_value_16 rfl ?_
    obtain ⟨ht5, h⟩ := h
    refine wp_getC (ci := 6) (j := 12) dX11_value_17 fi_X11_220 rfl ha4 ht5 ?_
    change WP _ _ _ _ _ _ (rv (hC H1 712 a4) :: _) _ _
    refine wp_iload_n 3 dX11_value_20 rfl ?_
    obtain ⟨a7, ha7, h⟩ := h
    obtain ⟨ht8, h⟩ := h
    refine wp_callV (ci := 3) (As := [.int x2]) (rest := []) (mc := 0) (ms := 0) dX11_value_21 lk_X11_146 rfl rfl (by decide) ha7 rfl rfl ht8 rfl rfl rfl w_3_211 (Call.weaken h ?_)
    rintro H6 _ ⟨r9, rfl, h⟩
    change WP _ _ _ _ _ _ [.long r9] H6 _
    exact wp_lreturn dX11_value_24 rfl ⟨_, rfl, h⟩
  · replace h := h.1 c
    refine wp_ldc2 dX11_value_10 w_3_210 ?_
    refine wp_goto (tgt := 24) dX11_value_13 rfl ?_
    exact wp_lreturn dX11_value_24 rfl ⟨_, rfl, h⟩
theorem C_X11_value {d : Nat} {q : HP → Int64 → Prop} {a0 : Nat} {x1 : Int32} {x2 : Int32} {H : HP} (h : wb_X11_value_0 d q a0 x1 x2 H) : CJ (d + 1) 0 0 mX11_value [rv (some a0), .int x1, .int x2] H q := by
  refine call_of (by decide +kernel) (by simp [lg_sl, rv_cat, vc_int, vc_long, vc_float, vc_double]) ?_
  have e : lv_args 0 [rv (some a0), .int x1, .int x2] = [(0, rv (some a0)), (1, .int x1), (2, .int x2)] := by simp [lv_args, rv_cat, vc_int, vc_long, vc_float, vc_double]
  rw [e]
  exact T_X11_value_0 h
def wb_X4_append_0 (d : Nat) (q : HP → Option Nat → Prop) (a0 : Nat) (x1 : Int32) (o2 : Option Nat) (o3 : Option Nat) (H : HP) : Prop :=
  tg H a0 = 5 ∧ (((hI H 501 a0 0) < (60 : Int32) → ∃ a2, (hC H 500 a0) = some a2 ∧ (isA H a2 7 ∧ (vp_in (hI H 501 a0 0) (ln H a2) ∧ (∃ a6, (hR H (tg H a2) a2 (hI H 501 a0 0).toNatClampNeg) = some a6 ∧ (tg H a6 = 7 ∧ (CV d 0 0 mX6_start [rv (hR H (tg H a2) a2 (hI H 501 a0 0).toNatClampNeg), .int x1, rv o2, rv o3] H (fun H5 => tg H5 a0 = 5 ∧ (q (sI H5 501 a0 0 ((hI H5 501 a0 0) + (1 : Int32))) (hR H (tg H a2) a2 (hI H 501 a0 0).toNatClampNeg))))))))) ∧ (¬ ((hI H 501 a0 0) < (60 : Int32)) → q H none))
set_option maxRecDepth 40000 in
set_option maxHeartbeats 4000000 in
theorem T_X4_append_0 {d : Nat} {q : HP → Option Nat → Prop} {a0 : Nat} {x1 : Int32} {o2 : Option Nat} {o3 : Option Nat} {H : HP} (h : wb_X4_append_0 d q a0 x1 o2 o3 H) : WP (d + 1) mX4_append 0 0 0 [(0, rv (some a0)), (1, .int x1), (2, rv o2), (3, rv o3)] [] H (qR q) := by
  unfold wb_X4_append_0 at h
  refine wp_aload_n 0 dX4_append_0 rfl ?_
  obtain ⟨ht1, h⟩ := h
  refine wp_getI (ci := 4) (j := 1) dX4_append_1 fi_X4_17r rfl rfl ht1 ?_
  change WP _ _ _ _ _ _ (.int (hI H 501 a0 0) :: _) _ _
  refine wp_bipush (v := (60 : Int32)) dX4_append_4 (by decide) ?_
  refine wp_icmp_lt (tgt := 11) dX4_append_6 rfl (fun c => ?_) (fun c => ?_)
  · replace h := h.1 c
    refine wp_aload_n 0 dX4_append_11 rfl ?_
    refine wp_getC (ci := 4) (j := 0) dX4_append_12 fi_X4_11r rfl rfl ht1 ?_
    change WP _ _ _ _ _ _ (rv (hC H 500 a0) :: _) _ _
    refine wp_aload_n 0 dX4_append_15 rfl ?_
    refine wp_getI (ci := 4) (j := 1) dX4_append_16 fi_X4_17r rfl rfl ht1 ?_
    change WP _ _ _ _ _ _ (.int (hI H 501 a0 0) :: _) _ _
    obtain ⟨a2, ha2, h⟩ := h
    obtain ⟨hr3, h⟩ := h
    obtain ⟨hg4, h⟩ := h
    refine wp_aaload (e := 7) dX4_append_19 ha2 hr3 (by decide) hg4 ?_
    refine wp_astore (ls' := [(4, rv (hR H (tg H a2) a2 (hI H 501 a0 0).toNatClampNeg)), (0, rv (some a0)), (1, .int x1), (2, rv o2), (3, rv o3)]) dX4_append_20 (by decide) (by change st1 _ 4 _ = _; simp [st1, rv_cat, vc_int, vc_long, vc_float, vc_double]) ?_
    refine wp_aload 0 dX4_append_22 rfl ?_
    refine wp_iload_n 2 dX4_append_24 rfl ?_
    refine wp_aload_n 3 dX4_append_25 rfl ?_
    refine wp_aload_n 4 dX4_append_26 rfl ?_
    obtain ⟨a6, ha6, h⟩ := h
    obtain ⟨ht7, h⟩ := h
    refine wp_callV (ci := 6) (As := [.int x1, rv o2, rv o3]) (rest := []) (mc := 0) (ms := 0) dX4_append_27 lk_X4_90 rfl rfl (by decide) ha6 rfl rfl ht7 rfl rfl rfl w_4_30 (Call.weaken h ?_)
    rintro H5 _ ⟨rfl, h⟩
    change WP _ _ _ _ _ _ [] H5 _
    refine wp_aload_n 1 dX4_append_30 rfl ?_
    refine wp_dup dX4_append_31 (rv_cat _) ?_
    obtain ⟨ht8, h⟩ := h
    refine wp_getI (ci := 4) (j := 1) dX4_append_32 fi_X4_17r rfl rfl ht8 ?_
    change WP _ _ _ _ _ _ (.int (hI H5 501 a0 0) :: _) _ _
    refine wp_iconst (v := (1 : Int32)) dX4_append_35 (by decide) ?_
    refine wp_iadd dX4_append_36 ?_
    refine wp_putI (ci := 4) (j := 1) dX4_append_37 fi_X4_17 rfl (fun z => by cases z) rfl ht8 rfl rfl ?_
    change WP _ _ _ _ _ _ _ (sI H5 501 a0 0 ((hI H5 501 a0 0) + (1 : Int32))) _
    refine wp_aload 0 dX4_append_40 rfl ?_
    exact wp_areturn dX4_append_42 rfl ⟨_, rfl, h⟩
  · replace h := h.2 c
    refine wp_null dX4_append_9 ?_
    exact wp_areturn dX4_append_10 rfl ⟨_, rfl, h⟩
theorem C_X4_append {d : Nat} {q : HP → Option Nat → Prop} {a0 : Nat} {x1 : Int32} {o2 : Option Nat} {o3 : Option Nat} {H : HP} (h : wb_X4_append_0 d q a0 x1 o2 o3 H) : CR (d + 1) 0 0 mX4_append [rv (some a0), .int x1, rv o2, rv o3] H q := by
  refine call_of (by decide +kernel) (by simp [lg_sl, rv_cat, vc_int, vc_long, vc_float, vc_double]) ?_
  have e : lv_args 0 [rv (some a0), .int x1, rv o2, rv o3] = [(0, rv (some a0)), (1, .int x1), (2, rv o2), (3, rv o3)] := by simp [lv_args, rv_cat, vc_int, vc_long, vc_float, vc_double]
  rw [e]
  exact T_X4_append_0 h
/-- UnitProver$Proof.findUnits(LUnitProver$Step;LUnitProver$Tape;LUnitProver$Units;)Z: the loop at 3 -/
def L_X4_findUnits_3 (d : Nat) (q : HP → Bool → Prop) (a0 : Nat) (o1 : Option Nat) (o2 : Option Nat) (o3 : Option Nat) (x4 : Int32) (H : HP) : Prop := WP (d + 1) mX4_findUnits 0 0 3 [(0, rv (some a0)), (1, rv o1), (2, rv o2), (3, rv o3), (4, .int x4)] [] H (qZ q)
def wb_X4_findUnits_0 (d : Nat) (q : HP → Bool → Prop) (a0 : Nat) (o1 : Option Nat) (o2 : Option Nat) (o3 : Option Nat) (H : HP) : Prop :=
  L_X4_findUnits_3 d q a0 o1 o2 o3 (0 : Int32) H
set_option maxRecDepth 40000 in
set_option maxHeartbeats 4000000 in
theorem T_X4_findUnits_0 {d : Nat} {q : HP → Bool → Prop} {a0 : Nat} {o1 : Option Nat} {o2 : Option Nat} {o3 : Option Nat} {H : HP} (h : wb_X4_findUnits_0 d q a0 o1 o2 o3 H) : WP (d + 1) mX4_findUnits 0 0 0 [(0, rv (some a0)), (1, rv o1), (2, rv o2), (3, rv o3)] [] H (qZ q) := by
  unfold wb_X4_findUnits_0 at h
  refine wp_iconst (v := (0 : Int32)) dX4_findUnits_0 (by decide) ?_
  refine wp_istore (ls' := [(4, .int (0 : Int32)), (0, rv (some a0)), (1, rv o1), (2, rv o2), (3, rv o3)]) dX4_findUnits_1 (by decide) (by change st1 _ 4 _ = _; simp [st1, rv_cat, vc_int, vc_long, vc_float, vc_double]) ?_
  refine wp_sub (ls' := [(0, rv (some a0)), (1, rv o1), (2, rv o2), (3, rv o3), (4, .int (0 : Int32))]) [1, 2, 3, 4, 0] rfl ?_
  exact h
def wb_X4_findUnits_3 (d : Nat) (q : HP → Bool → Prop) (a0 : Nat) (o1 : Option Nat) (o2 : Option Nat) (o3 : Option Nat) (x4 : Int32) (H : HP) : Prop :=
  ∃ a1, o1 = some a1 ∧ (tg H a1 = 7 ∧ (((hI H 705 a1 0) ≤ x4 → q H true) ∧ (¬ ((hI H 705 a1 0) ≤ x4) → ((4 : Int32) ≤ x4 → q H true) ∧ (¬ ((4 : Int32) ≤ x4) → tg H a0 = 5 ∧ (∃ a4, (hC H 709 a1) = some a4 ∧ (isA H a4 0 ∧ (vp_in x4 (ln H a4) ∧ (∃ a7, (hC H 710 a1) = some a7 ∧ (isA H a7 0 ∧ (vp_in x4 (ln H a7) ∧ (∃ a11, o3 = some a11 ∧ (tg H a11 = 11 ∧ (CI d 0 0 mX10_numberOf [rv o3, rv o2, .int (hI H (tg H a4) a4 x4.toNatClampNeg), .int (hI H (tg H a7) a7 x4.toNatClampNeg)] H (fun H10 r13 => tg H10 a11 = 11 ∧ (CR d 0 0 mX10_at [rv o3, .int r13] H10 (fun H14 r16 => ∃ a17, (hC H 505 a0) = some a17 ∧ (isA H14 a17 6 ∧ (vp_in x4 (ln H14 a17) ∧ ((∀ x, r16 = some x → tg H14 x = 10) ∧ (tg (sR H14 (tg H14 a17) a17 x4.toNatClampNeg r16) a0 = 5 ∧ (∃ a22, (hC (sR H14 (tg H14 a17) a17 x4.toNatClampNeg r16) 505 a0) = some a22 ∧ (isA (sR H14 (tg H14 a17) a17 x4.toNatClampNeg r16) a22 6 ∧ (vp_in x4 (ln (sR H14 (tg H14 a17) a17 x4.toNatClampNeg r16) a22) ∧ (((hR (sR H14 (tg H14 a17) a17 x4.toNatClampNeg r16) (tg (sR H14 (tg H14 a17) a17 x4.toNatClampNeg r16) a22) a22 x4.toNatClampNeg) = none → q (sR H14 (tg H14 a17) a17 x4.toNatClampNeg r16) false) ∧ (∀ a25, (hR (sR H14 (tg H14 a17) a17 x4.toNatClampNeg r16) (tg (sR H14 (tg H14 a17) a17 x4.toNatClampNeg r16) a22) a22 x4.toNatClampNeg) = some a25 → L_X4_findUnits_3 d q a0 o1 o2 o3 (x4 + 1) (sR H14 (tg H14 a17) a17 x4.toNatClampNeg r16))))))))))))))))))))))))))
set_option maxRecDepth 40000 in
set_option maxHeartbeats 4000000 in
theorem T_X4_findUnits_3 {d : Nat} {q : HP → Bool → Prop} {a0 : Nat} {o1 : Option Nat} {o2 : Option Nat} {o3 : Option Nat} {x4 : Int32} {H : HP} (h : wb_X4_findUnits_3 d q a0 o1 o2 o3 x4 H) : L_X4_findUnits_3 d q a0 o1 o2 o3 x4 H := by
  unfold wb_X4_findUnits_3 at h
  unfold L_X4_findUnits_3
  refine wp_iload 4 dX4_findUnits_3 rfl ?_
  refine wp_aload_n 1 dX4_findUnits_5 rfl ?_
  obtain ⟨a1, ha1, h⟩ := h
  obtain ⟨ht2, h⟩ := h
  refine wp_getI (ci := 6) (j := 5) dX4_findUnits_6 fi_X4_119r rfl ha1 ht2 ?_
  change WP _ _ _ _ _ _ (.int (hI H 705 a1 0) :: _) _ _
  refine wp_icmp_ge (tgt := 66) dX4_findUnits_9 rfl (fun c => ?_) (fun c => ?_)
  · replace h := h.1 c
    refine wp_iconst (v := (1 : Int32)) dX4_findUnits_66 (by decide) ?_
    exact wp_ireturn (ty := .boolean) dX4_findUnits_67 rfl rfl ⟨true, rfl, h⟩
  · replace h := h.2 c
    refine wp_iload 4 dX4_findUnits_12 rfl ?_
    refine wp_iconst (v := (4 : Int32)) dX4_findUnits_14 (by decide) ?_
    refine wp_icmp_ge (tgt := 66) dX4_findUnits_15 rfl (fun c => ?_) (fun c => ?_)
    · replace h := h.1 c
      refine wp_iconst (v := (1 : Int32)) dX4_findUnits_66 (by decide) ?_
      exact wp_ireturn (ty := .boolean) dX4_findUnits_67 rfl rfl ⟨true, rfl, h⟩
    · replace h := h.2 c
      refine wp_aload_n 0 dX4_findUnits_18 rfl ?_
      obtain ⟨ht3, h⟩ := h
      refine wp_getC (ci := 4) (j := 5) dX4_findUnits_19 fi_X4_33r rfl rfl ht3 ?_
      change WP _ _ _ _ _ _ (rv (hC H 505 a0) :: _) _ _
      refine wp_iload 4 dX4_findUnits_22 rfl ?_
      refine wp_aload_n 3 dX4_findUnits_24 rfl ?_
      refine wp_aload_n 3 dX4_findUnits_25 rfl ?_
      refine wp_aload_n 2 dX4_findUnits_26 rfl ?_
      refine wp_aload_n 1 dX4_findUnits_27 rfl ?_
      refine wp_getC (ci := 6) (j := 9) dX4_findUnits_28 fi_X4_122 rfl ha1 ht2 ?_
      change WP _ _ _ _ _ _ (rv (hC H 709 a1) :: _) _ _
      refine wp_iload 4 dX4_findUnits_31 rfl ?_
      obtain ⟨a4, ha4, h⟩ := h
      obtain ⟨hr5, h⟩ := h
      obtain ⟨hg6, h⟩ := h
      refine wp_iaload dX4_findUnits_33 ha4 hr5 hg6 ?_
      refine wp_aload_n 1 dX4_findUnits_34 rfl ?_
      refine wp_getC (ci := 6) (j := 10) dX4_findUnits_35 fi_X4_126 rfl ha1 ht2 ?_
      change WP _ _ _ _ _ _ (rv (hC H 710 a1) :: _) _ _
      refine wp_iload 4 dX4_findUnits_38 rfl ?_
      obtain ⟨a7, ha7, h⟩ := h
      obtain ⟨hr8, h⟩ := h
      obtain ⟨hg9, h⟩ := h
      refine wp_iaload dX4_findUnits_40 ha7 hr8 hg9 ?_
      obtain ⟨a11, ha11, h⟩ := h
      obtain ⟨ht12, h⟩ := h
      refine wp_callV (ci := 10) (As := [rv o2, .int (hI H (tg H a4) a4 x4.toNatClampNeg), .int (hI H (tg H a7) a7 x4.toNatClampNeg)]) (rest := [rv o3, .int x4, rv (hC H 505 a0)]) (mc := 0) (ms := 0) dX4_findUnits_41 lk_X4_129 rfl rfl (by simp [rv_cat, vc_int, vc_long, vc_float, vc_double]) ha11 rfl rfl ht12 rfl rfl rfl w_4_68 (Call.weaken h ?_)
      rintro H10 _ ⟨r13, rfl, h⟩
      change WP _ _ _ _ _ _ [.int r13, rv o3, .int x4, rv (hC H 505 a0)] H10 _
      obtain ⟨ht15, h⟩ := h
      refine wp_callV (ci := 10) (As := [.int r13]) (rest := [.int x4, rv (hC H 505 a0)]) (mc := 0) (ms := 0) dX4_findUnits_44 lk_X4_135 rfl rfl (by simp [rv_cat, vc_int, vc_long, vc_float, vc_double]) ha11 rfl rfl ht15 rfl rfl rfl w_4_69 (Call.weaken h ?_)
      rintro H14 _ ⟨r16, rfl, h⟩
      change WP _ _ _ _ _ _ [rv r16, .int x4, rv (hC H 505 a0)] H14 _
      obtain ⟨a17, ha17, h⟩ := h
      obtain ⟨hr18, h⟩ := h
      obtain ⟨hg19, h⟩ := h
      obtain ⟨hg20, h⟩ := h
      refine wp_aastore (e := 6) (ci := 9) dX4_findUnits_47 ha17 hr18 (by decide) hg19 rfl el_6 hg20 ?_
      change WP _ _ _ _ _ _ _ (sR H14 (tg H14 a17) a17 x4.toNatClampNeg r16) _
      refine wp_aload_n 0 dX4_findUnits_48 rfl ?_
      obtain ⟨ht21, h⟩ := h
      refine wp_getC (ci := 4) (j := 5) dX4_findUnits_49 fi_X4_33r rfl rfl ht21 ?_
      change WP _ _ _ _ _ _ (rv (hC (sR H14 (tg H14 a17) a17 x4.toNatClampNeg r16) 505 a0) :: _) _ _
      refine wp_iload 4 dX4_findUnits_52 rfl ?_
      obtain ⟨a22, ha22, h⟩ := h
      obtain ⟨hr23, h⟩ := h
      obtain ⟨hg24, h⟩ := h
      refine wp_aaload (e := 6) dX4_findUnits_54 ha22 hr23 (by decide) hg24 ?_
      refine wp_ifnonnull (tgt := 60) dX4_findUnits_55 rfl (fun a25 ha25 => ?_) (fun c => ?_)
      · replace h := h.2 a25 ha25
        refine wp_iinc (v := (x4 + 1)) (ls' := [(4, .int (x4 + 1)), (0, rv (some a0)), (1, rv o1), (2, rv o2), (3, rv o3)]) 4 dX4_findUnits_60 rfl rfl (by decide) (by simp [st1, rv_cat, vc_int, vc_long, vc_float, vc_double]) ?_
        refine wp_goto (tgt := 3) dX4_findUnits_63 rfl ?_
        refine wp_sub (ls' := [(0, rv (some a0)), (1, rv o1), (2, rv o2), (3, rv o3), (4, .int (x4 + 1))]) [1, 2, 3, 4, 0] rfl ?_
        exact h
      · replace h := h.1 c
        refine wp_iconst (v := (0 : Int32)) dX4_findUnits_58 (by decide) ?_
        exact wp_ireturn (ty := .boolean) dX4_findUnits_59 rfl rfl ⟨false, rfl, h⟩
theorem C_X4_findUnits {d : Nat} {q : HP → Bool → Prop} {a0 : Nat} {o1 : Option Nat} {o2 : Option Nat} {o3 : Option Nat} {H : HP} (h : wb_X4_findUnits_0 d q a0 o1 o2 o3 H) : CZ (d + 1) 0 0 mX4_findUnits [rv (some a0), rv o1, rv o2, rv o3] H q := by
  refine call_of (by decide +kernel) (by simp [lg_sl, rv_cat, vc_int, vc_long, vc_float, vc_double]) ?_
  have e : lv_args 0 [rv (some a0), rv o1, rv o2, rv o3] = [(0, rv (some a0)), (1, rv o1), (2, rv o2), (3, rv o3)] := by simp [lv_args, rv_cat, vc_int, vc_long, vc_float, vc_double]
  rw [e]
  exact T_X4_findUnits_0 h
/-- UnitProver$Proof.heldParts()I: the loop at 4 -/
def L_X4_heldParts_4 (d : Nat) (q : HP → Int32 → Prop) (a0 : Nat) (x1 : Int32) (x2 : Int32) (H : HP) : Prop := WP (d + 1) mX4_heldParts 0 0 4 [(0, rv (some a0)), (1, .int x1), (2, .int x2)] [] H (qI q)
def wb_X4_heldParts_0 (d : Nat) (q : HP → Int32 → Prop) (a0 : Nat) (H : HP) : Prop :=
  L_X4_heldParts_4 d q a0 (0 : Int32) (0 : Int32) H
set_option maxRecDepth 40000 in
set_option maxHeartbeats 4000000 in
theorem T_X4_heldParts_0 {d : Nat} {q : HP → Int32 → Prop} {a0 : Nat} {H : HP} (h : wb_X4_heldParts_0 d q a0 H) : WP (d + 1) mX4_heldParts 0 0 0 [(0, rv (some a0))] [] H (qI q) := by
  unfold wb_X4_heldParts_0 at h
  refine wp_iconst (v := (0 : Int32)) dX4_heldParts_0 (by decide) ?_
  refine wp_istore_n (ls' := [(1, .int (0 : Int32)), (0, rv (some a0))]) dX4_heldParts_1 (by decide) rfl ?_
  refine wp_iconst (v := (0 : Int32)) dX4_heldParts_2 (by decide) ?_
  refine wp_istore_n (ls' := [(2, .int (0 : Int32)), (1, .int (0 : Int32)), (0, rv (some a0))]) dX4_heldParts_3 (by decide) rfl ?_
  refine wp_sub (ls' := [(0, rv (some a0)), (1, .int (0 : Int32)), (2, .int (0 : Int32))]) [2, 1, 0] rfl ?_
  exact h
def wb_X4_heldParts_4 (d : Nat) (q : HP → Int32 → Prop) (a0 : Nat) (x1 : Int32) (x2 : Int32) (H : HP) : Prop :=
  tg H a0 = 5 ∧ (((hI H 502 a0 0) ≤ x2 → q H x1) ∧ (¬ ((hI H 502 a0 0) ≤ x2) → ((60 : Int32) ≤ x2 → q H x1) ∧ (¬ ((60 : Int32) ≤ x2) → ∃ a2, (hC H 500 a0) = some a2 ∧ (isA H a2 7 ∧ (vp_in x2 (ln H a2) ∧ (∃ a5, (hR H (tg H a2) a2 x2.toNatClampNeg) = some a5 ∧ (tg H a5 = 7 ∧ ((¬ (hI H 700 a5 0) = 0 → L_X4_heldParts_4 d q a0 (x1 + (0 : Int32)) (x2 + 1) H) ∧ ((hI H 700 a5 0) = 0 → L_X4_heldParts_4 d q a0 (x1 + (1 : Int32)) (x2 + 1) H)))))))))
set_option maxRecDepth 40000 in
set_option maxHeartbeats 4000000 in
theorem T_X4_heldParts_4 {d : Nat} {q : HP → Int32 → Prop} {a0 : Nat} {x1 : Int32} {x2 : Int32} {H : HP} (h : wb_X4_heldParts_4 d q a0 x1 x2 H) : L_X4_heldParts_4 d q a0 x1 x2 H := by
  unfold wb_X4_heldParts_4 at h
  unfold L_X4_heldParts_4
  refine wp_iload_n 2 dX4_heldParts_4 rfl ?_
  refine wp_aload_n 0 dX4_heldParts_5 rfl ?_
  obtain ⟨ht1, h⟩ := h
  refine wp_getI (ci := 4) (j := 2) dX4_heldParts_6 fi_X4_21r rfl rfl ht1 ?_
  change WP _ _ _ _ _ _ (.int (hI H 502 a0 0) :: _) _ _
  refine wp_icmp_ge (tgt := 44) dX4_heldParts_9 rfl (fun c => ?_) (fun c => ?_)
  · replace h := h.1 c
    refine wp_iload_n 1 dX4_heldParts_44 rfl ?_
    exact wp_ireturn (ty := .int) dX4_heldParts_45 rfl rfl ⟨_, rfl, h⟩
  · replace h := h.2 c
    refine wp_iload_n 2 dX4_heldParts_12 rfl ?_
    refine wp_bipush (v := (60 : Int32)) dX4_heldParts_13 (by decide) ?_
    refine wp_icmp_ge (tgt := 44) dX4_heldParts_15 rfl (fun c => ?_) (fun c => ?_)
    · replace h := h.1 c
      refine wp_iload_n 1 dX4_heldParts_44 rfl ?_
      exact wp_ireturn (ty := .int) dX4_heldParts_45 rfl rfl ⟨_, rfl, h⟩
    · replace h := h.2 c
      refine wp_iload_n 1 dX4_heldParts_18 rfl ?_
      refine wp_aload_n 0 dX4_heldParts_19 rfl ?_
      refine wp_getC (ci := 4) (j := 0) dX4_heldParts_20 fi_X4_11r rfl rfl ht1 ?_
      change WP _ _ _ _ _ _ (rv (hC H 500 a0) :: _) _ _
      refine wp_iload_n 2 dX4_heldParts_23 rfl ?_
      obtain ⟨a2, ha2, h⟩ := h
      obtain ⟨hr3, h⟩ := h
      obtain ⟨hg4, h⟩ := h
      refine wp_aaload (e := 7) dX4_heldParts_24 ha2 hr3 (by decide) hg4 ?_
      obtain ⟨a5, ha5, h⟩ := h
      obtain ⟨ht6, h⟩ := h
      refine wp_getI (ci := 6) (j := 0) dX4_heldParts_25 fi_X4_67r rfl ha5 ht6 ?_
      change WP _ _ _ _ _ _ (.int (hI H 700 a5 0) :: _) _ _
      refine wp_if_ne (tgt := 35) dX4_heldParts_28 rfl (fun c => ?_) (fun c => ?_)
      · replace h := h.1 c
        refine wp_iconst (v := (0 : Int32)) dX4_heldParts_35 (by decide) ?_
        refine wp_iadd dX4_heldParts_36 ?_
        refine wp_istore_n (ls' := [(1, .int (x1 + (0 : Int32))), (0, rv (some a0)), (2, .int x2)]) dX4_heldParts_37 (by decide) rfl ?_
        refine wp_iinc (v := (x2 + 1)) (ls' := [(2, .int (x2 + 1)), (1, .int (x1 + (0 : Int32))), (0, rv (some a0))]) 2 dX4_heldParts_38 rfl rfl (by decide) rfl ?_
        refine wp_goto (tgt := 4) dX4_heldParts_41 rfl ?_
        refine wp_sub (ls' := [(0, rv (some a0)), (1, .int (x1 + (0 : Int32))), (2, .int (x2 + 1))]) [2, 1, 0] rfl ?_
        exact h
      · replace h := h.2 c
        refine wp_iconst (v := (1 : Int32)) dX4_heldParts_31 (by decide) ?_
        refine wp_goto (tgt := 36) dX4_heldParts_32 rfl ?_
        refine wp_iadd dX4_heldParts_36 ?_
        refine wp_istore_n (ls' := [(1, .int (x1 + (1 : Int32))), (0, rv (some a0)), (2, .int x2)]) dX4_heldParts_37 (by decide) rfl ?_
        refine wp_iinc (v := (x2 + 1)) (ls' := [(2, .int (x2 + 1)), (1, .int (x1 + (1 : Int32))), (0, rv (some a0))]) 2 dX4_heldParts_38 rfl rfl (by decide) rfl ?_
        refine wp_goto (tgt := 4) dX4_heldParts_41 rfl ?_
        refine wp_sub (ls' := [(0, rv (some a0)), (1, .int (x1 + (1 : Int32))), (2, .int (x2 + 1))]) [2, 1, 0] rfl ?_
        exact h
theorem C_X4_heldParts {d : Nat} {q : HP → Int32 → Prop} {a0 : Nat} {H : HP} (h : wb_X4_heldParts_0 d q a0 H) : CI (d + 1) 0 0 mX4_heldParts [rv (some a0)] H q := by
  refine call_of (by decide +kernel) (by simp [lg_sl, rv_cat, vc_int, vc_long, vc_float, vc_double]) ?_
  have e : lv_args 0 [rv (some a0)] = [(0, rv (some a0))] := by simp [lv_args, rv_cat, vc_int, vc_long, vc_float, vc_double]
  rw [e]
  exact T_X4_heldParts_0 h
def wb_X4_heldStep_0 (d : Nat) (q : HP → Option Nat → Prop) (a0 : Nat) (x1 : Int32) (H : HP) : Prop :=
  (x1 < 0 → q H none) ∧ (¬ (x1 < 0) → tg H a0 = 5 ∧ (((hI H 502 a0 0) ≤ x1 → q H none) ∧ (¬ ((hI H 502 a0 0) ≤ x1) → (x1 < (60 : Int32) → ∃ a2, (hC H 500 a0) = some a2 ∧ (isA H a2 7 ∧ (vp_in x1 (ln H a2) ∧ (q H (hR H (tg H a2) a2 x1.toNatClampNeg))))) ∧ (¬ (x1 < (60 : Int32)) → q H none))))
set_option maxRecDepth 40000 in
set_option maxHeartbeats 4000000 in
theorem T_X4_heldStep_0 {d : Nat} {q : HP → Option Nat → Prop} {a0 : Nat} {x1 : Int32} {H : HP} (h : wb_X4_heldStep_0 d q a0 x1 H) : WP (d + 1) mX4_heldStep 0 0 0 [(0, rv (some a0)), (1, .int x1)] [] H (qR q) := by
  unfold wb_X4_heldStep_0 at h
  refine wp_iload_n 1 dX4_heldStep_0 rfl ?_
  refine wp_if_lt (tgt := 18) dX4_heldStep_1 rfl (fun c => ?_) (fun c => ?_)
  · replace h := h.1 c
    refine wp_null dX4_heldStep_18 ?_
    refine wp_goto (tgt := 28) dX4_heldStep_19 rfl ?_
    exact wp_areturn dX4_heldStep_28 rfl ⟨_, rfl, h⟩
  · replace h := h.2 c
    refine wp_iload_n 1 dX4_heldStep_4 rfl ?_
    refine wp_aload_n 0 dX4_heldStep_5 rfl ?_
    obtain ⟨ht1, h⟩ := h
    refine wp_getI (ci := 4) (j := 2) dX4_heldStep_6 fi_X4_21r rfl rfl ht1 ?_
    change WP _ _ _ _ _ _ (.int (hI H 502 a0 0) :: _) _ _
    refine wp_icmp_ge (tgt := 18) dX4_heldStep_9 rfl (fun c => ?_) (fun c => ?_)
    · replace h := h.1 c
      refine wp_null dX4_heldStep_18 ?_
      refine wp_goto (tgt := 28) dX4_heldStep_19 rfl ?_
      exact wp_areturn dX4_heldStep_28 rfl ⟨_, rfl, h⟩
    · replace h := h.2 c
      refine wp_iload_n 1 dX4_heldStep_12 rfl ?_
      refine wp_bipush (v := (60 : Int32)) dX4_heldStep_13 (by decide) ?_
      refine wp_icmp_lt (tgt := 22) dX4_heldStep_15 rfl (fun c => ?_) (fun c => ?_)
      · replace h := h.1 c
        refine wp_aload_n 0 dX4_heldStep_22 rfl ?_
        refine wp_getC (ci := 4) (j := 0) dX4_heldStep_23 fi_X4_11r rfl rfl ht1 ?_
        change WP _ _ _ _ _ _ (rv (hC H 500 a0) :: _) _ _
        refine wp_iload_n 1 dX4_heldStep_26 rfl ?_
        obtain ⟨a2, ha2, h⟩ := h
        obtain ⟨hr3, h⟩ := h
        obtain ⟨hg4, h⟩ := h
        refine wp_aaload (e := 7) dX4_heldStep_27 ha2 hr3 (by decide) hg4 ?_
        exact wp_areturn dX4_heldStep_28 rfl ⟨_, rfl, h⟩
      · replace h := h.2 c
        refine wp_null dX4_heldStep_18 ?_
        refine wp_goto (tgt := 28) dX4_heldStep_19 rfl ?_
        exact wp_areturn dX4_heldStep_28 rfl ⟨_, rfl, h⟩
theorem C_X4_heldStep {d : Nat} {q : HP → Option Nat → Prop} {a0 : Nat} {x1 : Int32} {H : HP} (h : wb_X4_heldStep_0 d q a0 x1 H) : CR (d + 1) 0 0 mX4_heldStep [rv (some a0), .int x1] H q := by
  refine call_of (by decide +kernel) (by simp [lg_sl, rv_cat, vc_int, vc_long, vc_float, vc_double]) ?_
  have e : lv_args 0 [rv (some a0), .int x1] = [(0, rv (some a0)), (1, .int x1)] := by simp [lv_args, rv_cat, vc_int, vc_long, vc_float, vc_double]
  rw [e]
  exact T_X4_heldStep_0 h
/-- UnitProver$Proof.<init>()V: the loop at 54 -/
def L_X4_init_54 (d : Nat) (ca sa : Nat) (q : HP → Prop) (a0 : Nat) (x1 : Int32) (H : HP) : Prop := WP (d + 1) mX4_init ca sa 54 [(0, rv (some a0)), (1, .int x1)] [] H (qV q)
def wb_X4_init_0 (d : Nat) (ca sa : Nat) (q : HP → Prop) (a0 : Nat) (H : HP) : Prop :=
  hN H < scrA ∧ (1 ≤ ca ∧ (60 ≤ sa ∧ (tg (nw H 4615 60) a0 = 5 ∧ (hN (sI (sI (sI (sI (sC (nw H 4615 60) 500 a0 (some (hN H))) 501 a0 0 (0 : Int32)) 502 a0 0 (0 : Int32)) 503 a0 0 (0 : Int32)) 504 a0 0 (0 : Int32)) < scrA ∧ (1 ≤ (ca - 1) ∧ (4 ≤ (sa - 60) ∧ (tg (nw (sI (sI (sI (sI (sC (nw H 4615 60) 500 a0 (some (hN H))) 501 a0 0 (0 : Int32)) 502 a0 0 (0 : Int32)) 503 a0 0 (0 : Int32)) 504 a0 0 (0 : Int32)) 4630 4) a0 = 5 ∧ (∀ H9, (sC (nw (sI (sI (sI (sI (sC (nw H 4615 60) 500 a0 (some (hN H))) 501 a0 0 (0 : Int32)) 502 a0 0 (0 : Int32)) 503 a0 0 (0 : Int32)) 504 a0 0 (0 : Int32)) 4630 4) 505 a0 (some (hN (sI (sI (sI (sI (sC (nw H 4615 60) 500 a0 (some (hN H))) 501 a0 0 (0 : Int32)) 502 a0 0 (0 : Int32)) 503 a0 0 (0 : Int32)) 504 a0 0 (0 : Int32))))) = H9 → (hN H9 < scrA ∧ (1 ≤ ((ca - 1) - 1) ∧ (2 ≤ ((sa - 60) - 4) ∧ (CV d 0 0 mX3_init [rv (some (hN H9))] (nw H9 4 0) (fun H15 => tg H15 a0 = 5 ∧ (L_X4_init_54 d (((ca - 1) - 1) - 1) (((sa - 60) - 4) - 2) q a0 (0 : Int32) (sC H15 506 a0 (some (hN H9)))))))))))))))))
set_option maxRecDepth 40000 in
set_option maxHeartbeats 4000000 in
theorem T_X4_init_0 {d : Nat} {ca sa : Nat} {q : HP → Prop} {a0 : Nat} {H : HP} (h : wb_X4_init_0 d ca sa q a0 H) : WP (d + 1) mX4_init ca sa 0 [(0, rv (some a0))] [] H (qV q) := by
  unfold wb_X4_init_0 at h
  refine wp_aload_n 0 dX4_init_0 rfl ?_
  refine wp_objInit dX4_init_1 w_1_230 w_1_29 w_1_30 rfl (by decide) (by omega) ?_
  refine wp_aload_n 0 dX4_init_4 rfl ?_
  refine wp_bipush (v := (60 : Int32)) dX4_init_5 (by decide) ?_
  obtain ⟨hg1, h⟩ := h
  obtain ⟨hg2, h⟩ := h
  obtain ⟨hg3, h⟩ := h
  refine wp_anewarray (t := 4615) (N := 60) (ca' := ca - 1) (sa' := sa - 60) dX4_init_7 w_1_231 (by decide) (by decide) rfl (by decide) (by decide) (by decide +kernel) hg1 (by omega) (by omega) ?_
  obtain ⟨ht4, h⟩ := h
  refine wp_putC (ci := 4) (j := 0) dX4_init_10 fi_X4_11 rfl (fun _ => rfl) rfl ht4 (Or.inr ⟨_, rfl⟩) ?_
  change WP _ _ _ _ _ _ _ (sC (nw H 4615 60) 500 a0 (some (hN H))) _
  refine wp_aload_n 0 dX4_init_13 rfl ?_
  refine wp_iconst (v := (0 : Int32)) dX4_init_14 (by decide) ?_
  refine wp_putI (ci := 4) (j := 1) dX4_init_15 fi_X4_17 rfl (fun z => by cases z) rfl ht4 rfl rfl ?_
  change WP _ _ _ _ _ _ _ (sI (sC (nw H 4615 60) 500 a0 (some (hN H))) 501 a0 0 (0 : Int32)) _
  refine wp_aload_n 0 dX4_init_18 rfl ?_
  refine wp_iconst (v := (0 : Int32)) dX4_init_19 (by decide) ?_
  refine wp_putI (ci := 4) (j := 2) dX4_init_20 fi_X4_21 rfl (fun z => by cases z) rfl ht4 rfl rfl ?_
  change WP _ _ _ _ _ _ _ (sI (sI (sC (nw H 4615 60) 500 a0 (some (hN H))) 501 a0 0 (0 : Int32)) 502 a0 0 (0 : Int32)) _
  refine wp_aload_n 0 dX4_init_23 rfl ?_
  refine wp_iconst (v := (0 : Int32)) dX4_init_24 (by decide) ?_
  refine wp_putI (ci := 4) (j := 3) dX4_init_25 fi_X4_24 rfl (fun z => by cases z) rfl ht4 rfl rfl ?_
  change WP _ _ _ _ _ _ _ (sI (sI (sI (sC (nw H 4615 60) 500 a0 (some (hN H))) 501 a0 0 (0 : Int32)) 502 a0 0 (0 : Int32)) 503 a0 0 (0 : Int32)) _
  refine wp_aload_n 0 dX4_init_28 rfl ?_
  refine wp_iconst (v := (0 : Int32)) dX4_init_29 (by decide) ?_
  refine wp_putI (ci := 4) (j := 4) dX4_init_30 fi_X4_27 rfl (fun z => by cases z) rfl ht4 rfl rfl ?_
  change WP _ _ _ _ _ _ _ (sI (sI (sI (sI (sC (nw H 4615 60) 500 a0 (some (hN H))) 501 a0 0 (0 : Int32)) 502 a0 0 (0 : Int32)) 503 a0 0 (0 : Int32)) 504 a0 0 (0 : Int32)) _
  refine wp_aload_n 0 dX4_init_33 rfl ?_
  refine wp_iconst (v := (4 : Int32)) dX4_init_34 (by decide) ?_
  obtain ⟨hg5, h⟩ := h
  obtain ⟨hg6, h⟩ := h
  obtain ⟨hg7, h⟩ := h
  refine wp_anewarray (t := 4630) (N := 4) (ca' := (ca - 1) - 1) (sa' := (sa - 60) - 4) dX4_init_35 w_1_233 (by decide) (by decide) rfl (by decide) (by decide) (by decide +kernel) hg5 (by omega) (by omega) ?_
  obtain ⟨ht8, h⟩ := h
  refine wp_putC (ci := 4) (j := 5) dX4_init_38 fi_X4_33 rfl (fun _ => rfl) rfl ht8 (Or.inr ⟨_, rfl⟩) ?_
  change WP _ _ _ _ _ _ _ (sC (nw (sI (sI (sI (sI (sC (nw H 4615 60) 500 a0 (some (hN H))) 501 a0 0 (0 : Int32)) 502 a0 0 (0 : Int32)) 503 a0 0 (0 : Int32)) 504 a0 0 (0 : Int32)) 4630 4) 505 a0 (some (hN (sI (sI (sI (sI (sC (nw H 4615 60) 500 a0 (some (hN H))) 501 a0 0 (0 : Int32)) 502 a0 0 (0 : Int32)) 503 a0 0 (0 : Int32)) 504 a0 0 (0 : Int32))))) _
  replace h := h _ rfl
  generalize e10 : (sC (nw (sI (sI (sI (sI (sC (nw H 4615 60) 500 a0 (some (hN H))) 501 a0 0 (0 : Int32)) 502 a0 0 (0 : Int32)) 503 a0 0 (0 : Int32)) 504 a0 0 (0 : Int32)) 4630 4) 505 a0 (some (hN (sI (sI (sI (sI (sC (nw H 4615 60) 500 a0 (some (hN H))) 501 a0 0 (0 : Int32)) 502 a0 0 (0 : Int32)) 503 a0 0 (0 : Int32)) 504 a0 0 (0 : Int32))))) = H9 at h ⊢
  have ht11 : tg H9 a0 = 5 := by rw [← e10]; exact ht8
  refine wp_aload_n 0 dX4_init_41 rfl ?_
  obtain ⟨hg12, h⟩ := h
  obtain ⟨hg13, h⟩ := h
  obtain ⟨hg14, h⟩ := h
  refine wp_new (ca' := ((ca - 1) - 1) - 1) (sa' := ((sa - 60) - 4) - 2) dX4_init_42 (ci := 3) (N := 2) rfl w_1_234 w_1_68 w_1_5 inG3 tyX3_ok (by decide) hg12 (by omega) (by omega) ?_
  refine wp_dup dX4_init_45 (rv_cat _) ?_
  refine wp_callI (As := []) (rest := [rv (some (hN H9)), rv (some a0)]) (mc := 0) (ms := 0) (ca' := (((ca - 1) - 1) - 1)) (sa' := (((sa - 60) - 4) - 2)) dX4_init_46 lk_X4_39 rfl rfl (by simp [rv_cat, vc_int, vc_long, vc_float, vc_double]) rfl rfl rfl rfl (Call.weaken h ?_)
  rintro H15 _ ⟨rfl, h⟩
  change WP _ _ _ _ _ _ [rv (some (hN H9)), rv (some a0)] H15 _
  obtain ⟨ht16, h⟩ := h
  refine wp_putC (ci := 4) (j := 6) dX4_init_49 fi_X4_40 rfl (fun _ => rfl) rfl ht16 (Or.inl ⟨_, rfl⟩) ?_
  change WP _ _ _ _ _ _ _ (sC H15 506 a0 (some (hN H9))) _
  refine wp_iconst (v := (0 : Int32)) dX4_init_52 (by decide) ?_
  refine wp_istore_n (ls' := [(1, .int (0 : Int32)), (0, rv (some a0))]) dX4_init_53 (by decide) rfl ?_
  refine wp_sub (ls' := [(0, rv (some a0)), (1, .int (0 : Int32))]) [1, 0] rfl ?_
  exact h
def wb_X4_init_54 (d : Nat) (ca sa : Nat) (q : HP → Prop) (a0 : Nat) (x1 : Int32) (H : HP) : Prop :=
  ((60 : Int32) ≤ x1 → q H) ∧ (¬ ((60 : Int32) ≤ x1) → tg H a0 = 5 ∧ (hN H < scrA ∧ (1 ≤ ca ∧ (13 ≤ sa ∧ (6 ≤ (ca - 1) ∧ (23 ≤ (sa - 13) ∧ (CV d 6 23 mX6_init [rv (some (hN H))] (nw H 7 0) (fun H7 => ∃ a8, (hC H 500 a0) = some a8 ∧ (isA H7 a8 7 ∧ (vp_in x1 (ln H7 a8) ∧ (tg H7 (hN H) = 7 ∧ (L_X4_init_54 d ((ca - 1) - 6) ((sa - 13) - 23) q a0 (x1 + 1) (sR H7 (tg H7 a8) a8 x1.toNatClampNeg (some (hN H)))))))))))))))
set_option maxRecDepth 40000 in
set_option maxHeartbeats 4000000 in
theorem T_X4_init_54 {d : Nat} {ca sa : Nat} {q : HP → Prop} {a0 : Nat} {x1 : Int32} {H : HP} (h : wb_X4_init_54 d ca sa q a0 x1 H) : L_X4_init_54 d ca sa q a0 x1 H := by
  unfold wb_X4_init_54 at h
  unfold L_X4_init_54
  refine wp_iload_n 1 dX4_init_54 rfl ?_
  refine wp_bipush (v := (60 : Int32)) dX4_init_55 (by decide) ?_
  refine wp_icmp_ge (tgt := 79) dX4_init_57 rfl (fun c => ?_) (fun c => ?_)
  · replace h := h.1 c
    exact wp_return dX4_init_79 rfl ⟨rfl, h⟩
  · replace h := h.2 c
    refine wp_aload_n 0 dX4_init_60 rfl ?_
    obtain ⟨ht1, h⟩ := h
    refine wp_getC (ci := 4) (j := 0) dX4_init_61 fi_X4_11r rfl rfl ht1 ?_
    change WP _ _ _ _ _ _ (rv (hC H 500 a0) :: _) _ _
    refine wp_iload_n 1 dX4_init_64 rfl ?_
    obtain ⟨hg2, h⟩ := h
    obtain ⟨hg3, h⟩ := h
    obtain ⟨hg4, h⟩ := h
    refine wp_new (ca' := ca - 1) (sa' := sa - 13) dX4_init_65 (ci := 6) (N := 13) rfl w_1_231 w_1_236 w_1_9 inG6 tyX6_ok (by decide) hg2 (by omega) (by omega) ?_
    refine wp_dup dX4_init_68 (rv_cat _) ?_
    obtain ⟨hg5, h⟩ := h
    obtain ⟨hg6, h⟩ := h
    refine wp_callI (As := []) (rest := [rv (some (hN H)), .int x1, rv (hC H 500 a0)]) (mc := 6) (ms := 23) (ca' := ((ca - 1) - 6)) (sa' := ((sa - 13) - 23)) dX4_init_69 lk_X4_44 rfl rfl (by simp [rv_cat, vc_int, vc_long, vc_float, vc_double]) rfl rfl (by omega) (by omega) (Call.weaken h ?_)
    rintro H7 _ ⟨rfl, h⟩
    change WP _ _ _ _ _ _ [rv (some (hN H)), .int x1, rv (hC H 500 a0)] H7 _
    obtain ⟨a8, ha8, h⟩ := h
    obtain ⟨hr9, h⟩ := h
    obtain ⟨hg10, h⟩ := h
    obtain ⟨ht11, h⟩ := h
    refine wp_aastore (e := 7) (ci := 6) dX4_init_72 ha8 hr9 (by decide) hg10 rfl el_7 (fun x z => by cases z; exact ht11) ?_
    change WP _ _ _ _ _ _ _ (sR H7 (tg H7 a8) a8 x1.toNatClampNeg (some (hN H))) _
    refine wp_iinc (v := (x1 + 1)) (ls' := [(1, .int (x1 + 1)), (0, rv (some a0))]) 1 dX4_init_73 rfl rfl (by decide) rfl ?_
    refine wp_goto (tgt := 54) dX4_init_76 rfl ?_
    refine wp_sub (ls' := [(0, rv (some a0)), (1, .int (x1 + 1))]) [1, 0] rfl ?_
    exact h
theorem C_X4_init {d : Nat} {ca sa : Nat} {q : HP → Prop} {a0 : Nat} {H : HP} (h : wb_X4_init_0 d ca sa q a0 H) : CV (d + 1) ca sa mX4_init [rv (some a0)] H q := by
  refine call_of (by decide +kernel) (by simp [lg_sl, rv_cat, vc_int, vc_long, vc_float, vc_double]) ?_
  have e : lv_args 0 [rv (some a0)] = [(0, rv (some a0))] := by simp [lv_args, rv_cat, vc_int, vc_long, vc_float, vc_double]
  rw [e]
  exact T_X4_init_0 h
def wb_X4_isHeld_0 (d : Nat) (q : HP → Bool → Prop) (a0 : Nat) (H : HP) : Prop :=
  tg H a0 = 5 ∧ ((¬ (hI H 503 a0 0) = 0 → q H false) ∧ ((hI H 503 a0 0) = 0 → q H true))
set_option maxRecDepth 40000 in
set_option maxHeartbeats 4000000 in
theorem T_X4_isHeld_0 {d : Nat} {q : HP → Bool → Prop} {a0 : Nat} {H : HP} (h : wb_X4_isHeld_0 d q a0 H) : WP (d + 1) mX4_isHeld 0 0 0 [(0, rv (some a0))] [] H (qZ q) := by
  unfold wb_X4_isHeld_0 at h
  refine wp_aload_n 0 dX4_isHeld_0 rfl ?_
  obtain ⟨ht1, h⟩ := h
  refine wp_getI (ci := 4) (j := 3) dX4_isHeld_1 fi_X4_24r rfl rfl ht1 ?_
  change WP _ _ _ _ _ _ (.int (hI H 503 a0 0) :: _) _ _
  refine wp_if_ne (tgt := 11) dX4_isHeld_4 rfl (fun c => ?_) (fun c => ?_)
  · replace h := h.1 c
    refine wp_iconst (v := (0 : Int32)) dX4_isHeld_11 (by decide) ?_
    exact wp_ireturn (ty := .boolean) dX4_isHeld_12 rfl rfl ⟨false, rfl, h⟩
  · replace h := h.2 c
    refine wp_iconst (v := (1 : Int32)) dX4_isHeld_7 (by decide) ?_
    refine wp_goto (tgt := 12) dX4_isHeld_8 rfl ?_
    exact wp_ireturn (ty := .boolean) dX4_isHeld_12 rfl rfl ⟨true, rfl, h⟩
theorem C_X4_isHeld {d : Nat} {q : HP → Bool → Prop} {a0 : Nat} {H : HP} (h : wb_X4_isHeld_0 d q a0 H) : CZ (d + 1) 0 0 mX4_isHeld [rv (some a0)] H q := by
  refine call_of (by decide +kernel) (by simp [lg_sl, rv_cat, vc_int, vc_long, vc_float, vc_double]) ?_
  have e : lv_args 0 [rv (some a0)] = [(0, rv (some a0))] := by simp [lv_args, rv_cat, vc_int, vc_long, vc_float, vc_double]
  rw [e]
  exact T_X4_isHeld_0 h
/-- UnitProver$Proof.proveAll(LUnitProver$Tape;LUnitProver$Units;)V: the loop at 12 -/
def L_X4_proveAll_12 (d : Nat) (q : HP → Prop) (a0 : Nat) (o1 : Option Nat) (o2 : Option Nat) (x3 : Int32) (H : HP) : Prop := WP (d + 1) mX4_proveAll 0 0 12 [(0, rv (some a0)), (1, rv o1), (2, rv o2), (3, .int x3)] [] H (qV q)
def wb_X4_proveAll_0 (d : Nat) (q : HP → Prop) (a0 : Nat) (o1 : Option Nat) (o2 : Option Nat) (H : HP) : Prop :=
  tg H a0 = 5 ∧ (L_X4_proveAll_12 d q a0 o1 o2 (0 : Int32) (sI (sI H 502 a0 0 (0 : Int32)) 503 a0 0 (0 : Int32)))
set_option maxRecDepth 40000 in
set_option maxHeartbeats 4000000 in
theorem T_X4_proveAll_0 {d : Nat} {q : HP → Prop} {a0 : Nat} {o1 : Option Nat} {o2 : Option Nat} {H : HP} (h : wb_X4_proveAll_0 d q a0 o1 o2 H) : WP (d + 1) mX4_proveAll 0 0 0 [(0, rv (some a0)), (1, rv o1), (2, rv o2)] [] H (qV q) := by
  unfold wb_X4_proveAll_0 at h
  refine wp_aload_n 0 dX4_proveAll_0 rfl ?_
  refine wp_iconst (v := (0 : Int32)) dX4_proveAll_1 (by decide) ?_
  obtain ⟨ht1, h⟩ := h
  refine wp_putI (ci := 4) (j := 2) dX4_proveAll_2 fi_X4_21 rfl (fun z => by cases z) rfl ht1 rfl rfl ?_
  change WP _ _ _ _ _ _ _ (sI H 502 a0 0 (0 : Int32)) _
  refine wp_aload_n 0 dX4_proveAll_5 rfl ?_
  refine wp_iconst (v := (0 : Int32)) dX4_proveAll_6 (by decide) ?_
  refine wp_putI (ci := 4) (j := 3) dX4_proveAll_7 fi_X4_24 rfl (fun z => by cases z) rfl ht1 rfl rfl ?_
  change WP _ _ _ _ _ _ _ (sI (sI H 502 a0 0 (0 : Int32)) 503 a0 0 (0 : Int32)) _
  refine wp_iconst (v := (0 : Int32)) dX4_proveAll_10 (by decide) ?_
  refine wp_istore_n (ls' := [(3, .int (0 : Int32)), (0, rv (some a0)), (1, rv o1), (2, rv o2)]) dX4_proveAll_11 (by decide) (by change st1 _ 3 _ = _; simp [st1, rv_cat, vc_int, vc_long, vc_float, vc_double]) ?_
  refine wp_sub (ls' := [(0, rv (some a0)), (1, rv o1), (2, rv o2), (3, .int (0 : Int32))]) [1, 2, 3, 0] rfl ?_
  exact h
def wb_X4_proveAll_12 (d : Nat) (q : HP → Prop) (a0 : Nat) (o1 : Option Nat) (o2 : Option Nat) (x3 : Int32) (H : HP) : Prop :=
  tg H a0 = 5 ∧ (((hI H 501 a0 0) ≤ x3 → q H) ∧ (¬ ((hI H 501 a0 0) ≤ x3) → ((60 : Int32) ≤ x3 → q H) ∧ (¬ ((60 : Int32) ≤ x3) → (¬ (hI H 503 a0 0) = 0 → q H) ∧ ((hI H 503 a0 0) = 0 → ∃ a2, (hC H 500 a0) = some a2 ∧ (isA H a2 7 ∧ (vp_in x3 (ln H a2) ∧ (CZ d 0 0 mX4_findUnits [rv (some a0), rv (hR H (tg H a2) a2 x3.toNatClampNeg), rv o1, rv o2] H (fun H5 b6 => (b6 = false → tg H5 a0 = 5 ∧ ((¬ (hI (sI H5 503 a0 0 (-8 : Int32)) 503 a0 0) = 0 → L_X4_proveAll_12 d q a0 o1 o2 (x3 + 1) (sI (sI H5 503 a0 0 (-8 : Int32)) 502 a0 0 ((hI (sI H5 503 a0 0 (-8 : Int32)) 502 a0 0) + (0 : Int32)))) ∧ ((hI (sI H5 503 a0 0 (-8 : Int32)) 503 a0 0) = 0 → L_X4_proveAll_12 d q a0 o1 o2 (x3 + 1) (sI (sI H5 503 a0 0 (-8 : Int32)) 502 a0 0 ((hI (sI H5 503 a0 0 (-8 : Int32)) 502 a0 0) + (1 : Int32)))))) ∧ (b6 = true → tg H5 a0 = 5 ∧ (∃ a9, (hC H5 500 a0) = some a9 ∧ (isA H5 a9 7 ∧ (vp_in x3 (ln H5 a9) ∧ (∃ a13, (hR H5 (tg H5 a9) a9 x3.toNatClampNeg) = some a13 ∧ (tg H5 a13 = 7 ∧ (CI d 0 0 mX6_judge [rv (hR H5 (tg H5 a9) a9 x3.toNatClampNeg), rv (hC H5 505 a0), rv (hC H5 506 a0)] H5 (fun H12 r15 => tg H12 a0 = 5 ∧ ((¬ (hI (sI H12 503 a0 0 r15) 503 a0 0) = 0 → L_X4_proveAll_12 d q a0 o1 o2 (x3 + 1) (sI (sI H12 503 a0 0 r15) 502 a0 0 ((hI (sI H12 503 a0 0 r15) 502 a0 0) + (0 : Int32)))) ∧ ((hI (sI H12 503 a0 0 r15) 503 a0 0) = 0 → L_X4_proveAll_12 d q a0 o1 o2 (x3 + 1) (sI (sI H12 503 a0 0 r15) 502 a0 0 ((hI (sI H12 503 a0 0 r15) 502 a0 0) + (1 : Int32)))))))))))))))))))))
set_option maxRecDepth 40000 in
set_option maxHeartbeats 4000000 in
theorem T_X4_proveAll_12 {d : Nat} {q : HP → Prop} {a0 : Nat} {o1 : Option Nat} {o2 : Option Nat} {x3 : Int32} {H : HP} (h : wb_X4_proveAll_12 d q a0 o1 o2 x3 H) : L_X4_proveAll_12 d q a0 o1 o2 x3 H := by
  unfold wb_X4_proveAll_12 at h
  unfold L_X4_proveAll_12
  refine wp_iload_n 3 dX4_proveAll_12 rfl ?_
  refine wp_aload_n 0 dX4_proveAll_13 rfl ?_
  obtain ⟨ht1, h⟩ := h
  refine wp_getI (ci := 4) (j := 1) dX4_proveAll_14 fi_X4_17r rfl rfl ht1 ?_
  change WP _ _ _ _ _ _ (.int (hI H 501 a0 0) :: _) _ _
  refine wp_icmp_ge (tgt := 101) dX4_proveAll_17 rfl (fun c => ?_) (fun c => ?_)
  · replace h := h.1 c
    exact wp_return dX4_proveAll_101 rfl ⟨rfl, h⟩
  · replace h := h.2 c
    refine wp_iload_n 3 dX4_proveAll_20 rfl ?_
    refine wp_bipush (v := (60 : Int32)) dX4_proveAll_21 (by decide) ?_
    refine wp_icmp_ge (tgt := 101) dX4_proveAll_23 rfl (fun c => ?_) (fun c => ?_)
    · replace h := h.1 c
      exact wp_return dX4_proveAll_101 rfl ⟨rfl, h⟩
    · replace h := h.2 c
      refine wp_aload_n 0 dX4_proveAll_26 rfl ?_
      refine wp_getI (ci := 4) (j := 3) dX4_proveAll_27 fi_X4_24r rfl rfl ht1 ?_
      change WP _ _ _ _ _ _ (.int (hI H 503 a0 0) :: _) _ _
      refine wp_if_ne (tgt := 101) dX4_proveAll_30 rfl (fun c => ?_) (fun c => ?_)
      · replace h := h.1 c
        exact wp_return dX4_proveAll_101 rfl ⟨rfl, h⟩
      · replace h := h.2 c
        refine wp_aload_n 0 dX4_proveAll_33 rfl ?_
        refine wp_aload_n 0 dX4_proveAll_34 rfl ?_
        refine wp_aload_n 0 dX4_proveAll_35 rfl ?_
        refine wp_getC (ci := 4) (j := 0) dX4_proveAll_36 fi_X4_11r rfl rfl ht1 ?_
        change WP _ _ _ _ _ _ (rv (hC H 500 a0) :: _) _ _
        refine wp_iload_n 3 dX4_proveAll_39 rfl ?_
        obtain ⟨a2, ha2, h⟩ := h
        obtain ⟨hr3, h⟩ := h
        obtain ⟨hg4, h⟩ := h
        refine wp_aaload (e := 7) dX4_proveAll_40 ha2 hr3 (by decide) hg4 ?_
        refine wp_aload_n 1 dX4_proveAll_41 rfl ?_
        refine wp_aload_n 2 dX4_proveAll_42 rfl ?_
        refine wp_callV (ci := 4) (As := [rv (hR H (tg H a2) a2 x3.toNatClampNeg), rv o1, rv o2]) (rest := [rv (some a0)]) (mc := 0) (ms := 0) dX4_proveAll_43 lk_X4_111 rfl rfl (by simp [rv_cat, vc_int, vc_long, vc_float, vc_double]) rfl rfl rfl ht1 rfl rfl rfl w_4_64 (Call.weaken h ?_)
        rintro H5 _ ⟨b6, rfl, h⟩
        change WP _ _ _ _ _ _ [.int (bI b6), rv (some a0)] H5 _
        refine wp_if_eq (tgt := 69) dX4_proveAll_46 rfl (fun c => ?_) (fun c => ?_)
        · replace h := h.1 (bI_0.mp c)
          refine wp_bipush (v := (-8 : Int32)) dX4_proveAll_69 (by decide) ?_
          obtain ⟨ht7, h⟩ := h
          refine wp_putI (ci := 4) (j := 3) dX4_proveAll_71 fi_X4_24 rfl (fun z => by cases z) rfl ht7 rfl rfl ?_
          change WP _ _ _ _ _ _ _ (sI H5 503 a0 0 (-8 : Int32)) _
          refine wp_aload_n 0 dX4_proveAll_74 rfl ?_
          refine wp_dup dX4_proveAll_75 (rv_cat _) ?_
          refine wp_getI (ci := 4) (j := 2) dX4_proveAll_76 fi_X4_21r rfl rfl ht7 ?_
          change WP _ _ _ _ _ _ (.int (hI (sI H5 503 a0 0 (-8 : Int32)) 502 a0 0) :: _) _ _
          refine wp_aload_n 0 dX4_proveAll_79 rfl ?_
          refine wp_getI (ci := 4) (j := 3) dX4_proveAll_80 fi_X4_24r rfl rfl ht7 ?_
          change WP _ _ _ _ _ _ (.int (hI (sI H5 503 a0 0 (-8 : Int32)) 503 a0 0) :: _) _ _
          refine wp_if_ne (tgt := 90) dX4_proveAll_83 rfl (fun c => ?_) (fun c => ?_)
          · replace h := h.1 c
            refine wp_iconst (v := (0 : Int32)) dX4_proveAll_90 (by decide) ?_
            refine wp_iadd dX4_proveAll_91 ?_
            refine wp_putI (ci := 4) (j := 2) dX4_proveAll_92 fi_X4_21 rfl (fun z => by cases z) rfl ht7 rfl rfl ?_
            change WP _ _ _ _ _ _ _ (sI (sI H5 503 a0 0 (-8 : Int32)) 502 a0 0 ((hI (sI H5 503 a0 0 (-8 : Int32)) 502 a0 0) + (0 : Int32))) _
            refine wp_iinc (v := (x3 + 1)) (ls' := [(3, .int (x3 + 1)), (0, rv (some a0)), (1, rv o1), (2, rv o2)]) 3 dX4_proveAll_95 rfl rfl (by decide) (by simp [st1, rv_cat, vc_int, vc_long, vc_float, vc_double]) ?_
            refine wp_goto (tgt := 12) dX4_proveAll_98 rfl ?_
            refine wp_sub (ls' := [(0, rv (some a0)), (1, rv o1), (2, rv o2), (3, .int (x3 + 1))]) [1, 2, 3, 0] rfl ?_
            exact h
          · replace h := h.2 c
            refine wp_iconst (v := (1 : Int32)) dX4_proveAll_86 (by decide) ?_
            refine wp_goto (tgt := 91) dX4_proveAll_87 rfl ?_
            refine wp_iadd dX4_proveAll_91 ?_
            refine wp_putI (ci := 4) (j := 2) dX4_proveAll_92 fi_X4_21 rfl (fun z => by cases z) rfl ht7 rfl rfl ?_
            change WP _ _ _ _ _ _ _ (sI (sI H5 503 a0 0 (-8 : Int32)) 502 a0 0 ((hI (sI H5 503 a0 0 (-8 : Int32)) 502 a0 0) + (1 : Int32))) _
            refine wp_iinc (v := (x3 + 1)) (ls' := [(3, .int (x3 + 1)), (0, rv (some a0)), (1, rv o1), (2, rv o2)]) 3 dX4_proveAll_95 rfl rfl (by decide) (by simp [st1, rv_cat, vc_int, vc_long, vc_float, vc_double]) ?_
            refine wp_goto (tgt := 12) dX4_proveAll_98 rfl ?_
            refine wp_sub (ls' := [(0, rv (some a0)), (1, rv o1), (2, rv o2), (3, .int (x3 + 1))]) [1, 2, 3, 0] rfl ?_
            exact h
        · replace h := h.2 (bI_1.mp c)
          refine wp_aload_n 0 dX4_proveAll_49 rfl ?_
          obtain ⟨ht8, h⟩ := h
          refine wp_getC (ci := 4) (j := 0) dX4_proveAll_50 fi_X4_11r rfl rfl ht8 ?_
          change WP _ _ _ _ _ _ (rv (hC H5 500 a0) :: _) _ _
          refine wp_iload_n 3 dX4_proveAll_53 rfl ?_
          obtain ⟨a9, ha9, h⟩ := h
          obtain ⟨hr10, h⟩ := h
          obtain ⟨hg11, h⟩ := h
          refine wp_aaload (e := 7) dX4_proveAll_54 ha9 hr10 (by decide) hg11 ?_
          refine wp_aload_n 0 dX4_proveAll_55 rfl ?_
          refine wp_getC (ci := 4) (j := 5) dX4_proveAll_56 fi_X4_33r rfl rfl ht8 ?_
          change WP _ _ _ _ _ _ (rv (hC H5 505 a0) :: _) _ _
          refine wp_aload_n 0 dX4_proveAll_59 rfl ?_
          refine wp_getC (ci := 4) (j := 6) dX4_proveAll_60 fi_X4_40r rfl rfl ht8 ?_
          change WP _ _ _ _ _ _ (rv (hC H5 506 a0) :: _) _ _
          obtain ⟨a13, ha13, h⟩ := h
          obtain ⟨ht14, h⟩ := h
          refine wp_callV (ci := 6) (As := [rv (hC H5 505 a0), rv (hC H5 506 a0)]) (rest := [rv (some a0)]) (mc := 0) (ms := 0) dX4_proveAll_63 lk_X4_115 rfl rfl (by simp [rv_cat, vc_int, vc_long, vc_float, vc_double]) ha13 rfl rfl ht14 rfl rfl rfl w_4_70 (Call.weaken h ?_)
          rintro H12 _ ⟨r15, rfl, h⟩
          change WP _ _ _ _ _ _ [.int r15, rv (some a0)] H12 _
          refine wp_goto (tgt := 71) dX4_proveAll_66 rfl ?_
          obtain ⟨ht16, h⟩ := h
          refine wp_putI (ci := 4) (j := 3) dX4_proveAll_71 fi_X4_24 rfl (fun z => by cases z) rfl ht16 rfl rfl ?_
          change WP _ _ _ _ _ _ _ (sI H12 503 a0 0 r15) _
          refine wp_aload_n 0 dX4_proveAll_74 rfl ?_
          refine wp_dup dX4_proveAll_75 (rv_cat _) ?_
          refine wp_getI (ci := 4) (j := 2) dX4_proveAll_76 fi_X4_21r rfl rfl ht16 ?_
          change WP _ _ _ _ _ _ (.int (hI (sI H12 503 a0 0 r15) 502 a0 0) :: _) _ _
          refine wp_aload_n 0 dX4_proveAll_79 rfl ?_
          refine wp_getI (ci := 4) (j := 3) dX4_proveAll_80 fi_X4_24r rfl rfl ht16 ?_
          change WP _ _ _ _ _ _ (.int (hI (sI H12 503 a0 0 r15) 503 a0 0) :: _) _ _
          refine wp_if_ne (tgt := 90) dX4_proveAll_83 rfl (fun c => ?_) (fun c => ?_)
          · replace h := h.1 c
            refine wp_iconst (v := (0 : Int32)) dX4_proveAll_90 (by decide) ?_
            refine wp_iadd dX4_proveAll_91 ?_
            refine wp_putI (ci := 4) (j := 2) dX4_proveAll_92 fi_X4_21 rfl (fun z => by cases z) rfl ht16 rfl rfl ?_
            change WP _ _ _ _ _ _ _ (sI (sI H12 503 a0 0 r15) 502 a0 0 ((hI (sI H12 503 a0 0 r15) 502 a0 0) + (0 : Int32))) _
            refine wp_iinc (v := (x3 + 1)) (ls' := [(3, .int (x3 + 1)), (0, rv (some a0)), (1, rv o1), (2, rv o2)]) 3 dX4_proveAll_95 rfl rfl (by decide) (by simp [st1, rv_cat, vc_int, vc_long, vc_float, vc_double]) ?_
            refine wp_goto (tgt := 12) dX4_proveAll_98 rfl ?_
            refine wp_sub (ls' := [(0, rv (some a0)), (1, rv o1), (2, rv o2), (3, .int (x3 + 1))]) [1, 2, 3, 0] rfl ?_
            exact h
          · replace h := h.2 c
            refine wp_iconst (v := (1 : Int32)) dX4_proveAll_86 (by decide) ?_
            refine wp_goto (tgt := 91) dX4_proveAll_87 rfl ?_
            refine wp_iadd dX4_proveAll_91 ?_
            refine wp_putI (ci := 4) (j := 2) dX4_proveAll_92 fi_X4_21 rfl (fun z => by cases z) rfl ht16 rfl rfl ?_
            change WP _ _ _ _ _ _ _ (sI (sI H12 503 a0 0 r15) 502 a0 0 ((hI (sI H12 503 a0 0 r15) 502 a0 0) + (1 : Int32))) _
            refine wp_iinc (v := (x3 + 1)) (ls' := [(3, .int (x3 + 1)), (0, rv (some a0)), (1, rv o1), (2, rv o2)]) 3 dX4_proveAll_95 rfl rfl (by decide) (by simp [st1, rv_cat, vc_int, vc_long, vc_float, vc_double]) ?_
            refine wp_goto (tgt := 12) dX4_proveAll_98 rfl ?_
            refine wp_sub (ls' := [(0, rv (some a0)), (1, rv o1), (2, rv o2), (3, .int (x3 + 1))]) [1, 2, 3, 0] rfl ?_
            exact h
theorem C_X4_proveAll {d : Nat} {q : HP → Prop} {a0 : Nat} {o1 : Option Nat} {o2 : Option Nat} {H : HP} (h : wb_X4_proveAll_0 d q a0 o1 o2 H) : CV (d + 1) 0 0 mX4_proveAll [rv (some a0), rv o1, rv o2] H q := by
  refine call_of (by decide +kernel) (by simp [lg_sl, rv_cat, vc_int, vc_long, vc_float, vc_double]) ?_
  have e : lv_args 0 [rv (some a0), rv o1, rv o2] = [(0, rv (some a0)), (1, rv o1), (2, rv o2)] := by simp [lv_args, rv_cat, vc_int, vc_long, vc_float, vc_double]
  rw [e]
  exact T_X4_proveAll_0 h
def wb_X4_read_36 (d : Nat) (q : HP → Bool → Prop) (a0 : Nat) (o1 : Option Nat) (o2 : Option Nat) (s0 : Option Nat) (s1 : Int32) (H : HP) : Prop :=
  ∃ a1, s0 = some a1 ∧ (tg H a1 = 5 ∧ (okZ s1 ∧ (tg (sI H 504 a1 0 s1) a0 = 5 ∧ ((¬ (hI (sI H 504 a1 0 s1) 504 a0 0) = 0 → CR d 0 0 mX4_readSum [rv (some a0), rv o1, .int (0 : Int32)] (sI H 504 a1 0 s1) (fun H5 r6 => (r6 = none → q H5 false) ∧ (∀ a7, r6 = some a7 → tg H5 a0 = 5 ∧ (CR d 0 0 mX4_append [rv (some a0), .int (5 : Int32), rv o2, rv r6] H5 (fun H8 r10 => (r10 = none → q H8 false) ∧ (∀ a11, r10 = some a11 → ∃ a13, o1 = some a13 ∧ (tg H8 a13 = 8 ∧ (CZ d 0 0 mX7_isAtEnd [rv o1] H8 (fun H12 b15 => (b15 = false → q H12 false) ∧ (b15 = true → q H12 true)))))))))) ∧ ((hI (sI H 504 a1 0 s1) 504 a0 0) = 0 → (o2 = none → q (sI H 504 a1 0 s1) false) ∧ (∀ a16, o2 = some a16 → ∃ a18, o1 = some a18 ∧ (tg (sI H 504 a1 0 s1) a18 = 8 ∧ (CZ d 0 0 mX7_isAtEnd [rv o1] (sI H 504 a1 0 s1) (fun H17 b20 => (b20 = false → q H17 false) ∧ (b20 = true → q H17 true))))))))))
set_option maxRecDepth 40000 in
set_option maxHeartbeats 4000000 in
theorem T_X4_read_36 {d : Nat} {q : HP → Bool → Prop} {a0 : Nat} {o1 : Option Nat} {o2 : Option Nat} {s0 : Option Nat} {s1 : Int32} {H : HP} (h : wb_X4_read_36 d q a0 o1 o2 s0 s1 H) : WP (d + 1) mX4_read 0 0 36 [(0, rv (some a0)), (1, rv o1), (2, rv o2)] [.int s1, rv s0] H (qZ q) := by
  unfold wb_X4_read_36 at h
  obtain ⟨a1, ha1, h⟩ := h
  obtain ⟨ht2, h⟩ := h
  obtain ⟨hg3, h⟩ := h
  refine wp_putI (ci := 4) (j := 4) dX4_read_36 fi_X4_27 rfl (fun z => by cases z) ha1 ht2 (nar_Z hg3).1 (nar_Z hg3).2 ?_
  change WP _ _ _ _ _ _ _ (sI H 504 a1 0 s1) _
  refine wp_aload_n 0 dX4_read_39 rfl ?_
  obtain ⟨ht4, h⟩ := h
  refine wp_getI (ci := 4) (j := 4) dX4_read_40 fi_X4_27r rfl rfl ht4 ?_
  change WP _ _ _ _ _ _ (.int (hI (sI H 504 a1 0 s1) 504 a0 0) :: _) _ _
  refine wp_if_ne (tgt := 63) dX4_read_43 rfl (fun c => ?_) (fun c => ?_)
  · replace h := h.1 c
    refine wp_aload_n 0 dX4_read_63 rfl ?_
    refine wp_aload_n 1 dX4_read_64 rfl ?_
    refine wp_iconst (v := (0 : Int32)) dX4_read_65 (by decide) ?_
    refine wp_callV (ci := 4) (As := [rv o1, .int (0 : Int32)]) (rest := []) (mc := 0) (ms := 0) dX4_read_66 lk_X4_75 rfl rfl (by decide) rfl rfl rfl ht4 rfl rfl rfl w_4_13 (Call.weaken h ?_)
    rintro H5 _ ⟨r6, rfl, h⟩
    change WP _ _ _ _ _ _ [rv r6] H5 _
    refine wp_astore_n (ls' := [(3, rv r6), (0, rv (some a0)), (1, rv o1), (2, rv o2)]) dX4_read_69 (by decide) (by change st1 _ 3 _ = _; simp [st1, rv_cat, vc_int, vc_long, vc_float, vc_double]) ?_
    refine wp_aload_n 0 dX4_read_70 rfl ?_
    refine wp_ifnull (tgt := 95) dX4_read_71 rfl (fun c => ?_) (fun a7 ha7 => ?_)
    · replace h := h.1 c
      refine wp_iconst (v := (0 : Int32)) dX4_read_95 (by decide) ?_
      exact wp_ireturn (ty := .boolean) dX4_read_96 rfl rfl ⟨false, rfl, h⟩
    · replace h := h.2 a7 ha7
      refine wp_aload_n 1 dX4_read_74 rfl ?_
      refine wp_iconst (v := (5 : Int32)) dX4_read_75 (by decide) ?_
      refine wp_aload_n 3 dX4_read_76 rfl ?_
      refine wp_aload_n 0 dX4_read_77 rfl ?_
      obtain ⟨ht9, h⟩ := h
      refine wp_callV (ci := 4) (As := [.int (5 : Int32), rv o2, rv r6]) (rest := []) (mc := 0) (ms := 0) dX4_read_78 lk_X4_86 rfl rfl (by decide) rfl rfl rfl ht9 rfl rfl rfl w_4_26 (Call.weaken h ?_)
      rintro H8 _ ⟨r10, rfl, h⟩
      change WP _ _ _ _ _ _ [rv r10] H8 _
      refine wp_ifnull (tgt := 95) dX4_read_81 rfl (fun c => ?_) (fun a11 ha11 => ?_)
      · replace h := h.1 c
        refine wp_iconst (v := (0 : Int32)) dX4_read_95 (by decide) ?_
        exact wp_ireturn (ty := .boolean) dX4_read_96 rfl rfl ⟨false, rfl, h⟩
      · replace h := h.2 a11 ha11
        refine wp_aload_n 2 dX4_read_84 rfl ?_
        obtain ⟨a13, ha13, h⟩ := h
        obtain ⟨ht14, h⟩ := h
        refine wp_callV (ci := 7) (As := []) (rest := []) (mc := 0) (ms := 0) dX4_read_85 lk_X4_83 rfl rfl (by decide) ha13 rfl rfl ht14 rfl rfl rfl w_4_59 (Call.weaken h ?_)
        rintro H12 _ ⟨b15, rfl, h⟩
        change WP _ _ _ _ _ _ [.int (bI b15)] H12 _
        refine wp_if_eq (tgt := 95) dX4_read_88 rfl (fun c => ?_) (fun c => ?_)
        · replace h := h.1 (bI_0.mp c)
          refine wp_iconst (v := (0 : Int32)) dX4_read_95 (by decide) ?_
          exact wp_ireturn (ty := .boolean) dX4_read_96 rfl rfl ⟨false, rfl, h⟩
        · replace h := h.2 (bI_1.mp c)
          refine wp_iconst (v := (1 : Int32)) dX4_read_91 (by decide) ?_
          refine wp_goto (tgt := 96) dX4_read_92 rfl ?_
          exact wp_ireturn (ty := .boolean) dX4_read_96 rfl rfl ⟨true, rfl, h⟩
  · replace h := h.2 c
    refine wp_aload_n 2 dX4_read_46 rfl ?_
    refine wp_ifnull (tgt := 61) dX4_read_47 rfl (fun c => ?_) (fun a16 ha16 => ?_)
    · replace h := h.1 c
      refine wp_iconst (v := (0 : Int32)) dX4_read_61 (by decide) ?_
      exact wp_ireturn (ty := .boolean) dX4_read_62 rfl rfl ⟨false, rfl, h⟩
    · replace h := h.2 a16 ha16
      refine wp_aload_n 1 dX4_read_50 rfl ?_
      obtain ⟨a18, ha18, h⟩ := h
      obtain ⟨ht19, h⟩ := h
      refine wp_callV (ci := 7) (As := []) (rest := []) (mc := 0) (ms := 0) dX4_read_51 lk_X4_83 rfl rfl (by decide) ha18 rfl rfl ht19 rfl rfl rfl w_4_59 (Call.weaken h ?_)
      rintro H17 _ ⟨b20, rfl, h⟩
      change WP _ _ _ _ _ _ [.int (bI b20)] H17 _
      refine wp_if_eq (tgt := 61) dX4_read_54 rfl (fun c => ?_) (fun c => ?_)
      · replace h := h.1 (bI_0.mp c)
        refine wp_iconst (v := (0 : Int32)) dX4_read_61 (by decide) ?_
        exact wp_ireturn (ty := .boolean) dX4_read_62 rfl rfl ⟨false, rfl, h⟩
      · replace h := h.2 (bI_1.mp c)
        refine wp_iconst (v := (1 : Int32)) dX4_read_57 (by decide) ?_
        refine wp_goto (tgt := 62) dX4_read_58 rfl ?_
        exact wp_ireturn (ty := .boolean) dX4_read_62 rfl rfl ⟨true, rfl, h⟩
def wb_X4_read_0 (d : Nat) (q : HP → Bool → Prop) (a0 : Nat) (o1 : Option Nat) (H : HP) : Prop :=
  ∃ a1, o1 = some a1 ∧ (tg H a1 = 8 ∧ (tg (sI H 802 a1 0 (0 : Int32)) a0 = 5 ∧ (CR d 0 0 mX4_readSum [rv (some a0), rv o1, .int (0 : Int32)] (sI (sI H 802 a1 0 (0 : Int32)) 501 a0 0 (0 : Int32)) (fun H4 r5 => (r5 = none → wb_X4_read_36 d q a0 o1 r5 (some a0) (0 : Int32) H4) ∧ (∀ a6, r5 = some a6 → tg H4 a1 = 8 ∧ (CZ d 0 0 mX7_takes [rv o1, .int (61 : Int32)] H4 (fun H7 b9 => (b9 = false → wb_X4_read_36 d q a0 o1 r5 (some a0) (0 : Int32) H7) ∧ (b9 = true → wb_X4_read_36 d q a0 o1 r5 (some a0) (1 : Int32) H7))))))))
set_option maxRecDepth 40000 in
set_option maxHeartbeats 4000000 in
theorem T_X4_read_0 {d : Nat} {q : HP → Bool → Prop} {a0 : Nat} {o1 : Option Nat} {H : HP} (h : wb_X4_read_0 d q a0 o1 H) : WP (d + 1) mX4_read 0 0 0 [(0, rv (some a0)), (1, rv o1)] [] H (qZ q) := by
  unfold wb_X4_read_0 at h
  refine wp_aload_n 1 dX4_read_0 rfl ?_
  refine wp_iconst (v := (0 : Int32)) dX4_read_1 (by decide) ?_
  obtain ⟨a1, ha1, h⟩ := h
  obtain ⟨ht2, h⟩ := h
  refine wp_putI (ci := 7) (j := 2) dX4_read_2 fi_X4_70 rfl (fun z => by cases z) ha1 ht2 rfl rfl ?_
  change WP _ _ _ _ _ _ _ (sI H 802 a1 0 (0 : Int32)) _
  refine wp_aload_n 0 dX4_read_5 rfl ?_
  refine wp_iconst (v := (0 : Int32)) dX4_read_6 (by decide) ?_
  obtain ⟨ht3, h⟩ := h
  refine wp_putI (ci := 4) (j := 1) dX4_read_7 fi_X4_17 rfl (fun z => by cases z) rfl ht3 rfl rfl ?_
  change WP _ _ _ _ _ _ _ (sI (sI H 802 a1 0 (0 : Int32)) 501 a0 0 (0 : Int32)) _
  refine wp_aload_n 0 dX4_read_10 rfl ?_
  refine wp_aload_n 1 dX4_read_11 rfl ?_
  refine wp_iconst (v := (0 : Int32)) dX4_read_12 (by decide) ?_
  refine wp_callV (ci := 4) (As := [rv o1, .int (0 : Int32)]) (rest := []) (mc := 0) (ms := 0) dX4_read_13 lk_X4_75 rfl rfl (by decide) rfl rfl rfl ht3 rfl rfl rfl w_4_13 (Call.weaken h ?_)
  rintro H4 _ ⟨r5, rfl, h⟩
  change WP _ _ _ _ _ _ [rv r5] H4 _
  refine wp_astore_n (ls' := [(2, rv r5), (0, rv (some a0)), (1, rv o1)]) dX4_read_16 (by decide) (by change st1 _ 2 _ = _; simp [st1, rv_cat, vc_int, vc_long, vc_float, vc_double]) ?_
  refine wp_aload_n 1 dX4_read_17 rfl ?_
  refine wp_aload_n 0 dX4_read_18 rfl ?_
  refine wp_ifnull (tgt := 35) dX4_read_19 rfl (fun c => ?_) (fun a6 ha6 => ?_)
  · replace h := h.1 c
    refine wp_iconst (v := (0 : Int32)) dX4_read_35 (by decide) ?_
    refine wp_sub (ls' := [(0, rv (some a0)), (1, rv o1), (2, rv r5)]) [1, 2, 0] rfl ?_
    exact T_X4_read_36 h
  · replace h := h.2 a6 ha6
    refine wp_aload_n 2 dX4_read_22 rfl ?_
    refine wp_bipush (v := (61 : Int32)) dX4_read_23 (by decide) ?_
    obtain ⟨ht8, h⟩ := h
    refine wp_callV (ci := 7) (As := [.int (61 : Int32)]) (rest := [rv (some a0)]) (mc := 0) (ms := 0) dX4_read_25 lk_X4_79 rfl rfl (by simp [rv_cat, vc_int, vc_long, vc_float, vc_double]) ha1 rfl rfl ht8 rfl rfl rfl w_4_58 (Call.weaken h ?_)
    rintro H7 _ ⟨b9, rfl, h⟩
    change WP _ _ _ _ _ _ [.int (bI b9), rv (some a0)] H7 _
    refine wp_if_eq (tgt := 35) dX4_read_28 rfl (fun c => ?_) (fun c => ?_)
    · replace h := h.1 (bI_0.mp c)
      refine wp_iconst (v := (0 : Int32)) dX4_read_35 (by decide) ?_
      refine wp_sub (ls' := [(0, rv (some a0)), (1, rv o1), (2, rv r5)]) [1, 2, 0] rfl ?_
      exact T_X4_read_36 h
    · replace h := h.2 (bI_1.mp c)
      refine wp_iconst (v := (1 : Int32)) dX4_read_31 (by decide) ?_
      refine wp_goto (tgt := 36) dX4_read_32 rfl ?_
      refine wp_sub (ls' := [(0, rv (some a0)), (1, rv o1), (2, rv r5)]) [1, 2, 0] rfl ?_
      exact T_X4_read_36 h
theorem C_X4_read {d : Nat} {q : HP → Bool → Prop} {a0 : Nat} {o1 : Option Nat} {H : HP} (h : wb_X4_read_0 d q a0 o1 H) : CZ (d + 1) 0 0 mX4_read [rv (some a0), rv o1] H q := by
  refine call_of (by decide +kernel) (by simp [lg_sl, rv_cat, vc_int, vc_long, vc_float, vc_double]) ?_
  have e : lv_args 0 [rv (some a0), rv o1] = [(0, rv (some a0)), (1, rv o1)] := by simp [lv_args, rv_cat, vc_int, vc_long, vc_float, vc_double]
  rw [e]
  exact T_X4_read_0 h
def wb_X4_readPart_0 (d : Nat) (q : HP → Option Nat → Prop) (a0 : Nat) (o1 : Option Nat) (x2 : Int32) (H : HP) : Prop :=
  ∃ a2, o1 = some a2 ∧ (tg H a2 = 8 ∧ (CI d 0 0 mX7_look [rv o1, .int (0 : Int32)] H (fun H1 r4 => (r4 = (40 : Int32) → (x2 < (4 : Int32) → tg H1 a2 = 8 ∧ (CZ d 0 0 mX7_takes [rv o1, .int (40 : Int32)] H1 (fun H5 b7 => tg H5 a0 = 5 ∧ (CR d 0 0 mX4_readSum [rv (some a0), rv o1, .int (x2 + (1 : Int32))] H5 (fun H8 r10 => (r10 = none → q H8 none) ∧ (∀ a11, r10 = some a11 → tg H8 a2 = 8 ∧ (CZ d 0 0 mX7_takes [rv o1, .int (41 : Int32)] H8 (fun H12 b14 => (b14 = true → tg H12 a11 = 7 ∧ (q (sI H12 703 a11 0 (1 : Int32)) r10)) ∧ (b14 = false → q H12 none))))))))) ∧ (¬ (x2 < (4 : Int32)) → q H1 none)) ∧ (¬ (r4 = (40 : Int32)) → tg H1 a0 = 5 ∧ (CR d 0 0 mX4_append [rv (some a0), .int (0 : Int32), rv none, rv none] H1 (fun H16 r18 => (r18 = none → q H16 none) ∧ (∀ a19, r18 = some a19 → tg H16 a19 = 7 ∧ (CZ d 0 0 mX6_read [rv r18, rv o1] H16 (fun H20 b22 => (b22 = false → q H20 none) ∧ (b22 = true → q H20 r18))))))))))
set_option maxRecDepth 40000 in
set_option maxHeartbeats 4000000 in
theorem T_X4_readPart_0 {d : Nat} {q : HP → Option Nat → Prop} {a0 : Nat} {o1 : Option Nat} {x2 : Int32} {H : HP} (h : wb_X4_readPart_0 d q a0 o1 x2 H) : WP (d + 1) mX4_readPart 0 0 0 [(0, rv (some a0)), (1, rv o1), (2, .int x2)] [] H (qR q) := by
  unfold wb_X4_readPart_0 at h
  refine wp_aload_n 1 dX4_readPart_0 rfl ?_
  refine wp_iconst (v := (0 : Int32)) dX4_readPart_1 (by decide) ?_
  obtain ⟨a2, ha2, h⟩ := h
  obtain ⟨ht3, h⟩ := h
  refine wp_callV (ci := 7) (As := [.int (0 : Int32)]) (rest := []) (mc := 0) (ms := 0) dX4_readPart_2 lk_X4_97 rfl rfl (by decide) ha2 rfl rfl ht3 rfl rfl rfl w_4_25 (Call.weaken h ?_)
  rintro H1 _ ⟨r4, rfl, h⟩
  change WP _ _ _ _ _ _ [.int r4] H1 _
  refine wp_bipush (v := (40 : Int32)) dX4_readPart_5 (by decide) ?_
  refine wp_icmp_eq (tgt := 36) dX4_readPart_7 rfl (fun c => ?_) (fun c => ?_)
  · replace h := h.1 c
    refine wp_iload_n 2 dX4_readPart_36 rfl ?_
    refine wp_iconst (v := (4 : Int32)) dX4_readPart_37 (by decide) ?_
    refine wp_icmp_lt (tgt := 43) dX4_readPart_38 rfl (fun c => ?_) (fun c => ?_)
    · replace h := h.1 c
      refine wp_aload_n 1 dX4_readPart_43 rfl ?_
      refine wp_bipush (v := (40 : Int32)) dX4_readPart_44 (by decide) ?_
      obtain ⟨ht6, h⟩ := h
      refine wp_callV (ci := 7) (As := [.int (40 : Int32)]) (rest := []) (mc := 0) (ms := 0) dX4_readPart_46 lk_X4_79 rfl rfl (by decide) ha2 rfl rfl ht6 rfl rfl rfl w_4_58 (Call.weaken h ?_)
      rintro H5 _ ⟨b7, rfl, h⟩
      change WP _ _ _ _ _ _ [.int (bI b7)] H5 _
      refine wp_pop dX4_readPart_49 (rfl) ?_
      refine wp_aload_n 0 dX4_readPart_50 rfl ?_
      refine wp_aload_n 1 dX4_readPart_51 rfl ?_
      refine wp_iload_n 2 dX4_readPart_52 rfl ?_
      refine wp_iconst (v := (1 : Int32)) dX4_readPart_53 (by decide) ?_
      refine wp_iadd dX4_readPart_54 ?_
      obtain ⟨ht9, h⟩ := h
      refine wp_callV (ci := 4) (As := [rv o1, .int (x2 + (1 : Int32))]) (rest := []) (mc := 0) (ms := 0) dX4_readPart_55 lk_X4_75 rfl rfl (by decide) rfl rfl rfl ht9 rfl rfl rfl w_4_13 (Call.weaken h ?_)
      rintro H8 _ ⟨r10, rfl, h⟩
      change WP _ _ _ _ _ _ [rv r10] H8 _
      refine wp_astore_n (ls' := [(3, rv r10), (0, rv (some a0)), (1, rv o1), (2, .int x2)]) dX4_readPart_58 (by decide) rfl ?_
      refine wp_aload_n 0 dX4_readPart_59 rfl ?_
      refine wp_ifnull (tgt := 72) dX4_readPart_60 rfl (fun c => ?_) (fun a11 ha11 => ?_)
      · replace h := h.1 c
        refine wp_null dX4_readPart_72 ?_
        exact wp_areturn dX4_readPart_73 rfl ⟨_, rfl, h⟩
      · replace h := h.2 a11 ha11
        refine wp_aload_n 2 dX4_readPart_63 rfl ?_
        refine wp_bipush (v := (41 : Int32)) dX4_readPart_64 (by decide) ?_
        obtain ⟨ht13, h⟩ := h
        refine wp_callV (ci := 7) (As := [.int (41 : Int32)]) (rest := []) (mc := 0) (ms := 0) dX4_readPart_66 lk_X4_79 rfl rfl (by decide) ha2 rfl rfl ht13 rfl rfl rfl w_4_58 (Call.weaken h ?_)
        rintro H12 _ ⟨b14, rfl, h⟩
        change WP _ _ _ _ _ _ [.int (bI b14)] H12 _
        refine wp_if_ne (tgt := 74) dX4_readPart_69 rfl (fun c => ?_) (fun c => ?_)
        · replace h := h.1 (bI_1.mp c)
          refine wp_aload_n 0 dX4_readPart_74 rfl ?_
          refine wp_iconst (v := (1 : Int32)) dX4_readPart_75 (by decide) ?_
          obtain ⟨ht15, h⟩ := h
          refine wp_putI (ci := 6) (j := 3) dX4_readPart_76 fi_X4_108 rfl (fun z => by cases z) ha11 ht15 rfl rfl ?_
          change WP _ _ _ _ _ _ _ (sI H12 703 a11 0 (1 : Int32)) _
          refine wp_aload_n 0 dX4_readPart_79 rfl ?_
          exact wp_areturn dX4_readPart_80 rfl ⟨_, rfl, h⟩
        · replace h := h.2 (bI_0.mp c)
          refine wp_null dX4_readPart_72 ?_
          exact wp_areturn dX4_readPart_73 rfl ⟨_, rfl, h⟩
    · replace h := h.2 c
      refine wp_null dX4_readPart_41 ?_
      exact wp_areturn dX4_readPart_42 rfl ⟨_, rfl, h⟩
  · replace h := h.2 c
    refine wp_aload_n 0 dX4_readPart_10 rfl ?_
    refine wp_iconst (v := (0 : Int32)) dX4_readPart_11 (by decide) ?_
    refine wp_null dX4_readPart_12 ?_
    refine wp_null dX4_readPart_13 ?_
    obtain ⟨ht17, h⟩ := h
    refine wp_callV (ci := 4) (As := [.int (0 : Int32), rv none, rv none]) (rest := []) (mc := 0) (ms := 0) dX4_readPart_14 lk_X4_86 rfl rfl (by decide) rfl rfl rfl ht17 rfl rfl rfl w_4_26 (Call.weaken h ?_)
    rintro H16 _ ⟨r18, rfl, h⟩
    change WP _ _ _ _ _ _ [rv r18] H16 _
    refine wp_astore_n (ls' := [(3, rv r18), (0, rv (some a0)), (1, rv o1), (2, .int x2)]) dX4_readPart_17 (by decide) rfl ?_
    refine wp_aload_n 0 dX4_readPart_18 rfl ?_
    refine wp_ifnull (tgt := 34) dX4_readPart_19 rfl (fun c => ?_) (fun a19 ha19 => ?_)
    · replace h := h.1 c
      refine wp_null dX4_readPart_34 ?_
      exact wp_areturn dX4_readPart_35 rfl ⟨_, rfl, h⟩
    · replace h := h.2 a19 ha19
      refine wp_aload_n 0 dX4_readPart_22 rfl ?_
      refine wp_aload_n 2 dX4_readPart_23 rfl ?_
      obtain ⟨ht21, h⟩ := h
      refine wp_callV (ci := 6) (As := [rv o1]) (rest := []) (mc := 0) (ms := 0) dX4_readPart_24 lk_X4_104 rfl rfl (by decide) ha19 rfl rfl ht21 rfl rfl rfl w_4_34 (Call.weaken h ?_)
      rintro H20 _ ⟨b22, rfl, h⟩
      change WP _ _ _ _ _ _ [.int (bI b22)] H20 _
      refine wp_if_eq (tgt := 34) dX4_readPart_27 rfl (fun c => ?_) (fun c => ?_)
      · replace h := h.1 (bI_0.mp c)
        refine wp_null dX4_readPart_34 ?_
        exact wp_areturn dX4_readPart_35 rfl ⟨_, rfl, h⟩
      · replace h := h.2 (bI_1.mp c)
        refine wp_aload_n 0 dX4_readPart_30 rfl ?_
        refine wp_goto (tgt := 35) dX4_readPart_31 rfl ?_
        exact wp_areturn dX4_readPart_35 rfl ⟨_, rfl, h⟩
theorem C_X4_readPart {d : Nat} {q : HP → Option Nat → Prop} {a0 : Nat} {o1 : Option Nat} {x2 : Int32} {H : HP} (h : wb_X4_readPart_0 d q a0 o1 x2 H) : CR (d + 1) 0 0 mX4_readPart [rv (some a0), rv o1, .int x2] H q := by
  refine call_of (by decide +kernel) (by simp [lg_sl, rv_cat, vc_int, vc_long, vc_float, vc_double]) ?_
  have e : lv_args 0 [rv (some a0), rv o1, .int x2] = [(0, rv (some a0)), (1, rv o1), (2, .int x2)] := by simp [lv_args, rv_cat, vc_int, vc_long, vc_float, vc_double]
  rw [e]
  exact T_X4_readPart_0 h
/-- UnitProver$Proof.readSum(LUnitProver$Tape;I)LUnitProver$Step;: the loop at 10 -/
def L_X4_readSum_10 (d : Nat) (q : HP → Option Nat → Prop) (a0 : Nat) (o1 : Option Nat) (x2 : Int32) (o3 : Option Nat) (x4 : Int32) (H : HP) : Prop := WP (d + 1) mX4_readSum 0 0 10 [(0, rv (some a0)), (1, rv o1), (2, .int x2), (3, rv o3), (4, .int x4)] [] H (qR q)
def wb_X4_readSum_0 (d : Nat) (q : HP → Option Nat → Prop) (a0 : Nat) (o1 : Option Nat) (x2 : Int32) (H : HP) : Prop :=
  tg H a0 = 5 ∧ (CR d 0 0 mX4_readTerm [rv (some a0), rv o1, .int x2] H (fun H1 r3 => L_X4_readSum_10 d q a0 o1 x2 r3 (0 : Int32) H1))
set_option maxRecDepth 40000 in
set_option maxHeartbeats 4000000 in
theorem T_X4_readSum_0 {d : Nat} {q : HP → Option Nat → Prop} {a0 : Nat} {o1 : Option Nat} {x2 : Int32} {H : HP} (h : wb_X4_readSum_0 d q a0 o1 x2 H) : WP (d + 1) mX4_readSum 0 0 0 [(0, rv (some a0)), (1, rv o1), (2, .int x2)] [] H (qR q) := by
  unfold wb_X4_readSum_0 at h
  refine wp_aload_n 0 dX4_readSum_0 rfl ?_
  refine wp_aload_n 1 dX4_readSum_1 rfl ?_
  refine wp_iload_n 2 dX4_readSum_2 rfl ?_
  obtain ⟨ht2, h⟩ := h
  refine wp_callV (ci := 4) (As := [rv o1, .int x2]) (rest := []) (mc := 0) (ms := 0) dX4_readSum_3 lk_X4_94 rfl rfl (by decide) rfl rfl rfl ht2 rfl rfl rfl w_4_17 (Call.weaken h ?_)
  rintro H1 _ ⟨r3, rfl, h⟩
  change WP _ _ _ _ _ _ [rv r3] H1 _
  refine wp_astore_n (ls' := [(3, rv r3), (0, rv (some a0)), (1, rv o1), (2, .int x2)]) dX4_readSum_6 (by decide) rfl ?_
  refine wp_iconst (v := (0 : Int32)) dX4_readSum_7 (by decide) ?_
  refine wp_istore (ls' := [(4, .int (0 : Int32)), (3, rv r3), (0, rv (some a0)), (1, rv o1), (2, .int x2)]) dX4_readSum_8 (by decide) (by change st1 _ 4 _ = _; simp [st1, rv_cat, vc_int, vc_long, vc_float, vc_double]) ?_
  refine wp_sub (ls' := [(0, rv (some a0)), (1, rv o1), (2, .int x2), (3, rv r3), (4, .int (0 : Int32))]) [2, 3, 4, 1, 0] rfl ?_
  exact h
def wb_X4_readSum_10 (d : Nat) (q : HP → Option Nat → Prop) (a0 : Nat) (o1 : Option Nat) (x2 : Int32) (o3 : Option Nat) (x4 : Int32) (H : HP) : Prop :=
  ((60 : Int32) ≤ x4 → q H o3) ∧ (¬ ((60 : Int32) ≤ x4) → (o3 = none → q H o3) ∧ (∀ a1, o3 = some a1 → ∃ a3, o1 = some a3 ∧ (tg H a3 = 8 ∧ (CI d 0 0 mX7_look [rv o1, .int (0 : Int32)] H (fun H2 r5 => (¬ r5 = (43 : Int32) → tg H2 a3 = 8 ∧ (CZ d 0 0 mX7_takes [rv o1, .int (43 : Int32)] H2 (fun H6 b8 => (b8 = true → tg H6 a0 = 5 ∧ (CR d 0 0 mX4_readTerm [rv (some a0), rv o1, .int x2] H6 (fun H9 r11 => (r11 = none → L_X4_readSum_10 d q a0 o1 x2 none (x4 + 1) H9) ∧ (∀ a12, r11 = some a12 → tg H9 a0 = 5 ∧ (CR d 0 0 mX4_append [rv (some a0), .int (4 : Int32), rv o3, rv r11] H9 (fun H13 r15 => L_X4_readSum_10 d q a0 o1 x2 r15 (x4 + 1) H13)))))) ∧ (b8 = false → tg H6 a3 = 8 ∧ (CZ d 0 0 mX7_takes [rv o1, .int (45 : Int32)] H6 (fun H16 b18 => (b18 = true → tg H16 a0 = 5 ∧ (CR d 0 0 mX4_readTerm [rv (some a0), rv o1, .int x2] H16 (fun H19 r21 => (r21 = none → L_X4_readSum_10 d q a0 o1 x2 none (x4 + 1) H19) ∧ (∀ a22, r21 = some a22 → tg H19 a0 = 5 ∧ (CR d 0 0 mX4_append [rv (some a0), .int (4 : Int32), rv o3, rv r21] H19 (fun H23 r25 => L_X4_readSum_10 d q a0 o1 x2 r25 (x4 + 1) H23)))))) ∧ (b18 = false → q H16 o3))))))) ∧ (r5 = (43 : Int32) → tg H2 a3 = 8 ∧ (CZ d 0 0 mX7_takes [rv o1, .int (43 : Int32)] H2 (fun H26 b28 => (b28 = true → tg H26 a0 = 5 ∧ (CR d 0 0 mX4_readTerm [rv (some a0), rv o1, .int x2] H26 (fun H29 r31 => (r31 = none → L_X4_readSum_10 d q a0 o1 x2 none (x4 + 1) H29) ∧ (∀ a32, r31 = some a32 → tg H29 a0 = 5 ∧ (CR d 0 0 mX4_append [rv (some a0), .int (3 : Int32), rv o3, rv r31] H29 (fun H33 r35 => L_X4_readSum_10 d q a0 o1 x2 r35 (x4 + 1) H33)))))) ∧ (b28 = false → tg H26 a3 = 8 ∧ (CZ d 0 0 mX7_takes [rv o1, .int (45 : Int32)] H26 (fun H36 b38 => (b38 = true → tg H36 a0 = 5 ∧ (CR d 0 0 mX4_readTerm [rv (some a0), rv o1, .int x2] H36 (fun H39 r41 => (r41 = none → L_X4_readSum_10 d q a0 o1 x2 none (x4 + 1) H39) ∧ (∀ a42, r41 = some a42 → tg H39 a0 = 5 ∧ (CR d 0 0 mX4_append [rv (some a0), .int (3 : Int32), rv o3, rv r41] H39 (fun H43 r45 => L_X4_readSum_10 d q a0 o1 x2 r45 (x4 + 1) H43)))))) ∧ (b38 = false → q H36 o3))))))))))))
set_option maxRecDepth 40000 in
set_option maxHeartbeats 4000000 in
theorem T_X4_readSum_10 {d : Nat} {q : HP → Option Nat → Prop} {a0 : Nat} {o1 : Option Nat} {x2 : Int32} {o3 : Option Nat} {x4 : Int32} {H : HP} (h : wb_X4_readSum_10 d q a0 o1 x2 o3 x4 H) : L_X4_readSum_10 d q a0 o1 x2 o3 x4 H := by
  unfold wb_X4_readSum_10 at h
  unfold L_X4_readSum_10
  refine wp_iload 4 dX4_readSum_10 rfl ?_
  refine wp_bipush (v := (60 : Int32)) dX4_readSum_12 (by decide) ?_
  refine wp_icmp_ge (tgt := 91) dX4_readSum_14 rfl (fun c => ?_) (fun c => ?_)
  · replace h := h.1 c
    refine wp_aload_n 3 dX4_readSum_91 rfl ?_
    exact wp_areturn dX4_readSum_92 rfl ⟨_, rfl, h⟩
  · replace h := h.2 c
    refine wp_aload_n 3 dX4_readSum_17 rfl ?_
    refine wp_ifnull (tgt := 91) dX4_readSum_18 rfl (fun c => ?_) (fun a1 ha1 => ?_)
    · replace h := h.1 c
      refine wp_aload_n 3 dX4_readSum_91 rfl ?_
      exact wp_areturn dX4_readSum_92 rfl ⟨_, rfl, h⟩
    · replace h := h.2 a1 ha1
      refine wp_aload_n 1 dX4_readSum_21 rfl ?_
      refine wp_iconst (v := (0 : Int32)) dX4_readSum_22 (by decide) ?_
      obtain ⟨a3, ha3, h⟩ := h
      obtain ⟨ht4, h⟩ := h
      refine wp_callV (ci := 7) (As := [.int (0 : Int32)]) (rest := []) (mc := 0) (ms := 0) dX4_readSum_23 lk_X4_97 rfl rfl (by decide) ha3 rfl rfl ht4 rfl rfl rfl w_4_25 (Call.weaken h ?_)
      rintro H2 _ ⟨r5, rfl, h⟩
      change WP _ _ _ _ _ _ [.int r5] H2 _
      refine wp_bipush (v := (43 : Int32)) dX4_readSum_26 (by decide) ?_
      refine wp_icmp_ne (tgt := 35) dX4_readSum_28 rfl (fun c => ?_) (fun c => ?_)
      · replace h := h.1 c
        refine wp_iconst (v := (4 : Int32)) dX4_readSum_35 (by decide) ?_
        refine wp_istore (ls' := [(5, .int (4 : Int32)), (0, rv (some a0)), (1, rv o1), (2, .int x2), (3, rv o3), (4, .int x4)]) dX4_readSum_36 (by decide) rfl ?_
        refine wp_aload_n 2 dX4_readSum_38 rfl ?_
        refine wp_bipush (v := (43 : Int32)) dX4_readSum_39 (by decide) ?_
        obtain ⟨ht7, h⟩ := h
        refine wp_callV (ci := 7) (As := [.int (43 : Int32)]) (rest := []) (mc := 0) (ms := 0) dX4_readSum_41 lk_X4_79 rfl rfl (by decide) ha3 rfl rfl ht7 rfl rfl rfl w_4_58 (Call.weaken h ?_)
        rintro H6 _ ⟨b8, rfl, h⟩
        change WP _ _ _ _ _ _ [.int (bI b8)] H6 _
        refine wp_if_ne (tgt := 58) dX4_readSum_44 rfl (fun c => ?_) (fun c => ?_)
        · replace h := h.1 (bI_1.mp c)
          refine wp_aload_n 1 dX4_readSum_58 rfl ?_
          refine wp_aload_n 2 dX4_readSum_59 rfl ?_
          refine wp_iload_n 3 dX4_readSum_60 rfl ?_
          obtain ⟨ht10, h⟩ := h
          refine wp_callV (ci := 4) (As := [rv o1, .int x2]) (rest := []) (mc := 0) (ms := 0) dX4_readSum_61 lk_X4_94 rfl rfl (by decide) rfl rfl rfl ht10 rfl rfl rfl w_4_17 (Call.weaken h ?_)
          rintro H9 _ ⟨r11, rfl, h⟩
          change WP _ _ _ _ _ _ [rv r11] H9 _
          refine wp_astore (ls' := [(6, rv r11), (5, .int (4 : Int32)), (0, rv (some a0)), (1, rv o1), (2, .int x2), (3, rv o3), (4, .int x4)]) dX4_readSum_64 (by decide) rfl ?_
          refine wp_aload 0 dX4_readSum_66 rfl ?_
          refine wp_ifnonnull (tgt := 75) dX4_readSum_68 rfl (fun a12 ha12 => ?_) (fun c => ?_)
          · replace h := h.2 a12 ha12
            refine wp_aload_n 2 dX4_readSum_75 rfl ?_
            refine wp_iload 1 dX4_readSum_76 rfl ?_
            refine wp_aload_n 5 dX4_readSum_78 rfl ?_
            refine wp_aload 0 dX4_readSum_79 rfl ?_
            obtain ⟨ht14, h⟩ := h
            refine wp_callV (ci := 4) (As := [.int (4 : Int32), rv o3, rv r11]) (rest := []) (mc := 0) (ms := 0) dX4_readSum_81 lk_X4_86 rfl rfl (by decide) rfl rfl rfl ht14 rfl rfl rfl w_4_26 (Call.weaken h ?_)
            rintro H13 _ ⟨r15, rfl, h⟩
            change WP _ _ _ _ _ _ [rv r15] H13 _
            refine wp_astore_n (ls' := [(3, rv r15), (6, rv r11), (5, .int (4 : Int32)), (0, rv (some a0)), (1, rv o1), (2, .int x2), (4, .int x4)]) dX4_readSum_84 (by decide) rfl ?_
            refine wp_iinc (v := (x4 + 1)) (ls' := [(4, .int (x4 + 1)), (3, rv r15), (6, rv r11), (5, .int (4 : Int32)), (0, rv (some a0)), (1, rv o1), (2, .int x2)]) 6 dX4_readSum_85 rfl rfl (by decide) (by simp [st1, rv_cat, vc_int, vc_long, vc_float, vc_double]) ?_
            refine wp_goto (tgt := 10) dX4_readSum_88 rfl ?_
            refine wp_sub (ls' := [(0, rv (some a0)), (1, rv o1), (2, .int x2), (3, rv r15), (4, .int (x4 + 1))]) [4, 5, 6, 1, 0] rfl ?_
            exact h
          · replace h := h.1 c
            refine wp_null dX4_readSum_71 ?_
            refine wp_goto (tgt := 84) dX4_readSum_72 rfl ?_
            refine wp_astore_n (ls' := [(3, rv none), (6, rv r11), (5, .int (4 : Int32)), (0, rv (some a0)), (1, rv o1), (2, .int x2), (4, .int x4)]) dX4_readSum_84 (by decide) rfl ?_
            refine wp_iinc (v := (x4 + 1)) (ls' := [(4, .int (x4 + 1)), (3, rv none), (6, rv r11), (5, .int (4 : Int32)), (0, rv (some a0)), (1, rv o1), (2, .int x2)]) 6 dX4_readSum_85 rfl rfl (by decide) (by simp [st1, rv_cat, vc_int, vc_long, vc_float, vc_double]) ?_
            refine wp_goto (tgt := 10) dX4_readSum_88 rfl ?_
            refine wp_sub (ls' := [(0, rv (some a0)), (1, rv o1), (2, .int x2), (3, rv none), (4, .int (x4 + 1))]) [4, 5, 6, 1, 0] rfl ?_
            exact h
        · replace h := h.2 (bI_0.mp c)
          refine wp_aload_n 2 dX4_readSum_47 rfl ?_
          refine wp_bipush (v := (45 : Int32)) dX4_readSum_48 (by decide) ?_
          obtain ⟨ht17, h⟩ := h
          refine wp_callV (ci := 7) (As := [.int (45 : Int32)]) (rest := []) (mc := 0) (ms := 0) dX4_readSum_50 lk_X4_79 rfl rfl (by decide) ha3 rfl rfl ht17 rfl rfl rfl w_4_58 (Call.weaken h ?_)
          rintro H16 _ ⟨b18, rfl, h⟩
          change WP _ _ _ _ _ _ [.int (bI b18)] H16 _
          refine wp_if_ne (tgt := 58) dX4_readSum_53 rfl (fun c => ?_) (fun c => ?_)
          · replace h := h.1 (bI_1.mp c)
            refine wp_aload_n 1 dX4_readSum_58 rfl ?_
            refine wp_aload_n 2 dX4_readSum_59 rfl ?_
            refine wp_iload_n 3 dX4_readSum_60 rfl ?_
            obtain ⟨ht20, h⟩ := h
            refine wp_callV (ci := 4) (As := [rv o1, .int x2]) (rest := []) (mc := 0) (ms := 0) dX4_readSum_61 lk_X4_94 rfl rfl (by decide) rfl rfl rfl ht20 rfl rfl rfl w_4_17 (Call.weaken h ?_)
            rintro H19 _ ⟨r21, rfl, h⟩
            change WP _ _ _ _ _ _ [rv r21] H19 _
            refine wp_astore (ls' := [(6, rv r21), (5, .int (4 : Int32)), (0, rv (some a0)), (1, rv o1), (2, .int x2), (3, rv o3), (4, .int x4)]) dX4_readSum_64 (by decide) rfl ?_
            refine wp_aload 0 dX4_readSum_66 rfl ?_
            refine wp_ifnonnull (tgt := 75) dX4_readSum_68 rfl (fun a22 ha22 => ?_) (fun c => ?_)
            · replace h := h.2 a22 ha22
              refine wp_aload_n 2 dX4_readSum_75 rfl ?_
              refine wp_iload 1 dX4_readSum_76 rfl ?_
              refine wp_aload_n 5 dX4_readSum_78 rfl ?_
              refine wp_aload 0 dX4_readSum_79 rfl ?_
              obtain ⟨ht24, h⟩ := h
              refine wp_callV (ci := 4) (As := [.int (4 : Int32), rv o3, rv r21]) (rest := []) (mc := 0) (ms := 0) dX4_readSum_81 lk_X4_86 rfl rfl (by decide) rfl rfl rfl ht24 rfl rfl rfl w_4_26 (Call.weaken h ?_)
              rintro H23 _ ⟨r25, rfl, h⟩
              change WP _ _ _ _ _ _ [rv r25] H23 _
              refine wp_astore_n (ls' := [(3, rv r25), (6, rv r21), (5, .int (4 : Int32)), (0, rv (some a0)), (1, rv o1), (2, .int x2), (4, .int x4)]) dX4_readSum_84 (by decide) rfl ?_
              refine wp_iinc (v := (x4 + 1)) (ls' := [(4, .int (x4 + 1)), (3, rv r25), (6, rv r21), (5, .int (4 : Int32)), (0, rv (some a0)), (1, rv o1), (2, .int x2)]) 6 dX4_readSum_85 rfl rfl (by decide) (by simp [st1, rv_cat, vc_int, vc_long, vc_float, vc_double]) ?_
              refine wp_goto (tgt := 10) dX4_readSum_88 rfl ?_
              refine wp_sub (ls' := [(0, rv (some a0)), (1, rv o1), (2, .int x2), (3, rv r25), (4, .int (x4 + 1))]) [4, 5, 6, 1, 0] rfl ?_
              exact h
            · replace h := h.1 c
              refine wp_null dX4_readSum_71 ?_
              refine wp_goto (tgt := 84) dX4_readSum_72 rfl ?_
              refine wp_astore_n (ls' := [(3, rv none), (6, rv r21), (5, .int (4 : Int32)), (0, rv (some a0)), (1, rv o1), (2, .int x2), (4, .int x4)]) dX4_readSum_84 (by decide) rfl ?_
              refine wp_iinc (v := (x4 + 1)) (ls' := [(4, .int (x4 + 1)), (3, rv none), (6, rv r21), (5, .int (4 : Int32)), (0, rv (some a0)), (1, rv o1), (2, .int x2)]) 6 dX4_readSum_85 rfl rfl (by decide) (by simp [st1, rv_cat, vc_int, vc_long, vc_float, vc_double]) ?_
              refine wp_goto (tgt := 10) dX4_readSum_88 rfl ?_
              refine wp_sub (ls' := [(0, rv (some a0)), (1, rv o1), (2, .int x2), (3, rv none), (4, .int (x4 + 1))]) [4, 5, 6, 1, 0] rfl ?_
              exact h
          · replace h := h.2 (bI_0.mp c)
            refine wp_aload_n 4 dX4_readSum_56 rfl ?_
            exact wp_areturn dX4_readSum_57 rfl ⟨_, rfl, h⟩
      · replace h := h.2 c
        refine wp_iconst (v := (3 : Int32)) dX4_readSum_31 (by decide) ?_
        refine wp_goto (tgt := 36) dX4_readSum_32 rfl ?_
        refine wp_istore (ls' := [(5, .int (3 : Int32)), (0, rv (some a0)), (1, rv o1), (2, .int x2), (3, rv o3), (4, .int x4)]) dX4_readSum_36 (by decide) rfl ?_
        refine wp_aload_n 2 dX4_readSum_38 rfl ?_
        refine wp_bipush (v := (43 : Int32)) dX4_readSum_39 (by decide) ?_
        obtain ⟨ht27, h⟩ := h
        refine wp_callV (ci := 7) (As := [.int (43 : Int32)]) (rest := []) (mc := 0) (ms := 0) dX4_readSum_41 lk_X4_79 rfl rfl (by decide) ha3 rfl rfl ht27 rfl rfl rfl w_4_58 (Call.weaken h ?_)
        rintro H26 _ ⟨b28, rfl, h⟩
        change WP _ _ _ _ _ _ [.int (bI b28)] H26 _
        refine wp_if_ne (tgt := 58) dX4_readSum_44 rfl (fun c => ?_) (fun c => ?_)
        · replace h := h.1 (bI_1.mp c)
          refine wp_aload_n 1 dX4_readSum_58 rfl ?_
          refine wp_aload_n 2 dX4_readSum_59 rfl ?_
          refine wp_iload_n 3 dX4_readSum_60 rfl ?_
          obtain ⟨ht30, h⟩ := h
          refine wp_callV (ci := 4) (As := [rv o1, .int x2]) (rest := []) (mc := 0) (ms := 0) dX4_readSum_61 lk_X4_94 rfl rfl (by decide) rfl rfl rfl ht30 rfl rfl rfl w_4_17 (Call.weaken h ?_)
          rintro H29 _ ⟨r31, rfl, h⟩
          change WP _ _ _ _ _ _ [rv r31] H29 _
          refine wp_astore (ls' := [(6, rv r31), (5, .int (3 : Int32)), (0, rv (some a0)), (1, rv o1), (2, .int x2), (3, rv o3), (4, .int x4)]) dX4_readSum_64 (by decide) rfl ?_
          refine wp_aload 0 dX4_readSum_66 rfl ?_
          refine wp_ifnonnull (tgt := 75) dX4_readSum_68 rfl (fun a32 ha32 => ?_) (fun c => ?_)
          · replace h := h.2 a32 ha32
            refine wp_aload_n 2 dX4_readSum_75 rfl ?_
            refine wp_iload 1 dX4_readSum_76 rfl ?_
            refine wp_aload_n 5 dX4_readSum_78 rfl ?_
            refine wp_aload 0 dX4_readSum_79 rfl ?_
            obtain ⟨ht34, h⟩ := h
            refine wp_callV (ci := 4) (As := [.int (3 : Int32), rv o3, rv r31]) (rest := []) (mc := 0) (ms := 0) dX4_readSum_81 lk_X4_86 rfl rfl (by decide) rfl rfl rfl ht34 rfl rfl rfl w_4_26 (Call.weaken h ?_)
            rintro H33 _ ⟨r35, rfl, h⟩
            change WP _ _ _ _ _ _ [rv r35] H33 _
            refine wp_astore_n (ls' := [(3, rv r35), (6, rv r31), (5, .int (3 : Int32)), (0, rv (some a0)), (1, rv o1), (2, .int x2), (4, .int x4)]) dX4_readSum_84 (by decide) rfl ?_
            refine wp_iinc (v := (x4 + 1)) (ls' := [(4, .int (x4 + 1)), (3, rv r35), (6, rv r31), (5, .int (3 : Int32)), (0, rv (some a0)), (1, rv o1), (2, .int x2)]) 6 dX4_readSum_85 rfl rfl (by decide) (by simp [st1, rv_cat, vc_int, vc_long, vc_float, vc_double]) ?_
            refine wp_goto (tgt := 10) dX4_readSum_88 rfl ?_
            refine wp_sub (ls' := [(0, rv (some a0)), (1, rv o1), (2, .int x2), (3, rv r35), (4, .int (x4 + 1))]) [4, 5, 6, 1, 0] rfl ?_
            exact h
          · replace h := h.1 c
            refine wp_null dX4_readSum_71 ?_
            refine wp_goto (tgt := 84) dX4_readSum_72 rfl ?_
            refine wp_astore_n (ls' := [(3, rv none), (6, rv r31), (5, .int (3 : Int32)), (0, rv (some a0)), (1, rv o1), (2, .int x2), (4, .int x4)]) dX4_readSum_84 (by decide) rfl ?_
            refine wp_iinc (v := (x4 + 1)) (ls' := [(4, .int (x4 + 1)), (3, rv none), (6, rv r31), (5, .int (3 : Int32)), (0, rv (some a0)), (1, rv o1), (2, .int x2)]) 6 dX4_readSum_85 rfl rfl (by decide) (by simp [st1, rv_cat, vc_int, vc_long, vc_float, vc_double]) ?_
            refine wp_goto (tgt := 10) dX4_readSum_88 rfl ?_
            refine wp_sub (ls' := [(0, rv (some a0)), (1, rv o1), (2, .int x2), (3, rv none), (4, .int (x4 + 1))]) [4, 5, 6, 1, 0] rfl ?_
            exact h
        · replace h := h.2 (bI_0.mp c)
          refine wp_aload_n 2 dX4_readSum_47 rfl ?_
          refine wp_bipush (v := (45 : Int32)) dX4_readSum_48 (by decide) ?_
          obtain ⟨ht37, h⟩ := h
          refine wp_callV (ci := 7) (As := [.int (45 : Int32)]) (rest := []) (mc := 0) (ms := 0) dX4_readSum_50 lk_X4_79 rfl rfl (by decide) ha3 rfl rfl ht37 rfl rfl rfl w_4_58 (Call.weaken h ?_)
          rintro H36 _ ⟨b38, rfl, h⟩
          change WP _ _ _ _ _ _ [.int (bI b38)] H36 _
          refine wp_if_ne (tgt := 58) dX4_readSum_53 rfl (fun c => ?_) (fun c => ?_)
          · replace h := h.1 (bI_1.mp c)
            refine wp_aload_n 1 dX4_readSum_58 rfl ?_
            refine wp_aload_n 2 dX4_readSum_59 rfl ?_
            refine wp_iload_n 3 dX4_readSum_60 rfl ?_
            obtain ⟨ht40, h⟩ := h
            refine wp_callV (ci := 4) (As := [rv o1, .int x2]) (rest := []) (mc := 0) (ms := 0) dX4_readSum_61 lk_X4_94 rfl rfl (by decide) rfl rfl rfl ht40 rfl rfl rfl w_4_17 (Call.weaken h ?_)
            rintro H39 _ ⟨r41, rfl, h⟩
            change WP _ _ _ _ _ _ [rv r41] H39 _
            refine wp_astore (ls' := [(6, rv r41), (5, .int (3 : Int32)), (0, rv (some a0)), (1, rv o1), (2, .int x2), (3, rv o3), (4, .int x4)]) dX4_readSum_64 (by decide) rfl ?_
            refine wp_aload 0 dX4_readSum_66 rfl ?_
            refine wp_ifnonnull (tgt := 75) dX4_readSum_68 rfl (fun a42 ha42 => ?_) (fun c => ?_)
            · replace h := h.2 a42 ha42
              refine wp_aload_n 2 dX4_readSum_75 rfl ?_
              refine wp_iload 1 dX4_readSum_76 rfl ?_
              refine wp_aload_n 5 dX4_readSum_78 rfl ?_
              refine wp_aload 0 dX4_readSum_79 rfl ?_
              obtain ⟨ht44, h⟩ := h
              refine wp_callV (ci := 4) (As := [.int (3 : Int32), rv o3, rv r41]) (rest := []) (mc := 0) (ms := 0) dX4_readSum_81 lk_X4_86 rfl rfl (by decide) rfl rfl rfl ht44 rfl rfl rfl w_4_26 (Call.weaken h ?_)
              rintro H43 _ ⟨r45, rfl, h⟩
              change WP _ _ _ _ _ _ [rv r45] H43 _
              refine wp_astore_n (ls' := [(3, rv r45), (6, rv r41), (5, .int (3 : Int32)), (0, rv (some a0)), (1, rv o1), (2, .int x2), (4, .int x4)]) dX4_readSum_84 (by decide) rfl ?_
              refine wp_iinc (v := (x4 + 1)) (ls' := [(4, .int (x4 + 1)), (3, rv r45), (6, rv r41), (5, .int (3 : Int32)), (0, rv (some a0)), (1, rv o1), (2, .int x2)]) 6 dX4_readSum_85 rfl rfl (by decide) (by simp [st1, rv_cat, vc_int, vc_long, vc_float, vc_double]) ?_
              refine wp_goto (tgt := 10) dX4_readSum_88 rfl ?_
              refine wp_sub (ls' := [(0, rv (some a0)), (1, rv o1), (2, .int x2), (3, rv r45), (4, .int (x4 + 1))]) [4, 5, 6, 1, 0] rfl ?_
              exact h
            · replace h := h.1 c
              refine wp_null dX4_readSum_71 ?_
              refine wp_goto (tgt := 84) dX4_readSum_72 rfl ?_
              refine wp_astore_n (ls' := [(3, rv none), (6, rv r41), (5, .int (3 : Int32)), (0, rv (some a0)), (1, rv o1), (2, .int x2), (4, .int x4)]) dX4_readSum_84 (by decide) rfl ?_
              refine wp_iinc (v := (x4 + 1)) (ls' := [(4, .int (x4 + 1)), (3, rv none), (6, rv r41), (5, .int (3 : Int32)), (0, rv (some a0)), (1, rv o1), (2, .int x2)]) 6 dX4_readSum_85 rfl rfl (by decide) (by simp [st1, rv_cat, vc_int, vc_long, vc_float, vc_double]) ?_
              refine wp_goto (tgt := 10) dX4_readSum_88 rfl ?_
              refine wp_sub (ls' := [(0, rv (some a0)), (1, rv o1), (2, .int x2), (3, rv none), (4, .int (x4 + 1))]) [4, 5, 6, 1, 0] rfl ?_
              exact h
          · replace h := h.2 (bI_0.mp c)
            refine wp_aload_n 4 dX4_readSum_56 rfl ?_
            exact wp_areturn dX4_readSum_57 rfl ⟨_, rfl, h⟩
theorem C_X4_readSum {d : Nat} {q : HP → Option Nat → Prop} {a0 : Nat} {o1 : Option Nat} {x2 : Int32} {H : HP} (h : wb_X4_readSum_0 d q a0 o1 x2 H) : CR (d + 1) 0 0 mX4_readSum [rv (some a0), rv o1, .int x2] H q := by
  refine call_of (by decide +kernel) (by simp [lg_sl, rv_cat, vc_int, vc_long, vc_float, vc_double]) ?_
  have e : lv_args 0 [rv (some a0), rv o1, .int x2] = [(0, rv (some a0)), (1, rv o1), (2, .int x2)] := by simp [lv_args, rv_cat, vc_int, vc_long, vc_float, vc_double]
  rw [e]
  exact T_X4_readSum_0 h
/-- UnitProver$Proof.readTerm(LUnitProver$Tape;I)LUnitProver$Step;: the loop at 10 -/
def L_X4_readTerm_10 (d : Nat) (q : HP → Option Nat → Prop) (a0 : Nat) (o1 : Option Nat) (x2 : Int32) (o3 : Option Nat) (x4 : Int32) (H : HP) : Prop := WP (d + 1) mX4_readTerm 0 0 10 [(0, rv (some a0)), (1, rv o1), (2, .int x2), (3, rv o3), (4, .int x4)] [] H (qR q)
def wb_X4_readTerm_0 (d : Nat) (q : HP → Option Nat → Prop) (a0 : Nat) (o1 : Option Nat) (x2 : Int32) (H : HP) : Prop :=
  tg H a0 = 5 ∧ (CR d 0 0 mX4_readPart [rv (some a0), rv o1, .int x2] H (fun H1 r3 => L_X4_readTerm_10 d q a0 o1 x2 r3 (0 : Int32) H1))
set_option maxRecDepth 40000 in
set_option maxHeartbeats 4000000 in
theorem T_X4_readTerm_0 {d : Nat} {q : HP → Option Nat → Prop} {a0 : Nat} {o1 : Option Nat} {x2 : Int32} {H : HP} (h : wb_X4_readTerm_0 d q a0 o1 x2 H) : WP (d + 1) mX4_readTerm 0 0 0 [(0, rv (some a0)), (1, rv o1), (2, .int x2)] [] H (qR q) := by
  unfold wb_X4_readTerm_0 at h
  refine wp_aload_n 0 dX4_readTerm_0 rfl ?_
  refine wp_aload_n 1 dX4_readTerm_1 rfl ?_
  refine wp_iload_n 2 dX4_readTerm_2 rfl ?_
  obtain ⟨ht2, h⟩ := h
  refine wp_callV (ci := 4) (As := [rv o1, .int x2]) (rest := []) (mc := 0) (ms := 0) dX4_readTerm_3 lk_X4_101 rfl rfl (by decide) rfl rfl rfl ht2 rfl rfl rfl w_4_21 (Call.weaken h ?_)
  rintro H1 _ ⟨r3, rfl, h⟩
  change WP _ _ _ _ _ _ [rv r3] H1 _
  refine wp_astore_n (ls' := [(3, rv r3), (0, rv (some a0)), (1, rv o1), (2, .int x2)]) dX4_readTerm_6 (by decide) rfl ?_
  refine wp_iconst (v := (0 : Int32)) dX4_readTerm_7 (by decide) ?_
  refine wp_istore (ls' := [(4, .int (0 : Int32)), (3, rv r3), (0, rv (some a0)), (1, rv o1), (2, .int x2)]) dX4_readTerm_8 (by decide) (by change st1 _ 4 _ = _; simp [st1, rv_cat, vc_int, vc_long, vc_float, vc_double]) ?_
  refine wp_sub (ls' := [(0, rv (some a0)), (1, rv o1), (2, .int x2), (3, rv r3), (4, .int (0 : Int32))]) [2, 3, 4, 1, 0] rfl ?_
  exact h
def wb_X4_readTerm_10 (d : Nat) (q : HP → Option Nat → Prop) (a0 : Nat) (o1 : Option Nat) (x2 : Int32) (o3 : Option Nat) (x4 : Int32) (H : HP) : Prop :=
  ((60 : Int32) ≤ x4 → q H o3) ∧ (¬ ((60 : Int32) ≤ x4) → (o3 = none → q H o3) ∧ (∀ a1, o3 = some a1 → ∃ a3, o1 = some a3 ∧ (tg H a3 = 8 ∧ (CI d 0 0 mX7_look [rv o1, .int (0 : Int32)] H (fun H2 r5 => (¬ r5 = (42 : Int32) → tg H2 a3 = 8 ∧ (CZ d 0 0 mX7_takes [rv o1, .int (42 : Int32)] H2 (fun H6 b8 => (b8 = true → tg H6 a0 = 5 ∧ (CR d 0 0 mX4_readPart [rv (some a0), rv o1, .int x2] H6 (fun H9 r11 => (r11 = none → L_X4_readTerm_10 d q a0 o1 x2 none (x4 + 1) H9) ∧ (∀ a12, r11 = some a12 → tg H9 a0 = 5 ∧ (CR d 0 0 mX4_append [rv (some a0), .int (2 : Int32), rv o3, rv r11] H9 (fun H13 r15 => L_X4_readTerm_10 d q a0 o1 x2 r15 (x4 + 1) H13)))))) ∧ (b8 = false → tg H6 a3 = 8 ∧ (CZ d 0 0 mX7_takes [rv o1, .int (47 : Int32)] H6 (fun H16 b18 => (b18 = true → tg H16 a0 = 5 ∧ (CR d 0 0 mX4_readPart [rv (some a0), rv o1, .int x2] H16 (fun H19 r21 => (r21 = none → L_X4_readTerm_10 d q a0 o1 x2 none (x4 + 1) H19) ∧ (∀ a22, r21 = some a22 → tg H19 a0 = 5 ∧ (CR d 0 0 mX4_append [rv (some a0), .int (2 : Int32), rv o3, rv r21] H19 (fun H23 r25 => L_X4_readTerm_10 d q a0 o1 x2 r25 (x4 + 1) H23)))))) ∧ (b18 = false → q H16 o3))))))) ∧ (r5 = (42 : Int32) → tg H2 a3 = 8 ∧ (CZ d 0 0 mX7_takes [rv o1, .int (42 : Int32)] H2 (fun H26 b28 => (b28 = true → tg H26 a0 = 5 ∧ (CR d 0 0 mX4_readPart [rv (some a0), rv o1, .int x2] H26 (fun H29 r31 => (r31 = none → L_X4_readTerm_10 d q a0 o1 x2 none (x4 + 1) H29) ∧ (∀ a32, r31 = some a32 → tg H29 a0 = 5 ∧ (CR d 0 0 mX4_append [rv (some a0), .int (1 : Int32), rv o3, rv r31] H29 (fun H33 r35 => L_X4_readTerm_10 d q a0 o1 x2 r35 (x4 + 1) H33)))))) ∧ (b28 = false → tg H26 a3 = 8 ∧ (CZ d 0 0 mX7_takes [rv o1, .int (47 : Int32)] H26 (fun H36 b38 => (b38 = true → tg H36 a0 = 5 ∧ (CR d 0 0 mX4_readPart [rv (some a0), rv o1, .int x2] H36 (fun H39 r41 => (r41 = none → L_X4_readTerm_10 d q a0 o1 x2 none (x4 + 1) H39) ∧ (∀ a42, r41 = some a42 → tg H39 a0 = 5 ∧ (CR d 0 0 mX4_append [rv (some a0), .int (1 : Int32), rv o3, rv r41] H39 (fun H43 r45 => L_X4_readTerm_10 d q a0 o1 x2 r45 (x4 + 1) H43)))))) ∧ (b38 = false → q H36 o3))))))))))))
set_option maxRecDepth 40000 in
set_option maxHeartbeats 4000000 in
theorem T_X4_readTerm_10 {d : Nat} {q : HP → Option Nat → Prop} {a0 : Nat} {o1 : Option Nat} {x2 : Int32} {o3 : Option Nat} {x4 : Int32} {H : HP} (h : wb_X4_readTerm_10 d q a0 o1 x2 o3 x4 H) : L_X4_readTerm_10 d q a0 o1 x2 o3 x4 H := by
  unfold wb_X4_readTerm_10 at h
  unfold L_X4_readTerm_10
  refine wp_iload 4 dX4_readTerm_10 rfl ?_
  refine wp_bipush (v := (60 : Int32)) dX4_readTerm_12 (by decide) ?_
  refine wp_icmp_ge (tgt := 91) dX4_readTerm_14 rfl (fun c => ?_) (fun c => ?_)
  · replace h := h.1 c
    refine wp_aload_n 3 dX4_readTerm_91 rfl ?_
    exact wp_areturn dX4_readTerm_92 rfl ⟨_, rfl, h⟩
  · replace h := h.2 c
    refine wp_aload_n 3 dX4_readTerm_17 rfl ?_
    refine wp_ifnull (tgt := 91) dX4_readTerm_18 rfl (fun c => ?_) (fun a1 ha1 => ?_)
    · replace h := h.1 c
      refine wp_aload_n 3 dX4_readTerm_91 rfl ?_
      exact wp_areturn dX4_readTerm_92 rfl ⟨_, rfl, h⟩
    · replace h := h.2 a1 ha1
      refine wp_aload_n 1 dX4_readTerm_21 rfl ?_
      refine wp_iconst (v := (0 : Int32)) dX4_readTerm_22 (by decide) ?_
      obtain ⟨a3, ha3, h⟩ := h
      obtain ⟨ht4, h⟩ := h
      refine wp_callV (ci := 7) (As := [.int (0 : Int32)]) (rest := []) (mc := 0) (ms := 0) dX4_readTerm_23 lk_X4_97 rfl rfl (by decide) ha3 rfl rfl ht4 rfl rfl rfl w_4_25 (Call.weaken h ?_)
      rintro H2 _ ⟨r5, rfl, h⟩
      change WP _ _ _ _ _ _ [.int r5] H2 _
      refine wp_bipush (v := (42 : Int32)) dX4_readTerm_26 (by decide) ?_
      refine wp_icmp_ne (tgt := 35) dX4_readTerm_28 rfl (fun c => ?_) (fun c => ?_)
      · replace h := h.1 c
        refine wp_iconst (v := (2 : Int32)) dX4_readTerm_35 (by decide) ?_
        refine wp_istore (ls' := [(5, .int (2 : Int32)), (0, rv (some a0)), (1, rv o1), (2, .int x2), (3, rv o3), (4, .int x4)]) dX4_readTerm_36 (by decide) rfl ?_
        refine wp_aload_n 2 dX4_readTerm_38 rfl ?_
        refine wp_bipush (v := (42 : Int32)) dX4_readTerm_39 (by decide) ?_
        obtain ⟨ht7, h⟩ := h
        refine wp_callV (ci := 7) (As := [.int (42 : Int32)]) (rest := []) (mc := 0) (ms := 0) dX4_readTerm_41 lk_X4_79 rfl rfl (by decide) ha3 rfl rfl ht7 rfl rfl rfl w_4_58 (Call.weaken h ?_)
        rintro H6 _ ⟨b8, rfl, h⟩
        change WP _ _ _ _ _ _ [.int (bI b8)] H6 _
        refine wp_if_ne (tgt := 58) dX4_readTerm_44 rfl (fun c => ?_) (fun c => ?_)
        · replace h := h.1 (bI_1.mp c)
          refine wp_aload_n 1 dX4_readTerm_58 rfl ?_
          refine wp_aload_n 2 dX4_readTerm_59 rfl ?_
          refine wp_iload_n 3 dX4_readTerm_60 rfl ?_
          obtain ⟨ht10, h⟩ := h
          refine wp_callV (ci := 4) (As := [rv o1, .int x2]) (rest := []) (mc := 0) (ms := 0) dX4_readTerm_61 lk_X4_101 rfl rfl (by decide) rfl rfl rfl ht10 rfl rfl rfl w_4_21 (Call.weaken h ?_)
          rintro H9 _ ⟨r11, rfl, h⟩
          change WP _ _ _ _ _ _ [rv r11] H9 _
          refine wp_astore (ls' := [(6, rv r11), (5, .int (2 : Int32)), (0, rv (some a0)), (1, rv o1), (2, .int x2), (3, rv o3), (4, .int x4)]) dX4_readTerm_64 (by decide) rfl ?_
          refine wp_aload 0 dX4_readTerm_66 rfl ?_
          refine wp_ifnonnull (tgt := 75) dX4_readTerm_68 rfl (fun a12 ha12 => ?_) (fun c => ?_)
          · replace h := h.2 a12 ha12
            refine wp_aload_n 2 dX4_readTerm_75 rfl ?_
            refine wp_iload 1 dX4_readTerm_76 rfl ?_
            refine wp_aload_n 5 dX4_readTerm_78 rfl ?_
            refine wp_aload 0 dX4_readTerm_79 rfl ?_
            obtain ⟨ht14, h⟩ := h
            refine wp_callV (ci := 4) (As := [.int (2 : Int32), rv o3, rv r11]) (rest := []) (mc := 0) (ms := 0) dX4_readTerm_81 lk_X4_86 rfl rfl (by decide) rfl rfl rfl ht14 rfl rfl rfl w_4_26 (Call.weaken h ?_)
            rintro H13 _ ⟨r15, rfl, h⟩
            change WP _ _ _ _ _ _ [rv r15] H13 _
            refine wp_astore_n (ls' := [(3, rv r15), (6, rv r11), (5, .int (2 : Int32)), (0, rv (some a0)), (1, rv o1), (2, .int x2), (4, .int x4)]) dX4_readTerm_84 (by decide) rfl ?_
            refine wp_iinc (v := (x4 + 1)) (ls' := [(4, .int (x4 + 1)), (3, rv r15), (6, rv r11), (5, .int (2 : Int32)), (0, rv (some a0)), (1, rv o1), (2, .int x2)]) 6 dX4_readTerm_85 rfl rfl (by decide) (by simp [st1, rv_cat, vc_int, vc_long, vc_float, vc_double]) ?_
            refine wp_goto (tgt := 10) dX4_readTerm_88 rfl ?_
            refine wp_sub (ls' := [(0, rv (some a0)), (1, rv o1), (2, .int x2), (3, rv r15), (4, .int (x4 + 1))]) [4, 5, 6, 1, 0] rfl ?_
            exact h
          · replace h := h.1 c
            refine wp_null dX4_readTerm_71 ?_
            refine wp_goto (tgt := 84) dX4_readTerm_72 rfl ?_
            refine wp_astore_n (ls' := [(3, rv none), (6, rv r11), (5, .int (2 : Int32)), (0, rv (some a0)), (1, rv o1), (2, .int x2), (4, .int x4)]) dX4_readTerm_84 (by decide) rfl ?_
            refine wp_iinc (v := (x4 + 1)) (ls' := [(4, .int (x4 + 1)), (3, rv none), (6, rv r11), (5, .int (2 : Int32)), (0, rv (some a0)), (1, rv o1), (2, .int x2)]) 6 dX4_readTerm_85 rfl rfl (by decide) (by simp [st1, rv_cat, vc_int, vc_long, vc_float, vc_double]) ?_
            refine wp_goto (tgt := 10) dX4_readTerm_88 rfl ?_
            refine wp_sub (ls' := [(0, rv (some a0)), (1, rv o1), (2, .int x2), (3, rv none), (4, .int (x4 + 1))]) [4, 5, 6, 1, 0] rfl ?_
            exact h
        · replace h := h.2 (bI_0.mp c)
          refine wp_aload_n 2 dX4_readTerm_47 rfl ?_
          refine wp_bipush (v := (47 : Int32)) dX4_readTerm_48 (by decide) ?_
          obtain ⟨ht17, h⟩ := h
          refine wp_callV (ci := 7) (As := [.int (47 : Int32)]) (rest := []) (mc := 0) (ms := 0) dX4_readTerm_50 lk_X4_79 rfl rfl (by decide) ha3 rfl rfl ht17 rfl rfl rfl w_4_58 (Call.weaken h ?_)
          rintro H16 _ ⟨b18, rfl, h⟩
          change WP _ _ _ _ _ _ [.int (bI b18)] H16 _
          refine wp_if_ne (tgt := 58) dX4_readTerm_53 rfl (fun c => ?_) (fun c => ?_)
          · replace h := h.1 (bI_1.mp c)
            refine wp_aload_n 1 dX4_readTerm_58 rfl ?_
            refine wp_aload_n 2 dX4_readTerm_59 rfl ?_
            refine wp_iload_n 3 dX4_readTerm_60 rfl ?_
            obtain ⟨ht20, h⟩ := h
            refine wp_callV (ci := 4) (As := [rv o1, .int x2]) (rest := []) (mc := 0) (ms := 0) dX4_readTerm_61 lk_X4_101 rfl rfl (by decide) rfl rfl rfl ht20 rfl rfl rfl w_4_21 (Call.weaken h ?_)
            rintro H19 _ ⟨r21, rfl, h⟩
            change WP _ _ _ _ _ _ [rv r21] H19 _
            refine wp_astore (ls' := [(6, rv r21), (5, .int (2 : Int32)), (0, rv (some a0)), (1, rv o1), (2, .int x2), (3, rv o3), (4, .int x4)]) dX4_readTerm_64 (by decide) rfl ?_
            refine wp_aload 0 dX4_readTerm_66 rfl ?_
            refine wp_ifnonnull (tgt := 75) dX4_readTerm_68 rfl (fun a22 ha22 => ?_) (fun c => ?_)
            · replace h := h.2 a22 ha22
              refine wp_aload_n 2 dX4_readTerm_75 rfl ?_
              refine wp_iload 1 dX4_readTerm_76 rfl ?_
              refine wp_aload_n 5 dX4_readTerm_78 rfl ?_
              refine wp_aload 0 dX4_readTerm_79 rfl ?_
              obtain ⟨ht24, h⟩ := h
              refine wp_callV (ci := 4) (As := [.int (2 : Int32), rv o3, rv r21]) (rest := []) (mc := 0) (ms := 0) dX4_readTerm_81 lk_X4_86 rfl rfl (by decide) rfl rfl rfl ht24 rfl rfl rfl w_4_26 (Call.weaken h ?_)
              rintro H23 _ ⟨r25, rfl, h⟩
              change WP _ _ _ _ _ _ [rv r25] H23 _
              refine wp_astore_n (ls' := [(3, rv r25), (6, rv r21), (5, .int (2 : Int32)), (0, rv (some a0)), (1, rv o1), (2, .int x2), (4, .int x4)]) dX4_readTerm_84 (by decide) rfl ?_
              refine wp_iinc (v := (x4 + 1)) (ls' := [(4, .int (x4 + 1)), (3, rv r25), (6, rv r21), (5, .int (2 : Int32)), (0, rv (some a0)), (1, rv o1), (2, .int x2)]) 6 dX4_readTerm_85 rfl rfl (by decide) (by simp [st1, rv_cat, vc_int, vc_long, vc_float, vc_double]) ?_
              refine wp_goto (tgt := 10) dX4_readTerm_88 rfl ?_
              refine wp_sub (ls' := [(0, rv (some a0)), (1, rv o1), (2, .int x2), (3, rv r25), (4, .int (x4 + 1))]) [4, 5, 6, 1, 0] rfl ?_
              exact h
            · replace h := h.1 c
              refine wp_null dX4_readTerm_71 ?_
              refine wp_goto (tgt := 84) dX4_readTerm_72 rfl ?_
              refine wp_astore_n (ls' := [(3, rv none), (6, rv r21), (5, .int (2 : Int32)), (0, rv (some a0)), (1, rv o1), (2, .int x2), (4, .int x4)]) dX4_readTerm_84 (by decide) rfl ?_
              refine wp_iinc (v := (x4 + 1)) (ls' := [(4, .int (x4 + 1)), (3, rv none), (6, rv r21), (5, .int (2 : Int32)), (0, rv (some a0)), (1, rv o1), (2, .int x2)]) 6 dX4_readTerm_85 rfl rfl (by decide) (by simp [st1, rv_cat, vc_int, vc_long, vc_float, vc_double]) ?_
              refine wp_goto (tgt := 10) dX4_readTerm_88 rfl ?_
              refine wp_sub (ls' := [(0, rv (some a0)), (1, rv o1), (2, .int x2), (3, rv none), (4, .int (x4 + 1))]) [4, 5, 6, 1, 0] rfl ?_
              exact h
          · replace h := h.2 (bI_0.mp c)
            refine wp_aload_n 4 dX4_readTerm_56 rfl ?_
            exact wp_areturn dX4_readTerm_57 rfl ⟨_, rfl, h⟩
      · replace h := h.2 c
        refine wp_iconst (v := (1 : Int32)) dX4_readTerm_31 (by decide) ?_
        refine wp_goto (tgt := 36) dX4_readTerm_32 rfl ?_
        refine wp_istore (ls' := [(5, .int (1 : Int32)), (0, rv (some a0)), (1, rv o1), (2, .int x2), (3, rv o3), (4, .int x4)]) dX4_readTerm_36 (by decide) rfl ?_
        refine wp_aload_n 2 dX4_readTerm_38 rfl ?_
        refine wp_bipush (v := (42 : Int32)) dX4_readTerm_39 (by decide) ?_
        obtain ⟨ht27, h⟩ := h
        refine wp_callV (ci := 7) (As := [.int (42 : Int32)]) (rest := []) (mc := 0) (ms := 0) dX4_readTerm_41 lk_X4_79 rfl rfl (by decide) ha3 rfl rfl ht27 rfl rfl rfl w_4_58 (Call.weaken h ?_)
        rintro H26 _ ⟨b28, rfl, h⟩
        change WP _ _ _ _ _ _ [.int (bI b28)] H26 _
        refine wp_if_ne (tgt := 58) dX4_readTerm_44 rfl (fun c => ?_) (fun c => ?_)
        · replace h := h.1 (bI_1.mp c)
          refine wp_aload_n 1 dX4_readTerm_58 rfl ?_
          refine wp_aload_n 2 dX4_readTerm_59 rfl ?_
          refine wp_iload_n 3 dX4_readTerm_60 rfl ?_
          obtain ⟨ht30, h⟩ := h
          refine wp_callV (ci := 4) (As := [rv o1, .int x2]) (rest := []) (mc := 0) (ms := 0) dX4_readTerm_61 lk_X4_101 rfl rfl (by decide) rfl rfl rfl ht30 rfl rfl rfl w_4_21 (Call.weaken h ?_)
          rintro H29 _ ⟨r31, rfl, h⟩
          change WP _ _ _ _ _ _ [rv r31] H29 _
          refine wp_astore (ls' := [(6, rv r31), (5, .int (1 : Int32)), (0, rv (some a0)), (1, rv o1), (2, .int x2), (3, rv o3), (4, .int x4)]) dX4_readTerm_64 (by decide) rfl ?_
          refine wp_aload 0 dX4_readTerm_66 rfl ?_
          refine wp_ifnonnull (tgt := 75) dX4_readTerm_68 rfl (fun a32 ha32 => ?_) (fun c => ?_)
          · replace h := h.2 a32 ha32
            refine wp_aload_n 2 dX4_readTerm_75 rfl ?_
            refine wp_iload 1 dX4_readTerm_76 rfl ?_
            refine wp_aload_n 5 dX4_readTerm_78 rfl ?_
            refine wp_aload 0 dX4_readTerm_79 rfl ?_
            obtain ⟨ht34, h⟩ := h
            refine wp_callV (ci := 4) (As := [.int (1 : Int32), rv o3, rv r31]) (rest := []) (mc := 0) (ms := 0) dX4_readTerm_81 lk_X4_86 rfl rfl (by decide) rfl rfl rfl ht34 rfl rfl rfl w_4_26 (Call.weaken h ?_)
            rintro H33 _ ⟨r35, rfl, h⟩
            change WP _ _ _ _ _ _ [rv r35] H33 _
            refine wp_astore_n (ls' := [(3, rv r35), (6, rv r31), (5, .int (1 : Int32)), (0, rv (some a0)), (1, rv o1), (2, .int x2), (4, .int x4)]) dX4_readTerm_84 (by decide) rfl ?_
            refine wp_iinc (v := (x4 + 1)) (ls' := [(4, .int (x4 + 1)), (3, rv r35), (6, rv r31), (5, .int (1 : Int32)), (0, rv (some a0)), (1, rv o1), (2, .int x2)]) 6 dX4_readTerm_85 rfl rfl (by decide) (by simp [st1, rv_cat, vc_int, vc_long, vc_float, vc_double]) ?_
            refine wp_goto (tgt := 10) dX4_readTerm_88 rfl ?_
            refine wp_sub (ls' := [(0, rv (some a0)), (1, rv o1), (2, .int x2), (3, rv r35), (4, .int (x4 + 1))]) [4, 5, 6, 1, 0] rfl ?_
            exact h
          · replace h := h.1 c
            refine wp_null dX4_readTerm_71 ?_
            refine wp_goto (tgt := 84) dX4_readTerm_72 rfl ?_
            refine wp_astore_n (ls' := [(3, rv none), (6, rv r31), (5, .int (1 : Int32)), (0, rv (some a0)), (1, rv o1), (2, .int x2), (4, .int x4)]) dX4_readTerm_84 (by decide) rfl ?_
            refine wp_iinc (v := (x4 + 1)) (ls' := [(4, .int (x4 + 1)), (3, rv none), (6, rv r31), (5, .int (1 : Int32)), (0, rv (some a0)), (1, rv o1), (2, .int x2)]) 6 dX4_readTerm_85 rfl rfl (by decide) (by simp [st1, rv_cat, vc_int, vc_long, vc_float, vc_double]) ?_
            refine wp_goto (tgt := 10) dX4_readTerm_88 rfl ?_
            refine wp_sub (ls' := [(0, rv (some a0)), (1, rv o1), (2, .int x2), (3, rv none), (4, .int (x4 + 1))]) [4, 5, 6, 1, 0] rfl ?_
            exact h
        · replace h := h.2 (bI_0.mp c)
          refine wp_aload_n 2 dX4_readTerm_47 rfl ?_
          refine wp_bipush (v := (47 : Int32)) dX4_readTerm_48 (by decide) ?_
          obtain ⟨ht37, h⟩ := h
          refine wp_callV (ci := 7) (As := [.int (47 : Int32)]) (rest := []) (mc := 0) (ms := 0) dX4_readTerm_50 lk_X4_79 rfl rfl (by decide) ha3 rfl rfl ht37 rfl rfl rfl w_4_58 (Call.weaken h ?_)
          rintro H36 _ ⟨b38, rfl, h⟩
          change WP _ _ _ _ _ _ [.int (bI b38)] H36 _
          refine wp_if_ne (tgt := 58) dX4_readTerm_53 rfl (fun c => ?_) (fun c => ?_)
          · replace h := h.1 (bI_1.mp c)
            refine wp_aload_n 1 dX4_readTerm_58 rfl ?_
            refine wp_aload_n 2 dX4_readTerm_59 rfl ?_
            refine wp_iload_n 3 dX4_readTerm_60 rfl ?_
            obtain ⟨ht40, h⟩ := h
            refine wp_callV (ci := 4) (As := [rv o1, .int x2]) (rest := []) (mc := 0) (ms := 0) dX4_readTerm_61 lk_X4_101 rfl rfl (by decide) rfl rfl rfl ht40 rfl rfl rfl w_4_21 (Call.weaken h ?_)
            rintro H39 _ ⟨r41, rfl, h⟩
            change WP _ _ _ _ _ _ [rv r41] H39 _
            refine wp_astore (ls' := [(6, rv r41), (5, .int (1 : Int32)), (0, rv (some a0)), (1, rv o1), (2, .int x2), (3, rv o3), (4, .int x4)]) dX4_readTerm_64 (by decide) rfl ?_
            refine wp_aload 0 dX4_readTerm_66 rfl ?_
            refine wp_ifnonnull (tgt := 75) dX4_readTerm_68 rfl (fun a42 ha42 => ?_) (fun c => ?_)
            · replace h := h.2 a42 ha42
              refine wp_aload_n 2 dX4_readTerm_75 rfl ?_
              refine wp_iload 1 dX4_readTerm_76 rfl ?_
              refine wp_aload_n 5 dX4_readTerm_78 rfl ?_
              refine wp_aload 0 dX4_readTerm_79 rfl ?_
              obtain ⟨ht44, h⟩ := h
              refine wp_callV (ci := 4) (As := [.int (1 : Int32), rv o3, rv r41]) (rest := []) (mc := 0) (ms := 0) dX4_readTerm_81 lk_X4_86 rfl rfl (by decide) rfl rfl rfl ht44 rfl rfl rfl w_4_26 (Call.weaken h ?_)
              rintro H43 _ ⟨r45, rfl, h⟩
              change WP _ _ _ _ _ _ [rv r45] H43 _
              refine wp_astore_n (ls' := [(3, rv r45), (6, rv r41), (5, .int (1 : Int32)), (0, rv (some a0)), (1, rv o1), (2, .int x2), (4, .int x4)]) dX4_readTerm_84 (by decide) rfl ?_
              refine wp_iinc (v := (x4 + 1)) (ls' := [(4, .int (x4 + 1)), (3, rv r45), (6, rv r41), (5, .int (1 : Int32)), (0, rv (some a0)), (1, rv o1), (2, .int x2)]) 6 dX4_readTerm_85 rfl rfl (by decide) (by simp [st1, rv_cat, vc_int, vc_long, vc_float, vc_double]) ?_
              refine wp_goto (tgt := 10) dX4_readTerm_88 rfl ?_
              refine wp_sub (ls' := [(0, rv (some a0)), (1, rv o1), (2, .int x2), (3, rv r45), (4, .int (x4 + 1))]) [4, 5, 6, 1, 0] rfl ?_
              exact h
            · replace h := h.1 c
              refine wp_null dX4_readTerm_71 ?_
              refine wp_goto (tgt := 84) dX4_readTerm_72 rfl ?_
              refine wp_astore_n (ls' := [(3, rv none), (6, rv r41), (5, .int (1 : Int32)), (0, rv (some a0)), (1, rv o1), (2, .int x2), (4, .int x4)]) dX4_readTerm_84 (by decide) rfl ?_
              refine wp_iinc (v := (x4 + 1)) (ls' := [(4, .int (x4 + 1)), (3, rv none), (6, rv r41), (5, .int (1 : Int32)), (0, rv (some a0)), (1, rv o1), (2, .int x2)]) 6 dX4_readTerm_85 rfl rfl (by decide) (by simp [st1, rv_cat, vc_int, vc_long, vc_float, vc_double]) ?_
              refine wp_goto (tgt := 10) dX4_readTerm_88 rfl ?_
              refine wp_sub (ls' := [(0, rv (some a0)), (1, rv o1), (2, .int x2), (3, rv none), (4, .int (x4 + 1))]) [4, 5, 6, 1, 0] rfl ?_
              exact h
          · replace h := h.2 (bI_0.mp c)
            refine wp_aload_n 4 dX4_readTerm_56 rfl ?_
            exact wp_areturn dX4_readTerm_57 rfl ⟨_, rfl, h⟩
theorem C_X4_readTerm {d : Nat} {q : HP → Option Nat → Prop} {a0 : Nat} {o1 : Option Nat} {x2 : Int32} {H : HP} (h : wb_X4_readTerm_0 d q a0 o1 x2 H) : CR (d + 1) 0 0 mX4_readTerm [rv (some a0), rv o1, .int x2] H q := by
  refine call_of (by decide +kernel) (by simp [lg_sl, rv_cat, vc_int, vc_long, vc_float, vc_double]) ?_
  have e : lv_args 0 [rv (some a0), rv o1, .int x2] = [(0, rv (some a0)), (1, rv o1), (2, .int x2)] := by simp [lv_args, rv_cat, vc_int, vc_long, vc_float, vc_double]
  rw [e]
  exact T_X4_readTerm_0 h
def wb_X4_side_0 (d : Nat) (q : HP → Option Nat → Prop) (a0 : Nat) (x1 : Int32) (H : HP) : Prop :=
  tg H a0 = 5 ∧ (CR d 0 0 mX4_heldStep [rv (some a0), .int ((hI H 502 a0 0) - (1 : Int32))] H (fun H2 r3 => (r3 = none → q H2 none) ∧ (∀ a4, r3 = some a4 → tg H2 a0 = 5 ∧ (CZ d 0 0 mX4_isHeld [rv (some a0)] H2 (fun H5 b7 => (b7 = false → q H5 none) ∧ (b7 = true → (x1 < 0 → q H5 none) ∧ (¬ (x1 < 0) → (x1 ≤ (1 : Int32) → tg H5 a0 = 5 ∧ ((¬ (hI H5 504 a0 0) = 0 → (¬ x1 = 0 → tg H5 a4 = 7 ∧ (q H5 (hR H5 702 a4 0))) ∧ (x1 = 0 → tg H5 a4 = 7 ∧ (q H5 (hR H5 701 a4 0)))) ∧ ((hI H5 504 a0 0) = 0 → (¬ x1 = 0 → q H5 none) ∧ (x1 = 0 → q H5 r3)))) ∧ (¬ (x1 ≤ (1 : Int32)) → q H5 none))))))))
set_option maxRecDepth 40000 in
set_option maxHeartbeats 4000000 in
theorem T_X4_side_0 {d : Nat} {q : HP → Option Nat → Prop} {a0 : Nat} {x1 : Int32} {H : HP} (h : wb_X4_side_0 d q a0 x1 H) : WP (d + 1) mX4_side 0 0 0 [(0, rv (some a0)), (1, .int x1)] [] H (qR q) := by
  unfold wb_X4_side_0 at h
  refine wp_aload_n 0 dX4_side_0 rfl ?_
  refine wp_aload_n 0 dX4_side_1 rfl ?_
  obtain ⟨ht1, h⟩ := h
  refine wp_getI (ci := 4) (j := 2) dX4_side_2 fi_X4_21r rfl rfl ht1 ?_
  change WP _ _ _ _ _ _ (.int (hI H 502 a0 0) :: _) _ _
  refine wp_iconst (v := (1 : Int32)) dX4_side_5 (by decide) ?_
  refine wp_isub dX4_side_6 ?_
  refine wp_callV (ci := 4) (As := [.int ((hI H 502 a0 0) - (1 : Int32))]) (rest := []) (mc := 0) (ms := 0) dX4_side_7 lk_X4_45 rfl rfl (by decide) rfl rfl rfl ht1 rfl rfl rfl w_4_135 (Call.weaken h ?_)
  rintro H2 _ ⟨r3, rfl, h⟩
  change WP _ _ _ _ _ _ [rv r3] H2 _
  refine wp_astore_n (ls' := [(2, rv r3), (0, rv (some a0)), (1, .int x1)]) dX4_side_10 (by decide) rfl ?_
  refine wp_aload_n 0 dX4_side_11 rfl ?_
  refine wp_ifnull (tgt := 31) dX4_side_12 rfl (fun c => ?_) (fun a4 ha4 => ?_)
  · replace h := h.1 c
    refine wp_null dX4_side_31 ?_
    exact wp_areturn dX4_side_32 rfl ⟨_, rfl, h⟩
  · replace h := h.2 a4 ha4
    refine wp_aload_n 1 dX4_side_15 rfl ?_
    obtain ⟨ht6, h⟩ := h
    refine wp_callV (ci := 4) (As := []) (rest := []) (mc := 0) (ms := 0) dX4_side_16 lk_X4_49 rfl rfl (by decide) rfl rfl rfl ht6 rfl rfl rfl w_4_139 (Call.weaken h ?_)
    rintro H5 _ ⟨b7, rfl, h⟩
    change WP _ _ _ _ _ _ [.int (bI b7)] H5 _
    refine wp_if_eq (tgt := 31) dX4_side_19 rfl (fun c => ?_) (fun c => ?_)
    · replace h := h.1 (bI_0.mp c)
      refine wp_null dX4_side_31 ?_
      exact wp_areturn dX4_side_32 rfl ⟨_, rfl, h⟩
    · replace h := h.2 (bI_1.mp c)
      refine wp_iload_n 2 dX4_side_22 rfl ?_
      refine wp_if_lt (tgt := 31) dX4_side_23 rfl (fun c => ?_) (fun c => ?_)
      · replace h := h.1 c
        refine wp_null dX4_side_31 ?_
        exact wp_areturn dX4_side_32 rfl ⟨_, rfl, h⟩
      · replace h := h.2 c
        refine wp_iload_n 2 dX4_side_26 rfl ?_
        refine wp_iconst (v := (1 : Int32)) dX4_side_27 (by decide) ?_
        refine wp_icmp_le (tgt := 33) dX4_side_28 rfl (fun c => ?_) (fun c => ?_)
        · replace h := h.1 c
          refine wp_aload_n 1 dX4_side_33 rfl ?_
          obtain ⟨ht8, h⟩ := h
          refine wp_getI (ci := 4) (j := 4) dX4_side_34 fi_X4_27r rfl rfl ht8 ?_
          change WP _ _ _ _ _ _ (.int (hI H5 504 a0 0) :: _) _ _
          refine wp_if_ne (tgt := 50) dX4_side_37 rfl (fun c => ?_) (fun c => ?_)
          · replace h := h.1 c
            refine wp_iload_n 2 dX4_side_50 rfl ?_
            refine wp_if_ne (tgt := 61) dX4_side_51 rfl (fun c => ?_) (fun c => ?_)
            · replace h := h.1 c
              refine wp_aload_n 0 dX4_side_61 rfl ?_
              obtain ⟨ht9, h⟩ := h
              refine wp_getR (ci := 6) (j := 2) dX4_side_62 fi_X4_57r rfl ha4 ht9 ?_
              change WP _ _ _ _ _ _ (rv (hR H5 702 a4 0) :: _) _ _
              exact wp_areturn dX4_side_65 rfl ⟨_, rfl, h⟩
            · replace h := h.2 c
              refine wp_aload_n 0 dX4_side_54 rfl ?_
              obtain ⟨ht10, h⟩ := h
              refine wp_getR (ci := 6) (j := 1) dX4_side_55 fi_X4_53r rfl ha4 ht10 ?_
              change WP _ _ _ _ _ _ (rv (hR H5 701 a4 0) :: _) _ _
              refine wp_goto (tgt := 65) dX4_side_58 rfl ?_
              exact wp_areturn dX4_side_65 rfl ⟨_, rfl, h⟩
          · replace h := h.2 c
            refine wp_iload_n 2 dX4_side_40 rfl ?_
            refine wp_if_ne (tgt := 48) dX4_side_41 rfl (fun c => ?_) (fun c => ?_)
            · replace h := h.1 c
              refine wp_null dX4_side_48 ?_
              exact wp_areturn dX4_side_49 rfl ⟨_, rfl, h⟩
            · replace h := h.2 c
              refine wp_aload_n 0 dX4_side_44 rfl ?_
              refine wp_goto (tgt := 49) dX4_side_45 rfl ?_
              exact wp_areturn dX4_side_49 rfl ⟨_, rfl, h⟩
        · replace h := h.2 c
          refine wp_null dX4_side_31 ?_
          exact wp_areturn dX4_side_32 rfl ⟨_, rfl, h⟩
theorem C_X4_side {d : Nat} {q : HP → Option Nat → Prop} {a0 : Nat} {x1 : Int32} {H : HP} (h : wb_X4_side_0 d q a0 x1 H) : CR (d + 1) 0 0 mX4_side [rv (some a0), .int x1] H q := by
  refine call_of (by decide +kernel) (by simp [lg_sl, rv_cat, vc_int, vc_long, vc_float, vc_double]) ?_
  have e : lv_args 0 [rv (some a0), .int x1] = [(0, rv (some a0)), (1, .int x1)] := by simp [lv_args, rv_cat, vc_int, vc_long, vc_float, vc_double]
  rw [e]
  exact T_X4_side_0 h
def wb_X4_sidesAgree_0 (d : Nat) (q : HP → Bool → Prop) (a0 : Nat) (H : HP) : Prop :=
  tg H a0 = 5 ∧ (CR d 0 0 mX4_heldStep [rv (some a0), .int ((hI H 502 a0 0) - (1 : Int32))] H (fun H2 r3 => (r3 = none → q H2 false) ∧ (∀ a4, r3 = some a4 → tg H2 a0 = 5 ∧ (CZ d 0 0 mX4_isHeld [rv (some a0)] H2 (fun H5 b7 => (b7 = false → q H5 false) ∧ (b7 = true → tg H5 a0 = 5 ∧ (((hI H5 504 a0 0) = 0 → q H5 false) ∧ (¬ ((hI H5 504 a0 0) = 0) → tg H5 a4 = 7 ∧ (∃ a10, (hC H5 712 a4) = some a10 ∧ (tg H5 a10 = 4 ∧ ((¬ (hL H5 400 a10 0) = (0 : Int64) → q H5 false) ∧ ((hL H5 400 a10 0) = (0 : Int64) → q H5 true))))))))))))
set_option maxRecDepth 40000 in
set_option maxHeartbeats 4000000 in
theorem T_X4_sidesAgree_0 {d : Nat} {q : HP → Bool → Prop} {a0 : Nat} {H : HP} (h : wb_X4_sidesAgree_0 d q a0 H) : WP (d + 1) mX4_sidesAgree 0 0 0 [(0, rv (some a0))] [] H (qZ q) := by
  unfold wb_X4_sidesAgree_0 at h
  refine wp_aload_n 0 dX4_sidesAgree_0 rfl ?_
  refine wp_aload_n 0 dX4_sidesAgree_1 rfl ?_
  obtain ⟨ht1, h⟩ := h
  refine wp_getI (ci := 4) (j := 2) dX4_sidesAgree_2 fi_X4_21r rfl rfl ht1 ?_
  change WP _ _ _ _ _ _ (.int (hI H 502 a0 0) :: _) _ _
  refine wp_iconst (v := (1 : Int32)) dX4_sidesAgree_5 (by decide) ?_
  refine wp_isub dX4_sidesAgree_6 ?_
  refine wp_callV (ci := 4) (As := [.int ((hI H 502 a0 0) - (1 : Int32))]) (rest := []) (mc := 0) (ms := 0) dX4_sidesAgree_7 lk_X4_45 rfl rfl (by decide) rfl rfl rfl ht1 rfl rfl rfl w_4_135 (Call.weaken h ?_)
  rintro H2 _ ⟨r3, rfl, h⟩
  change WP _ _ _ _ _ _ [rv r3] H2 _
  refine wp_astore_n (ls' := [(1, rv r3), (0, rv (some a0))]) dX4_sidesAgree_10 (by decide) rfl ?_
  refine wp_aload_n 0 dX4_sidesAgree_11 rfl ?_
  refine wp_ifnull (tgt := 45) dX4_sidesAgree_12 rfl (fun c => ?_) (fun a4 ha4 => ?_)
  · replace h := h.1 c
    refine wp_iconst (v := (0 : Int32)) dX4_sidesAgree_45 (by decide) ?_
    exact wp_ireturn (ty := .boolean) dX4_sidesAgree_46 rfl rfl ⟨false, rfl, h⟩
  · replace h := h.2 a4 ha4
    refine wp_aload_n 1 dX4_sidesAgree_15 rfl ?_
    obtain ⟨ht6, h⟩ := h
    refine wp_callV (ci := 4) (As := []) (rest := []) (mc := 0) (ms := 0) dX4_sidesAgree_16 lk_X4_49 rfl rfl (by decide) rfl rfl rfl ht6 rfl rfl rfl w_4_139 (Call.weaken h ?_)
    rintro H5 _ ⟨b7, rfl, h⟩
    change WP _ _ _ _ _ _ [.int (bI b7)] H5 _
    refine wp_if_eq (tgt := 45) dX4_sidesAgree_19 rfl (fun c => ?_) (fun c => ?_)
    · replace h := h.1 (bI_0.mp c)
      refine wp_iconst (v := (0 : Int32)) dX4_sidesAgree_45 (by decide) ?_
      exact wp_ireturn (ty := .boolean) dX4_sidesAgree_46 rfl rfl ⟨false, rfl, h⟩
    · replace h := h.2 (bI_1.mp c)
      refine wp_aload_n 1 dX4_sidesAgree_22 rfl ?_
      obtain ⟨ht8, h⟩ := h
      refine wp_getI (ci := 4) (j := 4) dX4_sidesAgree_23 fi_X4_27r rfl rfl ht8 ?_
      change WP _ _ _ _ _ _ (.int (hI H5 504 a0 0) :: _) _ _
      refine wp_if_eq (tgt := 45) dX4_sidesAgree_26 rfl (fun c => ?_) (fun c => ?_)
      · replace h := h.1 c
        refine wp_iconst (v := (0 : Int32)) dX4_sidesAgree_45 (by decide) ?_
        exact wp_ireturn (ty := .boolean) dX4_sidesAgree_46 rfl rfl ⟨false, rfl, h⟩
      · replace h := h.2 c
        refine wp_aload_n 0 dX4_sidesAgree_29 rfl ?_
        obtain ⟨ht9, h⟩ := h
        refine wp_getC (ci := 6) (j := 12) dX4_sidesAgree_30 fi_X4_60 rfl ha4 ht9 ?_
        change WP _ _ _ _ _ _ (rv (hC H5 712 a4) :: _) _ _
        obtain ⟨a10, ha10, h⟩ := h
        obtain ⟨ht11, h⟩ := h
        refine wp_getL (ci := 3) (j := 0) dX4_sidesAgree_33 fi_X4_63r rfl ha10 ht11 ?_
        change WP _ _ _ _ _ _ (.long (hL H5 400 a10 0) :: _) _ _
        refine wp_lconst (v := (0 : Int64)) dX4_sidesAgree_36 (by decide) ?_
        refine wp_lcmp dX4_sidesAgree_37 ?_
        refine wp_if_ne (tgt := 45) dX4_sidesAgree_38 rfl (fun c => ?_) (fun c => ?_)
        · replace h := h.1 (fun z => c (lgc_eq.mpr z))
          refine wp_iconst (v := (0 : Int32)) dX4_sidesAgree_45 (by decide) ?_
          exact wp_ireturn (ty := .boolean) dX4_sidesAgree_46 rfl rfl ⟨false, rfl, h⟩
        · replace h := h.2 (lgc_eq.mp c)
          refine wp_iconst (v := (1 : Int32)) dX4_sidesAgree_41 (by decide) ?_
          refine wp_goto (tgt := 46) dX4_sidesAgree_42 rfl ?_
          exact wp_ireturn (ty := .boolean) dX4_sidesAgree_46 rfl rfl ⟨true, rfl, h⟩
theorem C_X4_sidesAgree {d : Nat} {q : HP → Bool → Prop} {a0 : Nat} {H : HP} (h : wb_X4_sidesAgree_0 d q a0 H) : CZ (d + 1) 0 0 mX4_sidesAgree [rv (some a0)] H q := by
  refine call_of (by decide +kernel) (by simp [lg_sl, rv_cat, vc_int, vc_long, vc_float, vc_double]) ?_
  have e : lv_args 0 [rv (some a0)] = [(0, rv (some a0))] := by simp [lv_args, rv_cat, vc_int, vc_long, vc_float, vc_double]
  rw [e]
  exact T_X4_sidesAgree_0 h
