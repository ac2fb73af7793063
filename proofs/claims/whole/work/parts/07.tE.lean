def wb_X12_isToldIn_0 (d : Nat) (q : HP → Bool → Prop) (a0 : Nat) (x1 : Int32) (x2 : Int32) (H : HP) : Prop :=
  tg H a0 = 13 ∧ (CI d 0 0 mX12_result [rv (some a0), .int x1] H (fun H1 r3 => (r3 < 0 → q H1 false) ∧ (¬ (r3 < 0) → tg H1 a0 = 13 ∧ (CZ d 0 0 mX12_isUnit [rv (some a0), .int x2] H1 (fun H4 b6 => (b6 = false → q H4 false) ∧ (b6 = true → tg H4 a0 = 13 ∧ (CZ d 0 0 mX12_isOf [rv (some a0), .int x2, .int r3] H4 (fun H7 b9 => (b9 = true → tg H7 a0 = 13 ∧ (∃ a11, (hC (sI H7 1321 a0 0 (0 : Int32)) 1347 a0) = some a11 ∧ (isA (sI H7 1321 a0 0 (0 : Int32)) a11 3 ∧ (vp_in r3 (ln (sI H7 1321 a0 0 (0 : Int32)) a11) ∧ (∃ a14, (hC (sI H7 1321 a0 0 (0 : Int32)) 1348 a0) = some a14 ∧ (isA (sI H7 1321 a0 0 (0 : Int32)) a14 3 ∧ (vp_in r3 (ln (sI H7 1321 a0 0 (0 : Int32)) a14) ∧ (∃ a17, (hC (sI H7 1321 a0 0 (0 : Int32)) 1305 a0) = some a17 ∧ (isA (sI H7 1321 a0 0 (0 : Int32)) a17 3 ∧ (vp_in x2 (ln (sI H7 1321 a0 0 (0 : Int32)) a17) ∧ (∃ a20, (hC (sI H7 1321 a0 0 (0 : Int32)) 1306 a0) = some a20 ∧ (isA (sI H7 1321 a0 0 (0 : Int32)) a20 3 ∧ (vp_in x2 (ln (sI H7 1321 a0 0 (0 : Int32)) a20) ∧ (CV d 0 0 mX12_plus [rv (some a0), .long (hL (sI H7 1321 a0 0 (0 : Int32)) (tg (sI H7 1321 a0 0 (0 : Int32)) a11) a11 r3.toNatClampNeg), .long (hL (sI H7 1321 a0 0 (0 : Int32)) (tg (sI H7 1321 a0 0 (0 : Int32)) a14) a14 r3.toNatClampNeg), .long (hL (sI H7 1321 a0 0 (0 : Int32)) (tg (sI H7 1321 a0 0 (0 : Int32)) a17) a17 x2.toNatClampNeg), .long (hL (sI H7 1321 a0 0 (0 : Int32)) (tg (sI H7 1321 a0 0 (0 : Int32)) a20) a20 x2.toNatClampNeg), .int (-1 : Int32)] (sI H7 1321 a0 0 (0 : Int32)) (fun H23 => tg H23 a0 = 13 ∧ ((¬ (hI H23 1321 a0 0) = 0 → (¬ (hI H23 1321 a0 0) = 0 → q H23 false) ∧ ((hI H23 1321 a0 0) = 0 → q H23 true)) ∧ ((hI H23 1321 a0 0) = 0 → ∃ a25, (hC H23 1303 a0) = some a25 ∧ (isA H23 a25 3 ∧ (vp_in x2 (ln H23 a25) ∧ (∃ a28, (hC H23 1304 a0) = some a28 ∧ (isA H23 a28 3 ∧ (vp_in x2 (ln H23 a28) ∧ (CV d 0 0 mX12_by [rv (some a0), .long (hL H23 1319 a0 0), .long (hL H23 1320 a0 0), .long (hL H23 (tg H23 a25) a25 x2.toNatClampNeg), .long (hL H23 (tg H23 a28) a28 x2.toNatClampNeg)] H23 (fun H31 => tg H31 a0 = 13 ∧ ((¬ (hI H31 1321 a0 0) = 0 → q H31 false) ∧ ((hI H31 1321 a0 0) = 0 → q H31 true)))))))))))))))))))))))))) ∧ (b9 = false → q H7 false)))))))))
set_option maxRecDepth 40000 in
set_option maxHeartbeats 4000000 in
theorem T_X12_isToldIn_0 {d : Nat} {q : HP → Bool → Prop} {a0 : Nat} {x1 : Int32} {x2 : Int32} {H : HP} (h : wb_X12_isToldIn_0 d q a0 x1 x2 H) : WP (d + 1) mX12_isToldIn 0 0 0 [(0, rv (some a0)), (1, .int x1), (2, .int x2)] [] H (qZ q) := by
  unfold wb_X12_isToldIn_0 at h
  refine wp_aload_n 0 dX12_isToldIn_0 rfl ?_
  refine wp_iload_n 1 dX12_isToldIn_1 rfl ?_
  obtain ⟨ht2, h⟩ := h
  refine wp_callV (ci := 12) (As := [.int x1]) (rest := []) (mc := 0) (ms := 0) dX12_isToldIn_2 lk_X12_416 rfl rfl (by decide) rfl rfl rfl ht2 rfl rfl rfl w_7_237 (Call.weaken h ?_)
  rintro H1 _ ⟨r3, rfl, h⟩
  change WP _ _ _ _ _ _ [.int r3] H1 _
  refine wp_istore_n (ls' := [(3, .int r3), (0, rv (some a0)), (1, .int x1), (2, .int x2)]) dX12_isToldIn_5 (by decide) rfl ?_
  refine wp_iload_n 0 dX12_isToldIn_6 rfl ?_
  refine wp_if_lt (tgt := 27) dX12_isToldIn_7 rfl (fun c => ?_) (fun c => ?_)
  · replace h := h.1 c
    refine wp_iconst (v := (0 : Int32)) dX12_isToldIn_27 (by decide) ?_
    exact wp_ireturn (ty := .boolean) dX12_isToldIn_28 rfl rfl ⟨false, rfl, h⟩
  · replace h := h.2 c
    refine wp_aload_n 1 dX12_isToldIn_10 rfl ?_
    refine wp_iload_n 3 dX12_isToldIn_11 rfl ?_
    obtain ⟨ht5, h⟩ := h
    refine wp_callV (ci := 12) (As := [.int x2]) (rest := []) (mc := 0) (ms := 0) dX12_isToldIn_12 lk_X12_283 rfl rfl (by decide) rfl rfl rfl ht5 rfl rfl rfl w_7_77 (Call.weaken h ?_)
    rintro H4 _ ⟨b6, rfl, h⟩
    change WP _ _ _ _ _ _ [.int (bI b6)] H4 _
    refine wp_if_eq (tgt := 27) dX12_isToldIn_15 rfl (fun c => ?_) (fun c => ?_)
    · replace h := h.1 (bI_0.mp c)
      refine wp_iconst (v := (0 : Int32)) dX12_isToldIn_27 (by decide) ?_
      exact wp_ireturn (ty := .boolean) dX12_isToldIn_28 rfl rfl ⟨false, rfl, h⟩
    · replace h := h.2 (bI_1.mp c)
      refine wp_aload_n 1 dX12_isToldIn_18 rfl ?_
      refine wp_iload_n 3 dX12_isToldIn_19 rfl ?_
      refine wp_iload_n 0 dX12_isToldIn_20 rfl ?_
      obtain ⟨ht8, h⟩ := h
      refine wp_callV (ci := 12) (As := [.int x2, .int r3]) (rest := []) (mc := 0) (ms := 0) dX12_isToldIn_21 lk_X12_419 rfl rfl (by decide) rfl rfl rfl ht8 rfl rfl rfl w_8_1 (Call.weaken h ?_)
      rintro H7 _ ⟨b9, rfl, h⟩
      change WP _ _ _ _ _ _ [.int (bI b9)] H7 _
      refine wp_if_ne (tgt := 29) dX12_isToldIn_24 rfl (fun c => ?_) (fun c => ?_)
      · replace h := h.1 (bI_1.mp c)
        refine wp_aload_n 1 dX12_isToldIn_29 rfl ?_
        refine wp_iconst (v := (0 : Int32)) dX12_isToldIn_30 (by decide) ?_
        obtain ⟨ht10, h⟩ := h
        refine wp_putI (ci := 12) (j := 21) dX12_isToldIn_31 fi_X12_133 rfl (fun z => by cases z) rfl ht10 rfl rfl ?_
        change WP _ _ _ _ _ _ _ (sI H7 1321 a0 0 (0 : Int32)) _
        refine wp_aload_n 1 dX12_isToldIn_34 rfl ?_
        refine wp_aload_n 1 dX12_isToldIn_35 rfl ?_
        refine wp_getC (ci := 12) (j := 47) dX12_isToldIn_36 fi_X12_83r rfl rfl ht10 ?_
        change WP _ _ _ _ _ _ (rv (hC (sI H7 1321 a0 0 (0 : Int32)) 1347 a0) :: _) _ _
        refine wp_iload_n 0 dX12_isToldIn_39 rfl ?_
        obtain ⟨a11, ha11, h⟩ := h
        obtain ⟨hr12, h⟩ := h
        obtain ⟨hg13, h⟩ := h
        refine wp_laload dX12_isToldIn_40 ha11 hr12 hg13 ?_
        refine wp_aload_n 1 dX12_isToldIn_41 rfl ?_
        refine wp_getC (ci := 12) (j := 48) dX12_isToldIn_42 fi_X12_86r rfl rfl ht10 ?_
        change WP _ _ _ _ _ _ (rv (hC (sI H7 1321 a0 0 (0 : Int32)) 1348 a0) :: _) _ _
        refine wp_iload_n 0 dX12_isToldIn_45 rfl ?_
        obtain ⟨a14, ha14, h⟩ := h
        obtain ⟨hr15, h⟩ := h
        obtain ⟨hg16, h⟩ := h
        refine wp_laload dX12_isToldIn_46 ha14 hr15 hg16 ?_
        refine wp_aload_n 1 dX12_isToldIn_47 rfl ?_
        refine wp_getC (ci := 12) (j := 5) dX12_isToldIn_48 fi_X12_29r rfl rfl ht10 ?_
        change WP _ _ _ _ _ _ (rv (hC (sI H7 1321 a0 0 (0 : Int32)) 1305 a0) :: _) _ _
        refine wp_iload_n 3 dX12_isToldIn_51 rfl ?_
        obtain ⟨a17, ha17, h⟩ := h
        obtain ⟨hr18, h⟩ := h
        obtain ⟨hg19, h⟩ := h
        refine wp_laload dX12_isToldIn_52 ha17 hr18 hg19 ?_
        refine wp_aload_n 1 dX12_isToldIn_53 rfl ?_
        refine wp_getC (ci := 12) (j := 6) dX12_isToldIn_54 fi_X12_32r rfl rfl ht10 ?_
        change WP _ _ _ _ _ _ (rv (hC (sI H7 1321 a0 0 (0 : Int32)) 1306 a0) :: _) _ _
        refine wp_iload_n 3 dX12_isToldIn_57 rfl ?_
        obtain ⟨a20, ha20, h⟩ := h
        obtain ⟨hr21, h⟩ := h
        obtain ⟨hg22, h⟩ := h
        refine wp_laload dX12_isToldIn_58 ha20 hr21 hg22 ?_
        refine wp_iconst (v := (-1 : Int32)) dX12_isToldIn_59 (by decide) ?_
        refine wp_callV (ci := 12) (As := [.long (hL (sI H7 1321 a0 0 (0 : Int32)) (tg (sI H7 1321 a0 0 (0 : Int32)) a11) a11 r3.toNatClampNeg), .long (hL (sI H7 1321 a0 0 (0 : Int32)) (tg (sI H7 1321 a0 0 (0 : Int32)) a14) a14 r3.toNatClampNeg), .long (hL (sI H7 1321 a0 0 (0 : Int32)) (tg (sI H7 1321 a0 0 (0 : Int32)) a17) a17 x2.toNatClampNeg), .long (hL (sI H7 1321 a0 0 (0 : Int32)) (tg (sI H7 1321 a0 0 (0 : Int32)) a20) a20 x2.toNatClampNeg), .int (-1 : Int32)]) (rest := []) (mc := 0) (ms := 0) dX12_isToldIn_60 lk_X12_329 rfl rfl (by decide) rfl rfl rfl ht10 rfl rfl rfl w_7_181 (Call.weaken h ?_)
        rintro H23 _ ⟨rfl, h⟩
        change WP _ _ _ _ _ _ [] H23 _
        refine wp_aload_n 1 dX12_isToldIn_63 rfl ?_
        obtain ⟨ht24, h⟩ := h
        refine wp_getI (ci := 12) (j := 21) dX12_isToldIn_64 fi_X12_133r rfl rfl ht24 ?_
        change WP _ _ _ _ _ _ (.int (hI H23 1321 a0 0) :: _) _ _
        refine wp_if_ne (tgt := 94) dX12_isToldIn_67 rfl (fun c => ?_) (fun c => ?_)
        · replace h := h.1 c
          refine wp_aload_n 1 dX12_isToldIn_94 rfl ?_
          refine wp_getI (ci := 12) (j := 21) dX12_isToldIn_95 fi_X12_133r rfl rfl ht24 ?_
          change WP _ _ _ _ _ _ (.int (hI H23 1321 a0 0) :: _) _ _
          refine wp_if_ne (tgt := 105) dX12_isToldIn_98 rfl (fun c => ?_) (fun c => ?_)
          · replace h := h.1 c
            refine wp_iconst (v := (0 : Int32)) dX12_isToldIn_105 (by decide) ?_
            exact wp_ireturn (ty := .boolean) dX12_isToldIn_106 rfl rfl ⟨false, rfl, h⟩
          · replace h := h.2 c
            refine wp_iconst (v := (1 : Int32)) dX12_isToldIn_101 (by decide) ?_
            refine wp_goto (tgt := 106) dX12_isToldIn_102 rfl ?_
            exact wp_ireturn (ty := .boolean) dX12_isToldIn_106 rfl rfl ⟨true, rfl, h⟩
        · replace h := h.2 c
          refine wp_aload_n 1 dX12_isToldIn_70 rfl ?_
          refine wp_aload_n 1 dX12_isToldIn_71 rfl ?_
          refine wp_getL (ci := 12) (j := 19) dX12_isToldIn_72 fi_X12_143r rfl rfl ht24 ?_
          change WP _ _ _ _ _ _ (.long (hL H23 1319 a0 0) :: _) _ _
          refine wp_aload_n 1 dX12_isToldIn_75 rfl ?_
          refine wp_getL (ci := 12) (j := 20) dX12_isToldIn_76 fi_X12_147r rfl rfl ht24 ?_
          change WP _ _ _ _ _ _ (.long (hL H23 1320 a0 0) :: _) _ _
          refine wp_aload_n 1 dX12_isToldIn_79 rfl ?_
          refine wp_getC (ci := 12) (j := 3) dX12_isToldIn_80 fi_X12_22r rfl rfl ht24 ?_
          change WP _ _ _ _ _ _ (rv (hC H23 1303 a0) :: _) _ _
          refine wp_iload_n 3 dX12_isToldIn_83 rfl ?_
          obtain ⟨a25, ha25, h⟩ := h
          obtain ⟨hr26, h⟩ := h
          obtain ⟨hg27, h⟩ := h
          refine wp_laload dX12_isToldIn_84 ha25 hr26 hg27 ?_
          refine wp_aload_n 1 dX12_isToldIn_85 rfl ?_
          refine wp_getC (ci := 12) (j := 4) dX12_isToldIn_86 fi_X12_26r rfl rfl ht24 ?_
          change WP _ _ _ _ _ _ (rv (hC H23 1304 a0) :: _) _ _
          refine wp_iload_n 3 dX12_isToldIn_89 rfl ?_
          obtain ⟨a28, ha28, h⟩ := h
          obtain ⟨hr29, h⟩ := h
          obtain ⟨hg30, h⟩ := h
          refine wp_laload dX12_isToldIn_90 ha28 hr29 hg30 ?_
          refine wp_callV (ci := 12) (As := [.long (hL H23 1319 a0 0), .long (hL H23 1320 a0 0), .long (hL H23 (tg H23 a25) a25 x2.toNatClampNeg), .long (hL H23 (tg H23 a28) a28 x2.toNatClampNeg)]) (rest := []) (mc := 0) (ms := 0) dX12_isToldIn_91 lk_X12_253 rfl rfl (by decide) rfl rfl rfl ht24 rfl rfl rfl w_7_56 (Call.weaken h ?_)
          rintro H31 _ ⟨rfl, h⟩
          change WP _ _ _ _ _ _ [] H31 _
          refine wp_aload_n 1 dX12_isToldIn_94 rfl ?_
          obtain ⟨ht32, h⟩ := h
          refine wp_getI (ci := 12) (j := 21) dX12_isToldIn_95 fi_X12_133r rfl rfl ht32 ?_
          change WP _ _ _ _ _ _ (.int (hI H31 1321 a0 0) :: _) _ _
          refine wp_if_ne (tgt := 105) dX12_isToldIn_98 rfl (fun c => ?_) (fun c => ?_)
          · replace h := h.1 c
            refine wp_iconst (v := (0 : Int32)) dX12_isToldIn_105 (by decide) ?_
            exact wp_ireturn (ty := .boolean) dX12_isToldIn_106 rfl rfl ⟨false, rfl, h⟩
          · replace h := h.2 c
            refine wp_iconst (v := (1 : Int32)) dX12_isToldIn_101 (by decide) ?_
            refine wp_goto (tgt := 106) dX12_isToldIn_102 rfl ?_
            exact wp_ireturn (ty := .boolean) dX12_isToldIn_106 rfl rfl ⟨true, rfl, h⟩
      · replace h := h.2 (bI_0.mp c)
        refine wp_iconst (v := (0 : Int32)) dX12_isToldIn_27 (by decide) ?_
        exact wp_ireturn (ty := .boolean) dX12_isToldIn_28 rfl rfl ⟨false, rfl, h⟩
theorem C_X12_isToldIn {d : Nat} {q : HP → Bool → Prop} {a0 : Nat} {x1 : Int32} {x2 : Int32} {H : HP} (h : wb_X12_isToldIn_0 d q a0 x1 x2 H) : CZ (d + 1) 0 0 mX12_isToldIn [rv (some a0), .int x1, .int x2] H q := by
  refine call_of (by decide +kernel) (by simp [lg_sl, rv_cat, vc_int, vc_long, vc_float, vc_double]) ?_
  have e : lv_args 0 [rv (some a0), .int x1, .int x2] = [(0, rv (some a0)), (1, .int x1), (2, .int x2)] := by simp [lv_args, rv_cat, vc_int, vc_long, vc_float, vc_double]
  rw [e]
  exact T_X12_isToldIn_0 h
def wb_X12_isTrack_0 (d : Nat) (q : HP → Bool → Prop) (x0 : Int32) (H : HP) : Prop :=
  CZ d 0 0 mX12_isIn [.long (x0.toInt64), .long (0 : Int64), .long (3 : Int64)] H (fun H1 b2 => q H1 b2)
set_option maxRecDepth 40000 in
set_option maxHeartbeats 4000000 in
theorem T_X12_isTrack_0 {d : Nat} {q : HP → Bool → Prop} {x0 : Int32} {H : HP} (h : wb_X12_isTrack_0 d q x0 H) : WP (d + 1) mX12_isTrack 0 0 0 [(0, .int x0)] [] H (qZ q) := by
  unfold wb_X12_isTrack_0 at h
  refine wp_iload_n 0 dX12_isTrack_0 rfl ?_
  refine wp_i2l dX12_isTrack_1 ?_
  refine wp_lconst (v := (0 : Int64)) dX12_isTrack_2 (by decide) ?_
  refine wp_ldc2 dX12_isTrack_3 w_8_67 ?_
  refine wp_callS (As := [.long (x0.toInt64), .long (0 : Int64), .long (3 : Int64)]) (rest := []) (mc := 0) (ms := 0) dX12_isTrack_6 lk_X12_161 rfl rfl (by decide) rfl rfl rfl (Call.weaken h ?_)
  rintro H1 _ ⟨b2, rfl, h⟩
  change WP _ _ _ _ _ _ [.int (bI b2)] H1 _
  exact wp_ireturn (ty := .boolean) dX12_isTrack_9 rfl (nar_bI _).1 ⟨b2, rfl, h⟩
theorem C_X12_isTrack {d : Nat} {q : HP → Bool → Prop} {x0 : Int32} {H : HP} (h : wb_X12_isTrack_0 d q x0 H) : CZ (d + 1) 0 0 mX12_isTrack [.int x0] H q := by
  refine call_of (by decide +kernel) (by simp [lg_sl, rv_cat, vc_int, vc_long, vc_float, vc_double]) ?_
  have e : lv_args 0 [.int x0] = [(0, .int x0)] := by simp [lv_args, rv_cat, vc_int, vc_long, vc_float, vc_double]
  rw [e]
  exact T_X12_isTrack_0 h
def wb_X12_isTrue_0 (d : Nat) (q : HP → Int32 → Prop) (a0 : Nat) (x1 : Int32) (H : HP) : Prop :=
  tg H a0 = 13 ∧ (∃ a2, (hC H 1308 a0) = some a2 ∧ (isA H a2 0 ∧ (vp_in ((4 : Int32) * x1) (ln H a2) ∧ (vp_in (((4 : Int32) * x1) + (1 : Int32)) (ln H a2) ∧ (CZ d 0 0 mX12_areLike [rv (some a0), .int (hI H (tg H a2) a2 ((4 : Int32) * x1).toNatClampNeg), .int (hI H (tg H a2) a2 (((4 : Int32) * x1) + (1 : Int32)).toNatClampNeg)] H (fun H6 b7 => (b7 = false → q H6 (0 : Int32)) ∧ (b7 = true → tg H6 a0 = 13 ∧ (CZ d 0 0 mX12_hasOffset [rv (some a0), .int (hI H (tg H a2) a2 ((4 : Int32) * x1).toNatClampNeg)] H6 (fun H8 b10 => (b10 = true → q H8 (0 : Int32)) ∧ (b10 = false → tg H8 a0 = 13 ∧ (CZ d 0 0 mX12_hasOffset [rv (some a0), .int (hI H (tg H a2) a2 (((4 : Int32) * x1) + (1 : Int32)).toNatClampNeg)] H8 (fun H11 b13 => (b13 = false → tg H11 a0 = 13 ∧ (∃ a15, (hC (sI H11 1321 a0 0 (0 : Int32)) 1308 a0) = some a15 ∧ (isA (sI H11 1321 a0 0 (0 : Int32)) a15 0 ∧ (vp_in (((4 : Int32) * x1) + (2 : Int32)) (ln (sI H11 1321 a0 0 (0 : Int32)) a15) ∧ (vp_in (((4 : Int32) * x1) + (3 : Int32)) (ln (sI H11 1321 a0 0 (0 : Int32)) a15) ∧ (CV d 0 0 mX12_becomes [rv (some a0), .long ((hI (sI H11 1321 a0 0 (0 : Int32)) (tg (sI H11 1321 a0 0 (0 : Int32)) a15) a15 (((4 : Int32) * x1) + (2 : Int32)).toNatClampNeg).toInt64), .long ((hI (sI H11 1321 a0 0 (0 : Int32)) (tg (sI H11 1321 a0 0 (0 : Int32)) a15) a15 (((4 : Int32) * x1) + (3 : Int32)).toNatClampNeg).toInt64)] (sI H11 1321 a0 0 (0 : Int32)) (fun H19 => tg H19 a0 = 13 ∧ (∃ a21, (hC H19 1303 a0) = some a21 ∧ (isA H19 a21 3 ∧ (vp_in (hI H (tg H a2) a2 (((4 : Int32) * x1) + (1 : Int32)).toNatClampNeg) (ln H19 a21) ∧ (∃ a24, (hC H19 1304 a0) = some a24 ∧ (isA H19 a24 3 ∧ (vp_in (hI H (tg H a2) a2 (((4 : Int32) * x1) + (1 : Int32)).toNatClampNeg) (ln H19 a24) ∧ (CV d 0 0 mX12_times [rv (some a0), .long (hL H19 1319 a0 0), .long (hL H19 1320 a0 0), .long (hL H19 (tg H19 a21) a21 (hI H (tg H a2) a2 (((4 : Int32) * x1) + (1 : Int32)).toNatClampNeg).toNatClampNeg), .long (hL H19 (tg H19 a24) a24 (hI H (tg H a2) a2 (((4 : Int32) * x1) + (1 : Int32)).toNatClampNeg).toNatClampNeg)] H19 (fun H27 => tg H27 a0 = 13 ∧ (((hI H27 1321 a0 0) = 0 → ∃ a29, (hC H27 1303 a0) = some a29 ∧ (isA H27 a29 3 ∧ (vp_in (hI H (tg H a2) a2 ((4 : Int32) * x1).toNatClampNeg) (ln H27 a29) ∧ ((¬ (hL H27 1319 a0 0) = (hL H27 (tg H27 a29) a29 (hI H (tg H a2) a2 ((4 : Int32) * x1).toNatClampNeg).toNatClampNeg) → q H27 (0 : Int32)) ∧ ((hL H27 1319 a0 0) = (hL H27 (tg H27 a29) a29 (hI H (tg H a2) a2 ((4 : Int32) * x1).toNatClampNeg).toNatClampNeg) → ∃ a32, (hC H27 1304 a0) = some a32 ∧ (isA H27 a32 3 ∧ (vp_in (hI H (tg H a2) a2 ((4 : Int32) * x1).toNatClampNeg) (ln H27 a32) ∧ ((¬ (hL H27 1320 a0 0) = (hL H27 (tg H27 a32) a32 (hI H (tg H a2) a2 ((4 : Int32) * x1).toNatClampNeg).toNatClampNeg) → q H27 (0 : Int32)) ∧ ((hL H27 1320 a0 0) = (hL H27 (tg H27 a32) a32 (hI H (tg H a2) a2 ((4 : Int32) * x1).toNatClampNeg).toNatClampNeg) → q H27 (1 : Int32)))))))))) ∧ (¬ ((hI H27 1321 a0 0) = 0) → q H27 (-15 : Int32)))))))))))))))))) ∧ (b13 = true → q H11 (0 : Int32))))))))))))))
set_option maxRecDepth 40000 in
set_option maxHeartbeats 4000000 in
theorem T_X12_isTrue_0 {d : Nat} {q : HP → Int32 → Prop} {a0 : Nat} {x1 : Int32} {H : HP} (h : wb_X12_isTrue_0 d q a0 x1 H) : WP (d + 1) mX12_isTrue 0 0 0 [(0, rv (some a0)), (1, .int x1)] [] H (qI q) := by
  unfold wb_X12_isTrue_0 at h
  refine wp_aload_n 0 dX12_isTrue_0 rfl ?_
  obtain ⟨ht1, h⟩ := h
  refine wp_getC (ci := 12) (j := 8) dX12_isTrue_1 fi_X12_35r rfl rfl ht1 ?_
  change WP _ _ _ _ _ _ (rv (hC H 1308 a0) :: _) _ _
  refine wp_iconst (v := (4 : Int32)) dX12_isTrue_4 (by decide) ?_
  refine wp_iload_n 1 dX12_isTrue_5 rfl ?_
  refine wp_imul dX12_isTrue_6 ?_
  obtain ⟨a2, ha2, h⟩ := h
  obtain ⟨hr3, h⟩ := h
  obtain ⟨hg4, h⟩ := h
  refine wp_iaload dX12_isTrue_7 ha2 hr3 hg4 ?_
  refine wp_istore_n (ls' := [(2, .int (hI H (tg H a2) a2 ((4 : Int32) * x1).toNatClampNeg)), (0, rv (some a0)), (1, .int x1)]) dX12_isTrue_8 (by decide) rfl ?_
  refine wp_aload_n 1 dX12_isTrue_9 rfl ?_
  refine wp_getC (ci := 12) (j := 8) dX12_isTrue_10 fi_X12_35r rfl rfl ht1 ?_
  change WP _ _ _ _ _ _ (rv (hC H 1308 a0) :: _) _ _
  refine wp_iconst (v := (4 : Int32)) dX12_isTrue_13 (by decide) ?_
  refine wp_iload_n 2 dX12_isTrue_14 rfl ?_
  refine wp_imul dX12_isTrue_15 ?_
  refine wp_iconst (v := (1 : Int32)) dX12_isTrue_16 (by decide) ?_
  refine wp_iadd dX12_isTrue_17 ?_
  obtain ⟨hg5, h⟩ := h
  refine wp_iaload dX12_isTrue_18 ha2 hr3 hg5 ?_
  refine wp_istore_n (ls' := [(3, .int (hI H (tg H a2) a2 (((4 : Int32) * x1) + (1 : Int32)).toNatClampNeg)), (2, .int (hI H (tg H a2) a2 ((4 : Int32) * x1).toNatClampNeg)), (0, rv (some a0)), (1, .int x1)]) dX12_isTrue_19 (by decide) rfl ?_
  refine wp_aload_n 2 dX12_isTrue_20 rfl ?_
  refine wp_iload_n 1 dX12_isTrue_21 rfl ?_
  refine wp_iload_n 0 dX12_isTrue_22 rfl ?_
  refine wp_callV (ci := 12) (As := [.int (hI H (tg H a2) a2 ((4 : Int32) * x1).toNatClampNeg), .int (hI H (tg H a2) a2 (((4 : Int32) * x1) + (1 : Int32)).toNatClampNeg)]) (rest := []) (mc := 0) (ms := 0) dX12_isTrue_23 lk_X12_295 rfl rfl (by decide) rfl rfl rfl ht1 rfl rfl rfl w_7_100 (Call.weaken h ?_)
  rintro H6 _ ⟨b7, rfl, h⟩
  change WP _ _ _ _ _ _ [.int (bI b7)] H6 _
  refine wp_if_eq (tgt := 45) dX12_isTrue_26 rfl (fun c => ?_) (fun c => ?_)
  · replace h := h.1 (bI_0.mp c)
    refine wp_iconst (v := (0 : Int32)) dX12_isTrue_45 (by decide) ?_
    exact wp_ireturn (ty := .int) dX12_isTrue_46 rfl rfl ⟨_, rfl, h⟩
  · replace h := h.2 (bI_1.mp c)
    refine wp_aload_n 2 dX12_isTrue_29 rfl ?_
    refine wp_iload_n 1 dX12_isTrue_30 rfl ?_
    obtain ⟨ht9, h⟩ := h
    refine wp_callV (ci := 12) (As := [.int (hI H (tg H a2) a2 ((4 : Int32) * x1).toNatClampNeg)]) (rest := []) (mc := 0) (ms := 0) dX12_isTrue_31 lk_X12_247 rfl rfl (by decide) rfl rfl rfl ht9 rfl rfl rfl w_7_16 (Call.weaken h ?_)
    rintro H8 _ ⟨b10, rfl, h⟩
    change WP _ _ _ _ _ _ [.int (bI b10)] H8 _
    refine wp_if_ne (tgt := 45) dX12_isTrue_34 rfl (fun c => ?_) (fun c => ?_)
    · replace h := h.1 (bI_1.mp c)
      refine wp_iconst (v := (0 : Int32)) dX12_isTrue_45 (by decide) ?_
      exact wp_ireturn (ty := .int) dX12_isTrue_46 rfl rfl ⟨_, rfl, h⟩
    · replace h := h.2 (bI_0.mp c)
      refine wp_aload_n 2 dX12_isTrue_37 rfl ?_
      refine wp_iload_n 0 dX12_isTrue_38 rfl ?_
      obtain ⟨ht12, h⟩ := h
      refine wp_callV (ci := 12) (As := [.int (hI H (tg H a2) a2 (((4 : Int32) * x1) + (1 : Int32)).toNatClampNeg)]) (rest := []) (mc := 0) (ms := 0) dX12_isTrue_39 lk_X12_247 rfl rfl (by decide) rfl rfl rfl ht12 rfl rfl rfl w_7_16 (Call.weaken h ?_)
      rintro H11 _ ⟨b13, rfl, h⟩
      change WP _ _ _ _ _ _ [.int (bI b13)] H11 _
      refine wp_if_eq (tgt := 47) dX12_isTrue_42 rfl (fun c => ?_) (fun c => ?_)
      · replace h := h.1 (bI_0.mp c)
        refine wp_aload_n 2 dX12_isTrue_47 rfl ?_
        refine wp_iconst (v := (0 : Int32)) dX12_isTrue_48 (by decide) ?_
        obtain ⟨ht14, h⟩ := h
        refine wp_putI (ci := 12) (j := 21) dX12_isTrue_49 fi_X12_133 rfl (fun z => by cases z) rfl ht14 rfl rfl ?_
        change WP _ _ _ _ _ _ _ (sI H11 1321 a0 0 (0 : Int32)) _
        refine wp_aload_n 2 dX12_isTrue_52 rfl ?_
        refine wp_aload_n 2 dX12_isTrue_53 rfl ?_
        refine wp_getC (ci := 12) (j := 8) dX12_isTrue_54 fi_X12_35r rfl rfl ht14 ?_
        change WP _ _ _ _ _ _ (rv (hC (sI H11 1321 a0 0 (0 : Int32)) 1308 a0) :: _) _ _
        refine wp_iconst (v := (4 : Int32)) dX12_isTrue_57 (by decide) ?_
        refine wp_iload_n 3 dX12_isTrue_58 rfl ?_
        refine wp_imul dX12_isTrue_59 ?_
        refine wp_iconst (v := (2 : Int32)) dX12_isTrue_60 (by decide) ?_
        refine wp_iadd dX12_isTrue_61 ?_
        obtain ⟨a15, ha15, h⟩ := h
        obtain ⟨hr16, h⟩ := h
        obtain ⟨hg17, h⟩ := h
        refine wp_iaload dX12_isTrue_62 ha15 hr16 hg17 ?_
        refine wp_i2l dX12_isTrue_63 ?_
        refine wp_aload_n 2 dX12_isTrue_64 rfl ?_
        refine wp_getC (ci := 12) (j := 8) dX12_isTrue_65 fi_X12_35r rfl rfl ht14 ?_
        change WP _ _ _ _ _ _ (rv (hC (sI H11 1321 a0 0 (0 : Int32)) 1308 a0) :: _) _ _
        refine wp_iconst (v := (4 : Int32)) dX12_isTrue_68 (by decide) ?_
        refine wp_iload_n 3 dX12_isTrue_69 rfl ?_
        refine wp_imul dX12_isTrue_70 ?_
        refine wp_iconst (v := (3 : Int32)) dX12_isTrue_71 (by decide) ?_
        refine wp_iadd dX12_isTrue_72 ?_
        obtain ⟨hg18, h⟩ := h
        refine wp_iaload dX12_isTrue_73 ha15 hr16 hg18 ?_
        refine wp_i2l dX12_isTrue_74 ?_
        refine wp_callV (ci := 12) (As := [.long ((hI (sI H11 1321 a0 0 (0 : Int32)) (tg (sI H11 1321 a0 0 (0 : Int32)) a15) a15 (((4 : Int32) * x1) + (2 : Int32)).toNatClampNeg).toInt64), .long ((hI (sI H11 1321 a0 0 (0 : Int32)) (tg (sI H11 1321 a0 0 (0 : Int32)) a15) a15 (((4 : Int32) * x1) + (3 : Int32)).toNatClampNeg).toInt64)]) (rest := []) (mc := 0) (ms := 0) dX12_isTrue_75 lk_X12_157 rfl rfl (by decide) rfl rfl rfl ht14 rfl rfl rfl w_7_37 (Call.weaken h ?_)
        rintro H19 _ ⟨rfl, h⟩
        change WP _ _ _ _ _ _ [] H19 _
        refine wp_aload_n 2 dX12_isTrue_78 rfl ?_
        refine wp_aload_n 2 dX12_isTrue_79 rfl ?_
        obtain ⟨ht20, h⟩ := h
        refine wp_getL (ci := 12) (j := 19) dX12_isTrue_80 fi_X12_143r rfl rfl ht20 ?_
        change WP _ _ _ _ _ _ (.long (hL H19 1319 a0 0) :: _) _ _
        refine wp_aload_n 2 dX12_isTrue_83 rfl ?_
        refine wp_getL (ci := 12) (j := 20) dX12_isTrue_84 fi_X12_147r rfl rfl ht20 ?_
        change WP _ _ _ _ _ _ (.long (hL H19 1320 a0 0) :: _) _ _
        refine wp_aload_n 2 dX12_isTrue_87 rfl ?_
        refine wp_getC (ci := 12) (j := 3) dX12_isTrue_88 fi_X12_22r rfl rfl ht20 ?_
        change WP _ _ _ _ _ _ (rv (hC H19 1303 a0) :: _) _ _
        refine wp_iload_n 0 dX12_isTrue_91 rfl ?_
        obtain ⟨a21, ha21, h⟩ := h
        obtain ⟨hr22, h⟩ := h
        obtain ⟨hg23, h⟩ := h
        refine wp_laload dX12_isTrue_92 ha21 hr22 hg23 ?_
        refine wp_aload_n 2 dX12_isTrue_93 rfl ?_
        refine wp_getC (ci := 12) (j := 4) dX12_isTrue_94 fi_X12_26r rfl rfl ht20 ?_
        change WP _ _ _ _ _ _ (rv (hC H19 1304 a0) :: _) _ _
        refine wp_iload_n 0 dX12_isTrue_97 rfl ?_
        obtain ⟨a24, ha24, h⟩ := h
        obtain ⟨hr25, h⟩ := h
        obtain ⟨hg26, h⟩ := h
        refine wp_laload dX12_isTrue_98 ha24 hr25 hg26 ?_
        refine wp_callV (ci := 12) (As := [.long (hL H19 1319 a0 0), .long (hL H19 1320 a0 0), .long (hL H19 (tg H19 a21) a21 (hI H (tg H a2) a2 (((4 : Int32) * x1) + (1 : Int32)).toNatClampNeg).toNatClampNeg), .long (hL H19 (tg H19 a24) a24 (hI H (tg H a2) a2 (((4 : Int32) * x1) + (1 : Int32)).toNatClampNeg).toNatClampNeg)]) (rest := []) (mc := 0) (ms := 0) dX12_isTrue_99 lk_X12_153 rfl rfl (by decide) rfl rfl rfl ht20 rfl rfl rfl w_7_47 (Call.weaken h ?_)
        rintro H27 _ ⟨rfl, h⟩
        change WP _ _ _ _ _ _ [] H27 _
        refine wp_aload_n 2 dX12_isTrue_102 rfl ?_
        obtain ⟨ht28, h⟩ := h
        refine wp_getI (ci := 12) (j := 21) dX12_isTrue_103 fi_X12_133r rfl rfl ht28 ?_
        change WP _ _ _ _ _ _ (.int (hI H27 1321 a0 0) :: _) _ _
        refine wp_if_eq (tgt := 112) dX12_isTrue_106 rfl (fun c => ?_) (fun c => ?_)
        · replace h := h.1 c
          refine wp_aload_n 2 dX12_isTrue_112 rfl ?_
          refine wp_getL (ci := 12) (j := 19) dX12_isTrue_113 fi_X12_143r rfl rfl ht28 ?_
          change WP _ _ _ _ _ _ (.long (hL H27 1319 a0 0) :: _) _ _
          refine wp_aload_n 2 dX12_isTrue_116 rfl ?_
          refine wp_getC (ci := 12) (j := 3) dX12_isTrue_117 fi_X12_22r rfl rfl ht28 ?_
          change WP _ _ _ _ _ _ (rv (hC H27 1303 a0) :: _) _ _
          refine wp_iload_n 1 dX12_isTrue_120 rfl ?_
          obtain ⟨a29, ha29, h⟩ := h
          obtain ⟨hr30, h⟩ := h
          obtain ⟨hg31, h⟩ := h
          refine wp_laload dX12_isTrue_121 ha29 hr30 hg31 ?_
          refine wp_lcmp dX12_isTrue_122 ?_
          refine wp_if_ne (tgt := 144) dX12_isTrue_123 rfl (fun c => ?_) (fun c => ?_)
          · replace h := h.1 (fun z => c (lgc_eq.mpr z))
            refine wp_iconst (v := (0 : Int32)) dX12_isTrue_144 (by decide) ?_
            exact wp_ireturn (ty := .int) dX12_isTrue_145 rfl rfl ⟨_, rfl, h⟩
          · replace h := h.2 (lgc_eq.mp c)
            refine wp_aload_n 2 dX12_isTrue_126 rfl ?_
            refine wp_getL (ci := 12) (j := 20) dX12_isTrue_127 fi_X12_147r rfl rfl ht28 ?_
            change WP _ _ _ _ _ _ (.long (hL H27 1320 a0 0) :: _) _ _
            refine wp_aload_n 2 dX12_isTrue_130 rfl ?_
            refine wp_getC (ci := 12) (j := 4) dX12_isTrue_131 fi_X12_26r rfl rfl ht28 ?_
            change WP _ _ _ _ _ _ (rv (hC H27 1304 a0) :: _) _ _
            refine wp_iload_n 1 dX12_isTrue_134 rfl ?_
            obtain ⟨a32, ha32, h⟩ := h
            obtain ⟨hr33, h⟩ := h
            obtain ⟨hg34, h⟩ := h
            refine wp_laload dX12_isTrue_135 ha32 hr33 hg34 ?_
            refine wp_lcmp dX12_isTrue_136 ?_
            refine wp_if_ne (tgt := 144) dX12_isTrue_137 rfl (fun c => ?_) (fun c => ?_)
            · replace h := h.1 (fun z => c (lgc_eq.mpr z))
              refine wp_iconst (v := (0 : Int32)) dX12_isTrue_144 (by decide) ?_
              exact wp_ireturn (ty := .int) dX12_isTrue_145 rfl rfl ⟨_, rfl, h⟩
            · replace h := h.2 (lgc_eq.mp c)
              refine wp_iconst (v := (1 : Int32)) dX12_isTrue_140 (by decide) ?_
              refine wp_goto (tgt := 145) dX12_isTrue_141 rfl ?_
              exact wp_ireturn (ty := .int) dX12_isTrue_145 rfl rfl ⟨_, rfl, h⟩
        · replace h := h.2 c
          refine wp_bipush (v := (-15 : Int32)) dX12_isTrue_109 (by decide) ?_
          exact wp_ireturn (ty := .int) dX12_isTrue_111 rfl rfl ⟨_, rfl, h⟩
      · replace h := h.2 (bI_1.mp c)
        refine wp_iconst (v := (0 : Int32)) dX12_isTrue_45 (by decide) ?_
        exact wp_ireturn (ty := .int) dX12_isTrue_46 rfl rfl ⟨_, rfl, h⟩
theorem C_X12_isTrue {d : Nat} {q : HP → Int32 → Prop} {a0 : Nat} {x1 : Int32} {H : HP} (h : wb_X12_isTrue_0 d q a0 x1 H) : CI (d + 1) 0 0 mX12_isTrue [rv (some a0), .int x1] H q := by
  refine call_of (by decide +kernel) (by simp [lg_sl, rv_cat, vc_int, vc_long, vc_float, vc_double]) ?_
  have e : lv_args 0 [rv (some a0), .int x1] = [(0, rv (some a0)), (1, .int x1)] := by simp [lv_args, rv_cat, vc_int, vc_long, vc_float, vc_double]
  rw [e]
  exact T_X12_isTrue_0 h
def wb_X12_isUnit_0 (d : Nat) (q : HP → Bool → Prop) (a0 : Nat) (x1 : Int32) (H : HP) : Prop :=
  tg H a0 = 13 ∧ (CZ d 0 0 mX12_isIn [.long (x1.toInt64), .long (0 : Int64), .long (((hI H 1300 a0 0) - (1 : Int32)).toInt64)] H (fun H2 b3 => q H2 b3))
set_option maxRecDepth 40000 in
set_option maxHeartbeats 4000000 in
theorem T_X12_isUnit_0 {d : Nat} {q : HP → Bool → Prop} {a0 : Nat} {x1 : Int32} {H : HP} (h : wb_X12_isUnit_0 d q a0 x1 H) : WP (d + 1) mX12_isUnit 0 0 0 [(0, rv (some a0)), (1, .int x1)] [] H (qZ q) := by
  unfold wb_X12_isUnit_0 at h
  refine wp_iload_n 1 dX12_isUnit_0 rfl ?_
  refine wp_i2l dX12_isUnit_1 ?_
  refine wp_lconst (v := (0 : Int64)) dX12_isUnit_2 (by decide) ?_
  refine wp_aload_n 0 dX12_isUnit_3 rfl ?_
  obtain ⟨ht1, h⟩ := h
  refine wp_getI (ci := 12) (j := 0) dX12_isUnit_4 fi_X12_11r rfl rfl ht1 ?_
  change WP _ _ _ _ _ _ (.int (hI H 1300 a0 0) :: _) _ _
  refine wp_iconst (v := (1 : Int32)) dX12_isUnit_7 (by decide) ?_
  refine wp_isub dX12_isUnit_8 ?_
  refine wp_i2l dX12_isUnit_9 ?_
  refine wp_callS (As := [.long (x1.toInt64), .long (0 : Int64), .long (((hI H 1300 a0 0) - (1 : Int32)).toInt64)]) (rest := []) (mc := 0) (ms := 0) dX12_isUnit_10 lk_X12_161 rfl rfl (by decide) rfl rfl rfl (Call.weaken h ?_)
  rintro H2 _ ⟨b3, rfl, h⟩
  change WP _ _ _ _ _ _ [.int (bI b3)] H2 _
  exact wp_ireturn (ty := .boolean) dX12_isUnit_13 rfl (nar_bI _).1 ⟨b3, rfl, h⟩
theorem C_X12_isUnit {d : Nat} {q : HP → Bool → Prop} {a0 : Nat} {x1 : Int32} {H : HP} (h : wb_X12_isUnit_0 d q a0 x1 H) : CZ (d + 1) 0 0 mX12_isUnit [rv (some a0), .int x1] H q := by
  refine call_of (by decide +kernel) (by simp [lg_sl, rv_cat, vc_int, vc_long, vc_float, vc_double]) ?_
  have e : lv_args 0 [rv (some a0), .int x1] = [(0, rv (some a0)), (1, .int x1)] := by simp [lv_args, rv_cat, vc_int, vc_long, vc_float, vc_double]
  rw [e]
  exact T_X12_isUnit_0 h
/-- UnitProverModel.isWide(I)Z: the loop at 4 -/
def L_X12_isWide_4 (d : Nat) (q : HP → Bool → Prop) (a0 : Nat) (x1 : Int32) (x2 : Int32) (x3 : Int32) (H : HP) : Prop := WP (d + 1) mX12_isWide 0 0 4 [(0, rv (some a0)), (1, .int x1), (2, .int x2), (3, .int x3)] [] H (qZ q)
def wb_X12_isWide_0 (d : Nat) (q : HP → Bool → Prop) (a0 : Nat) (x1 : Int32) (H : HP) : Prop :=
  L_X12_isWide_4 d q a0 x1 (0 : Int32) (0 : Int32) H
set_option maxRecDepth 40000 in
set_option maxHeartbeats 4000000 in
theorem T_X12_isWide_0 {d : Nat} {q : HP → Bool → Prop} {a0 : Nat} {x1 : Int32} {H : HP} (h : wb_X12_isWide_0 d q a0 x1 H) : WP (d + 1) mX12_isWide 0 0 0 [(0, rv (some a0)), (1, .int x1)] [] H (qZ q) := by
  unfold wb_X12_isWide_0 at h
  refine wp_iconst (v := (0 : Int32)) dX12_isWide_0 (by decide) ?_
  refine wp_istore_n (ls' := [(2, .int (0 : Int32)), (0, rv (some a0)), (1, .int x1)]) dX12_isWide_1 (by decide) rfl ?_
  refine wp_iconst (v := (0 : Int32)) dX12_isWide_2 (by decide) ?_
  refine wp_istore_n (ls' := [(3, .int (0 : Int32)), (2, .int (0 : Int32)), (0, rv (some a0)), (1, .int x1)]) dX12_isWide_3 (by decide) rfl ?_
  refine wp_sub (ls' := [(0, rv (some a0)), (1, .int x1), (2, .int (0 : Int32)), (3, .int (0 : Int32))]) [2, 3, 1, 0] rfl ?_
  exact h
def wb_X12_isWide_4 (d : Nat) (q : HP → Bool → Prop) (a0 : Nat) (x1 : Int32) (x2 : Int32) (x3 : Int32) (H : HP) : Prop :=
  ((5 : Int32) ≤ x3 → ∃ b1, x2 = bI b1 ∧ q H b1) ∧ (¬ ((5 : Int32) ≤ x3) → tg H a0 = 13 ∧ (∃ a3, (hC H 1337 a0) = some a3 ∧ (isA H a3 0 ∧ (vp_in x3 (ln H a3) ∧ (CI d 0 0 mJ9_abs_0f7a4 [.int (hI H (tg H a3) a3 x3.toNatClampNeg)] H (fun H6 r7 => (r7 ≤ x1 → L_X12_isWide_4 d q a0 x1 (x2 ||| (0 : Int32)) (x3 + 1) H6) ∧ (¬ (r7 ≤ x1) → L_X12_isWide_4 d q a0 x1 (x2 ||| (1 : Int32)) (x3 + 1) H6)))))))
set_option maxRecDepth 40000 in
set_option maxHeartbeats 4000000 in
theorem T_X12_isWide_4 {d : Nat} {q : HP → Bool → Prop} {a0 : Nat} {x1 : Int32} {x2 : Int32} {x3 : Int32} {H : HP} (h : wb_X12_isWide_4 d q a0 x1 x2 x3 H) : L_X12_isWide_4 d q a0 x1 x2 x3 H := by
  unfold wb_X12_isWide_4 at h
  unfold L_X12_isWide_4
  refine wp_iload_n 3 dX12_isWide_4 rfl ?_
  refine wp_iconst (v := (5 : Int32)) dX12_isWide_5 (by decide) ?_
  refine wp_icmp_ge (tgt := 36) dX12_isWide_6 rfl (fun c => ?_) (fun c => ?_)
  · replace h := h.1 c
    refine wp_iload_n 2 dX12_isWide_36 rfl ?_
    obtain ⟨b1, hb, h⟩ := h
    exact wp_ireturn (ty := .boolean) dX12_isWide_37 rfl (by rw [hb]; exact (nar_bI _).1) ⟨b1, by rw [hb], h⟩
  · replace h := h.2 c
    refine wp_iload_n 2 dX12_isWide_9 rfl ?_
    refine wp_aload_n 0 dX12_isWide_10 rfl ?_
    obtain ⟨ht2, h⟩ := h
    refine wp_getC (ci := 12) (j := 37) dX12_isWide_11 fi_X12_74r rfl rfl ht2 ?_
    change WP _ _ _ _ _ _ (rv (hC H 1337 a0) :: _) _ _
    refine wp_iload_n 3 dX12_isWide_14 rfl ?_
    obtain ⟨a3, ha3, h⟩ := h
    obtain ⟨hr4, h⟩ := h
    obtain ⟨hg5, h⟩ := h
    refine wp_iaload dX12_isWide_15 ha3 hr4 hg5 ?_
    refine wp_callS (As := [.int (hI H (tg H a3) a3 x3.toNatClampNeg)]) (rest := [.int x2]) (mc := 0) (ms := 0) dX12_isWide_16 lk_X12_251 rfl rfl (by simp [rv_cat, vc_int, vc_long, vc_float, vc_double]) rfl rfl rfl (Call.weaken h ?_)
    rintro H6 _ ⟨r7, rfl, h⟩
    change WP _ _ _ _ _ _ [.int r7, .int x2] H6 _
    refine wp_iload_n 1 dX12_isWide_19 rfl ?_
    refine wp_icmp_le (tgt := 27) dX12_isWide_20 rfl (fun c => ?_) (fun c => ?_)
    · replace h := h.1 c
      refine wp_iconst (v := (0 : Int32)) dX12_isWide_27 (by decide) ?_
      refine wp_ior dX12_isWide_28 ?_
      refine wp_istore_n (ls' := [(2, .int (x2 ||| (0 : Int32))), (0, rv (some a0)), (1, .int x1), (3, .int x3)]) dX12_isWide_29 (by decide) rfl ?_
      refine wp_iinc (v := (x3 + 1)) (ls' := [(3, .int (x3 + 1)), (2, .int (x2 ||| (0 : Int32))), (0, rv (some a0)), (1, .int x1)]) 3 dX12_isWide_30 rfl rfl (by decide) rfl ?_
      refine wp_goto (tgt := 4) dX12_isWide_33 rfl ?_
      refine wp_sub (ls' := [(0, rv (some a0)), (1, .int x1), (2, .int (x2 ||| (0 : Int32))), (3, .int (x3 + 1))]) [2, 3, 1, 0] rfl ?_
      exact h
    · replace h := h.2 c
      refine wp_iconst (v := (1 : Int32)) dX12_isWide_23 (by decide) ?_
      refine wp_goto (tgt := 28) dX12_isWide_24 rfl ?_
      refine wp_ior dX12_isWide_28 ?_
      refine wp_istore_n (ls' := [(2, .int (x2 ||| (1 : Int32))), (0, rv (some a0)), (1, .int x1), (3, .int x3)]) dX12_isWide_29 (by decide) rfl ?_
      refine wp_iinc (v := (x3 + 1)) (ls' := [(3, .int (x3 + 1)), (2, .int (x2 ||| (1 : Int32))), (0, rv (some a0)), (1, .int x1)]) 3 dX12_isWide_30 rfl rfl (by decide) rfl ?_
      refine wp_goto (tgt := 4) dX12_isWide_33 rfl ?_
      refine wp_sub (ls' := [(0, rv (some a0)), (1, .int x1), (2, .int (x2 ||| (1 : Int32))), (3, .int (x3 + 1))]) [2, 3, 1, 0] rfl ?_
      exact h
theorem C_X12_isWide {d : Nat} {q : HP → Bool → Prop} {a0 : Nat} {x1 : Int32} {H : HP} (h : wb_X12_isWide_0 d q a0 x1 H) : CZ (d + 1) 0 0 mX12_isWide [rv (some a0), .int x1] H q := by
  refine call_of (by decide +kernel) (by simp [lg_sl, rv_cat, vc_int, vc_long, vc_float, vc_double]) ?_
  have e : lv_args 0 [rv (some a0), .int x1] = [(0, rv (some a0)), (1, .int x1)] := by simp [lv_args, rv_cat, vc_int, vc_long, vc_float, vc_double]
  rw [e]
  exact T_X12_isWide_0 h
def wb_X12_item_0 (d : Nat) (q : HP → Int64 → Prop) (a0 : Nat) (x1 : Int32) (x2 : Int32) (H : HP) : Prop :=
  tg H a0 = 13 ∧ (CI d 0 0 mX12_barred [rv (some a0), .int x1, .int x2] H (fun H1 r3 => (r3 = 0 → tg H1 a0 = 13 ∧ (∃ a5, (hC H1 1357 a0) = some a5 ∧ (isA H1 a5 0 ∧ (vp_in x1 (ln H1 a5) ∧ ((¬ (hI H1 (tg H1 a5) a5 x1.toNatClampNeg) = 0 → ∃ a8, (hC H1 1360 a0) = some a8 ∧ (isA H1 a8 5 ∧ (vp_in (((30 : Int32) * x1) + x2) (ln H1 a8) ∧ (CJ d 0 0 mJxe99ae_doubleToLongBits_ccdee [.double (hD H1 (tg H1 a8) a8 (((30 : Int32) * x1) + x2).toNatClampNeg)] H1 (fun H11 r12 => q H11 r12))))) ∧ ((hI H1 (tg H1 a5) a5 x1.toNatClampNeg) = 0 → ∃ a13, (hC H1 1359 a0) = some a13 ∧ (isA H1 a13 4 ∧ (vp_in (((30 : Int32) * x1) + x2) (ln H1 a13) ∧ (CI d 0 0 mJxf58ca_floatToIntBits_5c35a [.float (hF H1 (tg H1 a13) a13 (((30 : Int32) * x1) + x2).toNatClampNeg)] H1 (fun H16 r17 => q H16 (r17.toInt64))))))))))) ∧ (¬ (r3 = 0) → q H1 (-9223372036854775808 : Int64))))
set_option maxRecDepth 40000 in
set_option maxHeartbeats 4000000 in
theorem T_X12_item_0 {d : Nat} {q : HP → Int64 → Prop} {a0 : Nat} {x1 : Int32} {x2 : Int32} {H : HP} (h : wb_X12_item_0 d q a0 x1 x2 H) : WP (d + 1) mX12_item 0 0 0 [(0, rv (some a0)), (1, .int x1), (2, .int x2)] [] H (qJ q) := by
  unfold wb_X12_item_0 at h
  refine wp_aload_n 0 dX12_item_0 rfl ?_
  refine wp_iload_n 1 dX12_item_1 rfl ?_
  refine wp_iload_n 2 dX12_item_2 rfl ?_
  obtain ⟨ht2, h⟩ := h
  refine wp_callV (ci := 12) (As := [.int x1, .int x2]) (rest := []) (mc := 0) (ms := 0) dX12_item_3 lk_X12_468 rfl rfl (by decide) rfl rfl rfl ht2 rfl rfl rfl w_8_92 (Call.weaken h ?_)
  rintro H1 _ ⟨r3, rfl, h⟩
  change WP _ _ _ _ _ _ [.int r3] H1 _
  refine wp_if_eq (tgt := 13) dX12_item_6 rfl (fun c => ?_) (fun c => ?_)
  · replace h := h.1 c
    refine wp_aload_n 0 dX12_item_13 rfl ?_
    obtain ⟨ht4, h⟩ := h
    refine wp_getC (ci := 12) (j := 57) dX12_item_14 fi_X12_107r rfl rfl ht4 ?_
    change WP _ _ _ _ _ _ (rv (hC H1 1357 a0) :: _) _ _
    refine wp_iload_n 1 dX12_item_17 rfl ?_
    obtain ⟨a5, ha5, h⟩ := h
    obtain ⟨hr6, h⟩ := h
    obtain ⟨hg7, h⟩ := h
    refine wp_iaload dX12_item_18 ha5 hr6 hg7 ?_
    refine wp_if_ne (tgt := 40) dX12_item_19 rfl (fun c => ?_) (fun c => ?_)
    · replace h := h.1 c
      refine wp_aload_n 0 dX12_item_40 rfl ?_
      refine wp_getC (ci := 12) (j := 60) dX12_item_41 fi_X12_117r rfl rfl ht4 ?_
      change WP _ _ _ _ _ _ (rv (hC H1 1360 a0) :: _) _ _
      refine wp_bipush (v := (30 : Int32)) dX12_item_44 (by decide) ?_
      refine wp_iload_n 1 dX12_item_46 rfl ?_
      refine wp_imul dX12_item_47 ?_
      refine wp_iload_n 2 dX12_item_48 rfl ?_
      refine wp_iadd dX12_item_49 ?_
      obtain ⟨a8, ha8, h⟩ := h
      obtain ⟨hr9, h⟩ := h
      obtain ⟨hg10, h⟩ := h
      refine wp_daload dX12_item_50 ha8 hr9 hg10 ?_
      refine wp_callS (As := [.double (hD H1 (tg H1 a8) a8 (((30 : Int32) * x1) + x2).toNatClampNeg)]) (rest := []) (mc := 0) (ms := 0) dX12_item_51 lk_X12_425 rfl rfl (by decide) rfl rfl rfl (Call.weaken h ?_)
      rintro H11 _ ⟨r12, rfl, h⟩
      change WP _ _ _ _ _ _ [.long r12] H11 _
      exact wp_lreturn dX12_item_54 rfl ⟨_, rfl, h⟩
    · replace h := h.2 c
      refine wp_aload_n 0 dX12_item_22 rfl ?_
      refine wp_getC (ci := 12) (j := 59) dX12_item_23 fi_X12_113r rfl rfl ht4 ?_
      change WP _ _ _ _ _ _ (rv (hC H1 1359 a0) :: _) _ _
      refine wp_bipush (v := (30 : Int32)) dX12_item_26 (by decide) ?_
      refine wp_iload_n 1 dX12_item_28 rfl ?_
      refine wp_imul dX12_item_29 ?_
      refine wp_iload_n 2 dX12_item_30 rfl ?_
      refine wp_iadd dX12_item_31 ?_
      obtain ⟨a13, ha13, h⟩ := h
      obtain ⟨hr14, h⟩ := h
      obtain ⟨hg15, h⟩ := h
      refine wp_faload dX12_item_32 ha13 hr14 hg15 ?_
      refine wp_callS (As := [.float (hF H1 (tg H1 a13) a13 (((30 : Int32) * x1) + x2).toNatClampNeg)]) (rest := []) (mc := 0) (ms := 0) dX12_item_33 lk_X12_431 rfl rfl (by decide) rfl rfl rfl (Call.weaken h ?_)
      rintro H16 _ ⟨r17, rfl, h⟩
      change WP _ _ _ _ _ _ [.int r17] H16 _
      refine wp_i2l dX12_item_36 ?_
      refine wp_goto (tgt := 54) dX12_item_37 rfl ?_
      exact wp_lreturn dX12_item_54 rfl ⟨_, rfl, h⟩
  · replace h := h.2 c
    refine wp_ldc2 dX12_item_9 w_7_55 ?_
    exact wp_lreturn dX12_item_12 rfl ⟨_, rfl, h⟩
theorem C_X12_item {d : Nat} {q : HP → Int64 → Prop} {a0 : Nat} {x1 : Int32} {x2 : Int32} {H : HP} (h : wb_X12_item_0 d q a0 x1 x2 H) : CJ (d + 1) 0 0 mX12_item [rv (some a0), .int x1, .int x2] H q := by
  refine call_of (by decide +kernel) (by simp [lg_sl, rv_cat, vc_int, vc_long, vc_float, vc_double]) ?_
  have e : lv_args 0 [rv (some a0), .int x1, .int x2] = [(0, rv (some a0)), (1, .int x1), (2, .int x2)] := by simp [lv_args, rv_cat, vc_int, vc_long, vc_float, vc_double]
  rw [e]
  exact T_X12_item_0 h
def wb_X12_latest_0 (d : Nat) (q : HP → Int64 → Prop) (a0 : Nat) (x1 : Int32) (H : HP) : Prop :=
  tg H a0 = 13 ∧ (((hI H 1321 a0 0) = 0 → CJ d 0 0 mX12_partOf [.long (hL H 1319 a0 0), .long (hL H 1320 a0 0), .int x1] H (fun H2 r3 => q H2 r3)) ∧ (¬ ((hI H 1321 a0 0) = 0) → q H (-9223372036854775808 : Int64)))
set_option maxRecDepth 40000 in
set_option maxHeartbeats 4000000 in
theorem T_X12_latest_0 {d : Nat} {q : HP → Int64 → Prop} {a0 : Nat} {x1 : Int32} {H : HP} (h : wb_X12_latest_0 d q a0 x1 H) : WP (d + 1) mX12_latest 0 0 0 [(0, rv (some a0)), (1, .int x1)] [] H (qJ q) := by
  unfold wb_X12_latest_0 at h
  refine wp_aload_n 0 dX12_latest_0 rfl ?_
  obtain ⟨ht1, h⟩ := h
  refine wp_getI (ci := 12) (j := 21) dX12_latest_1 fi_X12_133r rfl rfl ht1 ?_
  change WP _ _ _ _ _ _ (.int (hI H 1321 a0 0) :: _) _ _
  refine wp_if_eq (tgt := 13) dX12_latest_4 rfl (fun c => ?_) (fun c => ?_)
  · replace h := h.1 c
    refine wp_aload_n 0 dX12_latest_13 rfl ?_
    refine wp_getL (ci := 12) (j := 19) dX12_latest_14 fi_X12_143r rfl rfl ht1 ?_
    change WP _ _ _ _ _ _ (.long (hL H 1319 a0 0) :: _) _ _
    refine wp_aload_n 0 dX12_latest_17 rfl ?_
    refine wp_getL (ci := 12) (j := 20) dX12_latest_18 fi_X12_147r rfl rfl ht1 ?_
    change WP _ _ _ _ _ _ (.long (hL H 1320 a0 0) :: _) _ _
    refine wp_iload_n 1 dX12_latest_21 rfl ?_
    refine wp_callS (As := [.long (hL H 1319 a0 0), .long (hL H 1320 a0 0), .int x1]) (rest := []) (mc := 0) (ms := 0) dX12_latest_22 lk_X12_291 rfl rfl (by decide) rfl rfl rfl (Call.weaken h ?_)
    rintro H2 _ ⟨r3, rfl, h⟩
    change WP _ _ _ _ _ _ [.long r3] H2 _
    exact wp_lreturn dX12_latest_25 rfl ⟨_, rfl, h⟩
  · replace h := h.2 c
    refine wp_ldc2 dX12_latest_7 w_7_55 ?_
    refine wp_goto (tgt := 25) dX12_latest_10 rfl ?_
    exact wp_lreturn dX12_latest_25 rfl ⟨_, rfl, h⟩
theorem C_X12_latest {d : Nat} {q : HP → Int64 → Prop} {a0 : Nat} {x1 : Int32} {H : HP} (h : wb_X12_latest_0 d q a0 x1 H) : CJ (d + 1) 0 0 mX12_latest [rv (some a0), .int x1] H q := by
  refine call_of (by decide +kernel) (by simp [lg_sl, rv_cat, vc_int, vc_long, vc_float, vc_double]) ?_
  have e : lv_args 0 [rv (some a0), .int x1] = [(0, rv (some a0)), (1, .int x1)] := by simp [lv_args, rv_cat, vc_int, vc_long, vc_float, vc_double]
  rw [e]
  exact T_X12_latest_0 h
/-- UnitProverModel.letters()I: the loop at 5 -/
def L_X12_letters_5 (d : Nat) (q : HP → Int32 → Prop) (a0 : Nat) (x1 : Int32) (H : HP) : Prop := WP (d + 1) mX12_letters 0 0 5 [(0, rv (some a0)), (1, .int x1)] [] H (qI q)
def wb_X12_letters_0 (d : Nat) (q : HP → Int32 → Prop) (a0 : Nat) (H : HP) : Prop :=
  tg H a0 = 13 ∧ (L_X12_letters_5 d q a0 (hI H 1324 a0 0) H)
set_option maxRecDepth 40000 in
set_option maxHeartbeats 4000000 in
theorem T_X12_letters_0 {d : Nat} {q : HP → Int32 → Prop} {a0 : Nat} {H : HP} (h : wb_X12_letters_0 d q a0 H) : WP (d + 1) mX12_letters 0 0 0 [(0, rv (some a0))] [] H (qI q) := by
  unfold wb_X12_letters_0 at h
  refine wp_aload_n 0 dX12_letters_0 rfl ?_
  obtain ⟨ht1, h⟩ := h
  refine wp_getI (ci := 12) (j := 24) dX12_letters_1 fi_X12_174r rfl rfl ht1 ?_
  change WP _ _ _ _ _ _ (.int (hI H 1324 a0 0) :: _) _ _
  refine wp_istore_n (ls' := [(1, .int (hI H 1324 a0 0)), (0, rv (some a0))]) dX12_letters_4 (by decide) rfl ?_
  refine wp_sub (ls' := [(0, rv (some a0)), (1, .int (hI H 1324 a0 0))]) [1, 0] rfl ?_
  exact h
def wb_X12_letters_5 (d : Nat) (q : HP → Int32 → Prop) (a0 : Nat) (x1 : Int32) (H : HP) : Prop :=
  tg H a0 = 13 ∧ ((0 ≤ (hI H 1325 a0 0) → ((hI H 1324 a0 0) = x1 → CV d 0 0 mX12_fails [rv (some a0)] H (fun H2 => tg H2 a0 = 13 ∧ (q H2 ((hI H2 1324 a0 0) - x1)))) ∧ (¬ ((hI H 1324 a0 0) = x1) → CZ d 0 0 mX12_isLetter [rv (some a0)] H (fun H4 b5 => (b5 = false → tg H4 a0 = 13 ∧ (q H4 ((hI H4 1324 a0 0) - x1))) ∧ (b5 = true → tg H4 a0 = 13 ∧ (CV d 0 0 mX12_fails [rv (some a0)] H4 (fun H7 => tg H7 a0 = 13 ∧ (q H7 ((hI H7 1324 a0 0) - x1)))))))) ∧ (¬ (0 ≤ (hI H 1325 a0 0)) → CZ d 0 0 mX12_isLetter [rv (some a0)] H (fun H10 b11 => (b11 = false → tg H10 a0 = 13 ∧ (((hI H10 1324 a0 0) = x1 → CV d 0 0 mX12_fails [rv (some a0)] H10 (fun H13 => tg H13 a0 = 13 ∧ (q H13 ((hI H13 1324 a0 0) - x1)))) ∧ (¬ ((hI H10 1324 a0 0) = x1) → CZ d 0 0 mX12_isLetter [rv (some a0)] H10 (fun H15 b16 => (b16 = false → tg H15 a0 = 13 ∧ (q H15 ((hI H15 1324 a0 0) - x1))) ∧ (b16 = true → tg H15 a0 = 13 ∧ (CV d 0 0 mX12_fails [rv (some a0)] H15 (fun H18 => tg H18 a0 = 13 ∧ (q H18 ((hI H18 1324 a0 0) - x1))))))))) ∧ (b11 = true → tg H10 a0 = 13 ∧ (((x1 + (4 : Int32)) ≤ (hI H10 1324 a0 0) → ((hI H10 1324 a0 0) = x1 → CV d 0 0 mX12_fails [rv (some a0)] H10 (fun H22 => tg H22 a0 = 13 ∧ (q H22 ((hI H22 1324 a0 0) - x1)))) ∧ (¬ ((hI H10 1324 a0 0) = x1) → CZ d 0 0 mX12_isLetter [rv (some a0)] H10 (fun H24 b25 => (b25 = false → tg H24 a0 = 13 ∧ (q H24 ((hI H24 1324 a0 0) - x1))) ∧ (b25 = true → tg H24 a0 = 13 ∧ (CV d 0 0 mX12_fails [rv (some a0)] H24 (fun H27 => tg H27 a0 = 13 ∧ (q H27 ((hI H27 1324 a0 0) - x1)))))))) ∧ (¬ ((x1 + (4 : Int32)) ≤ (hI H10 1324 a0 0)) → L_X12_letters_5 d q a0 x1 (sI H10 1324 a0 0 ((hI H10 1324 a0 0) + (1 : Int32)))))))))
set_option maxRecDepth 40000 in
set_option maxHeartbeats 4000000 in
theorem T_X12_letters_5 {d : Nat} {q : HP → Int32 → Prop} {a0 : Nat} {x1 : Int32} {H : HP} (h : wb_X12_letters_5 d q a0 x1 H) : L_X12_letters_5 d q a0 x1 H := by
  unfold wb_X12_letters_5 at h
  unfold L_X12_letters_5
  refine wp_aload_n 0 dX12_letters_5 rfl ?_
  obtain ⟨ht1, h⟩ := h
  refine wp_getI (ci := 12) (j := 25) dX12_letters_6 fi_X12_189r rfl rfl ht1 ?_
  change WP _ _ _ _ _ _ (.int (hI H 1325 a0 0) :: _) _ _
  refine wp_if_ge (tgt := 42) dX12_letters_9 rfl (fun c => ?_) (fun c => ?_)
  · replace h := h.1 c
    refine wp_aload_n 0 dX12_letters_42 rfl ?_
    refine wp_getI (ci := 12) (j := 24) dX12_letters_43 fi_X12_174r rfl rfl ht1 ?_
    change WP _ _ _ _ _ _ (.int (hI H 1324 a0 0) :: _) _ _
    refine wp_iload_n 1 dX12_letters_46 rfl ?_
    refine wp_icmp_eq (tgt := 57) dX12_letters_47 rfl (fun c => ?_) (fun c => ?_)
    · replace h := h.1 c
      refine wp_aload_n 0 dX12_letters_57 rfl ?_
      refine wp_callV (ci := 12) (As := []) (rest := []) (mc := 0) (ms := 0) dX12_letters_58 lk_X12_192 rfl rfl (by decide) rfl rfl rfl ht1 rfl rfl rfl w_6_212 (Call.weaken h ?_)
      rintro H2 _ ⟨rfl, h⟩
      change WP _ _ _ _ _ _ [] H2 _
      refine wp_aload_n 0 dX12_letters_61 rfl ?_
      obtain ⟨ht3, h⟩ := h
      refine wp_getI (ci := 12) (j := 24) dX12_letters_62 fi_X12_174r rfl rfl ht3 ?_
      change WP _ _ _ _ _ _ (.int (hI H2 1324 a0 0) :: _) _ _
      refine wp_iload_n 1 dX12_letters_65 rfl ?_
      refine wp_isub dX12_letters_66 ?_
      exact wp_ireturn (ty := .int) dX12_letters_67 rfl rfl ⟨_, rfl, h⟩
    · replace h := h.2 c
      refine wp_aload_n 0 dX12_letters_50 rfl ?_
      refine wp_callV (ci := 12) (As := []) (rest := []) (mc := 0) (ms := 0) dX12_letters_51 lk_X12_195 rfl rfl (by decide) rfl rfl rfl ht1 rfl rfl rfl w_6_202 (Call.weaken h ?_)
      rintro H4 _ ⟨b5, rfl, h⟩
      change WP _ _ _ _ _ _ [.int (bI b5)] H4 _
      refine wp_if_eq (tgt := 61) dX12_letters_54 rfl (fun c => ?_) (fun c => ?_)
      · replace h := h.1 (bI_0.mp c)
        refine wp_aload_n 0 dX12_letters_61 rfl ?_
        obtain ⟨ht6, h⟩ := h
        refine wp_getI (ci := 12) (j := 24) dX12_letters_62 fi_X12_174r rfl rfl ht6 ?_
        change WP _ _ _ _ _ _ (.int (hI H4 1324 a0 0) :: _) _ _
        refine wp_iload_n 1 dX12_letters_65 rfl ?_
        refine wp_isub dX12_letters_66 ?_
        exact wp_ireturn (ty := .int) dX12_letters_67 rfl rfl ⟨_, rfl, h⟩
      · replace h := h.2 (bI_1.mp c)
        refine wp_aload_n 0 dX12_letters_57 rfl ?_
        obtain ⟨ht8, h⟩ := h
        refine wp_callV (ci := 12) (As := []) (rest := []) (mc := 0) (ms := 0) dX12_letters_58 lk_X12_192 rfl rfl (by decide) rfl rfl rfl ht8 rfl rfl rfl w_6_212 (Call.weaken h ?_)
        rintro H7 _ ⟨rfl, h⟩
        change WP _ _ _ _ _ _ [] H7 _
        refine wp_aload_n 0 dX12_letters_61 rfl ?_
        obtain ⟨ht9, h⟩ := h
        refine wp_getI (ci := 12) (j := 24) dX12_letters_62 fi_X12_174r rfl rfl ht9 ?_
        change WP _ _ _ _ _ _ (.int (hI H7 1324 a0 0) :: _) _ _
        refine wp_iload_n 1 dX12_letters_65 rfl ?_
        refine wp_isub dX12_letters_66 ?_
        exact wp_ireturn (ty := .int) dX12_letters_67 rfl rfl ⟨_, rfl, h⟩
  · replace h := h.2 c
    refine wp_aload_n 0 dX12_letters_12 rfl ?_
    refine wp_callV (ci := 12) (As := []) (rest := []) (mc := 0) (ms := 0) dX12_letters_13 lk_X12_195 rfl rfl (by decide) rfl rfl rfl ht1 rfl rfl rfl w_6_202 (Call.weaken h ?_)
    rintro H10 _ ⟨b11, rfl, h⟩
    change WP _ _ _ _ _ _ [.int (bI b11)] H10 _
    refine wp_if_eq (tgt := 42) dX12_letters_16 rfl (fun c => ?_) (fun c => ?_)
    · replace h := h.1 (bI_0.mp c)
      refine wp_aload_n 0 dX12_letters_42 rfl ?_
      obtain ⟨ht12, h⟩ := h
      refine wp_getI (ci := 12) (j := 24) dX12_letters_43 fi_X12_174r rfl rfl ht12 ?_
      change WP _ _ _ _ _ _ (.int (hI H10 1324 a0 0) :: _) _ _
      refine wp_iload_n 1 dX12_letters_46 rfl ?_
      refine wp_icmp_eq (tgt := 57) dX12_letters_47 rfl (fun c => ?_) (fun c => ?_)
      · replace h := h.1 c
        refine wp_aload_n 0 dX12_letters_57 rfl ?_
        refine wp_callV (ci := 12) (As := []) (rest := []) (mc := 0) (ms := 0) dX12_letters_58 lk_X12_192 rfl rfl (by decide) rfl rfl rfl ht12 rfl rfl rfl w_6_212 (Call.weaken h ?_)
        rintro H13 _ ⟨rfl, h⟩
        change WP _ _ _ _ _ _ [] H13 _
        refine wp_aload_n 0 dX12_letters_61 rfl ?_
        obtain ⟨ht14, h⟩ := h
        refine wp_getI (ci := 12) (j := 24) dX12_letters_62 fi_X12_174r rfl rfl ht14 ?_
        change WP _ _ _ _ _ _ (.int (hI H13 1324 a0 0) :: _) _ _
        refine wp_iload_n 1 dX12_letters_65 rfl ?_
        refine wp_isub dX12_letters_66 ?_
        exact wp_ireturn (ty := .int) dX12_letters_67 rfl rfl ⟨_, rfl, h⟩
      · replace h := h.2 c
        refine wp_aload_n 0 dX12_letters_50 rfl ?_
        refine wp_callV (ci := 12) (As := []) (rest := []) (mc := 0) (ms := 0) dX12_letters_51 lk_X12_195 rfl rfl (by decide) rfl rfl rfl ht12 rfl rfl rfl w_6_202 (Call.weaken h ?_)
        rintro H15 _ ⟨b16, rfl, h⟩
        change WP _ _ _ _ _ _ [.int (bI b16)] H15 _
        refine wp_if_eq (tgt := 61) dX12_letters_54 rfl (fun c => ?_) (fun c => ?_)
        · replace h := h.1 (bI_0.mp c)
          refine wp_aload_n 0 dX12_letters_61 rfl ?_
          obtain ⟨ht17, h⟩ := h
          refine wp_getI (ci := 12) (j := 24) dX12_letters_62 fi_X12_174r rfl rfl ht17 ?_
          change WP _ _ _ _ _ _ (.int (hI H15 1324 a0 0) :: _) _ _
          refine wp_iload_n 1 dX12_letters_65 rfl ?_
          refine wp_isub dX12_letters_66 ?_
          exact wp_ireturn (ty := .int) dX12_letters_67 rfl rfl ⟨_, rfl, h⟩
        · replace h := h.2 (bI_1.mp c)
          refine wp_aload_n 0 dX12_letters_57 rfl ?_
          obtain ⟨ht19, h⟩ := h
          refine wp_callV (ci := 12) (As := []) (rest := []) (mc := 0) (ms := 0) dX12_letters_58 lk_X12_192 rfl rfl (by decide) rfl rfl rfl ht19 rfl rfl rfl w_6_212 (Call.weaken h ?_)
          rintro H18 _ ⟨rfl, h⟩
          change WP _ _ _ _ _ _ [] H18 _
          refine wp_aload_n 0 dX12_letters_61 rfl ?_
          obtain ⟨ht20, h⟩ := h
          refine wp_getI (ci := 12) (j := 24) dX12_letters_62 fi_X12_174r rfl rfl ht20 ?_
          change WP _ _ _ _ _ _ (.int (hI H18 1324 a0 0) :: _) _ _
          refine wp_iload_n 1 dX12_letters_65 rfl ?_
          refine wp_isub dX12_letters_66 ?_
          exact wp_ireturn (ty := .int) dX12_letters_67 rfl rfl ⟨_, rfl, h⟩
    · replace h := h.2 (bI_1.mp c)
      refine wp_aload_n 0 dX12_letters_19 rfl ?_
      obtain ⟨ht21, h⟩ := h
      refine wp_getI (ci := 12) (j := 24) dX12_letters_20 fi_X12_174r rfl rfl ht21 ?_
      change WP _ _ _ _ _ _ (.int (hI H10 1324 a0 0) :: _) _ _
      refine wp_iload_n 1 dX12_letters_23 rfl ?_
      refine wp_iconst (v := (4 : Int32)) dX12_letters_24 (by decide) ?_
      refine wp_iadd dX12_letters_25 ?_
      refine wp_icmp_ge (tgt := 42) dX12_letters_26 rfl (fun c => ?_) (fun c => ?_)
      · replace h := h.1 c
        refine wp_aload_n 0 dX12_letters_42 rfl ?_
        refine wp_getI (ci := 12) (j := 24) dX12_letters_43 fi_X12_174r rfl rfl ht21 ?_
        change WP _ _ _ _ _ _ (.int (hI H10 1324 a0 0) :: _) _ _
        refine wp_iload_n 1 dX12_letters_46 rfl ?_
        refine wp_icmp_eq (tgt := 57) dX12_letters_47 rfl (fun c => ?_) (fun c => ?_)
        · replace h := h.1 c
          refine wp_aload_n 0 dX12_letters_57 rfl ?_
          refine wp_callV (ci := 12) (As := []) (rest := []) (mc := 0) (ms := 0) dX12_letters_58 lk_X12_192 rfl rfl (by decide) rfl rfl rfl ht21 rfl rfl rfl w_6_212 (Call.weaken h ?_)
          rintro H22 _ ⟨rfl, h⟩
          change WP _ _ _ _ _ _ [] H22 _
          refine wp_aload_n 0 dX12_letters_61 rfl ?_
          obtain ⟨ht23, h⟩ := h
          refine wp_getI (ci := 12) (j := 24) dX12_letters_62 fi_X12_174r rfl rfl ht23 ?_
          change WP _ _ _ _ _ _ (.int (hI H22 1324 a0 0) :: _) _ _
          refine wp_iload_n 1 dX12_letters_65 rfl ?_
          refine wp_isub dX12_letters_66 ?_
          exact wp_ireturn (ty := .int) dX12_letters_67 rfl rfl ⟨_, rfl, h⟩
        · replace h := h.2 c
          refine wp_aload_n 0 dX12_letters_50 rfl ?_
          refine wp_callV (ci := 12) (As := []) (rest := []) (mc := 0) (ms := 0) dX12_letters_51 lk_X12_195 rfl rfl (by decide) rfl rfl rfl ht21 rfl rfl rfl w_6_202 (Call.weaken h ?_)
          rintro H24 _ ⟨b25, rfl, h⟩
          change WP _ _ _ _ _ _ [.int (bI b25)] H24 _
          refine wp_if_eq (tgt := 61) dX12_letters_54 rfl (fun c => ?_) (fun c => ?_)
          · replace h := h.1 (bI_0.mp c)
            refine wp_aload_n 0 dX12_letters_61 rfl ?_
            obtain ⟨ht26, h⟩ := h
            refine wp_getI (ci := 12) (j := 24) dX12_letters_62 fi_X12_174r rfl rfl ht26 ?_
            change WP _ _ _ _ _ _ (.int (hI H24 1324 a0 0) :: _) _ _
            refine wp_iload_n 1 dX12_letters_65 rfl ?_
            refine wp_isub dX12_letters_66 ?_
            exact wp_ireturn (ty := .int) dX12_letters_67 rfl rfl ⟨_, rfl, h⟩
          · replace h := h.2 (bI_1.mp c)
            refine wp_aload_n 0 dX12_letters_57 rfl ?_
            obtain ⟨ht28, h⟩ := h
            refine wp_callV (ci := 12) (As := []) (rest := []) (mc := 0) (ms := 0) dX12_letters_58 lk_X12_192 rfl rfl (by decide) rfl rfl rfl ht28 rfl rfl rfl w_6_212 (Call.weaken h ?_)
            rintro H27 _ ⟨rfl, h⟩
            change WP _ _ _ _ _ _ [] H27 _
            refine wp_aload_n 0 dX12_letters_61 rfl ?_
            obtain ⟨ht29, h⟩ := h
            refine wp_getI (ci := 12) (j := 24) dX12_letters_62 fi_X12_174r rfl rfl ht29 ?_
            change WP _ _ _ _ _ _ (.int (hI H27 1324 a0 0) :: _) _ _
            refine wp_iload_n 1 dX12_letters_65 rfl ?_
            refine wp_isub dX12_letters_66 ?_
            exact wp_ireturn (ty := .int) dX12_letters_67 rfl rfl ⟨_, rfl, h⟩
      · replace h := h.2 c
        refine wp_aload_n 0 dX12_letters_29 rfl ?_
        refine wp_dup dX12_letters_30 (rv_cat _) ?_
        refine wp_getI (ci := 12) (j := 24) dX12_letters_31 fi_X12_174r rfl rfl ht21 ?_
        change WP _ _ _ _ _ _ (.int (hI H10 1324 a0 0) :: _) _ _
        refine wp_iconst (v := (1 : Int32)) dX12_letters_34 (by decide) ?_
        refine wp_iadd dX12_letters_35 ?_
        refine wp_putI (ci := 12) (j := 24) dX12_letters_36 fi_X12_174 rfl (fun z => by cases z) rfl ht21 rfl rfl ?_
        change WP _ _ _ _ _ _ _ (sI H10 1324 a0 0 ((hI H10 1324 a0 0) + (1 : Int32))) _
        refine wp_goto (tgt := 5) dX12_letters_39 rfl ?_
        exact h
theorem C_X12_letters {d : Nat} {q : HP → Int32 → Prop} {a0 : Nat} {H : HP} (h : wb_X12_letters_0 d q a0 H) : CI (d + 1) 0 0 mX12_letters [rv (some a0)] H q := by
  refine call_of (by decide +kernel) (by simp [lg_sl, rv_cat, vc_int, vc_long, vc_float, vc_double]) ?_
  have e : lv_args 0 [rv (some a0)] = [(0, rv (some a0))] := by simp [lv_args, rv_cat, vc_int, vc_long, vc_float, vc_double]
  rw [e]
  exact T_X12_letters_0 h
/-- UnitProverModel.lettersOf(I)I: the loop at 2 -/
def L_X12_lettersOf_2 (d : Nat) (q : HP → Int32 → Prop) (a0 : Nat) (x1 : Int32) (x2 : Int32) (H : HP) : Prop := WP (d + 1) mX12_lettersOf 0 0 2 [(0, rv (some a0)), (1, .int x1), (2, .int x2)] [] H (qI q)
def wb_X12_lettersOf_0 (d : Nat) (q : HP → Int32 → Prop) (a0 : Nat) (x1 : Int32) (H : HP) : Prop :=
  L_X12_lettersOf_2 d q a0 x1 (0 : Int32) H
set_option maxRecDepth 40000 in
set_option maxHeartbeats 4000000 in
theorem T_X12_lettersOf_0 {d : Nat} {q : HP → Int32 → Prop} {a0 : Nat} {x1 : Int32} {H : HP} (h : wb_X12_lettersOf_0 d q a0 x1 H) : WP (d + 1) mX12_lettersOf 0 0 0 [(0, rv (some a0)), (1, .int x1)] [] H (qI q) := by
  unfold wb_X12_lettersOf_0 at h
  refine wp_iconst (v := (0 : Int32)) dX12_lettersOf_0 (by decide) ?_
  refine wp_istore_n (ls' := [(2, .int (0 : Int32)), (0, rv (some a0)), (1, .int x1)]) dX12_lettersOf_1 (by decide) rfl ?_
  refine wp_sub (ls' := [(0, rv (some a0)), (1, .int x1), (2, .int (0 : Int32))]) [1, 2, 0] rfl ?_
  exact h
def wb_X12_lettersOf_2 (d : Nat) (q : HP → Int32 → Prop) (a0 : Nat) (x1 : Int32) (x2 : Int32) (H : HP) : Prop :=
  ((4 : Int32) ≤ x2 → q H x2) ∧ (¬ ((4 : Int32) ≤ x2) → tg H a0 = 13 ∧ (∃ a2, (hC H 1301 a0) = some a2 ∧ (isA H a2 0 ∧ (vp_in (((4 : Int32) * x1) + x2) (ln H a2) ∧ (((hI H (tg H a2) a2 (((4 : Int32) * x1) + x2).toNatClampNeg) = 0 → q H x2) ∧ (¬ ((hI H (tg H a2) a2 (((4 : Int32) * x1) + x2).toNatClampNeg) = 0) → L_X12_lettersOf_2 d q a0 x1 (x2 + 1) H))))))
set_option maxRecDepth 40000 in
set_option maxHeartbeats 4000000 in
theorem T_X12_lettersOf_2 {d : Nat} {q : HP → Int32 → Prop} {a0 : Nat} {x1 : Int32} {x2 : Int32} {H : HP} (h : wb_X12_lettersOf_2 d q a0 x1 x2 H) : L_X12_lettersOf_2 d q a0 x1 x2 H := by
  unfold wb_X12_lettersOf_2 at h
  unfold L_X12_lettersOf_2
  refine wp_iload_n 2 dX12_lettersOf_2 rfl ?_
  refine wp_iconst (v := (4 : Int32)) dX12_lettersOf_3 (by decide) ?_
  refine wp_icmp_ge (tgt := 26) dX12_lettersOf_4 rfl (fun c => ?_) (fun c => ?_)
  · replace h := h.1 c
    refine wp_iload_n 2 dX12_lettersOf_26 rfl ?_
    exact wp_ireturn (ty := .int) dX12_lettersOf_27 rfl rfl ⟨_, rfl, h⟩
  · replace h := h.2 c
    refine wp_aload_n 0 dX12_lettersOf_7 rfl ?_
    obtain ⟨ht1, h⟩ := h
    refine wp_getC (ci := 12) (j := 1) dX12_lettersOf_8 fi_X12_15r rfl rfl ht1 ?_
    change WP _ _ _ _ _ _ (rv (hC H 1301 a0) :: _) _ _
    refine wp_iconst (v := (4 : Int32)) dX12_lettersOf_11 (by decide) ?_
    refine wp_iload_n 1 dX12_lettersOf_12 rfl ?_
    refine wp_imul dX12_lettersOf_13 ?_
    refine wp_iload_n 2 dX12_lettersOf_14 rfl ?_
    refine wp_iadd dX12_lettersOf_15 ?_
    obtain ⟨a2, ha2, h⟩ := h
    obtain ⟨hr3, h⟩ := h
    obtain ⟨hg4, h⟩ := h
    refine wp_iaload dX12_lettersOf_16 ha2 hr3 hg4 ?_
    refine wp_if_eq (tgt := 26) dX12_lettersOf_17 rfl (fun c => ?_) (fun c => ?_)
    · replace h := h.1 c
      refine wp_iload_n 2 dX12_lettersOf_26 rfl ?_
      exact wp_ireturn (ty := .int) dX12_lettersOf_27 rfl rfl ⟨_, rfl, h⟩
    · replace h := h.2 c
      refine wp_iinc (v := (x2 + 1)) (ls' := [(2, .int (x2 + 1)), (0, rv (some a0)), (1, .int x1)]) 2 dX12_lettersOf_20 rfl rfl (by decide) rfl ?_
      refine wp_goto (tgt := 2) dX12_lettersOf_23 rfl ?_
      refine wp_sub (ls' := [(0, rv (some a0)), (1, .int x1), (2, .int (x2 + 1))]) [1, 2, 0] rfl ?_
      exact h
theorem C_X12_lettersOf {d : Nat} {q : HP → Int32 → Prop} {a0 : Nat} {x1 : Int32} {H : HP} (h : wb_X12_lettersOf_0 d q a0 x1 H) : CI (d + 1) 0 0 mX12_lettersOf [rv (some a0), .int x1] H q := by
  refine call_of (by decide +kernel) (by simp [lg_sl, rv_cat, vc_int, vc_long, vc_float, vc_double]) ?_
  have e : lv_args 0 [rv (some a0), .int x1] = [(0, rv (some a0)), (1, .int x1)] := by simp [lv_args, rv_cat, vc_int, vc_long, vc_float, vc_double]
  rw [e]
  exact T_X12_lettersOf_0 h
/-- UnitProverModel.mayPart(II)Z: the loop at 2 -/
def L_X12_mayPart_2 (d : Nat) (q : HP → Bool → Prop) (a0 : Nat) (x1 : Int32) (x2 : Int32) (x3 : Int32) (H : HP) : Prop := WP (d + 1) mX12_mayPart 0 0 2 [(0, rv (some a0)), (1, .int x1), (2, .int x2), (3, .int x3)] [] H (qZ q)
def wb_X12_mayPart_0 (d : Nat) (q : HP → Bool → Prop) (a0 : Nat) (x1 : Int32) (x2 : Int32) (H : HP) : Prop :=
  L_X12_mayPart_2 d q a0 x1 x2 (0 : Int32) H
set_option maxRecDepth 40000 in
set_option maxHeartbeats 4000000 in
theorem T_X12_mayPart_0 {d : Nat} {q : HP → Bool → Prop} {a0 : Nat} {x1 : Int32} {x2 : Int32} {H : HP} (h : wb_X12_mayPart_0 d q a0 x1 x2 H) : WP (d + 1) mX12_mayPart 0 0 0 [(0, rv (some a0)), (1, .int x1), (2, .int x2)] [] H (qZ q) := by
  unfold wb_X12_mayPart_0 at h
  refine wp_iconst (v := (0 : Int32)) dX12_mayPart_0 (by decide) ?_
  refine wp_istore_n (ls' := [(3, .int (0 : Int32)), (0, rv (some a0)), (1, .int x1), (2, .int x2)]) dX12_mayPart_1 (by decide) rfl ?_
  refine wp_sub (ls' := [(0, rv (some a0)), (1, .int x1), (2, .int x2), (3, .int (0 : Int32))]) [1, 2, 3, 0] rfl ?_
  exact h
def wb_X12_mayPart_2 (d : Nat) (q : HP → Bool → Prop) (a0 : Nat) (x1 : Int32) (x2 : Int32) (x3 : Int32) (H : HP) : Prop :=
  (x2 ≤ x3 → q H true) ∧ (¬ (x2 ≤ x3) → tg H a0 = 13 ∧ (∃ a2, (hC H 1353 a0) = some a2 ∧ (isA H a2 0 ∧ (vp_in x3 (ln H a2) ∧ (CZ d 0 0 mX12_isUnit [rv (some a0), .int (hI H (tg H a2) a2 x3.toNatClampNeg)] H (fun H5 b6 => (b6 = false → q H5 false) ∧ (b6 = true → tg H5 a0 = 13 ∧ (∃ a8, (hC H5 1353 a0) = some a8 ∧ (isA H5 a8 0 ∧ (vp_in x3 (ln H5 a8) ∧ (CZ d 0 0 mX12_isOf [rv (some a0), .int (hI H5 (tg H5 a8) a8 x3.toNatClampNeg), .int x1] H5 (fun H11 b12 => (b12 = false → q H11 false) ∧ (b12 = true → tg H11 a0 = 13 ∧ (∃ a14, (hC H11 1353 a0) = some a14 ∧ (isA H11 a14 0 ∧ (vp_in x3 (ln H11 a14) ∧ (CZ d 0 0 mX12_hasOffset [rv (some a0), .int (hI H11 (tg H11 a14) a14 x3.toNatClampNeg)] H11 (fun H17 b18 => (b18 = true → q H17 false) ∧ (b18 = false → (x3 ≤ 0 → L_X12_mayPart_2 d q a0 x1 x2 (x3 + 1) H17) ∧ (¬ (x3 ≤ 0) → tg H17 a0 = 13 ∧ (∃ a20, (hC H17 1353 a0) = some a20 ∧ (isA H17 a20 0 ∧ (vp_in x3 (ln H17 a20) ∧ (vp_in (x3 - (1 : Int32)) (ln H17 a20) ∧ (CZ d 0 0 mX12_isLesser [rv (some a0), .int (hI H17 (tg H17 a20) a20 x3.toNatClampNeg), .int (hI H17 (tg H17 a20) a20 (x3 - (1 : Int32)).toNatClampNeg)] H17 (fun H24 b25 => (b25 = true → L_X12_mayPart_2 d q a0 x1 x2 (x3 + 1) H24) ∧ (b25 = false → q H24 false)))))))))))))))))))))))))))
set_option maxRecDepth 40000 in
set_option maxHeartbeats 4000000 in
theorem T_X12_mayPart_2 {d : Nat} {q : HP → Bool → Prop} {a0 : Nat} {x1 : Int32} {x2 : Int32} {x3 : Int32} {H : HP} (h : wb_X12_mayPart_2 d q a0 x1 x2 x3 H) : L_X12_mayPart_2 d q a0 x1 x2 x3 H := by
  unfold wb_X12_mayPart_2 at h
  unfold L_X12_mayPart_2
  refine wp_iload_n 3 dX12_mayPart_2 rfl ?_
  refine wp_iload_n 2 dX12_mayPart_3 rfl ?_
  refine wp_icmp_ge (tgt := 80) dX12_mayPart_4 rfl (fun c => ?_) (fun c => ?_)
  · replace h := h.1 c
    refine wp_iconst (v := (1 : Int32)) dX12_mayPart_80 (by decide) ?_
    exact wp_ireturn (ty := .boolean) dX12_mayPart_81 rfl rfl ⟨true, rfl, h⟩
  · replace h := h.2 c
    refine wp_aload_n 0 dX12_mayPart_7 rfl ?_
    refine wp_aload_n 0 dX12_mayPart_8 rfl ?_
    obtain ⟨ht1, h⟩ := h
    refine wp_getC (ci := 12) (j := 53) dX12_mayPart_9 fi_X12_95r rfl rfl ht1 ?_
    change WP _ _ _ _ _ _ (rv (hC H 1353 a0) :: _) _ _
    refine wp_iload_n 3 dX12_mayPart_12 rfl ?_
    obtain ⟨a2, ha2, h⟩ := h
    obtain ⟨hr3, h⟩ := h
    obtain ⟨hg4, h⟩ := h
    refine wp_iaload dX12_mayPart_13 ha2 hr3 hg4 ?_
    refine wp_callV (ci := 12) (As := [.int (hI H (tg H a2) a2 x3.toNatClampNeg)]) (rest := []) (mc := 0) (ms := 0) dX12_mayPart_14 lk_X12_283 rfl rfl (by decide) rfl rfl rfl ht1 rfl rfl rfl w_7_77 (Call.weaken h ?_)
    rintro H5 _ ⟨b6, rfl, h⟩
    change WP _ _ _ _ _ _ [.int (bI b6)] H5 _
    refine wp_if_eq (tgt := 72) dX12_mayPart_17 rfl (fun c => ?_) (fun c => ?_)
    · replace h := h.1 (bI_0.mp c)
      refine wp_iconst (v := (0 : Int32)) dX12_mayPart_72 (by decide) ?_
      exact wp_ireturn (ty := .boolean) dX12_mayPart_73 rfl rfl ⟨false, rfl, h⟩
    · replace h := h.2 (bI_1.mp c)
      refine wp_aload_n 0 dX12_mayPart_20 rfl ?_
      refine wp_aload_n 0 dX12_mayPart_21 rfl ?_
      obtain ⟨ht7, h⟩ := h
      refine wp_getC (ci := 12) (j := 53) dX12_mayPart_22 fi_X12_95r rfl rfl ht7 ?_
      change WP _ _ _ _ _ _ (rv (hC H5 1353 a0) :: _) _ _
      refine wp_iload_n 3 dX12_mayPart_25 rfl ?_
      obtain ⟨a8, ha8, h⟩ := h
      obtain ⟨hr9, h⟩ := h
      obtain ⟨hg10, h⟩ := h
      refine wp_iaload dX12_mayPart_26 ha8 hr9 hg10 ?_
      refine wp_iload_n 1 dX12_mayPart_27 rfl ?_
      refine wp_callV (ci := 12) (As := [.int (hI H5 (tg H5 a8) a8 x3.toNatClampNeg), .int x1]) (rest := []) (mc := 0) (ms := 0) dX12_mayPart_28 lk_X12_419 rfl rfl (by decide) rfl rfl rfl ht7 rfl rfl rfl w_8_1 (Call.weaken h ?_)
      rintro H11 _ ⟨b12, rfl, h⟩
      change WP _ _ _ _ _ _ [.int (bI b12)] H11 _
      refine wp_if_eq (tgt := 72) dX12_mayPart_31 rfl (fun c => ?_) (fun c => ?_)
      · replace h := h.1 (bI_0.mp c)
        refine wp_iconst (v := (0 : Int32)) dX12_mayPart_72 (by decide) ?_
        exact wp_ireturn (ty := .boolean) dX12_mayPart_73 rfl rfl ⟨false, rfl, h⟩
      · replace h := h.2 (bI_1.mp c)
        refine wp_aload_n 0 dX12_mayPart_34 rfl ?_
        refine wp_aload_n 0 dX12_mayPart_35 rfl ?_
        obtain ⟨ht13, h⟩ := h
        refine wp_getC (ci := 12) (j := 53) dX12_mayPart_36 fi_X12_95r rfl rfl ht13 ?_
        change WP _ _ _ _ _ _ (rv (hC H11 1353 a0) :: _) _ _
        refine wp_iload_n 3 dX12_mayPart_39 rfl ?_
        obtain ⟨a14, ha14, h⟩ := h
        obtain ⟨hr15, h⟩ := h
        obtain ⟨hg16, h⟩ := h
        refine wp_iaload dX12_mayPart_40 ha14 hr15 hg16 ?_
        refine wp_callV (ci := 12) (As := [.int (hI H11 (tg H11 a14) a14 x3.toNatClampNeg)]) (rest := []) (mc := 0) (ms := 0) dX12_mayPart_41 lk_X12_247 rfl rfl (by decide) rfl rfl rfl ht13 rfl rfl rfl w_7_16 (Call.weaken h ?_)
        rintro H17 _ ⟨b18, rfl, h⟩
        change WP _ _ _ _ _ _ [.int (bI b18)] H17 _
        refine wp_if_ne (tgt := 72) dX12_mayPart_44 rfl (fun c => ?_) (fun c => ?_)
        · replace h := h.1 (bI_1.mp c)
          refine wp_iconst (v := (0 : Int32)) dX12_mayPart_72 (by decide) ?_
          exact wp_ireturn (ty := .boolean) dX12_mayPart_73 rfl rfl ⟨false, rfl, h⟩
        · replace h := h.2 (bI_0.mp c)
          refine wp_iload_n 3 dX12_mayPart_47 rfl ?_
          refine wp_if_le (tgt := 74) dX12_mayPart_48 rfl (fun c => ?_) (fun c => ?_)
          · replace h := h.1 c
            refine wp_iinc (v := (x3 + 1)) (ls' := [(3, .int (x3 + 1)), (0, rv (some a0)), (1, .int x1), (2, .int x2)]) 3 dX12_mayPart_74 rfl rfl (by decide) rfl ?_
            refine wp_goto (tgt := 2) dX12_mayPart_77 rfl ?_
            refine wp_sub (ls' := [(0, rv (some a0)), (1, .int x1), (2, .int x2), (3, .int (x3 + 1))]) [1, 2, 3, 0] rfl ?_
            exact h
          · replace h := h.2 c
            refine wp_aload_n 0 dX12_mayPart_51 rfl ?_
            refine wp_aload_n 0 dX12_mayPart_52 rfl ?_
            obtain ⟨ht19, h⟩ := h
            refine wp_getC (ci := 12) (j := 53) dX12_mayPart_53 fi_X12_95r rfl rfl ht19 ?_
            change WP _ _ _ _ _ _ (rv (hC H17 1353 a0) :: _) _ _
            refine wp_iload_n 3 dX12_mayPart_56 rfl ?_
            obtain ⟨a20, ha20, h⟩ := h
            obtain ⟨hr21, h⟩ := h
            obtain ⟨hg22, h⟩ := h
            refine wp_iaload dX12_mayPart_57 ha20 hr21 hg22 ?_
            refine wp_aload_n 0 dX12_mayPart_58 rfl ?_
            refine wp_getC (ci := 12) (j := 53) dX12_mayPart_59 fi_X12_95r rfl rfl ht19 ?_
            change WP _ _ _ _ _ _ (rv (hC H17 1353 a0) :: _) _ _
            refine wp_iload_n 3 dX12_mayPart_62 rfl ?_
            refine wp_iconst (v := (1 : Int32)) dX12_mayPart_63 (by decide) ?_
            refine wp_isub dX12_mayPart_64 ?_
            obtain ⟨hg23, h⟩ := h
            refine wp_iaload dX12_mayPart_65 ha20 hr21 hg23 ?_
            refine wp_callV (ci := 12) (As := [.int (hI H17 (tg H17 a20) a20 x3.toNatClampNeg), .int (hI H17 (tg H17 a20) a20 (x3 - (1 : Int32)).toNatClampNeg)]) (rest := []) (mc := 0) (ms := 0) dX12_mayPart_66 lk_X12_309 rfl rfl (by decide) rfl rfl rfl ht19 rfl rfl rfl w_7_116 (Call.weaken h ?_)
            rintro H24 _ ⟨b25, rfl, h⟩
            change WP _ _ _ _ _ _ [.int (bI b25)] H24 _
            refine wp_if_ne (tgt := 74) dX12_mayPart_69 rfl (fun c => ?_) (fun c => ?_)
            · replace h := h.1 (bI_1.mp c)
              refine wp_iinc (v := (x3 + 1)) (ls' := [(3, .int (x3 + 1)), (0, rv (some a0)), (1, .int x1), (2, .int x2)]) 3 dX12_mayPart_74 rfl rfl (by decide) rfl ?_
              refine wp_goto (tgt := 2) dX12_mayPart_77 rfl ?_
              refine wp_sub (ls' := [(0, rv (some a0)), (1, .int x1), (2, .int x2), (3, .int (x3 + 1))]) [1, 2, 3, 0] rfl ?_
              exact h
            · replace h := h.2 (bI_0.mp c)
              refine wp_iconst (v := (0 : Int32)) dX12_mayPart_72 (by decide) ?_
              exact wp_ireturn (ty := .boolean) dX12_mayPart_73 rfl rfl ⟨false, rfl, h⟩
theorem C_X12_mayPart {d : Nat} {q : HP → Bool → Prop} {a0 : Nat} {x1 : Int32} {x2 : Int32} {H : HP} (h : wb_X12_mayPart_0 d q a0 x1 x2 H) : CZ (d + 1) 0 0 mX12_mayPart [rv (some a0), .int x1, .int x2] H q := by
  refine call_of (by decide +kernel) (by simp [lg_sl, rv_cat, vc_int, vc_long, vc_float, vc_double]) ?_
  have e : lv_args 0 [rv (some a0), .int x1, .int x2] = [(0, rv (some a0)), (1, .int x1), (2, .int x2)] := by simp [lv_args, rv_cat, vc_int, vc_long, vc_float, vc_double]
  rw [e]
  exact T_X12_mayPart_0 h
/-- UnitProverModel.measured(JII)I: the loop at 70 -/
def L_X12_measured_70 (d : Nat) (q : HP → Int32 → Prop) (a0 : Nat) (x3 : Int32) (x4 : Int32) (x5 : Int32) (H : HP) : Prop := WP (d + 1) mX12_measured 0 0 70 [(0, rv (some a0)), (3, .int x3), (4, .int x4), (5, .int x5)] [] H (qI q)
def wb_X12_measured_0 (d : Nat) (q : HP → Int32 → Prop) (a0 : Nat) (x1 : Int64) (x3 : Int32) (x4 : Int32) (H : HP) : Prop :=
  tg H a0 = 13 ∧ (CV d 0 0 mX12_clears [rv (some a0)] H (fun H1 => (0 ≤ x3 → (x4 ≤ (1 : Int32) → tg H1 a0 = 13 ∧ (CV d 0 0 mX12_sums [rv (some a0), .int x3, .int x4] H1 (fun H3 => tg H3 a0 = 13 ∧ (CZ d 0 0 mX12_isWide [rv (some a0), .int (18 : Int32)] H3 (fun H5 b7 => (b7 = false → tg H5 a0 = 13 ∧ (CV d 0 0 mX12_becomes [rv (some a0), .long x1, .long (1000 : Int64)] H5 (fun H8 => L_X12_measured_70 d q a0 x3 x4 (0 : Int32) H8))) ∧ (b7 = true → tg H5 a0 = 13 ∧ (CI d 0 0 mX12_ends [rv (some a0), .int (-12 : Int32)] H5 (fun H10 r12 => q H10 r12)))))))) ∧ (¬ (x4 ≤ (1 : Int32)) → tg H1 a0 = 13 ∧ (CZ d 0 0 mX12_hasOffset [rv (some a0), .int x3] H1 (fun H13 b15 => (b15 = false → tg H13 a0 = 13 ∧ (CV d 0 0 mX12_sums [rv (some a0), .int x3, .int x4] H13 (fun H16 => tg H16 a0 = 13 ∧ (CZ d 0 0 mX12_isWide [rv (some a0), .int (18 : Int32)] H16 (fun H18 b20 => (b20 = false → tg H18 a0 = 13 ∧ (CV d 0 0 mX12_becomes [rv (some a0), .long x1, .long (1000 : Int64)] H18 (fun H21 => L_X12_measured_70 d q a0 x3 x4 (0 : Int32) H21))) ∧ (b20 = true → tg H18 a0 = 13 ∧ (CI d 0 0 mX12_ends [rv (some a0), .int (-12 : Int32)] H18 (fun H23 r25 => q H23 r25)))))))) ∧ (b15 = true → tg H13 a0 = 13 ∧ (CI d 0 0 mX12_ends [rv (some a0), .int (-10 : Int32)] H13 (fun H26 r28 => q H26 r28))))))) ∧ (¬ (0 ≤ x3) → tg H1 a0 = 13 ∧ (CI d 0 0 mX12_ends [rv (some a0), .int (-8 : Int32)] H1 (fun H29 r31 => q H29 r31)))))
set_option maxRecDepth 40000 in
set_option maxHeartbeats 4000000 in
theorem T_X12_measured_0 {d : Nat} {q : HP → Int32 → Prop} {a0 : Nat} {x1 : Int64} {x3 : Int32} {x4 : Int32} {H : HP} (h : wb_X12_measured_0 d q a0 x1 x3 x4 H) : WP (d + 1) mX12_measured 0 0 0 [(0, rv (some a0)), (1, .long x1), (3, .int x3), (4, .int x4)] [] H (qI q) := by
  unfold wb_X12_measured_0 at h
  refine wp_aload_n 0 dX12_measured_0 rfl ?_
  obtain ⟨ht2, h⟩ := h
  refine wp_callV (ci := 12) (As := []) (rest := []) (mc := 0) (ms := 0) dX12_measured_1 lk_X12_323 rfl rfl (by decide) rfl rfl rfl ht2 rfl rfl rfl w_7_157 (Call.weaken h ?_)
  rintro H1 _ ⟨rfl, h⟩
  change WP _ _ _ _ _ _ [] H1 _
  refine wp_iload_n 2 dX12_measured_4 rfl ?_
  refine wp_if_ge (tgt := 15) dX12_measured_5 rfl (fun c => ?_) (fun c => ?_)
  · replace h := h.1 c
    refine wp_iload 3 dX12_measured_15 rfl ?_
    refine wp_iconst (v := (1 : Int32)) dX12_measured_17 (by decide) ?_
    refine wp_icmp_le (tgt := 36) dX12_measured_18 rfl (fun c => ?_) (fun c => ?_)
    · replace h := h.1 c
      refine wp_aload_n 0 dX12_measured_36 rfl ?_
      refine wp_iload_n 2 dX12_measured_37 rfl ?_
      refine wp_iload 3 dX12_measured_38 rfl ?_
      obtain ⟨ht4, h⟩ := h
      refine wp_callV (ci := 12) (As := [.int x3, .int x4]) (rest := []) (mc := 0) (ms := 0) dX12_measured_40 lk_X12_256 rfl rfl (by decide) rfl rfl rfl ht4 rfl rfl rfl w_7_24 (Call.weaken h ?_)
      rintro H3 _ ⟨rfl, h⟩
      change WP _ _ _ _ _ _ [] H3 _
      refine wp_aload_n 0 dX12_measured_43 rfl ?_
      refine wp_bipush (v := (18 : Int32)) dX12_measured_44 (by decide) ?_
      obtain ⟨ht6, h⟩ := h
      refine wp_callV (ci := 12) (As := [.int (18 : Int32)]) (rest := []) (mc := 0) (ms := 0) dX12_measured_46 lk_X12_260 rfl rfl (by decide) rfl rfl rfl ht6 rfl rfl rfl w_7_28 (Call.weaken h ?_)
      rintro H5 _ ⟨b7, rfl, h⟩
      change WP _ _ _ _ _ _ [.int (bI b7)] H5 _
      refine wp_if_eq (tgt := 59) dX12_measured_49 rfl (fun c => ?_) (fun c => ?_)
      · replace h := h.1 (bI_0.mp c)
        refine wp_aload_n 0 dX12_measured_59 rfl ?_
        refine wp_lload_n 1 dX12_measured_60 rfl ?_
        refine wp_ldc2 dX12_measured_61 w_7_148 ?_
        obtain ⟨ht9, h⟩ := h
        refine wp_callV (ci := 12) (As := [.long x1, .long (1000 : Int64)]) (rest := []) (mc := 0) (ms := 0) dX12_measured_64 lk_X12_157 rfl rfl (by decide) rfl rfl rfl ht9 rfl rfl rfl w_7_37 (Call.weaken h ?_)
        rintro H8 _ ⟨rfl, h⟩
        change WP _ _ _ _ _ _ [] H8 _
        refine wp_iconst (v := (0 : Int32)) dX12_measured_67 (by decide) ?_
        refine wp_istore (ls' := [(5, .int (0 : Int32)), (0, rv (some a0)), (1, .long x1), (3, .int x3), (4, .int x4)]) dX12_measured_68 (by decide) rfl ?_
        refine wp_sub (ls' := [(0, rv (some a0)), (3, .int x3), (4, .int x4), (5, .int (0 : Int32))]) [1, 3, 4, 0] rfl ?_
        exact h
      · replace h := h.2 (bI_1.mp c)
        refine wp_aload_n 0 dX12_measured_52 rfl ?_
        refine wp_bipush (v := (-12 : Int32)) dX12_measured_53 (by decide) ?_
        obtain ⟨ht11, h⟩ := h
        refine wp_callV (ci := 12) (As := [.int (-12 : Int32)]) (rest := []) (mc := 0) (ms := 0) dX12_measured_55 lk_X12_326 rfl rfl (by decide) rfl rfl rfl ht11 rfl rfl rfl w_7_177 (Call.weaken h ?_)
        rintro H10 _ ⟨r12, rfl, h⟩
        change WP _ _ _ _ _ _ [.int r12] H10 _
        exact wp_ireturn (ty := .int) dX12_measured_58 rfl rfl ⟨_, rfl, h⟩
    · replace h := h.2 c
      refine wp_aload_n 0 dX12_measured_21 rfl ?_
      refine wp_iload_n 2 dX12_measured_22 rfl ?_
      obtain ⟨ht14, h⟩ := h
      refine wp_callV (ci := 12) (As := [.int x3]) (rest := []) (mc := 0) (ms := 0) dX12_measured_23 lk_X12_247 rfl rfl (by decide) rfl rfl rfl ht14 rfl rfl rfl w_7_16 (Call.weaken h ?_)
      rintro H13 _ ⟨b15, rfl, h⟩
      change WP _ _ _ _ _ _ [.int (bI b15)] H13 _
      refine wp_if_eq (tgt := 36) dX12_measured_26 rfl (fun c => ?_) (fun c => ?_)
      · replace h := h.1 (bI_0.mp c)
        refine wp_aload_n 0 dX12_measured_36 rfl ?_
        refine wp_iload_n 2 dX12_measured_37 rfl ?_
        refine wp_iload 3 dX12_measured_38 rfl ?_
        obtain ⟨ht17, h⟩ := h
        refine wp_callV (ci := 12) (As := [.int x3, .int x4]) (rest := []) (mc := 0) (ms := 0) dX12_measured_40 lk_X12_256 rfl rfl (by decide) rfl rfl rfl ht17 rfl rfl rfl w_7_24 (Call.weaken h ?_)
        rintro H16 _ ⟨rfl, h⟩
        change WP _ _ _ _ _ _ [] H16 _
        refine wp_aload_n 0 dX12_measured_43 rfl ?_
        refine wp_bipush (v := (18 : Int32)) dX12_measured_44 (by decide) ?_
        obtain ⟨ht19, h⟩ := h
        refine wp_callV (ci := 12) (As := [.int (18 : Int32)]) (rest := []) (mc := 0) (ms := 0) dX12_measured_46 lk_X12_260 rfl rfl (by decide) rfl rfl rfl ht19 rfl rfl rfl w_7_28 (Call.weaken h ?_)
        rintro H18 _ ⟨b20, rfl, h⟩
        change WP _ _ _ _ _ _ [.int (bI b20)] H18 _
        refine wp_if_eq (tgt := 59) dX12_measured_49 rfl (fun c => ?_) (fun c => ?_)
        · replace h := h.1 (bI_0.mp c)
          refine wp_aload_n 0 dX12_measured_59 rfl ?_
          refine wp_lload_n 1 dX12_measured_60 rfl ?_
          refine wp_ldc2 dX12_measured_61 w_7_148 ?_
          obtain ⟨ht22, h⟩ := h
          refine wp_callV (ci := 12) (As := [.long x1, .long (1000 : Int64)]) (rest := []) (mc := 0) (ms := 0) dX12_measured_64 lk_X12_157 rfl rfl (by decide) rfl rfl rfl ht22 rfl rfl rfl w_7_37 (Call.weaken h ?_)
          rintro H21 _ ⟨rfl, h⟩
          change WP _ _ _ _ _ _ [] H21 _
          refine wp_iconst (v := (0 : Int32)) dX12_measured_67 (by decide) ?_
          refine wp_istore (ls' := [(5, .int (0 : Int32)), (0, rv (some a0)), (1, .long x1), (3, .int x3), (4, .int x4)]) dX12_measured_68 (by decide) rfl ?_
          refine wp_sub (ls' := [(0, rv (some a0)), (3, .int x3), (4, .int x4), (5, .int (0 : Int32))]) [1, 3, 4, 0] rfl ?_
          exact h
        · replace h := h.2 (bI_1.mp c)
          refine wp_aload_n 0 dX12_measured_52 rfl ?_
          refine wp_bipush (v := (-12 : Int32)) dX12_measured_53 (by decide) ?_
          obtain ⟨ht24, h⟩ := h
          refine wp_callV (ci := 12) (As := [.int (-12 : Int32)]) (rest := []) (mc := 0) (ms := 0) dX12_measured_55 lk_X12_326 rfl rfl (by decide) rfl rfl rfl ht24 rfl rfl rfl w_7_177 (Call.weaken h ?_)
          rintro H23 _ ⟨r25, rfl, h⟩
          change WP _ _ _ _ _ _ [.int r25] H23 _
          exact wp_ireturn (ty := .int) dX12_measured_58 rfl rfl ⟨_, rfl, h⟩
      · replace h := h.2 (bI_1.mp c)
        refine wp_aload_n 0 dX12_measured_29 rfl ?_
        refine wp_bipush (v := (-10 : Int32)) dX12_measured_30 (by decide) ?_
        obtain ⟨ht27, h⟩ := h
        refine wp_callV (ci := 12) (As := [.int (-10 : Int32)]) (rest := []) (mc := 0) (ms := 0) dX12_measured_32 lk_X12_326 rfl rfl (by decide) rfl rfl rfl ht27 rfl rfl rfl w_7_177 (Call.weaken h ?_)
        rintro H26 _ ⟨r28, rfl, h⟩
        change WP _ _ _ _ _ _ [.int r28] H26 _
        exact wp_ireturn (ty := .int) dX12_measured_35 rfl rfl ⟨_, rfl, h⟩
  · replace h := h.2 c
    refine wp_aload_n 0 dX12_measured_8 rfl ?_
    refine wp_bipush (v := (-8 : Int32)) dX12_measured_9 (by decide) ?_
    obtain ⟨ht30, h⟩ := h
    refine wp_callV (ci := 12) (As := [.int (-8 : Int32)]) (rest := []) (mc := 0) (ms := 0) dX12_measured_11 lk_X12_326 rfl rfl (by decide) rfl rfl rfl ht30 rfl rfl rfl w_7_177 (Call.weaken h ?_)
    rintro H29 _ ⟨r31, rfl, h⟩
    change WP _ _ _ _ _ _ [.int r31] H29 _
    exact wp_ireturn (ty := .int) dX12_measured_14 rfl rfl ⟨_, rfl, h⟩
def wb_X12_measured_70 (d : Nat) (q : HP → Int32 → Prop) (a0 : Nat) (x3 : Int32) (x4 : Int32) (x5 : Int32) (H : HP) : Prop :=
  (x4 ≤ x5 → tg H a0 = 13 ∧ ((¬ (hI H 1321 a0 0) = 0 → ((hI H 1321 a0 0) = 0 → CI d 0 0 mX12_stepComes [rv (some a0), .int (0 : Int32)] H (fun H2 r3 => q H2 r3)) ∧ (¬ ((hI H 1321 a0 0) = 0) → CI d 0 0 mX12_ends [rv (some a0), .int (-15 : Int32)] H (fun H4 r5 => q H4 r5))) ∧ ((hI H 1321 a0 0) = 0 → CZ d 0 0 mX12_hasOffset [rv (some a0), .int x3] H (fun H6 b7 => (b7 = false → tg H6 a0 = 13 ∧ (((hI H6 1321 a0 0) = 0 → CI d 0 0 mX12_stepComes [rv (some a0), .int (0 : Int32)] H6 (fun H9 r10 => q H9 r10)) ∧ (¬ ((hI H6 1321 a0 0) = 0) → CI d 0 0 mX12_ends [rv (some a0), .int (-15 : Int32)] H6 (fun H11 r12 => q H11 r12)))) ∧ (b7 = true → tg H6 a0 = 13 ∧ (∃ a14, (hC H6 1305 a0) = some a14 ∧ (isA H6 a14 3 ∧ (vp_in x3 (ln H6 a14) ∧ (∃ a17, (hC H6 1306 a0) = some a17 ∧ (isA H6 a17 3 ∧ (vp_in x3 (ln H6 a17) ∧ (CV d 0 0 mX12_plus [rv (some a0), .long (hL H6 1319 a0 0), .long (hL H6 1320 a0 0), .long (hL H6 (tg H6 a14) a14 x3.toNatClampNeg), .long (hL H6 (tg H6 a17) a17 x3.toNatClampNeg), .int (1 : Int32)] H6 (fun H20 => tg H20 a0 = 13 ∧ (((hI H20 1321 a0 0) = 0 → CI d 0 0 mX12_stepComes [rv (some a0), .int (0 : Int32)] H20 (fun H22 r23 => q H22 r23)) ∧ (¬ ((hI H20 1321 a0 0) = 0) → CI d 0 0 mX12_ends [rv (some a0), .int (-15 : Int32)] H20 (fun H24 r25 => q H24 r25)))))))))))))))) ∧ (¬ (x4 ≤ x5) → tg H a0 = 13 ∧ ((¬ (hI H 1321 a0 0) = 0 → (¬ (hI H 1321 a0 0) = 0 → ((hI H 1321 a0 0) = 0 → CI d 0 0 mX12_stepComes [rv (some a0), .int (0 : Int32)] H (fun H27 r28 => q H27 r28)) ∧ (¬ ((hI H 1321 a0 0) = 0) → CI d 0 0 mX12_ends [rv (some a0), .int (-15 : Int32)] H (fun H29 r30 => q H29 r30))) ∧ ((hI H 1321 a0 0) = 0 → CZ d 0 0 mX12_hasOffset [rv (some a0), .int x3] H (fun H31 b32 => (b32 = false → tg H31 a0 = 13 ∧ (((hI H31 1321 a0 0) = 0 → CI d 0 0 mX12_stepComes [rv (some a0), .int (0 : Int32)] H31 (fun H34 r35 => q H34 r35)) ∧ (¬ ((hI H31 1321 a0 0) = 0) → CI d 0 0 mX12_ends [rv (some a0), .int (-15 : Int32)] H31 (fun H36 r37 => q H36 r37)))) ∧ (b32 = true → tg H31 a0 = 13 ∧ (∃ a39, (hC H31 1305 a0) = some a39 ∧ (isA H31 a39 3 ∧ (vp_in x3 (ln H31 a39) ∧ (∃ a42, (hC H31 1306 a0) = some a42 ∧ (isA H31 a42 3 ∧ (vp_in x3 (ln H31 a42) ∧ (CV d 0 0 mX12_plus [rv (some a0), .long (hL H31 1319 a0 0), .long (hL H31 1320 a0 0), .long (hL H31 (tg H31 a39) a39 x3.toNatClampNeg), .long (hL H31 (tg H31 a42) a42 x3.toNatClampNeg), .int (1 : Int32)] H31 (fun H45 => tg H45 a0 = 13 ∧ (((hI H45 1321 a0 0) = 0 → CI d 0 0 mX12_stepComes [rv (some a0), .int (0 : Int32)] H45 (fun H47 r48 => q H47 r48)) ∧ (¬ ((hI H45 1321 a0 0) = 0) → CI d 0 0 mX12_ends [rv (some a0), .int (-15 : Int32)] H45 (fun H49 r50 => q H49 r50))))))))))))))) ∧ ((hI H 1321 a0 0) = 0 → ∃ a51, (hC H 1303 a0) = some a51 ∧ (isA H a51 3 ∧ (vp_in x3 (ln H a51) ∧ (∃ a54, (hC H 1304 a0) = some a54 ∧ (isA H a54 3 ∧ (vp_in x3 (ln H a54) ∧ (CV d 0 0 mX12_times [rv (some a0), .long (hL H 1319 a0 0), .long (hL H 1320 a0 0), .long (hL H (tg H a51) a51 x3.toNatClampNeg), .long (hL H (tg H a54) a54 x3.toNatClampNeg)] H (fun H57 => L_X12_measured_70 d q a0 x3 x4 (x5 + 1) H57))))))))))
set_option maxRecDepth 40000 in
set_option maxHeartbeats 4000000 in
theorem T_X12_measured_70 {d : Nat} {q : HP → Int32 → Prop} {a0 : Nat} {x3 : Int32} {x4 : Int32} {x5 : Int32} {H : HP} (h : wb_X12_measured_70 d q a0 x3 x4 x5 H) : L_X12_measured_70 d q a0 x3 x4 x5 H := by
  unfold wb_X12_measured_70 at h
  unfold L_X12_measured_70
  refine wp_iload 3 dX12_measured_70 rfl ?_
  refine wp_iload 2 dX12_measured_72 rfl ?_
  refine wp_icmp_ge (tgt := 114) dX12_measured_74 rfl (fun c => ?_) (fun c => ?_)
  · replace h := h.1 c
    refine wp_aload_n 0 dX12_measured_114 rfl ?_
    obtain ⟨ht1, h⟩ := h
    refine wp_getI (ci := 12) (j := 21) dX12_measured_115 fi_X12_133r rfl rfl ht1 ?_
    change WP _ _ _ _ _ _ (.int (hI H 1321 a0 0) :: _) _ _
    refine wp_if_ne (tgt := 154) dX12_measured_118 rfl (fun c => ?_) (fun c => ?_)
    · replace h := h.1 c
      refine wp_aload_n 0 dX12_measured_154 rfl ?_
      refine wp_getI (ci := 12) (j := 21) dX12_measured_155 fi_X12_133r rfl rfl ht1 ?_
      change WP _ _ _ _ _ _ (.int (hI H 1321 a0 0) :: _) _ _
      refine wp_if_eq (tgt := 170) dX12_measured_158 rfl (fun c => ?_) (fun c => ?_)
      · replace h := h.1 c
        refine wp_aload_n 0 dX12_measured_170 rfl ?_
        refine wp_iconst (v := (0 : Int32)) dX12_measured_171 (by decide) ?_
        refine wp_callV (ci := 12) (As := [.int (0 : Int32)]) (rest := []) (mc := 0) (ms := 0) dX12_measured_172 lk_X12_333 rfl rfl (by decide) rfl rfl rfl ht1 rfl rfl rfl w_7_161 (Call.weaken h ?_)
        rintro H2 _ ⟨r3, rfl, h⟩
        change WP _ _ _ _ _ _ [.int r3] H2 _
        exact wp_ireturn (ty := .int) dX12_measured_175 rfl rfl ⟨_, rfl, h⟩
      · replace h := h.2 c
        refine wp_aload_n 0 dX12_measured_161 rfl ?_
        refine wp_bipush (v := (-15 : Int32)) dX12_measured_162 (by decide) ?_
        refine wp_callV (ci := 12) (As := [.int (-15 : Int32)]) (rest := []) (mc := 0) (ms := 0) dX12_measured_164 lk_X12_326 rfl rfl (by decide) rfl rfl rfl ht1 rfl rfl rfl w_7_177 (Call.weaken h ?_)
        rintro H4 _ ⟨r5, rfl, h⟩
        change WP _ _ _ _ _ _ [.int r5] H4 _
        refine wp_goto (tgt := 175) dX12_measured_167 rfl ?_
        exact wp_ireturn (ty := .int) dX12_measured_175 rfl rfl ⟨_, rfl, h⟩
    · replace h := h.2 c
      refine wp_aload_n 0 dX12_measured_121 rfl ?_
      refine wp_iload_n 1 dX12_measured_122 rfl ?_
      refine wp_callV (ci := 12) (As := [.int x3]) (rest := []) (mc := 0) (ms := 0) dX12_measured_123 lk_X12_247 rfl rfl (by decide) rfl rfl rfl ht1 rfl rfl rfl w_7_16 (Call.weaken h ?_)
      rintro H6 _ ⟨b7, rfl, h⟩
      change WP _ _ _ _ _ _ [.int (bI b7)] H6 _
      refine wp_if_eq (tgt := 154) dX12_measured_126 rfl (fun c => ?_) (fun c => ?_)
      · replace h := h.1 (bI_0.mp c)
        refine wp_aload_n 0 dX12_measured_154 rfl ?_
        obtain ⟨ht8, h⟩ := h
        refine wp_getI (ci := 12) (j := 21) dX12_measured_155 fi_X12_133r rfl rfl ht8 ?_
        change WP _ _ _ _ _ _ (.int (hI H6 1321 a0 0) :: _) _ _
        refine wp_if_eq (tgt := 170) dX12_measured_158 rfl (fun c => ?_) (fun c => ?_)
        · replace h := h.1 c
          refine wp_aload_n 0 dX12_measured_170 rfl ?_
          refine wp_iconst (v := (0 : Int32)) dX12_measured_171 (by decide) ?_
          refine wp_callV (ci := 12) (As := [.int (0 : Int32)]) (rest := []) (mc := 0) (ms := 0) dX12_measured_172 lk_X12_333 rfl rfl (by decide) rfl rfl rfl ht8 rfl rfl rfl w_7_161 (Call.weaken h ?_)
          rintro H9 _ ⟨r10, rfl, h⟩
          change WP _ _ _ _ _ _ [.int r10] H9 _
          exact wp_ireturn (ty := .int) dX12_measured_175 rfl rfl ⟨_, rfl, h⟩
        · replace h := h.2 c
          refine wp_aload_n 0 dX12_measured_161 rfl ?_
          refine wp_bipush (v := (-15 : Int32)) dX12_measured_162 (by decide) ?_
          refine wp_callV (ci := 12) (As := [.int (-15 : Int32)]) (rest := []) (mc := 0) (ms := 0) dX12_measured_164 lk_X12_326 rfl rfl (by decide) rfl rfl rfl ht8 rfl rfl rfl w_7_177 (Call.weaken h ?_)
          rintro H11 _ ⟨r12, rfl, h⟩
          change WP _ _ _ _ _ _ [.int r12] H11 _
          refine wp_goto (tgt := 175) dX12_measured_167 rfl ?_
          exact wp_ireturn (ty := .int) dX12_measured_175 rfl rfl ⟨_, rfl, h⟩
      · replace h := h.2 (bI_1.mp c)
        refine wp_aload_n 0 dX12_measured_129 rfl ?_
        refine wp_aload_n 0 dX12_measured_130 rfl ?_
        obtain ⟨ht13, h⟩ := h
        refine wp_getL (ci := 12) (j := 19) dX12_measured_131 fi_X12_143r rfl rfl ht13 ?_
        change WP _ _ _ _ _ _ (.long (hL H6 1319 a0 0) :: _) _ _
        refine wp_aload_n 0 dX12_measured_134 rfl ?_
        refine wp_getL (ci := 12) (j := 20) dX12_measured_135 fi_X12_147r rfl rfl ht13 ?_
        change WP _ _ _ _ _ _ (.long (hL H6 1320 a0 0) :: _) _ _
        refine wp_aload_n 0 dX12_measured_138 rfl ?_
        refine wp_getC (ci := 12) (j := 5) dX12_measured_139 fi_X12_29r rfl rfl ht13 ?_
        change WP _ _ _ _ _ _ (rv (hC H6 1305 a0) :: _) _ _
        refine wp_iload_n 1 dX12_measured_142 rfl ?_
        obtain ⟨a14, ha14, h⟩ := h
        obtain ⟨hr15, h⟩ := h
        obtain ⟨hg16, h⟩ := h
        refine wp_laload dX12_measured_143 ha14 hr15 hg16 ?_
        refine wp_aload_n 0 dX12_measured_144 rfl ?_
        refine wp_getC (ci := 12) (j := 6) dX12_measured_145 fi_X12_32r rfl rfl ht13 ?_
        change WP _ _ _ _ _ _ (rv (hC H6 1306 a0) :: _) _ _
        refine wp_iload_n 1 dX12_measured_148 rfl ?_
        obtain ⟨a17, ha17, h⟩ := h
        obtain ⟨hr18, h⟩ := h
        obtain ⟨hg19, h⟩ := h
        refine wp_laload dX12_measured_149 ha17 hr18 hg19 ?_
        refine wp_iconst (v := (1 : Int32)) dX12_measured_150 (by decide) ?_
        refine wp_callV (ci := 12) (As := [.long (hL H6 1319 a0 0), .long (hL H6 1320 a0 0), .long (hL H6 (tg H6 a14) a14 x3.toNatClampNeg), .long (hL H6 (tg H6 a17) a17 x3.toNatClampNeg), .int (1 : Int32)]) (rest := []) (mc := 0) (ms := 0) dX12_measured_151 lk_X12_329 rfl rfl (by decide) rfl rfl rfl ht13 rfl rfl rfl w_7_181 (Call.weaken h ?_)
        rintro H20 _ ⟨rfl, h⟩
        change WP _ _ _ _ _ _ [] H20 _
        refine wp_aload_n 0 dX12_measured_154 rfl ?_
        obtain ⟨ht21, h⟩ := h
        refine wp_getI (ci := 12) (j := 21) dX12_measured_155 fi_X12_133r rfl rfl ht21 ?_
        change WP _ _ _ _ _ _ (.int (hI H20 1321 a0 0) :: _) _ _
        refine wp_if_eq (tgt := 170) dX12_measured_158 rfl (fun c => ?_) (fun c => ?_)
        · replace h := h.1 c
          refine wp_aload_n 0 dX12_measured_170 rfl ?_
          refine wp_iconst (v := (0 : Int32)) dX12_measured_171 (by decide) ?_
          refine wp_callV (ci := 12) (As := [.int (0 : Int32)]) (rest := []) (mc := 0) (ms := 0) dX12_measured_172 lk_X12_333 rfl rfl (by decide) rfl rfl rfl ht21 rfl rfl rfl w_7_161 (Call.weaken h ?_)
          rintro H22 _ ⟨r23, rfl, h⟩
          change WP _ _ _ _ _ _ [.int r23] H22 _
          exact wp_ireturn (ty := .int) dX12_measured_175 rfl rfl ⟨_, rfl, h⟩
        · replace h := h.2 c
          refine wp_aload_n 0 dX12_measured_161 rfl ?_
          refine wp_bipush (v := (-15 : Int32)) dX12_measured_162 (by decide) ?_
          refine wp_callV (ci := 12) (As := [.int (-15 : Int32)]) (rest := []) (mc := 0) (ms := 0) dX12_measured_164 lk_X12_326 rfl rfl (by decide) rfl rfl rfl ht21 rfl rfl rfl w_7_177 (Call.weaken h ?_)
          rintro H24 _ ⟨r25, rfl, h⟩
          change WP _ _ _ _ _ _ [.int r25] H24 _
          refine wp_goto (tgt := 175) dX12_measured_167 rfl ?_
          exact wp_ireturn (ty := .int) dX12_measured_175 rfl rfl ⟨_, rfl, h⟩
  · replace h := h.2 c
    refine wp_aload_n 0 dX12_measured_77 rfl ?_
    obtain ⟨ht26, h⟩ := h
    refine wp_getI (ci := 12) (j := 21) dX12_measured_78 fi_X12_133r rfl rfl ht26 ?_
    change WP _ _ _ _ _ _ (.int (hI H 1321 a0 0) :: _) _ _
    refine wp_if_ne (tgt := 114) dX12_measured_81 rfl (fun c => ?_) (fun c => ?_)
    · replace h := h.1 c
      refine wp_aload_n 0 dX12_measured_114 rfl ?_
      refine wp_getI (ci := 12) (j := 21) dX12_measured_115 fi_X12_133r rfl rfl ht26 ?_
      change WP _ _ _ _ _ _ (.int (hI H 1321 a0 0) :: _) _ _
      refine wp_if_ne (tgt := 154) dX12_measured_118 rfl (fun c => ?_) (fun c => ?_)
      · replace h := h.1 c
        refine wp_aload_n 0 dX12_measured_154 rfl ?_
        refine wp_getI (ci := 12) (j := 21) dX12_measured_155 fi_X12_133r rfl rfl ht26 ?_
        change WP _ _ _ _ _ _ (.int (hI H 1321 a0 0) :: _) _ _
        refine wp_if_eq (tgt := 170) dX12_measured_158 rfl (fun c => ?_) (fun c => ?_)
        · replace h := h.1 c
          refine wp_aload_n 0 dX12_measured_170 rfl ?_
          refine wp_iconst (v := (0 : Int32)) dX12_measured_171 (by decide) ?_
          refine wp_callV (ci := 12) (As := [.int (0 : Int32)]) (rest := []) (mc := 0) (ms := 0) dX12_measured_172 lk_X12_333 rfl rfl (by decide) rfl rfl rfl ht26 rfl rfl rfl w_7_161 (Call.weaken h ?_)
          rintro H27 _ ⟨r28, rfl, h⟩
          change WP _ _ _ _ _ _ [.int r28] H27 _
          exact wp_ireturn (ty := .int) dX12_measured_175 rfl rfl ⟨_, rfl, h⟩
        · replace h := h.2 c
          refine wp_aload_n 0 dX12_measured_161 rfl ?_
          refine wp_bipush (v := (-15 : Int32)) dX12_measured_162 (by decide) ?_
          refine wp_callV (ci := 12) (As := [.int (-15 : Int32)]) (rest := []) (mc := 0) (ms := 0) dX12_measured_164 lk_X12_326 rfl rfl (by decide) rfl rfl rfl ht26 rfl rfl rfl w_7_177 (Call.weaken h ?_)
          rintro H29 _ ⟨r30, rfl, h⟩
          change WP _ _ _ _ _ _ [.int r30] H29 _
          refine wp_goto (tgt := 175) dX12_measured_167 rfl ?_
          exact wp_ireturn (ty := .int) dX12_measured_175 rfl rfl ⟨_, rfl, h⟩
      · replace h := h.2 c
        refine wp_aload_n 0 dX12_measured_121 rfl ?_
        refine wp_iload_n 1 dX12_measured_122 rfl ?_
        refine wp_callV (ci := 12) (As := [.int x3]) (rest := []) (mc := 0) (ms := 0) dX12_measured_123 lk_X12_247 rfl rfl (by decide) rfl rfl rfl ht26 rfl rfl rfl w_7_16 (Call.weaken h ?_)
        rintro H31 _ ⟨b32, rfl, h⟩
        change WP _ _ _ _ _ _ [.int (bI b32)] H31 _
        refine wp_if_eq (tgt := 154) dX12_measured_126 rfl (fun c => ?_) (fun c => ?_)
        · replace h := h.1 (bI_0.mp c)
          refine wp_aload_n 0 dX12_measured_154 rfl ?_
          obtain ⟨ht33, h⟩ := h
          refine wp_getI (ci := 12) (j := 21) dX12_measured_155 fi_X12_133r rfl rfl ht33 ?_
          change WP _ _ _ _ _ _ (.int (hI H31 1321 a0 0) :: _) _ _
          refine wp_if_eq (tgt := 170) dX12_measured_158 rfl (fun c => ?_) (fun c => ?_)
          · replace h := h.1 c
            refine wp_aload_n 0 dX12_measured_170 rfl ?_
            refine wp_iconst (v := (0 : Int32)) dX12_measured_171 (by decide) ?_
            refine wp_callV (ci := 12) (As := [.int (0 : Int32)]) (rest := []) (mc := 0) (ms := 0) dX12_measured_172 lk_X12_333 rfl rfl (by decide) rfl rfl rfl ht33 rfl rfl rfl w_7_161 (Call.weaken h ?_)
            rintro H34 _ ⟨r35, rfl, h⟩
            change WP _ _ _ _ _ _ [.int r35] H34 _
            exact wp_ireturn (ty := .int) dX12_measured_175 rfl rfl ⟨_, rfl, h⟩
          · replace h := h.2 c
            refine wp_aload_n 0 dX12_measured_161 rfl ?_
            refine wp_bipush (v := (-15 : Int32)) dX12_measured_162 (by decide) ?_
            refine wp_callV (ci := 12) (As := [.int (-15 : Int32)]) (rest := []) (mc := 0) (ms := 0) dX12_measured_164 lk_X12_326 rfl rfl (by decide) rfl rfl rfl ht33 rfl rfl rfl w_7_177 (Call.weaken h ?_)
            rintro H36 _ ⟨r37, rfl, h⟩
            change WP _ _ _ _ _ _ [.int r37] H36 _
            refine wp_goto (tgt := 175) dX12_measured_167 rfl ?_
            exact wp_ireturn (ty := .int) dX12_measured_175 rfl rfl ⟨_, rfl, h⟩
        · replace h := h.2 (bI_1.mp c)
          refine wp_aload_n 0 dX12_measured_129 rfl ?_
          refine wp_aload_n 0 dX12_measured_130 rfl ?_
          obtain ⟨ht38, h⟩ := h
          refine wp_getL (ci := 12) (j := 19) dX12_measured_131 fi_X12_143r rfl rfl ht38 ?_
          change WP _ _ _ _ _ _ (.long (hL H31 1319 a0 0) :: _) _ _
          refine wp_aload_n 0 dX12_measured_134 rfl ?_
          refine wp_getL (ci := 12) (j := 20) dX12_measured_135 fi_X12_147r rfl rfl ht38 ?_
          change WP _ _ _ _ _ _ (.long (hL H31 1320 a0 0) :: _) _ _
          refine wp_aload_n 0 dX12_measured_138 rfl ?_
          refine wp_getC (ci := 12) (j := 5) dX12_measured_139 fi_X12_29r rfl rfl ht38 ?_
          change WP _ _ _ _ _ _ (rv (hC H31 1305 a0) :: _) _ _
          refine wp_iload_n 1 dX12_measured_142 rfl ?_
          obtain ⟨a39, ha39, h⟩ := h
          obtain ⟨hr40, h⟩ := h
          obtain ⟨hg41, h⟩ := h
          refine wp_laload dX12_measured_143 ha39 hr40 hg41 ?_
          refine wp_aload_n 0 dX12_measured_144 rfl ?_
          refine wp_getC (ci := 12) (j := 6) dX12_measured_145 fi_X12_32r rfl rfl ht38 ?_
          change WP _ _ _ _ _ _ (rv (hC H31 1306 a0) :: _) _ _
          refine wp_iload_n 1 dX12_measured_148 rfl ?_
          obtain ⟨a42, ha42, h⟩ := h
          obtain ⟨hr43, h⟩ := h
          obtain ⟨hg44, h⟩ := h
          refine wp_laload dX12_measured_149 ha42 hr43 hg44 ?_
          refine wp_iconst (v := (1 : Int32)) dX12_measured_150 (by decide) ?_
          refine wp_callV (ci := 12) (As := [.long (hL H31 1319 a0 0), .long (hL H31 1320 a0 0), .long (hL H31 (tg H31 a39) a39 x3.toNatClampNeg), .long (hL H31 (tg H31 a42) a42 x3.toNatClampNeg), .int (1 : Int32)]) (rest := []) (mc := 0) (ms := 0) dX12_measured_151 lk_X12_329 rfl rfl (by decide) rfl rfl rfl ht38 rfl rfl rfl w_7_181 (Call.weaken h ?_)
          rintro H45 _ ⟨rfl, h⟩
          change WP _ _ _ _ _ _ [] H45 _
          refine wp_aload_n 0 dX12_measured_154 rfl ?_
          obtain ⟨ht46, h⟩ := h
          refine wp_getI (ci := 12) (j := 21) dX12_measured_155 fi_X12_133r rfl rfl ht46 ?_
          change WP _ _ _ _ _ _ (.int (hI H45 1321 a0 0) :: _) _ _
          refine wp_if_eq (tgt := 170) dX12_measured_158 rfl (fun c => ?_) (fun c => ?_)
          · replace h := h.1 c
            refine wp_aload_n 0 dX12_measured_170 rfl ?_
            refine wp_iconst (v := (0 : Int32)) dX12_measured_171 (by decide) ?_
            refine wp_callV (ci := 12) (As := [.int (0 : Int32)]) (rest := []) (mc := 0) (ms := 0) dX12_measured_172 lk_X12_333 rfl rfl (by decide) rfl rfl rfl ht46 rfl rfl rfl w_7_161 (Call.weaken h ?_)
            rintro H47 _ ⟨r48, rfl, h⟩
            change WP _ _ _ _ _ _ [.int r48] H47 _
            exact wp_ireturn (ty := .int) dX12_measured_175 rfl rfl ⟨_, rfl, h⟩
          · replace h := h.2 c
            refine wp_aload_n 0 dX12_measured_161 rfl ?_
            refine wp_bipush (v := (-15 : Int32)) dX12_measured_162 (by decide) ?_
            refine wp_callV (ci := 12) (As := [.int (-15 : Int32)]) (rest := []) (mc := 0) (ms := 0) dX12_measured_164 lk_X12_326 rfl rfl (by decide) rfl rfl rfl ht46 rfl rfl rfl w_7_177 (Call.weaken h ?_)
            rintro H49 _ ⟨r50, rfl, h⟩
            change WP _ _ _ _ _ _ [.int r50] H49 _
            refine wp_goto (tgt := 175) dX12_measured_167 rfl ?_
            exact wp_ireturn (ty := .int) dX12_measured_175 rfl rfl ⟨_, rfl, h⟩
    · replace h := h.2 c
      refine wp_aload_n 0 dX12_measured_84 rfl ?_
      refine wp_aload_n 0 dX12_measured_85 rfl ?_
      refine wp_getL (ci := 12) (j := 19) dX12_measured_86 fi_X12_143r rfl rfl ht26 ?_
      change WP _ _ _ _ _ _ (.long (hL H 1319 a0 0) :: _) _ _
      refine wp_aload_n 0 dX12_measured_89 rfl ?_
      refine wp_getL (ci := 12) (j := 20) dX12_measured_90 fi_X12_147r rfl rfl ht26 ?_
      change WP _ _ _ _ _ _ (.long (hL H 1320 a0 0) :: _) _ _
      refine wp_aload_n 0 dX12_measured_93 rfl ?_
      refine wp_getC (ci := 12) (j := 3) dX12_measured_94 fi_X12_22r rfl rfl ht26 ?_
      change WP _ _ _ _ _ _ (rv (hC H 1303 a0) :: _) _ _
      refine wp_iload_n 1 dX12_measured_97 rfl ?_
      obtain ⟨a51, ha51, h⟩ := h
      obtain ⟨hr52, h⟩ := h
      obtain ⟨hg53, h⟩ := h
      refine wp_laload dX12_measured_98 ha51 hr52 hg53 ?_
      refine wp_aload_n 0 dX12_measured_99 rfl ?_
      refine wp_getC (ci := 12) (j := 4) dX12_measured_100 fi_X12_26r rfl rfl ht26 ?_
      change WP _ _ _ _ _ _ (rv (hC H 1304 a0) :: _) _ _
      refine wp_iload_n 1 dX12_measured_103 rfl ?_
      obtain ⟨a54, ha54, h⟩ := h
      obtain ⟨hr55, h⟩ := h
      obtain ⟨hg56, h⟩ := h
      refine wp_laload dX12_measured_104 ha54 hr55 hg56 ?_
      refine wp_callV (ci := 12) (As := [.long (hL H 1319 a0 0), .long (hL H 1320 a0 0), .long (hL H (tg H a51) a51 x3.toNatClampNeg), .long (hL H (tg H a54) a54 x3.toNatClampNeg)]) (rest := []) (mc := 0) (ms := 0) dX12_measured_105 lk_X12_153 rfl rfl (by decide) rfl rfl rfl ht26 rfl rfl rfl w_7_47 (Call.weaken h ?_)
      rintro H57 _ ⟨rfl, h⟩
      change WP _ _ _ _ _ _ [] H57 _
      refine wp_iinc (v := (x5 + 1)) (ls' := [(5, .int (x5 + 1)), (0, rv (some a0)), (3, .int x3), (4, .int x4)]) 3 dX12_measured_108 rfl rfl (by decide) rfl ?_
      refine wp_goto (tgt := 70) dX12_measured_111 rfl ?_
      refine wp_sub (ls' := [(0, rv (some a0)), (3, .int x3), (4, .int x4), (5, .int (x5 + 1))]) [1, 2, 3, 0] rfl ?_
      exact h
theorem C_X12_measured {d : Nat} {q : HP → Int32 → Prop} {a0 : Nat} {x1 : Int64} {x3 : Int32} {x4 : Int32} {H : HP} (h : wb_X12_measured_0 d q a0 x1 x3 x4 H) : CI (d + 1) 0 0 mX12_measured [rv (some a0), .long x1, .int x3, .int x4] H q := by
  refine call_of (by decide +kernel) (by simp [lg_sl, rv_cat, vc_int, vc_long, vc_float, vc_double]) ?_
  have e : lv_args 0 [rv (some a0), .long x1, .int x3, .int x4] = [(0, rv (some a0)), (1, .long x1), (3, .int x3), (4, .int x4)] := by simp [lv_args, rv_cat, vc_int, vc_long, vc_float, vc_double]
  rw [e]
  exact T_X12_measured_0 h
/-- UnitProverModel.mixed()I: the loop at 38 -/
def L_X12_mixed_38 (d : Nat) (q : HP → Int32 → Prop) (a0 : Nat) (x2 : Int64) (x4 : Int64) (x6 : Int32) (H : HP) : Prop := WP (d + 1) mX12_mixed 0 0 38 [(0, rv (some a0)), (2, .long x2), (4, .long x4), (6, .int x6)] [] H (qI q)
def wb_X12_mixed_0 (d : Nat) (q : HP → Int32 → Prop) (a0 : Nat) (H : HP) : Prop :=
  tg H a0 = 13 ∧ (CI d 0 0 mX12_wrongMixed [rv (some a0)] H (fun H1 r3 => (r3 = 0 → tg H1 a0 = 13 ∧ (CV d 0 0 mX12_clears [rv (some a0)] H1 (fun H4 => tg H4 a0 = 13 ∧ (∃ a7, (hC H4 1351 a0) = some a7 ∧ (isA H4 a7 0 ∧ (vp_in (0 : Int32) (ln H4 a7) ∧ (CV d 0 0 mX12_sums [rv (some a0), .int (hI H4 (tg H4 a7) a7 (0 : Int32).toNatClampNeg), .int (1 : Int32)] H4 (fun H10 => L_X12_mixed_38 d q a0 (0 : Int64) (1 : Int64) (0 : Int32) H10)))))))) ∧ (¬ (r3 = 0) → tg H1 a0 = 13 ∧ (CI d 0 0 mX12_ends [rv (some a0), .int r3] H1 (fun H11 r13 => q H11 r13)))))
set_option maxRecDepth 40000 in
set_option maxHeartbeats 4000000 in
theorem T_X12_mixed_0 {d : Nat} {q : HP → Int32 → Prop} {a0 : Nat} {H : HP} (h : wb_X12_mixed_0 d q a0 H) : WP (d + 1) mX12_mixed 0 0 0 [(0, rv (some a0))] [] H (qI q) := by
  unfold wb_X12_mixed_0 at h
  refine wp_aload_n 0 dX12_mixed_0 rfl ?_
  obtain ⟨ht2, h⟩ := h
  refine wp_callV (ci := 12) (As := []) (rest := []) (mc := 0) (ms := 0) dX12_mixed_1 lk_X12_339 rfl rfl (by decide) rfl rfl rfl ht2 rfl rfl rfl w_7_189 (Call.weaken h ?_)
  rintro H1 _ ⟨r3, rfl, h⟩
  change WP _ _ _ _ _ _ [.int r3] H1 _
  refine wp_istore_n (ls' := [(1, .int r3), (0, rv (some a0))]) dX12_mixed_4 (by decide) rfl ?_
  refine wp_iload_n 0 dX12_mixed_5 rfl ?_
  refine wp_if_eq (tgt := 15) dX12_mixed_6 rfl (fun c => ?_) (fun c => ?_)
  · replace h := h.1 c
    refine wp_aload_n 1 dX12_mixed_15 rfl ?_
    obtain ⟨ht5, h⟩ := h
    refine wp_callV (ci := 12) (As := []) (rest := []) (mc := 0) (ms := 0) dX12_mixed_16 lk_X12_323 rfl rfl (by decide) rfl rfl rfl ht5 rfl rfl rfl w_7_157 (Call.weaken h ?_)
    rintro H4 _ ⟨rfl, h⟩
    change WP _ _ _ _ _ _ [] H4 _
    refine wp_aload_n 1 dX12_mixed_19 rfl ?_
    refine wp_aload_n 1 dX12_mixed_20 rfl ?_
    obtain ⟨ht6, h⟩ := h
    refine wp_getC (ci := 12) (j := 51) dX12_mixed_21 fi_X12_92r rfl rfl ht6 ?_
    change WP _ _ _ _ _ _ (rv (hC H4 1351 a0) :: _) _ _
    refine wp_iconst (v := (0 : Int32)) dX12_mixed_24 (by decide) ?_
    obtain ⟨a7, ha7, h⟩ := h
    obtain ⟨hr8, h⟩ := h
    obtain ⟨hg9, h⟩ := h
    refine wp_iaload dX12_mixed_25 ha7 hr8 hg9 ?_
    refine wp_iconst (v := (1 : Int32)) dX12_mixed_26 (by decide) ?_
    refine wp_callV (ci := 12) (As := [.int (hI H4 (tg H4 a7) a7 (0 : Int32).toNatClampNeg), .int (1 : Int32)]) (rest := []) (mc := 0) (ms := 0) dX12_mixed_27 lk_X12_256 rfl rfl (by decide) rfl rfl rfl ht6 rfl rfl rfl w_7_24 (Call.weaken h ?_)
    rintro H10 _ ⟨rfl, h⟩
    change WP _ _ _ _ _ _ [] H10 _
    refine wp_lconst (v := (0 : Int64)) dX12_mixed_30 (by decide) ?_
    refine wp_lstore_n (ls' := [(2, .long (0 : Int64)), (1, .int r3), (0, rv (some a0))]) dX12_mixed_31 (by decide) rfl ?_
    refine wp_lconst (v := (1 : Int64)) dX12_mixed_32 (by decide) ?_
    refine wp_lstore (ls' := [(4, .long (1 : Int64)), (2, .long (0 : Int64)), (1, .int r3), (0, rv (some a0))]) dX12_mixed_33 (by decide) rfl ?_
    refine wp_iconst (v := (0 : Int32)) dX12_mixed_35 (by decide) ?_
    refine wp_istore (ls' := [(6, .int (0 : Int32)), (4, .long (1 : Int64)), (2, .long (0 : Int64)), (1, .int r3), (0, rv (some a0))]) dX12_mixed_36 (by decide) rfl ?_
    refine wp_sub (ls' := [(0, rv (some a0)), (2, .long (0 : Int64)), (4, .long (1 : Int64)), (6, .int (0 : Int32))]) [4, 2, 1, 0] rfl ?_
    exact h
  · replace h := h.2 c
    refine wp_aload_n 1 dX12_mixed_9 rfl ?_
    refine wp_iload_n 0 dX12_mixed_10 rfl ?_
    obtain ⟨ht12, h⟩ := h
    refine wp_callV (ci := 12) (As := [.int r3]) (rest := []) (mc := 0) (ms := 0) dX12_mixed_11 lk_X12_326 rfl rfl (by decide) rfl rfl rfl ht12 rfl rfl rfl w_7_177 (Call.weaken h ?_)
    rintro H11 _ ⟨r13, rfl, h⟩
    change WP _ _ _ _ _ _ [.int r13] H11 _
    exact wp_ireturn (ty := .int) dX12_mixed_14 rfl rfl ⟨_, rfl, h⟩
def wb_X12_mixed_38 (d : Nat) (q : HP → Int32 → Prop) (a0 : Nat) (x2 : Int64) (x4 : Int64) (x6 : Int32) (H : HP) : Prop :=
  tg H a0 = 13 ∧ (((hI H 1352 a0 0) ≤ x6 → ((hI H 1321 a0 0) = 0 → CI d 0 0 mX12_stepComes [rv (some a0), .int (0 : Int32)] H (fun H2 r3 => q H2 r3)) ∧ (¬ ((hI H 1321 a0 0) = 0) → CI d 0 0 mX12_ends [rv (some a0), .int (-15 : Int32)] H (fun H4 r5 => q H4 r5))) ∧ (¬ ((hI H 1352 a0 0) ≤ x6) → (¬ (hI H 1321 a0 0) = 0 → ((hI H 1321 a0 0) = 0 → CI d 0 0 mX12_stepComes [rv (some a0), .int (0 : Int32)] H (fun H6 r7 => q H6 r7)) ∧ (¬ ((hI H 1321 a0 0) = 0) → CI d 0 0 mX12_ends [rv (some a0), .int (-15 : Int32)] H (fun H8 r9 => q H8 r9))) ∧ ((hI H 1321 a0 0) = 0 → ∃ a10, (hC H 1350 a0) = some a10 ∧ (isA H a10 3 ∧ (vp_in x6 (ln H a10) ∧ (CV d 0 0 mX12_becomes [rv (some a0), .long (hL H (tg H a10) a10 x6.toNatClampNeg), .long (1000 : Int64)] H (fun H13 => tg H13 a0 = 13 ∧ (∃ a15, (hC H13 1351 a0) = some a15 ∧ (isA H13 a15 0 ∧ (vp_in x6 (ln H13 a15) ∧ (∃ a18, (hC H13 1303 a0) = some a18 ∧ (isA H13 a18 3 ∧ (vp_in (hI H13 (tg H13 a15) a15 x6.toNatClampNeg) (ln H13 a18) ∧ (vp_in x6 (ln H13 a15) ∧ (∃ a22, (hC H13 1304 a0) = some a22 ∧ (isA H13 a22 3 ∧ (vp_in (hI H13 (tg H13 a15) a15 x6.toNatClampNeg) (ln H13 a22) ∧ (CV d 0 0 mX12_times [rv (some a0), .long (hL H13 1319 a0 0), .long (hL H13 1320 a0 0), .long (hL H13 (tg H13 a18) a18 (hI H13 (tg H13 a15) a15 x6.toNatClampNeg).toNatClampNeg), .long (hL H13 (tg H13 a22) a22 (hI H13 (tg H13 a15) a15 x6.toNatClampNeg).toNatClampNeg)] H13 (fun H25 => tg H25 a0 = 13 ∧ ((¬ (hI H25 1321 a0 0) = 0 → L_X12_mixed_38 d q a0 (hL H25 1319 a0 0) (hL H25 1320 a0 0) (x6 + 1) H25) ∧ ((hI H25 1321 a0 0) = 0 → (x6 ≤ 0 → L_X12_mixed_38 d q a0 (hL H25 1319 a0 0) (hL H25 1320 a0 0) (x6 + 1) H25) ∧ (¬ (x6 ≤ 0) → CV d 0 0 mX12_plus [rv (some a0), .long x2, .long x4, .long (hL H25 1319 a0 0), .long (hL H25 1320 a0 0), .int (1 : Int32)] H25 (fun H27 => tg H27 a0 = 13 ∧ (L_X12_mixed_38 d q a0 (hL H27 1319 a0 0) (hL H27 1320 a0 0) (x6 + 1) H27))))))))))))))))))))))))
set_option maxRecDepth 40000 in
set_option maxHeartbeats 4000000 in
theorem T_X12_mixed_38 {d : Nat} {q : HP → Int32 → Prop} {a0 : Nat} {x2 : Int64} {x4 : Int64} {x6 : Int32} {H : HP} (h : wb_X12_mixed_38 d q a0 x2 x4 x6 H) : L_X12_mixed_38 d q a0 x2 x4 x6 H := by
  unfold wb_X12_mixed_38 at h
  unfold L_X12_mixed_38
  refine wp_iload 3 dX12_mixed_38 rfl ?_
  refine wp_aload_n 0 dX12_mixed_40 rfl ?_
  obtain ⟨ht1, h⟩ := h
  refine wp_getI (ci := 12) (j := 52) dX12_mixed_41 fi_X12_336r rfl rfl ht1 ?_
  change WP _ _ _ _ _ _ (.int (hI H 1352 a0 0) :: _) _ _
  refine wp_icmp_ge (tgt := 149) dX12_mixed_44 rfl (fun c => ?_) (fun c => ?_)
  · replace h := h.1 c
    refine wp_aload_n 0 dX12_mixed_149 rfl ?_
    refine wp_getI (ci := 12) (j := 21) dX12_mixed_150 fi_X12_133r rfl rfl ht1 ?_
    change WP _ _ _ _ _ _ (.int (hI H 1321 a0 0) :: _) _ _
    refine wp_if_eq (tgt := 165) dX12_mixed_153 rfl (fun c => ?_) (fun c => ?_)
    · replace h := h.1 c
      refine wp_aload_n 0 dX12_mixed_165 rfl ?_
      refine wp_iconst (v := (0 : Int32)) dX12_mixed_166 (by decide) ?_
      refine wp_callV (ci := 12) (As := [.int (0 : Int32)]) (rest := []) (mc := 0) (ms := 0) dX12_mixed_167 lk_X12_333 rfl rfl (by decide) rfl rfl rfl ht1 rfl rfl rfl w_7_161 (Call.weaken h ?_)
      rintro H2 _ ⟨r3, rfl, h⟩
      change WP _ _ _ _ _ _ [.int r3] H2 _
      exact wp_ireturn (ty := .int) dX12_mixed_170 rfl rfl ⟨_, rfl, h⟩
    · replace h := h.2 c
      refine wp_aload_n 0 dX12_mixed_156 rfl ?_
      refine wp_bipush (v := (-15 : Int32)) dX12_mixed_157 (by decide) ?_
      refine wp_callV (ci := 12) (As := [.int (-15 : Int32)]) (rest := []) (mc := 0) (ms := 0) dX12_mixed_159 lk_X12_326 rfl rfl (by decide) rfl rfl rfl ht1 rfl rfl rfl w_7_177 (Call.weaken h ?_)
      rintro H4 _ ⟨r5, rfl, h⟩
      change WP _ _ _ _ _ _ [.int r5] H4 _
      refine wp_goto (tgt := 170) dX12_mixed_162 rfl ?_
      exact wp_ireturn (ty := .int) dX12_mixed_170 rfl rfl ⟨_, rfl, h⟩
  · replace h := h.2 c
    refine wp_aload_n 0 dX12_mixed_47 rfl ?_
    refine wp_getI (ci := 12) (j := 21) dX12_mixed_48 fi_X12_133r rfl rfl ht1 ?_
    change WP _ _ _ _ _ _ (.int (hI H 1321 a0 0) :: _) _ _
    refine wp_if_ne (tgt := 149) dX12_mixed_51 rfl (fun c => ?_) (fun c => ?_)
    · replace h := h.1 c
      refine wp_aload_n 0 dX12_mixed_149 rfl ?_
      refine wp_getI (ci := 12) (j := 21) dX12_mixed_150 fi_X12_133r rfl rfl ht1 ?_
      change WP _ _ _ _ _ _ (.int (hI H 1321 a0 0) :: _) _ _
      refine wp_if_eq (tgt := 165) dX12_mixed_153 rfl (fun c => ?_) (fun c => ?_)
      · replace h := h.1 c
        refine wp_aload_n 0 dX12_mixed_165 rfl ?_
        refine wp_iconst (v := (0 : Int32)) dX12_mixed_166 (by decide) ?_
        refine wp_callV (ci := 12) (As := [.int (0 : Int32)]) (rest := []) (mc := 0) (ms := 0) dX12_mixed_167 lk_X12_333 rfl rfl (by decide) rfl rfl rfl ht1 rfl rfl rfl w_7_161 (Call.weaken h ?_)
        rintro H6 _ ⟨r7, rfl, h⟩
        change WP _ _ _ _ _ _ [.int r7] H6 _
        exact wp_ireturn (ty := .int) dX12_mixed_170 rfl rfl ⟨_, rfl, h⟩
      · replace h := h.2 c
        refine wp_aload_n 0 dX12_mixed_156 rfl ?_
        refine wp_bipush (v := (-15 : Int32)) dX12_mixed_157 (by decide) ?_
        refine wp_callV (ci := 12) (As := [.int (-15 : Int32)]) (rest := []) (mc := 0) (ms := 0) dX12_mixed_159 lk_X12_326 rfl rfl (by decide) rfl rfl rfl ht1 rfl rfl rfl w_7_177 (Call.weaken h ?_)
        rintro H8 _ ⟨r9, rfl, h⟩
        change WP _ _ _ _ _ _ [.int r9] H8 _
        refine wp_goto (tgt := 170) dX12_mixed_162 rfl ?_
        exact wp_ireturn (ty := .int) dX12_mixed_170 rfl rfl ⟨_, rfl, h⟩
    · replace h := h.2 c
      refine wp_aload_n 0 dX12_mixed_54 rfl ?_
      refine wp_aload_n 0 dX12_mixed_55 rfl ?_
      refine wp_getC (ci := 12) (j := 50) dX12_mixed_56 fi_X12_89r rfl rfl ht1 ?_
      change WP _ _ _ _ _ _ (rv (hC H 1350 a0) :: _) _ _
      refine wp_iload 3 dX12_mixed_59 rfl ?_
      obtain ⟨a10, ha10, h⟩ := h
      obtain ⟨hr11, h⟩ := h
      obtain ⟨hg12, h⟩ := h
      refine wp_laload dX12_mixed_61 ha10 hr11 hg12 ?_
      refine wp_ldc2 dX12_mixed_62 w_7_148 ?_
      refine wp_callV (ci := 12) (As := [.long (hL H (tg H a10) a10 x6.toNatClampNeg), .long (1000 : Int64)]) (rest := []) (mc := 0) (ms := 0) dX12_mixed_65 lk_X12_157 rfl rfl (by decide) rfl rfl rfl ht1 rfl rfl rfl w_7_37 (Call.weaken h ?_)
      rintro H13 _ ⟨rfl, h⟩
      change WP _ _ _ _ _ _ [] H13 _
      refine wp_aload_n 0 dX12_mixed_68 rfl ?_
      refine wp_aload_n 0 dX12_mixed_69 rfl ?_
      obtain ⟨ht14, h⟩ := h
      refine wp_getL (ci := 12) (j := 19) dX12_mixed_70 fi_X12_143r rfl rfl ht14 ?_
      change WP _ _ _ _ _ _ (.long (hL H13 1319 a0 0) :: _) _ _
      refine wp_aload_n 0 dX12_mixed_73 rfl ?_
      refine wp_getL (ci := 12) (j := 20) dX12_mixed_74 fi_X12_147r rfl rfl ht14 ?_
      change WP _ _ _ _ _ _ (.long (hL H13 1320 a0 0) :: _) _ _
      refine wp_aload_n 0 dX12_mixed_77 rfl ?_
      refine wp_getC (ci := 12) (j := 3) dX12_mixed_78 fi_X12_22r rfl rfl ht14 ?_
      change WP _ _ _ _ _ _ (rv (hC H13 1303 a0) :: _) _ _
      refine wp_aload_n 0 dX12_mixed_81 rfl ?_
      refine wp_getC (ci := 12) (j := 51) dX12_mixed_82 fi_X12_92r rfl rfl ht14 ?_
      change WP _ _ _ _ _ _ (rv (hC H13 1351 a0) :: _) _ _
      refine wp_iload 3 dX12_mixed_85 rfl ?_
      obtain ⟨a15, ha15, h⟩ := h
      obtain ⟨hr16, h⟩ := h
      obtain ⟨hg17, h⟩ := h
      refine wp_iaload dX12_mixed_87 ha15 hr16 hg17 ?_
      obtain ⟨a18, ha18, h⟩ := h
      obtain ⟨hr19, h⟩ := h
      obtain ⟨hg20, h⟩ := h
      refine wp_laload dX12_mixed_88 ha18 hr19 hg20 ?_
      refine wp_aload_n 0 dX12_mixed_89 rfl ?_
      refine wp_getC (ci := 12) (j := 4) dX12_mixed_90 fi_X12_26r rfl rfl ht14 ?_
      change WP _ _ _ _ _ _ (rv (hC H13 1304 a0) :: _) _ _
      refine wp_aload_n 0 dX12_mixed_93 rfl ?_
      refine wp_getC (ci := 12) (j := 51) dX12_mixed_94 fi_X12_92r rfl rfl ht14 ?_
      change WP _ _ _ _ _ _ (rv (hC H13 1351 a0) :: _) _ _
      refine wp_iload 3 dX12_mixed_97 rfl ?_
      obtain ⟨hg21, h⟩ := h
      refine wp_iaload dX12_mixed_99 ha15 hr16 hg21 ?_
      obtain ⟨a22, ha22, h⟩ := h
      obtain ⟨hr23, h⟩ := h
      obtain ⟨hg24, h⟩ := h
      refine wp_laload dX12_mixed_100 ha22 hr23 hg24 ?_
      refine wp_callV (ci := 12) (As := [.long (hL H13 1319 a0 0), .long (hL H13 1320 a0 0), .long (hL H13 (tg H13 a18) a18 (hI H13 (tg H13 a15) a15 x6.toNatClampNeg).toNatClampNeg), .long (hL H13 (tg H13 a22) a22 (hI H13 (tg H13 a15) a15 x6.toNatClampNeg).toNatClampNeg)]) (rest := []) (mc := 0) (ms := 0) dX12_mixed_101 lk_X12_153 rfl rfl (by decide) rfl rfl rfl ht14 rfl rfl rfl w_7_47 (Call.weaken h ?_)
      rintro H25 _ ⟨rfl, h⟩
      change WP _ _ _ _ _ _ [] H25 _
      refine wp_aload_n 0 dX12_mixed_104 rfl ?_
      obtain ⟨ht26, h⟩ := h
      refine wp_getI (ci := 12) (j := 21) dX12_mixed_105 fi_X12_133r rfl rfl ht26 ?_
      change WP _ _ _ _ _ _ (.int (hI H25 1321 a0 0) :: _) _ _
      refine wp_if_ne (tgt := 132) dX12_mixed_108 rfl (fun c => ?_) (fun c => ?_)
      · replace h := h.1 c
        refine wp_aload_n 0 dX12_mixed_132 rfl ?_
        refine wp_getL (ci := 12) (j := 19) dX12_mixed_133 fi_X12_143r rfl rfl ht26 ?_
        change WP _ _ _ _ _ _ (.long (hL H25 1319 a0 0) :: _) _ _
        refine wp_lstore_n (ls' := [(2, .long (hL H25 1319 a0 0)), (0, rv (some a0)), (4, .long x4), (6, .int x6)]) dX12_mixed_136 (by decide) rfl ?_
        refine wp_aload_n 1 dX12_mixed_137 rfl ?_
        refine wp_getL (ci := 12) (j := 20) dX12_mixed_138 fi_X12_147r rfl rfl ht26 ?_
        change WP _ _ _ _ _ _ (.long (hL H25 1320 a0 0) :: _) _ _
        refine wp_lstore (ls' := [(4, .long (hL H25 1320 a0 0)), (2, .long (hL H25 1319 a0 0)), (0, rv (some a0)), (6, .int x6)]) dX12_mixed_141 (by decide) rfl ?_
        refine wp_iinc (v := (x6 + 1)) (ls' := [(6, .int (x6 + 1)), (4, .long (hL H25 1320 a0 0)), (2, .long (hL H25 1319 a0 0)), (0, rv (some a0))]) 3 dX12_mixed_143 rfl rfl (by decide) rfl ?_
        refine wp_goto (tgt := 38) dX12_mixed_146 rfl ?_
        refine wp_sub (ls' := [(0, rv (some a0)), (2, .long (hL H25 1319 a0 0)), (4, .long (hL H25 1320 a0 0)), (6, .int (x6 + 1))]) [3, 2, 1, 0] rfl ?_
        exact h
      · replace h := h.2 c
        refine wp_iload 3 dX12_mixed_111 rfl ?_
        refine wp_if_le (tgt := 132) dX12_mixed_113 rfl (fun c => ?_) (fun c => ?_)
        · replace h := h.1 c
          refine wp_aload_n 0 dX12_mixed_132 rfl ?_
          refine wp_getL (ci := 12) (j := 19) dX12_mixed_133 fi_X12_143r rfl rfl ht26 ?_
          change WP _ _ _ _ _ _ (.long (hL H25 1319 a0 0) :: _) _ _
          refine wp_lstore_n (ls' := [(2, .long (hL H25 1319 a0 0)), (0, rv (some a0)), (4, .long x4), (6, .int x6)]) dX12_mixed_136 (by decide) rfl ?_
          refine wp_aload_n 1 dX12_mixed_137 rfl ?_
          refine wp_getL (ci := 12) (j := 20) dX12_mixed_138 fi_X12_147r rfl rfl ht26 ?_
          change WP _ _ _ _ _ _ (.long (hL H25 1320 a0 0) :: _) _ _
          refine wp_lstore (ls' := [(4, .long (hL H25 1320 a0 0)), (2, .long (hL H25 1319 a0 0)), (0, rv (some a0)), (6, .int x6)]) dX12_mixed_141 (by decide) rfl ?_
          refine wp_iinc (v := (x6 + 1)) (ls' := [(6, .int (x6 + 1)), (4, .long (hL H25 1320 a0 0)), (2, .long (hL H25 1319 a0 0)), (0, rv (some a0))]) 3 dX12_mixed_143 rfl rfl (by decide) rfl ?_
          refine wp_goto (tgt := 38) dX12_mixed_146 rfl ?_
          refine wp_sub (ls' := [(0, rv (some a0)), (2, .long (hL H25 1319 a0 0)), (4, .long (hL H25 1320 a0 0)), (6, .int (x6 + 1))]) [3, 2, 1, 0] rfl ?_
          exact h
        · replace h := h.2 c
          refine wp_aload_n 0 dX12_mixed_116 rfl ?_
          refine wp_lload_n 1 dX12_mixed_117 rfl ?_
          refine wp_lload 2 dX12_mixed_118 rfl ?_
          refine wp_aload_n 0 dX12_mixed_120 rfl ?_
          refine wp_getL (ci := 12) (j := 19) dX12_mixed_121 fi_X12_143r rfl rfl ht26 ?_
          change WP _ _ _ _ _ _ (.long (hL H25 1319 a0 0) :: _) _ _
          refine wp_aload_n 0 dX12_mixed_124 rfl ?_
          refine wp_getL (ci := 12) (j := 20) dX12_mixed_125 fi_X12_147r rfl rfl ht26 ?_
          change WP _ _ _ _ _ _ (.long (hL H25 1320 a0 0) :: _) _ _
          refine wp_iconst (v := (1 : Int32)) dX12_mixed_128 (by decide) ?_
          refine wp_callV (ci := 12) (As := [.long x2, .long x4, .long (hL H25 1319 a0 0), .long (hL H25 1320 a0 0), .int (1 : Int32)]) (rest := []) (mc := 0) (ms := 0) dX12_mixed_129 lk_X12_329 rfl rfl (by decide) rfl rfl rfl ht26 rfl rfl rfl w_7_181 (Call.weaken h ?_)
          rintro H27 _ ⟨rfl, h⟩
          change WP _ _ _ _ _ _ [] H27 _
          refine wp_aload_n 0 dX12_mixed_132 rfl ?_
          obtain ⟨ht28, h⟩ := h
          refine wp_getL (ci := 12) (j := 19) dX12_mixed_133 fi_X12_143r rfl rfl ht28 ?_
          change WP _ _ _ _ _ _ (.long (hL H27 1319 a0 0) :: _) _ _
          refine wp_lstore_n (ls' := [(2, .long (hL H27 1319 a0 0)), (0, rv (some a0)), (4, .long x4), (6, .int x6)]) dX12_mixed_136 (by decide) rfl ?_
          refine wp_aload_n 1 dX12_mixed_137 rfl ?_
          refine wp_getL (ci := 12) (j := 20) dX12_mixed_138 fi_X12_147r rfl rfl ht28 ?_
          change WP _ _ _ _ _ _ (.long (hL H27 1320 a0 0) :: _) _ _
          refine wp_lstore (ls' := [(4, .long (hL H27 1320 a0 0)), (2, .long (hL H27 1319 a0 0)), (0, rv (some a0)), (6, .int x6)]) dX12_mixed_141 (by decide) rfl ?_
          refine wp_iinc (v := (x6 + 1)) (ls' := [(6, .int (x6 + 1)), (4, .long (hL H27 1320 a0 0)), (2, .long (hL H27 1319 a0 0)), (0, rv (some a0))]) 3 dX12_mixed_143 rfl rfl (by decide) rfl ?_
          refine wp_goto (tgt := 38) dX12_mixed_146 rfl ?_
          refine wp_sub (ls' := [(0, rv (some a0)), (2, .long (hL H27 1319 a0 0)), (4, .long (hL H27 1320 a0 0)), (6, .int (x6 + 1))]) [3, 2, 1, 0] rfl ?_
          exact h
theorem C_X12_mixed {d : Nat} {q : HP → Int32 → Prop} {a0 : Nat} {H : HP} (h : wb_X12_mixed_0 d q a0 H) : CI (d + 1) 0 0 mX12_mixed [rv (some a0)] H q := by
  refine call_of (by decide +kernel) (by simp [lg_sl, rv_cat, vc_int, vc_long, vc_float, vc_double]) ?_
  have e : lv_args 0 [rv (some a0)] = [(0, rv (some a0))] := by simp [lv_args, rv_cat, vc_int, vc_long, vc_float, vc_double]
  rw [e]
  exact T_X12_mixed_0 h
def wb_X12_must_0 (d : Nat) (q : HP → Prop) (a0 : Nat) (x1 : Int32) (H : HP) : Prop :=
  tg H a0 = 13 ∧ (((hI H 1325 a0 0) < 0 → CI d 0 0 mX12_here [rv (some a0)] H (fun H2 r3 => (r3 = x1 → tg H2 a0 = 13 ∧ (q (sI H2 1324 a0 0 ((hI H2 1324 a0 0) + (1 : Int32))))) ∧ (¬ (r3 = x1) → tg H2 a0 = 13 ∧ (CV d 0 0 mX12_fails [rv (some a0)] H2 (fun H5 => q H5))))) ∧ (¬ ((hI H 1325 a0 0) < 0) → q H))
set_option maxRecDepth 40000 in
set_option maxHeartbeats 4000000 in
theorem T_X12_must_0 {d : Nat} {q : HP → Prop} {a0 : Nat} {x1 : Int32} {H : HP} (h : wb_X12_must_0 d q a0 x1 H) : WP (d + 1) mX12_must 0 0 0 [(0, rv (some a0)), (1, .int x1)] [] H (qV q) := by
  unfold wb_X12_must_0 at h
  refine wp_aload_n 0 dX12_must_0 rfl ?_
  obtain ⟨ht1, h⟩ := h
  refine wp_getI (ci := 12) (j := 25) dX12_must_1 fi_X12_189r rfl rfl ht1 ?_
  change WP _ _ _ _ _ _ (.int (hI H 1325 a0 0) :: _) _ _
  refine wp_if_lt (tgt := 8) dX12_must_4 rfl (fun c => ?_) (fun c => ?_)
  · replace h := h.1 c
    refine wp_aload_n 0 dX12_must_8 rfl ?_
    refine wp_callV (ci := 12) (As := []) (rest := []) (mc := 0) (ms := 0) dX12_must_9 lk_X12_177 rfl rfl (by decide) rfl rfl rfl ht1 rfl rfl rfl w_6_206 (Call.weaken h ?_)
    rintro H2 _ ⟨r3, rfl, h⟩
    change WP _ _ _ _ _ _ [.int r3] H2 _
    refine wp_iload_n 1 dX12_must_12 rfl ?_
    refine wp_icmp_eq (tgt := 23) dX12_must_13 rfl (fun c => ?_) (fun c => ?_)
    · replace h := h.1 c
      refine wp_aload_n 0 dX12_must_23 rfl ?_
      refine wp_dup dX12_must_24 (rv_cat _) ?_
      obtain ⟨ht4, h⟩ := h
      refine wp_getI (ci := 12) (j := 24) dX12_must_25 fi_X12_174r rfl rfl ht4 ?_
      change WP _ _ _ _ _ _ (.int (hI H2 1324 a0 0) :: _) _ _
      refine wp_iconst (v := (1 : Int32)) dX12_must_28 (by decide) ?_
      refine wp_iadd dX12_must_29 ?_
      refine wp_putI (ci := 12) (j := 24) dX12_must_30 fi_X12_174 rfl (fun z => by cases z) rfl ht4 rfl rfl ?_
      change WP _ _ _ _ _ _ _ (sI H2 1324 a0 0 ((hI H2 1324 a0 0) + (1 : Int32))) _
      exact wp_return dX12_must_33 rfl ⟨rfl, h⟩
    · replace h := h.2 c
      refine wp_aload_n 0 dX12_must_16 rfl ?_
      obtain ⟨ht6, h⟩ := h
      refine wp_callV (ci := 12) (As := []) (rest := []) (mc := 0) (ms := 0) dX12_must_17 lk_X12_192 rfl rfl (by decide) rfl rfl rfl ht6 rfl rfl rfl w_6_212 (Call.weaken h ?_)
      rintro H5 _ ⟨rfl, h⟩
      change WP _ _ _ _ _ _ [] H5 _
      refine wp_goto (tgt := 33) dX12_must_20 rfl ?_
      exact wp_return dX12_must_33 rfl ⟨rfl, h⟩
  · replace h := h.2 c
    exact wp_return dX12_must_7 rfl ⟨rfl, h⟩
theorem C_X12_must {d : Nat} {q : HP → Prop} {a0 : Nat} {x1 : Int32} {H : HP} (h : wb_X12_must_0 d q a0 x1 H) : CV (d + 1) 0 0 mX12_must [rv (some a0), .int x1] H q := by
  refine call_of (by decide +kernel) (by simp [lg_sl, rv_cat, vc_int, vc_long, vc_float, vc_double]) ?_
  have e : lv_args 0 [rv (some a0), .int x1] = [(0, rv (some a0)), (1, .int x1)] := by simp [lv_args, rv_cat, vc_int, vc_long, vc_float, vc_double]
  rw [e]
  exact T_X12_must_0 h
def wb_X12_name_0 (d : Nat) (q : HP → Int32 → Prop) (a0 : Nat) (x1 : Int32) (x2 : Int32) (H : HP) : Prop :=
  tg H a0 = 13 ∧ (CZ d 0 0 mX12_isUnit [rv (some a0), .int x1] H (fun H1 b3 => (b3 = false → q H1 (-1 : Int32)) ∧ (b3 = true → tg H1 a0 = 13 ∧ (CI d 0 0 mX12_lettersOf [rv (some a0), .int x1] H1 (fun H4 r6 => CZ d 0 0 mX12_isIn [.long (x2.toInt64), .long (-1 : Int64), .long ((r6 - (1 : Int32)).toInt64)] H4 (fun H7 b8 => (b8 = true → (0 ≤ x2 → tg H7 a0 = 13 ∧ (∃ a10, (hC H7 1301 a0) = some a10 ∧ (isA H7 a10 0 ∧ (vp_in (((4 : Int32) * x1) + x2) (ln H7 a10) ∧ (q H7 (hI H7 (tg H7 a10) a10 (((4 : Int32) * x1) + x2).toNatClampNeg)))))) ∧ (¬ (0 ≤ x2) → tg H7 a0 = 13 ∧ (CI d 0 0 mX12_lettersOf [rv (some a0), .int x1] H7 (fun H13 r15 => q H13 r15)))) ∧ (b8 = false → q H7 (-1 : Int32))))))))
set_option maxRecDepth 40000 in
set_option maxHeartbeats 4000000 in
theorem T_X12_name_0 {d : Nat} {q : HP → Int32 → Prop} {a0 : Nat} {x1 : Int32} {x2 : Int32} {H : HP} (h : wb_X12_name_0 d q a0 x1 x2 H) : WP (d + 1) mX12_name 0 0 0 [(0, rv (some a0)), (1, .int x1), (2, .int x2)] [] H (qI q) := by
  unfold wb_X12_name_0 at h
  refine wp_aload_n 0 dX12_name_0 rfl ?_
  refine wp_iload_n 1 dX12_name_1 rfl ?_
  obtain ⟨ht2, h⟩ := h
  refine wp_callV (ci := 12) (As := [.int x1]) (rest := []) (mc := 0) (ms := 0) dX12_name_2 lk_X12_283 rfl rfl (by decide) rfl rfl rfl ht2 rfl rfl rfl w_7_77 (Call.weaken h ?_)
  rintro H1 _ ⟨b3, rfl, h⟩
  change WP _ _ _ _ _ _ [.int (bI b3)] H1 _
  refine wp_if_eq (tgt := 27) dX12_name_5 rfl (fun c => ?_) (fun c => ?_)
  · replace h := h.1 (bI_0.mp c)
    refine wp_iconst (v := (-1 : Int32)) dX12_name_27 (by decide) ?_
    exact wp_ireturn (ty := .int) dX12_name_28 rfl rfl ⟨_, rfl, h⟩
  · replace h := h.2 (bI_1.mp c)
    refine wp_iload_n 2 dX12_name_8 rfl ?_
    refine wp_i2l dX12_name_9 ?_
    refine wp_ldc2 dX12_name_10 w_7_81 ?_
    refine wp_aload_n 0 dX12_name_13 rfl ?_
    refine wp_iload_n 1 dX12_name_14 rfl ?_
    obtain ⟨ht5, h⟩ := h
    refine wp_callV (ci := 12) (As := [.int x1]) (rest := [.long (-1 : Int64), .long (x2.toInt64)]) (mc := 0) (ms := 0) dX12_name_15 lk_X12_165 rfl rfl (by simp [rv_cat, vc_int, vc_long, vc_float, vc_double]) rfl rfl rfl ht5 rfl rfl rfl w_7_12 (Call.weaken h ?_)
    rintro H4 _ ⟨r6, rfl, h⟩
    change WP _ _ _ _ _ _ [.int r6, .long (-1 : Int64), .long (x2.toInt64)] H4 _
    refine wp_iconst (v := (1 : Int32)) dX12_name_18 (by decide) ?_
    refine wp_isub dX12_name_19 ?_
    refine wp_i2l dX12_name_20 ?_
    refine wp_callS (As := [.long (x2.toInt64), .long (-1 : Int64), .long ((r6 - (1 : Int32)).toInt64)]) (rest := []) (mc := 0) (ms := 0) dX12_name_21 lk_X12_161 rfl rfl (by decide) rfl rfl rfl (Call.weaken h ?_)
    rintro H7 _ ⟨b8, rfl, h⟩
    change WP _ _ _ _ _ _ [.int (bI b8)] H7 _
    refine wp_if_ne (tgt := 29) dX12_name_24 rfl (fun c => ?_) (fun c => ?_)
    · replace h := h.1 (bI_1.mp c)
      refine wp_iload_n 2 dX12_name_29 rfl ?_
      refine wp_if_ge (tgt := 41) dX12_name_30 rfl (fun c => ?_) (fun c => ?_)
      · replace h := h.1 c
        refine wp_aload_n 0 dX12_name_41 rfl ?_
        obtain ⟨ht9, h⟩ := h
        refine wp_getC (ci := 12) (j := 1) dX12_name_42 fi_X12_15r rfl rfl ht9 ?_
        change WP _ _ _ _ _ _ (rv (hC H7 1301 a0) :: _) _ _
        refine wp_iconst (v := (4 : Int32)) dX12_name_45 (by decide) ?_
        refine wp_iload_n 1 dX12_name_46 rfl ?_
        refine wp_imul dX12_name_47 ?_
        refine wp_iload_n 2 dX12_name_48 rfl ?_
        refine wp_iadd dX12_name_49 ?_
        obtain ⟨a10, ha10, h⟩ := h
        obtain ⟨hr11, h⟩ := h
        obtain ⟨hg12, h⟩ := h
        refine wp_iaload dX12_name_50 ha10 hr11 hg12 ?_
        exact wp_ireturn (ty := .int) dX12_name_51 rfl rfl ⟨_, rfl, h⟩
      · replace h := h.2 c
        refine wp_aload_n 0 dX12_name_33 rfl ?_
        refine wp_iload_n 1 dX12_name_34 rfl ?_
        obtain ⟨ht14, h⟩ := h
        refine wp_callV (ci := 12) (As := [.int x1]) (rest := []) (mc := 0) (ms := 0) dX12_name_35 lk_X12_165 rfl rfl (by decide) rfl rfl rfl ht14 rfl rfl rfl w_7_12 (Call.weaken h ?_)
        rintro H13 _ ⟨r15, rfl, h⟩
        change WP _ _ _ _ _ _ [.int r15] H13 _
        refine wp_goto (tgt := 51) dX12_name_38 rfl ?_
        exact wp_ireturn (ty := .int) dX12_name_51 rfl rfl ⟨_, rfl, h⟩
    · replace h := h.2 (bI_0.mp c)
      refine wp_iconst (v := (-1 : Int32)) dX12_name_27 (by decide) ?_
      exact wp_ireturn (ty := .int) dX12_name_28 rfl rfl ⟨_, rfl, h⟩
theorem C_X12_name {d : Nat} {q : HP → Int32 → Prop} {a0 : Nat} {x1 : Int32} {x2 : Int32} {H : HP} (h : wb_X12_name_0 d q a0 x1 x2 H) : CI (d + 1) 0 0 mX12_name [rv (some a0), .int x1, .int x2] H q := by
  refine call_of (by decide +kernel) (by simp [lg_sl, rv_cat, vc_int, vc_long, vc_float, vc_double]) ?_
  have e : lv_args 0 [rv (some a0), .int x1, .int x2] = [(0, rv (some a0)), (1, .int x1), (2, .int x2)] := by simp [lv_args, rv_cat, vc_int, vc_long, vc_float, vc_double]
  rw [e]
  exact T_X12_name_0 h
/-- UnitProverModel.nearest(III)I: the loop at 91 -/
def L_X12_nearest_91 (d : Nat) (q : HP → Int32 → Prop) (a0 : Nat) (x1 : Int32) (x4 : Int32) (x5 : Int32) (H : HP) : Prop := WP (d + 1) mX12_nearest 0 0 91 [(0, rv (some a0)), (1, .int x1), (4, .int x4), (5, .int x5)] [] H (qI q)
def wb_X12_nearest_0 (d : Nat) (q : HP → Int32 → Prop) (a0 : Nat) (x1 : Int32) (x2 : Int32) (x3 : Int32) (H : HP) : Prop :=
  tg H a0 = 13 ∧ (CZ d 0 0 mX12_isUnit [rv (some a0), .int x1] H (fun H1 b3 => (b3 = true → CZ d 0 0 mX12_isIn [.long (x2.toInt64), .long (1 : Int64), .long (999999 : Int64)] H1 (fun H4 b5 => (b5 = false → q H4 (-2 : Int32)) ∧ (b5 = true → CZ d 0 0 mX12_isIn [.long (x3.toInt64), .long (1 : Int64), .long (999999 : Int64)] H4 (fun H6 b7 => (b7 = true → tg H6 a0 = 13 ∧ (CV d 0 0 mX12_becomes [rv (some a0), .long (x2.toInt64), .long (x3.toInt64)] (sI H6 1321 a0 0 (0 : Int32)) (fun H9 => tg H9 a0 = 13 ∧ (∃ a11, (hC H9 1303 a0) = some a11 ∧ (isA H9 a11 3 ∧ (vp_in x1 (ln H9 a11) ∧ (∃ a14, (hC H9 1304 a0) = some a14 ∧ (isA H9 a14 3 ∧ (vp_in x1 (ln H9 a14) ∧ (CV d 0 0 mX12_times [rv (some a0), .long (hL H9 1319 a0 0), .long (hL H9 1320 a0 0), .long (hL H9 (tg H9 a11) a11 x1.toNatClampNeg), .long (hL H9 (tg H9 a14) a14 x1.toNatClampNeg)] H9 (fun H17 => tg H17 a0 = 13 ∧ (((hI H17 1321 a0 0) = 0 → L_X12_nearest_91 d q a0 x1 (-5 : Int32) (0 : Int32) H17) ∧ (¬ ((hI H17 1321 a0 0) = 0) → q H17 (-5 : Int32)))))))))))))) ∧ (b7 = false → q H6 (-2 : Int32)))))) ∧ (b3 = false → q H1 (-1 : Int32))))
set_option maxRecDepth 40000 in
set_option maxHeartbeats 4000000 in
theorem T_X12_nearest_0 {d : Nat} {q : HP → Int32 → Prop} {a0 : Nat} {x1 : Int32} {x2 : Int32} {x3 : Int32} {H : HP} (h : wb_X12_nearest_0 d q a0 x1 x2 x3 H) : WP (d + 1) mX12_nearest 0 0 0 [(0, rv (some a0)), (1, .int x1), (2, .int x2), (3, .int x3)] [] H (qI q) := by
  unfold wb_X12_nearest_0 at h
  refine wp_aload_n 0 dX12_nearest_0 rfl ?_
  refine wp_iload_n 1 dX12_nearest_1 rfl ?_
  obtain ⟨ht2, h⟩ := h
  refine wp_callV (ci := 12) (As := [.int x1]) (rest := []) (mc := 0) (ms := 0) dX12_nearest_2 lk_X12_283 rfl rfl (by decide) rfl rfl rfl ht2 rfl rfl rfl w_7_77 (Call.weaken h ?_)
  rintro H1 _ ⟨b3, rfl, h⟩
  change WP _ _ _ _ _ _ [.int (bI b3)] H1 _
  refine wp_if_ne (tgt := 10) dX12_nearest_5 rfl (fun c => ?_) (fun c => ?_)
  · replace h := h.1 (bI_1.mp c)
    refine wp_iload_n 2 dX12_nearest_10 rfl ?_
    refine wp_i2l dX12_nearest_11 ?_
    refine wp_lconst (v := (1 : Int64)) dX12_nearest_12 (by decide) ?_
    refine wp_ldc2 dX12_nearest_13 w_7_112 ?_
    refine wp_callS (As := [.long (x2.toInt64), .long (1 : Int64), .long (999999 : Int64)]) (rest := []) (mc := 0) (ms := 0) dX12_nearest_16 lk_X12_161 rfl rfl (by decide) rfl rfl rfl (Call.weaken h ?_)
    rintro H4 _ ⟨b5, rfl, h⟩
    change WP _ _ _ _ _ _ [.int (bI b5)] H4 _
    refine wp_if_eq (tgt := 34) dX12_nearest_19 rfl (fun c => ?_) (fun c => ?_)
    · replace h := h.1 (bI_0.mp c)
      refine wp_bipush (v := (-2 : Int32)) dX12_nearest_34 (by decide) ?_
      exact wp_ireturn (ty := .int) dX12_nearest_36 rfl rfl ⟨_, rfl, h⟩
    · replace h := h.2 (bI_1.mp c)
      refine wp_iload_n 3 dX12_nearest_22 rfl ?_
      refine wp_i2l dX12_nearest_23 ?_
      refine wp_lconst (v := (1 : Int64)) dX12_nearest_24 (by decide) ?_
      refine wp_ldc2 dX12_nearest_25 w_7_112 ?_
      refine wp_callS (As := [.long (x3.toInt64), .long (1 : Int64), .long (999999 : Int64)]) (rest := []) (mc := 0) (ms := 0) dX12_nearest_28 lk_X12_161 rfl rfl (by decide) rfl rfl rfl (Call.weaken h ?_)
      rintro H6 _ ⟨b7, rfl, h⟩
      change WP _ _ _ _ _ _ [.int (bI b7)] H6 _
      refine wp_if_ne (tgt := 37) dX12_nearest_31 rfl (fun c => ?_) (fun c => ?_)
      · replace h := h.1 (bI_1.mp c)
        refine wp_aload_n 0 dX12_nearest_37 rfl ?_
        refine wp_iconst (v := (0 : Int32)) dX12_nearest_38 (by decide) ?_
        obtain ⟨ht8, h⟩ := h
        refine wp_putI (ci := 12) (j := 21) dX12_nearest_39 fi_X12_133 rfl (fun z => by cases z) rfl ht8 rfl rfl ?_
        change WP _ _ _ _ _ _ _ (sI H6 1321 a0 0 (0 : Int32)) _
        refine wp_aload_n 0 dX12_nearest_42 rfl ?_
        refine wp_iload_n 2 dX12_nearest_43 rfl ?_
        refine wp_i2l dX12_nearest_44 ?_
        refine wp_iload_n 3 dX12_nearest_45 rfl ?_
        refine wp_i2l dX12_nearest_46 ?_
        refine wp_callV (ci := 12) (As := [.long (x2.toInt64), .long (x3.toInt64)]) (rest := []) (mc := 0) (ms := 0) dX12_nearest_47 lk_X12_157 rfl rfl (by decide) rfl rfl rfl ht8 rfl rfl rfl w_7_37 (Call.weaken h ?_)
        rintro H9 _ ⟨rfl, h⟩
        change WP _ _ _ _ _ _ [] H9 _
        refine wp_aload_n 0 dX12_nearest_50 rfl ?_
        refine wp_aload_n 0 dX12_nearest_51 rfl ?_
        obtain ⟨ht10, h⟩ := h
        refine wp_getL (ci := 12) (j := 19) dX12_nearest_52 fi_X12_143r rfl rfl ht10 ?_
        change WP _ _ _ _ _ _ (.long (hL H9 1319 a0 0) :: _) _ _
        refine wp_aload_n 0 dX12_nearest_55 rfl ?_
        refine wp_getL (ci := 12) (j := 20) dX12_nearest_56 fi_X12_147r rfl rfl ht10 ?_
        change WP _ _ _ _ _ _ (.long (hL H9 1320 a0 0) :: _) _ _
        refine wp_aload_n 0 dX12_nearest_59 rfl ?_
        refine wp_getC (ci := 12) (j := 3) dX12_nearest_60 fi_X12_22r rfl rfl ht10 ?_
        change WP _ _ _ _ _ _ (rv (hC H9 1303 a0) :: _) _ _
        refine wp_iload_n 1 dX12_nearest_63 rfl ?_
        obtain ⟨a11, ha11, h⟩ := h
        obtain ⟨hr12, h⟩ := h
        obtain ⟨hg13, h⟩ := h
        refine wp_laload dX12_nearest_64 ha11 hr12 hg13 ?_
        refine wp_aload_n 0 dX12_nearest_65 rfl ?_
        refine wp_getC (ci := 12) (j := 4) dX12_nearest_66 fi_X12_26r rfl rfl ht10 ?_
        change WP _ _ _ _ _ _ (rv (hC H9 1304 a0) :: _) _ _
        refine wp_iload_n 1 dX12_nearest_69 rfl ?_
        obtain ⟨a14, ha14, h⟩ := h
        obtain ⟨hr15, h⟩ := h
        obtain ⟨hg16, h⟩ := h
        refine wp_laload dX12_nearest_70 ha14 hr15 hg16 ?_
        refine wp_callV (ci := 12) (As := [.long (hL H9 1319 a0 0), .long (hL H9 1320 a0 0), .long (hL H9 (tg H9 a11) a11 x1.toNatClampNeg), .long (hL H9 (tg H9 a14) a14 x1.toNatClampNeg)]) (rest := []) (mc := 0) (ms := 0) dX12_nearest_71 lk_X12_153 rfl rfl (by decide) rfl rfl rfl ht10 rfl rfl rfl w_7_47 (Call.weaken h ?_)
        rintro H17 _ ⟨rfl, h⟩
        change WP _ _ _ _ _ _ [] H17 _
        refine wp_aload_n 0 dX12_nearest_74 rfl ?_
        obtain ⟨ht18, h⟩ := h
        refine wp_getI (ci := 12) (j := 21) dX12_nearest_75 fi_X12_133r rfl rfl ht18 ?_
        change WP _ _ _ _ _ _ (.int (hI H17 1321 a0 0) :: _) _ _
        refine wp_if_eq (tgt := 84) dX12_nearest_78 rfl (fun c => ?_) (fun c => ?_)
        · replace h := h.1 c
          refine wp_bipush (v := (-5 : Int32)) dX12_nearest_84 (by decide) ?_
          refine wp_istore (ls' := [(4, .int (-5 : Int32)), (0, rv (some a0)), (1, .int x1), (2, .int x2), (3, .int x3)]) dX12_nearest_86 (by decide) rfl ?_
          refine wp_iconst (v := (0 : Int32)) dX12_nearest_88 (by decide) ?_
          refine wp_istore (ls' := [(5, .int (0 : Int32)), (4, .int (-5 : Int32)), (0, rv (some a0)), (1, .int x1), (2, .int x2), (3, .int x3)]) dX12_nearest_89 (by decide) rfl ?_
          refine wp_sub (ls' := [(0, rv (some a0)), (1, .int x1), (4, .int (-5 : Int32)), (5, .int (0 : Int32))]) [2, 3, 1, 0] rfl ?_
          exact h
        · replace h := h.2 c
          refine wp_bipush (v := (-5 : Int32)) dX12_nearest_81 (by decide) ?_
          exact wp_ireturn (ty := .int) dX12_nearest_83 rfl rfl ⟨_, rfl, h⟩
      · replace h := h.2 (bI_0.mp c)
        refine wp_bipush (v := (-2 : Int32)) dX12_nearest_34 (by decide) ?_
        exact wp_ireturn (ty := .int) dX12_nearest_36 rfl rfl ⟨_, rfl, h⟩
  · replace h := h.2 (bI_0.mp c)
    refine wp_iconst (v := (-1 : Int32)) dX12_nearest_8 (by decide) ?_
    exact wp_ireturn (ty := .int) dX12_nearest_9 rfl rfl ⟨_, rfl, h⟩
def wb_X12_nearest_91 (d : Nat) (q : HP → Int32 → Prop) (a0 : Nat) (x1 : Int32) (x4 : Int32) (x5 : Int32) (H : HP) : Prop :=
  tg H a0 = 13 ∧ (((hI H 1300 a0 0) ≤ x5 → q H x4) ∧ (¬ ((hI H 1300 a0 0) ≤ x5) → CZ d 0 0 mX12_areLike [rv (some a0), .int x5, .int x1] H (fun H2 b3 => (b3 = false → L_X12_nearest_91 d q a0 x1 x4 (x5 + 1) H2) ∧ (b3 = true → tg H2 a0 = 13 ∧ (∃ a5, (hC H2 1303 a0) = some a5 ∧ (isA H2 a5 3 ∧ (vp_in x5 (ln H2 a5) ∧ (∃ a8, (hC H2 1304 a0) = some a8 ∧ (isA H2 a8 3 ∧ (vp_in x5 (ln H2 a8) ∧ (CZ d 0 0 mX12_isLess [.long (hL H2 1319 a0 0), .long (hL H2 1320 a0 0), .long (hL H2 (tg H2 a5) a5 x5.toNatClampNeg), .long (hL H2 (tg H2 a8) a8 x5.toNatClampNeg)] H2 (fun H11 b12 => (b12 = false → (x4 < 0 → L_X12_nearest_91 d q a0 x1 x5 (x5 + 1) H11) ∧ (¬ (x4 < 0) → tg H11 a0 = 13 ∧ (CZ d 0 0 mX12_isLesser [rv (some a0), .int x4, .int x5] H11 (fun H13 b15 => (b15 = false → L_X12_nearest_91 d q a0 x1 x4 (x5 + 1) H13) ∧ (b15 = true → L_X12_nearest_91 d q a0 x1 x5 (x5 + 1) H13))))) ∧ (b12 = true → L_X12_nearest_91 d q a0 x1 x4 (x5 + 1) H11)))))))))))))
set_option maxRecDepth 40000 in
set_option maxHeartbeats 4000000 in
theorem T_X12_nearest_91 {d : Nat} {q : HP → Int32 → Prop} {a0 : Nat} {x1 : Int32} {x4 : Int32} {x5 : Int32} {H : HP} (h : wb_X12_nearest_91 d q a0 x1 x4 x5 H) : L_X12_nearest_91 d q a0 x1 x4 x5 H := by
  unfold wb_X12_nearest_91 at h
  unfold L_X12_nearest_91
  refine wp_iload 3 dX12_nearest_91 rfl ?_
  refine wp_aload_n 0 dX12_nearest_93 rfl ?_
  obtain ⟨ht1, h⟩ := h
  refine wp_getI (ci := 12) (j := 0) dX12_nearest_94 fi_X12_11r rfl rfl ht1 ?_
  change WP _ _ _ _ _ _ (.int (hI H 1300 a0 0) :: _) _ _
  refine wp_icmp_ge (tgt := 167) dX12_nearest_97 rfl (fun c => ?_) (fun c => ?_)
  · replace h := h.1 c
    refine wp_iload 2 dX12_nearest_167 rfl ?_
    exact wp_ireturn (ty := .int) dX12_nearest_169 rfl rfl ⟨_, rfl, h⟩
  · replace h := h.2 c
    refine wp_aload_n 0 dX12_nearest_100 rfl ?_
    refine wp_iload 3 dX12_nearest_101 rfl ?_
    refine wp_iload_n 1 dX12_nearest_103 rfl ?_
    refine wp_callV (ci := 12) (As := [.int x5, .int x1]) (rest := []) (mc := 0) (ms := 0) dX12_nearest_104 lk_X12_295 rfl rfl (by decide) rfl rfl rfl ht1 rfl rfl rfl w_7_100 (Call.weaken h ?_)
    rintro H2 _ ⟨b3, rfl, h⟩
    change WP _ _ _ _ _ _ [.int (bI b3)] H2 _
    refine wp_if_eq (tgt := 161) dX12_nearest_107 rfl (fun c => ?_) (fun c => ?_)
    · replace h := h.1 (bI_0.mp c)
      refine wp_iinc (v := (x5 + 1)) (ls' := [(5, .int (x5 + 1)), (0, rv (some a0)), (1, .int x1), (4, .int x4)]) 3 dX12_nearest_161 rfl rfl (by decide) rfl ?_
      refine wp_goto (tgt := 91) dX12_nearest_164 rfl ?_
      refine wp_sub (ls' := [(0, rv (some a0)), (1, .int x1), (4, .int x4), (5, .int (x5 + 1))]) [1, 2, 3, 0] rfl ?_
      exact h
    · replace h := h.2 (bI_1.mp c)
      refine wp_aload_n 0 dX12_nearest_110 rfl ?_
      obtain ⟨ht4, h⟩ := h
      refine wp_getL (ci := 12) (j := 19) dX12_nearest_111 fi_X12_143r rfl rfl ht4 ?_
      change WP _ _ _ _ _ _ (.long (hL H2 1319 a0 0) :: _) _ _
      refine wp_aload_n 0 dX12_nearest_114 rfl ?_
      refine wp_getL (ci := 12) (j := 20) dX12_nearest_115 fi_X12_147r rfl rfl ht4 ?_
      change WP _ _ _ _ _ _ (.long (hL H2 1320 a0 0) :: _) _ _
      refine wp_aload_n 0 dX12_nearest_118 rfl ?_
      refine wp_getC (ci := 12) (j := 3) dX12_nearest_119 fi_X12_22r rfl rfl ht4 ?_
      change WP _ _ _ _ _ _ (rv (hC H2 1303 a0) :: _) _ _
      refine wp_iload 3 dX12_nearest_122 rfl ?_
      obtain ⟨a5, ha5, h⟩ := h
      obtain ⟨hr6, h⟩ := h
      obtain ⟨hg7, h⟩ := h
      refine wp_laload dX12_nearest_124 ha5 hr6 hg7 ?_
      refine wp_aload_n 0 dX12_nearest_125 rfl ?_
      refine wp_getC (ci := 12) (j := 4) dX12_nearest_126 fi_X12_26r rfl rfl ht4 ?_
      change WP _ _ _ _ _ _ (rv (hC H2 1304 a0) :: _) _ _
      refine wp_iload 3 dX12_nearest_129 rfl ?_
      obtain ⟨a8, ha8, h⟩ := h
      obtain ⟨hr9, h⟩ := h
      obtain ⟨hg10, h⟩ := h
      refine wp_laload dX12_nearest_131 ha8 hr9 hg10 ?_
      refine wp_callS (As := [.long (hL H2 1319 a0 0), .long (hL H2 1320 a0 0), .long (hL H2 (tg H2 a5) a5 x5.toNatClampNeg), .long (hL H2 (tg H2 a8) a8 x5.toNatClampNeg)]) (rest := []) (mc := 0) (ms := 0) dX12_nearest_132 lk_X12_303 rfl rfl (by decide) rfl rfl rfl (Call.weaken h ?_)
      rintro H11 _ ⟨b12, rfl, h⟩
      change WP _ _ _ _ _ _ [.int (bI b12)] H11 _
      refine wp_if_eq (tgt := 141) dX12_nearest_135 rfl (fun c => ?_) (fun c => ?_)
      · replace h := h.1 (bI_0.mp c)
        refine wp_iload 2 dX12_nearest_141 rfl ?_
        refine wp_if_lt (tgt := 157) dX12_nearest_143 rfl (fun c => ?_) (fun c => ?_)
        · replace h := h.1 c
          refine wp_iload 3 dX12_nearest_157 rfl ?_
          refine wp_istore (ls' := [(4, .int x5), (0, rv (some a0)), (1, .int x1), (5, .int x5)]) dX12_nearest_159 (by decide) rfl ?_
          refine wp_iinc (v := (x5 + 1)) (ls' := [(5, .int (x5 + 1)), (4, .int x5), (0, rv (some a0)), (1, .int x1)]) 3 dX12_nearest_161 rfl rfl (by decide) rfl ?_
          refine wp_goto (tgt := 91) dX12_nearest_164 rfl ?_
          refine wp_sub (ls' := [(0, rv (some a0)), (1, .int x1), (4, .int x5), (5, .int (x5 + 1))]) [2, 3, 1, 0] rfl ?_
          exact h
        · replace h := h.2 c
          refine wp_aload_n 0 dX12_nearest_146 rfl ?_
          refine wp_iload 2 dX12_nearest_147 rfl ?_
          refine wp_iload 3 dX12_nearest_149 rfl ?_
          obtain ⟨ht14, h⟩ := h
          refine wp_callV (ci := 12) (As := [.int x4, .int x5]) (rest := []) (mc := 0) (ms := 0) dX12_nearest_151 lk_X12_309 rfl rfl (by decide) rfl rfl rfl ht14 rfl rfl rfl w_7_116 (Call.weaken h ?_)
          rintro H13 _ ⟨b15, rfl, h⟩
          change WP _ _ _ _ _ _ [.int (bI b15)] H13 _
          refine wp_if_eq (tgt := 161) dX12_nearest_154 rfl (fun c => ?_) (fun c => ?_)
          · replace h := h.1 (bI_0.mp c)
            refine wp_iinc (v := (x5 + 1)) (ls' := [(5, .int (x5 + 1)), (0, rv (some a0)), (1, .int x1), (4, .int x4)]) 3 dX12_nearest_161 rfl rfl (by decide) rfl ?_
            refine wp_goto (tgt := 91) dX12_nearest_164 rfl ?_
            refine wp_sub (ls' := [(0, rv (some a0)), (1, .int x1), (4, .int x4), (5, .int (x5 + 1))]) [1, 2, 3, 0] rfl ?_
            exact h
          · replace h := h.2 (bI_1.mp c)
            refine wp_iload 3 dX12_nearest_157 rfl ?_
            refine wp_istore (ls' := [(4, .int x5), (0, rv (some a0)), (1, .int x1), (5, .int x5)]) dX12_nearest_159 (by decide) rfl ?_
            refine wp_iinc (v := (x5 + 1)) (ls' := [(5, .int (x5 + 1)), (4, .int x5), (0, rv (some a0)), (1, .int x1)]) 3 dX12_nearest_161 rfl rfl (by decide) rfl ?_
            refine wp_goto (tgt := 91) dX12_nearest_164 rfl ?_
            refine wp_sub (ls' := [(0, rv (some a0)), (1, .int x1), (4, .int x5), (5, .int (x5 + 1))]) [2, 3, 1, 0] rfl ?_
            exact h
      · replace h := h.2 (bI_1.mp c)
        refine wp_goto (tgt := 161) dX12_nearest_138 rfl ?_
        refine wp_iinc (v := (x5 + 1)) (ls' := [(5, .int (x5 + 1)), (0, rv (some a0)), (1, .int x1), (4, .int x4)]) 3 dX12_nearest_161 rfl rfl (by decide) rfl ?_
        refine wp_goto (tgt := 91) dX12_nearest_164 rfl ?_
        refine wp_sub (ls' := [(0, rv (some a0)), (1, .int x1), (4, .int x4), (5, .int (x5 + 1))]) [1, 2, 3, 0] rfl ?_
        exact h
theorem C_X12_nearest {d : Nat} {q : HP → Int32 → Prop} {a0 : Nat} {x1 : Int32} {x2 : Int32} {x3 : Int32} {H : HP} (h : wb_X12_nearest_0 d q a0 x1 x2 x3 H) : CI (d + 1) 0 0 mX12_nearest [rv (some a0), .int x1, .int x2, .int x3] H q := by
  refine call_of (by decide +kernel) (by simp [lg_sl, rv_cat, vc_int, vc_long, vc_float, vc_double]) ?_
  have e : lv_args 0 [rv (some a0), .int x1, .int x2, .int x3] = [(0, rv (some a0)), (1, .int x1), (2, .int x2), (3, .int x3)] := by simp [lv_args, rv_cat, vc_int, vc_long, vc_float, vc_double]
  rw [e]
  exact T_X12_nearest_0 h
/-- UnitProverModel.numbered()I: the loop at 142 -/
def L_X12_numbered_142 (d : Nat) (q : HP → Int32 → Prop) (a0 : Nat) (H : HP) : Prop := WP (d + 1) mX12_numbered 0 0 142 [(0, rv (some a0))] [] H (qI q)
def wb_X12_numbered_100 (d : Nat) (q : HP → Int32 → Prop) (a0 : Nat) (x1 : Int64) (x3 : Int32) (x4 : Int32) (s0 : Option Nat) (s1 : Int32) (H : HP) : Prop :=
  ∃ a1, s0 = some a1 ∧ (tg H a1 = 13 ∧ (okZ s1 ∧ (tg (sI H 1349 a1 0 s1) a0 = 13 ∧ (CZ d 0 0 mX12_goesOn [rv (some a0)] (sI H 1349 a1 0 s1) (fun H4 b6 => (b6 = false → q H4 (-1 : Int32)) ∧ (b6 = true → tg H4 a0 = 13 ∧ (CI d 0 0 mX12_measured [rv (some a0), .long x1, .int x3, .int x4] H4 (fun H7 r9 => q H7 r9))))))))
set_option maxRecDepth 40000 in
set_option maxHeartbeats 4000000 in
theorem T_X12_numbered_100 {d : Nat} {q : HP → Int32 → Prop} {a0 : Nat} {x1 : Int64} {x3 : Int32} {x4 : Int32} {s0 : Option Nat} {s1 : Int32} {H : HP} (h : wb_X12_numbered_100 d q a0 x1 x3 x4 s0 s1 H) : WP (d + 1) mX12_numbered 0 0 100 [(0, rv (some a0)), (1, .long x1), (3, .int x3), (4, .int x4)] [.int s1, rv s0] H (qI q) := by
  unfold wb_X12_numbered_100 at h
  obtain ⟨a1, ha1, h⟩ := h
  obtain ⟨ht2, h⟩ := h
  obtain ⟨hg3, h⟩ := h
  refine wp_putI (ci := 12) (j := 49) dX12_numbered_100 fi_X12_359 rfl (fun z => by cases z) ha1 ht2 (nar_Z hg3).1 (nar_Z hg3).2 ?_
  change WP _ _ _ _ _ _ _ (sI H 1349 a1 0 s1) _
  refine wp_aload_n 0 dX12_numbered_103 rfl ?_
  obtain ⟨ht5, h⟩ := h
  refine wp_callV (ci := 12) (As := []) (rest := []) (mc := 0) (ms := 0) dX12_numbered_104 lk_X12_346 rfl rfl (by decide) rfl rfl rfl ht5 rfl rfl rfl w_7_149 (Call.weaken h ?_)
  rintro H4 _ ⟨b6, rfl, h⟩
  change WP _ _ _ _ _ _ [.int (bI b6)] H4 _
  refine wp_if_eq (tgt := 121) dX12_numbered_107 rfl (fun c => ?_) (fun c => ?_)
  · replace h := h.1 (bI_0.mp c)
    refine wp_iconst (v := (-1 : Int32)) dX12_numbered_121 (by decide) ?_
    exact wp_ireturn (ty := .int) dX12_numbered_122 rfl rfl ⟨_, rfl, h⟩
  · replace h := h.2 (bI_1.mp c)
    refine wp_aload_n 0 dX12_numbered_110 rfl ?_
    refine wp_lload_n 1 dX12_numbered_111 rfl ?_
    refine wp_iload_n 2 dX12_numbered_112 rfl ?_
    refine wp_iload 3 dX12_numbered_113 rfl ?_
    obtain ⟨ht8, h⟩ := h
    refine wp_callV (ci := 12) (As := [.long x1, .int x3, .int x4]) (rest := []) (mc := 0) (ms := 0) dX12_numbered_115 lk_X12_362 rfl rfl (by decide) rfl rfl rfl ht8 rfl rfl rfl w_7_173 (Call.weaken h ?_)
    rintro H7 _ ⟨r9, rfl, h⟩
    change WP _ _ _ _ _ _ [.int r9] H7 _
    refine wp_goto (tgt := 122) dX12_numbered_118 rfl ?_
    exact wp_ireturn (ty := .int) dX12_numbered_122 rfl rfl ⟨_, rfl, h⟩
def wb_X12_numbered_0 (d : Nat) (q : HP → Int32 → Prop) (a0 : Nat) (H : HP) : Prop :=
  tg H a0 = 13 ∧ (CJ d 0 0 mX12_amount [rv (some a0)] (sI H 1352 a0 0 (0 : Int32)) (fun H2 r3 => tg H2 a0 = 13 ∧ ((0 ≤ (hI H2 1325 a0 0) → CZ d 0 0 mX12_goesOn [rv (some a0)] H2 (fun H5 b6 => (b6 = false → q H5 (-1 : Int32)) ∧ (b6 = true → tg H5 a0 = 13 ∧ ((0 ≤ (hI H5 1325 a0 0) → q H5 (-1 : Int32)) ∧ (¬ (0 ≤ (hI H5 1325 a0 0)) → CI d 0 0 mX12_plain [rv (some a0), .long r3] H5 (fun H8 r9 => q H8 r9)))))) ∧ (¬ (0 ≤ (hI H2 1325 a0 0)) → CZ d 0 0 mX12_isLetter [rv (some a0)] H2 (fun H10 b11 => (b11 = true → tg H10 a0 = 13 ∧ (CI d 0 0 mX12_unit [rv (some a0)] H10 (fun H12 r14 => tg H12 a0 = 13 ∧ (((hI H12 1325 a0 0) < 0 → CZ d 0 0 mX12_isOwn [rv (some a0)] H12 (fun H16 b17 => (b17 = true → tg H16 a0 = 13 ∧ (CI d 0 0 mX12_figure [rv (some a0)] H16 (fun H18 r20 => (r14 < 0 → wb_X12_numbered_100 d q a0 r3 r14 r20 (some a0) (0 : Int32) H18) ∧ (¬ (r14 < 0) → tg H18 a0 = 13 ∧ (CZ d 0 0 mX12_hasOffset [rv (some a0), .int r14] H18 (fun H21 b23 => (b23 = false → wb_X12_numbered_100 d q a0 r3 r14 r20 (some a0) (0 : Int32) H21) ∧ (b23 = true → wb_X12_numbered_100 d q a0 r3 r14 r20 (some a0) (1 : Int32) H21))))))) ∧ (b17 = false → tg H16 a0 = 13 ∧ (CZ d 0 0 mX12_isFigure [rv (some a0)] H16 (fun H24 b26 => (b26 = true → tg H24 a0 = 13 ∧ (∃ a28, (hC H24 1350 a0) = some a28 ∧ (isA H24 a28 3 ∧ (vp_in (0 : Int32) (ln H24 a28) ∧ (∃ a31, (hC (sL H24 (tg H24 a28) a28 (0 : Int32).toNatClampNeg r3) 1351 a0) = some a31 ∧ (isA (sL H24 (tg H24 a28) a28 (0 : Int32).toNatClampNeg r3) a31 0 ∧ (vp_in (0 : Int32) (ln (sL H24 (tg H24 a28) a28 (0 : Int32).toNatClampNeg r3) a31) ∧ (∀ H34, (sI (sI (sL H24 (tg H24 a28) a28 (0 : Int32).toNatClampNeg r3) (tg (sL H24 (tg H24 a28) a28 (0 : Int32).toNatClampNeg r3) a31) a31 (0 : Int32).toNatClampNeg r14) 1352 a0 0 (1 : Int32)) = H34 → (L_X12_numbered_142 d q a0 H34))))))))) ∧ (b26 = false → tg H24 a0 = 13 ∧ (CI d 0 0 mX12_figure [rv (some a0)] H24 (fun H39 r41 => (r14 < 0 → wb_X12_numbered_100 d q a0 r3 r14 r41 (some a0) (0 : Int32) H39) ∧ (¬ (r14 < 0) → tg H39 a0 = 13 ∧ (CZ d 0 0 mX12_hasOffset [rv (some a0), .int r14] H39 (fun H42 b44 => (b44 = false → wb_X12_numbered_100 d q a0 r3 r14 r41 (some a0) (0 : Int32) H42) ∧ (b44 = true → wb_X12_numbered_100 d q a0 r3 r14 r41 (some a0) (1 : Int32) H42)))))))))))) ∧ (¬ ((hI H12 1325 a0 0) < 0) → q H12 (-1 : Int32)))))) ∧ (b11 = false → tg H10 a0 = 13 ∧ (CZ d 0 0 mX12_goesOn [rv (some a0)] H10 (fun H45 b47 => (b47 = false → q H45 (-1 : Int32)) ∧ (b47 = true → tg H45 a0 = 13 ∧ ((0 ≤ (hI H45 1325 a0 0) → q H45 (-1 : Int32)) ∧ (¬ (0 ≤ (hI H45 1325 a0 0)) → CI d 0 0 mX12_plain [rv (some a0), .long r3] H45 (fun H49 r50 => q H49 r50))))))))))))
set_option maxRecDepth 40000 in
set_option maxHeartbeats 4000000 in
theorem T_X12_numbered_0 {d : Nat} {q : HP → Int32 → Prop} {a0 : Nat} {H : HP} (h : wb_X12_numbered_0 d q a0 H) : WP (d + 1) mX12_numbered 0 0 0 [(0, rv (some a0))] [] H (qI q) := by
  unfold wb_X12_numbered_0 at h
  refine wp_aload_n 0 dX12_numbered_0 rfl ?_
  refine wp_iconst (v := (0 : Int32)) dX12_numbered_1 (by decide) ?_
  obtain ⟨ht1, h⟩ := h
  refine wp_putI (ci := 12) (j := 52) dX12_numbered_2 fi_X12_336 rfl (fun z => by cases z) rfl ht1 rfl rfl ?_
  change WP _ _ _ _ _ _ _ (sI H 1352 a0 0 (0 : Int32)) _
  refine wp_aload_n 0 dX12_numbered_5 rfl ?_
  refine wp_callV (ci := 12) (As := []) (rest := []) (mc := 0) (ms := 0) dX12_numbered_6 lk_X12_342 rfl rfl (by decide) rfl rfl rfl ht1 rfl rfl rfl w_7_144 (Call.weaken h ?_)
  rintro H2 _ ⟨r3, rfl, h⟩
  change WP _ _ _ _ _ _ [.long r3] H2 _
  refine wp_lstore_n (ls' := [(1, .long r3), (0, rv (some a0))]) dX12_numbered_9 (by decide) rfl ?_
  refine wp_aload_n 1 dX12_numbered_10 rfl ?_
  obtain ⟨ht4, h⟩ := h
  refine wp_getI (ci := 12) (j := 25) dX12_numbered_11 fi_X12_189r rfl rfl ht4 ?_
  change WP _ _ _ _ _ _ (.int (hI H2 1325 a0 0) :: _) _ _
  refine wp_if_ge (tgt := 24) dX12_numbered_14 rfl (fun c => ?_) (fun c => ?_)
  · replace h := h.1 c
    refine wp_aload_n 1 dX12_numbered_24 rfl ?_
    refine wp_callV (ci := 12) (As := []) (rest := []) (mc := 0) (ms := 0) dX12_numbered_25 lk_X12_346 rfl rfl (by decide) rfl rfl rfl ht4 rfl rfl rfl w_7_149 (Call.weaken h ?_)
    rintro H5 _ ⟨b6, rfl, h⟩
    change WP _ _ _ _ _ _ [.int (bI b6)] H5 _
    refine wp_if_eq (tgt := 46) dX12_numbered_28 rfl (fun c => ?_) (fun c => ?_)
    · replace h := h.1 (bI_0.mp c)
      refine wp_iconst (v := (-1 : Int32)) dX12_numbered_46 (by decide) ?_
      exact wp_ireturn (ty := .int) dX12_numbered_47 rfl rfl ⟨_, rfl, h⟩
    · replace h := h.2 (bI_1.mp c)
      refine wp_aload_n 1 dX12_numbered_31 rfl ?_
      obtain ⟨ht7, h⟩ := h
      refine wp_getI (ci := 12) (j := 25) dX12_numbered_32 fi_X12_189r rfl rfl ht7 ?_
      change WP _ _ _ _ _ _ (.int (hI H5 1325 a0 0) :: _) _ _
      refine wp_if_ge (tgt := 46) dX12_numbered_35 rfl (fun c => ?_) (fun c => ?_)
      · replace h := h.1 c
        refine wp_iconst (v := (-1 : Int32)) dX12_numbered_46 (by decide) ?_
        exact wp_ireturn (ty := .int) dX12_numbered_47 rfl rfl ⟨_, rfl, h⟩
      · replace h := h.2 c
        refine wp_aload_n 1 dX12_numbered_38 rfl ?_
        refine wp_lload_n 0 dX12_numbered_39 rfl ?_
        refine wp_callV (ci := 12) (As := [.long r3]) (rest := []) (mc := 0) (ms := 0) dX12_numbered_40 lk_X12_349 rfl rfl (by decide) rfl rfl rfl ht7 rfl rfl rfl w_7_153 (Call.weaken h ?_)
        rintro H8 _ ⟨r9, rfl, h⟩
        change WP _ _ _ _ _ _ [.int r9] H8 _
        refine wp_goto (tgt := 47) dX12_numbered_43 rfl ?_
        exact wp_ireturn (ty := .int) dX12_numbered_47 rfl rfl ⟨_, rfl, h⟩
  · replace h := h.2 c
    refine wp_aload_n 1 dX12_numbered_17 rfl ?_
    refine wp_callV (ci := 12) (As := []) (rest := []) (mc := 0) (ms := 0) dX12_numbered_18 lk_X12_195 rfl rfl (by decide) rfl rfl rfl ht4 rfl rfl rfl w_6_202 (Call.weaken h ?_)
    rintro H10 _ ⟨b11, rfl, h⟩
    change WP _ _ _ _ _ _ [.int (bI b11)] H10 _
    refine wp_if_ne (tgt := 48) dX12_numbered_21 rfl (fun c => ?_) (fun c => ?_)
    · replace h := h.1 (bI_1.mp c)
      refine wp_aload_n 1 dX12_numbered_48 rfl ?_
      obtain ⟨ht13, h⟩ := h
      refine wp_callV (ci := 12) (As := []) (rest := []) (mc := 0) (ms := 0) dX12_numbered_49 lk_X12_353 rfl rfl (by decide) rfl rfl rfl ht13 rfl rfl rfl w_7_165 (Call.weaken h ?_)
      rintro H12 _ ⟨r14, rfl, h⟩
      change WP _ _ _ _ _ _ [.int r14] H12 _
      refine wp_istore_n (ls' := [(3, .int r14), (1, .long r3), (0, rv (some a0))]) dX12_numbered_52 (by decide) rfl ?_
      refine wp_aload_n 2 dX12_numbered_53 rfl ?_
      obtain ⟨ht15, h⟩ := h
      refine wp_getI (ci := 12) (j := 25) dX12_numbered_54 fi_X12_189r rfl rfl ht15 ?_
      change WP _ _ _ _ _ _ (.int (hI H12 1325 a0 0) :: _) _ _
      refine wp_if_lt (tgt := 62) dX12_numbered_57 rfl (fun c => ?_) (fun c => ?_)
      · replace h := h.1 c
        refine wp_aload_n 2 dX12_numbered_62 rfl ?_
        refine wp_callV (ci := 12) (As := []) (rest := []) (mc := 0) (ms := 0) dX12_numbered_63 lk_X12_356 rfl rfl (by decide) rfl rfl rfl ht15 rfl rfl rfl w_7_169 (Call.weaken h ?_)
        rintro H16 _ ⟨b17, rfl, h⟩
        change WP _ _ _ _ _ _ [.int (bI b17)] H16 _
        refine wp_if_ne (tgt := 76) dX12_numbered_66 rfl (fun c => ?_) (fun c => ?_)
        · replace h := h.1 (bI_1.mp c)
          refine wp_aload_n 2 dX12_numbered_76 rfl ?_
          obtain ⟨ht19, h⟩ := h
          refine wp_callV (ci := 12) (As := []) (rest := []) (mc := 0) (ms := 0) dX12_numbered_77 lk_X12_215 rfl rfl (by decide) rfl rfl rfl ht19 rfl rfl rfl w_6_238 (Call.weaken h ?_)
          rintro H18 _ ⟨r20, rfl, h⟩
          change WP _ _ _ _ _ _ [.int r20] H18 _
          refine wp_istore (ls' := [(4, .int r20), (3, .int r14), (1, .long r3), (0, rv (some a0))]) dX12_numbered_80 (by decide) rfl ?_
          refine wp_aload_n 3 dX12_numbered_82 rfl ?_
          refine wp_iload_n 1 dX12_numbered_83 rfl ?_
          refine wp_if_lt (tgt := 99) dX12_numbered_84 rfl (fun c => ?_) (fun c => ?_)
          · replace h := h.1 c
            refine wp_iconst (v := (0 : Int32)) dX12_numbered_99 (by decide) ?_
            refine wp_sub (ls' := [(0, rv (some a0)), (1, .long r3), (3, .int r14), (4, .int r20)]) [3, 2, 1, 0] rfl ?_
            exact T_X12_numbered_100 h
          · replace h := h.2 c
            refine wp_aload_n 3 dX12_numbered_87 rfl ?_
            refine wp_iload_n 1 dX12_numbered_88 rfl ?_
            obtain ⟨ht22, h⟩ := h
            refine wp_callV (ci := 12) (As := [.int r14]) (rest := [rv (some a0)]) (mc := 0) (ms := 0) dX12_numbered_89 lk_X12_247 rfl rfl (by simp [rv_cat, vc_int, vc_long, vc_float, vc_double]) rfl rfl rfl ht22 rfl rfl rfl w_7_16 (Call.weaken h ?_)
            rintro H21 _ ⟨b23, rfl, h⟩
            change WP _ _ _ _ _ _ [.int (bI b23), rv (some a0)] H21 _
            refine wp_if_eq (tgt := 99) dX12_numbered_92 rfl (fun c => ?_) (fun c => ?_)
            · replace h := h.1 (bI_0.mp c)
              refine wp_iconst (v := (0 : Int32)) dX12_numbered_99 (by decide) ?_
              refine wp_sub (ls' := [(0, rv (some a0)), (1, .long r3), (3, .int r14), (4, .int r20)]) [3, 2, 1, 0] rfl ?_
              exact T_X12_numbered_100 h
            · replace h := h.2 (bI_1.mp c)
              refine wp_iconst (v := (1 : Int32)) dX12_numbered_95 (by decide) ?_
              refine wp_goto (tgt := 100) dX12_numbered_96 rfl ?_
              refine wp_sub (ls' := [(0, rv (some a0)), (1, .long r3), (3, .int r14), (4, .int r20)]) [3, 2, 1, 0] rfl ?_
              exact T_X12_numbered_100 h
        · replace h := h.2 (bI_0.mp c)
          refine wp_aload_n 2 dX12_numbered_69 rfl ?_
          obtain ⟨ht25, h⟩ := h
          refine wp_callV (ci := 12) (As := []) (rest := []) (mc := 0) (ms := 0) dX12_numbered_70 lk_X12_199 rfl rfl (by decide) rfl rfl rfl ht25 rfl rfl rfl w_6_224 (Call.weaken h ?_)
          rintro H24 _ ⟨b26, rfl, h⟩
          change WP _ _ _ _ _ _ [.int (bI b26)] H24 _
          refine wp_if_ne (tgt := 123) dX12_numbered_73 rfl (fun c => ?_) (fun c => ?_)
          · replace h := h.1 (bI_1.mp c)
            refine wp_aload_n 2 dX12_numbered_123 rfl ?_
            obtain ⟨ht27, h⟩ := h
            refine wp_getC (ci := 12) (j := 50) dX12_numbered_124 fi_X12_89r rfl rfl ht27 ?_
            change WP _ _ _ _ _ _ (rv (hC H24 1350 a0) :: _) _ _
            refine wp_iconst (v := (0 : Int32)) dX12_numbered_127 (by decide) ?_
            refine wp_lload_n 1 dX12_numbered_128 rfl ?_
            obtain ⟨a28, ha28, h⟩ := h
            obtain ⟨hr29, h⟩ := h
            obtain ⟨hg30, h⟩ := h
            refine wp_lastore dX12_numbered_129 ha28 hr29 hg30 ?_
            change WP _ _ _ _ _ _ _ (sL H24 (tg H24 a28) a28 (0 : Int32).toNatClampNeg r3) _
            refine wp_aload_n 2 dX12_numbered_130 rfl ?_
            refine wp_getC (ci := 12) (j := 51) dX12_numbered_131 fi_X12_92r rfl rfl ht27 ?_
            change WP _ _ _ _ _ _ (rv (hC (sL H24 (tg H24 a28) a28 (0 : Int32).toNatClampNeg r3) 1351 a0) :: _) _ _
            refine wp_iconst (v := (0 : Int32)) dX12_numbered_134 (by decide) ?_
            refine wp_iload_n 0 dX12_numbered_135 rfl ?_
            obtain ⟨a31, ha31, h⟩ := h
            obtain ⟨hr32, h⟩ := h
            obtain ⟨hg33, h⟩ := h
            refine wp_iastore dX12_numbered_136 ha31 hr32 hg33 ?_
            change WP _ _ _ _ _ _ _ (sI (sL H24 (tg H24 a28) a28 (0 : Int32).toNatClampNeg r3) (tg (sL H24 (tg H24 a28) a28 (0 : Int32).toNatClampNeg r3) a31) a31 (0 : Int32).toNatClampNeg r14) _
            refine wp_aload_n 2 dX12_numbered_137 rfl ?_
            refine wp_iconst (v := (1 : Int32)) dX12_numbered_138 (by decide) ?_
            refine wp_putI (ci := 12) (j := 52) dX12_numbered_139 fi_X12_336 rfl (fun z => by cases z) rfl ht27 rfl rfl ?_
            change WP _ _ _ _ _ _ _ (sI (sI (sL H24 (tg H24 a28) a28 (0 : Int32).toNatClampNeg r3) (tg (sL H24 (tg H24 a28) a28 (0 : Int32).toNatClampNeg r3) a31) a31 (0 : Int32).toNatClampNeg r14) 1352 a0 0 (1 : Int32)) _
            replace h := h _ rfl
            generalize e35 : (sI (sI (sL H24 (tg H24 a28) a28 (0 : Int32).toNatClampNeg r3) (tg (sL H24 (tg H24 a28) a28 (0 : Int32).toNatClampNeg r3) a31) a31 (0 : Int32).toNatClampNeg r14) 1352 a0 0 (1 : Int32)) = H34 at h ⊢
            have ht36 : tg H34 a0 = 13 := by rw [← e35]; exact ht27
            have hr37 : isA H34 a28 3 := by rw [← e35]; exact hr29
            have hr38 : isA H34 a31 0 := by rw [← e35]; exact hr32
            refine wp_sub (ls' := [(0, rv (some a0))]) [2] rfl ?_
            exact h
          · replace h := h.2 (bI_0.mp c)
            refine wp_aload_n 2 dX12_numbered_76 rfl ?_
            obtain ⟨ht40, h⟩ := h
            refine wp_callV (ci := 12) (As := []) (rest := []) (mc := 0) (ms := 0) dX12_numbered_77 lk_X12_215 rfl rfl (by decide) rfl rfl rfl ht40 rfl rfl rfl w_6_238 (Call.weaken h ?_)
            rintro H39 _ ⟨r41, rfl, h⟩
            change WP _ _ _ _ _ _ [.int r41] H39 _
            refine wp_istore (ls' := [(4, .int r41), (3, .int r14), (1, .long r3), (0, rv (some a0))]) dX12_numbered_80 (by decide) rfl ?_
            refine wp_aload_n 3 dX12_numbered_82 rfl ?_
            refine wp_iload_n 1 dX12_numbered_83 rfl ?_
            refine wp_if_lt (tgt := 99) dX12_numbered_84 rfl (fun c => ?_) (fun c => ?_)
            · replace h := h.1 c
              refine wp_iconst (v := (0 : Int32)) dX12_numbered_99 (by decide) ?_
              refine wp_sub (ls' := [(0, rv (some a0)), (1, .long r3), (3, .int r14), (4, .int r41)]) [3, 2, 1, 0] rfl ?_
              exact T_X12_numbered_100 h
            · replace h := h.2 c
              refine wp_aload_n 3 dX12_numbered_87 rfl ?_
              refine wp_iload_n 1 dX12_numbered_88 rfl ?_
              obtain ⟨ht43, h⟩ := h
              refine wp_callV (ci := 12) (As := [.int r14]) (rest := [rv (some a0)]) (mc := 0) (ms := 0) dX12_numbered_89 lk_X12_247 rfl rfl (by simp [rv_cat, vc_int, vc_long, vc_float, vc_double]) rfl rfl rfl ht43 rfl rfl rfl w_7_16 (Call.weaken h ?_)
              rintro H42 _ ⟨b44, rfl, h⟩
              change WP _ _ _ _ _ _ [.int (bI b44), rv (some a0)] H42 _
              refine wp_if_eq (tgt := 99) dX12_numbered_92 rfl (fun c => ?_) (fun c => ?_)
              · replace h := h.1 (bI_0.mp c)
                refine wp_iconst (v := (0 : Int32)) dX12_numbered_99 (by decide) ?_
                refine wp_sub (ls' := [(0, rv (some a0)), (1, .long r3), (3, .int r14), (4, .int r41)]) [3, 2, 1, 0] rfl ?_
                exact T_X12_numbered_100 h
              · replace h := h.2 (bI_1.mp c)
                refine wp_iconst (v := (1 : Int32)) dX12_numbered_95 (by decide) ?_
                refine wp_goto (tgt := 100) dX12_numbered_96 rfl ?_
                refine wp_sub (ls' := [(0, rv (some a0)), (1, .long r3), (3, .int r14), (4, .int r41)]) [3, 2, 1, 0] rfl ?_
                exact T_X12_numbered_100 h
      · replace h := h.2 c
        refine wp_iconst (v := (-1 : Int32)) dX12_numbered_60 (by decide) ?_
        exact wp_ireturn (ty := .int) dX12_numbered_61 rfl rfl ⟨_, rfl, h⟩
    · replace h := h.2 (bI_0.mp c)
      refine wp_aload_n 1 dX12_numbered_24 rfl ?_
      obtain ⟨ht46, h⟩ := h
      refine wp_callV (ci := 12) (As := []) (rest := []) (mc := 0) (ms := 0) dX12_numbered_25 lk_X12_346 rfl rfl (by decide) rfl rfl rfl ht46 rfl rfl rfl w_7_149 (Call.weaken h ?_)
      rintro H45 _ ⟨b47, rfl, h⟩
      change WP _ _ _ _ _ _ [.int (bI b47)] H45 _
      refine wp_if_eq (tgt := 46) dX12_numbered_28 rfl (fun c => ?_) (fun c => ?_)
      · replace h := h.1 (bI_0.mp c)
        refine wp_iconst (v := (-1 : Int32)) dX12_numbered_46 (by decide) ?_
        exact wp_ireturn (ty := .int) dX12_numbered_47 rfl rfl ⟨_, rfl, h⟩
      · replace h := h.2 (bI_1.mp c)
        refine wp_aload_n 1 dX12_numbered_31 rfl ?_
        obtain ⟨ht48, h⟩ := h
        refine wp_getI (ci := 12) (j := 25) dX12_numbered_32 fi_X12_189r rfl rfl ht48 ?_
        change WP _ _ _ _ _ _ (.int (hI H45 1325 a0 0) :: _) _ _
        refine wp_if_ge (tgt := 46) dX12_numbered_35 rfl (fun c => ?_) (fun c => ?_)
        · replace h := h.1 c
          refine wp_iconst (v := (-1 : Int32)) dX12_numbered_46 (by decide) ?_
          exact wp_ireturn (ty := .int) dX12_numbered_47 rfl rfl ⟨_, rfl, h⟩
        · replace h := h.2 c
          refine wp_aload_n 1 dX12_numbered_38 rfl ?_
          refine wp_lload_n 0 dX12_numbered_39 rfl ?_
          refine wp_callV (ci := 12) (As := [.long r3]) (rest := []) (mc := 0) (ms := 0) dX12_numbered_40 lk_X12_349 rfl rfl (by decide) rfl rfl rfl ht48 rfl rfl rfl w_7_153 (Call.weaken h ?_)
          rintro H49 _ ⟨r50, rfl, h⟩
          change WP _ _ _ _ _ _ [.int r50] H49 _
          refine wp_goto (tgt := 47) dX12_numbered_43 rfl ?_
          exact wp_ireturn (ty := .int) dX12_numbered_47 rfl rfl ⟨_, rfl, h⟩
def wb_X12_numbered_142 (d : Nat) (q : HP → Int32 → Prop) (a0 : Nat) (H : HP) : Prop :=
  tg H a0 = 13 ∧ ((0 ≤ (hI H 1325 a0 0) → CZ d 0 0 mX12_goesOn [rv (some a0)] H (fun H2 b3 => (b3 = false → q H2 (-1 : Int32)) ∧ (b3 = true → tg H2 a0 = 13 ∧ ((0 ≤ (hI H2 1325 a0 0) → q H2 (-1 : Int32)) ∧ (¬ (0 ≤ (hI H2 1325 a0 0)) → CI d 0 0 mX12_mixed [rv (some a0)] H2 (fun H5 r6 => q H5 r6)))))) ∧ (¬ (0 ≤ (hI H 1325 a0 0)) → CZ d 0 0 mX12_isFigure [rv (some a0)] H (fun H7 b8 => (b8 = false → tg H7 a0 = 13 ∧ (CZ d 0 0 mX12_goesOn [rv (some a0)] H7 (fun H9 b11 => (b11 = false → q H9 (-1 : Int32)) ∧ (b11 = true → tg H9 a0 = 13 ∧ ((0 ≤ (hI H9 1325 a0 0) → q H9 (-1 : Int32)) ∧ (¬ (0 ≤ (hI H9 1325 a0 0)) → CI d 0 0 mX12_mixed [rv (some a0)] H9 (fun H13 r14 => q H13 r14))))))) ∧ (b8 = true → tg H7 a0 = 13 ∧ (((4 : Int32) ≤ (hI H7 1352 a0 0) → CZ d 0 0 mX12_goesOn [rv (some a0)] H7 (fun H16 b17 => (b17 = false → q H16 (-1 : Int32)) ∧ (b17 = true → tg H16 a0 = 13 ∧ ((0 ≤ (hI H16 1325 a0 0) → q H16 (-1 : Int32)) ∧ (¬ (0 ≤ (hI H16 1325 a0 0)) → CI d 0 0 mX12_mixed [rv (some a0)] H16 (fun H19 r20 => q H19 r20)))))) ∧ (¬ ((4 : Int32) ≤ (hI H7 1352 a0 0)) → CJ d 0 0 mX12_amount [rv (some a0)] H7 (fun H21 r22 => ∃ a23, (hC H7 1350 a0) = some a23 ∧ (isA H21 a23 3 ∧ (vp_in (hI H7 1352 a0 0) (ln H21 a23) ∧ (tg (sL H21 (tg H21 a23) a23 (hI H7 1352 a0 0).toNatClampNeg r22) a0 = 13 ∧ ((0 ≤ (hI (sL H21 (tg H21 a23) a23 (hI H7 1352 a0 0).toNatClampNeg r22) 1325 a0 0) → ∃ a27, (hC (sL H21 (tg H21 a23) a23 (hI H7 1352 a0 0).toNatClampNeg r22) 1351 a0) = some a27 ∧ (isA (sL H21 (tg H21 a23) a23 (hI H7 1352 a0 0).toNatClampNeg r22) a27 0 ∧ (vp_in (hI (sL H21 (tg H21 a23) a23 (hI H7 1352 a0 0).toNatClampNeg r22) 1352 a0 0) (ln (sL H21 (tg H21 a23) a23 (hI H7 1352 a0 0).toNatClampNeg r22) a27) ∧ (∀ H30, (sI (sL H21 (tg H21 a23) a23 (hI H7 1352 a0 0).toNatClampNeg r22) (tg (sL H21 (tg H21 a23) a23 (hI H7 1352 a0 0).toNatClampNeg r22) a27) a27 (hI (sL H21 (tg H21 a23) a23 (hI H7 1352 a0 0).toNatClampNeg r22) 1352 a0 0).toNatClampNeg (-1 : Int32)) = H30 → (L_X12_numbered_142 d q a0 (sI H30 1352 a0 0 ((hI H30 1352 a0 0) + (1 : Int32)))))))) ∧ (¬ (0 ≤ (hI (sL H21 (tg H21 a23) a23 (hI H7 1352 a0 0).toNatClampNeg r22) 1325 a0 0)) → CI d 0 0 mX12_unit [rv (some a0)] (sL H21 (tg H21 a23) a23 (hI H7 1352 a0 0).toNatClampNeg r22) (fun H35 r36 => ∃ a37, (hC (sL H21 (tg H21 a23) a23 (hI H7 1352 a0 0).toNatClampNeg r22) 1351 a0) = some a37 ∧ (isA H35 a37 0 ∧ (vp_in (hI (sL H21 (tg H21 a23) a23 (hI H7 1352 a0 0).toNatClampNeg r22) 1352 a0 0) (ln H35 a37) ∧ (tg (sI H35 (tg H35 a37) a37 (hI (sL H21 (tg H21 a23) a23 (hI H7 1352 a0 0).toNatClampNeg r22) 1352 a0 0).toNatClampNeg r36) a0 = 13 ∧ (∀ H41, (sI (sI H35 (tg H35 a37) a37 (hI (sL H21 (tg H21 a23) a23 (hI H7 1352 a0 0).toNatClampNeg r22) 1352 a0 0).toNatClampNeg r36) 1352 a0 0 ((hI (sI H35 (tg H35 a37) a37 (hI (sL H21 (tg H21 a23) a23 (hI H7 1352 a0 0).toNatClampNeg r22) 1352 a0 0).toNatClampNeg r36) 1352 a0 0) + (1 : Int32))) = H41 → (L_X12_numbered_142 d q a0 H41))))))))))))))))))
set_option maxRecDepth 40000 in
set_option maxHeartbeats 4000000 in
theorem T_X12_numbered_142 {d : Nat} {q : HP → Int32 → Prop} {a0 : Nat} {H : HP} (h : wb_X12_numbered_142 d q a0 H) : L_X12_numbered_142 d q a0 H := by
  unfold wb_X12_numbered_142 at h
  unfold L_X12_numbered_142
  refine wp_aload_n 0 dX12_numbered_142 rfl ?_
  obtain ⟨ht1, h⟩ := h
  refine wp_getI (ci := 12) (j := 25) dX12_numbered_143 fi_X12_189r rfl rfl ht1 ?_
  change WP _ _ _ _ _ _ (.int (hI H 1325 a0 0) :: _) _ _
  refine wp_if_ge (tgt := 214) dX12_numbered_146 rfl (fun c => ?_) (fun c => ?_)
  · replace h := h.1 c
    refine wp_aload_n 0 dX12_numbered_214 rfl ?_
    refine wp_callV (ci := 12) (As := []) (rest := []) (mc := 0) (ms := 0) dX12_numbered_215 lk_X12_346 rfl rfl (by decide) rfl rfl rfl ht1 rfl rfl rfl w_7_149 (Call.weaken h ?_)
    rintro H2 _ ⟨b3, rfl, h⟩
    change WP _ _ _ _ _ _ [.int (bI b3)] H2 _
    refine wp_if_eq (tgt := 235) dX12_numbered_218 rfl (fun c => ?_) (fun c => ?_)
    · replace h := h.1 (bI_0.mp c)
      refine wp_iconst (v := (-1 : Int32)) dX12_numbered_235 (by decide) ?_
      exact wp_ireturn (ty := .int) dX12_numbered_236 rfl rfl ⟨_, rfl, h⟩
    · replace h := h.2 (bI_1.mp c)
      refine wp_aload_n 0 dX12_numbered_221 rfl ?_
      obtain ⟨ht4, h⟩ := h
      refine wp_getI (ci := 12) (j := 25) dX12_numbered_222 fi_X12_189r rfl rfl ht4 ?_
      change WP _ _ _ _ _ _ (.int (hI H2 1325 a0 0) :: _) _ _
      refine wp_if_ge (tgt := 235) dX12_numbered_225 rfl (fun c => ?_) (fun c => ?_)
      · replace h := h.1 c
        refine wp_iconst (v := (-1 : Int32)) dX12_numbered_235 (by decide) ?_
        exact wp_ireturn (ty := .int) dX12_numbered_236 rfl rfl ⟨_, rfl, h⟩
      · replace h := h.2 c
        refine wp_aload_n 0 dX12_numbered_228 rfl ?_
        refine wp_callV (ci := 12) (As := []) (rest := []) (mc := 0) (ms := 0) dX12_numbered_229 lk_X12_366 rfl rfl (by decide) rfl rfl rfl ht4 rfl rfl rfl w_7_185 (Call.weaken h ?_)
        rintro H5 _ ⟨r6, rfl, h⟩
        change WP _ _ _ _ _ _ [.int r6] H5 _
        refine wp_goto (tgt := 236) dX12_numbered_232 rfl ?_
        exact wp_ireturn (ty := .int) dX12_numbered_236 rfl rfl ⟨_, rfl, h⟩
  · replace h := h.2 c
    refine wp_aload_n 0 dX12_numbered_149 rfl ?_
    refine wp_callV (ci := 12) (As := []) (rest := []) (mc := 0) (ms := 0) dX12_numbered_150 lk_X12_199 rfl rfl (by decide) rfl rfl rfl ht1 rfl rfl rfl w_6_224 (Call.weaken h ?_)
    rintro H7 _ ⟨b8, rfl, h⟩
    change WP _ _ _ _ _ _ [.int (bI b8)] H7 _
    refine wp_if_eq (tgt := 214) dX12_numbered_153 rfl (fun c => ?_) (fun c => ?_)
    · replace h := h.1 (bI_0.mp c)
      refine wp_aload_n 0 dX12_numbered_214 rfl ?_
      obtain ⟨ht10, h⟩ := h
      refine wp_callV (ci := 12) (As := []) (rest := []) (mc := 0) (ms := 0) dX12_numbered_215 lk_X12_346 rfl rfl (by decide) rfl rfl rfl ht10 rfl rfl rfl w_7_149 (Call.weaken h ?_)
      rintro H9 _ ⟨b11, rfl, h⟩
      change WP _ _ _ _ _ _ [.int (bI b11)] H9 _
      refine wp_if_eq (tgt := 235) dX12_numbered_218 rfl (fun c => ?_) (fun c => ?_)
      · replace h := h.1 (bI_0.mp c)
        refine wp_iconst (v := (-1 : Int32)) dX12_numbered_235 (by decide) ?_
        exact wp_ireturn (ty := .int) dX12_numbered_236 rfl rfl ⟨_, rfl, h⟩
      · replace h := h.2 (bI_1.mp c)
        refine wp_aload_n 0 dX12_numbered_221 rfl ?_
        obtain ⟨ht12, h⟩ := h
        refine wp_getI (ci := 12) (j := 25) dX12_numbered_222 fi_X12_189r rfl rfl ht12 ?_
        change WP _ _ _ _ _ _ (.int (hI H9 1325 a0 0) :: _) _ _
        refine wp_if_ge (tgt := 235) dX12_numbered_225 rfl (fun c => ?_) (fun c => ?_)
        · replace h := h.1 c
          refine wp_iconst (v := (-1 : Int32)) dX12_numbered_235 (by decide) ?_
          exact wp_ireturn (ty := .int) dX12_numbered_236 rfl rfl ⟨_, rfl, h⟩
        · replace h := h.2 c
          refine wp_aload_n 0 dX12_numbered_228 rfl ?_
          refine wp_callV (ci := 12) (As := []) (rest := []) (mc := 0) (ms := 0) dX12_numbered_229 lk_X12_366 rfl rfl (by decide) rfl rfl rfl ht12 rfl rfl rfl w_7_185 (Call.weaken h ?_)
          rintro H13 _ ⟨r14, rfl, h⟩
          change WP _ _ _ _ _ _ [.int r14] H13 _
          refine wp_goto (tgt := 236) dX12_numbered_232 rfl ?_
          exact wp_ireturn (ty := .int) dX12_numbered_236 rfl rfl ⟨_, rfl, h⟩
    · replace h := h.2 (bI_1.mp c)
      refine wp_aload_n 0 dX12_numbered_156 rfl ?_
      obtain ⟨ht15, h⟩ := h
      refine wp_getI (ci := 12) (j := 52) dX12_numbered_157 fi_X12_336r rfl rfl ht15 ?_
      change WP _ _ _ _ _ _ (.int (hI H7 1352 a0 0) :: _) _ _
      refine wp_iconst (v := (4 : Int32)) dX12_numbered_160 (by decide) ?_
      refine wp_icmp_ge (tgt := 214) dX12_numbered_161 rfl (fun c => ?_) (fun c => ?_)
      · replace h := h.1 c
        refine wp_aload_n 0 dX12_numbered_214 rfl ?_
        refine wp_callV (ci := 12) (As := []) (rest := []) (mc := 0) (ms := 0) dX12_numbered_215 lk_X12_346 rfl rfl (by decide) rfl rfl rfl ht15 rfl rfl rfl w_7_149 (Call.weaken h ?_)
        rintro H16 _ ⟨b17, rfl, h⟩
        change WP _ _ _ _ _ _ [.int (bI b17)] H16 _
        refine wp_if_eq (tgt := 235) dX12_numbered_218 rfl (fun c => ?_) (fun c => ?_)
        · replace h := h.1 (bI_0.mp c)
          refine wp_iconst (v := (-1 : Int32)) dX12_numbered_235 (by decide) ?_
          exact wp_ireturn (ty := .int) dX12_numbered_236 rfl rfl ⟨_, rfl, h⟩
        · replace h := h.2 (bI_1.mp c)
          refine wp_aload_n 0 dX12_numbered_221 rfl ?_
          obtain ⟨ht18, h⟩ := h
          refine wp_getI (ci := 12) (j := 25) dX12_numbered_222 fi_X12_189r rfl rfl ht18 ?_
          change WP _ _ _ _ _ _ (.int (hI H16 1325 a0 0) :: _) _ _
          refine wp_if_ge (tgt := 235) dX12_numbered_225 rfl (fun c => ?_) (fun c => ?_)
          · replace h := h.1 c
            refine wp_iconst (v := (-1 : Int32)) dX12_numbered_235 (by decide) ?_
            exact wp_ireturn (ty := .int) dX12_numbered_236 rfl rfl ⟨_, rfl, h⟩
          · replace h := h.2 c
            refine wp_aload_n 0 dX12_numbered_228 rfl ?_
            refine wp_callV (ci := 12) (As := []) (rest := []) (mc := 0) (ms := 0) dX12_numbered_229 lk_X12_366 rfl rfl (by decide) rfl rfl rfl ht18 rfl rfl rfl w_7_185 (Call.weaken h ?_)
            rintro H19 _ ⟨r20, rfl, h⟩
            change WP _ _ _ _ _ _ [.int r20] H19 _
            refine wp_goto (tgt := 236) dX12_numbered_232 rfl ?_
            exact wp_ireturn (ty := .int) dX12_numbered_236 rfl rfl ⟨_, rfl, h⟩
      · replace h := h.2 c
        refine wp_aload_n 0 dX12_numbered_164 rfl ?_
        refine wp_getC (ci := 12) (j := 50) dX12_numbered_165 fi_X12_89r rfl rfl ht15 ?_
        change WP _ _ _ _ _ _ (rv (hC H7 1350 a0) :: _) _ _
        refine wp_aload_n 0 dX12_numbered_168 rfl ?_
        refine wp_getI (ci := 12) (j := 52) dX12_numbered_169 fi_X12_336r rfl rfl ht15 ?_
        change WP _ _ _ _ _ _ (.int (hI H7 1352 a0 0) :: _) _ _
        refine wp_aload_n 0 dX12_numbered_172 rfl ?_
        refine wp_callV (ci := 12) (As := []) (rest := [.int (hI H7 1352 a0 0), rv (hC H7 1350 a0)]) (mc := 0) (ms := 0) dX12_numbered_173 lk_X12_342 rfl rfl (by simp [rv_cat, vc_int, vc_long, vc_float, vc_double]) rfl rfl rfl ht15 rfl rfl rfl w_7_144 (Call.weaken h ?_)
        rintro H21 _ ⟨r22, rfl, h⟩
        change WP _ _ _ _ _ _ [.long r22, .int (hI H7 1352 a0 0), rv (hC H7 1350 a0)] H21 _
        obtain ⟨a23, ha23, h⟩ := h
        obtain ⟨hr24, h⟩ := h
        obtain ⟨hg25, h⟩ := h
        refine wp_lastore dX12_numbered_176 ha23 hr24 hg25 ?_
        change WP _ _ _ _ _ _ _ (sL H21 (tg H21 a23) a23 (hI H7 1352 a0 0).toNatClampNeg r22) _
        refine wp_aload_n 0 dX12_numbered_177 rfl ?_
        obtain ⟨ht26, h⟩ := h
        refine wp_getC (ci := 12) (j := 51) dX12_numbered_178 fi_X12_92r rfl rfl ht26 ?_
        change WP _ _ _ _ _ _ (rv (hC (sL H21 (tg H21 a23) a23 (hI H7 1352 a0 0).toNatClampNeg r22) 1351 a0) :: _) _ _
        refine wp_aload_n 0 dX12_numbered_181 rfl ?_
        refine wp_getI (ci := 12) (j := 52) dX12_numbered_182 fi_X12_336r rfl rfl ht26 ?_
        change WP _ _ _ _ _ _ (.int (hI (sL H21 (tg H21 a23) a23 (hI H7 1352 a0 0).toNatClampNeg r22) 1352 a0 0) :: _) _ _
        refine wp_aload_n 0 dX12_numbered_185 rfl ?_
        refine wp_getI (ci := 12) (j := 25) dX12_numbered_186 fi_X12_189r rfl rfl ht26 ?_
        change WP _ _ _ _ _ _ (.int (hI (sL H21 (tg H21 a23) a23 (hI H7 1352 a0 0).toNatClampNeg r22) 1325 a0 0) :: _) _ _
        refine wp_if_ge (tgt := 199) dX12_numbered_189 rfl (fun c => ?_) (fun c => ?_)
        · replace h := h.1 c
          refine wp_iconst (v := (-1 : Int32)) dX12_numbered_199 (by decide) ?_
          obtain ⟨a27, ha27, h⟩ := h
          obtain ⟨hr28, h⟩ := h
          obtain ⟨hg29, h⟩ := h
          refine wp_iastore dX12_numbered_200 ha27 hr28 hg29 ?_
          change WP _ _ _ _ _ _ _ (sI (sL H21 (tg H21 a23) a23 (hI H7 1352 a0 0).toNatClampNeg r22) (tg (sL H21 (tg H21 a23) a23 (hI H7 1352 a0 0).toNatClampNeg r22) a27) a27 (hI (sL H21 (tg H21 a23) a23 (hI H7 1352 a0 0).toNatClampNeg r22) 1352 a0 0).toNatClampNeg (-1 : Int32)) _
          replace h := h _ rfl
          generalize e31 : (sI (sL H21 (tg H21 a23) a23 (hI H7 1352 a0 0).toNatClampNeg r22) (tg (sL H21 (tg H21 a23) a23 (hI H7 1352 a0 0).toNatClampNeg r22) a27) a27 (hI (sL H21 (tg H21 a23) a23 (hI H7 1352 a0 0).toNatClampNeg r22) 1352 a0 0).toNatClampNeg (-1 : Int32)) = H30 at h ⊢
          have ht32 : tg H30 a0 = 13 := by rw [← e31]; exact ht26
          have hr33 : isA H30 a23 3 := by rw [← e31]; exact hr24
          have hr34 : isA H30 a27 0 := by rw [← e31]; exact hr28
          refine wp_aload_n 0 dX12_numbered_201 rfl ?_
          refine wp_dup dX12_numbered_202 (rv_cat _) ?_
          refine wp_getI (ci := 12) (j := 52) dX12_numbered_203 fi_X12_336r rfl rfl ht32 ?_
          change WP _ _ _ _ _ _ (.int (hI H30 1352 a0 0) :: _) _ _
          refine wp_iconst (v := (1 : Int32)) dX12_numbered_206 (by decide) ?_
          refine wp_iadd dX12_numbered_207 ?_
          refine wp_putI (ci := 12) (j := 52) dX12_numbered_208 fi_X12_336 rfl (fun z => by cases z) rfl ht32 rfl rfl ?_
          change WP _ _ _ _ _ _ _ (sI H30 1352 a0 0 ((hI H30 1352 a0 0) + (1 : Int32))) _
          refine wp_goto (tgt := 142) dX12_numbered_211 rfl ?_
          exact h
        · replace h := h.2 c
          refine wp_aload_n 0 dX12_numbered_192 rfl ?_
          refine wp_callV (ci := 12) (As := []) (rest := [.int (hI (sL H21 (tg H21 a23) a23 (hI H7 1352 a0 0).toNatClampNeg r22) 1352 a0 0), rv (hC (sL H21 (tg H21 a23) a23 (hI H7 1352 a0 0).toNatClampNeg r22) 1351 a0)]) (mc := 0) (ms := 0) dX12_numbered_193 lk_X12_353 rfl rfl (by simp [rv_cat, vc_int, vc_long, vc_float, vc_double]) rfl rfl rfl ht26 rfl rfl rfl w_7_165 (Call.weaken h ?_)
          rintro H35 _ ⟨r36, rfl, h⟩
          change WP _ _ _ _ _ _ [.int r36, .int (hI (sL H21 (tg H21 a23) a23 (hI H7 1352 a0 0).toNatClampNeg r22) 1352 a0 0), rv (hC (sL H21 (tg H21 a23) a23 (hI H7 1352 a0 0).toNatClampNeg r22) 1351 a0)] H35 _
          refine wp_goto (tgt := 200) dX12_numbered_196 rfl ?_
          obtain ⟨a37, ha37, h⟩ := h
          obtain ⟨hr38, h⟩ := h
          obtain ⟨hg39, h⟩ := h
          refine wp_iastore dX12_numbered_200 ha37 hr38 hg39 ?_
          change WP _ _ _ _ _ _ _ (sI H35 (tg H35 a37) a37 (hI (sL H21 (tg H21 a23) a23 (hI H7 1352 a0 0).toNatClampNeg r22) 1352 a0 0).toNatClampNeg r36) _
          refine wp_aload_n 0 dX12_numbered_201 rfl ?_
          refine wp_dup dX12_numbered_202 (rv_cat _) ?_
          obtain ⟨ht40, h⟩ := h
          refine wp_getI (ci := 12) (j := 52) dX12_numbered_203 fi_X12_336r rfl rfl ht40 ?_
          change WP _ _ _ _ _ _ (.int (hI (sI H35 (tg H35 a37) a37 (hI (sL H21 (tg H21 a23) a23 (hI H7 1352 a0 0).toNatClampNeg r22) 1352 a0 0).toNatClampNeg r36) 1352 a0 0) :: _) _ _
          refine wp_iconst (v := (1 : Int32)) dX12_numbered_206 (by decide) ?_
          refine wp_iadd dX12_numbered_207 ?_
          refine wp_putI (ci := 12) (j := 52) dX12_numbered_208 fi_X12_336 rfl (fun z => by cases z) rfl ht40 rfl rfl ?_
          change WP _ _ _ _ _ _ _ (sI (sI H35 (tg H35 a37) a37 (hI (sL H21 (tg H21 a23) a23 (hI H7 1352 a0 0).toNatClampNeg r22) 1352 a0 0).toNatClampNeg r36) 1352 a0 0 ((hI (sI H35 (tg H35 a37) a37 (hI (sL H21 (tg H21 a23) a23 (hI H7 1352 a0 0).toNatClampNeg r22) 1352 a0 0).toNatClampNeg r36) 1352 a0 0) + (1 : Int32))) _
          replace h := h _ rfl
          generalize e42 : (sI (sI H35 (tg H35 a37) a37 (hI (sL H21 (tg H21 a23) a23 (hI H7 1352 a0 0).toNatClampNeg r22) 1352 a0 0).toNatClampNeg r36) 1352 a0 0 ((hI (sI H35 (tg H35 a37) a37 (hI (sL H21 (tg H21 a23) a23 (hI H7 1352 a0 0).toNatClampNeg r22) 1352 a0 0).toNatClampNeg r36) 1352 a0 0) + (1 : Int32))) = H41 at h ⊢
          have ht43 : tg H41 a0 = 13 := by rw [← e42]; exact ht40
          have hr44 : isA H41 a37 0 := by rw [← e42]; exact hr38
          refine wp_goto (tgt := 142) dX12_numbered_211 rfl ?_
          exact h
theorem C_X12_numbered {d : Nat} {q : HP → Int32 → Prop} {a0 : Nat} {H : HP} (h : wb_X12_numbered_0 d q a0 H) : CI (d + 1) 0 0 mX12_numbered [rv (some a0)] H q := by
  refine call_of (by decide +kernel) (by simp [lg_sl, rv_cat, vc_int, vc_long, vc_float, vc_double]) ?_
  have e : lv_args 0 [rv (some a0)] = [(0, rv (some a0))] := by simp [lv_args, rv_cat, vc_int, vc_long, vc_float, vc_double]
  rw [e]
  exact T_X12_numbered_0 h
def wb_X12_part_0 (d : Nat) (q : HP → Int32 → Prop) (a0 : Nat) (H : HP) : Prop :=
  tg H a0 = 13 ∧ (((hI (sI H 1349 a0 0 (0 : Int32)) 1325 a0 0) < 0 → CI d 0 0 mX12_here [rv (some a0)] (sI H 1349 a0 0 (0 : Int32)) (fun H2 r3 => (¬ r3 = (40 : Int32) → tg H2 a0 = 13 ∧ (CZ d 0 0 mX12_isFigure [rv (some a0)] H2 (fun H4 b6 => (b6 = false → tg H4 a0 = 13 ∧ (CI d 0 0 mX12_unit [rv (some a0)] H4 (fun H7 r9 => tg H7 a0 = 13 ∧ (CI d 0 0 mX12_figure [rv (some a0)] H7 (fun H10 r12 => (r9 < 0 → tg H10 a0 = 13 ∧ (CZ d 0 0 mX12_goesOn [rv (some a0)] (sI H10 1349 a0 0 (0 : Int32)) (fun H14 b15 => (b15 = false → q H14 (-1 : Int32)) ∧ (b15 = true → tg H14 a0 = 13 ∧ ((0 ≤ (hI H14 1325 a0 0) → q H14 (-1 : Int32)) ∧ (¬ (0 ≤ (hI H14 1325 a0 0)) → CI d 0 0 mX12_measured [rv (some a0), .long (1000 : Int64), .int r9, .int r12] H14 (fun H17 r18 => q H17 r18))))))) ∧ (¬ (r9 < 0) → tg H10 a0 = 13 ∧ (CZ d 0 0 mX12_hasOffset [rv (some a0), .int r9] H10 (fun H19 b21 => (b21 = false → tg H19 a0 = 13 ∧ (CZ d 0 0 mX12_goesOn [rv (some a0)] (sI H19 1349 a0 0 (0 : Int32)) (fun H23 b24 => (b24 = false → q H23 (-1 : Int32)) ∧ (b24 = true → tg H23 a0 = 13 ∧ ((0 ≤ (hI H23 1325 a0 0) → q H23 (-1 : Int32)) ∧ (¬ (0 ≤ (hI H23 1325 a0 0)) → CI d 0 0 mX12_measured [rv (some a0), .long (1000 : Int64), .int r9, .int r12] H23 (fun H26 r27 => q H26 r27))))))) ∧ (b21 = true → tg H19 a0 = 13 ∧ (CZ d 0 0 mX12_goesOn [rv (some a0)] (sI H19 1349 a0 0 (1 : Int32)) (fun H29 b30 => (b30 = false → q H29 (-1 : Int32)) ∧ (b30 = true → tg H29 a0 = 13 ∧ ((0 ≤ (hI H29 1325 a0 0) → q H29 (-1 : Int32)) ∧ (¬ (0 ≤ (hI H29 1325 a0 0)) → CI d 0 0 mX12_measured [rv (some a0), .long (1000 : Int64), .int r9, .int r12] H29 (fun H32 r33 => q H32 r33))))))))))))))) ∧ (b6 = true → tg H4 a0 = 13 ∧ (CI d 0 0 mX12_numbered [rv (some a0)] H4 (fun H34 r36 => q H34 r36)))))) ∧ (r3 = (40 : Int32) → tg H2 a0 = 13 ∧ ((¬ (hI H2 1326 a0 0) = (4 : Int32) → CI d 0 0 mX12_sum [rv (some a0)] (sI (sI H2 1326 a0 0 ((hI H2 1326 a0 0) + (1 : Int32))) 1324 a0 0 ((hI (sI H2 1326 a0 0 ((hI H2 1326 a0 0) + (1 : Int32))) 1324 a0 0) + (1 : Int32))) (fun H38 r39 => tg H38 a0 = 13 ∧ (CV d 0 0 mX12_must [rv (some a0), .int (41 : Int32)] H38 (fun H40 => tg H40 a0 = 13 ∧ (q (sI (sI H40 1326 a0 0 ((hI H40 1326 a0 0) - (1 : Int32))) 1349 a0 0 (0 : Int32)) r39))))) ∧ ((hI H2 1326 a0 0) = (4 : Int32) → CV d 0 0 mX12_fails [rv (some a0)] H2 (fun H43 => q H43 (-1 : Int32))))))) ∧ (¬ ((hI (sI H 1349 a0 0 (0 : Int32)) 1325 a0 0) < 0) → q (sI H 1349 a0 0 (0 : Int32)) (-1 : Int32)))
set_option maxRecDepth 40000 in
set_option maxHeartbeats 4000000 in
theorem T_X12_part_0 {d : Nat} {q : HP → Int32 → Prop} {a0 : Nat} {H : HP} (h : wb_X12_part_0 d q a0 H) : WP (d + 1) mX12_part 0 0 0 [(0, rv (some a0))] [] H (qI q) := by
  unfold wb_X12_part_0 at h
  refine wp_aload_n 0 dX12_part_0 rfl ?_
  refine wp_iconst (v := (0 : Int32)) dX12_part_1 (by decide) ?_
  obtain ⟨ht1, h⟩ := h
  refine wp_putI (ci := 12) (j := 49) dX12_part_2 fi_X12_359 rfl (fun z => by cases z) rfl ht1 rfl rfl ?_
  change WP _ _ _ _ _ _ _ (sI H 1349 a0 0 (0 : Int32)) _
  refine wp_aload_n 0 dX12_part_5 rfl ?_
  refine wp_getI (ci := 12) (j := 25) dX12_part_6 fi_X12_189r rfl rfl ht1 ?_
  change WP _ _ _ _ _ _ (.int (hI (sI H 1349 a0 0 (0 : Int32)) 1325 a0 0) :: _) _ _
  refine wp_if_lt (tgt := 14) dX12_part_9 rfl (fun c => ?_) (fun c => ?_)
  · replace h := h.1 c
    refine wp_aload_n 0 dX12_part_14 rfl ?_
    refine wp_callV (ci := 12) (As := []) (rest := []) (mc := 0) (ms := 0) dX12_part_15 lk_X12_177 rfl rfl (by decide) rfl rfl rfl ht1 rfl rfl rfl w_6_206 (Call.weaken h ?_)
    rintro H2 _ ⟨r3, rfl, h⟩
    change WP _ _ _ _ _ _ [.int r3] H2 _
    refine wp_bipush (v := (40 : Int32)) dX12_part_18 (by decide) ?_
    refine wp_icmp_ne (tgt := 85) dX12_part_20 rfl (fun c => ?_) (fun c => ?_)
    · replace h := h.1 c
      refine wp_aload_n 0 dX12_part_85 rfl ?_
      obtain ⟨ht5, h⟩ := h
      refine wp_callV (ci := 12) (As := []) (rest := []) (mc := 0) (ms := 0) dX12_part_86 lk_X12_199 rfl rfl (by decide) rfl rfl rfl ht5 rfl rfl rfl w_6_224 (Call.weaken h ?_)
      rintro H4 _ ⟨b6, rfl, h⟩
      change WP _ _ _ _ _ _ [.int (bI b6)] H4 _
      refine wp_if_eq (tgt := 97) dX12_part_89 rfl (fun c => ?_) (fun c => ?_)
      · replace h := h.1 (bI_0.mp c)
        refine wp_aload_n 0 dX12_part_97 rfl ?_
        obtain ⟨ht8, h⟩ := h
        refine wp_callV (ci := 12) (As := []) (rest := []) (mc := 0) (ms := 0) dX12_part_98 lk_X12_353 rfl rfl (by decide) rfl rfl rfl ht8 rfl rfl rfl w_7_165 (Call.weaken h ?_)
        rintro H7 _ ⟨r9, rfl, h⟩
        change WP _ _ _ _ _ _ [.int r9] H7 _
        refine wp_istore_n (ls' := [(1, .int r9), (0, rv (some a0))]) dX12_part_101 (by decide) rfl ?_
        refine wp_aload_n 1 dX12_part_102 rfl ?_
        obtain ⟨ht11, h⟩ := h
        refine wp_callV (ci := 12) (As := []) (rest := []) (mc := 0) (ms := 0) dX12_part_103 lk_X12_215 rfl rfl (by decide) rfl rfl rfl ht11 rfl rfl rfl w_6_238 (Call.weaken h ?_)
        rintro H10 _ ⟨r12, rfl, h⟩
        change WP _ _ _ _ _ _ [.int r12] H10 _
        refine wp_istore_n (ls' := [(2, .int r12), (1, .int r9), (0, rv (some a0))]) dX12_part_106 (by decide) rfl ?_
        refine wp_aload_n 2 dX12_part_107 rfl ?_
        refine wp_iload_n 1 dX12_part_108 rfl ?_
        refine wp_if_lt (tgt := 124) dX12_part_109 rfl (fun c => ?_) (fun c => ?_)
        · replace h := h.1 c
          refine wp_iconst (v := (0 : Int32)) dX12_part_124 (by decide) ?_
          obtain ⟨ht13, h⟩ := h
          refine wp_putI (ci := 12) (j := 49) dX12_part_125 fi_X12_359 rfl (fun z => by cases z) rfl ht13 rfl rfl ?_
          change WP _ _ _ _ _ _ _ (sI H10 1349 a0 0 (0 : Int32)) _
          refine wp_aload_n 2 dX12_part_128 rfl ?_
          refine wp_callV (ci := 12) (As := []) (rest := []) (mc := 0) (ms := 0) dX12_part_129 lk_X12_346 rfl rfl (by decide) rfl rfl rfl ht13 rfl rfl rfl w_7_149 (Call.weaken h ?_)
          rintro H14 _ ⟨b15, rfl, h⟩
          change WP _ _ _ _ _ _ [.int (bI b15)] H14 _
          refine wp_if_eq (tgt := 154) dX12_part_132 rfl (fun c => ?_) (fun c => ?_)
          · replace h := h.1 (bI_0.mp c)
            refine wp_iconst (v := (-1 : Int32)) dX12_part_154 (by decide) ?_
            exact wp_ireturn (ty := .int) dX12_part_155 rfl rfl ⟨_, rfl, h⟩
          · replace h := h.2 (bI_1.mp c)
            refine wp_aload_n 2 dX12_part_135 rfl ?_
            obtain ⟨ht16, h⟩ := h
            refine wp_getI (ci := 12) (j := 25) dX12_part_136 fi_X12_189r rfl rfl ht16 ?_
            change WP _ _ _ _ _ _ (.int (hI H14 1325 a0 0) :: _) _ _
            refine wp_if_ge (tgt := 154) dX12_part_139 rfl (fun c => ?_) (fun c => ?_)
            · replace h := h.1 c
              refine wp_iconst (v := (-1 : Int32)) dX12_part_154 (by decide) ?_
              exact wp_ireturn (ty := .int) dX12_part_155 rfl rfl ⟨_, rfl, h⟩
            · replace h := h.2 c
              refine wp_aload_n 2 dX12_part_142 rfl ?_
              refine wp_ldc2 dX12_part_143 w_7_148 ?_
              refine wp_iload_n 1 dX12_part_146 rfl ?_
              refine wp_iload_n 0 dX12_part_147 rfl ?_
              refine wp_callV (ci := 12) (As := [.long (1000 : Int64), .int r9, .int r12]) (rest := []) (mc := 0) (ms := 0) dX12_part_148 lk_X12_362 rfl rfl (by decide) rfl rfl rfl ht16 rfl rfl rfl w_7_173 (Call.weaken h ?_)
              rintro H17 _ ⟨r18, rfl, h⟩
              change WP _ _ _ _ _ _ [.int r18] H17 _
              refine wp_goto (tgt := 155) dX12_part_151 rfl ?_
              exact wp_ireturn (ty := .int) dX12_part_155 rfl rfl ⟨_, rfl, h⟩
        · replace h := h.2 c
          refine wp_aload_n 2 dX12_part_112 rfl ?_
          refine wp_iload_n 1 dX12_part_113 rfl ?_
          obtain ⟨ht20, h⟩ := h
          refine wp_callV (ci := 12) (As := [.int r9]) (rest := [rv (some a0)]) (mc := 0) (ms := 0) dX12_part_114 lk_X12_247 rfl rfl (by simp [rv_cat, vc_int, vc_long, vc_float, vc_double]) rfl rfl rfl ht20 rfl rfl rfl w_7_16 (Call.weaken h ?_)
          rintro H19 _ ⟨b21, rfl, h⟩
          change WP _ _ _ _ _ _ [.int (bI b21), rv (some a0)] H19 _
          refine wp_if_eq (tgt := 124) dX12_part_117 rfl (fun c => ?_) (fun c => ?_)
          · replace h := h.1 (bI_0.mp c)
            refine wp_iconst (v := (0 : Int32)) dX12_part_124 (by decide) ?_
            obtain ⟨ht22, h⟩ := h
            refine wp_putI (ci := 12) (j := 49) dX12_part_125 fi_X12_359 rfl (fun z => by cases z) rfl ht22 rfl rfl ?_
            change WP _ _ _ _ _ _ _ (sI H19 1349 a0 0 (0 : Int32)) _
            refine wp_aload_n 2 dX12_part_128 rfl ?_
            refine wp_callV (ci := 12) (As := []) (rest := []) (mc := 0) (ms := 0) dX12_part_129 lk_X12_346 rfl rfl (by decide) rfl rfl rfl ht22 rfl rfl rfl w_7_149 (Call.weaken h ?_)
            rintro H23 _ ⟨b24, rfl, h⟩
            change WP _ _ _ _ _ _ [.int (bI b24)] H23 _
            refine wp_if_eq (tgt := 154) dX12_part_132 rfl (fun c => ?_) (fun c => ?_)
            · replace h := h.1 (bI_0.mp c)
              refine wp_iconst (v := (-1 : Int32)) dX12_part_154 (by decide) ?_
              exact wp_ireturn (ty := .int) dX12_part_155 rfl rfl ⟨_, rfl, h⟩
            · replace h := h.2 (bI_1.mp c)
              refine wp_aload_n 2 dX12_part_135 rfl ?_
              obtain ⟨ht25, h⟩ := h
              refine wp_getI (ci := 12) (j := 25) dX12_part_136 fi_X12_189r rfl rfl ht25 ?_
              change WP _ _ _ _ _ _ (.int (hI H23 1325 a0 0) :: _) _ _
              refine wp_if_ge (tgt := 154) dX12_part_139 rfl (fun c => ?_) (fun c => ?_)
              · replace h := h.1 c
                refine wp_iconst (v := (-1 : Int32)) dX12_part_154 (by decide) ?_
                exact wp_ireturn (ty := .int) dX12_part_155 rfl rfl ⟨_, rfl, h⟩
              · replace h := h.2 c
                refine wp_aload_n 2 dX12_part_142 rfl ?_
                refine wp_ldc2 dX12_part_143 w_7_148 ?_
                refine wp_iload_n 1 dX12_part_146 rfl ?_
                refine wp_iload_n 0 dX12_part_147 rfl ?_
                refine wp_callV (ci := 12) (As := [.long (1000 : Int64), .int r9, .int r12]) (rest := []) (mc := 0) (ms := 0) dX12_part_148 lk_X12_362 rfl rfl (by decide) rfl rfl rfl ht25 rfl rfl rfl w_7_173 (Call.weaken h ?_)
                rintro H26 _ ⟨r27, rfl, h⟩
                change WP _ _ _ _ _ _ [.int r27] H26 _
                refine wp_goto (tgt := 155) dX12_part_151 rfl ?_
                exact wp_ireturn (ty := .int) dX12_part_155 rfl rfl ⟨_, rfl, h⟩
          · replace h := h.2 (bI_1.mp c)
            refine wp_iconst (v := (1 : Int32)) dX12_part_120 (by decide) ?_
            refine wp_goto (tgt := 125) dX12_part_121 rfl ?_
            obtain ⟨ht28, h⟩ := h
            refine wp_putI (ci := 12) (j := 49) dX12_part_125 fi_X12_359 rfl (fun z => by cases z) rfl ht28 rfl rfl ?_
            change WP _ _ _ _ _ _ _ (sI H19 1349 a0 0 (1 : Int32)) _
            refine wp_aload_n 2 dX12_part_128 rfl ?_
            refine wp_callV (ci := 12) (As := []) (rest := []) (mc := 0) (ms := 0) dX12_part_129 lk_X12_346 rfl rfl (by decide) rfl rfl rfl ht28 rfl rfl rfl w_7_149 (Call.weaken h ?_)
            rintro H29 _ ⟨b30, rfl, h⟩
            change WP _ _ _ _ _ _ [.int (bI b30)] H29 _
            refine wp_if_eq (tgt := 154) dX12_part_132 rfl (fun c => ?_) (fun c => ?_)
            · replace h := h.1 (bI_0.mp c)
              refine wp_iconst (v := (-1 : Int32)) dX12_part_154 (by decide) ?_
              exact wp_ireturn (ty := .int) dX12_part_155 rfl rfl ⟨_, rfl, h⟩
            · replace h := h.2 (bI_1.mp c)
              refine wp_aload_n 2 dX12_part_135 rfl ?_
              obtain ⟨ht31, h⟩ := h
              refine wp_getI (ci := 12) (j := 25) dX12_part_136 fi_X12_189r rfl rfl ht31 ?_
              change WP _ _ _ _ _ _ (.int (hI H29 1325 a0 0) :: _) _ _
              refine wp_if_ge (tgt := 154) dX12_part_139 rfl (fun c => ?_) (fun c => ?_)
              · replace h := h.1 c
                refine wp_iconst (v := (-1 : Int32)) dX12_part_154 (by decide) ?_
                exact wp_ireturn (ty := .int) dX12_part_155 rfl rfl ⟨_, rfl, h⟩
              · replace h := h.2 c
                refine wp_aload_n 2 dX12_part_142 rfl ?_
                refine wp_ldc2 dX12_part_143 w_7_148 ?_
                refine wp_iload_n 1 dX12_part_146 rfl ?_
                refine wp_iload_n 0 dX12_part_147 rfl ?_
                refine wp_callV (ci := 12) (As := [.long (1000 : Int64), .int r9, .int r12]) (rest := []) (mc := 0) (ms := 0) dX12_part_148 lk_X12_362 rfl rfl (by decide) rfl rfl rfl ht31 rfl rfl rfl w_7_173 (Call.weaken h ?_)
                rintro H32 _ ⟨r33, rfl, h⟩
                change WP _ _ _ _ _ _ [.int r33] H32 _
                refine wp_goto (tgt := 155) dX12_part_151 rfl ?_
                exact wp_ireturn (ty := .int) dX12_part_155 rfl rfl ⟨_, rfl, h⟩
      · replace h := h.2 (bI_1.mp c)
        refine wp_aload_n 0 dX12_part_92 rfl ?_
        obtain ⟨ht35, h⟩ := h
        refine wp_callV (ci := 12) (As := []) (rest := []) (mc := 0) (ms := 0) dX12_part_93 lk_X12_374 rfl rfl (by decide) rfl rfl rfl ht35 rfl rfl rfl w_7_140 (Call.weaken h ?_)
        rintro H34 _ ⟨r36, rfl, h⟩
        change WP _ _ _ _ _ _ [.int r36] H34 _
        exact wp_ireturn (ty := .int) dX12_part_96 rfl rfl ⟨_, rfl, h⟩
    · replace h := h.2 c
      refine wp_aload_n 0 dX12_part_23 rfl ?_
      obtain ⟨ht37, h⟩ := h
      refine wp_getI (ci := 12) (j := 26) dX12_part_24 fi_X12_369r rfl rfl ht37 ?_
      change WP _ _ _ _ _ _ (.int (hI H2 1326 a0 0) :: _) _ _
      refine wp_iconst (v := (4 : Int32)) dX12_part_27 (by decide) ?_
      refine wp_icmp_ne (tgt := 37) dX12_part_28 rfl (fun c => ?_) (fun c => ?_)
      · replace h := h.1 c
        refine wp_aload_n 0 dX12_part_37 rfl ?_
        refine wp_dup dX12_part_38 (rv_cat _) ?_
        refine wp_getI (ci := 12) (j := 26) dX12_part_39 fi_X12_369r rfl rfl ht37 ?_
        change WP _ _ _ _ _ _ (.int (hI H2 1326 a0 0) :: _) _ _
        refine wp_iconst (v := (1 : Int32)) dX12_part_42 (by decide) ?_
        refine wp_iadd dX12_part_43 ?_
        refine wp_putI (ci := 12) (j := 26) dX12_part_44 fi_X12_369 rfl (fun z => by cases z) rfl ht37 rfl rfl ?_
        change WP _ _ _ _ _ _ _ (sI H2 1326 a0 0 ((hI H2 1326 a0 0) + (1 : Int32))) _
        refine wp_aload_n 0 dX12_part_47 rfl ?_
        refine wp_dup dX12_part_48 (rv_cat _) ?_
        refine wp_getI (ci := 12) (j := 24) dX12_part_49 fi_X12_174r rfl rfl ht37 ?_
        change WP _ _ _ _ _ _ (.int (hI (sI H2 1326 a0 0 ((hI H2 1326 a0 0) + (1 : Int32))) 1324 a0 0) :: _) _ _
        refine wp_iconst (v := (1 : Int32)) dX12_part_52 (by decide) ?_
        refine wp_iadd dX12_part_53 ?_
        refine wp_putI (ci := 12) (j := 24) dX12_part_54 fi_X12_174 rfl (fun z => by cases z) rfl ht37 rfl rfl ?_
        change WP _ _ _ _ _ _ _ (sI (sI H2 1326 a0 0 ((hI H2 1326 a0 0) + (1 : Int32))) 1324 a0 0 ((hI (sI H2 1326 a0 0 ((hI H2 1326 a0 0) + (1 : Int32))) 1324 a0 0) + (1 : Int32))) _
        refine wp_aload_n 0 dX12_part_57 rfl ?_
        refine wp_callV (ci := 12) (As := []) (rest := []) (mc := 0) (ms := 0) dX12_part_58 lk_X12_372 rfl rfl (by decide) rfl rfl rfl ht37 rfl rfl rfl w_7_128 (Call.weaken h ?_)
        rintro H38 _ ⟨r39, rfl, h⟩
        change WP _ _ _ _ _ _ [.int r39] H38 _
        refine wp_istore_n (ls' := [(1, .int r39), (0, rv (some a0))]) dX12_part_61 (by decide) rfl ?_
        refine wp_aload_n 1 dX12_part_62 rfl ?_
        refine wp_bipush (v := (41 : Int32)) dX12_part_63 (by decide) ?_
        obtain ⟨ht41, h⟩ := h
        refine wp_callV (ci := 12) (As := [.int (41 : Int32)]) (rest := []) (mc := 0) (ms := 0) dX12_part_65 lk_X12_218 rfl rfl (by decide) rfl rfl rfl ht41 rfl rfl rfl w_6_216 (Call.weaken h ?_)
        rintro H40 _ ⟨rfl, h⟩
        change WP _ _ _ _ _ _ [] H40 _
        refine wp_aload_n 1 dX12_part_68 rfl ?_
        refine wp_dup dX12_part_69 (rv_cat _) ?_
        obtain ⟨ht42, h⟩ := h
        refine wp_getI (ci := 12) (j := 26) dX12_part_70 fi_X12_369r rfl rfl ht42 ?_
        change WP _ _ _ _ _ _ (.int (hI H40 1326 a0 0) :: _) _ _
        refine wp_iconst (v := (1 : Int32)) dX12_part_73 (by decide) ?_
        refine wp_isub dX12_part_74 ?_
        refine wp_putI (ci := 12) (j := 26) dX12_part_75 fi_X12_369 rfl (fun z => by cases z) rfl ht42 rfl rfl ?_
        change WP _ _ _ _ _ _ _ (sI H40 1326 a0 0 ((hI H40 1326 a0 0) - (1 : Int32))) _
        refine wp_aload_n 1 dX12_part_78 rfl ?_
        refine wp_iconst (v := (0 : Int32)) dX12_part_79 (by decide) ?_
        refine wp_putI (ci := 12) (j := 49) dX12_part_80 fi_X12_359 rfl (fun z => by cases z) rfl ht42 rfl rfl ?_
        change WP _ _ _ _ _ _ _ (sI (sI H40 1326 a0 0 ((hI H40 1326 a0 0) - (1 : Int32))) 1349 a0 0 (0 : Int32)) _
        refine wp_iload_n 0 dX12_part_83 rfl ?_
        exact wp_ireturn (ty := .int) dX12_part_84 rfl rfl ⟨_, rfl, h⟩
      · replace h := h.2 c
        refine wp_aload_n 0 dX12_part_31 rfl ?_
        refine wp_callV (ci := 12) (As := []) (rest := []) (mc := 0) (ms := 0) dX12_part_32 lk_X12_192 rfl rfl (by decide) rfl rfl rfl ht37 rfl rfl rfl w_6_212 (Call.weaken h ?_)
        rintro H43 _ ⟨rfl, h⟩
        change WP _ _ _ _ _ _ [] H43 _
        refine wp_iconst (v := (-1 : Int32)) dX12_part_35 (by decide) ?_
        exact wp_ireturn (ty := .int) dX12_part_36 rfl rfl ⟨_, rfl, h⟩
  · replace h := h.2 c
    refine wp_iconst (v := (-1 : Int32)) dX12_part_12 (by decide) ?_
    exact wp_ireturn (ty := .int) dX12_part_13 rfl rfl ⟨_, rfl, h⟩
theorem C_X12_part {d : Nat} {q : HP → Int32 → Prop} {a0 : Nat} {H : HP} (h : wb_X12_part_0 d q a0 H) : CI (d + 1) 0 0 mX12_part [rv (some a0)] H q := by
  refine call_of (by decide +kernel) (by simp [lg_sl, rv_cat, vc_int, vc_long, vc_float, vc_double]) ?_
  have e : lv_args 0 [rv (some a0)] = [(0, rv (some a0))] := by simp [lv_args, rv_cat, vc_int, vc_long, vc_float, vc_double]
  rw [e]
  exact T_X12_part_0 h
def wb_X12_partOf_0 (d : Nat) (q : HP → Int64 → Prop) (x0 : Int64) (x2 : Int64) (x4 : Int32) (H : HP) : Prop :=
  (¬ x4 = 0 → q H x2) ∧ (x4 = 0 → q H x0)
set_option maxRecDepth 40000 in
set_option maxHeartbeats 4000000 in
theorem T_X12_partOf_0 {d : Nat} {q : HP → Int64 → Prop} {x0 : Int64} {x2 : Int64} {x4 : Int32} {H : HP} (h : wb_X12_partOf_0 d q x0 x2 x4 H) : WP (d + 1) mX12_partOf 0 0 0 [(0, .long x0), (2, .long x2), (4, .int x4)] [] H (qJ q) := by
  unfold wb_X12_partOf_0 at h
  refine wp_iload 2 dX12_partOf_0 rfl ?_
  refine wp_if_ne (tgt := 9) dX12_partOf_2 rfl (fun c => ?_) (fun c => ?_)
  · replace h := h.1 c
    refine wp_lload_n 1 dX12_partOf_9 rfl ?_
    exact wp_lreturn dX12_partOf_10 rfl ⟨_, rfl, h⟩
  · replace h := h.2 c
    refine wp_lload_n 0 dX12_partOf_5 rfl ?_
    refine wp_goto (tgt := 10) dX12_partOf_6 rfl ?_
    exact wp_lreturn dX12_partOf_10 rfl ⟨_, rfl, h⟩
theorem C_X12_partOf {d : Nat} {q : HP → Int64 → Prop} {x0 : Int64} {x2 : Int64} {x4 : Int32} {H : HP} (h : wb_X12_partOf_0 d q x0 x2 x4 H) : CJ (d + 1) 0 0 mX12_partOf [.long x0, .long x2, .int x4] H q := by
  refine call_of (by decide +kernel) (by simp [lg_sl, rv_cat, vc_int, vc_long, vc_float, vc_double]) ?_
  have e : lv_args 0 [.long x0, .long x2, .int x4] = [(0, .long x0), (2, .long x2), (4, .int x4)] := by simp [lv_args, rv_cat, vc_int, vc_long, vc_float, vc_double]
  rw [e]
  exact T_X12_partOf_0 h
/-- UnitProverModel.parted(IIIII)J: the loop at 130 -/
def L_X12_parted_130 (d : Nat) (q : HP → Int64 → Prop) (a0 : Nat) (x4 : Int32) (x5 : Int32) (x7 : Int32) (x8 : Int64) (x10 : Int64) (x12 : Int32) (H : HP) : Prop := WP (d + 1) mX12_parted 0 0 130 [(0, rv (some a0)), (4, .int x4), (5, .int x5), (7, .int x7), (8, .long x8), (10, .long x10), (12, .int x12)] [] H (qJ q)
def wb_X12_parted_26 (d : Nat) (q : HP → Int64 → Prop) (a0 : Nat) (x1 : Int32) (x2 : Int32) (x3 : Int32) (x4 : Int32) (x5 : Int32) (x6 : Int32) (s0 : Int32) (H : HP) : Prop :=
  tg H a0 = 13 ∧ (∃ a2, (hC H 1353 a0) = some a2 ∧ (isA H a2 0 ∧ (vp_in (0 : Int32) (ln H a2) ∧ (∃ a5, (hC (sI H (tg H a2) a2 (0 : Int32).toNatClampNeg x1) 1353 a0) = some a5 ∧ (isA (sI H (tg H a2) a2 (0 : Int32).toNatClampNeg x1) a5 0 ∧ (vp_in (1 : Int32) (ln (sI H (tg H a2) a2 (0 : Int32).toNatClampNeg x1) a5) ∧ (∃ a8, (hC (sI (sI H (tg H a2) a2 (0 : Int32).toNatClampNeg x1) (tg (sI H (tg H a2) a2 (0 : Int32).toNatClampNeg x1) a5) a5 (1 : Int32).toNatClampNeg x2) 1353 a0) = some a8 ∧ (isA (sI (sI H (tg H a2) a2 (0 : Int32).toNatClampNeg x1) (tg (sI H (tg H a2) a2 (0 : Int32).toNatClampNeg x1) a5) a5 (1 : Int32).toNatClampNeg x2) a8 0 ∧ (vp_in (2 : Int32) (ln (sI (sI H (tg H a2) a2 (0 : Int32).toNatClampNeg x1) (tg (sI H (tg H a2) a2 (0 : Int32).toNatClampNeg x1) a5) a5 (1 : Int32).toNatClampNeg x2) a8) ∧ (∀ H11, (sI (sI (sI H (tg H a2) a2 (0 : Int32).toNatClampNeg x1) (tg (sI H (tg H a2) a2 (0 : Int32).toNatClampNeg x1) a5) a5 (1 : Int32).toNatClampNeg x2) (tg (sI (sI H (tg H a2) a2 (0 : Int32).toNatClampNeg x1) (tg (sI H (tg H a2) a2 (0 : Int32).toNatClampNeg x1) a5) a5 (1 : Int32).toNatClampNeg x2) a8) a8 (2 : Int32).toNatClampNeg x3) = H11 → ((x6 < 0 → q H11 (-9223372036854775808 : Int64)) ∧ (¬ (x6 < 0) → CZ d 0 0 mX12_isPart [.int x5] H11 (fun H17 b18 => (b18 = false → q H17 (-9223372036854775808 : Int64)) ∧ (b18 = true → CZ d 0 0 mX12_isIn [.long (x4.toInt64), .long (0 : Int64), .long ((s0 - (1 : Int32)).toInt64)] H17 (fun H19 b20 => (b20 = false → q H19 (-9223372036854775808 : Int64)) ∧ (b20 = true → tg H19 a0 = 13 ∧ (CZ d 0 0 mX12_mayPart [rv (some a0), .int x6, .int s0] H19 (fun H21 b23 => (b23 = false → q H21 (-9223372036854775808 : Int64)) ∧ (b23 = true → tg H21 a0 = 13 ∧ (∃ a25, (hC H21 1347 a0) = some a25 ∧ (isA H21 a25 3 ∧ (vp_in x6 (ln H21 a25) ∧ (((0 : Int64) ≤ (hL H21 (tg H21 a25) a25 x6.toNatClampNeg) → vp_in x6 (ln H21 a25) ∧ (∃ a29, (hC H21 1348 a0) = some a29 ∧ (isA H21 a29 3 ∧ (vp_in x6 (ln H21 a29) ∧ (L_X12_parted_130 d q a0 x4 x5 s0 (hL H21 (tg H21 a25) a25 x6.toNatClampNeg) (hL H21 (tg H21 a29) a29 x6.toNatClampNeg) (0 : Int32) (sI H21 1321 a0 0 (0 : Int32))))))) ∧ (¬ ((0 : Int64) ≤ (hL H21 (tg H21 a25) a25 x6.toNatClampNeg)) → q H21 (-9223372036854775808 : Int64)))))))))))))))))))))))))
set_option maxRecDepth 40000 in
set_option maxHeartbeats 4000000 in
theorem T_X12_parted_26 {d : Nat} {q : HP → Int64 → Prop} {a0 : Nat} {x1 : Int32} {x2 : Int32} {x3 : Int32} {x4 : Int32} {x5 : Int32} {x6 : Int32} {s0 : Int32} {H : HP} (h : wb_X12_parted_26 d q a0 x1 x2 x3 x4 x5 x6 s0 H) : WP (d + 1) mX12_parted 0 0 26 [(0, rv (some a0)), (1, .int x1), (2, .int x2), (3, .int x3), (4, .int x4), (5, .int x5), (6, .int x6)] [.int s0] H (qJ q) := by
  unfold wb_X12_parted_26 at h
  refine wp_istore (ls' := [(7, .int s0), (0, rv (some a0)), (1, .int x1), (2, .int x2), (3, .int x3), (4, .int x4), (5, .int x5), (6, .int x6)]) dX12_parted_26 (by decide) rfl ?_
  refine wp_aload_n 1 dX12_parted_28 rfl ?_
  obtain ⟨ht1, h⟩ := h
  refine wp_getC (ci := 12) (j := 53) dX12_parted_29 fi_X12_95r rfl rfl ht1 ?_
  change WP _ _ _ _ _ _ (rv (hC H 1353 a0) :: _) _ _
  refine wp_iconst (v := (0 : Int32)) dX12_parted_32 (by decide) ?_
  refine wp_iload_n 2 dX12_parted_33 rfl ?_
  obtain ⟨a2, ha2, h⟩ := h
  obtain ⟨hr3, h⟩ := h
  obtain ⟨hg4, h⟩ := h
  refine wp_iastore dX12_parted_34 ha2 hr3 hg4 ?_
  change WP _ _ _ _ _ _ _ (sI H (tg H a2) a2 (0 : Int32).toNatClampNeg x1) _
  refine wp_aload_n 1 dX12_parted_35 rfl ?_
  refine wp_getC (ci := 12) (j := 53) dX12_parted_36 fi_X12_95r rfl rfl ht1 ?_
  change WP _ _ _ _ _ _ (rv (hC (sI H (tg H a2) a2 (0 : Int32).toNatClampNeg x1) 1353 a0) :: _) _ _
  refine wp_iconst (v := (1 : Int32)) dX12_parted_39 (by decide) ?_
  refine wp_iload_n 3 dX12_parted_40 rfl ?_
  obtain ⟨a5, ha5, h⟩ := h
  obtain ⟨hr6, h⟩ := h
  obtain ⟨hg7, h⟩ := h
  refine wp_iastore dX12_parted_41 ha5 hr6 hg7 ?_
  change WP _ _ _ _ _ _ _ (sI (sI H (tg H a2) a2 (0 : Int32).toNatClampNeg x1) (tg (sI H (tg H a2) a2 (0 : Int32).toNatClampNeg x1) a5) a5 (1 : Int32).toNatClampNeg x2) _
  refine wp_aload_n 1 dX12_parted_42 rfl ?_
  refine wp_getC (ci := 12) (j := 53) dX12_parted_43 fi_X12_95r rfl rfl ht1 ?_
  change WP _ _ _ _ _ _ (rv (hC (sI (sI H (tg H a2) a2 (0 : Int32).toNatClampNeg x1) (tg (sI H (tg H a2) a2 (0 : Int32).toNatClampNeg x1) a5) a5 (1 : Int32).toNatClampNeg x2) 1353 a0) :: _) _ _
  refine wp_iconst (v := (2 : Int32)) dX12_parted_46 (by decide) ?_
  refine wp_iload_n 4 dX12_parted_47 rfl ?_
  obtain ⟨a8, ha8, h⟩ := h
  obtain ⟨hr9, h⟩ := h
  obtain ⟨hg10, h⟩ := h
  refine wp_iastore dX12_parted_48 ha8 hr9 hg10 ?_
  change WP _ _ _ _ _ _ _ (sI (sI (sI H (tg H a2) a2 (0 : Int32).toNatClampNeg x1) (tg (sI H (tg H a2) a2 (0 : Int32).toNatClampNeg x1) a5) a5 (1 : Int32).toNatClampNeg x2) (tg (sI (sI H (tg H a2) a2 (0 : Int32).toNatClampNeg x1) (tg (sI H (tg H a2) a2 (0 : Int32).toNatClampNeg x1) a5) a5 (1 : Int32).toNatClampNeg x2) a8) a8 (2 : Int32).toNatClampNeg x3) _
  replace h := h _ rfl
  generalize e12 : (sI (sI (sI H (tg H a2) a2 (0 : Int32).toNatClampNeg x1) (tg (sI H (tg H a2) a2 (0 : Int32).toNatClampNeg x1) a5) a5 (1 : Int32).toNatClampNeg x2) (tg (sI (sI H (tg H a2) a2 (0 : Int32).toNatClampNeg x1) (tg (sI H (tg H a2) a2 (0 : Int32).toNatClampNeg x1) a5) a5 (1 : Int32).toNatClampNeg x2) a8) a8 (2 : Int32).toNatClampNeg x3) = H11 at h ⊢
  have ht13 : tg H11 a0 = 13 := by rw [← e12]; exact ht1
  have hr14 : isA H11 a2 0 := by rw [← e12]; exact hr3
  have hr15 : isA H11 a5 0 := by rw [← e12]; exact hr6
  have hr16 : isA H11 a8 0 := by rw [← e12]; exact hr9
  refine wp_iload 7 dX12_parted_49 rfl ?_
  refine wp_if_lt (tgt := 100) dX12_parted_51 rfl (fun c => ?_) (fun c => ?_)
  · replace h := h.1 c
    refine wp_ldc2 dX12_parted_100 w_7_55 ?_
    exact wp_lreturn dX12_parted_103 rfl ⟨_, rfl, h⟩
  · replace h := h.2 c
    refine wp_iload 6 dX12_parted_54 rfl ?_
    refine wp_callS (As := [.int x5]) (rest := []) (mc := 0) (ms := 0) dX12_parted_56 lk_X12_288 rfl rfl (by decide) rfl rfl rfl (Call.weaken h ?_)
    rintro H17 _ ⟨b18, rfl, h⟩
    change WP _ _ _ _ _ _ [.int (bI b18)] H17 _
    refine wp_if_eq (tgt := 100) dX12_parted_59 rfl (fun c => ?_) (fun c => ?_)
    · replace h := h.1 (bI_0.mp c)
      refine wp_ldc2 dX12_parted_100 w_7_55 ?_
      exact wp_lreturn dX12_parted_103 rfl ⟨_, rfl, h⟩
    · replace h := h.2 (bI_1.mp c)
      refine wp_iload 5 dX12_parted_62 rfl ?_
      refine wp_i2l dX12_parted_64 ?_
      refine wp_lconst (v := (0 : Int64)) dX12_parted_65 (by decide) ?_
      refine wp_iload 0 dX12_parted_66 rfl ?_
      refine wp_iconst (v := (1 : Int32)) dX12_parted_68 (by decide) ?_
      refine wp_isub dX12_parted_69 ?_
      refine wp_i2l dX12_parted_70 ?_
      refine wp_callS (As := [.long (x4.toInt64), .long (0 : Int64), .long ((s0 - (1 : Int32)).toInt64)]) (rest := []) (mc := 0) (ms := 0) dX12_parted_71 lk_X12_161 rfl rfl (by decide) rfl rfl rfl (Call.weaken h ?_)
      rintro H19 _ ⟨b20, rfl, h⟩
      change WP _ _ _ _ _ _ [.int (bI b20)] H19 _
      refine wp_if_eq (tgt := 100) dX12_parted_74 rfl (fun c => ?_) (fun c => ?_)
      · replace h := h.1 (bI_0.mp c)
        refine wp_ldc2 dX12_parted_100 w_7_55 ?_
        exact wp_lreturn dX12_parted_103 rfl ⟨_, rfl, h⟩
      · replace h := h.2 (bI_1.mp c)
        refine wp_aload_n 1 dX12_parted_77 rfl ?_
        refine wp_iload 7 dX12_parted_78 rfl ?_
        refine wp_iload 0 dX12_parted_80 rfl ?_
        obtain ⟨ht22, h⟩ := h
        refine wp_callV (ci := 12) (As := [.int x6, .int s0]) (rest := []) (mc := 0) (ms := 0) dX12_parted_82 lk_X12_437 rfl rfl (by decide) rfl rfl rfl ht22 rfl rfl rfl w_8_33 (Call.weaken h ?_)
        rintro H21 _ ⟨b23, rfl, h⟩
        change WP _ _ _ _ _ _ [.int (bI b23)] H21 _
        refine wp_if_eq (tgt := 100) dX12_parted_85 rfl (fun c => ?_) (fun c => ?_)
        · replace h := h.1 (bI_0.mp c)
          refine wp_ldc2 dX12_parted_100 w_7_55 ?_
          exact wp_lreturn dX12_parted_103 rfl ⟨_, rfl, h⟩
        · replace h := h.2 (bI_1.mp c)
          refine wp_aload_n 1 dX12_parted_88 rfl ?_
          obtain ⟨ht24, h⟩ := h
          refine wp_getC (ci := 12) (j := 47) dX12_parted_89 fi_X12_83r rfl rfl ht24 ?_
          change WP _ _ _ _ _ _ (rv (hC H21 1347 a0) :: _) _ _
          refine wp_iload 7 dX12_parted_92 rfl ?_
          obtain ⟨a25, ha25, h⟩ := h
          obtain ⟨hr26, h⟩ := h
          obtain ⟨hg27, h⟩ := h
          refine wp_laload dX12_parted_94 ha25 hr26 hg27 ?_
          refine wp_lconst (v := (0 : Int64)) dX12_parted_95 (by decide) ?_
          refine wp_lcmp dX12_parted_96 ?_
          refine wp_if_ge (tgt := 104) dX12_parted_97 rfl (fun c => ?_) (fun c => ?_)
          · replace h := h.1 (lgc_ge.mp c)
            refine wp_aload_n 1 dX12_parted_104 rfl ?_
            refine wp_getC (ci := 12) (j := 47) dX12_parted_105 fi_X12_83r rfl rfl ht24 ?_
            change WP _ _ _ _ _ _ (rv (hC H21 1347 a0) :: _) _ _
            refine wp_iload 7 dX12_parted_108 rfl ?_
            obtain ⟨hg28, h⟩ := h
            refine wp_laload dX12_parted_110 ha25 hr26 hg28 ?_
            refine wp_lstore (ls' := [(8, .long (hL H21 (tg H21 a25) a25 x6.toNatClampNeg)), (7, .int s0), (0, rv (some a0)), (1, .int x1), (2, .int x2), (3, .int x3), (4, .int x4), (5, .int x5), (6, .int x6)]) dX12_parted_111 (by decide) rfl ?_
            refine wp_aload_n 2 dX12_parted_113 rfl ?_
            refine wp_getC (ci := 12) (j := 48) dX12_parted_114 fi_X12_86r rfl rfl ht24 ?_
            change WP _ _ _ _ _ _ (rv (hC H21 1348 a0) :: _) _ _
            refine wp_iload 8 dX12_parted_117 rfl ?_
            obtain ⟨a29, ha29, h⟩ := h
            obtain ⟨hr30, h⟩ := h
            obtain ⟨hg31, h⟩ := h
            refine wp_laload dX12_parted_119 ha29 hr30 hg31 ?_
            refine wp_lstore (ls' := [(10, .long (hL H21 (tg H21 a29) a29 x6.toNatClampNeg)), (8, .long (hL H21 (tg H21 a25) a25 x6.toNatClampNeg)), (7, .int s0), (0, rv (some a0)), (1, .int x1), (2, .int x2), (3, .int x3), (4, .int x4), (5, .int x5), (6, .int x6)]) dX12_parted_120 (by decide) rfl ?_
            refine wp_aload_n 3 dX12_parted_122 rfl ?_
            refine wp_iconst (v := (0 : Int32)) dX12_parted_123 (by decide) ?_
            refine wp_putI (ci := 12) (j := 21) dX12_parted_124 fi_X12_133 rfl (fun z => by cases z) rfl ht24 rfl rfl ?_
            change WP _ _ _ _ _ _ _ (sI H21 1321 a0 0 (0 : Int32)) _
            refine wp_iconst (v := (0 : Int32)) dX12_parted_127 (by decide) ?_
            refine wp_istore (ls' := [(12, .int (0 : Int32)), (10, .long (hL H21 (tg H21 a29) a29 x6.toNatClampNeg)), (8, .long (hL H21 (tg H21 a25) a25 x6.toNatClampNeg)), (7, .int s0), (0, rv (some a0)), (1, .int x1), (2, .int x2), (3, .int x3), (4, .int x4), (5, .int x5), (6, .int x6)]) dX12_parted_128 (by decide) rfl ?_
            refine wp_sub (ls' := [(0, rv (some a0)), (4, .int x4), (5, .int x5), (7, .int s0), (8, .long (hL H21 (tg H21 a25) a25 x6.toNatClampNeg)), (10, .long (hL H21 (tg H21 a29) a29 x6.toNatClampNeg)), (12, .int (0 : Int32))]) [4, 8, 9, 3, 2, 1, 0] rfl ?_
            exact h
          · replace h := h.2 (fun z => c (lgc_ge.mpr z))
            refine wp_ldc2 dX12_parted_100 w_7_55 ?_
            exact wp_lreturn dX12_parted_103 rfl ⟨_, rfl, h⟩
def wb_X12_parted_0 (d : Nat) (q : HP → Int64 → Prop) (a0 : Nat) (x1 : Int32) (x2 : Int32) (x3 : Int32) (x4 : Int32) (x5 : Int32) (H : HP) : Prop :=
  tg H a0 = 13 ∧ (CI d 0 0 mX12_result [rv (some a0), .int (0 : Int32)] H (fun H1 r3 => (x3 = (-1 : Int32) → (x2 = (-1 : Int32) → wb_X12_parted_26 d q a0 x1 x2 x3 x4 x5 r3 (1 : Int32) H1) ∧ (¬ (x2 = (-1 : Int32)) → wb_X12_parted_26 d q a0 x1 x2 x3 x4 x5 r3 (2 : Int32) H1)) ∧ (¬ (x3 = (-1 : Int32)) → wb_X12_parted_26 d q a0 x1 x2 x3 x4 x5 r3 (3 : Int32) H1)))
set_option maxRecDepth 40000 in
set_option maxHeartbeats 4000000 in
theorem T_X12_parted_0 {d : Nat} {q : HP → Int64 → Prop} {a0 : Nat} {x1 : Int32} {x2 : Int32} {x3 : Int32} {x4 : Int32} {x5 : Int32} {H : HP} (h : wb_X12_parted_0 d q a0 x1 x2 x3 x4 x5 H) : WP (d + 1) mX12_parted 0 0 0 [(0, rv (some a0)), (1, .int x1), (2, .int x2), (3, .int x3), (4, .int x4), (5, .int x5)] [] H (qJ q) := by
  unfold wb_X12_parted_0 at h
  refine wp_aload_n 0 dX12_parted_0 rfl ?_
  refine wp_iconst (v := (0 : Int32)) dX12_parted_1 (by decide) ?_
  obtain ⟨ht2, h⟩ := h
  refine wp_callV (ci := 12) (As := [.int (0 : Int32)]) (rest := []) (mc := 0) (ms := 0) dX12_parted_2 lk_X12_416 rfl rfl (by decide) rfl rfl rfl ht2 rfl rfl rfl w_7_237 (Call.weaken h ?_)
  rintro H1 _ ⟨r3, rfl, h⟩
  change WP _ _ _ _ _ _ [.int r3] H1 _
  refine wp_istore (ls' := [(6, .int r3), (0, rv (some a0)), (1, .int x1), (2, .int x2), (3, .int x3), (4, .int x4), (5, .int x5)]) dX12_parted_5 (by decide) rfl ?_
  refine wp_iload_n 4 dX12_parted_7 rfl ?_
  refine wp_iconst (v := (-1 : Int32)) dX12_parted_8 (by decide) ?_
  refine wp_icmp_eq (tgt := 16) dX12_parted_9 rfl (fun c => ?_) (fun c => ?_)
  · replace h := h.1 c
    refine wp_iload_n 3 dX12_parted_16 rfl ?_
    refine wp_iconst (v := (-1 : Int32)) dX12_parted_17 (by decide) ?_
    refine wp_icmp_eq (tgt := 25) dX12_parted_18 rfl (fun c => ?_) (fun c => ?_)
    · replace h := h.1 c
      refine wp_iconst (v := (1 : Int32)) dX12_parted_25 (by decide) ?_
      refine wp_sub (ls' := [(0, rv (some a0)), (1, .int x1), (2, .int x2), (3, .int x3), (4, .int x4), (5, .int x5), (6, .int r3)]) [1, 2, 3, 4, 5, 6, 0] rfl ?_
      exact T_X12_parted_26 h
    · replace h := h.2 c
      refine wp_iconst (v := (2 : Int32)) dX12_parted_21 (by decide) ?_
      refine wp_goto (tgt := 26) dX12_parted_22 rfl ?_
      refine wp_sub (ls' := [(0, rv (some a0)), (1, .int x1), (2, .int x2), (3, .int x3), (4, .int x4), (5, .int x5), (6, .int r3)]) [1, 2, 3, 4, 5, 6, 0] rfl ?_
      exact T_X12_parted_26 h
  · replace h := h.2 c
    refine wp_iconst (v := (3 : Int32)) dX12_parted_12 (by decide) ?_
    refine wp_goto (tgt := 26) dX12_parted_13 rfl ?_
    refine wp_sub (ls' := [(0, rv (some a0)), (1, .int x1), (2, .int x2), (3, .int x3), (4, .int x4), (5, .int x5), (6, .int r3)]) [1, 2, 3, 4, 5, 6, 0] rfl ?_
    exact T_X12_parted_26 h
def wb_X12_parted_130 (d : Nat) (q : HP → Int64 → Prop) (a0 : Nat) (x4 : Int32) (x5 : Int32) (x7 : Int32) (x8 : Int64) (x10 : Int64) (x12 : Int32) (H : HP) : Prop :=
  (x4 < x12 → q H (-9223372036854775808 : Int64)) ∧ (¬ (x4 < x12) → tg H a0 = 13 ∧ (∃ a2, (hC H 1353 a0) = some a2 ∧ (isA H a2 0 ∧ (vp_in x12 (ln H a2) ∧ (∃ a5, (hC H 1303 a0) = some a5 ∧ (isA H a5 3 ∧ (vp_in (hI H (tg H a2) a2 x12.toNatClampNeg) (ln H a5) ∧ (∃ a8, (hC H 1304 a0) = some a8 ∧ (isA H a8 3 ∧ (vp_in (hI H (tg H a2) a2 x12.toNatClampNeg) (ln H a8) ∧ (CV d 0 0 mX12_by [rv (some a0), .long x8, .long x10, .long (hL H (tg H a5) a5 (hI H (tg H a2) a2 x12.toNatClampNeg).toNatClampNeg), .long (hL H (tg H a8) a8 (hI H (tg H a2) a2 x12.toNatClampNeg).toNatClampNeg)] H (fun H11 => tg H11 a0 = 13 ∧ (((hI H11 1321 a0 0) = 0 → (¬ x12 = (x7 - (1 : Int32)) → ¬ (hL H11 1320 a0 0) = 0 ∧ ((¬ x12 = x4 → ∃ a14, (hC H11 1303 a0) = some a14 ∧ (isA H11 a14 3 ∧ (vp_in (hI H (tg H a2) a2 x12.toNatClampNeg) (ln H11 a14) ∧ (∃ a17, (hC H11 1304 a0) = some a17 ∧ (isA H11 a17 3 ∧ (vp_in (hI H (tg H a2) a2 x12.toNatClampNeg) (ln H11 a17) ∧ (CV d 0 0 mX12_times [rv (some a0), .long ((hL H11 1319 a0 0) / (hL H11 1320 a0 0)), .long (1 : Int64), .long (hL H11 (tg H11 a14) a14 (hI H (tg H a2) a2 x12.toNatClampNeg).toNatClampNeg), .long (hL H11 (tg H11 a17) a17 (hI H (tg H a2) a2 x12.toNatClampNeg).toNatClampNeg)] H11 (fun H20 => tg H20 a0 = 13 ∧ ((¬ (hI H20 1321 a0 0) = 0 → ((hI H20 1321 a0 0) = 0 → L_X12_parted_130 d q a0 x4 x5 x7 (hL H20 1319 a0 0) (hL H20 1320 a0 0) (x12 + 1) H20) ∧ (¬ ((hI H20 1321 a0 0) = 0) → q H20 (-9223372036854775808 : Int64))) ∧ ((hI H20 1321 a0 0) = 0 → CV d 0 0 mX12_plus [rv (some a0), .long x8, .long x10, .long (hL H20 1319 a0 0), .long (hL H20 1320 a0 0), .int (-1 : Int32)] H20 (fun H22 => tg H22 a0 = 13 ∧ (((hI H22 1321 a0 0) = 0 → L_X12_parted_130 d q a0 x4 x5 x7 (hL H22 1319 a0 0) (hL H22 1320 a0 0) (x12 + 1) H22) ∧ (¬ ((hI H22 1321 a0 0) = 0) → q H22 (-9223372036854775808 : Int64)))))))))))))) ∧ (x12 = x4 → (¬ x5 = 0 → q H11 (1 : Int64)) ∧ (x5 = 0 → q H11 ((hL H11 1319 a0 0) / (hL H11 1320 a0 0)))))) ∧ (x12 = (x7 - (1 : Int32)) → CJ d 0 0 mX12_partOf [.long (hL H11 1319 a0 0), .long (hL H11 1320 a0 0), .int x5] H11 (fun H24 r25 => q H24 r25))) ∧ (¬ ((hI H11 1321 a0 0) = 0) → q H11 (-9223372036854775808 : Int64)))))))))))))))
set_option maxRecDepth 40000 in
set_option maxHeartbeats 4000000 in
theorem T_X12_parted_130 {d : Nat} {q : HP → Int64 → Prop} {a0 : Nat} {x4 : Int32} {x5 : Int32} {x7 : Int32} {x8 : Int64} {x10 : Int64} {x12 : Int32} {H : HP} (h : wb_X12_parted_130 d q a0 x4 x5 x7 x8 x10 x12 H) : L_X12_parted_130 d q a0 x4 x5 x7 x8 x10 x12 H := by
  unfold wb_X12_parted_130 at h
  unfold L_X12_parted_130
  refine wp_iload 6 dX12_parted_130 rfl ?_
  refine wp_iload 1 dX12_parted_132 rfl ?_
  refine wp_icmp_gt (tgt := 306) dX12_parted_134 rfl (fun c => ?_) (fun c => ?_)
  · replace h := h.1 c
    refine wp_ldc2 dX12_parted_306 w_7_55 ?_
    exact wp_lreturn dX12_parted_309 rfl ⟨_, rfl, h⟩
  · replace h := h.2 c
    refine wp_aload_n 0 dX12_parted_137 rfl ?_
    obtain ⟨ht1, h⟩ := h
    refine wp_getC (ci := 12) (j := 53) dX12_parted_138 fi_X12_95r rfl rfl ht1 ?_
    change WP _ _ _ _ _ _ (rv (hC H 1353 a0) :: _) _ _
    refine wp_iload 6 dX12_parted_141 rfl ?_
    obtain ⟨a2, ha2, h⟩ := h
    obtain ⟨hr3, h⟩ := h
    obtain ⟨hg4, h⟩ := h
    refine wp_iaload dX12_parted_143 ha2 hr3 hg4 ?_
    refine wp_istore (ls' := [(13, .int (hI H (tg H a2) a2 x12.toNatClampNeg)), (0, rv (some a0)), (4, .int x4), (5, .int x5), (7, .int x7), (8, .long x8), (10, .long x10), (12, .int x12)]) dX12_parted_144 (by decide) rfl ?_
    refine wp_aload_n 1 dX12_parted_146 rfl ?_
    refine wp_lload 5 dX12_parted_147 rfl ?_
    refine wp_lload 6 dX12_parted_149 rfl ?_
    refine wp_aload_n 1 dX12_parted_151 rfl ?_
    refine wp_getC (ci := 12) (j := 3) dX12_parted_152 fi_X12_22r rfl rfl ht1 ?_
    change WP _ _ _ _ _ _ (rv (hC H 1303 a0) :: _) _ _
    refine wp_iload 0 dX12_parted_155 rfl ?_
    obtain ⟨a5, ha5, h⟩ := h
    obtain ⟨hr6, h⟩ := h
    obtain ⟨hg7, h⟩ := h
    refine wp_laload dX12_parted_157 ha5 hr6 hg7 ?_
    refine wp_aload_n 1 dX12_parted_158 rfl ?_
    refine wp_getC (ci := 12) (j := 4) dX12_parted_159 fi_X12_26r rfl rfl ht1 ?_
    change WP _ _ _ _ _ _ (rv (hC H 1304 a0) :: _) _ _
    refine wp_iload 0 dX12_parted_162 rfl ?_
    obtain ⟨a8, ha8, h⟩ := h
    obtain ⟨hr9, h⟩ := h
    obtain ⟨hg10, h⟩ := h
    refine wp_laload dX12_parted_164 ha8 hr9 hg10 ?_
    refine wp_callV (ci := 12) (As := [.long x8, .long x10, .long (hL H (tg H a5) a5 (hI H (tg H a2) a2 x12.toNatClampNeg).toNatClampNeg), .long (hL H (tg H a8) a8 (hI H (tg H a2) a2 x12.toNatClampNeg).toNatClampNeg)]) (rest := []) (mc := 0) (ms := 0) dX12_parted_165 lk_X12_253 rfl rfl (by decide) rfl rfl rfl ht1 rfl rfl rfl w_7_56 (Call.weaken h ?_)
    rintro H11 _ ⟨rfl, h⟩
    change WP _ _ _ _ _ _ [] H11 _
    refine wp_aload_n 1 dX12_parted_168 rfl ?_
    obtain ⟨ht12, h⟩ := h
    refine wp_getI (ci := 12) (j := 21) dX12_parted_169 fi_X12_133r rfl rfl ht12 ?_
    change WP _ _ _ _ _ _ (.int (hI H11 1321 a0 0) :: _) _ _
    refine wp_if_eq (tgt := 179) dX12_parted_172 rfl (fun c => ?_) (fun c => ?_)
    · replace h := h.1 c
      refine wp_iload 7 dX12_parted_179 rfl ?_
      refine wp_iload 4 dX12_parted_181 rfl ?_
      refine wp_iconst (v := (1 : Int32)) dX12_parted_183 (by decide) ?_
      refine wp_isub dX12_parted_184 ?_
      refine wp_icmp_ne (tgt := 202) dX12_parted_185 rfl (fun c => ?_) (fun c => ?_)
      · replace h := h.1 c
        refine wp_aload_n 1 dX12_parted_202 rfl ?_
        refine wp_getL (ci := 12) (j := 19) dX12_parted_203 fi_X12_143r rfl rfl ht12 ?_
        change WP _ _ _ _ _ _ (.long (hL H11 1319 a0 0) :: _) _ _
        refine wp_aload_n 1 dX12_parted_206 rfl ?_
        refine wp_getL (ci := 12) (j := 20) dX12_parted_207 fi_X12_147r rfl rfl ht12 ?_
        change WP _ _ _ _ _ _ (.long (hL H11 1320 a0 0) :: _) _ _
        obtain ⟨hg13, h⟩ := h
        refine wp_ldiv dX12_parted_210 hg13 ?_
        refine wp_lstore (ls' := [(14, .long ((hL H11 1319 a0 0) / (hL H11 1320 a0 0))), (13, .int (hI H (tg H a2) a2 x12.toNatClampNeg)), (0, rv (some a0)), (4, .int x4), (5, .int x5), (7, .int x7), (8, .long x8), (10, .long x10), (12, .int x12)]) dX12_parted_211 (by decide) rfl ?_
        refine wp_iload 8 dX12_parted_213 rfl ?_
        refine wp_iload 3 dX12_parted_215 rfl ?_
        refine wp_icmp_ne (tgt := 232) dX12_parted_217 rfl (fun c => ?_) (fun c => ?_)
        · replace h := h.1 c
          refine wp_aload_n 2 dX12_parted_232 rfl ?_
          refine wp_lload 0 dX12_parted_233 rfl ?_
          refine wp_lconst (v := (1 : Int64)) dX12_parted_235 (by decide) ?_
          refine wp_aload_n 2 dX12_parted_236 rfl ?_
          refine wp_getC (ci := 12) (j := 3) dX12_parted_237 fi_X12_22r rfl rfl ht12 ?_
          change WP _ _ _ _ _ _ (rv (hC H11 1303 a0) :: _) _ _
          refine wp_iload 1 dX12_parted_240 rfl ?_
          obtain ⟨a14, ha14, h⟩ := h
          obtain ⟨hr15, h⟩ := h
          obtain ⟨hg16, h⟩ := h
          refine wp_laload dX12_parted_242 ha14 hr15 hg16 ?_
          refine wp_aload_n 2 dX12_parted_243 rfl ?_
          refine wp_getC (ci := 12) (j := 4) dX12_parted_244 fi_X12_26r rfl rfl ht12 ?_
          change WP _ _ _ _ _ _ (rv (hC H11 1304 a0) :: _) _ _
          refine wp_iload 1 dX12_parted_247 rfl ?_
          obtain ⟨a17, ha17, h⟩ := h
          obtain ⟨hr18, h⟩ := h
          obtain ⟨hg19, h⟩ := h
          refine wp_laload dX12_parted_249 ha17 hr18 hg19 ?_
          refine wp_callV (ci := 12) (As := [.long ((hL H11 1319 a0 0) / (hL H11 1320 a0 0)), .long (1 : Int64), .long (hL H11 (tg H11 a14) a14 (hI H (tg H a2) a2 x12.toNatClampNeg).toNatClampNeg), .long (hL H11 (tg H11 a17) a17 (hI H (tg H a2) a2 x12.toNatClampNeg).toNatClampNeg)]) (rest := []) (mc := 0) (ms := 0) dX12_parted_250 lk_X12_153 rfl rfl (by decide) rfl rfl rfl ht12 rfl rfl rfl w_7_47 (Call.weaken h ?_)
          rintro H20 _ ⟨rfl, h⟩
          change WP _ _ _ _ _ _ [] H20 _
          refine wp_aload_n 2 dX12_parted_253 rfl ?_
          obtain ⟨ht21, h⟩ := h
          refine wp_getI (ci := 12) (j := 21) dX12_parted_254 fi_X12_133r rfl rfl ht21 ?_
          change WP _ _ _ _ _ _ (.int (hI H20 1321 a0 0) :: _) _ _
          refine wp_if_ne (tgt := 277) dX12_parted_257 rfl (fun c => ?_) (fun c => ?_)
          · replace h := h.1 c
            refine wp_aload_n 2 dX12_parted_277 rfl ?_
            refine wp_getI (ci := 12) (j := 21) dX12_parted_278 fi_X12_133r rfl rfl ht21 ?_
            change WP _ _ _ _ _ _ (.int (hI H20 1321 a0 0) :: _) _ _
            refine wp_if_eq (tgt := 288) dX12_parted_281 rfl (fun c => ?_) (fun c => ?_)
            · replace h := h.1 c
              refine wp_aload_n 2 dX12_parted_288 rfl ?_
              refine wp_getL (ci := 12) (j := 19) dX12_parted_289 fi_X12_143r rfl rfl ht21 ?_
              change WP _ _ _ _ _ _ (.long (hL H20 1319 a0 0) :: _) _ _
              refine wp_lstore (ls' := [(8, .long (hL H20 1319 a0 0)), (14, .long ((hL H11 1319 a0 0) / (hL H11 1320 a0 0))), (13, .int (hI H (tg H a2) a2 x12.toNatClampNeg)), (0, rv (some a0)), (4, .int x4), (5, .int x5), (7, .int x7), (10, .long x10), (12, .int x12)]) dX12_parted_292 (by decide) rfl ?_
              refine wp_aload_n 3 dX12_parted_294 rfl ?_
              refine wp_getL (ci := 12) (j := 20) dX12_parted_295 fi_X12_147r rfl rfl ht21 ?_
              change WP _ _ _ _ _ _ (.long (hL H20 1320 a0 0) :: _) _ _
              refine wp_lstore (ls' := [(10, .long (hL H20 1320 a0 0)), (8, .long (hL H20 1319 a0 0)), (14, .long ((hL H11 1319 a0 0) / (hL H11 1320 a0 0))), (13, .int (hI H (tg H a2) a2 x12.toNatClampNeg)), (0, rv (some a0)), (4, .int x4), (5, .int x5), (7, .int x7), (12, .int x12)]) dX12_parted_298 (by decide) rfl ?_
              refine wp_iinc (v := (x12 + 1)) (ls' := [(12, .int (x12 + 1)), (10, .long (hL H20 1320 a0 0)), (8, .long (hL H20 1319 a0 0)), (14, .long ((hL H11 1319 a0 0) / (hL H11 1320 a0 0))), (13, .int (hI H (tg H a2) a2 x12.toNatClampNeg)), (0, rv (some a0)), (4, .int x4), (5, .int x5), (7, .int x7)]) 8 dX12_parted_300 rfl rfl (by decide) rfl ?_
              refine wp_goto (tgt := 130) dX12_parted_303 rfl ?_
              refine wp_sub (ls' := [(0, rv (some a0)), (4, .int x4), (5, .int x5), (7, .int x7), (8, .long (hL H20 1319 a0 0)), (10, .long (hL H20 1320 a0 0)), (12, .int (x12 + 1))]) [5, 6, 7, 8, 2, 1, 0] rfl ?_
              exact h
            · replace h := h.2 c
              refine wp_ldc2 dX12_parted_284 w_7_55 ?_
              exact wp_lreturn dX12_parted_287 rfl ⟨_, rfl, h⟩
          · replace h := h.2 c
            refine wp_aload_n 2 dX12_parted_260 rfl ?_
            refine wp_lload 6 dX12_parted_261 rfl ?_
            refine wp_lload 7 dX12_parted_263 rfl ?_
            refine wp_aload_n 2 dX12_parted_265 rfl ?_
            refine wp_getL (ci := 12) (j := 19) dX12_parted_266 fi_X12_143r rfl rfl ht21 ?_
            change WP _ _ _ _ _ _ (.long (hL H20 1319 a0 0) :: _) _ _
            refine wp_aload_n 2 dX12_parted_269 rfl ?_
            refine wp_getL (ci := 12) (j := 20) dX12_parted_270 fi_X12_147r rfl rfl ht21 ?_
            change WP _ _ _ _ _ _ (.long (hL H20 1320 a0 0) :: _) _ _
            refine wp_iconst (v := (-1 : Int32)) dX12_parted_273 (by decide) ?_
            refine wp_callV (ci := 12) (As := [.long x8, .long x10, .long (hL H20 1319 a0 0), .long (hL H20 1320 a0 0), .int (-1 : Int32)]) (rest := []) (mc := 0) (ms := 0) dX12_parted_274 lk_X12_329 rfl rfl (by decide) rfl rfl rfl ht21 rfl rfl rfl w_7_181 (Call.weaken h ?_)
            rintro H22 _ ⟨rfl, h⟩
            change WP _ _ _ _ _ _ [] H22 _
            refine wp_aload_n 2 dX12_parted_277 rfl ?_
            obtain ⟨ht23, h⟩ := h
            refine wp_getI (ci := 12) (j := 21) dX12_parted_278 fi_X12_133r rfl rfl ht23 ?_
            change WP _ _ _ _ _ _ (.int (hI H22 1321 a0 0) :: _) _ _
            refine wp_if_eq (tgt := 288) dX12_parted_281 rfl (fun c => ?_) (fun c => ?_)
            · replace h := h.1 c
              refine wp_aload_n 2 dX12_parted_288 rfl ?_
              refine wp_getL (ci := 12) (j := 19) dX12_parted_289 fi_X12_143r rfl rfl ht23 ?_
              change WP _ _ _ _ _ _ (.long (hL H22 1319 a0 0) :: _) _ _
              refine wp_lstore (ls' := [(8, .long (hL H22 1319 a0 0)), (14, .long ((hL H11 1319 a0 0) / (hL H11 1320 a0 0))), (13, .int (hI H (tg H a2) a2 x12.toNatClampNeg)), (0, rv (some a0)), (4, .int x4), (5, .int x5), (7, .int x7), (10, .long x10), (12, .int x12)]) dX12_parted_292 (by decide) rfl ?_
              refine wp_aload_n 3 dX12_parted_294 rfl ?_
              refine wp_getL (ci := 12) (j := 20) dX12_parted_295 fi_X12_147r rfl rfl ht23 ?_
              change WP _ _ _ _ _ _ (.long (hL H22 1320 a0 0) :: _) _ _
              refine wp_lstore (ls' := [(10, .long (hL H22 1320 a0 0)), (8, .long (hL H22 1319 a0 0)), (14, .long ((hL H11 1319 a0 0) / (hL H11 1320 a0 0))), (13, .int (hI H (tg H a2) a2 x12.toNatClampNeg)), (0, rv (some a0)), (4, .int x4), (5, .int x5), (7, .int x7), (12, .int x12)]) dX12_parted_298 (by decide) rfl ?_
              refine wp_iinc (v := (x12 + 1)) (ls' := [(12, .int (x12 + 1)), (10, .long (hL H22 1320 a0 0)), (8, .long (hL H22 1319 a0 0)), (14, .long ((hL H11 1319 a0 0) / (hL H11 1320 a0 0))), (13, .int (hI H (tg H a2) a2 x12.toNatClampNeg)), (0, rv (some a0)), (4, .int x4), (5, .int x5), (7, .int x7)]) 8 dX12_parted_300 rfl rfl (by decide) rfl ?_
              refine wp_goto (tgt := 130) dX12_parted_303 rfl ?_
              refine wp_sub (ls' := [(0, rv (some a0)), (4, .int x4), (5, .int x5), (7, .int x7), (8, .long (hL H22 1319 a0 0)), (10, .long (hL H22 1320 a0 0)), (12, .int (x12 + 1))]) [5, 6, 7, 8, 2, 1, 0] rfl ?_
              exact h
            · replace h := h.2 c
              refine wp_ldc2 dX12_parted_284 w_7_55 ?_
              exact wp_lreturn dX12_parted_287 rfl ⟨_, rfl, h⟩
        · replace h := h.2 c
          refine wp_iload 4 dX12_parted_220 rfl ?_
          refine wp_if_ne (tgt := 230) dX12_parted_222 rfl (fun c => ?_) (fun c => ?_)
          · replace h := h.1 c
            refine wp_lconst (v := (1 : Int64)) dX12_parted_230 (by decide) ?_
            exact wp_lreturn dX12_parted_231 rfl ⟨_, rfl, h⟩
          · replace h := h.2 c
            refine wp_lload 0 dX12_parted_225 rfl ?_
            refine wp_goto (tgt := 231) dX12_parted_227 rfl ?_
            exact wp_lreturn dX12_parted_231 rfl ⟨_, rfl, h⟩
      · replace h := h.2 c
        refine wp_aload_n 1 dX12_parted_188 rfl ?_
        refine wp_getL (ci := 12) (j := 19) dX12_parted_189 fi_X12_143r rfl rfl ht12 ?_
        change WP _ _ _ _ _ _ (.long (hL H11 1319 a0 0) :: _) _ _
        refine wp_aload_n 1 dX12_parted_192 rfl ?_
        refine wp_getL (ci := 12) (j := 20) dX12_parted_193 fi_X12_147r rfl rfl ht12 ?_
        change WP _ _ _ _ _ _ (.long (hL H11 1320 a0 0) :: _) _ _
        refine wp_iload 3 dX12_parted_196 rfl ?_
        refine wp_callS (As := [.long (hL H11 1319 a0 0), .long (hL H11 1320 a0 0), .int x5]) (rest := []) (mc := 0) (ms := 0) dX12_parted_198 lk_X12_291 rfl rfl (by decide) rfl rfl rfl (Call.weaken h ?_)
        rintro H24 _ ⟨r25, rfl, h⟩
        change WP _ _ _ _ _ _ [.long r25] H24 _
        exact wp_lreturn dX12_parted_201 rfl ⟨_, rfl, h⟩
    · replace h := h.2 c
      refine wp_ldc2 dX12_parted_175 w_7_55 ?_
      exact wp_lreturn dX12_parted_178 rfl ⟨_, rfl, h⟩
theorem C_X12_parted {d : Nat} {q : HP → Int64 → Prop} {a0 : Nat} {x1 : Int32} {x2 : Int32} {x3 : Int32} {x4 : Int32} {x5 : Int32} {H : HP} (h : wb_X12_parted_0 d q a0 x1 x2 x3 x4 x5 H) : CJ (d + 1) 0 0 mX12_parted [rv (some a0), .int x1, .int x2, .int x3, .int x4, .int x5] H q := by
  refine call_of (by decide +kernel) (by simp [lg_sl, rv_cat, vc_int, vc_long, vc_float, vc_double]) ?_
  have e : lv_args 0 [rv (some a0), .int x1, .int x2, .int x3, .int x4, .int x5] = [(0, rv (some a0)), (1, .int x1), (2, .int x2), (3, .int x3), (4, .int x4), (5, .int x5)] := by simp [lv_args, rv_cat, vc_int, vc_long, vc_float, vc_double]
  rw [e]
  exact T_X12_parted_0 h
def wb_X12_plain_0 (d : Nat) (q : HP → Int32 → Prop) (a0 : Nat) (x1 : Int64) (H : HP) : Prop :=
  tg H a0 = 13 ∧ (CV d 0 0 mX12_clears [rv (some a0)] H (fun H1 => tg H1 a0 = 13 ∧ (CV d 0 0 mX12_becomes [rv (some a0), .long x1, .long (1000 : Int64)] H1 (fun H3 => tg H3 a0 = 13 ∧ (CI d 0 0 mX12_stepComes [rv (some a0), .int (0 : Int32)] H3 (fun H5 r7 => q H5 r7))))))
set_option maxRecDepth 40000 in
set_option maxHeartbeats 4000000 in
theorem T_X12_plain_0 {d : Nat} {q : HP → Int32 → Prop} {a0 : Nat} {x1 : Int64} {H : HP} (h : wb_X12_plain_0 d q a0 x1 H) : WP (d + 1) mX12_plain 0 0 0 [(0, rv (some a0)), (1, .long x1)] [] H (qI q) := by
  unfold wb_X12_plain_0 at h
  refine wp_aload_n 0 dX12_plain_0 rfl ?_
  obtain ⟨ht2, h⟩ := h
  refine wp_callV (ci := 12) (As := []) (rest := []) (mc := 0) (ms := 0) dX12_plain_1 lk_X12_323 rfl rfl (by decide) rfl rfl rfl ht2 rfl rfl rfl w_7_157 (Call.weaken h ?_)
  rintro H1 _ ⟨rfl, h⟩
  change WP _ _ _ _ _ _ [] H1 _
  refine wp_aload_n 0 dX12_plain_4 rfl ?_
  refine wp_lload_n 1 dX12_plain_5 rfl ?_
  refine wp_ldc2 dX12_plain_6 w_7_148 ?_
  obtain ⟨ht4, h⟩ := h
  refine wp_callV (ci := 12) (As := [.long x1, .long (1000 : Int64)]) (rest := []) (mc := 0) (ms := 0) dX12_plain_9 lk_X12_157 rfl rfl (by decide) rfl rfl rfl ht4 rfl rfl rfl w_7_37 (Call.weaken h ?_)
  rintro H3 _ ⟨rfl, h⟩
  change WP _ _ _ _ _ _ [] H3 _
  refine wp_aload_n 0 dX12_plain_12 rfl ?_
  refine wp_iconst (v := (0 : Int32)) dX12_plain_13 (by decide) ?_
  obtain ⟨ht6, h⟩ := h
  refine wp_callV (ci := 12) (As := [.int (0 : Int32)]) (rest := []) (mc := 0) (ms := 0) dX12_plain_14 lk_X12_333 rfl rfl (by decide) rfl rfl rfl ht6 rfl rfl rfl w_7_161 (Call.weaken h ?_)
  rintro H5 _ ⟨r7, rfl, h⟩
  change WP _ _ _ _ _ _ [.int r7] H5 _
  exact wp_ireturn (ty := .int) dX12_plain_17 rfl rfl ⟨_, rfl, h⟩
theorem C_X12_plain {d : Nat} {q : HP → Int32 → Prop} {a0 : Nat} {x1 : Int64} {H : HP} (h : wb_X12_plain_0 d q a0 x1 H) : CI (d + 1) 0 0 mX12_plain [rv (some a0), .long x1] H q := by
  refine call_of (by decide +kernel) (by simp [lg_sl, rv_cat, vc_int, vc_long, vc_float, vc_double]) ?_
  have e : lv_args 0 [rv (some a0), .long x1] = [(0, rv (some a0)), (1, .long x1)] := by simp [lv_args, rv_cat, vc_int, vc_long, vc_float, vc_double]
  rw [e]
  exact T_X12_plain_0 h
def wb_X12_plus_104 (d : Nat) (q : HP → Prop) (a0 : Nat) (x3 : Int64) (x7 : Int64) (x10 : Int64) (x16 : Int64) (s0 : Option Nat) (s1 : Int32) (s2 : Int32) (H : HP) : Prop :=
  ∃ a1, s0 = some a1 ∧ (tg H a1 = 13 ∧ (okZ (s1 ||| s2) ∧ (¬ x10 = 0 ∧ (tg (sI H 1321 a1 0 (s1 ||| s2)) a0 = 13 ∧ (CJ d 0 0 mX12_timed [rv (some a0), .long x3, .long (x7 / x10)] (sI H 1321 a1 0 (s1 ||| s2)) (fun H5 r7 => tg H5 a0 = 13 ∧ (((hI H5 1321 a0 0) = 0 → CV d 0 0 mX12_becomes [rv (some a0), .long x16, .long r7] H5 (fun H9 => q H9)) ∧ (¬ ((hI H5 1321 a0 0) = 0) → q H5))))))))
set_option maxRecDepth 40000 in
set_option maxHeartbeats 4000000 in
theorem T_X12_plus_104 {d : Nat} {q : HP → Prop} {a0 : Nat} {x3 : Int64} {x7 : Int64} {x10 : Int64} {x16 : Int64} {s0 : Option Nat} {s1 : Int32} {s2 : Int32} {H : HP} (h : wb_X12_plus_104 d q a0 x3 x7 x10 x16 s0 s1 s2 H) : WP (d + 1) mX12_plus 0 0 104 [(0, rv (some a0)), (3, .long x3), (7, .long x7), (10, .long x10), (16, .long x16)] [.int s2, .int s1, rv s0] H (qV q) := by
  unfold wb_X12_plus_104 at h
  refine wp_ior dX12_plus_104 ?_
  obtain ⟨a1, ha1, h⟩ := h
  obtain ⟨ht2, h⟩ := h
  obtain ⟨hg3, h⟩ := h
  refine wp_putI (ci := 12) (j := 21) dX12_plus_105 fi_X12_133 rfl (fun z => by cases z) ha1 ht2 (nar_Z hg3).1 (nar_Z hg3).2 ?_
  change WP _ _ _ _ _ _ _ (sI H 1321 a1 0 (s1 ||| s2)) _
  refine wp_aload_n 0 dX12_plus_108 rfl ?_
  refine wp_lload_n 1 dX12_plus_109 rfl ?_
  refine wp_lload 2 dX12_plus_110 rfl ?_
  refine wp_lload 3 dX12_plus_112 rfl ?_
  obtain ⟨hg4, h⟩ := h
  refine wp_ldiv dX12_plus_114 hg4 ?_
  obtain ⟨ht6, h⟩ := h
  refine wp_callV (ci := 12) (As := [.long x3, .long (x7 / x10)]) (rest := []) (mc := 0) (ms := 0) dX12_plus_115 lk_X12_150 rfl rfl (by decide) rfl rfl rfl ht6 rfl rfl rfl w_7_51 (Call.weaken h ?_)
  rintro H5 _ ⟨r7, rfl, h⟩
  change WP _ _ _ _ _ _ [.long r7] H5 _
  refine wp_lstore (ls' := [(18, .long r7), (0, rv (some a0)), (3, .long x3), (7, .long x7), (10, .long x10), (16, .long x16)]) dX12_plus_118 (by decide) rfl ?_
  refine wp_aload_n 1 dX12_plus_120 rfl ?_
  obtain ⟨ht8, h⟩ := h
  refine wp_getI (ci := 12) (j := 21) dX12_plus_121 fi_X12_133r rfl rfl ht8 ?_
  change WP _ _ _ _ _ _ (.int (hI H5 1321 a0 0) :: _) _ _
  refine wp_if_eq (tgt := 128) dX12_plus_124 rfl (fun c => ?_) (fun c => ?_)
  · replace h := h.1 c
    refine wp_aload_n 1 dX12_plus_128 rfl ?_
    refine wp_lload 5 dX12_plus_129 rfl ?_
    refine wp_lload 0 dX12_plus_131 rfl ?_
    refine wp_callV (ci := 12) (As := [.long x16, .long r7]) (rest := []) (mc := 0) (ms := 0) dX12_plus_133 lk_X12_157 rfl rfl (by decide) rfl rfl rfl ht8 rfl rfl rfl w_7_37 (Call.weaken h ?_)
    rintro H9 _ ⟨rfl, h⟩
    change WP _ _ _ _ _ _ [] H9 _
    exact wp_return dX12_plus_136 rfl ⟨rfl, h⟩
  · replace h := h.2 c
    exact wp_return dX12_plus_127 rfl ⟨rfl, h⟩
def wb_X12_plus_0 (d : Nat) (q : HP → Prop) (a0 : Nat) (x1 : Int64) (x3 : Int64) (x5 : Int64) (x7 : Int64) (x9 : Int32) (H : HP) : Prop :=
  CJ d 0 0 mX12_common [.long x3, .long x7] H (fun H1 r2 => ¬ r2 = 0 ∧ (tg H1 a0 = 13 ∧ (CJ d 0 0 mX12_timed [rv (some a0), .long x1, .long (x7 / r2)] H1 (fun H4 r6 => ¬ r2 = 0 ∧ (tg H4 a0 = 13 ∧ (CJ d 0 0 mX12_timed [rv (some a0), .long x5, .long (x3 / r2)] H4 (fun H8 r10 => tg H8 a0 = 13 ∧ (((r6 + (r10 * (x9.toInt64))) = (-9223372036854775808 : Int64) → wb_X12_plus_104 d q a0 x3 x7 r2 (r6 + (r10 * (x9.toInt64))) (some a0) (hI H8 1321 a0 0) (1 : Int32) H8) ∧ (¬ ((r6 + (r10 * (x9.toInt64))) = (-9223372036854775808 : Int64)) → (r6 ≤ (0 : Int64) → ((0 : Int64) ≤ r6 → wb_X12_plus_104 d q a0 x3 x7 r2 (r6 + (r10 * (x9.toInt64))) (some a0) (hI H8 1321 a0 0) (0 : Int32) H8) ∧ (¬ ((0 : Int64) ≤ r6) → ((0 : Int64) ≤ (r10 * (x9.toInt64)) → wb_X12_plus_104 d q a0 x3 x7 r2 (r6 + (r10 * (x9.toInt64))) (some a0) (hI H8 1321 a0 0) (0 : Int32) H8) ∧ (¬ ((0 : Int64) ≤ (r10 * (x9.toInt64))) → ((r6 + (r10 * (x9.toInt64))) < (0 : Int64) → wb_X12_plus_104 d q a0 x3 x7 r2 (r6 + (r10 * (x9.toInt64))) (some a0) (hI H8 1321 a0 0) (0 : Int32) H8) ∧ (¬ ((r6 + (r10 * (x9.toInt64))) < (0 : Int64)) → wb_X12_plus_104 d q a0 x3 x7 r2 (r6 + (r10 * (x9.toInt64))) (some a0) (hI H8 1321 a0 0) (1 : Int32) H8)))) ∧ (¬ (r6 ≤ (0 : Int64)) → ((r10 * (x9.toInt64)) ≤ (0 : Int64) → ((0 : Int64) ≤ r6 → wb_X12_plus_104 d q a0 x3 x7 r2 (r6 + (r10 * (x9.toInt64))) (some a0) (hI H8 1321 a0 0) (0 : Int32) H8) ∧ (¬ ((0 : Int64) ≤ r6) → ((0 : Int64) ≤ (r10 * (x9.toInt64)) → wb_X12_plus_104 d q a0 x3 x7 r2 (r6 + (r10 * (x9.toInt64))) (some a0) (hI H8 1321 a0 0) (0 : Int32) H8) ∧ (¬ ((0 : Int64) ≤ (r10 * (x9.toInt64))) → ((r6 + (r10 * (x9.toInt64))) < (0 : Int64) → wb_X12_plus_104 d q a0 x3 x7 r2 (r6 + (r10 * (x9.toInt64))) (some a0) (hI H8 1321 a0 0) (0 : Int32) H8) ∧ (¬ ((r6 + (r10 * (x9.toInt64))) < (0 : Int64)) → wb_X12_plus_104 d q a0 x3 x7 r2 (r6 + (r10 * (x9.toInt64))) (some a0) (hI H8 1321 a0 0) (1 : Int32) H8)))) ∧ (¬ ((r10 * (x9.toInt64)) ≤ (0 : Int64)) → ((r6 + (r10 * (x9.toInt64))) < (0 : Int64) → wb_X12_plus_104 d q a0 x3 x7 r2 (r6 + (r10 * (x9.toInt64))) (some a0) (hI H8 1321 a0 0) (1 : Int32) H8) ∧ (¬ ((r6 + (r10 * (x9.toInt64))) < (0 : Int64)) → ((0 : Int64) ≤ r6 → wb_X12_plus_104 d q a0 x3 x7 r2 (r6 + (r10 * (x9.toInt64))) (some a0) (hI H8 1321 a0 0) (0 : Int32) H8) ∧ (¬ ((0 : Int64) ≤ r6) → ((0 : Int64) ≤ (r10 * (x9.toInt64)) → wb_X12_plus_104 d q a0 x3 x7 r2 (r6 + (r10 * (x9.toInt64))) (some a0) (hI H8 1321 a0 0) (0 : Int32) H8) ∧ (¬ ((0 : Int64) ≤ (r10 * (x9.toInt64))) → ((r6 + (r10 * (x9.toInt64))) < (0 : Int64) → wb_X12_plus_104 d q a0 x3 x7 r2 (r6 + (r10 * (x9.toInt64))) (some a0) (hI H8 1321 a0 0) (0 : Int32) H8) ∧ (¬ ((r6 + (r10 * (x9.toInt64))) < (0 : Int64)) → wb_X12_plus_104 d q a0 x3 x7 r2 (r6 + (r10 * (x9.toInt64))) (some a0) (hI H8 1321 a0 0) (1 : Int32) H8)))))))))))))))
set_option maxRecDepth 40000 in
set_option maxHeartbeats 4000000 in
theorem T_X12_plus_0 {d : Nat} {q : HP → Prop} {a0 : Nat} {x1 : Int64} {x3 : Int64} {x5 : Int64} {x7 : Int64} {x9 : Int32} {H : HP} (h : wb_X12_plus_0 d q a0 x1 x3 x5 x7 x9 H) : WP (d + 1) mX12_plus 0 0 0 [(0, rv (some a0)), (1, .long x1), (3, .long x3), (5, .long x5), (7, .long x7), (9, .int x9)] [] H (qV q) := by
  unfold wb_X12_plus_0 at h
  refine wp_lload_n 2 dX12_plus_0 rfl ?_
  refine wp_lload 4 dX12_plus_1 rfl ?_
  refine wp_callS (As := [.long x3, .long x7]) (rest := []) (mc := 0) (ms := 0) dX12_plus_3 lk_X12_139 rfl rfl (by decide) rfl rfl rfl (Call.weaken h ?_)
  rintro H1 _ ⟨r2, rfl, h⟩
  change WP _ _ _ _ _ _ [.long r2] H1 _
  refine wp_lstore (ls' := [(10, .long r2), (0, rv (some a0)), (1, .long x1), (3, .long x3), (5, .long x5), (7, .long x7), (9, .int x9)]) dX12_plus_6 (by decide) rfl ?_
  refine wp_aload_n 1 dX12_plus_8 rfl ?_
  refine wp_lload_n 2 dX12_plus_9 rfl ?_
  refine wp_lload 5 dX12_plus_10 rfl ?_
  refine wp_lload 0 dX12_plus_12 rfl ?_
  obtain ⟨hg3, h⟩ := h
  refine wp_ldiv dX12_plus_14 hg3 ?_
  obtain ⟨ht5, h⟩ := h
  refine wp_callV (ci := 12) (As := [.long x1, .long (x7 / r2)]) (rest := []) (mc := 0) (ms := 0) dX12_plus_15 lk_X12_150 rfl rfl (by decide) rfl rfl rfl ht5 rfl rfl rfl w_7_51 (Call.weaken h ?_)
  rintro H4 _ ⟨r6, rfl, h⟩
  change WP _ _ _ _ _ _ [.long r6] H4 _
  refine wp_lstore (ls' := [(12, .long r6), (10, .long r2), (0, rv (some a0)), (1, .long x1), (3, .long x3), (5, .long x5), (7, .long x7), (9, .int x9)]) dX12_plus_18 (by decide) rfl ?_
  refine wp_aload_n 2 dX12_plus_20 rfl ?_
  refine wp_lload 5 dX12_plus_21 rfl ?_
  refine wp_lload_n 4 dX12_plus_23 rfl ?_
  refine wp_lload 1 dX12_plus_24 rfl ?_
  obtain ⟨hg7, h⟩ := h
  refine wp_ldiv dX12_plus_26 hg7 ?_
  obtain ⟨ht9, h⟩ := h
  refine wp_callV (ci := 12) (As := [.long x5, .long (x3 / r2)]) (rest := []) (mc := 0) (ms := 0) dX12_plus_27 lk_X12_150 rfl rfl (by decide) rfl rfl rfl ht9 rfl rfl rfl w_7_51 (Call.weaken h ?_)
  rintro H8 _ ⟨r10, rfl, h⟩
  change WP _ _ _ _ _ _ [.long r10] H8 _
  refine wp_iload 7 dX12_plus_30 rfl ?_
  refine wp_i2l dX12_plus_32 ?_
  refine wp_lmul dX12_plus_33 ?_
  refine wp_lstore (ls' := [(14, .long (r10 * (x9.toInt64))), (12, .long r6), (10, .long r2), (0, rv (some a0)), (1, .long x1), (3, .long x3), (5, .long x5), (7, .long x7), (9, .int x9)]) dX12_plus_34 (by decide) rfl ?_
  refine wp_lload 1 dX12_plus_36 rfl ?_
  refine wp_lload 0 dX12_plus_38 rfl ?_
  refine wp_ladd dX12_plus_40 ?_
  refine wp_lstore (ls' := [(16, .long (r6 + (r10 * (x9.toInt64)))), (14, .long (r10 * (x9.toInt64))), (12, .long r6), (10, .long r2), (0, rv (some a0)), (1, .long x1), (3, .long x3), (5, .long x5), (7, .long x7), (9, .int x9)]) dX12_plus_41 (by decide) rfl ?_
  refine wp_aload_n 4 dX12_plus_43 rfl ?_
  refine wp_dup dX12_plus_44 (rv_cat _) ?_
  obtain ⟨ht11, h⟩ := h
  refine wp_getI (ci := 12) (j := 21) dX12_plus_45 fi_X12_133r rfl rfl ht11 ?_
  change WP _ _ _ _ _ _ (.int (hI H8 1321 a0 0) :: _) _ _
  refine wp_lload 0 dX12_plus_48 rfl ?_
  refine wp_ldc2 dX12_plus_50 w_7_55 ?_
  refine wp_lcmp dX12_plus_53 ?_
  refine wp_if_eq (tgt := 99) dX12_plus_54 rfl (fun c => ?_) (fun c => ?_)
  · replace h := h.1 (lgc_eq.mp c)
    refine wp_iconst (v := (1 : Int32)) dX12_plus_99 (by decide) ?_
    refine wp_goto (tgt := 104) dX12_plus_100 rfl ?_
    refine wp_sub (ls' := [(0, rv (some a0)), (3, .long x3), (7, .long x7), (10, .long r2), (16, .long (r6 + (r10 * (x9.toInt64))))]) [4, 6, 8, 3, 0] rfl ?_
    exact T_X12_plus_104 h
  · replace h := h.2 (fun z => c (lgc_eq.mpr z))
    refine wp_lload 2 dX12_plus_57 rfl ?_
    refine wp_lconst (v := (0 : Int64)) dX12_plus_59 (by decide) ?_
    refine wp_lcmp dX12_plus_60 ?_
    refine wp_if_le (tgt := 78) dX12_plus_61 rfl (fun c => ?_) (fun c => ?_)
    · replace h := h.1 (lgc_le.mp c)
      refine wp_lload 2 dX12_plus_78 rfl ?_
      refine wp_lconst (v := (0 : Int64)) dX12_plus_80 (by decide) ?_
      refine wp_lcmp dX12_plus_81 ?_
      refine wp_if_ge (tgt := 103) dX12_plus_82 rfl (fun c => ?_) (fun c => ?_)
      · replace h := h.1 (lgc_ge.mp c)
        refine wp_iconst (v := (0 : Int32)) dX12_plus_103 (by decide) ?_
        refine wp_sub (ls' := [(0, rv (some a0)), (3, .long x3), (7, .long x7), (10, .long r2), (16, .long (r6 + (r10 * (x9.toInt64))))]) [4, 6, 8, 3, 0] rfl ?_
        exact T_X12_plus_104 h
      · replace h := h.2 (fun z => c (lgc_ge.mpr z))
        refine wp_lload 1 dX12_plus_85 rfl ?_
        refine wp_lconst (v := (0 : Int64)) dX12_plus_87 (by decide) ?_
        refine wp_lcmp dX12_plus_88 ?_
        refine wp_if_ge (tgt := 103) dX12_plus_89 rfl (fun c => ?_) (fun c => ?_)
        · replace h := h.1 (lgc_ge.mp c)
          refine wp_iconst (v := (0 : Int32)) dX12_plus_103 (by decide) ?_
          refine wp_sub (ls' := [(0, rv (some a0)), (3, .long x3), (7, .long x7), (10, .long r2), (16, .long (r6 + (r10 * (x9.toInt64))))]) [4, 6, 8, 3, 0] rfl ?_
          exact T_X12_plus_104 h
        · replace h := h.2 (fun z => c (lgc_ge.mpr z))
          refine wp_lload 0 dX12_plus_92 rfl ?_
          refine wp_lconst (v := (0 : Int64)) dX12_plus_94 (by decide) ?_
          refine wp_lcmp dX12_plus_95 ?_
          refine wp_if_lt (tgt := 103) dX12_plus_96 rfl (fun c => ?_) (fun c => ?_)
          · replace h := h.1 (lgc_lt.mp c)
            refine wp_iconst (v := (0 : Int32)) dX12_plus_103 (by decide) ?_
            refine wp_sub (ls' := [(0, rv (some a0)), (3, .long x3), (7, .long x7), (10, .long r2), (16, .long (r6 + (r10 * (x9.toInt64))))]) [4, 6, 8, 3, 0] rfl ?_
            exact T_X12_plus_104 h
          · replace h := h.2 (fun z => c (lgc_lt.mpr z))
            refine wp_iconst (v := (1 : Int32)) dX12_plus_99 (by decide) ?_
            refine wp_goto (tgt := 104) dX12_plus_100 rfl ?_
            refine wp_sub (ls' := [(0, rv (some a0)), (3, .long x3), (7, .long x7), (10, .long r2), (16, .long (r6 + (r10 * (x9.toInt64))))]) [4, 6, 8, 3, 0] rfl ?_
            exact T_X12_plus_104 h
    · replace h := h.2 (fun z => c (lgc_le.mpr z))
      refine wp_lload 1 dX12_plus_64 rfl ?_
      refine wp_lconst (v := (0 : Int64)) dX12_plus_66 (by decide) ?_
      refine wp_lcmp dX12_plus_67 ?_
      refine wp_if_le (tgt := 78) dX12_plus_68 rfl (fun c => ?_) (fun c => ?_)
      · replace h := h.1 (lgc_le.mp c)
        refine wp_lload 2 dX12_plus_78 rfl ?_
        refine wp_lconst (v := (0 : Int64)) dX12_plus_80 (by decide) ?_
        refine wp_lcmp dX12_plus_81 ?_
        refine wp_if_ge (tgt := 103) dX12_plus_82 rfl (fun c => ?_) (fun c => ?_)
        · replace h := h.1 (lgc_ge.mp c)
          refine wp_iconst (v := (0 : Int32)) dX12_plus_103 (by decide) ?_
          refine wp_sub (ls' := [(0, rv (some a0)), (3, .long x3), (7, .long x7), (10, .long r2), (16, .long (r6 + (r10 * (x9.toInt64))))]) [4, 6, 8, 3, 0] rfl ?_
          exact T_X12_plus_104 h
        · replace h := h.2 (fun z => c (lgc_ge.mpr z))
          refine wp_lload 1 dX12_plus_85 rfl ?_
          refine wp_lconst (v := (0 : Int64)) dX12_plus_87 (by decide) ?_
          refine wp_lcmp dX12_plus_88 ?_
          refine wp_if_ge (tgt := 103) dX12_plus_89 rfl (fun c => ?_) (fun c => ?_)
          · replace h := h.1 (lgc_ge.mp c)
            refine wp_iconst (v := (0 : Int32)) dX12_plus_103 (by decide) ?_
            refine wp_sub (ls' := [(0, rv (some a0)), (3, .long x3), (7, .long x7), (10, .long r2), (16, .long (r6 + (r10 * (x9.toInt64))))]) [4, 6, 8, 3, 0] rfl ?_
            exact T_X12_plus_104 h
          · replace h := h.2 (fun z => c (lgc_ge.mpr z))
            refine wp_lload 0 dX12_plus_92 rfl ?_
            refine wp_lconst (v := (0 : Int64)) dX12_plus_94 (by decide) ?_
            refine wp_lcmp dX12_plus_95 ?_
            refine wp_if_lt (tgt := 103) dX12_plus_96 rfl (fun c => ?_) (fun c => ?_)
            · replace h := h.1 (lgc_lt.mp c)
              refine wp_iconst (v := (0 : Int32)) dX12_plus_103 (by decide) ?_
              refine wp_sub (ls' := [(0, rv (some a0)), (3, .long x3), (7, .long x7), (10, .long r2), (16, .long (r6 + (r10 * (x9.toInt64))))]) [4, 6, 8, 3, 0] rfl ?_
              exact T_X12_plus_104 h
            · replace h := h.2 (fun z => c (lgc_lt.mpr z))
              refine wp_iconst (v := (1 : Int32)) dX12_plus_99 (by decide) ?_
              refine wp_goto (tgt := 104) dX12_plus_100 rfl ?_
              refine wp_sub (ls' := [(0, rv (some a0)), (3, .long x3), (7, .long x7), (10, .long r2), (16, .long (r6 + (r10 * (x9.toInt64))))]) [4, 6, 8, 3, 0] rfl ?_
              exact T_X12_plus_104 h
      · replace h := h.2 (fun z => c (lgc_le.mpr z))
        refine wp_lload 0 dX12_plus_71 rfl ?_
        refine wp_lconst (v := (0 : Int64)) dX12_plus_73 (by decide) ?_
        refine wp_lcmp dX12_plus_74 ?_
        refine wp_if_lt (tgt := 99) dX12_plus_75 rfl (fun c => ?_) (fun c => ?_)
        · replace h := h.1 (lgc_lt.mp c)
          refine wp_iconst (v := (1 : Int32)) dX12_plus_99 (by decide) ?_
          refine wp_goto (tgt := 104) dX12_plus_100 rfl ?_
          refine wp_sub (ls' := [(0, rv (some a0)), (3, .long x3), (7, .long x7), (10, .long r2), (16, .long (r6 + (r10 * (x9.toInt64))))]) [4, 6, 8, 3, 0] rfl ?_
          exact T_X12_plus_104 h
        · replace h := h.2 (fun z => c (lgc_lt.mpr z))
          refine wp_lload 2 dX12_plus_78 rfl ?_
          refine wp_lconst (v := (0 : Int64)) dX12_plus_80 (by decide) ?_
          refine wp_lcmp dX12_plus_81 ?_
          refine wp_if_ge (tgt := 103) dX12_plus_82 rfl (fun c => ?_) (fun c => ?_)
          · replace h := h.1 (lgc_ge.mp c)
            refine wp_iconst (v := (0 : Int32)) dX12_plus_103 (by decide) ?_
            refine wp_sub (ls' := [(0, rv (some a0)), (3, .long x3), (7, .long x7), (10, .long r2), (16, .long (r6 + (r10 * (x9.toInt64))))]) [4, 6, 8, 3, 0] rfl ?_
            exact T_X12_plus_104 h
          · replace h := h.2 (fun z => c (lgc_ge.mpr z))
            refine wp_lload 1 dX12_plus_85 rfl ?_
            refine wp_lconst (v := (0 : Int64)) dX12_plus_87 (by decide) ?_
            refine wp_lcmp dX12_plus_88 ?_
            refine wp_if_ge (tgt := 103) dX12_plus_89 rfl (fun c => ?_) (fun c => ?_)
            · replace h := h.1 (lgc_ge.mp c)
              refine wp_iconst (v := (0 : Int32)) dX12_plus_103 (by decide) ?_
              refine wp_sub (ls' := [(0, rv (some a0)), (3, .long x3), (7, .long x7), (10, .long r2), (16, .long (r6 + (r10 * (x9.toInt64))))]) [4, 6, 8, 3, 0] rfl ?_
              exact T_X12_plus_104 h
            · replace h := h.2 (fun z => c (lgc_ge.mpr z))
              refine wp_lload 0 dX12_plus_92 rfl ?_
              refine wp_lconst (v := (0 : Int64)) dX12_plus_94 (by decide) ?_
              refine wp_lcmp dX12_plus_95 ?_
              refine wp_if_lt (tgt := 103) dX12_plus_96 rfl (fun c => ?_) (fun c => ?_)
              · replace h := h.1 (lgc_lt.mp c)
                refine wp_iconst (v := (0 : Int32)) dX12_plus_103 (by decide) ?_
                refine wp_sub (ls' := [(0, rv (some a0)), (3, .long x3), (7, .long x7), (10, .long r2), (16, .long (r6 + (r10 * (x9.toInt64))))]) [4, 6, 8, 3, 0] rfl ?_
                exact T_X12_plus_104 h
              · replace h := h.2 (fun z => c (lgc_lt.mpr z))
                refine wp_iconst (v := (1 : Int32)) dX12_plus_99 (by decide) ?_
                refine wp_goto (tgt := 104) dX12_plus_100 rfl ?_
                refine wp_sub (ls' := [(0, rv (some a0)), (3, .long x3), (7, .long x7), (10, .long r2), (16, .long (r6 + (r10 * (x9.toInt64))))]) [4, 6, 8, 3, 0] rfl ?_
                exact T_X12_plus_104 h
theorem C_X12_plus {d : Nat} {q : HP → Prop} {a0 : Nat} {x1 : Int64} {x3 : Int64} {x5 : Int64} {x7 : Int64} {x9 : Int32} {H : HP} (h : wb_X12_plus_0 d q a0 x1 x3 x5 x7 x9 H) : CV (d + 1) 0 0 mX12_plus [rv (some a0), .long x1, .long x3, .long x5, .long x7, .int x9] H q := by
  refine call_of (by decide +kernel) (by simp [lg_sl, rv_cat, vc_int, vc_long, vc_float, vc_double]) ?_
  have e : lv_args 0 [rv (some a0), .long x1, .long x3, .long x5, .long x7, .int x9] = [(0, rv (some a0)), (1, .long x1), (3, .long x3), (5, .long x5), (7, .long x7), (9, .int x9)] := by simp [lv_args, rv_cat, vc_int, vc_long, vc_float, vc_double]
  rw [e]
  exact T_X12_plus_0 h
def wb_X12_power_0 (d : Nat) (q : HP → Int32 → Prop) (a0 : Nat) (x1 : Int32) (x2 : Int32) (H : HP) : Prop :=
  tg H a0 = 13 ∧ (CZ d 0 0 mX12_isUnit [rv (some a0), .int x1] H (fun H1 b3 => (b3 = false → q H1 (-1 : Int32)) ∧ (b3 = true → CZ d 0 0 mX12_isIn [.long (x2.toInt64), .long (0 : Int64), .long (4 : Int64)] H1 (fun H4 b5 => (b5 = false → q H4 (-1 : Int32)) ∧ (b5 = true → tg H4 a0 = 13 ∧ (∃ a7, (hC H4 1302 a0) = some a7 ∧ (isA H4 a7 0 ∧ (vp_in (((5 : Int32) * x1) + x2) (ln H4 a7) ∧ (q H4 ((hI H4 (tg H4 a7) a7 (((5 : Int32) * x1) + x2).toNatClampNeg) + (10 : Int32)))))))))))
set_option maxRecDepth 40000 in
set_option maxHeartbeats 4000000 in
theorem T_X12_power_0 {d : Nat} {q : HP → Int32 → Prop} {a0 : Nat} {x1 : Int32} {x2 : Int32} {H : HP} (h : wb_X12_power_0 d q a0 x1 x2 H) : WP (d + 1) mX12_power 0 0 0 [(0, rv (some a0)), (1, .int x1), (2, .int x2)] [] H (qI q) := by
  unfold wb_X12_power_0 at h
  refine wp_aload_n 0 dX12_power_0 rfl ?_
  refine wp_iload_n 1 dX12_power_1 rfl ?_
  obtain ⟨ht2, h⟩ := h
  refine wp_callV (ci := 12) (As := [.int x1]) (rest := []) (mc := 0) (ms := 0) dX12_power_2 lk_X12_283 rfl rfl (by decide) rfl rfl rfl ht2 rfl rfl rfl w_7_77 (Call.weaken h ?_)
  rintro H1 _ ⟨b3, rfl, h⟩
  change WP _ _ _ _ _ _ [.int (bI b3)] H1 _
  refine wp_if_eq (tgt := 36) dX12_power_5 rfl (fun c => ?_) (fun c => ?_)
  · replace h := h.1 (bI_0.mp c)
    refine wp_iconst (v := (-1 : Int32)) dX12_power_36 (by decide) ?_
    exact wp_ireturn (ty := .int) dX12_power_37 rfl rfl ⟨_, rfl, h⟩
  · replace h := h.2 (bI_1.mp c)
    refine wp_iload_n 2 dX12_power_8 rfl ?_
    refine wp_i2l dX12_power_9 ?_
    refine wp_lconst (v := (0 : Int64)) dX12_power_10 (by decide) ?_
    refine wp_ldc2 dX12_power_11 w_7_72 ?_
    refine wp_callS (As := [.long (x2.toInt64), .long (0 : Int64), .long (4 : Int64)]) (rest := []) (mc := 0) (ms := 0) dX12_power_14 lk_X12_161 rfl rfl (by decide) rfl rfl rfl (Call.weaken h ?_)
    rintro H4 _ ⟨b5, rfl, h⟩
    change WP _ _ _ _ _ _ [.int (bI b5)] H4 _
    refine wp_if_eq (tgt := 36) dX12_power_17 rfl (fun c => ?_) (fun c => ?_)
    · replace h := h.1 (bI_0.mp c)
      refine wp_iconst (v := (-1 : Int32)) dX12_power_36 (by decide) ?_
      exact wp_ireturn (ty := .int) dX12_power_37 rfl rfl ⟨_, rfl, h⟩
    · replace h := h.2 (bI_1.mp c)
      refine wp_aload_n 0 dX12_power_20 rfl ?_
      obtain ⟨ht6, h⟩ := h
      refine wp_getC (ci := 12) (j := 2) dX12_power_21 fi_X12_19r rfl rfl ht6 ?_
      change WP _ _ _ _ _ _ (rv (hC H4 1302 a0) :: _) _ _
      refine wp_iconst (v := (5 : Int32)) dX12_power_24 (by decide) ?_
      refine wp_iload_n 1 dX12_power_25 rfl ?_
      refine wp_imul dX12_power_26 ?_
      refine wp_iload_n 2 dX12_power_27 rfl ?_
      refine wp_iadd dX12_power_28 ?_
      obtain ⟨a7, ha7, h⟩ := h
      obtain ⟨hr8, h⟩ := h
      obtain ⟨hg9, h⟩ := h
      refine wp_iaload dX12_power_29 ha7 hr8 hg9 ?_
      refine wp_bipush (v := (10 : Int32)) dX12_power_30 (by decide) ?_
      refine wp_iadd dX12_power_32 ?_
      refine wp_goto (tgt := 37) dX12_power_33 rfl ?_
      exact wp_ireturn (ty := .int) dX12_power_37 rfl rfl ⟨_, rfl, h⟩
theorem C_X12_power {d : Nat} {q : HP → Int32 → Prop} {a0 : Nat} {x1 : Int32} {x2 : Int32} {H : HP} (h : wb_X12_power_0 d q a0 x1 x2 H) : CI (d + 1) 0 0 mX12_power [rv (some a0), .int x1, .int x2] H q := by
  refine call_of (by decide +kernel) (by simp [lg_sl, rv_cat, vc_int, vc_long, vc_float, vc_double]) ?_
  have e : lv_args 0 [rv (some a0), .int x1, .int x2] = [(0, rv (some a0)), (1, .int x1), (2, .int x2)] := by simp [lv_args, rv_cat, vc_int, vc_long, vc_float, vc_double]
  rw [e]
  exact T_X12_power_0 h
/-- UnitProverModel.product()V: the loop at 7 -/
def L_X12_product_7 (d : Nat) (q : HP → Prop) (a0 : Nat) (x1 : Int32) (H : HP) : Prop := WP (d + 1) mX12_product 0 0 7 [(0, rv (some a0)), (1, .int x1)] [] H (qV q)
def wb_X12_product_0 (d : Nat) (q : HP → Prop) (a0 : Nat) (H : HP) : Prop :=
  tg H a0 = 13 ∧ (L_X12_product_7 d q a0 (1 : Int32) (sI H 1332 a0 0 (0 : Int32)))
set_option maxRecDepth 40000 in
set_option maxHeartbeats 4000000 in
theorem T_X12_product_0 {d : Nat} {q : HP → Prop} {a0 : Nat} {H : HP} (h : wb_X12_product_0 d q a0 H) : WP (d + 1) mX12_product 0 0 0 [(0, rv (some a0))] [] H (qV q) := by
  unfold wb_X12_product_0 at h
  refine wp_iconst (v := (1 : Int32)) dX12_product_0 (by decide) ?_
  refine wp_istore_n (ls' := [(1, .int (1 : Int32)), (0, rv (some a0))]) dX12_product_1 (by decide) rfl ?_
  refine wp_aload_n 1 dX12_product_2 rfl ?_
  refine wp_iconst (v := (0 : Int32)) dX12_product_3 (by decide) ?_
  obtain ⟨ht1, h⟩ := h
  refine wp_putI (ci := 12) (j := 32) dX12_product_4 fi_X12_209 rfl (fun z => by cases z) rfl ht1 rfl rfl ?_
  change WP _ _ _ _ _ _ _ (sI H 1332 a0 0 (0 : Int32)) _
  refine wp_sub (ls' := [(0, rv (some a0)), (1, .int (1 : Int32))]) [1, 0] rfl ?_
  exact h
def wb_X12_product_7 (d : Nat) (q : HP → Prop) (a0 : Nat) (x1 : Int32) (H : HP) : Prop :=
  tg H a0 = 13 ∧ ((0 ≤ (hI H 1325 a0 0) → q H) ∧ (¬ (0 ≤ (hI H 1325 a0 0)) → ∃ a2, (hC H 1333 a0) = some a2 ∧ (isA H a2 0 ∧ (vp_in (hI H 1332 a0 0) (ln H a2) ∧ (CI d 0 0 mX12_letters [rv (some a0)] (sI H (tg H a2) a2 (hI H 1332 a0 0).toNatClampNeg (hI H 1324 a0 0)) (fun H5 r6 => ∃ a7, (hC (sI H (tg H a2) a2 (hI H 1332 a0 0).toNatClampNeg (hI H 1324 a0 0)) 1334 a0) = some a7 ∧ (isA H5 a7 0 ∧ (vp_in (hI (sI H (tg H a2) a2 (hI H 1332 a0 0).toNatClampNeg (hI H 1324 a0 0)) 1332 a0 0) (ln H5 a7) ∧ (tg (sI H5 (tg H5 a7) a7 (hI (sI H (tg H a2) a2 (hI H 1332 a0 0).toNatClampNeg (hI H 1324 a0 0)) 1332 a0 0).toNatClampNeg r6) a0 = 13 ∧ (CI d 0 0 mX12_figure [rv (some a0)] (sI H5 (tg H5 a7) a7 (hI (sI H (tg H a2) a2 (hI H 1332 a0 0).toNatClampNeg (hI H 1324 a0 0)) 1332 a0 0).toNatClampNeg r6) (fun H11 r12 => ∃ a13, (hC (sI H5 (tg H5 a7) a7 (hI (sI H (tg H a2) a2 (hI H 1332 a0 0).toNatClampNeg (hI H 1324 a0 0)) 1332 a0 0).toNatClampNeg r6) 1335 a0) = some a13 ∧ (isA H11 a13 0 ∧ (vp_in (hI (sI H5 (tg H5 a7) a7 (hI (sI H (tg H a2) a2 (hI H 1332 a0 0).toNatClampNeg (hI H 1324 a0 0)) 1332 a0 0).toNatClampNeg r6) 1332 a0 0) (ln H11 a13) ∧ (∀ H16, (sI H11 (tg H11 a13) a13 (hI (sI H5 (tg H5 a7) a7 (hI (sI H (tg H a2) a2 (hI H 1332 a0 0).toNatClampNeg (hI H 1324 a0 0)) 1332 a0 0).toNatClampNeg r6) 1332 a0 0).toNatClampNeg r12) = H16 → (tg H16 a0 = 13 ∧ (∃ a20, (hC H16 1336 a0) = some a20 ∧ (isA H16 a20 0 ∧ (vp_in (hI H16 1332 a0 0) (ln H16 a20) ∧ (CI d 0 0 mX12_here [rv (some a0)] (sI (sI H16 (tg H16 a20) a20 (hI H16 1332 a0 0).toNatClampNeg x1) 1332 a0 0 ((hI (sI H16 (tg H16 a20) a20 (hI H16 1332 a0 0).toNatClampNeg x1) 1332 a0 0) + (1 : Int32))) (fun H23 r24 => (r24 = (42 : Int32) → tg H23 a0 = 13 ∧ (CI d 0 0 mX12_here [rv (some a0)] H23 (fun H25 r27 => (¬ r27 = (42 : Int32) → tg H25 a0 = 13 ∧ (L_X12_product_7 d q a0 (-1 : Int32) (sI H25 1324 a0 0 ((hI H25 1324 a0 0) + (1 : Int32))))) ∧ (r27 = (42 : Int32) → tg H25 a0 = 13 ∧ (L_X12_product_7 d q a0 (1 : Int32) (sI H25 1324 a0 0 ((hI H25 1324 a0 0) + (1 : Int32)))))))) ∧ (¬ (r24 = (42 : Int32)) → tg H23 a0 = 13 ∧ (CI d 0 0 mX12_here [rv (some a0)] H23 (fun H30 r32 => (r32 = (47 : Int32) → tg H30 a0 = 13 ∧ (CI d 0 0 mX12_here [rv (some a0)] H30 (fun H33 r35 => (¬ r35 = (42 : Int32) → tg H33 a0 = 13 ∧ (L_X12_product_7 d q a0 (-1 : Int32) (sI H33 1324 a0 0 ((hI H33 1324 a0 0) + (1 : Int32))))) ∧ (r35 = (42 : Int32) → tg H33 a0 = 13 ∧ (L_X12_product_7 d q a0 (1 : Int32) (sI H33 1324 a0 0 ((hI H33 1324 a0 0) + (1 : Int32)))))))) ∧ (¬ (r32 = (47 : Int32)) → q H30))))))))))))))))))))))))
set_option maxRecDepth 40000 in
set_option maxHeartbeats 4000000 in
theorem T_X12_product_7 {d : Nat} {q : HP → Prop} {a0 : Nat} {x1 : Int32} {H : HP} (h : wb_X12_product_7 d q a0 x1 H) : L_X12_product_7 d q a0 x1 H := by
  unfold wb_X12_product_7 at h
  unfold L_X12_product_7
  refine wp_aload_n 0 dX12_product_7 rfl ?_
  obtain ⟨ht1, h⟩ := h
  refine wp_getI (ci := 12) (j := 25) dX12_product_8 fi_X12_189r rfl rfl ht1 ?_
  change WP _ _ _ _ _ _ (.int (hI H 1325 a0 0) :: _) _ _
  refine wp_if_ge (tgt := 120) dX12_product_11 rfl (fun c => ?_) (fun c => ?_)
  · replace h := h.1 c
    exact wp_return dX12_product_120 rfl ⟨rfl, h⟩
  · replace h := h.2 c
    refine wp_aload_n 0 dX12_product_14 rfl ?_
    refine wp_getC (ci := 12) (j := 33) dX12_product_15 fi_X12_62r rfl rfl ht1 ?_
    change WP _ _ _ _ _ _ (rv (hC H 1333 a0) :: _) _ _
    refine wp_aload_n 0 dX12_product_18 rfl ?_
    refine wp_getI (ci := 12) (j := 32) dX12_product_19 fi_X12_209r rfl rfl ht1 ?_
    change WP _ _ _ _ _ _ (.int (hI H 1332 a0 0) :: _) _ _
    refine wp_aload_n 0 dX12_product_22 rfl ?_
    refine wp_getI (ci := 12) (j := 24) dX12_product_23 fi_X12_174r rfl rfl ht1 ?_
    change WP _ _ _ _ _ _ (.int (hI H 1324 a0 0) :: _) _ _
    obtain ⟨a2, ha2, h⟩ := h
    obtain ⟨hr3, h⟩ := h
    obtain ⟨hg4, h⟩ := h
    refine wp_iastore dX12_product_26 ha2 hr3 hg4 ?_
    change WP _ _ _ _ _ _ _ (sI H (tg H a2) a2 (hI H 1332 a0 0).toNatClampNeg (hI H 1324 a0 0)) _
    refine wp_aload_n 0 dX12_product_27 rfl ?_
    refine wp_getC (ci := 12) (j := 34) dX12_product_28 fi_X12_65r rfl rfl ht1 ?_
    change WP _ _ _ _ _ _ (rv (hC (sI H (tg H a2) a2 (hI H 1332 a0 0).toNatClampNeg (hI H 1324 a0 0)) 1334 a0) :: _) _ _
    refine wp_aload_n 0 dX12_product_31 rfl ?_
    refine wp_getI (ci := 12) (j := 32) dX12_product_32 fi_X12_209r rfl rfl ht1 ?_
    change WP _ _ _ _ _ _ (.int (hI (sI H (tg H a2) a2 (hI H 1332 a0 0).toNatClampNeg (hI H 1324 a0 0)) 1332 a0 0) :: _) _ _
    refine wp_aload_n 0 dX12_product_35 rfl ?_
    refine wp_callV (ci := 12) (As := []) (rest := [.int (hI (sI H (tg H a2) a2 (hI H 1332 a0 0).toNatClampNeg (hI H 1324 a0 0)) 1332 a0 0), rv (hC (sI H (tg H a2) a2 (hI H 1332 a0 0).toNatClampNeg (hI H 1324 a0 0)) 1334 a0)]) (mc := 0) (ms := 0) dX12_product_36 lk_X12_212 rfl rfl (by simp [rv_cat, vc_int, vc_long, vc_float, vc_double]) rfl rfl rfl ht1 rfl rfl rfl w_6_198 (Call.weaken h ?_)
    rintro H5 _ ⟨r6, rfl, h⟩
    change WP _ _ _ _ _ _ [.int r6, .int (hI (sI H (tg H a2) a2 (hI H 1332 a0 0).toNatClampNeg (hI H 1324 a0 0)) 1332 a0 0), rv (hC (sI H (tg H a2) a2 (hI H 1332 a0 0).toNatClampNeg (hI H 1324 a0 0)) 1334 a0)] H5 _
    obtain ⟨a7, ha7, h⟩ := h
    obtain ⟨hr8, h⟩ := h
    obtain ⟨hg9, h⟩ := h
    refine wp_iastore dX12_product_39 ha7 hr8 hg9 ?_
    change WP _ _ _ _ _ _ _ (sI H5 (tg H5 a7) a7 (hI (sI H (tg H a2) a2 (hI H 1332 a0 0).toNatClampNeg (hI H 1324 a0 0)) 1332 a0 0).toNatClampNeg r6) _
    refine wp_aload_n 0 dX12_product_40 rfl ?_
    obtain ⟨ht10, h⟩ := h
    refine wp_getC (ci := 12) (j := 35) dX12_product_41 fi_X12_68r rfl rfl ht10 ?_
    change WP _ _ _ _ _ _ (rv (hC (sI H5 (tg H5 a7) a7 (hI (sI H (tg H a2) a2 (hI H 1332 a0 0).toNatClampNeg (hI H 1324 a0 0)) 1332 a0 0).toNatClampNeg r6) 1335 a0) :: _) _ _
    refine wp_aload_n 0 dX12_product_44 rfl ?_
    refine wp_getI (ci := 12) (j := 32) dX12_product_45 fi_X12_209r rfl rfl ht10 ?_
    change WP _ _ _ _ _ _ (.int (hI (sI H5 (tg H5 a7) a7 (hI (sI H (tg H a2) a2 (hI H 1332 a0 0).toNatClampNeg (hI H 1324 a0 0)) 1332 a0 0).toNatClampNeg r6) 1332 a0 0) :: _) _ _
    refine wp_aload_n 0 dX12_product_48 rfl ?_
    refine wp_callV (ci := 12) (As := []) (rest := [.int (hI (sI H5 (tg H5 a7) a7 (hI (sI H (tg H a2) a2 (hI H 1332 a0 0).toNatClampNeg (hI H 1324 a0 0)) 1332 a0 0).toNatClampNeg r6) 1332 a0 0), rv (hC (sI H5 (tg H5 a7) a7 (hI (sI H (tg H a2) a2 (hI H 1332 a0 0).toNatClampNeg (hI H 1324 a0 0)) 1332 a0 0).toNatClampNeg r6) 1335 a0)]) (mc := 0) (ms := 0) dX12_product_49 lk_X12_215 rfl rfl (by simp [rv_cat, vc_int, vc_long, vc_float, vc_double]) rfl rfl rfl ht10 rfl rfl rfl w_6_238 (Call.weaken h ?_)
    rintro H11 _ ⟨r12, rfl, h⟩
    change WP _ _ _ _ _ _ [.int r12, .int (hI (sI H5 (tg H5 a7) a7 (hI (sI H (tg H a2) a2 (hI H 1332 a0 0).toNatClampNeg (hI H 1324 a0 0)) 1332 a0 0).toNatClampNeg r6) 1332 a0 0), rv (hC (sI H5 (tg H5 a7) a7 (hI (sI H (tg H a2) a2 (hI H 1332 a0 0).toNatClampNeg (hI H 1324 a0 0)) 1332 a0 0).toNatClampNeg r6) 1335 a0)] H11 _
    obtain ⟨a13, ha13, h⟩ := h
    obtain ⟨hr14, h⟩ := h
    obtain ⟨hg15, h⟩ := h
    refine wp_iastore dX12_product_52 ha13 hr14 hg15 ?_
    change WP _ _ _ _ _ _ _ (sI H11 (tg H11 a13) a13 (hI (sI H5 (tg H5 a7) a7 (hI (sI H (tg H a2) a2 (hI H 1332 a0 0).toNatClampNeg (hI H 1324 a0 0)) 1332 a0 0).toNatClampNeg r6) 1332 a0 0).toNatClampNeg r12) _
    replace h := h _ rfl
    generalize e17 : (sI H11 (tg H11 a13) a13 (hI (sI H5 (tg H5 a7) a7 (hI (sI H (tg H a2) a2 (hI H 1332 a0 0).toNatClampNeg (hI H 1324 a0 0)) 1332 a0 0).toNatClampNeg r6) 1332 a0 0).toNatClampNeg r12) = H16 at h ⊢
    have hr18 : isA H16 a13 0 := by rw [← e17]; exact hr14
    refine wp_aload_n 0 dX12_product_53 rfl ?_
    obtain ⟨ht19, h⟩ := h
    refine wp_getC (ci := 12) (j := 36) dX12_product_54 fi_X12_71r rfl rfl ht19 ?_
    change WP _ _ _ _ _ _ (rv (hC H16 1336 a0) :: _) _ _
    refine wp_aload_n 0 dX12_product_57 rfl ?_
    refine wp_getI (ci := 12) (j := 32) dX12_product_58 fi_X12_209r rfl rfl ht19 ?_
    change WP _ _ _ _ _ _ (.int (hI H16 1332 a0 0) :: _) _ _
    refine wp_iload_n 1 dX12_product_61 rfl ?_
    obtain ⟨a20, ha20, h⟩ := h
    obtain ⟨hr21, h⟩ := h
    obtain ⟨hg22, h⟩ := h
    refine wp_iastore dX12_product_62 ha20 hr21 hg22 ?_
    change WP _ _ _ _ _ _ _ (sI H16 (tg H16 a20) a20 (hI H16 1332 a0 0).toNatClampNeg x1) _
    refine wp_aload_n 0 dX12_product_63 rfl ?_
    refine wp_dup dX12_product_64 (rv_cat _) ?_
    refine wp_getI (ci := 12) (j := 32) dX12_product_65 fi_X12_209r rfl rfl ht19 ?_
    change WP _ _ _ _ _ _ (.int (hI (sI H16 (tg H16 a20) a20 (hI H16 1332 a0 0).toNatClampNeg x1) 1332 a0 0) :: _) _ _
    refine wp_iconst (v := (1 : Int32)) dX12_product_68 (by decide) ?_
    refine wp_iadd dX12_product_69 ?_
    refine wp_putI (ci := 12) (j := 32) dX12_product_70 fi_X12_209 rfl (fun z => by cases z) rfl ht19 rfl rfl ?_
    change WP _ _ _ _ _ _ _ (sI (sI H16 (tg H16 a20) a20 (hI H16 1332 a0 0).toNatClampNeg x1) 1332 a0 0 ((hI (sI H16 (tg H16 a20) a20 (hI H16 1332 a0 0).toNatClampNeg x1) 1332 a0 0) + (1 : Int32))) _
    refine wp_aload_n 0 dX12_product_73 rfl ?_
    refine wp_callV (ci := 12) (As := []) (rest := []) (mc := 0) (ms := 0) dX12_product_74 lk_X12_177 rfl rfl (by decide) rfl rfl rfl ht19 rfl rfl rfl w_6_206 (Call.weaken h ?_)
    rintro H23 _ ⟨r24, rfl, h⟩
    change WP _ _ _ _ _ _ [.int r24] H23 _
    refine wp_bipush (v := (42 : Int32)) dX12_product_77 (by decide) ?_
    refine wp_icmp_eq (tgt := 92) dX12_product_79 rfl (fun c => ?_) (fun c => ?_)
    · replace h := h.1 c
      refine wp_aload_n 0 dX12_product_92 rfl ?_
      obtain ⟨ht26, h⟩ := h
      refine wp_callV (ci := 12) (As := []) (rest := []) (mc := 0) (ms := 0) dX12_product_93 lk_X12_177 rfl rfl (by decide) rfl rfl rfl ht26 rfl rfl rfl w_6_206 (Call.weaken h ?_)
      rintro H25 _ ⟨r27, rfl, h⟩
      change WP _ _ _ _ _ _ [.int r27] H25 _
      refine wp_bipush (v := (42 : Int32)) dX12_product_96 (by decide) ?_
      refine wp_icmp_ne (tgt := 105) dX12_product_98 rfl (fun c => ?_) (fun c => ?_)
      · replace h := h.1 c
        refine wp_iconst (v := (-1 : Int32)) dX12_product_105 (by decide) ?_
        refine wp_istore_n (ls' := [(1, .int (-1 : Int32)), (0, rv (some a0))]) dX12_product_106 (by decide) rfl ?_
        refine wp_aload_n 1 dX12_product_107 rfl ?_
        refine wp_dup dX12_product_108 (rv_cat _) ?_
        obtain ⟨ht28, h⟩ := h
        refine wp_getI (ci := 12) (j := 24) dX12_product_109 fi_X12_174r rfl rfl ht28 ?_
        change WP _ _ _ _ _ _ (.int (hI H25 1324 a0 0) :: _) _ _
        refine wp_iconst (v := (1 : Int32)) dX12_product_112 (by decide) ?_
        refine wp_iadd dX12_product_113 ?_
        refine wp_putI (ci := 12) (j := 24) dX12_product_114 fi_X12_174 rfl (fun z => by cases z) rfl ht28 rfl rfl ?_
        change WP _ _ _ _ _ _ _ (sI H25 1324 a0 0 ((hI H25 1324 a0 0) + (1 : Int32))) _
        refine wp_goto (tgt := 7) dX12_product_117 rfl ?_
        refine wp_sub (ls' := [(0, rv (some a0)), (1, .int (-1 : Int32))]) [1, 0] rfl ?_
        exact h
      · replace h := h.2 c
        refine wp_iconst (v := (1 : Int32)) dX12_product_101 (by decide) ?_
        refine wp_goto (tgt := 106) dX12_product_102 rfl ?_
        refine wp_istore_n (ls' := [(1, .int (1 : Int32)), (0, rv (some a0))]) dX12_product_106 (by decide) rfl ?_
        refine wp_aload_n 1 dX12_product_107 rfl ?_
        refine wp_dup dX12_product_108 (rv_cat _) ?_
        obtain ⟨ht29, h⟩ := h
        refine wp_getI (ci := 12) (j := 24) dX12_product_109 fi_X12_174r rfl rfl ht29 ?_
        change WP _ _ _ _ _ _ (.int (hI H25 1324 a0 0) :: _) _ _
        refine wp_iconst (v := (1 : Int32)) dX12_product_112 (by decide) ?_
        refine wp_iadd dX12_product_113 ?_
        refine wp_putI (ci := 12) (j := 24) dX12_product_114 fi_X12_174 rfl (fun z => by cases z) rfl ht29 rfl rfl ?_
        change WP _ _ _ _ _ _ _ (sI H25 1324 a0 0 ((hI H25 1324 a0 0) + (1 : Int32))) _
        refine wp_goto (tgt := 7) dX12_product_117 rfl ?_
        refine wp_sub (ls' := [(0, rv (some a0)), (1, .int (1 : Int32))]) [1, 0] rfl ?_
        exact h
    · replace h := h.2 c
      refine wp_aload_n 0 dX12_product_82 rfl ?_
      obtain ⟨ht31, h⟩ := h
      refine wp_callV (ci := 12) (As := []) (rest := []) (mc := 0) (ms := 0) dX12_product_83 lk_X12_177 rfl rfl (by decide) rfl rfl rfl ht31 rfl rfl rfl w_6_206 (Call.weaken h ?_)
      rintro H30 _ ⟨r32, rfl, h⟩
      change WP _ _ _ _ _ _ [.int r32] H30 _
      refine wp_bipush (v := (47 : Int32)) dX12_product_86 (by decide) ?_
      refine wp_icmp_eq (tgt := 92) dX12_product_88 rfl (fun c => ?_) (fun c => ?_)
      · replace h := h.1 c
        refine wp_aload_n 0 dX12_product_92 rfl ?_
        obtain ⟨ht34, h⟩ := h
        refine wp_callV (ci := 12) (As := []) (rest := []) (mc := 0) (ms := 0) dX12_product_93 lk_X12_177 rfl rfl (by decide) rfl rfl rfl ht34 rfl rfl rfl w_6_206 (Call.weaken h ?_)
        rintro H33 _ ⟨r35, rfl, h⟩
        change WP _ _ _ _ _ _ [.int r35] H33 _
        refine wp_bipush (v := (42 : Int32)) dX12_product_96 (by decide) ?_
        refine wp_icmp_ne (tgt := 105) dX12_product_98 rfl (fun c => ?_) (fun c => ?_)
        · replace h := h.1 c
          refine wp_iconst (v := (-1 : Int32)) dX12_product_105 (by decide) ?_
          refine wp_istore_n (ls' := [(1, .int (-1 : Int32)), (0, rv (some a0))]) dX12_product_106 (by decide) rfl ?_
          refine wp_aload_n 1 dX12_product_107 rfl ?_
          refine wp_dup dX12_product_108 (rv_cat _) ?_
          obtain ⟨ht36, h⟩ := h
          refine wp_getI (ci := 12) (j := 24) dX12_product_109 fi_X12_174r rfl rfl ht36 ?_
          change WP _ _ _ _ _ _ (.int (hI H33 1324 a0 0) :: _) _ _
          refine wp_iconst (v := (1 : Int32)) dX12_product_112 (by decide) ?_
          refine wp_iadd dX12_product_113 ?_
          refine wp_putI (ci := 12) (j := 24) dX12_product_114 fi_X12_174 rfl (fun z => by cases z) rfl ht36 rfl rfl ?_
          change WP _ _ _ _ _ _ _ (sI H33 1324 a0 0 ((hI H33 1324 a0 0) + (1 : Int32))) _
          refine wp_goto (tgt := 7) dX12_product_117 rfl ?_
          refine wp_sub (ls' := [(0, rv (some a0)), (1, .int (-1 : Int32))]) [1, 0] rfl ?_
          exact h
        · replace h := h.2 c
          refine wp_iconst (v := (1 : Int32)) dX12_product_101 (by decide) ?_
          refine wp_goto (tgt := 106) dX12_product_102 rfl ?_
          refine wp_istore_n (ls' := [(1, .int (1 : Int32)), (0, rv (some a0))]) dX12_product_106 (by decide) rfl ?_
          refine wp_aload_n 1 dX12_product_107 rfl ?_
          refine wp_dup dX12_product_108 (rv_cat _) ?_
          obtain ⟨ht37, h⟩ := h
          refine wp_getI (ci := 12) (j := 24) dX12_product_109 fi_X12_174r rfl rfl ht37 ?_
          change WP _ _ _ _ _ _ (.int (hI H33 1324 a0 0) :: _) _ _
          refine wp_iconst (v := (1 : Int32)) dX12_product_112 (by decide) ?_
          refine wp_iadd dX12_product_113 ?_
          refine wp_putI (ci := 12) (j := 24) dX12_product_114 fi_X12_174 rfl (fun z => by cases z) rfl ht37 rfl rfl ?_
          change WP _ _ _ _ _ _ _ (sI H33 1324 a0 0 ((hI H33 1324 a0 0) + (1 : Int32))) _
          refine wp_goto (tgt := 7) dX12_product_117 rfl ?_
          refine wp_sub (ls' := [(0, rv (some a0)), (1, .int (1 : Int32))]) [1, 0] rfl ?_
          exact h
      · replace h := h.2 c
        exact wp_return dX12_product_91 rfl ⟨rfl, h⟩
theorem C_X12_product {d : Nat} {q : HP → Prop} {a0 : Nat} {H : HP} (h : wb_X12_product_0 d q a0 H) : CV (d + 1) 0 0 mX12_product [rv (some a0)] H q := by
  refine call_of (by decide +kernel) (by simp [lg_sl, rv_cat, vc_int, vc_long, vc_float, vc_double]) ?_
  have e : lv_args 0 [rv (some a0)] = [(0, rv (some a0))] := by simp [lv_args, rv_cat, vc_int, vc_long, vc_float, vc_double]
  rw [e]
  exact T_X12_product_0 h
/-- UnitProverModel.product(IIIZ)I: the loop at 50 -/
def L_X12_product__50 (d : Nat) (q : HP → Int32 → Prop) (a0 : Nat) (x1 : Int32) (x2 : Int32) (x3 : Int32) (x5 : Int32) (H : HP) : Prop := WP (d + 1) mX12_product_ 0 0 50 [(0, rv (some a0)), (1, .int x1), (2, .int x2), (3, .int x3), (5, .int x5)] [] H (qI q)
def wb_X12_product__0 (d : Nat) (q : HP → Int32 → Prop) (a0 : Nat) (x1 : Int32) (x2 : Int32) (x3 : Int32) (x4 : Int32) (H : HP) : Prop :=
  tg H a0 = 13 ∧ (CZ d 0 0 mX12_goesOn [rv (some a0)] H (fun H1 b3 => (b3 = true → (x4 = 0 → (0 ≤ x3 → tg H1 a0 = 13 ∧ (CV d 0 0 mX12_clears [rv (some a0)] H1 (fun H4 => L_X12_product__50 d q a0 x1 x2 x3 (0 : Int32) H4))) ∧ (¬ (0 ≤ x3) → tg H1 a0 = 13 ∧ (∃ a7, (hC H1 1347 a0) = some a7 ∧ (isA H1 a7 3 ∧ (vp_in x2 (ln H1 a7) ∧ ((¬ (hL H1 (tg H1 a7) a7 x2.toNatClampNeg) = (0 : Int64) → CV d 0 0 mX12_clears [rv (some a0)] H1 (fun H10 => L_X12_product__50 d q a0 x1 x2 x3 (0 : Int32) H10)) ∧ ((hL H1 (tg H1 a7) a7 x2.toNatClampNeg) = (0 : Int64) → CI d 0 0 mX12_ends [rv (some a0), .int (-9 : Int32)] H1 (fun H11 r12 => q H11 r12)))))))) ∧ (¬ (x4 = 0) → tg H1 a0 = 13 ∧ (CI d 0 0 mX12_ends [rv (some a0), .int (-10 : Int32)] H1 (fun H13 r15 => q H13 r15)))) ∧ (b3 = false → q H1 (-1 : Int32))))
set_option maxRecDepth 40000 in
set_option maxHeartbeats 4000000 in
theorem T_X12_product__0 {d : Nat} {q : HP → Int32 → Prop} {a0 : Nat} {x1 : Int32} {x2 : Int32} {x3 : Int32} {x4 : Int32} {H : HP} (h : wb_X12_product__0 d q a0 x1 x2 x3 x4 H) : WP (d + 1) mX12_product_ 0 0 0 [(0, rv (some a0)), (1, .int x1), (2, .int x2), (3, .int x3), (4, .int x4)] [] H (qI q) := by
  unfold wb_X12_product__0 at h
  refine wp_aload_n 0 dX12_product__0 rfl ?_
  obtain ⟨ht2, h⟩ := h
  refine wp_callV (ci := 12) (As := []) (rest := []) (mc := 0) (ms := 0) dX12_product__1 lk_X12_346 rfl rfl (by decide) rfl rfl rfl ht2 rfl rfl rfl w_7_149 (Call.weaken h ?_)
  rintro H1 _ ⟨b3, rfl, h⟩
  change WP _ _ _ _ _ _ [.int (bI b3)] H1 _
  refine wp_if_ne (tgt := 9) dX12_product__4 rfl (fun c => ?_) (fun c => ?_)
  · replace h := h.1 (bI_1.mp c)
    refine wp_iload 4 dX12_product__9 rfl ?_
    refine wp_if_eq (tgt := 21) dX12_product__11 rfl (fun c => ?_) (fun c => ?_)
    · replace h := h.1 c
      refine wp_iload_n 3 dX12_product__21 rfl ?_
      refine wp_if_ge (tgt := 43) dX12_product__22 rfl (fun c => ?_) (fun c => ?_)
      · replace h := h.1 c
        refine wp_aload_n 0 dX12_product__43 rfl ?_
        obtain ⟨ht5, h⟩ := h
        refine wp_callV (ci := 12) (As := []) (rest := []) (mc := 0) (ms := 0) dX12_product__44 lk_X12_323 rfl rfl (by decide) rfl rfl rfl ht5 rfl rfl rfl w_7_157 (Call.weaken h ?_)
        rintro H4 _ ⟨rfl, h⟩
        change WP _ _ _ _ _ _ [] H4 _
        refine wp_iconst (v := (0 : Int32)) dX12_product__47 (by decide) ?_
        refine wp_istore (ls' := [(5, .int (0 : Int32)), (0, rv (some a0)), (1, .int x1), (2, .int x2), (3, .int x3), (4, .int x4)]) dX12_product__48 (by decide) rfl ?_
        refine wp_sub (ls' := [(0, rv (some a0)), (1, .int x1), (2, .int x2), (3, .int x3), (5, .int (0 : Int32))]) [1, 2, 3, 4, 0] rfl ?_
        exact h
      · replace h := h.2 c
        refine wp_aload_n 0 dX12_product__25 rfl ?_
        obtain ⟨ht6, h⟩ := h
        refine wp_getC (ci := 12) (j := 47) dX12_product__26 fi_X12_83r rfl rfl ht6 ?_
        change WP _ _ _ _ _ _ (rv (hC H1 1347 a0) :: _) _ _
        refine wp_iload_n 2 dX12_product__29 rfl ?_
        obtain ⟨a7, ha7, h⟩ := h
        obtain ⟨hr8, h⟩ := h
        obtain ⟨hg9, h⟩ := h
        refine wp_laload dX12_product__30 ha7 hr8 hg9 ?_
        refine wp_lconst (v := (0 : Int64)) dX12_product__31 (by decide) ?_
        refine wp_lcmp dX12_product__32 ?_
        refine wp_if_ne (tgt := 43) dX12_product__33 rfl (fun c => ?_) (fun c => ?_)
        · replace h := h.1 (fun z => c (lgc_eq.mpr z))
          refine wp_aload_n 0 dX12_product__43 rfl ?_
          refine wp_callV (ci := 12) (As := []) (rest := []) (mc := 0) (ms := 0) dX12_product__44 lk_X12_323 rfl rfl (by decide) rfl rfl rfl ht6 rfl rfl rfl w_7_157 (Call.weaken h ?_)
          rintro H10 _ ⟨rfl, h⟩
          change WP _ _ _ _ _ _ [] H10 _
          refine wp_iconst (v := (0 : Int32)) dX12_product__47 (by decide) ?_
          refine wp_istore (ls' := [(5, .int (0 : Int32)), (0, rv (some a0)), (1, .int x1), (2, .int x2), (3, .int x3), (4, .int x4)]) dX12_product__48 (by decide) rfl ?_
          refine wp_sub (ls' := [(0, rv (some a0)), (1, .int x1), (2, .int x2), (3, .int x3), (5, .int (0 : Int32))]) [1, 2, 3, 4, 0] rfl ?_
          exact h
        · replace h := h.2 (lgc_eq.mp c)
          refine wp_aload_n 0 dX12_product__36 rfl ?_
          refine wp_bipush (v := (-9 : Int32)) dX12_product__37 (by decide) ?_
          refine wp_callV (ci := 12) (As := [.int (-9 : Int32)]) (rest := []) (mc := 0) (ms := 0) dX12_product__39 lk_X12_326 rfl rfl (by decide) rfl rfl rfl ht6 rfl rfl rfl w_7_177 (Call.weaken h ?_)
          rintro H11 _ ⟨r12, rfl, h⟩
          change WP _ _ _ _ _ _ [.int r12] H11 _
          exact wp_ireturn (ty := .int) dX12_product__42 rfl rfl ⟨_, rfl, h⟩
    · replace h := h.2 c
      refine wp_aload_n 0 dX12_product__14 rfl ?_
      refine wp_bipush (v := (-10 : Int32)) dX12_product__15 (by decide) ?_
      obtain ⟨ht14, h⟩ := h
      refine wp_callV (ci := 12) (As := [.int (-10 : Int32)]) (rest := []) (mc := 0) (ms := 0) dX12_product__17 lk_X12_326 rfl rfl (by decide) rfl rfl rfl ht14 rfl rfl rfl w_7_177 (Call.weaken h ?_)
      rintro H13 _ ⟨r15, rfl, h⟩
      change WP _ _ _ _ _ _ [.int r15] H13 _
      exact wp_ireturn (ty := .int) dX12_product__20 rfl rfl ⟨_, rfl, h⟩
  · replace h := h.2 (bI_0.mp c)
    refine wp_iconst (v := (-1 : Int32)) dX12_product__7 (by decide) ?_
    exact wp_ireturn (ty := .int) dX12_product__8 rfl rfl ⟨_, rfl, h⟩
def wb_X12_product__50 (d : Nat) (q : HP → Int32 → Prop) (a0 : Nat) (x1 : Int32) (x2 : Int32) (x3 : Int32) (x5 : Int32) (H : HP) : Prop :=
  ((5 : Int32) ≤ x5 → tg H a0 = 13 ∧ (CZ d 0 0 mX12_isWide [rv (some a0), .int (18 : Int32)] H (fun H1 b3 => (b3 = false → (x3 ≤ 0 → tg H1 a0 = 13 ∧ (∃ a5, (hC H1 1347 a0) = some a5 ∧ (isA H1 a5 3 ∧ (vp_in x1 (ln H1 a5) ∧ (∃ a8, (hC H1 1348 a0) = some a8 ∧ (isA H1 a8 3 ∧ (vp_in x1 (ln H1 a8) ∧ (vp_in x2 (ln H1 a5) ∧ (vp_in x2 (ln H1 a8) ∧ (CV d 0 0 mX12_by [rv (some a0), .long (hL H1 (tg H1 a5) a5 x1.toNatClampNeg), .long (hL H1 (tg H1 a8) a8 x1.toNatClampNeg), .long (hL H1 (tg H1 a5) a5 x2.toNatClampNeg), .long (hL H1 (tg H1 a8) a8 x2.toNatClampNeg)] H1 (fun H13 => tg H13 a0 = 13 ∧ (((hI H13 1321 a0 0) = 0 → (x3 ≤ 0 → CI d 0 0 mX12_stepComes [rv (some a0), .int (2 : Int32)] H13 (fun H15 r16 => q H15 r16)) ∧ (¬ (x3 ≤ 0) → CI d 0 0 mX12_stepComes [rv (some a0), .int (1 : Int32)] H13 (fun H17 r18 => q H17 r18))) ∧ (¬ ((hI H13 1321 a0 0) = 0) → CI d 0 0 mX12_ends [rv (some a0), .int (-15 : Int32)] H13 (fun H19 r20 => q H19 r20)))))))))))))) ∧ (¬ (x3 ≤ 0) → tg H1 a0 = 13 ∧ (∃ a22, (hC H1 1347 a0) = some a22 ∧ (isA H1 a22 3 ∧ (vp_in x1 (ln H1 a22) ∧ (∃ a25, (hC H1 1348 a0) = some a25 ∧ (isA H1 a25 3 ∧ (vp_in x1 (ln H1 a25) ∧ (vp_in x2 (ln H1 a22) ∧ (vp_in x2 (ln H1 a25) ∧ (CV d 0 0 mX12_times [rv (some a0), .long (hL H1 (tg H1 a22) a22 x1.toNatClampNeg), .long (hL H1 (tg H1 a25) a25 x1.toNatClampNeg), .long (hL H1 (tg H1 a22) a22 x2.toNatClampNeg), .long (hL H1 (tg H1 a25) a25 x2.toNatClampNeg)] H1 (fun H30 => tg H30 a0 = 13 ∧ (((hI H30 1321 a0 0) = 0 → (x3 ≤ 0 → CI d 0 0 mX12_stepComes [rv (some a0), .int (2 : Int32)] H30 (fun H32 r33 => q H32 r33)) ∧ (¬ (x3 ≤ 0) → CI d 0 0 mX12_stepComes [rv (some a0), .int (1 : Int32)] H30 (fun H34 r35 => q H34 r35))) ∧ (¬ ((hI H30 1321 a0 0) = 0) → CI d 0 0 mX12_ends [rv (some a0), .int (-15 : Int32)] H30 (fun H36 r37 => q H36 r37))))))))))))))) ∧ (b3 = true → tg H1 a0 = 13 ∧ (CI d 0 0 mX12_ends [rv (some a0), .int (-12 : Int32)] H1 (fun H38 r40 => q H38 r40)))))) ∧ (¬ ((5 : Int32) ≤ x5) → tg H a0 = 13 ∧ (∃ a42, (hC H 1346 a0) = some a42 ∧ (isA H a42 0 ∧ (vp_in (((5 : Int32) * x1) + x5) (ln H a42) ∧ (vp_in (((5 : Int32) * x2) + x5) (ln H a42) ∧ (∃ a46, (hC H 1337 a0) = some a46 ∧ (isA H a46 0 ∧ (vp_in x5 (ln H a46) ∧ (∀ H49, (sI H (tg H a46) a46 x5.toNatClampNeg ((hI H (tg H a42) a42 (((5 : Int32) * x1) + x5).toNatClampNeg) + (x3 * (hI H (tg H a42) a42 (((5 : Int32) * x2) + x5).toNatClampNeg)))) = H49 → (L_X12_product__50 d q a0 x1 x2 x3 (x5 + 1) H49))))))))))
set_option maxRecDepth 40000 in
set_option maxHeartbeats 4000000 in
theorem T_X12_product__50 {d : Nat} {q : HP → Int32 → Prop} {a0 : Nat} {x1 : Int32} {x2 : Int32} {x3 : Int32} {x5 : Int32} {H : HP} (h : wb_X12_product__50 d q a0 x1 x2 x3 x5 H) : L_X12_product__50 d q a0 x1 x2 x3 x5 H := by
  unfold wb_X12_product__50 at h
  unfold L_X12_product__50
  refine wp_iload 4 dX12_product__50 rfl ?_
  refine wp_iconst (v := (5 : Int32)) dX12_product__52 (by decide) ?_
  refine wp_icmp_ge (tgt := 94) dX12_product__53 rfl (fun c => ?_) (fun c => ?_)
  · replace h := h.1 c
    refine wp_aload_n 0 dX12_product__94 rfl ?_
    refine wp_bipush (v := (18 : Int32)) dX12_product__95 (by decide) ?_
    obtain ⟨ht2, h⟩ := h
    refine wp_callV (ci := 12) (As := [.int (18 : Int32)]) (rest := []) (mc := 0) (ms := 0) dX12_product__97 lk_X12_260 rfl rfl (by decide) rfl rfl rfl ht2 rfl rfl rfl w_7_28 (Call.weaken h ?_)
    rintro H1 _ ⟨b3, rfl, h⟩
    change WP _ _ _ _ _ _ [.int (bI b3)] H1 _
    refine wp_if_eq (tgt := 110) dX12_product__100 rfl (fun c => ?_) (fun c => ?_)
    · replace h := h.1 (bI_0.mp c)
      refine wp_iload_n 3 dX12_product__110 rfl ?_
      refine wp_if_le (tgt := 145) dX12_product__111 rfl (fun c => ?_) (fun c => ?_)
      · replace h := h.1 c
        refine wp_aload_n 0 dX12_product__145 rfl ?_
        refine wp_aload_n 0 dX12_product__146 rfl ?_
        obtain ⟨ht4, h⟩ := h
        refine wp_getC (ci := 12) (j := 47) dX12_product__147 fi_X12_83r rfl rfl ht4 ?_
        change WP _ _ _ _ _ _ (rv (hC H1 1347 a0) :: _) _ _
        refine wp_iload_n 1 dX12_product__150 rfl ?_
        obtain ⟨a5, ha5, h⟩ := h
        obtain ⟨hr6, h⟩ := h
        obtain ⟨hg7, h⟩ := h
        refine wp_laload dX12_product__151 ha5 hr6 hg7 ?_
        refine wp_aload_n 0 dX12_product__152 rfl ?_
        refine wp_getC (ci := 12) (j := 48) dX12_product__153 fi_X12_86r rfl rfl ht4 ?_
        change WP _ _ _ _ _ _ (rv (hC H1 1348 a0) :: _) _ _
        refine wp_iload_n 1 dX12_product__156 rfl ?_
        obtain ⟨a8, ha8, h⟩ := h
        obtain ⟨hr9, h⟩ := h
        obtain ⟨hg10, h⟩ := h
        refine wp_laload dX12_product__157 ha8 hr9 hg10 ?_
        refine wp_aload_n 0 dX12_product__158 rfl ?_
        refine wp_getC (ci := 12) (j := 47) dX12_product__159 fi_X12_83r rfl rfl ht4 ?_
        change WP _ _ _ _ _ _ (rv (hC H1 1347 a0) :: _) _ _
        refine wp_iload_n 2 dX12_product__162 rfl ?_
        obtain ⟨hg11, h⟩ := h
        refine wp_laload dX12_product__163 ha5 hr6 hg11 ?_
        refine wp_aload_n 0 dX12_product__164 rfl ?_
        refine wp_getC (ci := 12) (j := 48) dX12_product__165 fi_X12_86r rfl rfl ht4 ?_
        change WP _ _ _ _ _ _ (rv (hC H1 1348 a0) :: _) _ _
        refine wp_iload_n 2 dX12_product__168 rfl ?_
        obtain ⟨hg12, h⟩ := h
        refine wp_laload dX12_product__169 ha8 hr9 hg12 ?_
        refine wp_callV (ci := 12) (As := [.long (hL H1 (tg H1 a5) a5 x1.toNatClampNeg), .long (hL H1 (tg H1 a8) a8 x1.toNatClampNeg), .long (hL H1 (tg H1 a5) a5 x2.toNatClampNeg), .long (hL H1 (tg H1 a8) a8 x2.toNatClampNeg)]) (rest := []) (mc := 0) (ms := 0) dX12_product__170 lk_X12_253 rfl rfl (by decide) rfl rfl rfl ht4 rfl rfl rfl w_7_56 (Call.weaken h ?_)
        rintro H13 _ ⟨rfl, h⟩
        change WP _ _ _ _ _ _ [] H13 _
        refine wp_aload_n 0 dX12_product__173 rfl ?_
        obtain ⟨ht14, h⟩ := h
        refine wp_getI (ci := 12) (j := 21) dX12_product__174 fi_X12_133r rfl rfl ht14 ?_
        change WP _ _ _ _ _ _ (.int (hI H13 1321 a0 0) :: _) _ _
        refine wp_if_eq (tgt := 189) dX12_product__177 rfl (fun c => ?_) (fun c => ?_)
        · replace h := h.1 c
          refine wp_aload_n 0 dX12_product__189 rfl ?_
          refine wp_iload_n 3 dX12_product__190 rfl ?_
          refine wp_if_le (tgt := 198) dX12_product__191 rfl (fun c => ?_) (fun c => ?_)
          · replace h := h.1 c
            refine wp_iconst (v := (2 : Int32)) dX12_product__198 (by decide) ?_
            refine wp_callV (ci := 12) (As := [.int (2 : Int32)]) (rest := []) (mc := 0) (ms := 0) dX12_product__199 lk_X12_333 rfl rfl (by decide) rfl rfl rfl ht14 rfl rfl rfl w_7_161 (Call.weaken h ?_)
            rintro H15 _ ⟨r16, rfl, h⟩
            change WP _ _ _ _ _ _ [.int r16] H15 _
            exact wp_ireturn (ty := .int) dX12_product__202 rfl rfl ⟨_, rfl, h⟩
          · replace h := h.2 c
            refine wp_iconst (v := (1 : Int32)) dX12_product__194 (by decide) ?_
            refine wp_goto (tgt := 199) dX12_product__195 rfl ?_
            refine wp_callV (ci := 12) (As := [.int (1 : Int32)]) (rest := []) (mc := 0) (ms := 0) dX12_product__199 lk_X12_333 rfl rfl (by decide) rfl rfl rfl ht14 rfl rfl rfl w_7_161 (Call.weaken h ?_)
            rintro H17 _ ⟨r18, rfl, h⟩
            change WP _ _ _ _ _ _ [.int r18] H17 _
            exact wp_ireturn (ty := .int) dX12_product__202 rfl rfl ⟨_, rfl, h⟩
        · replace h := h.2 c
          refine wp_aload_n 0 dX12_product__180 rfl ?_
          refine wp_bipush (v := (-15 : Int32)) dX12_product__181 (by decide) ?_
          refine wp_callV (ci := 12) (As := [.int (-15 : Int32)]) (rest := []) (mc := 0) (ms := 0) dX12_product__183 lk_X12_326 rfl rfl (by decide) rfl rfl rfl ht14 rfl rfl rfl w_7_177 (Call.weaken h ?_)
          rintro H19 _ ⟨r20, rfl, h⟩
          change WP _ _ _ _ _ _ [.int r20] H19 _
          refine wp_goto (tgt := 202) dX12_product__186 rfl ?_
          exact wp_ireturn (ty := .int) dX12_product__202 rfl rfl ⟨_, rfl, h⟩
      · replace h := h.2 c
        refine wp_aload_n 0 dX12_product__114 rfl ?_
        refine wp_aload_n 0 dX12_product__115 rfl ?_
        obtain ⟨ht21, h⟩ := h
        refine wp_getC (ci := 12) (j := 47) dX12_product__116 fi_X12_83r rfl rfl ht21 ?_
        change WP _ _ _ _ _ _ (rv (hC H1 1347 a0) :: _) _ _
        refine wp_iload_n 1 dX12_product__119 rfl ?_
        obtain ⟨a22, ha22, h⟩ := h
        obtain ⟨hr23, h⟩ := h
        obtain ⟨hg24, h⟩ := h
        refine wp_laload dX12_product__120 ha22 hr23 hg24 ?_
        refine wp_aload_n 0 dX12_product__121 rfl ?_
        refine wp_getC (ci := 12) (j := 48) dX12_product__122 fi_X12_86r rfl rfl ht21 ?_
        change WP _ _ _ _ _ _ (rv (hC H1 1348 a0) :: _) _ _
        refine wp_iload_n 1 dX12_product__125 rfl ?_
        obtain ⟨a25, ha25, h⟩ := h
        obtain ⟨hr26, h⟩ := h
        obtain ⟨hg27, h⟩ := h
        refine wp_laload dX12_product__126 ha25 hr26 hg27 ?_
        refine wp_aload_n 0 dX12_product__127 rfl ?_
        refine wp_getC (ci := 12) (j := 47) dX12_product__128 fi_X12_83r rfl rfl ht21 ?_
        change WP _ _ _ _ _ _ (rv (hC H1 1347 a0) :: _) _ _
        refine wp_iload_n 2 dX12_product__131 rfl ?_
        obtain ⟨hg28, h⟩ := h
        refine wp_laload dX12_product__132 ha22 hr23 hg28 ?_
        refine wp_aload_n 0 dX12_product__133 rfl ?_
        refine wp_getC (ci := 12) (j := 48) dX12_product__134 fi_X12_86r rfl rfl ht21 ?_
        change WP _ _ _ _ _ _ (rv (hC H1 1348 a0) :: _) _ _
        refine wp_iload_n 2 dX12_product__137 rfl ?_
        obtain ⟨hg29, h⟩ := h
        refine wp_laload dX12_product__138 ha25 hr26 hg29 ?_
        refine wp_callV (ci := 12) (As := [.long (hL H1 (tg H1 a22) a22 x1.toNatClampNeg), .long (hL H1 (tg H1 a25) a25 x1.toNatClampNeg), .long (hL H1 (tg H1 a22) a22 x2.toNatClampNeg), .long (hL H1 (tg H1 a25) a25 x2.toNatClampNeg)]) (rest := []) (mc := 0) (ms := 0) dX12_product__139 lk_X12_153 rfl rfl (by decide) rfl rfl rfl ht21 rfl rfl rfl w_7_47 (Call.weaken h ?_)
        rintro H30 _ ⟨rfl, h⟩
        change WP _ _ _ _ _ _ [] H30 _
        refine wp_goto (tgt := 173) dX12_product__142 rfl ?_
        refine wp_aload_n 0 dX12_product__173 rfl ?_
        obtain ⟨ht31, h⟩ := h
        refine wp_getI (ci := 12) (j := 21) dX12_product__174 fi_X12_133r rfl rfl ht31 ?_
        change WP _ _ _ _ _ _ (.int (hI H30 1321 a0 0) :: _) _ _
        refine wp_if_eq (tgt := 189) dX12_product__177 rfl (fun c => ?_) (fun c => ?_)
        · replace h := h.1 c
          refine wp_aload_n 0 dX12_product__189 rfl ?_
          refine wp_iload_n 3 dX12_product__190 rfl ?_
          refine wp_if_le (tgt := 198) dX12_product__191 rfl (fun c => ?_) (fun c => ?_)
          · replace h := h.1 c
            refine wp_iconst (v := (2 : Int32)) dX12_product__198 (by decide) ?_
            refine wp_callV (ci := 12) (As := [.int (2 : Int32)]) (rest := []) (mc := 0) (ms := 0) dX12_product__199 lk_X12_333 rfl rfl (by decide) rfl rfl rfl ht31 rfl rfl rfl w_7_161 (Call.weaken h ?_)
            rintro H32 _ ⟨r33, rfl, h⟩
            change WP _ _ _ _ _ _ [.int r33] H32 _
            exact wp_ireturn (ty := .int) dX12_product__202 rfl rfl ⟨_, rfl, h⟩
          · replace h := h.2 c
            refine wp_iconst (v := (1 : Int32)) dX12_product__194 (by decide) ?_
            refine wp_goto (tgt := 199) dX12_product__195 rfl ?_
            refine wp_callV (ci := 12) (As := [.int (1 : Int32)]) (rest := []) (mc := 0) (ms := 0) dX12_product__199 lk_X12_333 rfl rfl (by decide) rfl rfl rfl ht31 rfl rfl rfl w_7_161 (Call.weaken h ?_)
            rintro H34 _ ⟨r35, rfl, h⟩
            change WP _ _ _ _ _ _ [.int r35] H34 _
            exact wp_ireturn (ty := .int) dX12_product__202 rfl rfl ⟨_, rfl, h⟩
        · replace h := h.2 c
          refine wp_aload_n 0 dX12_product__180 rfl ?_
          refine wp_bipush (v := (-15 : Int32)) dX12_product__181 (by decide) ?_
          refine wp_callV (ci := 12) (As := [.int (-15 : Int32)]) (rest := []) (mc := 0) (ms := 0) dX12_product__183 lk_X12_326 rfl rfl (by decide) rfl rfl rfl ht31 rfl rfl rfl w_7_177 (Call.weaken h ?_)
          rintro H36 _ ⟨r37, rfl, h⟩
          change WP _ _ _ _ _ _ [.int r37] H36 _
          refine wp_goto (tgt := 202) dX12_product__186 rfl ?_
          exact wp_ireturn (ty := .int) dX12_product__202 rfl rfl ⟨_, rfl, h⟩
    · replace h := h.2 (bI_1.mp c)
      refine wp_aload_n 0 dX12_product__103 rfl ?_
      refine wp_bipush (v := (-12 : Int32)) dX12_product__104 (by decide) ?_
      obtain ⟨ht39, h⟩ := h
      refine wp_callV (ci := 12) (As := [.int (-12 : Int32)]) (rest := []) (mc := 0) (ms := 0) dX12_product__106 lk_X12_326 rfl rfl (by decide) rfl rfl rfl ht39 rfl rfl rfl w_7_177 (Call.weaken h ?_)
      rintro H38 _ ⟨r40, rfl, h⟩
      change WP _ _ _ _ _ _ [.int r40] H38 _
      exact wp_ireturn (ty := .int) dX12_product__109 rfl rfl ⟨_, rfl, h⟩
  · replace h := h.2 c
    refine wp_aload_n 0 dX12_product__56 rfl ?_
    obtain ⟨ht41, h⟩ := h
    refine wp_getC (ci := 12) (j := 37) dX12_product__57 fi_X12_74r rfl rfl ht41 ?_
    change WP _ _ _ _ _ _ (rv (hC H 1337 a0) :: _) _ _
    refine wp_iload 4 dX12_product__60 rfl ?_
    refine wp_aload_n 0 dX12_product__62 rfl ?_
    refine wp_getC (ci := 12) (j := 46) dX12_product__63 fi_X12_80r rfl rfl ht41 ?_
    change WP _ _ _ _ _ _ (rv (hC H 1346 a0) :: _) _ _
    refine wp_iconst (v := (5 : Int32)) dX12_product__66 (by decide) ?_
    refine wp_iload_n 1 dX12_product__67 rfl ?_
    refine wp_imul dX12_product__68 ?_
    refine wp_iload 4 dX12_product__69 rfl ?_
    refine wp_iadd dX12_product__71 ?_
    obtain ⟨a42, ha42, h⟩ := h
    obtain ⟨hr43, h⟩ := h
    obtain ⟨hg44, h⟩ := h
    refine wp_iaload dX12_product__72 ha42 hr43 hg44 ?_
    refine wp_iload_n 3 dX12_product__73 rfl ?_
    refine wp_aload_n 0 dX12_product__74 rfl ?_
    refine wp_getC (ci := 12) (j := 46) dX12_product__75 fi_X12_80r rfl rfl ht41 ?_
    change WP _ _ _ _ _ _ (rv (hC H 1346 a0) :: _) _ _
    refine wp_iconst (v := (5 : Int32)) dX12_product__78 (by decide) ?_
    refine wp_iload_n 2 dX12_product__79 rfl ?_
    refine wp_imul dX12_product__80 ?_
    refine wp_iload 4 dX12_product__81 rfl ?_
    refine wp_iadd dX12_product__83 ?_
    obtain ⟨hg45, h⟩ := h
    refine wp_iaload dX12_product__84 ha42 hr43 hg45 ?_
    refine wp_imul dX12_product__85 ?_
    refine wp_iadd dX12_product__86 ?_
    obtain ⟨a46, ha46, h⟩ := h
    obtain ⟨hr47, h⟩ := h
    obtain ⟨hg48, h⟩ := h
    refine wp_iastore dX12_product__87 ha46 hr47 hg48 ?_
    change WP _ _ _ _ _ _ _ (sI H (tg H a46) a46 x5.toNatClampNeg ((hI H (tg H a42) a42 (((5 : Int32) * x1) + x5).toNatClampNeg) + (x3 * (hI H (tg H a42) a42 (((5 : Int32) * x2) + x5).toNatClampNeg)))) _
    replace h := h _ rfl
    generalize e50 : (sI H (tg H a46) a46 x5.toNatClampNeg ((hI H (tg H a42) a42 (((5 : Int32) * x1) + x5).toNatClampNeg) + (x3 * (hI H (tg H a42) a42 (((5 : Int32) * x2) + x5).toNatClampNeg)))) = H49 at h ⊢
    have ht51 : tg H49 a0 = 13 := by rw [← e50]; exact ht41
    have hr52 : isA H49 a42 0 := by rw [← e50]; exact hr43
    have hr53 : isA H49 a46 0 := by rw [← e50]; exact hr47
    refine wp_iinc (v := (x5 + 1)) (ls' := [(5, .int (x5 + 1)), (0, rv (some a0)), (1, .int x1), (2, .int x2), (3, .int x3)]) 4 dX12_product__88 rfl rfl (by decide) rfl ?_
    refine wp_goto (tgt := 50) dX12_product__91 rfl ?_
    refine wp_sub (ls' := [(0, rv (some a0)), (1, .int x1), (2, .int x2), (3, .int x3), (5, .int (x5 + 1))]) [1, 2, 3, 4, 0] rfl ?_
    exact h
theorem C_X12_product_ {d : Nat} {q : HP → Int32 → Prop} {a0 : Nat} {x1 : Int32} {x2 : Int32} {x3 : Int32} {x4 : Int32} {H : HP} (h : wb_X12_product__0 d q a0 x1 x2 x3 x4 H) : CI (d + 1) 0 0 mX12_product_ [rv (some a0), .int x1, .int x2, .int x3, .int x4] H q := by
  refine call_of (by decide +kernel) (by simp [lg_sl, rv_cat, vc_int, vc_long, vc_float, vc_double]) ?_
  have e : lv_args 0 [rv (some a0), .int x1, .int x2, .int x3, .int x4] = [(0, rv (some a0)), (1, .int x1), (2, .int x2), (3, .int x3), (4, .int x4)] := by simp [lv_args, rv_cat, vc_int, vc_long, vc_float, vc_double]
  rw [e]
  exact T_X12_product__0 h
/-- UnitProverModel.proof(I)I: the loop at 14 -/
def L_X12_proof_14 (d : Nat) (q : HP → Int32 → Prop) (a0 : Nat) (x1 : Int32) (x2 : Int32) (x3 : Int32) (H : HP) : Prop := WP (d + 1) mX12_proof 0 0 14 [(0, rv (some a0)), (1, .int x1), (2, .int x2), (3, .int x3)] [] H (qI q)
def wb_X12_proof_0 (d : Nat) (q : HP → Int32 → Prop) (a0 : Nat) (x1 : Int32) (H : HP) : Prop :=
  tg H a0 = 13 ∧ ((¬ (hI H 1339 a0 0) = 0 → L_X12_proof_14 d q a0 x1 (0 : Int32) (0 : Int32) H) ∧ ((hI H 1339 a0 0) = 0 → q H (-3 : Int32)))
set_option maxRecDepth 40000 in
set_option maxHeartbeats 4000000 in
theorem T_X12_proof_0 {d : Nat} {q : HP → Int32 → Prop} {a0 : Nat} {x1 : Int32} {H : HP} (h : wb_X12_proof_0 d q a0 x1 H) : WP (d + 1) mX12_proof 0 0 0 [(0, rv (some a0)), (1, .int x1)] [] H (qI q) := by
  unfold wb_X12_proof_0 at h
  refine wp_aload_n 0 dX12_proof_0 rfl ?_
  obtain ⟨ht1, h⟩ := h
  refine wp_getI (ci := 12) (j := 39) dX12_proof_1 fi_X12_405r rfl rfl ht1 ?_
  change WP _ _ _ _ _ _ (.int (hI H 1339 a0 0) :: _) _ _
  refine wp_if_ne (tgt := 10) dX12_proof_4 rfl (fun c => ?_) (fun c => ?_)
  · replace h := h.1 c
    refine wp_iconst (v := (0 : Int32)) dX12_proof_10 (by decide) ?_
    refine wp_istore_n (ls' := [(2, .int (0 : Int32)), (0, rv (some a0)), (1, .int x1)]) dX12_proof_11 (by decide) rfl ?_
    refine wp_iconst (v := (0 : Int32)) dX12_proof_12 (by decide) ?_
    refine wp_istore_n (ls' := [(3, .int (0 : Int32)), (2, .int (0 : Int32)), (0, rv (some a0)), (1, .int x1)]) dX12_proof_13 (by decide) rfl ?_
    refine wp_sub (ls' := [(0, rv (some a0)), (1, .int x1), (2, .int (0 : Int32)), (3, .int (0 : Int32))]) [2, 3, 1, 0] rfl ?_
    exact h
  · replace h := h.2 c
    refine wp_bipush (v := (-3 : Int32)) dX12_proof_7 (by decide) ?_
    exact wp_ireturn (ty := .int) dX12_proof_9 rfl rfl ⟨_, rfl, h⟩
def wb_X12_proof_14 (d : Nat) (q : HP → Int32 → Prop) (a0 : Nat) (x1 : Int32) (x2 : Int32) (x3 : Int32) (H : HP) : Prop :=
  tg H a0 = 13 ∧ (((hI H 1341 a0 0) ≤ x3 → ((x1.toInt < 0 ∨ 4 < x1.toInt) → q H (-1 : Int32)) ∧ (x1 = 0 → (¬ (hI H 1342 a0 0) = 0 → q H (hI H 1342 a0 0)) ∧ ((hI H 1342 a0 0) = 0 → q H (1 : Int32))) ∧ (x1 = 1 → q H (hI H 1341 a0 0)) ∧ (x1 = 2 → ((hI H 1340 a0 0) = 0 → q H (0 : Int32)) ∧ (¬ ((hI H 1340 a0 0) = 0) → q H (1 : Int32))) ∧ (x1 = 3 → (¬ (hI H 1342 a0 0) = 0 → q H (0 : Int32)) ∧ ((hI H 1342 a0 0) = 0 → ((hI H 1340 a0 0) = 0 → q H (0 : Int32)) ∧ (¬ ((hI H 1340 a0 0) = 0) → ∃ a2, (hC H 1347 a0) = some a2 ∧ (isA H a2 3 ∧ (vp_in ((hI H 1341 a0 0) - (1 : Int32)) (ln H a2) ∧ ((¬ (hL H (tg H a2) a2 ((hI H 1341 a0 0) - (1 : Int32)).toNatClampNeg) = (0 : Int64) → q H (0 : Int32)) ∧ ((hL H (tg H a2) a2 ((hI H 1341 a0 0) - (1 : Int32)).toNatClampNeg) = (0 : Int64) → q H (1 : Int32)))))))) ∧ (x1 = 4 → q H x2)) ∧ (¬ ((hI H 1341 a0 0) ≤ x3) → ∃ a5, (hC H 1345 a0) = some a5 ∧ (isA H a5 0 ∧ (vp_in x3 (ln H a5) ∧ ((¬ (hI H (tg H a5) a5 x3.toNatClampNeg) = 0 → L_X12_proof_14 d q a0 x1 (x2 + (0 : Int32)) (x3 + 1) H) ∧ ((hI H (tg H a5) a5 x3.toNatClampNeg) = 0 → L_X12_proof_14 d q a0 x1 (x2 + (1 : Int32)) (x3 + 1) H))))))
set_option maxRecDepth 40000 in
set_option maxHeartbeats 4000000 in
theorem T_X12_proof_14 {d : Nat} {q : HP → Int32 → Prop} {a0 : Nat} {x1 : Int32} {x2 : Int32} {x3 : Int32} {H : HP} (h : wb_X12_proof_14 d q a0 x1 x2 x3 H) : L_X12_proof_14 d q a0 x1 x2 x3 H := by
  unfold wb_X12_proof_14 at h
  unfold L_X12_proof_14
  refine wp_iload_n 3 dX12_proof_14 rfl ?_
  refine wp_aload_n 0 dX12_proof_15 rfl ?_
  obtain ⟨ht1, h⟩ := h
  refine wp_getI (ci := 12) (j := 41) dX12_proof_16 fi_X12_320r rfl rfl ht1 ?_
  change WP _ _ _ _ _ _ (.int (hI H 1341 a0 0) :: _) _ _
  refine wp_icmp_ge (tgt := 45) dX12_proof_19 rfl (fun c => ?_) (fun c => ?_)
  · replace h := h.1 c
    refine wp_iload_n 1 dX12_proof_45 rfl ?_
    by_cases c : x1.toInt < 0 ∨ 4 < x1.toInt
    · replace h := h.1 c
      refine wp_tableOut (tgt := 152) dX12_proof_46 c rfl ?_
      refine wp_iconst (v := (-1 : Int32)) dX12_proof_152 (by decide) ?_
      exact wp_ireturn (ty := .int) dX12_proof_153 rfl rfl ⟨_, rfl, h⟩
    · replace h := h.2
      have e : x1.toInt = 0 ∨ x1.toInt = 1 ∨ x1.toInt = 2 ∨ x1.toInt = 3 ∨ x1.toInt = 4 := by omega
      rcases e with e | e | e | e | e
      · replace h := h.1 (Int32.toInt_inj.mp e)
        refine wp_tableIn (tgt := 80) dX12_proof_46 (by omega) (by omega) (by rw [e]; rfl) rfl ?_
        refine wp_aload_n 0 dX12_proof_80 rfl ?_
        refine wp_getI (ci := 12) (j := 42) dX12_proof_81 fi_X12_317r rfl rfl ht1 ?_
        change WP _ _ _ _ _ _ (.int (hI H 1342 a0 0) :: _) _ _
        refine wp_if_ne (tgt := 91) dX12_proof_84 rfl (fun c => ?_) (fun c => ?_)
        · replace h := h.1 c
          refine wp_aload_n 0 dX12_proof_91 rfl ?_
          refine wp_getI (ci := 12) (j := 42) dX12_proof_92 fi_X12_317r rfl rfl ht1 ?_
          change WP _ _ _ _ _ _ (.int (hI H 1342 a0 0) :: _) _ _
          exact wp_ireturn (ty := .int) dX12_proof_95 rfl rfl ⟨_, rfl, h⟩
        · replace h := h.2 c
          refine wp_iconst (v := (1 : Int32)) dX12_proof_87 (by decide) ?_
          refine wp_goto (tgt := 95) dX12_proof_88 rfl ?_
          exact wp_ireturn (ty := .int) dX12_proof_95 rfl rfl ⟨_, rfl, h⟩
      · replace h := h.2.1 (Int32.toInt_inj.mp e)
        refine wp_tableIn (tgt := 96) dX12_proof_46 (by omega) (by omega) (by rw [e]; rfl) rfl ?_
        refine wp_aload_n 0 dX12_proof_96 rfl ?_
        refine wp_getI (ci := 12) (j := 41) dX12_proof_97 fi_X12_320r rfl rfl ht1 ?_
        change WP _ _ _ _ _ _ (.int (hI H 1341 a0 0) :: _) _ _
        exact wp_ireturn (ty := .int) dX12_proof_100 rfl rfl ⟨_, rfl, h⟩
      · replace h := h.2.2.1 (Int32.toInt_inj.mp e)
        refine wp_tableIn (tgt := 101) dX12_proof_46 (by omega) (by omega) (by rw [e]; rfl) rfl ?_
        refine wp_aload_n 0 dX12_proof_101 rfl ?_
        refine wp_getI (ci := 12) (j := 40) dX12_proof_102 fi_X12_393r rfl rfl ht1 ?_
        change WP _ _ _ _ _ _ (.int (hI H 1340 a0 0) :: _) _ _
        refine wp_if_eq (tgt := 112) dX12_proof_105 rfl (fun c => ?_) (fun c => ?_)
        · replace h := h.1 c
          refine wp_iconst (v := (0 : Int32)) dX12_proof_112 (by decide) ?_
          exact wp_ireturn (ty := .int) dX12_proof_113 rfl rfl ⟨_, rfl, h⟩
        · replace h := h.2 c
          refine wp_iconst (v := (1 : Int32)) dX12_proof_108 (by decide) ?_
          refine wp_goto (tgt := 113) dX12_proof_109 rfl ?_
          exact wp_ireturn (ty := .int) dX12_proof_113 rfl rfl ⟨_, rfl, h⟩
      · replace h := h.2.2.2.1 (Int32.toInt_inj.mp e)
        refine wp_tableIn (tgt := 114) dX12_proof_46 (by omega) (by omega) (by rw [e]; rfl) rfl ?_
        refine wp_aload_n 0 dX12_proof_114 rfl ?_
        refine wp_getI (ci := 12) (j := 42) dX12_proof_115 fi_X12_317r rfl rfl ht1 ?_
        change WP _ _ _ _ _ _ (.int (hI H 1342 a0 0) :: _) _ _
        refine wp_if_ne (tgt := 148) dX12_proof_118 rfl (fun c => ?_) (fun c => ?_)
        · replace h := h.1 c
          refine wp_iconst (v := (0 : Int32)) dX12_proof_148 (by decide) ?_
          exact wp_ireturn (ty := .int) dX12_proof_149 rfl rfl ⟨_, rfl, h⟩
        · replace h := h.2 c
          refine wp_aload_n 0 dX12_proof_121 rfl ?_
          refine wp_getI (ci := 12) (j := 40) dX12_proof_122 fi_X12_393r rfl rfl ht1 ?_
          change WP _ _ _ _ _ _ (.int (hI H 1340 a0 0) :: _) _ _
          refine wp_if_eq (tgt := 148) dX12_proof_125 rfl (fun c => ?_) (fun c => ?_)
          · replace h := h.1 c
            refine wp_iconst (v := (0 : Int32)) dX12_proof_148 (by decide) ?_
            exact wp_ireturn (ty := .int) dX12_proof_149 rfl rfl ⟨_, rfl, h⟩
          · replace h := h.2 c
            refine wp_aload_n 0 dX12_proof_128 rfl ?_
            refine wp_getC (ci := 12) (j := 47) dX12_proof_129 fi_X12_83r rfl rfl ht1 ?_
            change WP _ _ _ _ _ _ (rv (hC H 1347 a0) :: _) _ _
            refine wp_aload_n 0 dX12_proof_132 rfl ?_
            refine wp_getI (ci := 12) (j := 41) dX12_proof_133 fi_X12_320r rfl rfl ht1 ?_
            change WP _ _ _ _ _ _ (.int (hI H 1341 a0 0) :: _) _ _
            refine wp_iconst (v := (1 : Int32)) dX12_proof_136 (by decide) ?_
            refine wp_isub dX12_proof_137 ?_
            obtain ⟨a2, ha2, h⟩ := h
            obtain ⟨hr3, h⟩ := h
            obtain ⟨hg4, h⟩ := h
            refine wp_laload dX12_proof_138 ha2 hr3 hg4 ?_
            refine wp_lconst (v := (0 : Int64)) dX12_proof_139 (by decide) ?_
            refine wp_lcmp dX12_proof_140 ?_
            refine wp_if_ne (tgt := 148) dX12_proof_141 rfl (fun c => ?_) (fun c => ?_)
            · replace h := h.1 (fun z => c (lgc_eq.mpr z))
              refine wp_iconst (v := (0 : Int32)) dX12_proof_148 (by decide) ?_
              exact wp_ireturn (ty := .int) dX12_proof_149 rfl rfl ⟨_, rfl, h⟩
            · replace h := h.2 (lgc_eq.mp c)
              refine wp_iconst (v := (1 : Int32)) dX12_proof_144 (by decide) ?_
              refine wp_goto (tgt := 149) dX12_proof_145 rfl ?_
              exact wp_ireturn (ty := .int) dX12_proof_149 rfl rfl ⟨_, rfl, h⟩
      · replace h := h.2.2.2.2 (Int32.toInt_inj.mp e)
        refine wp_tableIn (tgt := 150) dX12_proof_46 (by omega) (by omega) (by rw [e]; rfl) rfl ?_
        refine wp_iload_n 2 dX12_proof_150 rfl ?_
        exact wp_ireturn (ty := .int) dX12_proof_151 rfl rfl ⟨_, rfl, h⟩
  · replace h := h.2 c
    refine wp_iload_n 2 dX12_proof_22 rfl ?_
    refine wp_aload_n 0 dX12_proof_23 rfl ?_
    refine wp_getC (ci := 12) (j := 45) dX12_proof_24 fi_X12_77r rfl rfl ht1 ?_
    change WP _ _ _ _ _ _ (rv (hC H 1345 a0) :: _) _ _
    refine wp_iload_n 3 dX12_proof_27 rfl ?_
    obtain ⟨a5, ha5, h⟩ := h
    obtain ⟨hr6, h⟩ := h
    obtain ⟨hg7, h⟩ := h
    refine wp_iaload dX12_proof_28 ha5 hr6 hg7 ?_
    refine wp_if_ne (tgt := 36) dX12_proof_29 rfl (fun c => ?_) (fun c => ?_)
    · replace h := h.1 c
      refine wp_iconst (v := (0 : Int32)) dX12_proof_36 (by decide) ?_
      refine wp_iadd dX12_proof_37 ?_
      refine wp_istore_n (ls' := [(2, .int (x2 + (0 : Int32))), (0, rv (some a0)), (1, .int x1), (3, .int x3)]) dX12_proof_38 (by decide) rfl ?_
      refine wp_iinc (v := (x3 + 1)) (ls' := [(3, .int (x3 + 1)), (2, .int (x2 + (0 : Int32))), (0, rv (some a0)), (1, .int x1)]) 3 dX12_proof_39 rfl rfl (by decide) rfl ?_
      refine wp_goto (tgt := 14) dX12_proof_42 rfl ?_
      refine wp_sub (ls' := [(0, rv (some a0)), (1, .int x1), (2, .int (x2 + (0 : Int32))), (3, .int (x3 + 1))]) [2, 3, 1, 0] rfl ?_
      exact h
    · replace h := h.2 c
      refine wp_iconst (v := (1 : Int32)) dX12_proof_32 (by decide) ?_
      refine wp_goto (tgt := 37) dX12_proof_33 rfl ?_
      refine wp_iadd dX12_proof_37 ?_
      refine wp_istore_n (ls' := [(2, .int (x2 + (1 : Int32))), (0, rv (some a0)), (1, .int x1), (3, .int x3)]) dX12_proof_38 (by decide) rfl ?_
      refine wp_iinc (v := (x3 + 1)) (ls' := [(3, .int (x3 + 1)), (2, .int (x2 + (1 : Int32))), (0, rv (some a0)), (1, .int x1)]) 3 dX12_proof_39 rfl rfl (by decide) rfl ?_
      refine wp_goto (tgt := 14) dX12_proof_42 rfl ?_
      refine wp_sub (ls' := [(0, rv (some a0)), (1, .int x1), (2, .int (x2 + (1 : Int32))), (3, .int (x3 + 1))]) [2, 3, 1, 0] rfl ?_
      exact h
theorem C_X12_proof {d : Nat} {q : HP → Int32 → Prop} {a0 : Nat} {x1 : Int32} {H : HP} (h : wb_X12_proof_0 d q a0 x1 H) : CI (d + 1) 0 0 mX12_proof [rv (some a0), .int x1] H q := by
  refine call_of (by decide +kernel) (by simp [lg_sl, rv_cat, vc_int, vc_long, vc_float, vc_double]) ?_
  have e : lv_args 0 [rv (some a0), .int x1] = [(0, rv (some a0)), (1, .int x1)] := by simp [lv_args, rv_cat, vc_int, vc_long, vc_float, vc_double]
  rw [e]
  exact T_X12_proof_0 h
def wb_X12_prove_0 (d : Nat) (q : HP → Int32 → Prop) (a0 : Nat) (H : HP) : Prop :=
  tg H a0 = 13 ∧ (CV d 0 0 mX12_formula [rv (some a0)] (sI H 1338 a0 0 (0 : Int32)) (fun H2 => tg H2 a0 = 13 ∧ ((0 ≤ (hI H2 1325 a0 0) → q (sI H2 1323 a0 0 (0 : Int32)) ((-100 : Int32) - (hI H2 1325 a0 0))) ∧ (¬ (0 ≤ (hI H2 1325 a0 0)) → CV d 0 0 mX12_formula [rv (some a0)] (sI (sI (sI (sI H2 1338 a0 0 (1 : Int32)) 1339 a0 0 (1 : Int32)) 1341 a0 0 (0 : Int32)) 1342 a0 0 (0 : Int32)) (fun H4 => tg H4 a0 = 13 ∧ (q (sI H4 1323 a0 0 (0 : Int32)) (hI H4 1341 a0 0)))))))
set_option maxRecDepth 40000 in
set_option maxHeartbeats 4000000 in
theorem T_X12_prove_0 {d : Nat} {q : HP → Int32 → Prop} {a0 : Nat} {H : HP} (h : wb_X12_prove_0 d q a0 H) : WP (d + 1) mX12_prove 0 0 0 [(0, rv (some a0))] [] H (qI q) := by
  unfold wb_X12_prove_0 at h
  refine wp_aload_n 0 dX12_prove_0 rfl ?_
  refine wp_iconst (v := (0 : Int32)) dX12_prove_1 (by decide) ?_
  obtain ⟨ht1, h⟩ := h
  refine wp_putI (ci := 12) (j := 38) dX12_prove_2 fi_X12_314 rfl (fun z => by cases z) rfl ht1 rfl rfl ?_
  change WP _ _ _ _ _ _ _ (sI H 1338 a0 0 (0 : Int32)) _
  refine wp_aload_n 0 dX12_prove_5 rfl ?_
  refine wp_callV (ci := 12) (As := []) (rest := []) (mc := 0) (ms := 0) dX12_prove_6 lk_X12_402 rfl rfl (by decide) rfl rfl rfl ht1 rfl rfl rfl w_7_124 (Call.weaken h ?_)
  rintro H2 _ ⟨rfl, h⟩
  change WP _ _ _ _ _ _ [] H2 _
  refine wp_bipush (v := (-100 : Int32)) dX12_prove_9 (by decide) ?_
  refine wp_aload_n 0 dX12_prove_11 rfl ?_
  obtain ⟨ht3, h⟩ := h
  refine wp_getI (ci := 12) (j := 25) dX12_prove_12 fi_X12_189r rfl rfl ht3 ?_
  change WP _ _ _ _ _ _ (.int (hI H2 1325 a0 0) :: _) _ _
  refine wp_isub dX12_prove_15 ?_
  refine wp_istore_n (ls' := [(1, .int ((-100 : Int32) - (hI H2 1325 a0 0))), (0, rv (some a0))]) dX12_prove_16 (by decide) rfl ?_
  refine wp_aload_n 1 dX12_prove_17 rfl ?_
  refine wp_getI (ci := 12) (j := 25) dX12_prove_18 fi_X12_189r rfl rfl ht3 ?_
  change WP _ _ _ _ _ _ (.int (hI H2 1325 a0 0) :: _) _ _
  refine wp_if_ge (tgt := 53) dX12_prove_21 rfl (fun c => ?_) (fun c => ?_)
  · replace h := h.1 c
    refine wp_aload_n 1 dX12_prove_53 rfl ?_
    refine wp_iconst (v := (0 : Int32)) dX12_prove_54 (by decide) ?_
    refine wp_putI (ci := 12) (j := 23) dX12_prove_55 fi_X12_171 rfl (fun z => by cases z) rfl ht3 rfl rfl ?_
    change WP _ _ _ _ _ _ _ (sI H2 1323 a0 0 (0 : Int32)) _
    refine wp_iload_n 0 dX12_prove_58 rfl ?_
    exact wp_ireturn (ty := .int) dX12_prove_59 rfl rfl ⟨_, rfl, h⟩
  · replace h := h.2 c
    refine wp_aload_n 1 dX12_prove_24 rfl ?_
    refine wp_iconst (v := (1 : Int32)) dX12_prove_25 (by decide) ?_
    refine wp_putI (ci := 12) (j := 38) dX12_prove_26 fi_X12_314 rfl (fun z => by cases z) rfl ht3 rfl rfl ?_
    change WP _ _ _ _ _ _ _ (sI H2 1338 a0 0 (1 : Int32)) _
    refine wp_aload_n 1 dX12_prove_29 rfl ?_
    refine wp_iconst (v := (1 : Int32)) dX12_prove_30 (by decide) ?_
    refine wp_putI (ci := 12) (j := 39) dX12_prove_31 fi_X12_405 rfl (fun z => by cases z) rfl ht3 rfl rfl ?_
    change WP _ _ _ _ _ _ _ (sI (sI H2 1338 a0 0 (1 : Int32)) 1339 a0 0 (1 : Int32)) _
    refine wp_aload_n 1 dX12_prove_34 rfl ?_
    refine wp_iconst (v := (0 : Int32)) dX12_prove_35 (by decide) ?_
    refine wp_putI (ci := 12) (j := 41) dX12_prove_36 fi_X12_320 rfl (fun z => by cases z) rfl ht3 rfl rfl ?_
    change WP _ _ _ _ _ _ _ (sI (sI (sI H2 1338 a0 0 (1 : Int32)) 1339 a0 0 (1 : Int32)) 1341 a0 0 (0 : Int32)) _
    refine wp_aload_n 1 dX12_prove_39 rfl ?_
    refine wp_iconst (v := (0 : Int32)) dX12_prove_40 (by decide) ?_
    refine wp_putI (ci := 12) (j := 42) dX12_prove_41 fi_X12_317 rfl (fun z => by cases z) rfl ht3 rfl rfl ?_
    change WP _ _ _ _ _ _ _ (sI (sI (sI (sI H2 1338 a0 0 (1 : Int32)) 1339 a0 0 (1 : Int32)) 1341 a0 0 (0 : Int32)) 1342 a0 0 (0 : Int32)) _
    refine wp_aload_n 1 dX12_prove_44 rfl ?_
    refine wp_callV (ci := 12) (As := []) (rest := []) (mc := 0) (ms := 0) dX12_prove_45 lk_X12_402 rfl rfl (by decide) rfl rfl rfl ht3 rfl rfl rfl w_7_124 (Call.weaken h ?_)
    rintro H4 _ ⟨rfl, h⟩
    change WP _ _ _ _ _ _ [] H4 _
    refine wp_aload_n 1 dX12_prove_48 rfl ?_
    obtain ⟨ht5, h⟩ := h
    refine wp_getI (ci := 12) (j := 41) dX12_prove_49 fi_X12_320r rfl rfl ht5 ?_
    change WP _ _ _ _ _ _ (.int (hI H4 1341 a0 0) :: _) _ _
    refine wp_istore_n (ls' := [(1, .int (hI H4 1341 a0 0)), (0, rv (some a0))]) dX12_prove_52 (by decide) rfl ?_
    refine wp_aload_n 1 dX12_prove_53 rfl ?_
    refine wp_iconst (v := (0 : Int32)) dX12_prove_54 (by decide) ?_
    refine wp_putI (ci := 12) (j := 23) dX12_prove_55 fi_X12_171 rfl (fun z => by cases z) rfl ht5 rfl rfl ?_
    change WP _ _ _ _ _ _ _ (sI H4 1323 a0 0 (0 : Int32)) _
    refine wp_iload_n 0 dX12_prove_58 rfl ?_
    exact wp_ireturn (ty := .int) dX12_prove_59 rfl rfl ⟨_, rfl, h⟩
theorem C_X12_prove {d : Nat} {q : HP → Int32 → Prop} {a0 : Nat} {H : HP} (h : wb_X12_prove_0 d q a0 H) : CI (d + 1) 0 0 mX12_prove [rv (some a0)] H q := by
  refine call_of (by decide +kernel) (by simp [lg_sl, rv_cat, vc_int, vc_long, vc_float, vc_double]) ?_
  have e : lv_args 0 [rv (some a0)] = [(0, rv (some a0))] := by simp [lv_args, rv_cat, vc_int, vc_long, vc_float, vc_double]
  rw [e]
  exact T_X12_prove_0 h
def wb_X12_put_0 (d : Nat) (q : HP → Int32 → Prop) (a0 : Nat) (x1 : Int32) (x2 : Int32) (x3 : Int32) (H : HP) : Prop :=
  tg H a0 = 13 ∧ (CI d 0 0 mX12_barred [rv (some a0), .int x1, .int x2] H (fun H1 r3 => (r3 = 0 → tg H1 a0 = 13 ∧ (∃ a5, (hC H1 1357 a0) = some a5 ∧ (isA H1 a5 0 ∧ (vp_in x1 (ln H1 a5) ∧ ((¬ (hI H1 (tg H1 a5) a5 x1.toNatClampNeg) = 0 → ∀ r8, alike64 r8 (FP.ddiv (FP.i2d x3) (4652007308841189376 : UInt64)) = true → (∃ a9, (hC H1 1360 a0) = some a9 ∧ (isA H1 a9 5 ∧ (vp_in (((30 : Int32) * x1) + x2) (ln H1 a9) ∧ (q (sD H1 (tg H1 a9) a9 (((30 : Int32) * x1) + x2).toNatClampNeg r8) (1 : Int32)))))) ∧ ((hI H1 (tg H1 a5) a5 x1.toNatClampNeg) = 0 → ∀ r12, alike32 r12 (FP.fdiv (FP.i2f x3) (1148846080 : UInt32)) = true → (∃ a13, (hC H1 1359 a0) = some a13 ∧ (isA H1 a13 4 ∧ (vp_in (((30 : Int32) * x1) + x2) (ln H1 a13) ∧ (q (sF H1 (tg H1 a13) a13 (((30 : Int32) * x1) + x2).toNatClampNeg r12) (1 : Int32))))))))))) ∧ (¬ (r3 = 0) → q H1 r3)))
set_option maxRecDepth 40000 in
set_option maxHeartbeats 4000000 in
theorem T_X12_put_0 {d : Nat} {q : HP → Int32 → Prop} {a0 : Nat} {x1 : Int32} {x2 : Int32} {x3 : Int32} {H : HP} (h : wb_X12_put_0 d q a0 x1 x2 x3 H) : WP (d + 1) mX12_put 0 0 0 [(0, rv (some a0)), (1, .int x1), (2, .int x2), (3, .int x3)] [] H (qI q) := by
  unfold wb_X12_put_0 at h
  refine wp_aload_n 0 dX12_put_0 rfl ?_
  refine wp_iload_n 1 dX12_put_1 rfl ?_
  refine wp_iload_n 2 dX12_put_2 rfl ?_
  obtain ⟨ht2, h⟩ := h
  refine wp_callV (ci := 12) (As := [.int x1, .int x2]) (rest := []) (mc := 0) (ms := 0) dX12_put_3 lk_X12_468 rfl rfl (by decide) rfl rfl rfl ht2 rfl rfl rfl w_8_92 (Call.weaken h ?_)
  rintro H1 _ ⟨r3, rfl, h⟩
  change WP _ _ _ _ _ _ [.int r3] H1 _
  refine wp_istore (ls' := [(4, .int r3), (0, rv (some a0)), (1, .int x1), (2, .int x2), (3, .int x3)]) dX12_put_6 (by decide) rfl ?_
  refine wp_iload 0 dX12_put_8 rfl ?_
  refine wp_if_eq (tgt := 16) dX12_put_10 rfl (fun c => ?_) (fun c => ?_)
  · replace h := h.1 c
    refine wp_aload_n 1 dX12_put_16 rfl ?_
    obtain ⟨ht4, h⟩ := h
    refine wp_getC (ci := 12) (j := 57) dX12_put_17 fi_X12_107r rfl rfl ht4 ?_
    change WP _ _ _ _ _ _ (rv (hC H1 1357 a0) :: _) _ _
    refine wp_iload_n 2 dX12_put_20 rfl ?_
    obtain ⟨a5, ha5, h⟩ := h
    obtain ⟨hr6, h⟩ := h
    obtain ⟨hg7, h⟩ := h
    refine wp_iaload dX12_put_21 ha5 hr6 hg7 ?_
    refine wp_if_ne (tgt := 45) dX12_put_22 rfl (fun c => ?_) (fun c => ?_)
    · replace h := h.1 c
      refine wp_aload_n 1 dX12_put_45 rfl ?_
      refine wp_getC (ci := 12) (j := 60) dX12_put_46 fi_X12_117r rfl rfl ht4 ?_
      change WP _ _ _ _ _ _ (rv (hC H1 1360 a0) :: _) _ _
      refine wp_bipush (v := (30 : Int32)) dX12_put_49 (by decide) ?_
      refine wp_iload_n 2 dX12_put_51 rfl ?_
      refine wp_imul dX12_put_52 ?_
      refine wp_iload_n 3 dX12_put_53 rfl ?_
      refine wp_iadd dX12_put_54 ?_
      refine wp_iload_n 4 dX12_put_55 rfl ?_
      refine wp_i2d dX12_put_56 ?_
      refine wp_ldc2d dX12_put_57 w_8_97 ?_
      refine wp_ddiv dX12_put_60 (fun r8 hr8 => ?_)
      replace h := h r8 hr8
      obtain ⟨a9, ha9, h⟩ := h
      obtain ⟨hr10, h⟩ := h
      obtain ⟨hg11, h⟩ := h
      refine wp_dastore dX12_put_61 ha9 hr10 hg11 ?_
      change WP _ _ _ _ _ _ _ (sD H1 (tg H1 a9) a9 (((30 : Int32) * x1) + x2).toNatClampNeg r8) _
      refine wp_iconst (v := (1 : Int32)) dX12_put_62 (by decide) ?_
      exact wp_ireturn (ty := .int) dX12_put_63 rfl rfl ⟨_, rfl, h⟩
    · replace h := h.2 c
      refine wp_aload_n 1 dX12_put_25 rfl ?_
      refine wp_getC (ci := 12) (j := 59) dX12_put_26 fi_X12_113r rfl rfl ht4 ?_
      change WP _ _ _ _ _ _ (rv (hC H1 1359 a0) :: _) _ _
      refine wp_bipush (v := (30 : Int32)) dX12_put_29 (by decide) ?_
      refine wp_iload_n 2 dX12_put_31 rfl ?_
      refine wp_imul dX12_put_32 ?_
      refine wp_iload_n 3 dX12_put_33 rfl ?_
      refine wp_iadd dX12_put_34 ?_
      refine wp_iload_n 4 dX12_put_35 rfl ?_
      refine wp_i2f dX12_put_36 ?_
      refine wp_ldcwf dX12_put_37 w_8_96 ?_
      refine wp_fdiv dX12_put_40 (fun r12 hr12 => ?_)
      replace h := h r12 hr12
      obtain ⟨a13, ha13, h⟩ := h
      obtain ⟨hr14, h⟩ := h
      obtain ⟨hg15, h⟩ := h
      refine wp_fastore dX12_put_41 ha13 hr14 hg15 ?_
      change WP _ _ _ _ _ _ _ (sF H1 (tg H1 a13) a13 (((30 : Int32) * x1) + x2).toNatClampNeg r12) _
      refine wp_goto (tgt := 62) dX12_put_42 rfl ?_
      refine wp_iconst (v := (1 : Int32)) dX12_put_62 (by decide) ?_
      exact wp_ireturn (ty := .int) dX12_put_63 rfl rfl ⟨_, rfl, h⟩
  · replace h := h.2 c
    refine wp_iload 0 dX12_put_13 rfl ?_
    exact wp_ireturn (ty := .int) dX12_put_15 rfl rfl ⟨_, rfl, h⟩
theorem C_X12_put {d : Nat} {q : HP → Int32 → Prop} {a0 : Nat} {x1 : Int32} {x2 : Int32} {x3 : Int32} {H : HP} (h : wb_X12_put_0 d q a0 x1 x2 x3 H) : CI (d + 1) 0 0 mX12_put [rv (some a0), .int x1, .int x2, .int x3] H q := by
  refine call_of (by decide +kernel) (by simp [lg_sl, rv_cat, vc_int, vc_long, vc_float, vc_double]) ?_
  have e : lv_args 0 [rv (some a0), .int x1, .int x2, .int x3] = [(0, rv (some a0)), (1, .int x1), (2, .int x2), (3, .int x3)] := by simp [lv_args, rv_cat, vc_int, vc_long, vc_float, vc_double]
  rw [e]
  exact T_X12_put_0 h
def wb_X12_putBits_0 (d : Nat) (q : HP → Int32 → Prop) (a0 : Nat) (x1 : Int32) (x2 : Int32) (x3 : Int64) (H : HP) : Prop :=
  tg H a0 = 13 ∧ (CI d 0 0 mX12_barred [rv (some a0), .int x1, .int x2] H (fun H1 r3 => (r3 = 0 → tg H1 a0 = 13 ∧ (∃ a5, (hC H1 1357 a0) = some a5 ∧ (isA H1 a5 0 ∧ (vp_in x1 (ln H1 a5) ∧ ((¬ (hI H1 (tg H1 a5) a5 x1.toNatClampNeg) = 0 → ∀ r8, raw2dAny x3 r8 → (∃ a9, (hC H1 1360 a0) = some a9 ∧ (isA H1 a9 5 ∧ (vp_in (((30 : Int32) * x1) + x2) (ln H1 a9) ∧ (q (sD H1 (tg H1 a9) a9 (((30 : Int32) * x1) + x2).toNatClampNeg r8) (1 : Int32)))))) ∧ ((hI H1 (tg H1 a5) a5 x1.toNatClampNeg) = 0 → ∀ r12, raw2fAny (x3.toInt32) r12 → (∃ a13, (hC H1 1359 a0) = some a13 ∧ (isA H1 a13 4 ∧ (vp_in (((30 : Int32) * x1) + x2) (ln H1 a13) ∧ (q (sF H1 (tg H1 a13) a13 (((30 : Int32) * x1) + x2).toNatClampNeg r12) (1 : Int32))))))))))) ∧ (¬ (r3 = 0) → q H1 r3)))
set_option maxRecDepth 40000 in
set_option maxHeartbeats 4000000 in
theorem T_X12_putBits_0 {d : Nat} {q : HP → Int32 → Prop} {a0 : Nat} {x1 : Int32} {x2 : Int32} {x3 : Int64} {H : HP} (h : wb_X12_putBits_0 d q a0 x1 x2 x3 H) : WP (d + 1) mX12_putBits 0 0 0 [(0, rv (some a0)), (1, .int x1), (2, .int x2), (3, .long x3)] [] H (qI q) := by
  unfold wb_X12_putBits_0 at h
  refine wp_aload_n 0 dX12_putBits_0 rfl ?_
  refine wp_iload_n 1 dX12_putBits_1 rfl ?_
  refine wp_iload_n 2 dX12_putBits_2 rfl ?_
  obtain ⟨ht2, h⟩ := h
  refine wp_callV (ci := 12) (As := [.int x1, .int x2]) (rest := []) (mc := 0) (ms := 0) dX12_putBits_3 lk_X12_468 rfl rfl (by decide) rfl rfl rfl ht2 rfl rfl rfl w_8_92 (Call.weaken h ?_)
  rintro H1 _ ⟨r3, rfl, h⟩
  change WP _ _ _ _ _ _ [.int r3] H1 _
  refine wp_istore (ls' := [(5, .int r3), (0, rv (some a0)), (1, .int x1), (2, .int x2), (3, .long x3)]) dX12_putBits_6 (by decide) rfl ?_
  refine wp_iload 0 dX12_putBits_8 rfl ?_
  refine wp_if_eq (tgt := 16) dX12_putBits_10 rfl (fun c => ?_) (fun c => ?_)
  · replace h := h.1 c
    refine wp_aload_n 1 dX12_putBits_16 rfl ?_
    obtain ⟨ht4, h⟩ := h
    refine wp_getC (ci := 12) (j := 57) dX12_putBits_17 fi_X12_107r rfl rfl ht4 ?_
    change WP _ _ _ _ _ _ (rv (hC H1 1357 a0) :: _) _ _
    refine wp_iload_n 2 dX12_putBits_20 rfl ?_
    obtain ⟨a5, ha5, h⟩ := h
    obtain ⟨hr6, h⟩ := h
    obtain ⟨hg7, h⟩ := h
    refine wp_iaload dX12_putBits_21 ha5 hr6 hg7 ?_
    refine wp_if_ne (tgt := 44) dX12_putBits_22 rfl (fun c => ?_) (fun c => ?_)
    · replace h := h.1 c
      refine wp_aload_n 1 dX12_putBits_44 rfl ?_
      refine wp_getC (ci := 12) (j := 60) dX12_putBits_45 fi_X12_117r rfl rfl ht4 ?_
      change WP _ _ _ _ _ _ (rv (hC H1 1360 a0) :: _) _ _
      refine wp_bipush (v := (30 : Int32)) dX12_putBits_48 (by decide) ?_
      refine wp_iload_n 2 dX12_putBits_50 rfl ?_
      refine wp_imul dX12_putBits_51 ?_
      refine wp_iload_n 3 dX12_putBits_52 rfl ?_
      refine wp_iadd dX12_putBits_53 ?_
      refine wp_lload_n 4 dX12_putBits_54 rfl ?_
      refine wp_raw2d dX12_putBits_55 w_8_105 w_8_107 w_8_106 w_1_21 (by simp [rv_cat, vc_int, vc_long, vc_float, vc_double]) (by omega) (fun r8 hr8 => ?_)
      replace h := h r8 hr8
      obtain ⟨a9, ha9, h⟩ := h
      obtain ⟨hr10, h⟩ := h
      obtain ⟨hg11, h⟩ := h
      refine wp_dastore dX12_putBits_58 ha9 hr10 hg11 ?_
      change WP _ _ _ _ _ _ _ (sD H1 (tg H1 a9) a9 (((30 : Int32) * x1) + x2).toNatClampNeg r8) _
      refine wp_iconst (v := (1 : Int32)) dX12_putBits_59 (by decide) ?_
      exact wp_ireturn (ty := .int) dX12_putBits_60 rfl rfl ⟨_, rfl, h⟩
    · replace h := h.2 c
      refine wp_aload_n 1 dX12_putBits_25 rfl ?_
      refine wp_getC (ci := 12) (j := 59) dX12_putBits_26 fi_X12_113r rfl rfl ht4 ?_
      change WP _ _ _ _ _ _ (rv (hC H1 1359 a0) :: _) _ _
      refine wp_bipush (v := (30 : Int32)) dX12_putBits_29 (by decide) ?_
      refine wp_iload_n 2 dX12_putBits_31 rfl ?_
      refine wp_imul dX12_putBits_32 ?_
      refine wp_iload_n 3 dX12_putBits_33 rfl ?_
      refine wp_iadd dX12_putBits_34 ?_
      refine wp_lload_n 4 dX12_putBits_35 rfl ?_
      refine wp_l2i dX12_putBits_36 ?_
      refine wp_raw2f dX12_putBits_37 w_8_102 w_8_104 w_8_103 w_1_22 (by simp [rv_cat, vc_int, vc_long, vc_float, vc_double]) (by omega) (fun r12 hr12 => ?_)
      replace h := h r12 hr12
      obtain ⟨a13, ha13, h⟩ := h
      obtain ⟨hr14, h⟩ := h
      obtain ⟨hg15, h⟩ := h
      refine wp_fastore dX12_putBits_40 ha13 hr14 hg15 ?_
      change WP _ _ _ _ _ _ _ (sF H1 (tg H1 a13) a13 (((30 : Int32) * x1) + x2).toNatClampNeg r12) _
      refine wp_goto (tgt := 59) dX12_putBits_41 rfl ?_
      refine wp_iconst (v := (1 : Int32)) dX12_putBits_59 (by decide) ?_
      exact wp_ireturn (ty := .int) dX12_putBits_60 rfl rfl ⟨_, rfl, h⟩
  · replace h := h.2 c
    refine wp_iload 0 dX12_putBits_13 rfl ?_
    exact wp_ireturn (ty := .int) dX12_putBits_15 rfl rfl ⟨_, rfl, h⟩
theorem C_X12_putBits {d : Nat} {q : HP → Int32 → Prop} {a0 : Nat} {x1 : Int32} {x2 : Int32} {x3 : Int64} {H : HP} (h : wb_X12_putBits_0 d q a0 x1 x2 x3 H) : CI (d + 1) 0 0 mX12_putBits [rv (some a0), .int x1, .int x2, .long x3] H q := by
  refine call_of (by decide +kernel) (by simp [lg_sl, rv_cat, vc_int, vc_long, vc_float, vc_double]) ?_
  have e : lv_args 0 [rv (some a0), .int x1, .int x2, .long x3] = [(0, rv (some a0)), (1, .int x1), (2, .int x2), (3, .long x3)] := by simp [lv_args, rv_cat, vc_int, vc_long, vc_float, vc_double]
  rw [e]
  exact T_X12_putBits_0 h
def wb_X12_rack_0 (d : Nat) (q : HP → Int32 → Prop) (a0 : Nat) (x1 : Int32) (x2 : Int32) (x3 : Int32) (H : HP) : Prop :=
  CZ d 0 0 mX12_isRack [.int x1] H (fun H1 b2 => (b2 = false → q H1 (-1 : Int32)) ∧ (b2 = true → CZ d 0 0 mX12_isIn [.long (x3.toInt64), .long (0 : Int64), .long (1 : Int64)] H1 (fun H3 b4 => (b4 = true → CZ d 0 0 mX12_isPlace [.int x2] H3 (fun H5 b6 => (b6 = true → tg H5 a0 = 13 ∧ (∃ a8, (hC H5 1361 a0) = some a8 ∧ (isA H5 a8 0 ∧ (vp_in (((6 : Int32) * x1) + x2) (ln H5 a8) ∧ ((0 ≤ (hI H5 (tg H5 a8) a8 (((6 : Int32) * x1) + x2).toNatClampNeg) → (¬ x3 = 0 → ∃ a11, (hC H5 1362 a0) = some a11 ∧ (isA H5 a11 0 ∧ (vp_in (((6 : Int32) * x1) + x2) (ln H5 a11) ∧ (q H5 (hI H5 (tg H5 a11) a11 (((6 : Int32) * x1) + x2).toNatClampNeg))))) ∧ (x3 = 0 → vp_in (((6 : Int32) * x1) + x2) (ln H5 a8) ∧ (q H5 (hI H5 (tg H5 a8) a8 (((6 : Int32) * x1) + x2).toNatClampNeg)))) ∧ (¬ (0 ≤ (hI H5 (tg H5 a8) a8 (((6 : Int32) * x1) + x2).toNatClampNeg)) → q H5 (-6 : Int32))))))) ∧ (b6 = false → q H5 (-7 : Int32)))) ∧ (b4 = false → q H3 (-1 : Int32)))))
set_option maxRecDepth 40000 in
set_option maxHeartbeats 4000000 in
theorem T_X12_rack_0 {d : Nat} {q : HP → Int32 → Prop} {a0 : Nat} {x1 : Int32} {x2 : Int32} {x3 : Int32} {H : HP} (h : wb_X12_rack_0 d q a0 x1 x2 x3 H) : WP (d + 1) mX12_rack 0 0 0 [(0, rv (some a0)), (1, .int x1), (2, .int x2), (3, .int x3)] [] H (qI q) := by
  unfold wb_X12_rack_0 at h
  refine wp_iload_n 1 dX12_rack_0 rfl ?_
  refine wp_callS (As := [.int x1]) (rest := []) (mc := 0) (ms := 0) dX12_rack_1 lk_X12_492 rfl rfl (by decide) rfl rfl rfl (Call.weaken h ?_)
  rintro H1 _ ⟨b2, rfl, h⟩
  change WP _ _ _ _ _ _ [.int (bI b2)] H1 _
  refine wp_if_eq (tgt := 17) dX12_rack_4 rfl (fun c => ?_) (fun c => ?_)
  · replace h := h.1 (bI_0.mp c)
    refine wp_iconst (v := (-1 : Int32)) dX12_rack_17 (by decide) ?_
    exact wp_ireturn (ty := .int) dX12_rack_18 rfl rfl ⟨_, rfl, h⟩
  · replace h := h.2 (bI_1.mp c)
    refine wp_iload_n 3 dX12_rack_7 rfl ?_
    refine wp_i2l dX12_rack_8 ?_
    refine wp_lconst (v := (0 : Int64)) dX12_rack_9 (by decide) ?_
    refine wp_lconst (v := (1 : Int64)) dX12_rack_10 (by decide) ?_
    refine wp_callS (As := [.long (x3.toInt64), .long (0 : Int64), .long (1 : Int64)]) (rest := []) (mc := 0) (ms := 0) dX12_rack_11 lk_X12_161 rfl rfl (by decide) rfl rfl rfl (Call.weaken h ?_)
    rintro H3 _ ⟨b4, rfl, h⟩
    change WP _ _ _ _ _ _ [.int (bI b4)] H3 _
    refine wp_if_ne (tgt := 19) dX12_rack_14 rfl (fun c => ?_) (fun c => ?_)
    · replace h := h.1 (bI_1.mp c)
      refine wp_iload_n 2 dX12_rack_19 rfl ?_
      refine wp_callS (As := [.int x2]) (rest := []) (mc := 0) (ms := 0) dX12_rack_20 lk_X12_495 rfl rfl (by decide) rfl rfl rfl (Call.weaken h ?_)
      rintro H5 _ ⟨b6, rfl, h⟩
      change WP _ _ _ _ _ _ [.int (bI b6)] H5 _
      refine wp_if_ne (tgt := 29) dX12_rack_23 rfl (fun c => ?_) (fun c => ?_)
      · replace h := h.1 (bI_1.mp c)
        refine wp_bipush (v := (6 : Int32)) dX12_rack_29 (by decide) ?_
        refine wp_iload_n 1 dX12_rack_31 rfl ?_
        refine wp_imul dX12_rack_32 ?_
        refine wp_iload_n 2 dX12_rack_33 rfl ?_
        refine wp_iadd dX12_rack_34 ?_
        refine wp_istore (ls' := [(4, .int (((6 : Int32) * x1) + x2)), (0, rv (some a0)), (1, .int x1), (2, .int x2), (3, .int x3)]) dX12_rack_35 (by decide) rfl ?_
        refine wp_aload_n 1 dX12_rack_37 rfl ?_
        obtain ⟨ht7, h⟩ := h
        refine wp_getC (ci := 12) (j := 61) dX12_rack_38 fi_X12_121r rfl rfl ht7 ?_
        change WP _ _ _ _ _ _ (rv (hC H5 1361 a0) :: _) _ _
        refine wp_iload 0 dX12_rack_41 rfl ?_
        obtain ⟨a8, ha8, h⟩ := h
        obtain ⟨hr9, h⟩ := h
        obtain ⟨hg10, h⟩ := h
        refine wp_iaload dX12_rack_43 ha8 hr9 hg10 ?_
        refine wp_if_ge (tgt := 52) dX12_rack_44 rfl (fun c => ?_) (fun c => ?_)
        · replace h := h.1 c
          refine wp_iload_n 4 dX12_rack_52 rfl ?_
          refine wp_if_ne (tgt := 66) dX12_rack_53 rfl (fun c => ?_) (fun c => ?_)
          · replace h := h.1 c
            refine wp_aload_n 1 dX12_rack_66 rfl ?_
            refine wp_getC (ci := 12) (j := 62) dX12_rack_67 fi_X12_124r rfl rfl ht7 ?_
            change WP _ _ _ _ _ _ (rv (hC H5 1362 a0) :: _) _ _
            refine wp_iload 0 dX12_rack_70 rfl ?_
            obtain ⟨a11, ha11, h⟩ := h
            obtain ⟨hr12, h⟩ := h
            obtain ⟨hg13, h⟩ := h
            refine wp_iaload dX12_rack_72 ha11 hr12 hg13 ?_
            exact wp_ireturn (ty := .int) dX12_rack_73 rfl rfl ⟨_, rfl, h⟩
          · replace h := h.2 c
            refine wp_aload_n 1 dX12_rack_56 rfl ?_
            refine wp_getC (ci := 12) (j := 61) dX12_rack_57 fi_X12_121r rfl rfl ht7 ?_
            change WP _ _ _ _ _ _ (rv (hC H5 1361 a0) :: _) _ _
            refine wp_iload 0 dX12_rack_60 rfl ?_
            obtain ⟨hg14, h⟩ := h
            refine wp_iaload dX12_rack_62 ha8 hr9 hg14 ?_
            refine wp_goto (tgt := 73) dX12_rack_63 rfl ?_
            exact wp_ireturn (ty := .int) dX12_rack_73 rfl rfl ⟨_, rfl, h⟩
        · replace h := h.2 c
          refine wp_bipush (v := (-6 : Int32)) dX12_rack_47 (by decide) ?_
          refine wp_goto (tgt := 73) dX12_rack_49 rfl ?_
          exact wp_ireturn (ty := .int) dX12_rack_73 rfl rfl ⟨_, rfl, h⟩
      · replace h := h.2 (bI_0.mp c)
        refine wp_bipush (v := (-7 : Int32)) dX12_rack_26 (by decide) ?_
        exact wp_ireturn (ty := .int) dX12_rack_28 rfl rfl ⟨_, rfl, h⟩
    · replace h := h.2 (bI_0.mp c)
      refine wp_iconst (v := (-1 : Int32)) dX12_rack_17 (by decide) ?_
      exact wp_ireturn (ty := .int) dX12_rack_18 rfl rfl ⟨_, rfl, h⟩
theorem C_X12_rack {d : Nat} {q : HP → Int32 → Prop} {a0 : Nat} {x1 : Int32} {x2 : Int32} {x3 : Int32} {H : HP} (h : wb_X12_rack_0 d q a0 x1 x2 x3 H) : CI (d + 1) 0 0 mX12_rack [rv (some a0), .int x1, .int x2, .int x3] H q := by
  refine call_of (by decide +kernel) (by simp [lg_sl, rv_cat, vc_int, vc_long, vc_float, vc_double]) ?_
  have e : lv_args 0 [rv (some a0), .int x1, .int x2, .int x3] = [(0, rv (some a0)), (1, .int x1), (2, .int x2), (3, .int x3)] := by simp [lv_args, rv_cat, vc_int, vc_long, vc_float, vc_double]
  rw [e]
  exact T_X12_rack_0 h
def wb_X12_ratio_0 (d : Nat) (q : HP → Int64 → Prop) (a0 : Nat) (x1 : Int32) (x2 : Int32) (x3 : Int32) (H : HP) : Prop :=
  tg H a0 = 13 ∧ (CZ d 0 0 mX12_isUnit [rv (some a0), .int x1] H (fun H1 b3 => (b3 = false → q H1 (-9223372036854775808 : Int64)) ∧ (b3 = true → tg H1 a0 = 13 ∧ (CZ d 0 0 mX12_isUnit [rv (some a0), .int x2] H1 (fun H4 b6 => (b6 = false → q H4 (-9223372036854775808 : Int64)) ∧ (b6 = true → CZ d 0 0 mX12_isPart [.int x3] H4 (fun H7 b8 => (b8 = false → q H7 (-9223372036854775808 : Int64)) ∧ (b8 = true → tg H7 a0 = 13 ∧ (CZ d 0 0 mX12_areLike [rv (some a0), .int x1, .int x2] H7 (fun H9 b11 => (b11 = false → q H9 (-9223372036854775808 : Int64)) ∧ (b11 = true → tg H9 a0 = 13 ∧ (CZ d 0 0 mX12_hasOffset [rv (some a0), .int x1] H9 (fun H12 b14 => (b14 = true → q H12 (-9223372036854775808 : Int64)) ∧ (b14 = false → tg H12 a0 = 13 ∧ (CZ d 0 0 mX12_hasOffset [rv (some a0), .int x2] H12 (fun H15 b17 => (b17 = false → tg H15 a0 = 13 ∧ (∃ a19, (hC (sI H15 1321 a0 0 (0 : Int32)) 1303 a0) = some a19 ∧ (isA (sI H15 1321 a0 0 (0 : Int32)) a19 3 ∧ (vp_in x2 (ln (sI H15 1321 a0 0 (0 : Int32)) a19) ∧ (∃ a22, (hC (sI H15 1321 a0 0 (0 : Int32)) 1304 a0) = some a22 ∧ (isA (sI H15 1321 a0 0 (0 : Int32)) a22 3 ∧ (vp_in x2 (ln (sI H15 1321 a0 0 (0 : Int32)) a22) ∧ (vp_in x1 (ln (sI H15 1321 a0 0 (0 : Int32)) a19) ∧ (vp_in x1 (ln (sI H15 1321 a0 0 (0 : Int32)) a22) ∧ (CV d 0 0 mX12_by [rv (some a0), .long (hL (sI H15 1321 a0 0 (0 : Int32)) (tg (sI H15 1321 a0 0 (0 : Int32)) a19) a19 x2.toNatClampNeg), .long (hL (sI H15 1321 a0 0 (0 : Int32)) (tg (sI H15 1321 a0 0 (0 : Int32)) a22) a22 x2.toNatClampNeg), .long (hL (sI H15 1321 a0 0 (0 : Int32)) (tg (sI H15 1321 a0 0 (0 : Int32)) a19) a19 x1.toNatClampNeg), .long (hL (sI H15 1321 a0 0 (0 : Int32)) (tg (sI H15 1321 a0 0 (0 : Int32)) a22) a22 x1.toNatClampNeg)] (sI H15 1321 a0 0 (0 : Int32)) (fun H27 => tg H27 a0 = 13 ∧ (CJ d 0 0 mX12_latest [rv (some a0), .int x3] H27 (fun H28 r30 => q H28 r30))))))))))))) ∧ (b17 = true → q H15 (-9223372036854775808 : Int64))))))))))))))))))
set_option maxRecDepth 40000 in
set_option maxHeartbeats 4000000 in
theorem T_X12_ratio_0 {d : Nat} {q : HP → Int64 → Prop} {a0 : Nat} {x1 : Int32} {x2 : Int32} {x3 : Int32} {H : HP} (h : wb_X12_ratio_0 d q a0 x1 x2 x3 H) : WP (d + 1) mX12_ratio 0 0 0 [(0, rv (some a0)), (1, .int x1), (2, .int x2), (3, .int x3)] [] H (qJ q) := by
  unfold wb_X12_ratio_0 at h
  refine wp_aload_n 0 dX12_ratio_0 rfl ?_
  refine wp_iload_n 1 dX12_ratio_1 rfl ?_
  obtain ⟨ht2, h⟩ := h
  refine wp_callV (ci := 12) (As := [.int x1]) (rest := []) (mc := 0) (ms := 0) dX12_ratio_2 lk_X12_283 rfl rfl (by decide) rfl rfl rfl ht2 rfl rfl rfl w_7_77 (Call.weaken h ?_)
  rintro H1 _ ⟨b3, rfl, h⟩
  change WP _ _ _ _ _ _ [.int (bI b3)] H1 _
  refine wp_if_eq (tgt := 48) dX12_ratio_5 rfl (fun c => ?_) (fun c => ?_)
  · replace h := h.1 (bI_0.mp c)
    refine wp_ldc2 dX12_ratio_48 w_7_55 ?_
    exact wp_lreturn dX12_ratio_51 rfl ⟨_, rfl, h⟩
  · replace h := h.2 (bI_1.mp c)
    refine wp_aload_n 0 dX12_ratio_8 rfl ?_
    refine wp_iload_n 2 dX12_ratio_9 rfl ?_
    obtain ⟨ht5, h⟩ := h
    refine wp_callV (ci := 12) (As := [.int x2]) (rest := []) (mc := 0) (ms := 0) dX12_ratio_10 lk_X12_283 rfl rfl (by decide) rfl rfl rfl ht5 rfl rfl rfl w_7_77 (Call.weaken h ?_)
    rintro H4 _ ⟨b6, rfl, h⟩
    change WP _ _ _ _ _ _ [.int (bI b6)] H4 _
    refine wp_if_eq (tgt := 48) dX12_ratio_13 rfl (fun c => ?_) (fun c => ?_)
    · replace h := h.1 (bI_0.mp c)
      refine wp_ldc2 dX12_ratio_48 w_7_55 ?_
      exact wp_lreturn dX12_ratio_51 rfl ⟨_, rfl, h⟩
    · replace h := h.2 (bI_1.mp c)
      refine wp_iload_n 3 dX12_ratio_16 rfl ?_
      refine wp_callS (As := [.int x3]) (rest := []) (mc := 0) (ms := 0) dX12_ratio_17 lk_X12_288 rfl rfl (by decide) rfl rfl rfl (Call.weaken h ?_)
      rintro H7 _ ⟨b8, rfl, h⟩
      change WP _ _ _ _ _ _ [.int (bI b8)] H7 _
      refine wp_if_eq (tgt := 48) dX12_ratio_20 rfl (fun c => ?_) (fun c => ?_)
      · replace h := h.1 (bI_0.mp c)
        refine wp_ldc2 dX12_ratio_48 w_7_55 ?_
        exact wp_lreturn dX12_ratio_51 rfl ⟨_, rfl, h⟩
      · replace h := h.2 (bI_1.mp c)
        refine wp_aload_n 0 dX12_ratio_23 rfl ?_
        refine wp_iload_n 1 dX12_ratio_24 rfl ?_
        refine wp_iload_n 2 dX12_ratio_25 rfl ?_
        obtain ⟨ht10, h⟩ := h
        refine wp_callV (ci := 12) (As := [.int x1, .int x2]) (rest := []) (mc := 0) (ms := 0) dX12_ratio_26 lk_X12_295 rfl rfl (by decide) rfl rfl rfl ht10 rfl rfl rfl w_7_100 (Call.weaken h ?_)
        rintro H9 _ ⟨b11, rfl, h⟩
        change WP _ _ _ _ _ _ [.int (bI b11)] H9 _
        refine wp_if_eq (tgt := 48) dX12_ratio_29 rfl (fun c => ?_) (fun c => ?_)
        · replace h := h.1 (bI_0.mp c)
          refine wp_ldc2 dX12_ratio_48 w_7_55 ?_
          exact wp_lreturn dX12_ratio_51 rfl ⟨_, rfl, h⟩
        · replace h := h.2 (bI_1.mp c)
          refine wp_aload_n 0 dX12_ratio_32 rfl ?_
          refine wp_iload_n 1 dX12_ratio_33 rfl ?_
          obtain ⟨ht13, h⟩ := h
          refine wp_callV (ci := 12) (As := [.int x1]) (rest := []) (mc := 0) (ms := 0) dX12_ratio_34 lk_X12_247 rfl rfl (by decide) rfl rfl rfl ht13 rfl rfl rfl w_7_16 (Call.weaken h ?_)
          rintro H12 _ ⟨b14, rfl, h⟩
          change WP _ _ _ _ _ _ [.int (bI b14)] H12 _
          refine wp_if_ne (tgt := 48) dX12_ratio_37 rfl (fun c => ?_) (fun c => ?_)
          · replace h := h.1 (bI_1.mp c)
            refine wp_ldc2 dX12_ratio_48 w_7_55 ?_
            exact wp_lreturn dX12_ratio_51 rfl ⟨_, rfl, h⟩
          · replace h := h.2 (bI_0.mp c)
            refine wp_aload_n 0 dX12_ratio_40 rfl ?_
            refine wp_iload_n 2 dX12_ratio_41 rfl ?_
            obtain ⟨ht16, h⟩ := h
            refine wp_callV (ci := 12) (As := [.int x2]) (rest := []) (mc := 0) (ms := 0) dX12_ratio_42 lk_X12_247 rfl rfl (by decide) rfl rfl rfl ht16 rfl rfl rfl w_7_16 (Call.weaken h ?_)
            rintro H15 _ ⟨b17, rfl, h⟩
            change WP _ _ _ _ _ _ [.int (bI b17)] H15 _
            refine wp_if_eq (tgt := 52) dX12_ratio_45 rfl (fun c => ?_) (fun c => ?_)
            · replace h := h.1 (bI_0.mp c)
              refine wp_aload_n 0 dX12_ratio_52 rfl ?_
              refine wp_iconst (v := (0 : Int32)) dX12_ratio_53 (by decide) ?_
              obtain ⟨ht18, h⟩ := h
              refine wp_putI (ci := 12) (j := 21) dX12_ratio_54 fi_X12_133 rfl (fun z => by cases z) rfl ht18 rfl rfl ?_
              change WP _ _ _ _ _ _ _ (sI H15 1321 a0 0 (0 : Int32)) _
              refine wp_aload_n 0 dX12_ratio_57 rfl ?_
              refine wp_aload_n 0 dX12_ratio_58 rfl ?_
              refine wp_getC (ci := 12) (j := 3) dX12_ratio_59 fi_X12_22r rfl rfl ht18 ?_
              change WP _ _ _ _ _ _ (rv (hC (sI H15 1321 a0 0 (0 : Int32)) 1303 a0) :: _) _ _
              refine wp_iload_n 2 dX12_ratio_62 rfl ?_
              obtain ⟨a19, ha19, h⟩ := h
              obtain ⟨hr20, h⟩ := h
              obtain ⟨hg21, h⟩ := h
              refine wp_laload dX12_ratio_63 ha19 hr20 hg21 ?_
              refine wp_aload_n 0 dX12_ratio_64 rfl ?_
              refine wp_getC (ci := 12) (j := 4) dX12_ratio_65 fi_X12_26r rfl rfl ht18 ?_
              change WP _ _ _ _ _ _ (rv (hC (sI H15 1321 a0 0 (0 : Int32)) 1304 a0) :: _) _ _
              refine wp_iload_n 2 dX12_ratio_68 rfl ?_
              obtain ⟨a22, ha22, h⟩ := h
              obtain ⟨hr23, h⟩ := h
              obtain ⟨hg24, h⟩ := h
              refine wp_laload dX12_ratio_69 ha22 hr23 hg24 ?_
              refine wp_aload_n 0 dX12_ratio_70 rfl ?_
              refine wp_getC (ci := 12) (j := 3) dX12_ratio_71 fi_X12_22r rfl rfl ht18 ?_
              change WP _ _ _ _ _ _ (rv (hC (sI H15 1321 a0 0 (0 : Int32)) 1303 a0) :: _) _ _
              refine wp_iload_n 1 dX12_ratio_74 rfl ?_
              obtain ⟨hg25, h⟩ := h
              refine wp_laload dX12_ratio_75 ha19 hr20 hg25 ?_
              refine wp_aload_n 0 dX12_ratio_76 rfl ?_
              refine wp_getC (ci := 12) (j := 4) dX12_ratio_77 fi_X12_26r rfl rfl ht18 ?_
              change WP _ _ _ _ _ _ (rv (hC (sI H15 1321 a0 0 (0 : Int32)) 1304 a0) :: _) _ _
              refine wp_iload_n 1 dX12_ratio_80 rfl ?_
              obtain ⟨hg26, h⟩ := h
              refine wp_laload dX12_ratio_81 ha22 hr23 hg26 ?_
              refine wp_callV (ci := 12) (As := [.long (hL (sI H15 1321 a0 0 (0 : Int32)) (tg (sI H15 1321 a0 0 (0 : Int32)) a19) a19 x2.toNatClampNeg), .long (hL (sI H15 1321 a0 0 (0 : Int32)) (tg (sI H15 1321 a0 0 (0 : Int32)) a22) a22 x2.toNatClampNeg), .long (hL (sI H15 1321 a0 0 (0 : Int32)) (tg (sI H15 1321 a0 0 (0 : Int32)) a19) a19 x1.toNatClampNeg), .long (hL (sI H15 1321 a0 0 (0 : Int32)) (tg (sI H15 1321 a0 0 (0 : Int32)) a22) a22 x1.toNatClampNeg)]) (rest := []) (mc := 0) (ms := 0) dX12_ratio_82 lk_X12_253 rfl rfl (by decide) rfl rfl rfl ht18 rfl rfl rfl w_7_56 (Call.weaken h ?_)
              rintro H27 _ ⟨rfl, h⟩
              change WP _ _ _ _ _ _ [] H27 _
              refine wp_aload_n 0 dX12_ratio_85 rfl ?_
              refine wp_iload_n 3 dX12_ratio_86 rfl ?_
              obtain ⟨ht29, h⟩ := h
              refine wp_callV (ci := 12) (As := [.int x3]) (rest := []) (mc := 0) (ms := 0) dX12_ratio_87 lk_X12_299 rfl rfl (by decide) rfl rfl rfl ht29 rfl rfl rfl w_7_104 (Call.weaken h ?_)
              rintro H28 _ ⟨r30, rfl, h⟩
              change WP _ _ _ _ _ _ [.long r30] H28 _
              exact wp_lreturn dX12_ratio_90 rfl ⟨_, rfl, h⟩
            · replace h := h.2 (bI_1.mp c)
              refine wp_ldc2 dX12_ratio_48 w_7_55 ?_
              exact wp_lreturn dX12_ratio_51 rfl ⟨_, rfl, h⟩
theorem C_X12_ratio {d : Nat} {q : HP → Int64 → Prop} {a0 : Nat} {x1 : Int32} {x2 : Int32} {x3 : Int32} {H : HP} (h : wb_X12_ratio_0 d q a0 x1 x2 x3 H) : CJ (d + 1) 0 0 mX12_ratio [rv (some a0), .int x1, .int x2, .int x3] H q := by
  refine call_of (by decide +kernel) (by simp [lg_sl, rv_cat, vc_int, vc_long, vc_float, vc_double]) ?_
  have e : lv_args 0 [rv (some a0), .int x1, .int x2, .int x3] = [(0, rv (some a0)), (1, .int x1), (2, .int x2), (3, .int x3)] := by simp [lv_args, rv_cat, vc_int, vc_long, vc_float, vc_double]
  rw [e]
  exact T_X12_ratio_0 h
def wb_X12_result_0 (d : Nat) (q : HP → Int32 → Prop) (a0 : Nat) (x1 : Int32) (H : HP) : Prop :=
  tg H a0 = 13 ∧ (((hI H 1339 a0 0) = 0 → q H (-1 : Int32)) ∧ (¬ ((hI H 1339 a0 0) = 0) → (¬ (hI H 1342 a0 0) = 0 → q H (-1 : Int32)) ∧ ((hI H 1342 a0 0) = 0 → ((hI H 1340 a0 0) = 0 → CZ d 0 0 mX12_isIn [.long (x1.toInt64), .long (0 : Int64), .long (0 : Int64)] H (fun H2 b3 => (b3 = true → tg H2 a0 = 13 ∧ ((¬ (hI H2 1340 a0 0) = 0 → (¬ x1 = 0 → q H2 (hI H2 1344 a0 0)) ∧ (x1 = 0 → q H2 (hI H2 1343 a0 0))) ∧ ((hI H2 1340 a0 0) = 0 → q H2 ((hI H2 1341 a0 0) - (1 : Int32))))) ∧ (b3 = false → q H2 (-1 : Int32)))) ∧ (¬ ((hI H 1340 a0 0) = 0) → CZ d 0 0 mX12_isIn [.long (x1.toInt64), .long (0 : Int64), .long (1 : Int64)] H (fun H5 b6 => (b6 = true → tg H5 a0 = 13 ∧ ((¬ (hI H5 1340 a0 0) = 0 → (¬ x1 = 0 → q H5 (hI H5 1344 a0 0)) ∧ (x1 = 0 → q H5 (hI H5 1343 a0 0))) ∧ ((hI H5 1340 a0 0) = 0 → q H5 ((hI H5 1341 a0 0) - (1 : Int32))))) ∧ (b6 = false → q H5 (-1 : Int32)))))))
set_option maxRecDepth 40000 in
set_option maxHeartbeats 4000000 in
theorem T_X12_result_0 {d : Nat} {q : HP → Int32 → Prop} {a0 : Nat} {x1 : Int32} {H : HP} (h : wb_X12_result_0 d q a0 x1 H) : WP (d + 1) mX12_result 0 0 0 [(0, rv (some a0)), (1, .int x1)] [] H (qI q) := by
  unfold wb_X12_result_0 at h
  refine wp_aload_n 0 dX12_result_0 rfl ?_
  obtain ⟨ht1, h⟩ := h
  refine wp_getI (ci := 12) (j := 39) dX12_result_1 fi_X12_405r rfl rfl ht1 ?_
  change WP _ _ _ _ _ _ (.int (hI H 1339 a0 0) :: _) _ _
  refine wp_if_eq (tgt := 35) dX12_result_4 rfl (fun c => ?_) (fun c => ?_)
  · replace h := h.1 c
    refine wp_iconst (v := (-1 : Int32)) dX12_result_35 (by decide) ?_
    exact wp_ireturn (ty := .int) dX12_result_36 rfl rfl ⟨_, rfl, h⟩
  · replace h := h.2 c
    refine wp_aload_n 0 dX12_result_7 rfl ?_
    refine wp_getI (ci := 12) (j := 42) dX12_result_8 fi_X12_317r rfl rfl ht1 ?_
    change WP _ _ _ _ _ _ (.int (hI H 1342 a0 0) :: _) _ _
    refine wp_if_ne (tgt := 35) dX12_result_11 rfl (fun c => ?_) (fun c => ?_)
    · replace h := h.1 c
      refine wp_iconst (v := (-1 : Int32)) dX12_result_35 (by decide) ?_
      exact wp_ireturn (ty := .int) dX12_result_36 rfl rfl ⟨_, rfl, h⟩
    · replace h := h.2 c
      refine wp_iload_n 1 dX12_result_14 rfl ?_
      refine wp_i2l dX12_result_15 ?_
      refine wp_lconst (v := (0 : Int64)) dX12_result_16 (by decide) ?_
      refine wp_aload_n 0 dX12_result_17 rfl ?_
      refine wp_getI (ci := 12) (j := 40) dX12_result_18 fi_X12_393r rfl rfl ht1 ?_
      change WP _ _ _ _ _ _ (.int (hI H 1340 a0 0) :: _) _ _
      refine wp_if_eq (tgt := 28) dX12_result_21 rfl (fun c => ?_) (fun c => ?_)
      · replace h := h.1 c
        refine wp_lconst (v := (0 : Int64)) dX12_result_28 (by decide) ?_
        refine wp_callS (As := [.long (x1.toInt64), .long (0 : Int64), .long (0 : Int64)]) (rest := []) (mc := 0) (ms := 0) dX12_result_29 lk_X12_161 rfl rfl (by decide) rfl rfl rfl (Call.weaken h ?_)
        rintro H2 _ ⟨b3, rfl, h⟩
        change WP _ _ _ _ _ _ [.int (bI b3)] H2 _
        refine wp_if_ne (tgt := 37) dX12_result_32 rfl (fun c => ?_) (fun c => ?_)
        · replace h := h.1 (bI_1.mp c)
          refine wp_aload_n 0 dX12_result_37 rfl ?_
          obtain ⟨ht4, h⟩ := h
          refine wp_getI (ci := 12) (j := 40) dX12_result_38 fi_X12_393r rfl rfl ht4 ?_
          change WP _ _ _ _ _ _ (.int (hI H2 1340 a0 0) :: _) _ _
          refine wp_if_ne (tgt := 53) dX12_result_41 rfl (fun c => ?_) (fun c => ?_)
          · replace h := h.1 c
            refine wp_iload_n 1 dX12_result_53 rfl ?_
            refine wp_if_ne (tgt := 64) dX12_result_54 rfl (fun c => ?_) (fun c => ?_)
            · replace h := h.1 c
              refine wp_aload_n 0 dX12_result_64 rfl ?_
              refine wp_getI (ci := 12) (j := 44) dX12_result_65 fi_X12_399r rfl rfl ht4 ?_
              change WP _ _ _ _ _ _ (.int (hI H2 1344 a0 0) :: _) _ _
              exact wp_ireturn (ty := .int) dX12_result_68 rfl rfl ⟨_, rfl, h⟩
            · replace h := h.2 c
              refine wp_aload_n 0 dX12_result_57 rfl ?_
              refine wp_getI (ci := 12) (j := 43) dX12_result_58 fi_X12_396r rfl rfl ht4 ?_
              change WP _ _ _ _ _ _ (.int (hI H2 1343 a0 0) :: _) _ _
              refine wp_goto (tgt := 68) dX12_result_61 rfl ?_
              exact wp_ireturn (ty := .int) dX12_result_68 rfl rfl ⟨_, rfl, h⟩
          · replace h := h.2 c
            refine wp_aload_n 0 dX12_result_44 rfl ?_
            refine wp_getI (ci := 12) (j := 41) dX12_result_45 fi_X12_320r rfl rfl ht4 ?_
            change WP _ _ _ _ _ _ (.int (hI H2 1341 a0 0) :: _) _ _
            refine wp_iconst (v := (1 : Int32)) dX12_result_48 (by decide) ?_
            refine wp_isub dX12_result_49 ?_
            refine wp_goto (tgt := 68) dX12_result_50 rfl ?_
            exact wp_ireturn (ty := .int) dX12_result_68 rfl rfl ⟨_, rfl, h⟩
        · replace h := h.2 (bI_0.mp c)
          refine wp_iconst (v := (-1 : Int32)) dX12_result_35 (by decide) ?_
          exact wp_ireturn (ty := .int) dX12_result_36 rfl rfl ⟨_, rfl, h⟩
      · replace h := h.2 c
        refine wp_lconst (v := (1 : Int64)) dX12_result_24 (by decide) ?_
        refine wp_goto (tgt := 29) dX12_result_25 rfl ?_
        refine wp_callS (As := [.long (x1.toInt64), .long (0 : Int64), .long (1 : Int64)]) (rest := []) (mc := 0) (ms := 0) dX12_result_29 lk_X12_161 rfl rfl (by decide) rfl rfl rfl (Call.weaken h ?_)
        rintro H5 _ ⟨b6, rfl, h⟩
        change WP _ _ _ _ _ _ [.int (bI b6)] H5 _
        refine wp_if_ne (tgt := 37) dX12_result_32 rfl (fun c => ?_) (fun c => ?_)
        · replace h := h.1 (bI_1.mp c)
          refine wp_aload_n 0 dX12_result_37 rfl ?_
          obtain ⟨ht7, h⟩ := h
          refine wp_getI (ci := 12) (j := 40) dX12_result_38 fi_X12_393r rfl rfl ht7 ?_
          change WP _ _ _ _ _ _ (.int (hI H5 1340 a0 0) :: _) _ _
          refine wp_if_ne (tgt := 53) dX12_result_41 rfl (fun c => ?_) (fun c => ?_)
          · replace h := h.1 c
            refine wp_iload_n 1 dX12_result_53 rfl ?_
            refine wp_if_ne (tgt := 64) dX12_result_54 rfl (fun c => ?_) (fun c => ?_)
            · replace h := h.1 c
              refine wp_aload_n 0 dX12_result_64 rfl ?_
              refine wp_getI (ci := 12) (j := 44) dX12_result_65 fi_X12_399r rfl rfl ht7 ?_
              change WP _ _ _ _ _ _ (.int (hI H5 1344 a0 0) :: _) _ _
              exact wp_ireturn (ty := .int) dX12_result_68 rfl rfl ⟨_, rfl, h⟩
            · replace h := h.2 c
              refine wp_aload_n 0 dX12_result_57 rfl ?_
              refine wp_getI (ci := 12) (j := 43) dX12_result_58 fi_X12_396r rfl rfl ht7 ?_
              change WP _ _ _ _ _ _ (.int (hI H5 1343 a0 0) :: _) _ _
              refine wp_goto (tgt := 68) dX12_result_61 rfl ?_
              exact wp_ireturn (ty := .int) dX12_result_68 rfl rfl ⟨_, rfl, h⟩
          · replace h := h.2 c
            refine wp_aload_n 0 dX12_result_44 rfl ?_
            refine wp_getI (ci := 12) (j := 41) dX12_result_45 fi_X12_320r rfl rfl ht7 ?_
            change WP _ _ _ _ _ _ (.int (hI H5 1341 a0 0) :: _) _ _
            refine wp_iconst (v := (1 : Int32)) dX12_result_48 (by decide) ?_
            refine wp_isub dX12_result_49 ?_
            refine wp_goto (tgt := 68) dX12_result_50 rfl ?_
            exact wp_ireturn (ty := .int) dX12_result_68 rfl rfl ⟨_, rfl, h⟩
        · replace h := h.2 (bI_0.mp c)
          refine wp_iconst (v := (-1 : Int32)) dX12_result_35 (by decide) ?_
          exact wp_ireturn (ty := .int) dX12_result_36 rfl rfl ⟨_, rfl, h⟩
theorem C_X12_result {d : Nat} {q : HP → Int32 → Prop} {a0 : Nat} {x1 : Int32} {H : HP} (h : wb_X12_result_0 d q a0 x1 H) : CI (d + 1) 0 0 mX12_result [rv (some a0), .int x1] H q := by
  refine call_of (by decide +kernel) (by simp [lg_sl, rv_cat, vc_int, vc_long, vc_float, vc_double]) ?_
  have e : lv_args 0 [rv (some a0), .int x1] = [(0, rv (some a0)), (1, .int x1)] := by simp [lv_args, rv_cat, vc_int, vc_long, vc_float, vc_double]
  rw [e]
  exact T_X12_result_0 h
def wb_X12_rings_0 (d : Nat) (q : HP → Int32 → Prop) (a0 : Nat) (x1 : Int32) (H : HP) : Prop :=
  CZ d 0 0 mX12_isIn [.long (x1.toInt64), .long (0 : Int64), .long (3 : Int64)] H (fun H1 b2 => (b2 = true → (¬ x1 = (2 : Int32) → tg H1 a0 = 13 ∧ (CV d 0 0 mX12_tells [rv (some a0)] H1 (fun H3 => (¬ x1 = (3 : Int32) → tg H3 a0 = 13 ∧ (CI d 0 0 mX12_tolds [rv (some a0), .int (-15 : Int32)] H3 (fun H5 r7 => (r7 ≤ 0 → (¬ x1 = 0 → tg H5 a0 = 13 ∧ (CI d 0 0 mX12_tolds [rv (some a0), .int (1 : Int32)] H5 (fun H8 r10 => q H8 r10))) ∧ (x1 = 0 → tg H5 a0 = 13 ∧ (CI d 0 0 mX12_tolds [rv (some a0), .int (2 : Int32)] H5 (fun H11 r13 => q H11 r13)))) ∧ (¬ (r7 ≤ 0) → q H5 (-15 : Int32))))) ∧ (x1 = (3 : Int32) → tg H3 a0 = 13 ∧ (CI d 0 0 mX12_tolds [rv (some a0), .int (0 : Int32)] H3 (fun H15 r16 => q H15 ((hI H3 1300 a0 0) - r16))))))) ∧ (x1 = (2 : Int32) → tg H1 a0 = 13 ∧ (CI d 0 0 mX12_trues [rv (some a0)] H1 (fun H17 r19 => q H17 r19)))) ∧ (b2 = false → q H1 (-1 : Int32)))
set_option maxRecDepth 40000 in
set_option maxHeartbeats 4000000 in
theorem T_X12_rings_0 {d : Nat} {q : HP → Int32 → Prop} {a0 : Nat} {x1 : Int32} {H : HP} (h : wb_X12_rings_0 d q a0 x1 H) : WP (d + 1) mX12_rings 0 0 0 [(0, rv (some a0)), (1, .int x1)] [] H (qI q) := by
  unfold wb_X12_rings_0 at h
  refine wp_iload_n 1 dX12_rings_0 rfl ?_
  refine wp_i2l dX12_rings_1 ?_
  refine wp_lconst (v := (0 : Int64)) dX12_rings_2 (by decide) ?_
  refine wp_ldc2 dX12_rings_3 w_8_67 ?_
  refine wp_callS (As := [.long (x1.toInt64), .long (0 : Int64), .long (3 : Int64)]) (rest := []) (mc := 0) (ms := 0) dX12_rings_6 lk_X12_161 rfl rfl (by decide) rfl rfl rfl (Call.weaken h ?_)
  rintro H1 _ ⟨b2, rfl, h⟩
  change WP _ _ _ _ _ _ [.int (bI b2)] H1 _
  refine wp_if_ne (tgt := 14) dX12_rings_9 rfl (fun c => ?_) (fun c => ?_)
  · replace h := h.1 (bI_1.mp c)
    refine wp_iload_n 1 dX12_rings_14 rfl ?_
    refine wp_iconst (v := (2 : Int32)) dX12_rings_15 (by decide) ?_
    refine wp_icmp_ne (tgt := 24) dX12_rings_16 rfl (fun c => ?_) (fun c => ?_)
    · replace h := h.1 c
      refine wp_aload_n 0 dX12_rings_24 rfl ?_
      obtain ⟨ht4, h⟩ := h
      refine wp_callV (ci := 12) (As := []) (rest := []) (mc := 0) (ms := 0) dX12_rings_25 lk_X12_452 rfl rfl (by decide) rfl rfl rfl ht4 rfl rfl rfl w_8_51 (Call.weaken h ?_)
      rintro H3 _ ⟨rfl, h⟩
      change WP _ _ _ _ _ _ [] H3 _
      refine wp_iload_n 1 dX12_rings_28 rfl ?_
      refine wp_iconst (v := (3 : Int32)) dX12_rings_29 (by decide) ?_
      refine wp_icmp_ne (tgt := 44) dX12_rings_30 rfl (fun c => ?_) (fun c => ?_)
      · replace h := h.1 c
        refine wp_aload_n 0 dX12_rings_44 rfl ?_
        refine wp_bipush (v := (-15 : Int32)) dX12_rings_45 (by decide) ?_
        obtain ⟨ht6, h⟩ := h
        refine wp_callV (ci := 12) (As := [.int (-15 : Int32)]) (rest := []) (mc := 0) (ms := 0) dX12_rings_47 lk_X12_460 rfl rfl (by decide) rfl rfl rfl ht6 rfl rfl rfl w_8_72 (Call.weaken h ?_)
        rintro H5 _ ⟨r7, rfl, h⟩
        change WP _ _ _ _ _ _ [.int r7] H5 _
        refine wp_if_le (tgt := 58) dX12_rings_50 rfl (fun c => ?_) (fun c => ?_)
        · replace h := h.1 c
          refine wp_aload_n 0 dX12_rings_58 rfl ?_
          refine wp_iload_n 1 dX12_rings_59 rfl ?_
          refine wp_if_ne (tgt := 67) dX12_rings_60 rfl (fun c => ?_) (fun c => ?_)
          · replace h := h.1 c
            refine wp_iconst (v := (1 : Int32)) dX12_rings_67 (by decide) ?_
            obtain ⟨ht9, h⟩ := h
            refine wp_callV (ci := 12) (As := [.int (1 : Int32)]) (rest := []) (mc := 0) (ms := 0) dX12_rings_68 lk_X12_460 rfl rfl (by decide) rfl rfl rfl ht9 rfl rfl rfl w_8_72 (Call.weaken h ?_)
            rintro H8 _ ⟨r10, rfl, h⟩
            change WP _ _ _ _ _ _ [.int r10] H8 _
            exact wp_ireturn (ty := .int) dX12_rings_71 rfl rfl ⟨_, rfl, h⟩
          · replace h := h.2 c
            refine wp_iconst (v := (2 : Int32)) dX12_rings_63 (by decide) ?_
            refine wp_goto (tgt := 68) dX12_rings_64 rfl ?_
            obtain ⟨ht12, h⟩ := h
            refine wp_callV (ci := 12) (As := [.int (2 : Int32)]) (rest := []) (mc := 0) (ms := 0) dX12_rings_68 lk_X12_460 rfl rfl (by decide) rfl rfl rfl ht12 rfl rfl rfl w_8_72 (Call.weaken h ?_)
            rintro H11 _ ⟨r13, rfl, h⟩
            change WP _ _ _ _ _ _ [.int r13] H11 _
            exact wp_ireturn (ty := .int) dX12_rings_71 rfl rfl ⟨_, rfl, h⟩
        · replace h := h.2 c
          refine wp_bipush (v := (-15 : Int32)) dX12_rings_53 (by decide) ?_
          refine wp_goto (tgt := 71) dX12_rings_55 rfl ?_
          exact wp_ireturn (ty := .int) dX12_rings_71 rfl rfl ⟨_, rfl, h⟩
      · replace h := h.2 c
        refine wp_aload_n 0 dX12_rings_33 rfl ?_
        obtain ⟨ht14, h⟩ := h
        refine wp_getI (ci := 12) (j := 0) dX12_rings_34 fi_X12_11r rfl rfl ht14 ?_
        change WP _ _ _ _ _ _ (.int (hI H3 1300 a0 0) :: _) _ _
        refine wp_aload_n 0 dX12_rings_37 rfl ?_
        refine wp_iconst (v := (0 : Int32)) dX12_rings_38 (by decide) ?_
        refine wp_callV (ci := 12) (As := [.int (0 : Int32)]) (rest := [.int (hI H3 1300 a0 0)]) (mc := 0) (ms := 0) dX12_rings_39 lk_X12_460 rfl rfl (by simp [rv_cat, vc_int, vc_long, vc_float, vc_double]) rfl rfl rfl ht14 rfl rfl rfl w_8_72 (Call.weaken h ?_)
        rintro H15 _ ⟨r16, rfl, h⟩
        change WP _ _ _ _ _ _ [.int r16, .int (hI H3 1300 a0 0)] H15 _
        refine wp_isub dX12_rings_42 ?_
        exact wp_ireturn (ty := .int) dX12_rings_43 rfl rfl ⟨_, rfl, h⟩
    · replace h := h.2 c
      refine wp_aload_n 0 dX12_rings_19 rfl ?_
      obtain ⟨ht18, h⟩ := h
      refine wp_callV (ci := 12) (As := []) (rest := []) (mc := 0) (ms := 0) dX12_rings_20 lk_X12_457 rfl rfl (by decide) rfl rfl rfl ht18 rfl rfl rfl w_8_68 (Call.weaken h ?_)
      rintro H17 _ ⟨r19, rfl, h⟩
      change WP _ _ _ _ _ _ [.int r19] H17 _
      exact wp_ireturn (ty := .int) dX12_rings_23 rfl rfl ⟨_, rfl, h⟩
  · replace h := h.2 (bI_0.mp c)
    refine wp_iconst (v := (-1 : Int32)) dX12_rings_12 (by decide) ?_
    exact wp_ireturn (ty := .int) dX12_rings_13 rfl rfl ⟨_, rfl, h⟩
theorem C_X12_rings {d : Nat} {q : HP → Int32 → Prop} {a0 : Nat} {x1 : Int32} {H : HP} (h : wb_X12_rings_0 d q a0 x1 H) : CI (d + 1) 0 0 mX12_rings [rv (some a0), .int x1] H q := by
  refine call_of (by decide +kernel) (by simp [lg_sl, rv_cat, vc_int, vc_long, vc_float, vc_double]) ?_
  have e : lv_args 0 [rv (some a0), .int x1] = [(0, rv (some a0)), (1, .int x1)] := by simp [lv_args, rv_cat, vc_int, vc_long, vc_float, vc_double]
  rw [e]
  exact T_X12_rings_0 h
def wb_X12_same_0 (d : Nat) (q : HP → Int32 → Prop) (a0 : Nat) (x1 : Int32) (x2 : Int32) (H : HP) : Prop :=
  tg H a0 = 13 ∧ ((¬ (hI H 1339 a0 0) = 0 → CZ d 0 0 mX12_isStep [rv (some a0), .int x1] H (fun H2 b3 => (b3 = false → q H2 (-1 : Int32)) ∧ (b3 = true → tg H2 a0 = 13 ∧ (CZ d 0 0 mX12_isStep [rv (some a0), .int x2] H2 (fun H4 b6 => (b6 = true → tg H4 a0 = 13 ∧ (CZ d 0 0 mX12_areLikeSteps [rv (some a0), .int x1, .int x2] H4 (fun H7 b9 => (b9 = true → tg H7 a0 = 13 ∧ (∃ a11, (hC H7 1347 a0) = some a11 ∧ (isA H7 a11 3 ∧ (vp_in x1 (ln H7 a11) ∧ (vp_in x2 (ln H7 a11) ∧ ((¬ (hL H7 (tg H7 a11) a11 x1.toNatClampNeg) = (hL H7 (tg H7 a11) a11 x2.toNatClampNeg) → q H7 (1 : Int32)) ∧ ((hL H7 (tg H7 a11) a11 x1.toNatClampNeg) = (hL H7 (tg H7 a11) a11 x2.toNatClampNeg) → ∃ a15, (hC H7 1348 a0) = some a15 ∧ (isA H7 a15 3 ∧ (vp_in x1 (ln H7 a15) ∧ (vp_in x2 (ln H7 a15) ∧ ((¬ (hL H7 (tg H7 a15) a15 x1.toNatClampNeg) = (hL H7 (tg H7 a15) a15 x2.toNatClampNeg) → q H7 (1 : Int32)) ∧ ((hL H7 (tg H7 a15) a15 x1.toNatClampNeg) = (hL H7 (tg H7 a15) a15 x2.toNatClampNeg) → q H7 (2 : Int32))))))))))))) ∧ (b9 = false → q H7 (0 : Int32))))) ∧ (b6 = false → q H4 (-1 : Int32))))))) ∧ ((hI H 1339 a0 0) = 0 → q H (-3 : Int32)))
set_option maxRecDepth 40000 in
set_option maxHeartbeats 4000000 in
theorem T_X12_same_0 {d : Nat} {q : HP → Int32 → Prop} {a0 : Nat} {x1 : Int32} {x2 : Int32} {H : HP} (h : wb_X12_same_0 d q a0 x1 x2 H) : WP (d + 1) mX12_same 0 0 0 [(0, rv (some a0)), (1, .int x1), (2, .int x2)] [] H (qI q) := by
  unfold wb_X12_same_0 at h
  refine wp_aload_n 0 dX12_same_0 rfl ?_
  obtain ⟨ht1, h⟩ := h
  refine wp_getI (ci := 12) (j := 39) dX12_same_1 fi_X12_405r rfl rfl ht1 ?_
  change WP _ _ _ _ _ _ (.int (hI H 1339 a0 0) :: _) _ _
  refine wp_if_ne (tgt := 10) dX12_same_4 rfl (fun c => ?_) (fun c => ?_)
  · replace h := h.1 c
    refine wp_aload_n 0 dX12_same_10 rfl ?_
    refine wp_iload_n 1 dX12_same_11 rfl ?_
    refine wp_callV (ci := 12) (As := [.int x1]) (rest := []) (mc := 0) (ms := 0) dX12_same_12 lk_X12_408 rfl rfl (by decide) rfl rfl rfl ht1 rfl rfl rfl w_7_213 (Call.weaken h ?_)
    rintro H2 _ ⟨b3, rfl, h⟩
    change WP _ _ _ _ _ _ [.int (bI b3)] H2 _
    refine wp_if_eq (tgt := 26) dX12_same_15 rfl (fun c => ?_) (fun c => ?_)
    · replace h := h.1 (bI_0.mp c)
      refine wp_iconst (v := (-1 : Int32)) dX12_same_26 (by decide) ?_
      exact wp_ireturn (ty := .int) dX12_same_27 rfl rfl ⟨_, rfl, h⟩
    · replace h := h.2 (bI_1.mp c)
      refine wp_aload_n 0 dX12_same_18 rfl ?_
      refine wp_iload_n 2 dX12_same_19 rfl ?_
      obtain ⟨ht5, h⟩ := h
      refine wp_callV (ci := 12) (As := [.int x2]) (rest := []) (mc := 0) (ms := 0) dX12_same_20 lk_X12_408 rfl rfl (by decide) rfl rfl rfl ht5 rfl rfl rfl w_7_213 (Call.weaken h ?_)
      rintro H4 _ ⟨b6, rfl, h⟩
      change WP _ _ _ _ _ _ [.int (bI b6)] H4 _
      refine wp_if_ne (tgt := 28) dX12_same_23 rfl (fun c => ?_) (fun c => ?_)
      · replace h := h.1 (bI_1.mp c)
        refine wp_aload_n 0 dX12_same_28 rfl ?_
        refine wp_iload_n 1 dX12_same_29 rfl ?_
        refine wp_iload_n 2 dX12_same_30 rfl ?_
        obtain ⟨ht8, h⟩ := h
        refine wp_callV (ci := 12) (As := [.int x1, .int x2]) (rest := []) (mc := 0) (ms := 0) dX12_same_31 lk_X12_377 rfl rfl (by decide) rfl rfl rfl ht8 rfl rfl rfl w_7_201 (Call.weaken h ?_)
        rintro H7 _ ⟨b9, rfl, h⟩
        change WP _ _ _ _ _ _ [.int (bI b9)] H7 _
        refine wp_if_ne (tgt := 39) dX12_same_34 rfl (fun c => ?_) (fun c => ?_)
        · replace h := h.1 (bI_1.mp c)
          refine wp_aload_n 0 dX12_same_39 rfl ?_
          obtain ⟨ht10, h⟩ := h
          refine wp_getC (ci := 12) (j := 47) dX12_same_40 fi_X12_83r rfl rfl ht10 ?_
          change WP _ _ _ _ _ _ (rv (hC H7 1347 a0) :: _) _ _
          refine wp_iload_n 1 dX12_same_43 rfl ?_
          obtain ⟨a11, ha11, h⟩ := h
          obtain ⟨hr12, h⟩ := h
          obtain ⟨hg13, h⟩ := h
          refine wp_laload dX12_same_44 ha11 hr12 hg13 ?_
          refine wp_aload_n 0 dX12_same_45 rfl ?_
          refine wp_getC (ci := 12) (j := 47) dX12_same_46 fi_X12_83r rfl rfl ht10 ?_
          change WP _ _ _ _ _ _ (rv (hC H7 1347 a0) :: _) _ _
          refine wp_iload_n 2 dX12_same_49 rfl ?_
          obtain ⟨hg14, h⟩ := h
          refine wp_laload dX12_same_50 ha11 hr12 hg14 ?_
          refine wp_lcmp dX12_same_51 ?_
          refine wp_if_ne (tgt := 75) dX12_same_52 rfl (fun c => ?_) (fun c => ?_)
          · replace h := h.1 (fun z => c (lgc_eq.mpr z))
            refine wp_iconst (v := (1 : Int32)) dX12_same_75 (by decide) ?_
            exact wp_ireturn (ty := .int) dX12_same_76 rfl rfl ⟨_, rfl, h⟩
          · replace h := h.2 (lgc_eq.mp c)
            refine wp_aload_n 0 dX12_same_55 rfl ?_
            refine wp_getC (ci := 12) (j := 48) dX12_same_56 fi_X12_86r rfl rfl ht10 ?_
            change WP _ _ _ _ _ _ (rv (hC H7 1348 a0) :: _) _ _
            refine wp_iload_n 1 dX12_same_59 rfl ?_
            obtain ⟨a15, ha15, h⟩ := h
            obtain ⟨hr16, h⟩ := h
            obtain ⟨hg17, h⟩ := h
            refine wp_laload dX12_same_60 ha15 hr16 hg17 ?_
            refine wp_aload_n 0 dX12_same_61 rfl ?_
            refine wp_getC (ci := 12) (j := 48) dX12_same_62 fi_X12_86r rfl rfl ht10 ?_
            change WP _ _ _ _ _ _ (rv (hC H7 1348 a0) :: _) _ _
            refine wp_iload_n 2 dX12_same_65 rfl ?_
            obtain ⟨hg18, h⟩ := h
            refine wp_laload dX12_same_66 ha15 hr16 hg18 ?_
            refine wp_lcmp dX12_same_67 ?_
            refine wp_if_ne (tgt := 75) dX12_same_68 rfl (fun c => ?_) (fun c => ?_)
            · replace h := h.1 (fun z => c (lgc_eq.mpr z))
              refine wp_iconst (v := (1 : Int32)) dX12_same_75 (by decide) ?_
              exact wp_ireturn (ty := .int) dX12_same_76 rfl rfl ⟨_, rfl, h⟩
            · replace h := h.2 (lgc_eq.mp c)
              refine wp_iconst (v := (2 : Int32)) dX12_same_71 (by decide) ?_
              refine wp_goto (tgt := 76) dX12_same_72 rfl ?_
              exact wp_ireturn (ty := .int) dX12_same_76 rfl rfl ⟨_, rfl, h⟩
        · replace h := h.2 (bI_0.mp c)
          refine wp_iconst (v := (0 : Int32)) dX12_same_37 (by decide) ?_
          exact wp_ireturn (ty := .int) dX12_same_38 rfl rfl ⟨_, rfl, h⟩
      · replace h := h.2 (bI_0.mp c)
        refine wp_iconst (v := (-1 : Int32)) dX12_same_26 (by decide) ?_
        exact wp_ireturn (ty := .int) dX12_same_27 rfl rfl ⟨_, rfl, h⟩
  · replace h := h.2 c
    refine wp_bipush (v := (-3 : Int32)) dX12_same_7 (by decide) ?_
    exact wp_ireturn (ty := .int) dX12_same_9 rfl rfl ⟨_, rfl, h⟩
theorem C_X12_same {d : Nat} {q : HP → Int32 → Prop} {a0 : Nat} {x1 : Int32} {x2 : Int32} {H : HP} (h : wb_X12_same_0 d q a0 x1 x2 H) : CI (d + 1) 0 0 mX12_same [rv (some a0), .int x1, .int x2] H q := by
  refine call_of (by decide +kernel) (by simp [lg_sl, rv_cat, vc_int, vc_long, vc_float, vc_double]) ?_
  have e : lv_args 0 [rv (some a0), .int x1, .int x2] = [(0, rv (some a0)), (1, .int x1), (2, .int x2)] := by simp [lv_args, rv_cat, vc_int, vc_long, vc_float, vc_double]
  rw [e]
  exact T_X12_same_0 h
def wb_X12_scale_0 (d : Nat) (q : HP → Int64 → Prop) (a0 : Nat) (x1 : Int32) (x2 : Int32) (x3 : Int32) (H : HP) : Prop :=
  tg H a0 = 13 ∧ (CZ d 0 0 mX12_isUnit [rv (some a0), .int x1] H (fun H1 b3 => (b3 = false → q H1 (-9223372036854775808 : Int64)) ∧ (b3 = true → CZ d 0 0 mX12_isIn [.long (x2.toInt64), .long (0 : Int64), .long (1 : Int64)] H1 (fun H4 b5 => (b5 = false → q H4 (-9223372036854775808 : Int64)) ∧ (b5 = true → CZ d 0 0 mX12_isPart [.int x3] H4 (fun H6 b7 => (b7 = true → (¬ x2 = 0 → tg H6 a0 = 13 ∧ (∃ a9, (hC H6 1305 a0) = some a9 ∧ (isA H6 a9 3 ∧ (vp_in x1 (ln H6 a9) ∧ (∃ a12, (hC H6 1306 a0) = some a12 ∧ (isA H6 a12 3 ∧ (vp_in x1 (ln H6 a12) ∧ (CJ d 0 0 mX12_partOf [.long (hL H6 (tg H6 a9) a9 x1.toNatClampNeg), .long (hL H6 (tg H6 a12) a12 x1.toNatClampNeg), .int x3] H6 (fun H15 r16 => q H15 r16))))))))) ∧ (x2 = 0 → tg H6 a0 = 13 ∧ (∃ a18, (hC H6 1303 a0) = some a18 ∧ (isA H6 a18 3 ∧ (vp_in x1 (ln H6 a18) ∧ (∃ a21, (hC H6 1304 a0) = some a21 ∧ (isA H6 a21 3 ∧ (vp_in x1 (ln H6 a21) ∧ (CJ d 0 0 mX12_partOf [.long (hL H6 (tg H6 a18) a18 x1.toNatClampNeg), .long (hL H6 (tg H6 a21) a21 x1.toNatClampNeg), .int x3] H6 (fun H24 r25 => q H24 r25)))))))))) ∧ (b7 = false → q H6 (-9223372036854775808 : Int64))))))))
set_option maxRecDepth 40000 in
set_option maxHeartbeats 4000000 in
theorem T_X12_scale_0 {d : Nat} {q : HP → Int64 → Prop} {a0 : Nat} {x1 : Int32} {x2 : Int32} {x3 : Int32} {H : HP} (h : wb_X12_scale_0 d q a0 x1 x2 x3 H) : WP (d + 1) mX12_scale 0 0 0 [(0, rv (some a0)), (1, .int x1), (2, .int x2), (3, .int x3)] [] H (qJ q) := by
  unfold wb_X12_scale_0 at h
  refine wp_aload_n 0 dX12_scale_0 rfl ?_
  refine wp_iload_n 1 dX12_scale_1 rfl ?_
  obtain ⟨ht2, h⟩ := h
  refine wp_callV (ci := 12) (As := [.int x1]) (rest := []) (mc := 0) (ms := 0) dX12_scale_2 lk_X12_283 rfl rfl (by decide) rfl rfl rfl ht2 rfl rfl rfl w_7_77 (Call.weaken h ?_)
  rintro H1 _ ⟨b3, rfl, h⟩
  change WP _ _ _ _ _ _ [.int (bI b3)] H1 _
  refine wp_if_eq (tgt := 25) dX12_scale_5 rfl (fun c => ?_) (fun c => ?_)
  · replace h := h.1 (bI_0.mp c)
    refine wp_ldc2 dX12_scale_25 w_7_55 ?_
    exact wp_lreturn dX12_scale_28 rfl ⟨_, rfl, h⟩
  · replace h := h.2 (bI_1.mp c)
    refine wp_iload_n 2 dX12_scale_8 rfl ?_
    refine wp_i2l dX12_scale_9 ?_
    refine wp_lconst (v := (0 : Int64)) dX12_scale_10 (by decide) ?_
    refine wp_lconst (v := (1 : Int64)) dX12_scale_11 (by decide) ?_
    refine wp_callS (As := [.long (x2.toInt64), .long (0 : Int64), .long (1 : Int64)]) (rest := []) (mc := 0) (ms := 0) dX12_scale_12 lk_X12_161 rfl rfl (by decide) rfl rfl rfl (Call.weaken h ?_)
    rintro H4 _ ⟨b5, rfl, h⟩
    change WP _ _ _ _ _ _ [.int (bI b5)] H4 _
    refine wp_if_eq (tgt := 25) dX12_scale_15 rfl (fun c => ?_) (fun c => ?_)
    · replace h := h.1 (bI_0.mp c)
      refine wp_ldc2 dX12_scale_25 w_7_55 ?_
      exact wp_lreturn dX12_scale_28 rfl ⟨_, rfl, h⟩
    · replace h := h.2 (bI_1.mp c)
      refine wp_iload_n 3 dX12_scale_18 rfl ?_
      refine wp_callS (As := [.int x3]) (rest := []) (mc := 0) (ms := 0) dX12_scale_19 lk_X12_288 rfl rfl (by decide) rfl rfl rfl (Call.weaken h ?_)
      rintro H6 _ ⟨b7, rfl, h⟩
      change WP _ _ _ _ _ _ [.int (bI b7)] H6 _
      refine wp_if_ne (tgt := 29) dX12_scale_22 rfl (fun c => ?_) (fun c => ?_)
      · replace h := h.1 (bI_1.mp c)
        refine wp_iload_n 2 dX12_scale_29 rfl ?_
        refine wp_if_ne (tgt := 52) dX12_scale_30 rfl (fun c => ?_) (fun c => ?_)
        · replace h := h.1 c
          refine wp_aload_n 0 dX12_scale_52 rfl ?_
          obtain ⟨ht8, h⟩ := h
          refine wp_getC (ci := 12) (j := 5) dX12_scale_53 fi_X12_29r rfl rfl ht8 ?_
          change WP _ _ _ _ _ _ (rv (hC H6 1305 a0) :: _) _ _
          refine wp_iload_n 1 dX12_scale_56 rfl ?_
          obtain ⟨a9, ha9, h⟩ := h
          obtain ⟨hr10, h⟩ := h
          obtain ⟨hg11, h⟩ := h
          refine wp_laload dX12_scale_57 ha9 hr10 hg11 ?_
          refine wp_aload_n 0 dX12_scale_58 rfl ?_
          refine wp_getC (ci := 12) (j := 6) dX12_scale_59 fi_X12_32r rfl rfl ht8 ?_
          change WP _ _ _ _ _ _ (rv (hC H6 1306 a0) :: _) _ _
          refine wp_iload_n 1 dX12_scale_62 rfl ?_
          obtain ⟨a12, ha12, h⟩ := h
          obtain ⟨hr13, h⟩ := h
          obtain ⟨hg14, h⟩ := h
          refine wp_laload dX12_scale_63 ha12 hr13 hg14 ?_
          refine wp_iload_n 3 dX12_scale_64 rfl ?_
          refine wp_callS (As := [.long (hL H6 (tg H6 a9) a9 x1.toNatClampNeg), .long (hL H6 (tg H6 a12) a12 x1.toNatClampNeg), .int x3]) (rest := []) (mc := 0) (ms := 0) dX12_scale_65 lk_X12_291 rfl rfl (by decide) rfl rfl rfl (Call.weaken h ?_)
          rintro H15 _ ⟨r16, rfl, h⟩
          change WP _ _ _ _ _ _ [.long r16] H15 _
          exact wp_lreturn dX12_scale_68 rfl ⟨_, rfl, h⟩
        · replace h := h.2 c
          refine wp_aload_n 0 dX12_scale_33 rfl ?_
          obtain ⟨ht17, h⟩ := h
          refine wp_getC (ci := 12) (j := 3) dX12_scale_34 fi_X12_22r rfl rfl ht17 ?_
          change WP _ _ _ _ _ _ (rv (hC H6 1303 a0) :: _) _ _
          refine wp_iload_n 1 dX12_scale_37 rfl ?_
          obtain ⟨a18, ha18, h⟩ := h
          obtain ⟨hr19, h⟩ := h
          obtain ⟨hg20, h⟩ := h
          refine wp_laload dX12_scale_38 ha18 hr19 hg20 ?_
          refine wp_aload_n 0 dX12_scale_39 rfl ?_
          refine wp_getC (ci := 12) (j := 4) dX12_scale_40 fi_X12_26r rfl rfl ht17 ?_
          change WP _ _ _ _ _ _ (rv (hC H6 1304 a0) :: _) _ _
          refine wp_iload_n 1 dX12_scale_43 rfl ?_
          obtain ⟨a21, ha21, h⟩ := h
          obtain ⟨hr22, h⟩ := h
          obtain ⟨hg23, h⟩ := h
          refine wp_laload dX12_scale_44 ha21 hr22 hg23 ?_
          refine wp_iload_n 3 dX12_scale_45 rfl ?_
          refine wp_callS (As := [.long (hL H6 (tg H6 a18) a18 x1.toNatClampNeg), .long (hL H6 (tg H6 a21) a21 x1.toNatClampNeg), .int x3]) (rest := []) (mc := 0) (ms := 0) dX12_scale_46 lk_X12_291 rfl rfl (by decide) rfl rfl rfl (Call.weaken h ?_)
          rintro H24 _ ⟨r25, rfl, h⟩
          change WP _ _ _ _ _ _ [.long r25] H24 _
          refine wp_goto (tgt := 68) dX12_scale_49 rfl ?_
          exact wp_lreturn dX12_scale_68 rfl ⟨_, rfl, h⟩
      · replace h := h.2 (bI_0.mp c)
        refine wp_ldc2 dX12_scale_25 w_7_55 ?_
        exact wp_lreturn dX12_scale_28 rfl ⟨_, rfl, h⟩
theorem C_X12_scale {d : Nat} {q : HP → Int64 → Prop} {a0 : Nat} {x1 : Int32} {x2 : Int32} {x3 : Int32} {H : HP} (h : wb_X12_scale_0 d q a0 x1 x2 x3 H) : CJ (d + 1) 0 0 mX12_scale [rv (some a0), .int x1, .int x2, .int x3] H q := by
  refine call_of (by decide +kernel) (by simp [lg_sl, rv_cat, vc_int, vc_long, vc_float, vc_double]) ?_
  have e : lv_args 0 [rv (some a0), .int x1, .int x2, .int x3] = [(0, rv (some a0)), (1, .int x1), (2, .int x2), (3, .int x3)] := by simp [lv_args, rv_cat, vc_int, vc_long, vc_float, vc_double]
  rw [e]
  exact T_X12_scale_0 h
/-- UnitProverModel.shift(II)I: the loop at 18 -/
def L_X12_shift_18 (d : Nat) (q : HP → Int32 → Prop) (a0 : Nat) (x1 : Int32) (x2 : Int32) (x3 : Int32) (H : HP) : Prop := WP (d + 1) mX12_shift 0 0 18 [(0, rv (some a0)), (1, .int x1), (2, .int x2), (3, .int x3)] [] H (qI q)
def wb_X12_shift_0 (d : Nat) (q : HP → Int32 → Prop) (a0 : Nat) (x1 : Int32) (x2 : Int32) (H : HP) : Prop :=
  CZ d 0 0 mX12_isRack [.int x1] H (fun H1 b2 => (b2 = false → q H1 (-1 : Int32)) ∧ (b2 = true → CZ d 0 0 mX12_isRack [.int x2] H1 (fun H3 b4 => (b4 = true → L_X12_shift_18 d q a0 x1 x2 (0 : Int32) H3) ∧ (b4 = false → q H3 (-1 : Int32)))))
set_option maxRecDepth 40000 in
set_option maxHeartbeats 4000000 in
theorem T_X12_shift_0 {d : Nat} {q : HP → Int32 → Prop} {a0 : Nat} {x1 : Int32} {x2 : Int32} {H : HP} (h : wb_X12_shift_0 d q a0 x1 x2 H) : WP (d + 1) mX12_shift 0 0 0 [(0, rv (some a0)), (1, .int x1), (2, .int x2)] [] H (qI q) := by
  unfold wb_X12_shift_0 at h
  refine wp_iload_n 1 dX12_shift_0 rfl ?_
  refine wp_callS (As := [.int x1]) (rest := []) (mc := 0) (ms := 0) dX12_shift_1 lk_X12_492 rfl rfl (by decide) rfl rfl rfl (Call.weaken h ?_)
  rintro H1 _ ⟨b2, rfl, h⟩
  change WP _ _ _ _ _ _ [.int (bI b2)] H1 _
  refine wp_if_eq (tgt := 14) dX12_shift_4 rfl (fun c => ?_) (fun c => ?_)
  · replace h := h.1 (bI_0.mp c)
    refine wp_iconst (v := (-1 : Int32)) dX12_shift_14 (by decide) ?_
    exact wp_ireturn (ty := .int) dX12_shift_15 rfl rfl ⟨_, rfl, h⟩
  · replace h := h.2 (bI_1.mp c)
    refine wp_iload_n 2 dX12_shift_7 rfl ?_
    refine wp_callS (As := [.int x2]) (rest := []) (mc := 0) (ms := 0) dX12_shift_8 lk_X12_492 rfl rfl (by decide) rfl rfl rfl (Call.weaken h ?_)
    rintro H3 _ ⟨b4, rfl, h⟩
    change WP _ _ _ _ _ _ [.int (bI b4)] H3 _
    refine wp_if_ne (tgt := 16) dX12_shift_11 rfl (fun c => ?_) (fun c => ?_)
    · replace h := h.1 (bI_1.mp c)
      refine wp_iconst (v := (0 : Int32)) dX12_shift_16 (by decide) ?_
      refine wp_istore_n (ls' := [(3, .int (0 : Int32)), (0, rv (some a0)), (1, .int x1), (2, .int x2)]) dX12_shift_17 (by decide) rfl ?_
      refine wp_sub (ls' := [(0, rv (some a0)), (1, .int x1), (2, .int x2), (3, .int (0 : Int32))]) [1, 2, 3, 0] rfl ?_
      exact h
    · replace h := h.2 (bI_0.mp c)
      refine wp_iconst (v := (-1 : Int32)) dX12_shift_14 (by decide) ?_
      exact wp_ireturn (ty := .int) dX12_shift_15 rfl rfl ⟨_, rfl, h⟩
def wb_X12_shift_18 (d : Nat) (q : HP → Int32 → Prop) (a0 : Nat) (x1 : Int32) (x2 : Int32) (x3 : Int32) (H : HP) : Prop :=
  ((6 : Int32) ≤ x3 → q H (6 : Int32)) ∧ (¬ ((6 : Int32) ≤ x3) → tg H a0 = 13 ∧ (∃ a2, (hC H 1361 a0) = some a2 ∧ (isA H a2 0 ∧ (vp_in (((6 : Int32) * x1) + x3) (ln H a2) ∧ (((hI H (tg H a2) a2 (((6 : Int32) * x1) + x3).toNatClampNeg) < 0 → vp_in (((6 : Int32) * x2) + x3) (ln H a2) ∧ (∃ a6, (hC (sI H (tg H a2) a2 (((6 : Int32) * x2) + x3).toNatClampNeg (hI H (tg H a2) a2 (((6 : Int32) * x1) + x3).toNatClampNeg)) 1362 a0) = some a6 ∧ (isA (sI H (tg H a2) a2 (((6 : Int32) * x2) + x3).toNatClampNeg (hI H (tg H a2) a2 (((6 : Int32) * x1) + x3).toNatClampNeg)) a6 0 ∧ (vp_in (((6 : Int32) * x1) + x3) (ln (sI H (tg H a2) a2 (((6 : Int32) * x2) + x3).toNatClampNeg (hI H (tg H a2) a2 (((6 : Int32) * x1) + x3).toNatClampNeg)) a6) ∧ (vp_in (((6 : Int32) * x2) + x3) (ln (sI H (tg H a2) a2 (((6 : Int32) * x2) + x3).toNatClampNeg (hI H (tg H a2) a2 (((6 : Int32) * x1) + x3).toNatClampNeg)) a6) ∧ (∀ H10, (sI (sI H (tg H a2) a2 (((6 : Int32) * x2) + x3).toNatClampNeg (hI H (tg H a2) a2 (((6 : Int32) * x1) + x3).toNatClampNeg)) (tg (sI H (tg H a2) a2 (((6 : Int32) * x2) + x3).toNatClampNeg (hI H (tg H a2) a2 (((6 : Int32) * x1) + x3).toNatClampNeg)) a6) a6 (((6 : Int32) * x2) + x3).toNatClampNeg (hI (sI H (tg H a2) a2 (((6 : Int32) * x2) + x3).toNatClampNeg (hI H (tg H a2) a2 (((6 : Int32) * x1) + x3).toNatClampNeg)) (tg (sI H (tg H a2) a2 (((6 : Int32) * x2) + x3).toNatClampNeg (hI H (tg H a2) a2 (((6 : Int32) * x1) + x3).toNatClampNeg)) a6) a6 (((6 : Int32) * x1) + x3).toNatClampNeg)) = H10 → (L_X12_shift_18 d q a0 x1 x2 (x3 + 1) H10))))))) ∧ (¬ ((hI H (tg H a2) a2 (((6 : Int32) * x1) + x3).toNatClampNeg) < 0) → (x2 = (2 : Int32) → vp_in (((6 : Int32) * x2) + x3) (ln H a2) ∧ (∃ a16, (hC (sI H (tg H a2) a2 (((6 : Int32) * x2) + x3).toNatClampNeg (hI H (tg H a2) a2 (((6 : Int32) * x1) + x3).toNatClampNeg)) 1362 a0) = some a16 ∧ (isA (sI H (tg H a2) a2 (((6 : Int32) * x2) + x3).toNatClampNeg (hI H (tg H a2) a2 (((6 : Int32) * x1) + x3).toNatClampNeg)) a16 0 ∧ (vp_in (((6 : Int32) * x1) + x3) (ln (sI H (tg H a2) a2 (((6 : Int32) * x2) + x3).toNatClampNeg (hI H (tg H a2) a2 (((6 : Int32) * x1) + x3).toNatClampNeg)) a16) ∧ (vp_in (((6 : Int32) * x2) + x3) (ln (sI H (tg H a2) a2 (((6 : Int32) * x2) + x3).toNatClampNeg (hI H (tg H a2) a2 (((6 : Int32) * x1) + x3).toNatClampNeg)) a16) ∧ (∀ H20, (sI (sI H (tg H a2) a2 (((6 : Int32) * x2) + x3).toNatClampNeg (hI H (tg H a2) a2 (((6 : Int32) * x1) + x3).toNatClampNeg)) (tg (sI H (tg H a2) a2 (((6 : Int32) * x2) + x3).toNatClampNeg (hI H (tg H a2) a2 (((6 : Int32) * x1) + x3).toNatClampNeg)) a16) a16 (((6 : Int32) * x2) + x3).toNatClampNeg (hI (sI H (tg H a2) a2 (((6 : Int32) * x2) + x3).toNatClampNeg (hI H (tg H a2) a2 (((6 : Int32) * x1) + x3).toNatClampNeg)) (tg (sI H (tg H a2) a2 (((6 : Int32) * x2) + x3).toNatClampNeg (hI H (tg H a2) a2 (((6 : Int32) * x1) + x3).toNatClampNeg)) a16) a16 (((6 : Int32) * x1) + x3).toNatClampNeg)) = H20 → (L_X12_shift_18 d q a0 x1 x2 (x3 + 1) H20))))))) ∧ (¬ (x2 = (2 : Int32)) → (x2 = (hI H (tg H a2) a2 (((6 : Int32) * x1) + x3).toNatClampNeg) → vp_in (((6 : Int32) * x2) + x3) (ln H a2) ∧ (∃ a26, (hC (sI H (tg H a2) a2 (((6 : Int32) * x2) + x3).toNatClampNeg (hI H (tg H a2) a2 (((6 : Int32) * x1) + x3).toNatClampNeg)) 1362 a0) = some a26 ∧ (isA (sI H (tg H a2) a2 (((6 : Int32) * x2) + x3).toNatClampNeg (hI H (tg H a2) a2 (((6 : Int32) * x1) + x3).toNatClampNeg)) a26 0 ∧ (vp_in (((6 : Int32) * x1) + x3) (ln (sI H (tg H a2) a2 (((6 : Int32) * x2) + x3).toNatClampNeg (hI H (tg H a2) a2 (((6 : Int32) * x1) + x3).toNatClampNeg)) a26) ∧ (vp_in (((6 : Int32) * x2) + x3) (ln (sI H (tg H a2) a2 (((6 : Int32) * x2) + x3).toNatClampNeg (hI H (tg H a2) a2 (((6 : Int32) * x1) + x3).toNatClampNeg)) a26) ∧ (∀ H30, (sI (sI H (tg H a2) a2 (((6 : Int32) * x2) + x3).toNatClampNeg (hI H (tg H a2) a2 (((6 : Int32) * x1) + x3).toNatClampNeg)) (tg (sI H (tg H a2) a2 (((6 : Int32) * x2) + x3).toNatClampNeg (hI H (tg H a2) a2 (((6 : Int32) * x1) + x3).toNatClampNeg)) a26) a26 (((6 : Int32) * x2) + x3).toNatClampNeg (hI (sI H (tg H a2) a2 (((6 : Int32) * x2) + x3).toNatClampNeg (hI H (tg H a2) a2 (((6 : Int32) * x1) + x3).toNatClampNeg)) (tg (sI H (tg H a2) a2 (((6 : Int32) * x2) + x3).toNatClampNeg (hI H (tg H a2) a2 (((6 : Int32) * x1) + x3).toNatClampNeg)) a26) a26 (((6 : Int32) * x1) + x3).toNatClampNeg)) = H30 → (L_X12_shift_18 d q a0 x1 x2 (x3 + 1) H30))))))) ∧ (¬ (x2 = (hI H (tg H a2) a2 (((6 : Int32) * x1) + x3).toNatClampNeg)) → q H x3))))))))
set_option maxRecDepth 40000 in
set_option maxHeartbeats 4000000 in
theorem T_X12_shift_18 {d : Nat} {q : HP → Int32 → Prop} {a0 : Nat} {x1 : Int32} {x2 : Int32} {x3 : Int32} {H : HP} (h : wb_X12_shift_18 d q a0 x1 x2 x3 H) : L_X12_shift_18 d q a0 x1 x2 x3 H := by
  unfold wb_X12_shift_18 at h
  unfold L_X12_shift_18
  refine wp_iload_n 3 dX12_shift_18 rfl ?_
  refine wp_bipush (v := (6 : Int32)) dX12_shift_19 (by decide) ?_
  refine wp_icmp_ge (tgt := 96) dX12_shift_21 rfl (fun c => ?_) (fun c => ?_)
  · replace h := h.1 c
    refine wp_bipush (v := (6 : Int32)) dX12_shift_96 (by decide) ?_
    exact wp_ireturn (ty := .int) dX12_shift_98 rfl rfl ⟨_, rfl, h⟩
  · replace h := h.2 c
    refine wp_aload_n 0 dX12_shift_24 rfl ?_
    obtain ⟨ht1, h⟩ := h
    refine wp_getC (ci := 12) (j := 61) dX12_shift_25 fi_X12_121r rfl rfl ht1 ?_
    change WP _ _ _ _ _ _ (rv (hC H 1361 a0) :: _) _ _
    refine wp_bipush (v := (6 : Int32)) dX12_shift_28 (by decide) ?_
    refine wp_iload_n 1 dX12_shift_30 rfl ?_
    refine wp_imul dX12_shift_31 ?_
    refine wp_iload_n 3 dX12_shift_32 rfl ?_
    refine wp_iadd dX12_shift_33 ?_
    obtain ⟨a2, ha2, h⟩ := h
    obtain ⟨hr3, h⟩ := h
    obtain ⟨hg4, h⟩ := h
    refine wp_iaload dX12_shift_34 ha2 hr3 hg4 ?_
    refine wp_istore (ls' := [(4, .int (hI H (tg H a2) a2 (((6 : Int32) * x1) + x3).toNatClampNeg)), (0, rv (some a0)), (1, .int x1), (2, .int x2), (3, .int x3)]) dX12_shift_35 (by decide) rfl ?_
    refine wp_iload 0 dX12_shift_37 rfl ?_
    refine wp_if_lt (tgt := 55) dX12_shift_39 rfl (fun c => ?_) (fun c => ?_)
    · replace h := h.1 c
      refine wp_aload_n 1 dX12_shift_55 rfl ?_
      refine wp_getC (ci := 12) (j := 61) dX12_shift_56 fi_X12_121r rfl rfl ht1 ?_
      change WP _ _ _ _ _ _ (rv (hC H 1361 a0) :: _) _ _
      refine wp_bipush (v := (6 : Int32)) dX12_shift_59 (by decide) ?_
      refine wp_iload_n 3 dX12_shift_61 rfl ?_
      refine wp_imul dX12_shift_62 ?_
      refine wp_iload_n 4 dX12_shift_63 rfl ?_
      refine wp_iadd dX12_shift_64 ?_
      refine wp_iload 0 dX12_shift_65 rfl ?_
      obtain ⟨hg5, h⟩ := h
      refine wp_iastore dX12_shift_67 ha2 hr3 hg5 ?_
      change WP _ _ _ _ _ _ _ (sI H (tg H a2) a2 (((6 : Int32) * x2) + x3).toNatClampNeg (hI H (tg H a2) a2 (((6 : Int32) * x1) + x3).toNatClampNeg)) _
      refine wp_aload_n 1 dX12_shift_68 rfl ?_
      refine wp_getC (ci := 12) (j := 62) dX12_shift_69 fi_X12_124r rfl rfl ht1 ?_
      change WP _ _ _ _ _ _ (rv (hC (sI H (tg H a2) a2 (((6 : Int32) * x2) + x3).toNatClampNeg (hI H (tg H a2) a2 (((6 : Int32) * x1) + x3).toNatClampNeg)) 1362 a0) :: _) _ _
      refine wp_bipush (v := (6 : Int32)) dX12_shift_72 (by decide) ?_
      refine wp_iload_n 3 dX12_shift_74 rfl ?_
      refine wp_imul dX12_shift_75 ?_
      refine wp_iload_n 4 dX12_shift_76 rfl ?_
      refine wp_iadd dX12_shift_77 ?_
      refine wp_aload_n 1 dX12_shift_78 rfl ?_
      refine wp_getC (ci := 12) (j := 62) dX12_shift_79 fi_X12_124r rfl rfl ht1 ?_
      change WP _ _ _ _ _ _ (rv (hC (sI H (tg H a2) a2 (((6 : Int32) * x2) + x3).toNatClampNeg (hI H (tg H a2) a2 (((6 : Int32) * x1) + x3).toNatClampNeg)) 1362 a0) :: _) _ _
      refine wp_bipush (v := (6 : Int32)) dX12_shift_82 (by decide) ?_
      refine wp_iload_n 2 dX12_shift_84 rfl ?_
      refine wp_imul dX12_shift_85 ?_
      refine wp_iload_n 4 dX12_shift_86 rfl ?_
      refine wp_iadd dX12_shift_87 ?_
      obtain ⟨a6, ha6, h⟩ := h
      obtain ⟨hr7, h⟩ := h
      obtain ⟨hg8, h⟩ := h
      refine wp_iaload dX12_shift_88 ha6 hr7 hg8 ?_
      obtain ⟨hg9, h⟩ := h
      refine wp_iastore dX12_shift_89 ha6 hr7 hg9 ?_
      change WP _ _ _ _ _ _ _ (sI (sI H (tg H a2) a2 (((6 : Int32) * x2) + x3).toNatClampNeg (hI H (tg H a2) a2 (((6 : Int32) * x1) + x3).toNatClampNeg)) (tg (sI H (tg H a2) a2 (((6 : Int32) * x2) + x3).toNatClampNeg (hI H (tg H a2) a2 (((6 : Int32) * x1) + x3).toNatClampNeg)) a6) a6 (((6 : Int32) * x2) + x3).toNatClampNeg (hI (sI H (tg H a2) a2 (((6 : Int32) * x2) + x3).toNatClampNeg (hI H (tg H a2) a2 (((6 : Int32) * x1) + x3).toNatClampNeg)) (tg (sI H (tg H a2) a2 (((6 : Int32) * x2) + x3).toNatClampNeg (hI H (tg H a2) a2 (((6 : Int32) * x1) + x3).toNatClampNeg)) a6) a6 (((6 : Int32) * x1) + x3).toNatClampNeg)) _
      replace h := h _ rfl
      generalize e11 : (sI (sI H (tg H a2) a2 (((6 : Int32) * x2) + x3).toNatClampNeg (hI H (tg H a2) a2 (((6 : Int32) * x1) + x3).toNatClampNeg)) (tg (sI H (tg H a2) a2 (((6 : Int32) * x2) + x3).toNatClampNeg (hI H (tg H a2) a2 (((6 : Int32) * x1) + x3).toNatClampNeg)) a6) a6 (((6 : Int32) * x2) + x3).toNatClampNeg (hI (sI H (tg H a2) a2 (((6 : Int32) * x2) + x3).toNatClampNeg (hI H (tg H a2) a2 (((6 : Int32) * x1) + x3).toNatClampNeg)) (tg (sI H (tg H a2) a2 (((6 : Int32) * x2) + x3).toNatClampNeg (hI H (tg H a2) a2 (((6 : Int32) * x1) + x3).toNatClampNeg)) a6) a6 (((6 : Int32) * x1) + x3).toNatClampNeg)) = H10 at h ⊢
      have ht12 : tg H10 a0 = 13 := by rw [← e11]; exact ht1
      have hr13 : isA H10 a2 0 := by rw [← e11]; exact hr3
      have hr14 : isA H10 a6 0 := by rw [← e11]; exact hr7
      refine wp_iinc (v := (x3 + 1)) (ls' := [(3, .int (x3 + 1)), (4, .int (hI H (tg H a2) a2 (((6 : Int32) * x1) + x3).toNatClampNeg)), (0, rv (some a0)), (1, .int x1), (2, .int x2)]) 4 dX12_shift_90 rfl rfl (by decide) rfl ?_
      refine wp_goto (tgt := 18) dX12_shift_93 rfl ?_
      refine wp_sub (ls' := [(0, rv (some a0)), (1, .int x1), (2, .int x2), (3, .int (x3 + 1))]) [2, 3, 4, 0] rfl ?_
      exact h
    · replace h := h.2 c
      refine wp_iload_n 3 dX12_shift_42 rfl ?_
      refine wp_iconst (v := (2 : Int32)) dX12_shift_43 (by decide) ?_
      refine wp_icmp_eq (tgt := 55) dX12_shift_44 rfl (fun c => ?_) (fun c => ?_)
      · replace h := h.1 c
        refine wp_aload_n 1 dX12_shift_55 rfl ?_
        refine wp_getC (ci := 12) (j := 61) dX12_shift_56 fi_X12_121r rfl rfl ht1 ?_
        change WP _ _ _ _ _ _ (rv (hC H 1361 a0) :: _) _ _
        refine wp_bipush (v := (6 : Int32)) dX12_shift_59 (by decide) ?_
        refine wp_iload_n 3 dX12_shift_61 rfl ?_
        refine wp_imul dX12_shift_62 ?_
        refine wp_iload_n 4 dX12_shift_63 rfl ?_
        refine wp_iadd dX12_shift_64 ?_
        refine wp_iload 0 dX12_shift_65 rfl ?_
        obtain ⟨hg15, h⟩ := h
        refine wp_iastore dX12_shift_67 ha2 hr3 hg15 ?_
        change WP _ _ _ _ _ _ _ (sI H (tg H a2) a2 (((6 : Int32) * x2) + x3).toNatClampNeg (hI H (tg H a2) a2 (((6 : Int32) * x1) + x3).toNatClampNeg)) _
        refine wp_aload_n 1 dX12_shift_68 rfl ?_
        refine wp_getC (ci := 12) (j := 62) dX12_shift_69 fi_X12_124r rfl rfl ht1 ?_
        change WP _ _ _ _ _ _ (rv (hC (sI H (tg H a2) a2 (((6 : Int32) * x2) + x3).toNatClampNeg (hI H (tg H a2) a2 (((6 : Int32) * x1) + x3).toNatClampNeg)) 1362 a0) :: _) _ _
        refine wp_bipush (v := (6 : Int32)) dX12_shift_72 (by decide) ?_
        refine wp_iload_n 3 dX12_shift_74 rfl ?_
        refine wp_imul dX12_shift_75 ?_
        refine wp_iload_n 4 dX12_shift_76 rfl ?_
        refine wp_iadd dX12_shift_77 ?_
        refine wp_aload_n 1 dX12_shift_78 rfl ?_
        refine wp_getC (ci := 12) (j := 62) dX12_shift_79 fi_X12_124r rfl rfl ht1 ?_
        change WP _ _ _ _ _ _ (rv (hC (sI H (tg H a2) a2 (((6 : Int32) * x2) + x3).toNatClampNeg (hI H (tg H a2) a2 (((6 : Int32) * x1) + x3).toNatClampNeg)) 1362 a0) :: _) _ _
        refine wp_bipush (v := (6 : Int32)) dX12_shift_82 (by decide) ?_
        refine wp_iload_n 2 dX12_shift_84 rfl ?_
        refine wp_imul dX12_shift_85 ?_
        refine wp_iload_n 4 dX12_shift_86 rfl ?_
        refine wp_iadd dX12_shift_87 ?_
        obtain ⟨a16, ha16, h⟩ := h
        obtain ⟨hr17, h⟩ := h
        obtain ⟨hg18, h⟩ := h
        refine wp_iaload dX12_shift_88 ha16 hr17 hg18 ?_
        obtain ⟨hg19, h⟩ := h
        refine wp_iastore dX12_shift_89 ha16 hr17 hg19 ?_
        change WP _ _ _ _ _ _ _ (sI (sI H (tg H a2) a2 (((6 : Int32) * x2) + x3).toNatClampNeg (hI H (tg H a2) a2 (((6 : Int32) * x1) + x3).toNatClampNeg)) (tg (sI H (tg H a2) a2 (((6 : Int32) * x2) + x3).toNatClampNeg (hI H (tg H a2) a2 (((6 : Int32) * x1) + x3).toNatClampNeg)) a16) a16 (((6 : Int32) * x2) + x3).toNatClampNeg (hI (sI H (tg H a2) a2 (((6 : Int32) * x2) + x3).toNatClampNeg (hI H (tg H a2) a2 (((6 : Int32) * x1) + x3).toNatClampNeg)) (tg (sI H (tg H a2) a2 (((6 : Int32) * x2) + x3).toNatClampNeg (hI H (tg H a2) a2 (((6 : Int32) * x1) + x3).toNatClampNeg)) a16) a16 (((6 : Int32) * x1) + x3).toNatClampNeg)) _
        replace h := h _ rfl
        generalize e21 : (sI (sI H (tg H a2) a2 (((6 : Int32) * x2) + x3).toNatClampNeg (hI H (tg H a2) a2 (((6 : Int32) * x1) + x3).toNatClampNeg)) (tg (sI H (tg H a2) a2 (((6 : Int32) * x2) + x3).toNatClampNeg (hI H (tg H a2) a2 (((6 : Int32) * x1) + x3).toNatClampNeg)) a16) a16 (((6 : Int32) * x2) + x3).toNatClampNeg (hI (sI H (tg H a2) a2 (((6 : Int32) * x2) + x3).toNatClampNeg (hI H (tg H a2) a2 (((6 : Int32) * x1) + x3).toNatClampNeg)) (tg (sI H (tg H a2) a2 (((6 : Int32) * x2) + x3).toNatClampNeg (hI H (tg H a2) a2 (((6 : Int32) * x1) + x3).toNatClampNeg)) a16) a16 (((6 : Int32) * x1) + x3).toNatClampNeg)) = H20 at h ⊢
        have ht22 : tg H20 a0 = 13 := by rw [← e21]; exact ht1
        have hr23 : isA H20 a2 0 := by rw [← e21]; exact hr3
        have hr24 : isA H20 a16 0 := by rw [← e21]; exact hr17
        refine wp_iinc (v := (x3 + 1)) (ls' := [(3, .int (x3 + 1)), (4, .int (hI H (tg H a2) a2 (((6 : Int32) * x1) + x3).toNatClampNeg)), (0, rv (some a0)), (1, .int x1), (2, .int x2)]) 4 dX12_shift_90 rfl rfl (by decide) rfl ?_
        refine wp_goto (tgt := 18) dX12_shift_93 rfl ?_
        refine wp_sub (ls' := [(0, rv (some a0)), (1, .int x1), (2, .int x2), (3, .int (x3 + 1))]) [2, 3, 4, 0] rfl ?_
        exact h
      · replace h := h.2 c
        refine wp_iload_n 3 dX12_shift_47 rfl ?_
        refine wp_iload 0 dX12_shift_48 rfl ?_
        refine wp_icmp_eq (tgt := 55) dX12_shift_50 rfl (fun c => ?_) (fun c => ?_)
        · replace h := h.1 c
          refine wp_aload_n 1 dX12_shift_55 rfl ?_
          refine wp_getC (ci := 12) (j := 61) dX12_shift_56 fi_X12_121r rfl rfl ht1 ?_
          change WP _ _ _ _ _ _ (rv (hC H 1361 a0) :: _) _ _
          refine wp_bipush (v := (6 : Int32)) dX12_shift_59 (by decide) ?_
          refine wp_iload_n 3 dX12_shift_61 rfl ?_
          refine wp_imul dX12_shift_62 ?_
          refine wp_iload_n 4 dX12_shift_63 rfl ?_
          refine wp_iadd dX12_shift_64 ?_
          refine wp_iload 0 dX12_shift_65 rfl ?_
          obtain ⟨hg25, h⟩ := h
          refine wp_iastore dX12_shift_67 ha2 hr3 hg25 ?_
          change WP _ _ _ _ _ _ _ (sI H (tg H a2) a2 (((6 : Int32) * x2) + x3).toNatClampNeg (hI H (tg H a2) a2 (((6 : Int32) * x1) + x3).toNatClampNeg)) _
          refine wp_aload_n 1 dX12_shift_68 rfl ?_
          refine wp_getC (ci := 12) (j := 62) dX12_shift_69 fi_X12_124r rfl rfl ht1 ?_
          change WP _ _ _ _ _ _ (rv (hC (sI H (tg H a2) a2 (((6 : Int32) * x2) + x3).toNatClampNeg (hI H (tg H a2) a2 (((6 : Int32) * x1) + x3).toNatClampNeg)) 1362 a0) :: _) _ _
          refine wp_bipush (v := (6 : Int32)) dX12_shift_72 (by decide) ?_
          refine wp_iload_n 3 dX12_shift_74 rfl ?_
          refine wp_imul dX12_shift_75 ?_
          refine wp_iload_n 4 dX12_shift_76 rfl ?_
          refine wp_iadd dX12_shift_77 ?_
          refine wp_aload_n 1 dX12_shift_78 rfl ?_
          refine wp_getC (ci := 12) (j := 62) dX12_shift_79 fi_X12_124r rfl rfl ht1 ?_
          change WP _ _ _ _ _ _ (rv (hC (sI H (tg H a2) a2 (((6 : Int32) * x2) + x3).toNatClampNeg (hI H (tg H a2) a2 (((6 : Int32) * x1) + x3).toNatClampNeg)) 1362 a0) :: _) _ _
          refine wp_bipush (v := (6 : Int32)) dX12_shift_82 (by decide) ?_
          refine wp_iload_n 2 dX12_shift_84 rfl ?_
          refine wp_imul dX12_shift_85 ?_
          refine wp_iload_n 4 dX12_shift_86 rfl ?_
          refine wp_iadd dX12_shift_87 ?_
          obtain ⟨a26, ha26, h⟩ := h
          obtain ⟨hr27, h⟩ := h
          obtain ⟨hg28, h⟩ := h
          refine wp_iaload dX12_shift_88 ha26 hr27 hg28 ?_
          obtain ⟨hg29, h⟩ := h
          refine wp_iastore dX12_shift_89 ha26 hr27 hg29 ?_
          change WP _ _ _ _ _ _ _ (sI (sI H (tg H a2) a2 (((6 : Int32) * x2) + x3).toNatClampNeg (hI H (tg H a2) a2 (((6 : Int32) * x1) + x3).toNatClampNeg)) (tg (sI H (tg H a2) a2 (((6 : Int32) * x2) + x3).toNatClampNeg (hI H (tg H a2) a2 (((6 : Int32) * x1) + x3).toNatClampNeg)) a26) a26 (((6 : Int32) * x2) + x3).toNatClampNeg (hI (sI H (tg H a2) a2 (((6 : Int32) * x2) + x3).toNatClampNeg (hI H (tg H a2) a2 (((6 : Int32) * x1) + x3).toNatClampNeg)) (tg (sI H (tg H a2) a2 (((6 : Int32) * x2) + x3).toNatClampNeg (hI H (tg H a2) a2 (((6 : Int32) * x1) + x3).toNatClampNeg)) a26) a26 (((6 : Int32) * x1) + x3).toNatClampNeg)) _
          replace h := h _ rfl
          generalize e31 : (sI (sI H (tg H a2) a2 (((6 : Int32) * x2) + x3).toNatClampNeg (hI H (tg H a2) a2 (((6 : Int32) * x1) + x3).toNatClampNeg)) (tg (sI H (tg H a2) a2 (((6 : Int32) * x2) + x3).toNatClampNeg (hI H (tg H a2) a2 (((6 : Int32) * x1) + x3).toNatClampNeg)) a26) a26 (((6 : Int32) * x2) + x3).toNatClampNeg (hI (sI H (tg H a2) a2 (((6 : Int32) * x2) + x3).toNatClampNeg (hI H (tg H a2) a2 (((6 : Int32) * x1) + x3).toNatClampNeg)) (tg (sI H (tg H a2) a2 (((6 : Int32) * x2) + x3).toNatClampNeg (hI H (tg H a2) a2 (((6 : Int32) * x1) + x3).toNatClampNeg)) a26) a26 (((6 : Int32) * x1) + x3).toNatClampNeg)) = H30 at h ⊢
          have ht32 : tg H30 a0 = 13 := by rw [← e31]; exact ht1
          have hr33 : isA H30 a2 0 := by rw [← e31]; exact hr3
          have hr34 : isA H30 a26 0 := by rw [← e31]; exact hr27
          refine wp_iinc (v := (x3 + 1)) (ls' := [(3, .int (x3 + 1)), (4, .int (hI H (tg H a2) a2 (((6 : Int32) * x1) + x3).toNatClampNeg)), (0, rv (some a0)), (1, .int x1), (2, .int x2)]) 4 dX12_shift_90 rfl rfl (by decide) rfl ?_
          refine wp_goto (tgt := 18) dX12_shift_93 rfl ?_
          refine wp_sub (ls' := [(0, rv (some a0)), (1, .int x1), (2, .int x2), (3, .int (x3 + 1))]) [2, 3, 4, 0] rfl ?_
          exact h
        · replace h := h.2 c
          refine wp_iload_n 4 dX12_shift_53 rfl ?_
          exact wp_ireturn (ty := .int) dX12_shift_54 rfl rfl ⟨_, rfl, h⟩
theorem C_X12_shift {d : Nat} {q : HP → Int32 → Prop} {a0 : Nat} {x1 : Int32} {x2 : Int32} {H : HP} (h : wb_X12_shift_0 d q a0 x1 x2 H) : CI (d + 1) 0 0 mX12_shift [rv (some a0), .int x1, .int x2] H q := by
  refine call_of (by decide +kernel) (by simp [lg_sl, rv_cat, vc_int, vc_long, vc_float, vc_double]) ?_
  have e : lv_args 0 [rv (some a0), .int x1, .int x2] = [(0, rv (some a0)), (1, .int x1), (2, .int x2)] := by simp [lv_args, rv_cat, vc_int, vc_long, vc_float, vc_double]
  rw [e]
  exact T_X12_shift_0 h
def wb_X12_step_0 (d : Nat) (q : HP → Int32 → Prop) (a0 : Nat) (x1 : Int32) (x2 : Int32) (H : HP) : Prop :=
  tg H a0 = 13 ∧ ((¬ (hI H 1339 a0 0) = 0 → CZ d 0 0 mX12_isStep [rv (some a0), .int x1] H (fun H2 b3 => (b3 = false → q H2 (-1 : Int32)) ∧ (b3 = true → CZ d 0 0 mX12_isIn [.long (x2.toInt64), .long (0 : Int64), .long (6 : Int64)] H2 (fun H4 b5 => (b5 = true → (¬ x2 = 0 → ((6 : Int32) ≤ x2 → tg H4 a0 = 13 ∧ (∃ a7, (hC H4 1347 a0) = some a7 ∧ (isA H4 a7 3 ∧ (vp_in x1 (ln H4 a7) ∧ (CI d 0 0 mJ13_signum_95d88 [.long (hL H4 (tg H4 a7) a7 x1.toNatClampNeg)] H4 (fun H10 r11 => q H10 (r11 + (1 : Int32)))))))) ∧ (¬ ((6 : Int32) ≤ x2) → tg H4 a0 = 13 ∧ (∃ a13, (hC H4 1346 a0) = some a13 ∧ (isA H4 a13 0 ∧ (vp_in ((((5 : Int32) * x1) + x2) - (1 : Int32)) (ln H4 a13) ∧ (q H4 ((hI H4 (tg H4 a13) a13 ((((5 : Int32) * x1) + x2) - (1 : Int32)).toNatClampNeg) + (100 : Int32)))))))) ∧ (x2 = 0 → tg H4 a0 = 13 ∧ (∃ a17, (hC H4 1345 a0) = some a17 ∧ (isA H4 a17 0 ∧ (vp_in x1 (ln H4 a17) ∧ (q H4 (hI H4 (tg H4 a17) a17 x1.toNatClampNeg))))))) ∧ (b5 = false → q H4 (-1 : Int32)))))) ∧ ((hI H 1339 a0 0) = 0 → q H (-3 : Int32)))
set_option maxRecDepth 40000 in
set_option maxHeartbeats 4000000 in
theorem T_X12_step_0 {d : Nat} {q : HP → Int32 → Prop} {a0 : Nat} {x1 : Int32} {x2 : Int32} {H : HP} (h : wb_X12_step_0 d q a0 x1 x2 H) : WP (d + 1) mX12_step 0 0 0 [(0, rv (some a0)), (1, .int x1), (2, .int x2)] [] H (qI q) := by
  unfold wb_X12_step_0 at h
  refine wp_aload_n 0 dX12_step_0 rfl ?_
  obtain ⟨ht1, h⟩ := h
  refine wp_getI (ci := 12) (j := 39) dX12_step_1 fi_X12_405r rfl rfl ht1 ?_
  change WP _ _ _ _ _ _ (.int (hI H 1339 a0 0) :: _) _ _
  refine wp_if_ne (tgt := 10) dX12_step_4 rfl (fun c => ?_) (fun c => ?_)
  · replace h := h.1 c
    refine wp_aload_n 0 dX12_step_10 rfl ?_
    refine wp_iload_n 1 dX12_step_11 rfl ?_
    refine wp_callV (ci := 12) (As := [.int x1]) (rest := []) (mc := 0) (ms := 0) dX12_step_12 lk_X12_408 rfl rfl (by decide) rfl rfl rfl ht1 rfl rfl rfl w_7_213 (Call.weaken h ?_)
    rintro H2 _ ⟨b3, rfl, h⟩
    change WP _ _ _ _ _ _ [.int (bI b3)] H2 _
    refine wp_if_eq (tgt := 30) dX12_step_15 rfl (fun c => ?_) (fun c => ?_)
    · replace h := h.1 (bI_0.mp c)
      refine wp_iconst (v := (-1 : Int32)) dX12_step_30 (by decide) ?_
      exact wp_ireturn (ty := .int) dX12_step_31 rfl rfl ⟨_, rfl, h⟩
    · replace h := h.2 (bI_1.mp c)
      refine wp_iload_n 2 dX12_step_18 rfl ?_
      refine wp_i2l dX12_step_19 ?_
      refine wp_lconst (v := (0 : Int64)) dX12_step_20 (by decide) ?_
      refine wp_ldc2 dX12_step_21 w_7_217 ?_
      refine wp_callS (As := [.long (x2.toInt64), .long (0 : Int64), .long (6 : Int64)]) (rest := []) (mc := 0) (ms := 0) dX12_step_24 lk_X12_161 rfl rfl (by decide) rfl rfl rfl (Call.weaken h ?_)
      rintro H4 _ ⟨b5, rfl, h⟩
      change WP _ _ _ _ _ _ [.int (bI b5)] H4 _
      refine wp_if_ne (tgt := 32) dX12_step_27 rfl (fun c => ?_) (fun c => ?_)
      · replace h := h.1 (bI_1.mp c)
        refine wp_iload_n 2 dX12_step_32 rfl ?_
        refine wp_if_ne (tgt := 43) dX12_step_33 rfl (fun c => ?_) (fun c => ?_)
        · replace h := h.1 c
          refine wp_iload_n 2 dX12_step_43 rfl ?_
          refine wp_bipush (v := (6 : Int32)) dX12_step_44 (by decide) ?_
          refine wp_icmp_ge (tgt := 67) dX12_step_46 rfl (fun c => ?_) (fun c => ?_)
          · replace h := h.1 c
            refine wp_aload_n 0 dX12_step_67 rfl ?_
            obtain ⟨ht6, h⟩ := h
            refine wp_getC (ci := 12) (j := 47) dX12_step_68 fi_X12_83r rfl rfl ht6 ?_
            change WP _ _ _ _ _ _ (rv (hC H4 1347 a0) :: _) _ _
            refine wp_iload_n 1 dX12_step_71 rfl ?_
            obtain ⟨a7, ha7, h⟩ := h
            obtain ⟨hr8, h⟩ := h
            obtain ⟨hg9, h⟩ := h
            refine wp_laload dX12_step_72 ha7 hr8 hg9 ?_
            refine wp_callS (As := [.long (hL H4 (tg H4 a7) a7 x1.toNatClampNeg)]) (rest := []) (mc := 0) (ms := 0) dX12_step_73 lk_X12_413 rfl rfl (by decide) rfl rfl rfl (Call.weaken h ?_)
            rintro H10 _ ⟨r11, rfl, h⟩
            change WP _ _ _ _ _ _ [.int r11] H10 _
            refine wp_iconst (v := (1 : Int32)) dX12_step_76 (by decide) ?_
            refine wp_iadd dX12_step_77 ?_
            exact wp_ireturn (ty := .int) dX12_step_78 rfl rfl ⟨_, rfl, h⟩
          · replace h := h.2 c
            refine wp_aload_n 0 dX12_step_49 rfl ?_
            obtain ⟨ht12, h⟩ := h
            refine wp_getC (ci := 12) (j := 46) dX12_step_50 fi_X12_80r rfl rfl ht12 ?_
            change WP _ _ _ _ _ _ (rv (hC H4 1346 a0) :: _) _ _
            refine wp_iconst (v := (5 : Int32)) dX12_step_53 (by decide) ?_
            refine wp_iload_n 1 dX12_step_54 rfl ?_
            refine wp_imul dX12_step_55 ?_
            refine wp_iload_n 2 dX12_step_56 rfl ?_
            refine wp_iadd dX12_step_57 ?_
            refine wp_iconst (v := (1 : Int32)) dX12_step_58 (by decide) ?_
            refine wp_isub dX12_step_59 ?_
            obtain ⟨a13, ha13, h⟩ := h
            obtain ⟨hr14, h⟩ := h
            obtain ⟨hg15, h⟩ := h
            refine wp_iaload dX12_step_60 ha13 hr14 hg15 ?_
            refine wp_bipush (v := (100 : Int32)) dX12_step_61 (by decide) ?_
            refine wp_iadd dX12_step_63 ?_
            refine wp_goto (tgt := 78) dX12_step_64 rfl ?_
            exact wp_ireturn (ty := .int) dX12_step_78 rfl rfl ⟨_, rfl, h⟩
        · replace h := h.2 c
          refine wp_aload_n 0 dX12_step_36 rfl ?_
          obtain ⟨ht16, h⟩ := h
          refine wp_getC (ci := 12) (j := 45) dX12_step_37 fi_X12_77r rfl rfl ht16 ?_
          change WP _ _ _ _ _ _ (rv (hC H4 1345 a0) :: _) _ _
          refine wp_iload_n 1 dX12_step_40 rfl ?_
          obtain ⟨a17, ha17, h⟩ := h
          obtain ⟨hr18, h⟩ := h
          obtain ⟨hg19, h⟩ := h
          refine wp_iaload dX12_step_41 ha17 hr18 hg19 ?_
          exact wp_ireturn (ty := .int) dX12_step_42 rfl rfl ⟨_, rfl, h⟩
      · replace h := h.2 (bI_0.mp c)
        refine wp_iconst (v := (-1 : Int32)) dX12_step_30 (by decide) ?_
        exact wp_ireturn (ty := .int) dX12_step_31 rfl rfl ⟨_, rfl, h⟩
  · replace h := h.2 c
    refine wp_bipush (v := (-3 : Int32)) dX12_step_7 (by decide) ?_
    exact wp_ireturn (ty := .int) dX12_step_9 rfl rfl ⟨_, rfl, h⟩
theorem C_X12_step {d : Nat} {q : HP → Int32 → Prop} {a0 : Nat} {x1 : Int32} {x2 : Int32} {H : HP} (h : wb_X12_step_0 d q a0 x1 x2 H) : CI (d + 1) 0 0 mX12_step [rv (some a0), .int x1, .int x2] H q := by
  refine call_of (by decide +kernel) (by simp [lg_sl, rv_cat, vc_int, vc_long, vc_float, vc_double]) ?_
  have e : lv_args 0 [rv (some a0), .int x1, .int x2] = [(0, rv (some a0)), (1, .int x1), (2, .int x2)] := by simp [lv_args, rv_cat, vc_int, vc_long, vc_float, vc_double]
  rw [e]
  exact T_X12_step_0 h
/-- UnitProverModel.stepComes(I)I: the loop at 12 -/
def L_X12_stepComes_12 (d : Nat) (q : HP → Int32 → Prop) (a0 : Nat) (x2 : Int32) (H : HP) : Prop := WP (d + 1) mX12_stepComes 0 0 12 [(0, rv (some a0)), (2, .int x2)] [] H (qI q)
def wb_X12_stepComes_0 (d : Nat) (q : HP → Int32 → Prop) (a0 : Nat) (x1 : Int32) (H : HP) : Prop :=
  tg H a0 = 13 ∧ (∃ a2, (hC H 1345 a0) = some a2 ∧ (isA H a2 0 ∧ (vp_in (hI H 1341 a0 0) (ln H a2) ∧ (L_X12_stepComes_12 d q a0 (0 : Int32) (sI H (tg H a2) a2 (hI H 1341 a0 0).toNatClampNeg x1)))))
set_option maxRecDepth 40000 in
set_option maxHeartbeats 4000000 in
theorem T_X12_stepComes_0 {d : Nat} {q : HP → Int32 → Prop} {a0 : Nat} {x1 : Int32} {H : HP} (h : wb_X12_stepComes_0 d q a0 x1 H) : WP (d + 1) mX12_stepComes 0 0 0 [(0, rv (some a0)), (1, .int x1)] [] H (qI q) := by
  unfold wb_X12_stepComes_0 at h
  refine wp_aload_n 0 dX12_stepComes_0 rfl ?_
  obtain ⟨ht1, h⟩ := h
  refine wp_getC (ci := 12) (j := 45) dX12_stepComes_1 fi_X12_77r rfl rfl ht1 ?_
  change WP _ _ _ _ _ _ (rv (hC H 1345 a0) :: _) _ _
  refine wp_aload_n 0 dX12_stepComes_4 rfl ?_
  refine wp_getI (ci := 12) (j := 41) dX12_stepComes_5 fi_X12_320r rfl rfl ht1 ?_
  change WP _ _ _ _ _ _ (.int (hI H 1341 a0 0) :: _) _ _
  refine wp_iload_n 1 dX12_stepComes_8 rfl ?_
  obtain ⟨a2, ha2, h⟩ := h
  obtain ⟨hr3, h⟩ := h
  obtain ⟨hg4, h⟩ := h
  refine wp_iastore dX12_stepComes_9 ha2 hr3 hg4 ?_
  change WP _ _ _ _ _ _ _ (sI H (tg H a2) a2 (hI H 1341 a0 0).toNatClampNeg x1) _
  refine wp_iconst (v := (0 : Int32)) dX12_stepComes_10 (by decide) ?_
  refine wp_istore_n (ls' := [(2, .int (0 : Int32)), (0, rv (some a0)), (1, .int x1)]) dX12_stepComes_11 (by decide) rfl ?_
  refine wp_sub (ls' := [(0, rv (some a0)), (2, .int (0 : Int32))]) [1, 0] rfl ?_
  exact h
def wb_X12_stepComes_12 (d : Nat) (q : HP → Int32 → Prop) (a0 : Nat) (x2 : Int32) (H : HP) : Prop :=
  ((5 : Int32) ≤ x2 → tg H a0 = 13 ∧ (∃ a2, (hC H 1347 a0) = some a2 ∧ (isA H a2 3 ∧ (vp_in (hI H 1341 a0 0) (ln H a2) ∧ (∃ a5, (hC (sL H (tg H a2) a2 (hI H 1341 a0 0).toNatClampNeg (hL H 1319 a0 0)) 1348 a0) = some a5 ∧ (isA (sL H (tg H a2) a2 (hI H 1341 a0 0).toNatClampNeg (hL H 1319 a0 0)) a5 3 ∧ (vp_in (hI (sL H (tg H a2) a2 (hI H 1341 a0 0).toNatClampNeg (hL H 1319 a0 0)) 1341 a0 0) (ln (sL H (tg H a2) a2 (hI H 1341 a0 0).toNatClampNeg (hL H 1319 a0 0)) a5) ∧ (∀ H8, (sL (sL H (tg H a2) a2 (hI H 1341 a0 0).toNatClampNeg (hL H 1319 a0 0)) (tg (sL H (tg H a2) a2 (hI H 1341 a0 0).toNatClampNeg (hL H 1319 a0 0)) a5) a5 (hI (sL H (tg H a2) a2 (hI H 1341 a0 0).toNatClampNeg (hL H 1319 a0 0)) 1341 a0 0).toNatClampNeg (hL (sL H (tg H a2) a2 (hI H 1341 a0 0).toNatClampNeg (hL H 1319 a0 0)) 1320 a0 0)) = H8 → (q (sI H8 1341 a0 0 ((hI H8 1341 a0 0) + (1 : Int32))) ((hI (sI H8 1341 a0 0 ((hI H8 1341 a0 0) + (1 : Int32))) 1341 a0 0) - (1 : Int32))))))))))) ∧ (¬ ((5 : Int32) ≤ x2) → tg H a0 = 13 ∧ (∃ a14, (hC H 1337 a0) = some a14 ∧ (isA H a14 0 ∧ (vp_in x2 (ln H a14) ∧ (∃ a17, (hC H 1346 a0) = some a17 ∧ (isA H a17 0 ∧ (vp_in (((5 : Int32) * (hI H 1341 a0 0)) + x2) (ln H a17) ∧ (L_X12_stepComes_12 d q a0 (x2 + 1) (sI H (tg H a17) a17 (((5 : Int32) * (hI H 1341 a0 0)) + x2).toNatClampNeg (hI H (tg H a14) a14 x2.toNatClampNeg))))))))))
set_option maxRecDepth 40000 in
set_option maxHeartbeats 4000000 in
theorem T_X12_stepComes_12 {d : Nat} {q : HP → Int32 → Prop} {a0 : Nat} {x2 : Int32} {H : HP} (h : wb_X12_stepComes_12 d q a0 x2 H) : L_X12_stepComes_12 d q a0 x2 H := by
  unfold wb_X12_stepComes_12 at h
  unfold L_X12_stepComes_12
  refine wp_iload_n 1 dX12_stepComes_12 rfl ?_
  refine wp_iconst (v := (5 : Int32)) dX12_stepComes_13 (by decide) ?_
  refine wp_icmp_ge (tgt := 42) dX12_stepComes_14 rfl (fun c => ?_) (fun c => ?_)
  · replace h := h.1 c
    refine wp_aload_n 0 dX12_stepComes_42 rfl ?_
    obtain ⟨ht1, h⟩ := h
    refine wp_getC (ci := 12) (j := 47) dX12_stepComes_43 fi_X12_83r rfl rfl ht1 ?_
    change WP _ _ _ _ _ _ (rv (hC H 1347 a0) :: _) _ _
    refine wp_aload_n 0 dX12_stepComes_46 rfl ?_
    refine wp_getI (ci := 12) (j := 41) dX12_stepComes_47 fi_X12_320r rfl rfl ht1 ?_
    change WP _ _ _ _ _ _ (.int (hI H 1341 a0 0) :: _) _ _
    refine wp_aload_n 0 dX12_stepComes_50 rfl ?_
    refine wp_getL (ci := 12) (j := 19) dX12_stepComes_51 fi_X12_143r rfl rfl ht1 ?_
    change WP _ _ _ _ _ _ (.long (hL H 1319 a0 0) :: _) _ _
    obtain ⟨a2, ha2, h⟩ := h
    obtain ⟨hr3, h⟩ := h
    obtain ⟨hg4, h⟩ := h
    refine wp_lastore dX12_stepComes_54 ha2 hr3 hg4 ?_
    change WP _ _ _ _ _ _ _ (sL H (tg H a2) a2 (hI H 1341 a0 0).toNatClampNeg (hL H 1319 a0 0)) _
    refine wp_aload_n 0 dX12_stepComes_55 rfl ?_
    refine wp_getC (ci := 12) (j := 48) dX12_stepComes_56 fi_X12_86r rfl rfl ht1 ?_
    change WP _ _ _ _ _ _ (rv (hC (sL H (tg H a2) a2 (hI H 1341 a0 0).toNatClampNeg (hL H 1319 a0 0)) 1348 a0) :: _) _ _
    refine wp_aload_n 0 dX12_stepComes_59 rfl ?_
    refine wp_getI (ci := 12) (j := 41) dX12_stepComes_60 fi_X12_320r rfl rfl ht1 ?_
    change WP _ _ _ _ _ _ (.int (hI (sL H (tg H a2) a2 (hI H 1341 a0 0).toNatClampNeg (hL H 1319 a0 0)) 1341 a0 0) :: _) _ _
    refine wp_aload_n 0 dX12_stepComes_63 rfl ?_
    refine wp_getL (ci := 12) (j := 20) dX12_stepComes_64 fi_X12_147r rfl rfl ht1 ?_
    change WP _ _ _ _ _ _ (.long (hL (sL H (tg H a2) a2 (hI H 1341 a0 0).toNatClampNeg (hL H 1319 a0 0)) 1320 a0 0) :: _) _ _
    obtain ⟨a5, ha5, h⟩ := h
    obtain ⟨hr6, h⟩ := h
    obtain ⟨hg7, h⟩ := h
    refine wp_lastore dX12_stepComes_67 ha5 hr6 hg7 ?_
    change WP _ _ _ _ _ _ _ (sL (sL H (tg H a2) a2 (hI H 1341 a0 0).toNatClampNeg (hL H 1319 a0 0)) (tg (sL H (tg H a2) a2 (hI H 1341 a0 0).toNatClampNeg (hL H 1319 a0 0)) a5) a5 (hI (sL H (tg H a2) a2 (hI H 1341 a0 0).toNatClampNeg (hL H 1319 a0 0)) 1341 a0 0).toNatClampNeg (hL (sL H (tg H a2) a2 (hI H 1341 a0 0).toNatClampNeg (hL H 1319 a0 0)) 1320 a0 0)) _
    replace h := h _ rfl
    generalize e9 : (sL (sL H (tg H a2) a2 (hI H 1341 a0 0).toNatClampNeg (hL H 1319 a0 0)) (tg (sL H (tg H a2) a2 (hI H 1341 a0 0).toNatClampNeg (hL H 1319 a0 0)) a5) a5 (hI (sL H (tg H a2) a2 (hI H 1341 a0 0).toNatClampNeg (hL H 1319 a0 0)) 1341 a0 0).toNatClampNeg (hL (sL H (tg H a2) a2 (hI H 1341 a0 0).toNatClampNeg (hL H 1319 a0 0)) 1320 a0 0)) = H8 at h ⊢
    have ht10 : tg H8 a0 = 13 := by rw [← e9]; exact ht1
    have hr11 : isA H8 a2 3 := by rw [← e9]; exact hr3
    have hr12 : isA H8 a5 3 := by rw [← e9]; exact hr6
    refine wp_aload_n 0 dX12_stepComes_68 rfl ?_
    refine wp_dup dX12_stepComes_69 (rv_cat _) ?_
    refine wp_getI (ci := 12) (j := 41) dX12_stepComes_70 fi_X12_320r rfl rfl ht10 ?_
    change WP _ _ _ _ _ _ (.int (hI H8 1341 a0 0) :: _) _ _
    refine wp_iconst (v := (1 : Int32)) dX12_stepComes_73 (by decide) ?_
    refine wp_iadd dX12_stepComes_74 ?_
    refine wp_putI (ci := 12) (j := 41) dX12_stepComes_75 fi_X12_320 rfl (fun z => by cases z) rfl ht10 rfl rfl ?_
    change WP _ _ _ _ _ _ _ (sI H8 1341 a0 0 ((hI H8 1341 a0 0) + (1 : Int32))) _
    refine wp_aload_n 0 dX12_stepComes_78 rfl ?_
    refine wp_getI (ci := 12) (j := 41) dX12_stepComes_79 fi_X12_320r rfl rfl ht10 ?_
    change WP _ _ _ _ _ _ (.int (hI (sI H8 1341 a0 0 ((hI H8 1341 a0 0) + (1 : Int32))) 1341 a0 0) :: _) _ _
    refine wp_iconst (v := (1 : Int32)) dX12_stepComes_82 (by decide) ?_
    refine wp_isub dX12_stepComes_83 ?_
    exact wp_ireturn (ty := .int) dX12_stepComes_84 rfl rfl ⟨_, rfl, h⟩
  · replace h := h.2 c
    refine wp_aload_n 0 dX12_stepComes_17 rfl ?_
    obtain ⟨ht13, h⟩ := h
    refine wp_getC (ci := 12) (j := 46) dX12_stepComes_18 fi_X12_80r rfl rfl ht13 ?_
    change WP _ _ _ _ _ _ (rv (hC H 1346 a0) :: _) _ _
    refine wp_iconst (v := (5 : Int32)) dX12_stepComes_21 (by decide) ?_
    refine wp_aload_n 0 dX12_stepComes_22 rfl ?_
    refine wp_getI (ci := 12) (j := 41) dX12_stepComes_23 fi_X12_320r rfl rfl ht13 ?_
    change WP _ _ _ _ _ _ (.int (hI H 1341 a0 0) :: _) _ _
    refine wp_imul dX12_stepComes_26 ?_
    refine wp_iload_n 1 dX12_stepComes_27 rfl ?_
    refine wp_iadd dX12_stepComes_28 ?_
    refine wp_aload_n 0 dX12_stepComes_29 rfl ?_
    refine wp_getC (ci := 12) (j := 37) dX12_stepComes_30 fi_X12_74r rfl rfl ht13 ?_
    change WP _ _ _ _ _ _ (rv (hC H 1337 a0) :: _) _ _
    refine wp_iload_n 1 dX12_stepComes_33 rfl ?_
    obtain ⟨a14, ha14, h⟩ := h
    obtain ⟨hr15, h⟩ := h
    obtain ⟨hg16, h⟩ := h
    refine wp_iaload dX12_stepComes_34 ha14 hr15 hg16 ?_
    obtain ⟨a17, ha17, h⟩ := h
    obtain ⟨hr18, h⟩ := h
    obtain ⟨hg19, h⟩ := h
    refine wp_iastore dX12_stepComes_35 ha17 hr18 hg19 ?_
    change WP _ _ _ _ _ _ _ (sI H (tg H a17) a17 (((5 : Int32) * (hI H 1341 a0 0)) + x2).toNatClampNeg (hI H (tg H a14) a14 x2.toNatClampNeg)) _
    refine wp_iinc (v := (x2 + 1)) (ls' := [(2, .int (x2 + 1)), (0, rv (some a0))]) 1 dX12_stepComes_36 rfl rfl (by decide) rfl ?_
    refine wp_goto (tgt := 12) dX12_stepComes_39 rfl ?_
    refine wp_sub (ls' := [(0, rv (some a0)), (2, .int (x2 + 1))]) [1, 0] rfl ?_
    exact h
theorem C_X12_stepComes {d : Nat} {q : HP → Int32 → Prop} {a0 : Nat} {x1 : Int32} {H : HP} (h : wb_X12_stepComes_0 d q a0 x1 H) : CI (d + 1) 0 0 mX12_stepComes [rv (some a0), .int x1] H q := by
  refine call_of (by decide +kernel) (by simp [lg_sl, rv_cat, vc_int, vc_long, vc_float, vc_double]) ?_
  have e : lv_args 0 [rv (some a0), .int x1] = [(0, rv (some a0)), (1, .int x1)] := by simp [lv_args, rv_cat, vc_int, vc_long, vc_float, vc_double]
  rw [e]
  exact T_X12_stepComes_0 h
def wb_X12_stores_0 (d : Nat) (q : HP → Int32 → Prop) (a0 : Nat) (x1 : Int32) (x2 : Int32) (x3 : Int32) (x4 : Int32) (H : HP) : Prop :=
  (x1 = (2 : Int32) → tg H a0 = 13 ∧ (∃ a2, (hC H 1361 a0) = some a2 ∧ (isA H a2 0 ∧ (vp_in (((6 : Int32) * x1) + x2) (ln H a2) ∧ (∃ a5, (hC (sI H (tg H a2) a2 (((6 : Int32) * x1) + x2).toNatClampNeg x3) 1362 a0) = some a5 ∧ (isA (sI H (tg H a2) a2 (((6 : Int32) * x1) + x2).toNatClampNeg x3) a5 0 ∧ (vp_in (((6 : Int32) * x1) + x2) (ln (sI H (tg H a2) a2 (((6 : Int32) * x1) + x2).toNatClampNeg x3) a5) ∧ (∀ H8, (sI (sI H (tg H a2) a2 (((6 : Int32) * x1) + x2).toNatClampNeg x3) (tg (sI H (tg H a2) a2 (((6 : Int32) * x1) + x2).toNatClampNeg x3) a5) a5 (((6 : Int32) * x1) + x2).toNatClampNeg x4) = H8 → (q H8 (1 : Int32)))))))))) ∧ (¬ (x1 = (2 : Int32)) → (x1 = x3 → tg H a0 = 13 ∧ (∃ a14, (hC H 1361 a0) = some a14 ∧ (isA H a14 0 ∧ (vp_in (((6 : Int32) * x1) + x2) (ln H a14) ∧ (∃ a17, (hC (sI H (tg H a14) a14 (((6 : Int32) * x1) + x2).toNatClampNeg x3) 1362 a0) = some a17 ∧ (isA (sI H (tg H a14) a14 (((6 : Int32) * x1) + x2).toNatClampNeg x3) a17 0 ∧ (vp_in (((6 : Int32) * x1) + x2) (ln (sI H (tg H a14) a14 (((6 : Int32) * x1) + x2).toNatClampNeg x3) a17) ∧ (∀ H20, (sI (sI H (tg H a14) a14 (((6 : Int32) * x1) + x2).toNatClampNeg x3) (tg (sI H (tg H a14) a14 (((6 : Int32) * x1) + x2).toNatClampNeg x3) a17) a17 (((6 : Int32) * x1) + x2).toNatClampNeg x4) = H20 → (q H20 (1 : Int32)))))))))) ∧ (¬ (x1 = x3) → q H (-16 : Int32)))
set_option maxRecDepth 40000 in
set_option maxHeartbeats 4000000 in
theorem T_X12_stores_0 {d : Nat} {q : HP → Int32 → Prop} {a0 : Nat} {x1 : Int32} {x2 : Int32} {x3 : Int32} {x4 : Int32} {H : HP} (h : wb_X12_stores_0 d q a0 x1 x2 x3 x4 H) : WP (d + 1) mX12_stores 0 0 0 [(0, rv (some a0)), (1, .int x1), (2, .int x2), (3, .int x3), (4, .int x4)] [] H (qI q) := by
  unfold wb_X12_stores_0 at h
  refine wp_iload_n 1 dX12_stores_0 rfl ?_
  refine wp_iconst (v := (2 : Int32)) dX12_stores_1 (by decide) ?_
  refine wp_icmp_eq (tgt := 13) dX12_stores_2 rfl (fun c => ?_) (fun c => ?_)
  · replace h := h.1 c
    refine wp_aload_n 0 dX12_stores_13 rfl ?_
    obtain ⟨ht1, h⟩ := h
    refine wp_getC (ci := 12) (j := 61) dX12_stores_14 fi_X12_121r rfl rfl ht1 ?_
    change WP _ _ _ _ _ _ (rv (hC H 1361 a0) :: _) _ _
    refine wp_bipush (v := (6 : Int32)) dX12_stores_17 (by decide) ?_
    refine wp_iload_n 1 dX12_stores_19 rfl ?_
    refine wp_imul dX12_stores_20 ?_
    refine wp_iload_n 2 dX12_stores_21 rfl ?_
    refine wp_iadd dX12_stores_22 ?_
    refine wp_iload_n 3 dX12_stores_23 rfl ?_
    obtain ⟨a2, ha2, h⟩ := h
    obtain ⟨hr3, h⟩ := h
    obtain ⟨hg4, h⟩ := h
    refine wp_iastore dX12_stores_24 ha2 hr3 hg4 ?_
    change WP _ _ _ _ _ _ _ (sI H (tg H a2) a2 (((6 : Int32) * x1) + x2).toNatClampNeg x3) _
    refine wp_aload_n 0 dX12_stores_25 rfl ?_
    refine wp_getC (ci := 12) (j := 62) dX12_stores_26 fi_X12_124r rfl rfl ht1 ?_
    change WP _ _ _ _ _ _ (rv (hC (sI H (tg H a2) a2 (((6 : Int32) * x1) + x2).toNatClampNeg x3) 1362 a0) :: _) _ _
    refine wp_bipush (v := (6 : Int32)) dX12_stores_29 (by decide) ?_
    refine wp_iload_n 1 dX12_stores_31 rfl ?_
    refine wp_imul dX12_stores_32 ?_
    refine wp_iload_n 2 dX12_stores_33 rfl ?_
    refine wp_iadd dX12_stores_34 ?_
    refine wp_iload 4 dX12_stores_35 rfl ?_
    obtain ⟨a5, ha5, h⟩ := h
    obtain ⟨hr6, h⟩ := h
    obtain ⟨hg7, h⟩ := h
    refine wp_iastore dX12_stores_37 ha5 hr6 hg7 ?_
    change WP _ _ _ _ _ _ _ (sI (sI H (tg H a2) a2 (((6 : Int32) * x1) + x2).toNatClampNeg x3) (tg (sI H (tg H a2) a2 (((6 : Int32) * x1) + x2).toNatClampNeg x3) a5) a5 (((6 : Int32) * x1) + x2).toNatClampNeg x4) _
    replace h := h _ rfl
    generalize e9 : (sI (sI H (tg H a2) a2 (((6 : Int32) * x1) + x2).toNatClampNeg x3) (tg (sI H (tg H a2) a2 (((6 : Int32) * x1) + x2).toNatClampNeg x3) a5) a5 (((6 : Int32) * x1) + x2).toNatClampNeg x4) = H8 at h ⊢
    have ht10 : tg H8 a0 = 13 := by rw [← e9]; exact ht1
    have hr11 : isA H8 a2 0 := by rw [← e9]; exact hr3
    have hr12 : isA H8 a5 0 := by rw [← e9]; exact hr6
    refine wp_iconst (v := (1 : Int32)) dX12_stores_38 (by decide) ?_
    exact wp_ireturn (ty := .int) dX12_stores_39 rfl rfl ⟨_, rfl, h⟩
  · replace h := h.2 c
    refine wp_iload_n 1 dX12_stores_5 rfl ?_
    refine wp_iload_n 3 dX12_stores_6 rfl ?_
    refine wp_icmp_eq (tgt := 13) dX12_stores_7 rfl (fun c => ?_) (fun c => ?_)
    · replace h := h.1 c
      refine wp_aload_n 0 dX12_stores_13 rfl ?_
      obtain ⟨ht13, h⟩ := h
      refine wp_getC (ci := 12) (j := 61) dX12_stores_14 fi_X12_121r rfl rfl ht13 ?_
      change WP _ _ _ _ _ _ (rv (hC H 1361 a0) :: _) _ _
      refine wp_bipush (v := (6 : Int32)) dX12_stores_17 (by decide) ?_
      refine wp_iload_n 1 dX12_stores_19 rfl ?_
      refine wp_imul dX12_stores_20 ?_
      refine wp_iload_n 2 dX12_stores_21 rfl ?_
      refine wp_iadd dX12_stores_22 ?_
      refine wp_iload_n 3 dX12_stores_23 rfl ?_
      obtain ⟨a14, ha14, h⟩ := h
      obtain ⟨hr15, h⟩ := h
      obtain ⟨hg16, h⟩ := h
      refine wp_iastore dX12_stores_24 ha14 hr15 hg16 ?_
      change WP _ _ _ _ _ _ _ (sI H (tg H a14) a14 (((6 : Int32) * x1) + x2).toNatClampNeg x3) _
      refine wp_aload_n 0 dX12_stores_25 rfl ?_
      refine wp_getC (ci := 12) (j := 62) dX12_stores_26 fi_X12_124r rfl rfl ht13 ?_
      change WP _ _ _ _ _ _ (rv (hC (sI H (tg H a14) a14 (((6 : Int32) * x1) + x2).toNatClampNeg x3) 1362 a0) :: _) _ _
      refine wp_bipush (v := (6 : Int32)) dX12_stores_29 (by decide) ?_
      refine wp_iload_n 1 dX12_stores_31 rfl ?_
      refine wp_imul dX12_stores_32 ?_
      refine wp_iload_n 2 dX12_stores_33 rfl ?_
      refine wp_iadd dX12_stores_34 ?_
      refine wp_iload 4 dX12_stores_35 rfl ?_
      obtain ⟨a17, ha17, h⟩ := h
      obtain ⟨hr18, h⟩ := h
      obtain ⟨hg19, h⟩ := h
      refine wp_iastore dX12_stores_37 ha17 hr18 hg19 ?_
      change WP _ _ _ _ _ _ _ (sI (sI H (tg H a14) a14 (((6 : Int32) * x1) + x2).toNatClampNeg x3) (tg (sI H (tg H a14) a14 (((6 : Int32) * x1) + x2).toNatClampNeg x3) a17) a17 (((6 : Int32) * x1) + x2).toNatClampNeg x4) _
      replace h := h _ rfl
      generalize e21 : (sI (sI H (tg H a14) a14 (((6 : Int32) * x1) + x2).toNatClampNeg x3) (tg (sI H (tg H a14) a14 (((6 : Int32) * x1) + x2).toNatClampNeg x3) a17) a17 (((6 : Int32) * x1) + x2).toNatClampNeg x4) = H20 at h ⊢
      have ht22 : tg H20 a0 = 13 := by rw [← e21]; exact ht13
      have hr23 : isA H20 a14 0 := by rw [← e21]; exact hr15
      have hr24 : isA H20 a17 0 := by rw [← e21]; exact hr18
      refine wp_iconst (v := (1 : Int32)) dX12_stores_38 (by decide) ?_
      exact wp_ireturn (ty := .int) dX12_stores_39 rfl rfl ⟨_, rfl, h⟩
    · replace h := h.2 c
      refine wp_bipush (v := (-16 : Int32)) dX12_stores_10 (by decide) ?_
      exact wp_ireturn (ty := .int) dX12_stores_12 rfl rfl ⟨_, rfl, h⟩
theorem C_X12_stores {d : Nat} {q : HP → Int32 → Prop} {a0 : Nat} {x1 : Int32} {x2 : Int32} {x3 : Int32} {x4 : Int32} {H : HP} (h : wb_X12_stores_0 d q a0 x1 x2 x3 x4 H) : CI (d + 1) 0 0 mX12_stores [rv (some a0), .int x1, .int x2, .int x3, .int x4] H q := by
  refine call_of (by decide +kernel) (by simp [lg_sl, rv_cat, vc_int, vc_long, vc_float, vc_double]) ?_
  have e : lv_args 0 [rv (some a0), .int x1, .int x2, .int x3, .int x4] = [(0, rv (some a0)), (1, .int x1), (2, .int x2), (3, .int x3), (4, .int x4)] := by simp [lv_args, rv_cat, vc_int, vc_long, vc_float, vc_double]
  rw [e]
  exact T_X12_stores_0 h
/-- UnitProverModel.sum()I: the loop at 5 -/
def L_X12_sum_5 (d : Nat) (q : HP → Int32 → Prop) (a0 : Nat) (x1 : Int32) (H : HP) : Prop := WP (d + 1) mX12_sum 0 0 5 [(0, rv (some a0)), (1, .int x1)] [] H (qI q)
def wb_X12_sum_0 (d : Nat) (q : HP → Int32 → Prop) (a0 : Nat) (H : HP) : Prop :=
  tg H a0 = 13 ∧ (CI d 0 0 mX12_term [rv (some a0)] H (fun H1 r3 => L_X12_sum_5 d q a0 r3 H1))
set_option maxRecDepth 40000 in
set_option maxHeartbeats 4000000 in
theorem T_X12_sum_0 {d : Nat} {q : HP → Int32 → Prop} {a0 : Nat} {H : HP} (h : wb_X12_sum_0 d q a0 H) : WP (d + 1) mX12_sum 0 0 0 [(0, rv (some a0))] [] H (qI q) := by
  unfold wb_X12_sum_0 at h
  refine wp_aload_n 0 dX12_sum_0 rfl ?_
  obtain ⟨ht2, h⟩ := h
  refine wp_callV (ci := 12) (As := []) (rest := []) (mc := 0) (ms := 0) dX12_sum_1 lk_X12_386 rfl rfl (by decide) rfl rfl rfl ht2 rfl rfl rfl w_7_132 (Call.weaken h ?_)
  rintro H1 _ ⟨r3, rfl, h⟩
  change WP _ _ _ _ _ _ [.int r3] H1 _
  refine wp_istore_n (ls' := [(1, .int r3), (0, rv (some a0))]) dX12_sum_4 (by decide) rfl ?_
  refine wp_sub (ls' := [(0, rv (some a0)), (1, .int r3)]) [1, 0] rfl ?_
  exact h
def wb_X12_sum_44 (d : Nat) (q : HP → Int32 → Prop) (a0 : Nat) (x1 : Int32) (s0 : Int32) (H : HP) : Prop :=
  tg H a0 = 13 ∧ (CI d 0 0 mX12_term [rv (some a0)] (sI H 1324 a0 0 ((hI H 1324 a0 0) + (1 : Int32))) (fun H2 r3 => tg H2 a0 = 13 ∧ ((0 ≤ (hI H2 1325 a0 0) → L_X12_sum_5 d q a0 x1 H2) ∧ (¬ (0 ≤ (hI H2 1325 a0 0)) → (s0 ≤ 0 → CI d 0 0 mX12_added [rv (some a0), .int x1, .int r3, .int s0, .int (4 : Int32)] H2 (fun H5 r6 => L_X12_sum_5 d q a0 r6 H5)) ∧ (¬ (s0 ≤ 0) → CI d 0 0 mX12_added [rv (some a0), .int x1, .int r3, .int s0, .int (3 : Int32)] H2 (fun H7 r8 => L_X12_sum_5 d q a0 r8 H7))))))
set_option maxRecDepth 40000 in
set_option maxHeartbeats 4000000 in
theorem T_X12_sum_44 {d : Nat} {q : HP → Int32 → Prop} {a0 : Nat} {x1 : Int32} {s0 : Int32} {H : HP} (h : wb_X12_sum_44 d q a0 x1 s0 H) : WP (d + 1) mX12_sum 0 0 44 [(0, rv (some a0)), (1, .int x1)] [.int s0] H (qI q) := by
  unfold wb_X12_sum_44 at h
  refine wp_istore_n (ls' := [(2, .int s0), (0, rv (some a0)), (1, .int x1)]) dX12_sum_44 (by decide) rfl ?_
  refine wp_aload_n 1 dX12_sum_45 rfl ?_
  refine wp_dup dX12_sum_46 (rv_cat _) ?_
  obtain ⟨ht1, h⟩ := h
  refine wp_getI (ci := 12) (j := 24) dX12_sum_47 fi_X12_174r rfl rfl ht1 ?_
  change WP _ _ _ _ _ _ (.int (hI H 1324 a0 0) :: _) _ _
  refine wp_iconst (v := (1 : Int32)) dX12_sum_50 (by decide) ?_
  refine wp_iadd dX12_sum_51 ?_
  refine wp_putI (ci := 12) (j := 24) dX12_sum_52 fi_X12_174 rfl (fun z => by cases z) rfl ht1 rfl rfl ?_
  change WP _ _ _ _ _ _ _ (sI H 1324 a0 0 ((hI H 1324 a0 0) + (1 : Int32))) _
  refine wp_aload_n 1 dX12_sum_55 rfl ?_
  refine wp_callV (ci := 12) (As := []) (rest := []) (mc := 0) (ms := 0) dX12_sum_56 lk_X12_386 rfl rfl (by decide) rfl rfl rfl ht1 rfl rfl rfl w_7_132 (Call.weaken h ?_)
  rintro H2 _ ⟨r3, rfl, h⟩
  change WP _ _ _ _ _ _ [.int r3] H2 _
  refine wp_istore_n (ls' := [(3, .int r3), (2, .int s0), (0, rv (some a0)), (1, .int x1)]) dX12_sum_59 (by decide) rfl ?_
  refine wp_aload_n 2 dX12_sum_60 rfl ?_
  obtain ⟨ht4, h⟩ := h
  refine wp_getI (ci := 12) (j := 25) dX12_sum_61 fi_X12_189r rfl rfl ht4 ?_
  change WP _ _ _ _ _ _ (.int (hI H2 1325 a0 0) :: _) _ _
  refine wp_if_ge (tgt := 84) dX12_sum_64 rfl (fun c => ?_) (fun c => ?_)
  · replace h := h.1 c
    refine wp_goto (tgt := 5) dX12_sum_84 rfl ?_
    refine wp_sub (ls' := [(0, rv (some a0)), (1, .int x1)]) [2, 3] rfl ?_
    exact h
  · replace h := h.2 c
    refine wp_aload_n 2 dX12_sum_67 rfl ?_
    refine wp_iload_n 3 dX12_sum_68 rfl ?_
    refine wp_iload_n 0 dX12_sum_69 rfl ?_
    refine wp_iload_n 1 dX12_sum_70 rfl ?_
    refine wp_iload_n 1 dX12_sum_71 rfl ?_
    refine wp_if_le (tgt := 79) dX12_sum_72 rfl (fun c => ?_) (fun c => ?_)
    · replace h := h.1 c
      refine wp_iconst (v := (4 : Int32)) dX12_sum_79 (by decide) ?_
      refine wp_callV (ci := 12) (As := [.int x1, .int r3, .int s0, .int (4 : Int32)]) (rest := []) (mc := 0) (ms := 0) dX12_sum_80 lk_X12_389 rfl rfl (by decide) rfl rfl rfl ht4 rfl rfl rfl w_7_197 (Call.weaken h ?_)
      rintro H5 _ ⟨r6, rfl, h⟩
      change WP _ _ _ _ _ _ [.int r6] H5 _
      refine wp_istore_n (ls' := [(1, .int r6), (3, .int r3), (2, .int s0), (0, rv (some a0))]) dX12_sum_83 (by decide) rfl ?_
      refine wp_goto (tgt := 5) dX12_sum_84 rfl ?_
      refine wp_sub (ls' := [(0, rv (some a0)), (1, .int r6)]) [3, 0] rfl ?_
      exact h
    · replace h := h.2 c
      refine wp_iconst (v := (3 : Int32)) dX12_sum_75 (by decide) ?_
      refine wp_goto (tgt := 80) dX12_sum_76 rfl ?_
      refine wp_callV (ci := 12) (As := [.int x1, .int r3, .int s0, .int (3 : Int32)]) (rest := []) (mc := 0) (ms := 0) dX12_sum_80 lk_X12_389 rfl rfl (by decide) rfl rfl rfl ht4 rfl rfl rfl w_7_197 (Call.weaken h ?_)
      rintro H7 _ ⟨r8, rfl, h⟩
      change WP _ _ _ _ _ _ [.int r8] H7 _
      refine wp_istore_n (ls' := [(1, .int r8), (3, .int r3), (2, .int s0), (0, rv (some a0))]) dX12_sum_83 (by decide) rfl ?_
      refine wp_goto (tgt := 5) dX12_sum_84 rfl ?_
      refine wp_sub (ls' := [(0, rv (some a0)), (1, .int r8)]) [3, 0] rfl ?_
      exact h
def wb_X12_sum_5 (d : Nat) (q : HP → Int32 → Prop) (a0 : Nat) (x1 : Int32) (H : HP) : Prop :=
  tg H a0 = 13 ∧ ((0 ≤ (hI H 1325 a0 0) → q H x1) ∧ (¬ (0 ≤ (hI H 1325 a0 0)) → CI d 0 0 mX12_here [rv (some a0)] H (fun H2 r3 => (r3 = (43 : Int32) → tg H2 a0 = 13 ∧ (CI d 0 0 mX12_here [rv (some a0)] H2 (fun H4 r6 => (¬ r6 = (43 : Int32) → wb_X12_sum_44 d q a0 x1 (-1 : Int32) H4) ∧ (r6 = (43 : Int32) → wb_X12_sum_44 d q a0 x1 (1 : Int32) H4)))) ∧ (¬ (r3 = (43 : Int32)) → tg H2 a0 = 13 ∧ (CI d 0 0 mX12_here [rv (some a0)] H2 (fun H7 r9 => (¬ r9 = (45 : Int32) → q H7 x1) ∧ (r9 = (45 : Int32) → tg H7 a0 = 13 ∧ (CI d 0 0 mX12_here [rv (some a0)] H7 (fun H10 r12 => (¬ r12 = (43 : Int32) → wb_X12_sum_44 d q a0 x1 (-1 : Int32) H10) ∧ (r12 = (43 : Int32) → wb_X12_sum_44 d q a0 x1 (1 : Int32) H10))))))))))
set_option maxRecDepth 40000 in
set_option maxHeartbeats 4000000 in
theorem T_X12_sum_5 {d : Nat} {q : HP → Int32 → Prop} {a0 : Nat} {x1 : Int32} {H : HP} (h : wb_X12_sum_5 d q a0 x1 H) : L_X12_sum_5 d q a0 x1 H := by
  unfold wb_X12_sum_5 at h
  unfold L_X12_sum_5
  refine wp_aload_n 0 dX12_sum_5 rfl ?_
  obtain ⟨ht1, h⟩ := h
  refine wp_getI (ci := 12) (j := 25) dX12_sum_6 fi_X12_189r rfl rfl ht1 ?_
  change WP _ _ _ _ _ _ (.int (hI H 1325 a0 0) :: _) _ _
  refine wp_if_ge (tgt := 87) dX12_sum_9 rfl (fun c => ?_) (fun c => ?_)
  · replace h := h.1 c
    refine wp_iload_n 1 dX12_sum_87 rfl ?_
    exact wp_ireturn (ty := .int) dX12_sum_88 rfl rfl ⟨_, rfl, h⟩
  · replace h := h.2 c
    refine wp_aload_n 0 dX12_sum_12 rfl ?_
    refine wp_callV (ci := 12) (As := []) (rest := []) (mc := 0) (ms := 0) dX12_sum_13 lk_X12_177 rfl rfl (by decide) rfl rfl rfl ht1 rfl rfl rfl w_6_206 (Call.weaken h ?_)
    rintro H2 _ ⟨r3, rfl, h⟩
    change WP _ _ _ _ _ _ [.int r3] H2 _
    refine wp_bipush (v := (43 : Int32)) dX12_sum_16 (by decide) ?_
    refine wp_icmp_eq (tgt := 30) dX12_sum_18 rfl (fun c => ?_) (fun c => ?_)
    · replace h := h.1 c
      refine wp_aload_n 0 dX12_sum_30 rfl ?_
      obtain ⟨ht5, h⟩ := h
      refine wp_callV (ci := 12) (As := []) (rest := []) (mc := 0) (ms := 0) dX12_sum_31 lk_X12_177 rfl rfl (by decide) rfl rfl rfl ht5 rfl rfl rfl w_6_206 (Call.weaken h ?_)
      rintro H4 _ ⟨r6, rfl, h⟩
      change WP _ _ _ _ _ _ [.int r6] H4 _
      refine wp_bipush (v := (43 : Int32)) dX12_sum_34 (by decide) ?_
      refine wp_icmp_ne (tgt := 43) dX12_sum_36 rfl (fun c => ?_) (fun c => ?_)
      · replace h := h.1 c
        refine wp_iconst (v := (-1 : Int32)) dX12_sum_43 (by decide) ?_
        exact T_X12_sum_44 h
      · replace h := h.2 c
        refine wp_iconst (v := (1 : Int32)) dX12_sum_39 (by decide) ?_
        refine wp_goto (tgt := 44) dX12_sum_40 rfl ?_
        exact T_X12_sum_44 h
    · replace h := h.2 c
      refine wp_aload_n 0 dX12_sum_21 rfl ?_
      obtain ⟨ht8, h⟩ := h
      refine wp_callV (ci := 12) (As := []) (rest := []) (mc := 0) (ms := 0) dX12_sum_22 lk_X12_177 rfl rfl (by decide) rfl rfl rfl ht8 rfl rfl rfl w_6_206 (Call.weaken h ?_)
      rintro H7 _ ⟨r9, rfl, h⟩
      change WP _ _ _ _ _ _ [.int r9] H7 _
      refine wp_bipush (v := (45 : Int32)) dX12_sum_25 (by decide) ?_
      refine wp_icmp_ne (tgt := 87) dX12_sum_27 rfl (fun c => ?_) (fun c => ?_)
      · replace h := h.1 c
        refine wp_iload_n 1 dX12_sum_87 rfl ?_
        exact wp_ireturn (ty := .int) dX12_sum_88 rfl rfl ⟨_, rfl, h⟩
      · replace h := h.2 c
        refine wp_aload_n 0 dX12_sum_30 rfl ?_
        obtain ⟨ht11, h⟩ := h
        refine wp_callV (ci := 12) (As := []) (rest := []) (mc := 0) (ms := 0) dX12_sum_31 lk_X12_177 rfl rfl (by decide) rfl rfl rfl ht11 rfl rfl rfl w_6_206 (Call.weaken h ?_)
        rintro H10 _ ⟨r12, rfl, h⟩
        change WP _ _ _ _ _ _ [.int r12] H10 _
        refine wp_bipush (v := (43 : Int32)) dX12_sum_34 (by decide) ?_
        refine wp_icmp_ne (tgt := 43) dX12_sum_36 rfl (fun c => ?_) (fun c => ?_)
        · replace h := h.1 c
          refine wp_iconst (v := (-1 : Int32)) dX12_sum_43 (by decide) ?_
          exact T_X12_sum_44 h
        · replace h := h.2 c
          refine wp_iconst (v := (1 : Int32)) dX12_sum_39 (by decide) ?_
          refine wp_goto (tgt := 44) dX12_sum_40 rfl ?_
          exact T_X12_sum_44 h
theorem C_X12_sum {d : Nat} {q : HP → Int32 → Prop} {a0 : Nat} {H : HP} (h : wb_X12_sum_0 d q a0 H) : CI (d + 1) 0 0 mX12_sum [rv (some a0)] H q := by
  refine call_of (by decide +kernel) (by simp [lg_sl, rv_cat, vc_int, vc_long, vc_float, vc_double]) ?_
  have e : lv_args 0 [rv (some a0)] = [(0, rv (some a0))] := by simp [lv_args, rv_cat, vc_int, vc_long, vc_float, vc_double]
  rw [e]
  exact T_X12_sum_0 h
/-- UnitProverModel.sums(II)V: the loop at 2 -/
def L_X12_sums_2 (d : Nat) (q : HP → Prop) (a0 : Nat) (x1 : Int32) (x2 : Int32) (x3 : Int32) (H : HP) : Prop := WP (d + 1) mX12_sums 0 0 2 [(0, rv (some a0)), (1, .int x1), (2, .int x2), (3, .int x3)] [] H (qV q)
def wb_X12_sums_0 (d : Nat) (q : HP → Prop) (a0 : Nat) (x1 : Int32) (x2 : Int32) (H : HP) : Prop :=
  L_X12_sums_2 d q a0 x1 x2 (0 : Int32) H
set_option maxRecDepth 40000 in
set_option maxHeartbeats 4000000 in
theorem T_X12_sums_0 {d : Nat} {q : HP → Prop} {a0 : Nat} {x1 : Int32} {x2 : Int32} {H : HP} (h : wb_X12_sums_0 d q a0 x1 x2 H) : WP (d + 1) mX12_sums 0 0 0 [(0, rv (some a0)), (1, .int x1), (2, .int x2)] [] H (qV q) := by
  unfold wb_X12_sums_0 at h
  refine wp_iconst (v := (0 : Int32)) dX12_sums_0 (by decide) ?_
  refine wp_istore_n (ls' := [(3, .int (0 : Int32)), (0, rv (some a0)), (1, .int x1), (2, .int x2)]) dX12_sums_1 (by decide) rfl ?_
  refine wp_sub (ls' := [(0, rv (some a0)), (1, .int x1), (2, .int x2), (3, .int (0 : Int32))]) [1, 2, 3, 0] rfl ?_
  exact h
def wb_X12_sums_2 (d : Nat) (q : HP → Prop) (a0 : Nat) (x1 : Int32) (x2 : Int32) (x3 : Int32) (H : HP) : Prop :=
  ((5 : Int32) ≤ x3 → q H) ∧ (¬ ((5 : Int32) ≤ x3) → tg H a0 = 13 ∧ (∃ a2, (hC H 1337 a0) = some a2 ∧ (isA H a2 0 ∧ (vp_in x3 (ln H a2) ∧ (∃ a5, (hC H 1302 a0) = some a5 ∧ (isA H a5 0 ∧ (vp_in (((5 : Int32) * x1) + x3) (ln H a5) ∧ (vp_in x3 (ln H a2) ∧ (L_X12_sums_2 d q a0 x1 x2 (x3 + 1) (sI H (tg H a2) a2 x3.toNatClampNeg ((hI H (tg H a2) a2 x3.toNatClampNeg) + (x2 * (hI H (tg H a5) a5 (((5 : Int32) * x1) + x3).toNatClampNeg)))))))))))))
set_option maxRecDepth 40000 in
set_option maxHeartbeats 4000000 in
theorem T_X12_sums_2 {d : Nat} {q : HP → Prop} {a0 : Nat} {x1 : Int32} {x2 : Int32} {x3 : Int32} {H : HP} (h : wb_X12_sums_2 d q a0 x1 x2 x3 H) : L_X12_sums_2 d q a0 x1 x2 x3 H := by
  unfold wb_X12_sums_2 at h
  unfold L_X12_sums_2
  refine wp_iload_n 3 dX12_sums_2 rfl ?_
  refine wp_iconst (v := (5 : Int32)) dX12_sums_3 (by decide) ?_
  refine wp_icmp_ge (tgt := 34) dX12_sums_4 rfl (fun c => ?_) (fun c => ?_)
  · replace h := h.1 c
    exact wp_return dX12_sums_34 rfl ⟨rfl, h⟩
  · replace h := h.2 c
    refine wp_aload_n 0 dX12_sums_7 rfl ?_
    obtain ⟨ht1, h⟩ := h
    refine wp_getC (ci := 12) (j := 37) dX12_sums_8 fi_X12_74r rfl rfl ht1 ?_
    change WP _ _ _ _ _ _ (rv (hC H 1337 a0) :: _) _ _
    refine wp_iload_n 3 dX12_sums_11 rfl ?_
    refine wp_dup2_11 dX12_sums_12 rfl (rv_cat _) ?_
    obtain ⟨a2, ha2, h⟩ := h
    obtain ⟨hr3, h⟩ := h
    obtain ⟨hg4, h⟩ := h
    refine wp_iaload dX12_sums_13 ha2 hr3 hg4 ?_
    refine wp_iload_n 2 dX12_sums_14 rfl ?_
    refine wp_aload_n 0 dX12_sums_15 rfl ?_
    refine wp_getC (ci := 12) (j := 2) dX12_sums_16 fi_X12_19r rfl rfl ht1 ?_
    change WP _ _ _ _ _ _ (rv (hC H 1302 a0) :: _) _ _
    refine wp_iconst (v := (5 : Int32)) dX12_sums_19 (by decide) ?_
    refine wp_iload_n 1 dX12_sums_20 rfl ?_
    refine wp_imul dX12_sums_21 ?_
    refine wp_iload_n 3 dX12_sums_22 rfl ?_
    refine wp_iadd dX12_sums_23 ?_
    obtain ⟨a5, ha5, h⟩ := h
    obtain ⟨hr6, h⟩ := h
    obtain ⟨hg7, h⟩ := h
    refine wp_iaload dX12_sums_24 ha5 hr6 hg7 ?_
    refine wp_imul dX12_sums_25 ?_
    refine wp_iadd dX12_sums_26 ?_
    obtain ⟨hg8, h⟩ := h
    refine wp_iastore dX12_sums_27 ha2 hr3 hg8 ?_
    change WP _ _ _ _ _ _ _ (sI H (tg H a2) a2 x3.toNatClampNeg ((hI H (tg H a2) a2 x3.toNatClampNeg) + (x2 * (hI H (tg H a5) a5 (((5 : Int32) * x1) + x3).toNatClampNeg)))) _
    refine wp_iinc (v := (x3 + 1)) (ls' := [(3, .int (x3 + 1)), (0, rv (some a0)), (1, .int x1), (2, .int x2)]) 3 dX12_sums_28 rfl rfl (by decide) rfl ?_
    refine wp_goto (tgt := 2) dX12_sums_31 rfl ?_
    refine wp_sub (ls' := [(0, rv (some a0)), (1, .int x1), (2, .int x2), (3, .int (x3 + 1))]) [1, 2, 3, 0] rfl ?_
    exact h
theorem C_X12_sums {d : Nat} {q : HP → Prop} {a0 : Nat} {x1 : Int32} {x2 : Int32} {H : HP} (h : wb_X12_sums_0 d q a0 x1 x2 H) : CV (d + 1) 0 0 mX12_sums [rv (some a0), .int x1, .int x2] H q := by
  refine call_of (by decide +kernel) (by simp [lg_sl, rv_cat, vc_int, vc_long, vc_float, vc_double]) ?_
  have e : lv_args 0 [rv (some a0), .int x1, .int x2] = [(0, rv (some a0)), (1, .int x1), (2, .int x2)] := by simp [lv_args, rv_cat, vc_int, vc_long, vc_float, vc_double]
  rw [e]
  exact T_X12_sums_0 h
/-- UnitProverModel.tells()V: the loop at 2 -/
def L_X12_tells_2 (d : Nat) (q : HP → Prop) (a0 : Nat) (x1 : Int32) (H : HP) : Prop := WP (d + 1) mX12_tells 0 0 2 [(0, rv (some a0)), (1, .int x1)] [] H (qV q)
def wb_X12_tells_0 (d : Nat) (q : HP → Prop) (a0 : Nat) (H : HP) : Prop :=
  L_X12_tells_2 d q a0 (0 : Int32) H
set_option maxRecDepth 40000 in
set_option maxHeartbeats 4000000 in
theorem T_X12_tells_0 {d : Nat} {q : HP → Prop} {a0 : Nat} {H : HP} (h : wb_X12_tells_0 d q a0 H) : WP (d + 1) mX12_tells 0 0 0 [(0, rv (some a0))] [] H (qV q) := by
  unfold wb_X12_tells_0 at h
  refine wp_iconst (v := (0 : Int32)) dX12_tells_0 (by decide) ?_
  refine wp_istore_n (ls' := [(1, .int (0 : Int32)), (0, rv (some a0))]) dX12_tells_1 (by decide) rfl ?_
  refine wp_sub (ls' := [(0, rv (some a0)), (1, .int (0 : Int32))]) [1, 0] rfl ?_
  exact h
def wb_X12_tells_2 (d : Nat) (q : HP → Prop) (a0 : Nat) (x1 : Int32) (H : HP) : Prop :=
  tg H a0 = 13 ∧ (((hI H 1307 a0 0) ≤ x1 → q H) ∧ (¬ ((hI H 1307 a0 0) ≤ x1) → ∃ a2, (hC H 1308 a0) = some a2 ∧ (isA H a2 0 ∧ (vp_in ((4 : Int32) * x1) (ln H a2) ∧ (vp_in (((4 : Int32) * x1) + (1 : Int32)) (ln H a2) ∧ (CZ d 0 0 mX12_areBound [rv (some a0), .int (hI H (tg H a2) a2 ((4 : Int32) * x1).toNatClampNeg), .int (hI H (tg H a2) a2 (((4 : Int32) * x1) + (1 : Int32)).toNatClampNeg), .int x1] H (fun H6 b7 => (b7 = true → tg H6 a0 = 13 ∧ (CV d 0 0 mX12_goes [rv (some a0), .int (hI H (tg H a2) a2 ((4 : Int32) * x1).toNatClampNeg), .int (hI H (tg H a2) a2 (((4 : Int32) * x1) + (1 : Int32)).toNatClampNeg)] H6 (fun H8 => tg H8 a0 = 13 ∧ (∃ a11, (hC H8 1308 a0) = some a11 ∧ (isA H8 a11 0 ∧ (vp_in (((4 : Int32) * x1) + (2 : Int32)) (ln H8 a11) ∧ (vp_in (((4 : Int32) * x1) + (3 : Int32)) (ln H8 a11) ∧ (CV d 0 0 mX12_becomes [rv (some a0), .long ((hI H8 (tg H8 a11) a11 (((4 : Int32) * x1) + (2 : Int32)).toNatClampNeg).toInt64), .long ((hI H8 (tg H8 a11) a11 (((4 : Int32) * x1) + (3 : Int32)).toNatClampNeg).toInt64)] H8 (fun H15 => tg H15 a0 = 13 ∧ (((hI H15 1321 a0 0) = 0 → (¬ (hL H8 1319 a0 0) = (hL H15 1319 a0 0) → ∃ a17, (hC H15 1354 a0) = some a17 ∧ (isA H15 a17 0 ∧ (vp_in x1 (ln H15 a17) ∧ (L_X12_tells_2 d q a0 (x1 + 1) (sI H15 (tg H15 a17) a17 x1.toNatClampNeg (2 : Int32)))))) ∧ ((hL H8 1319 a0 0) = (hL H15 1319 a0 0) → (¬ (hL H8 1320 a0 0) = (hL H15 1320 a0 0) → ∃ a20, (hC H15 1354 a0) = some a20 ∧ (isA H15 a20 0 ∧ (vp_in x1 (ln H15 a20) ∧ (L_X12_tells_2 d q a0 (x1 + 1) (sI H15 (tg H15 a20) a20 x1.toNatClampNeg (2 : Int32)))))) ∧ ((hL H8 1320 a0 0) = (hL H15 1320 a0 0) → ∃ a23, (hC H15 1354 a0) = some a23 ∧ (isA H15 a23 0 ∧ (vp_in x1 (ln H15 a23) ∧ (L_X12_tells_2 d q a0 (x1 + 1) (sI H15 (tg H15 a23) a23 x1.toNatClampNeg (1 : Int32)))))))) ∧ (¬ ((hI H15 1321 a0 0) = 0) → ∃ a26, (hC H15 1354 a0) = some a26 ∧ (isA H15 a26 0 ∧ (vp_in x1 (ln H15 a26) ∧ (L_X12_tells_2 d q a0 (x1 + 1) (sI H15 (tg H15 a26) a26 x1.toNatClampNeg (-15 : Int32)))))))))))))))) ∧ (b7 = false → tg H6 a0 = 13 ∧ (∃ a30, (hC H6 1354 a0) = some a30 ∧ (isA H6 a30 0 ∧ (vp_in x1 (ln H6 a30) ∧ (L_X12_tells_2 d q a0 (x1 + 1) (sI H6 (tg H6 a30) a30 x1.toNatClampNeg (0 : Int32))))))))))))))
set_option maxRecDepth 40000 in
set_option maxHeartbeats 4000000 in
theorem T_X12_tells_2 {d : Nat} {q : HP → Prop} {a0 : Nat} {x1 : Int32} {H : HP} (h : wb_X12_tells_2 d q a0 x1 H) : L_X12_tells_2 d q a0 x1 H := by
  unfold wb_X12_tells_2 at h
  unfold L_X12_tells_2
  refine wp_iload_n 1 dX12_tells_2 rfl ?_
  refine wp_aload_n 0 dX12_tells_3 rfl ?_
  obtain ⟨ht1, h⟩ := h
  refine wp_getI (ci := 12) (j := 7) dX12_tells_4 fi_X12_275r rfl rfl ht1 ?_
  change WP _ _ _ _ _ _ (.int (hI H 1307 a0 0) :: _) _ _
  refine wp_icmp_ge (tgt := 143) dX12_tells_7 rfl (fun c => ?_) (fun c => ?_)
  · replace h := h.1 c
    exact wp_return dX12_tells_143 rfl ⟨rfl, h⟩
  · replace h := h.2 c
    refine wp_aload_n 0 dX12_tells_10 rfl ?_
    refine wp_getC (ci := 12) (j := 8) dX12_tells_11 fi_X12_35r rfl rfl ht1 ?_
    change WP _ _ _ _ _ _ (rv (hC H 1308 a0) :: _) _ _
    refine wp_iconst (v := (4 : Int32)) dX12_tells_14 (by decide) ?_
    refine wp_iload_n 1 dX12_tells_15 rfl ?_
    refine wp_imul dX12_tells_16 ?_
    obtain ⟨a2, ha2, h⟩ := h
    obtain ⟨hr3, h⟩ := h
    obtain ⟨hg4, h⟩ := h
    refine wp_iaload dX12_tells_17 ha2 hr3 hg4 ?_
    refine wp_istore_n (ls' := [(2, .int (hI H (tg H a2) a2 ((4 : Int32) * x1).toNatClampNeg)), (0, rv (some a0)), (1, .int x1)]) dX12_tells_18 (by decide) rfl ?_
    refine wp_aload_n 1 dX12_tells_19 rfl ?_
    refine wp_getC (ci := 12) (j := 8) dX12_tells_20 fi_X12_35r rfl rfl ht1 ?_
    change WP _ _ _ _ _ _ (rv (hC H 1308 a0) :: _) _ _
    refine wp_iconst (v := (4 : Int32)) dX12_tells_23 (by decide) ?_
    refine wp_iload_n 2 dX12_tells_24 rfl ?_
    refine wp_imul dX12_tells_25 ?_
    refine wp_iconst (v := (1 : Int32)) dX12_tells_26 (by decide) ?_
    refine wp_iadd dX12_tells_27 ?_
    obtain ⟨hg5, h⟩ := h
    refine wp_iaload dX12_tells_28 ha2 hr3 hg5 ?_
    refine wp_istore_n (ls' := [(3, .int (hI H (tg H a2) a2 (((4 : Int32) * x1) + (1 : Int32)).toNatClampNeg)), (2, .int (hI H (tg H a2) a2 ((4 : Int32) * x1).toNatClampNeg)), (0, rv (some a0)), (1, .int x1)]) dX12_tells_29 (by decide) rfl ?_
    refine wp_aload_n 2 dX12_tells_30 rfl ?_
    refine wp_iload_n 1 dX12_tells_31 rfl ?_
    refine wp_iload_n 0 dX12_tells_32 rfl ?_
    refine wp_iload_n 3 dX12_tells_33 rfl ?_
    refine wp_callV (ci := 12) (As := [.int (hI H (tg H a2) a2 ((4 : Int32) * x1).toNatClampNeg), .int (hI H (tg H a2) a2 (((4 : Int32) * x1) + (1 : Int32)).toNatClampNeg), .int x1]) (rest := []) (mc := 0) (ms := 0) dX12_tells_34 lk_X12_440 rfl rfl (by decide) rfl rfl rfl ht1 rfl rfl rfl w_8_55 (Call.weaken h ?_)
    rintro H6 _ ⟨b7, rfl, h⟩
    change WP _ _ _ _ _ _ [.int (bI b7)] H6 _
    refine wp_if_ne (tgt := 50) dX12_tells_37 rfl (fun c => ?_) (fun c => ?_)
    · replace h := h.1 (bI_1.mp c)
      refine wp_aload_n 2 dX12_tells_50 rfl ?_
      refine wp_iload_n 1 dX12_tells_51 rfl ?_
      refine wp_iload_n 0 dX12_tells_52 rfl ?_
      obtain ⟨ht9, h⟩ := h
      refine wp_callV (ci := 12) (As := [.int (hI H (tg H a2) a2 ((4 : Int32) * x1).toNatClampNeg), .int (hI H (tg H a2) a2 (((4 : Int32) * x1) + (1 : Int32)).toNatClampNeg)]) (rest := []) (mc := 0) (ms := 0) dX12_tells_53 lk_X12_444 rfl rfl (by decide) rfl rfl rfl ht9 rfl rfl rfl w_8_59 (Call.weaken h ?_)
      rintro H8 _ ⟨rfl, h⟩
      change WP _ _ _ _ _ _ [] H8 _
      refine wp_aload_n 2 dX12_tells_56 rfl ?_
      obtain ⟨ht10, h⟩ := h
      refine wp_getL (ci := 12) (j := 19) dX12_tells_57 fi_X12_143r rfl rfl ht10 ?_
      change WP _ _ _ _ _ _ (.long (hL H8 1319 a0 0) :: _) _ _
      refine wp_lstore (ls' := [(4, .long (hL H8 1319 a0 0)), (3, .int (hI H (tg H a2) a2 (((4 : Int32) * x1) + (1 : Int32)).toNatClampNeg)), (2, .int (hI H (tg H a2) a2 ((4 : Int32) * x1).toNatClampNeg)), (0, rv (some a0)), (1, .int x1)]) dX12_tells_60 (by decide) rfl ?_
      refine wp_aload_n 3 dX12_tells_62 rfl ?_
      refine wp_getL (ci := 12) (j := 20) dX12_tells_63 fi_X12_147r rfl rfl ht10 ?_
      change WP _ _ _ _ _ _ (.long (hL H8 1320 a0 0) :: _) _ _
      refine wp_lstore (ls' := [(6, .long (hL H8 1320 a0 0)), (4, .long (hL H8 1319 a0 0)), (3, .int (hI H (tg H a2) a2 (((4 : Int32) * x1) + (1 : Int32)).toNatClampNeg)), (2, .int (hI H (tg H a2) a2 ((4 : Int32) * x1).toNatClampNeg)), (0, rv (some a0)), (1, .int x1)]) dX12_tells_66 (by decide) rfl ?_
      refine wp_aload_n 4 dX12_tells_68 rfl ?_
      refine wp_aload_n 4 dX12_tells_69 rfl ?_
      refine wp_getC (ci := 12) (j := 8) dX12_tells_70 fi_X12_35r rfl rfl ht10 ?_
      change WP _ _ _ _ _ _ (rv (hC H8 1308 a0) :: _) _ _
      refine wp_iconst (v := (4 : Int32)) dX12_tells_73 (by decide) ?_
      refine wp_iload_n 5 dX12_tells_74 rfl ?_
      refine wp_imul dX12_tells_75 ?_
      refine wp_iconst (v := (2 : Int32)) dX12_tells_76 (by decide) ?_
      refine wp_iadd dX12_tells_77 ?_
      obtain ⟨a11, ha11, h⟩ := h
      obtain ⟨hr12, h⟩ := h
      obtain ⟨hg13, h⟩ := h
      refine wp_iaload dX12_tells_78 ha11 hr12 hg13 ?_
      refine wp_i2l dX12_tells_79 ?_
      refine wp_aload_n 4 dX12_tells_80 rfl ?_
      refine wp_getC (ci := 12) (j := 8) dX12_tells_81 fi_X12_35r rfl rfl ht10 ?_
      change WP _ _ _ _ _ _ (rv (hC H8 1308 a0) :: _) _ _
      refine wp_iconst (v := (4 : Int32)) dX12_tells_84 (by decide) ?_
      refine wp_iload_n 5 dX12_tells_85 rfl ?_
      refine wp_imul dX12_tells_86 ?_
      refine wp_iconst (v := (3 : Int32)) dX12_tells_87 (by decide) ?_
      refine wp_iadd dX12_tells_88 ?_
      obtain ⟨hg14, h⟩ := h
      refine wp_iaload dX12_tells_89 ha11 hr12 hg14 ?_
      refine wp_i2l dX12_tells_90 ?_
      refine wp_callV (ci := 12) (As := [.long ((hI H8 (tg H8 a11) a11 (((4 : Int32) * x1) + (2 : Int32)).toNatClampNeg).toInt64), .long ((hI H8 (tg H8 a11) a11 (((4 : Int32) * x1) + (3 : Int32)).toNatClampNeg).toInt64)]) (rest := []) (mc := 0) (ms := 0) dX12_tells_91 lk_X12_157 rfl rfl (by decide) rfl rfl rfl ht10 rfl rfl rfl w_7_37 (Call.weaken h ?_)
      rintro H15 _ ⟨rfl, h⟩
      change WP _ _ _ _ _ _ [] H15 _
      refine wp_aload_n 4 dX12_tells_94 rfl ?_
      obtain ⟨ht16, h⟩ := h
      refine wp_getC (ci := 12) (j := 54) dX12_tells_95 fi_X12_98r rfl rfl ht16 ?_
      change WP _ _ _ _ _ _ (rv (hC H15 1354 a0) :: _) _ _
      refine wp_iload_n 5 dX12_tells_98 rfl ?_
      refine wp_aload_n 4 dX12_tells_99 rfl ?_
      refine wp_getI (ci := 12) (j := 21) dX12_tells_100 fi_X12_133r rfl rfl ht16 ?_
      change WP _ _ _ _ _ _ (.int (hI H15 1321 a0 0) :: _) _ _
      refine wp_if_eq (tgt := 111) dX12_tells_103 rfl (fun c => ?_) (fun c => ?_)
      · replace h := h.1 c
        refine wp_lload 1 dX12_tells_111 rfl ?_
        refine wp_aload_n 4 dX12_tells_113 rfl ?_
        refine wp_getL (ci := 12) (j := 19) dX12_tells_114 fi_X12_143r rfl rfl ht16 ?_
        change WP _ _ _ _ _ _ (.long (hL H15 1319 a0 0) :: _) _ _
        refine wp_lcmp dX12_tells_117 ?_
        refine wp_if_ne (tgt := 135) dX12_tells_118 rfl (fun c => ?_) (fun c => ?_)
        · replace h := h.1 (fun z => c (lgc_eq.mpr z))
          refine wp_iconst (v := (2 : Int32)) dX12_tells_135 (by decide) ?_
          obtain ⟨a17, ha17, h⟩ := h
          obtain ⟨hr18, h⟩ := h
          obtain ⟨hg19, h⟩ := h
          refine wp_iastore dX12_tells_136 ha17 hr18 hg19 ?_
          change WP _ _ _ _ _ _ _ (sI H15 (tg H15 a17) a17 x1.toNatClampNeg (2 : Int32)) _
          refine wp_iinc (v := (x1 + 1)) (ls' := [(1, .int (x1 + 1)), (6, .long (hL H8 1320 a0 0)), (4, .long (hL H8 1319 a0 0)), (3, .int (hI H (tg H a2) a2 (((4 : Int32) * x1) + (1 : Int32)).toNatClampNeg)), (2, .int (hI H (tg H a2) a2 ((4 : Int32) * x1).toNatClampNeg)), (0, rv (some a0))]) 5 dX12_tells_137 rfl rfl (by decide) rfl ?_
          refine wp_goto (tgt := 2) dX12_tells_140 rfl ?_
          refine wp_sub (ls' := [(0, rv (some a0)), (1, .int (x1 + 1))]) [5, 0] rfl ?_
          exact h
        · replace h := h.2 (lgc_eq.mp c)
          refine wp_lload 0 dX12_tells_121 rfl ?_
          refine wp_aload_n 4 dX12_tells_123 rfl ?_
          refine wp_getL (ci := 12) (j := 20) dX12_tells_124 fi_X12_147r rfl rfl ht16 ?_
          change WP _ _ _ _ _ _ (.long (hL H15 1320 a0 0) :: _) _ _
          refine wp_lcmp dX12_tells_127 ?_
          refine wp_if_ne (tgt := 135) dX12_tells_128 rfl (fun c => ?_) (fun c => ?_)
          · replace h := h.1 (fun z => c (lgc_eq.mpr z))
            refine wp_iconst (v := (2 : Int32)) dX12_tells_135 (by decide) ?_
            obtain ⟨a20, ha20, h⟩ := h
            obtain ⟨hr21, h⟩ := h
            obtain ⟨hg22, h⟩ := h
            refine wp_iastore dX12_tells_136 ha20 hr21 hg22 ?_
            change WP _ _ _ _ _ _ _ (sI H15 (tg H15 a20) a20 x1.toNatClampNeg (2 : Int32)) _
            refine wp_iinc (v := (x1 + 1)) (ls' := [(1, .int (x1 + 1)), (6, .long (hL H8 1320 a0 0)), (4, .long (hL H8 1319 a0 0)), (3, .int (hI H (tg H a2) a2 (((4 : Int32) * x1) + (1 : Int32)).toNatClampNeg)), (2, .int (hI H (tg H a2) a2 ((4 : Int32) * x1).toNatClampNeg)), (0, rv (some a0))]) 5 dX12_tells_137 rfl rfl (by decide) rfl ?_
            refine wp_goto (tgt := 2) dX12_tells_140 rfl ?_
            refine wp_sub (ls' := [(0, rv (some a0)), (1, .int (x1 + 1))]) [5, 0] rfl ?_
            exact h
          · replace h := h.2 (lgc_eq.mp c)
            refine wp_iconst (v := (1 : Int32)) dX12_tells_131 (by decide) ?_
            refine wp_goto (tgt := 136) dX12_tells_132 rfl ?_
            obtain ⟨a23, ha23, h⟩ := h
            obtain ⟨hr24, h⟩ := h
            obtain ⟨hg25, h⟩ := h
            refine wp_iastore dX12_tells_136 ha23 hr24 hg25 ?_
            change WP _ _ _ _ _ _ _ (sI H15 (tg H15 a23) a23 x1.toNatClampNeg (1 : Int32)) _
            refine wp_iinc (v := (x1 + 1)) (ls' := [(1, .int (x1 + 1)), (6, .long (hL H8 1320 a0 0)), (4, .long (hL H8 1319 a0 0)), (3, .int (hI H (tg H a2) a2 (((4 : Int32) * x1) + (1 : Int32)).toNatClampNeg)), (2, .int (hI H (tg H a2) a2 ((4 : Int32) * x1).toNatClampNeg)), (0, rv (some a0))]) 5 dX12_tells_137 rfl rfl (by decide) rfl ?_
            refine wp_goto (tgt := 2) dX12_tells_140 rfl ?_
            refine wp_sub (ls' := [(0, rv (some a0)), (1, .int (x1 + 1))]) [5, 0] rfl ?_
            exact h
      · replace h := h.2 c
        refine wp_bipush (v := (-15 : Int32)) dX12_tells_106 (by decide) ?_
        refine wp_goto (tgt := 136) dX12_tells_108 rfl ?_
        obtain ⟨a26, ha26, h⟩ := h
        obtain ⟨hr27, h⟩ := h
        obtain ⟨hg28, h⟩ := h
        refine wp_iastore dX12_tells_136 ha26 hr27 hg28 ?_
        change WP _ _ _ _ _ _ _ (sI H15 (tg H15 a26) a26 x1.toNatClampNeg (-15 : Int32)) _
        refine wp_iinc (v := (x1 + 1)) (ls' := [(1, .int (x1 + 1)), (6, .long (hL H8 1320 a0 0)), (4, .long (hL H8 1319 a0 0)), (3, .int (hI H (tg H a2) a2 (((4 : Int32) * x1) + (1 : Int32)).toNatClampNeg)), (2, .int (hI H (tg H a2) a2 ((4 : Int32) * x1).toNatClampNeg)), (0, rv (some a0))]) 5 dX12_tells_137 rfl rfl (by decide) rfl ?_
        refine wp_goto (tgt := 2) dX12_tells_140 rfl ?_
        refine wp_sub (ls' := [(0, rv (some a0)), (1, .int (x1 + 1))]) [5, 0] rfl ?_
        exact h
    · replace h := h.2 (bI_0.mp c)
      refine wp_aload_n 2 dX12_tells_40 rfl ?_
      obtain ⟨ht29, h⟩ := h
      refine wp_getC (ci := 12) (j := 54) dX12_tells_41 fi_X12_98r rfl rfl ht29 ?_
      change WP _ _ _ _ _ _ (rv (hC H6 1354 a0) :: _) _ _
      refine wp_iload_n 3 dX12_tells_44 rfl ?_
      refine wp_iconst (v := (0 : Int32)) dX12_tells_45 (by decide) ?_
      obtain ⟨a30, ha30, h⟩ := h
      obtain ⟨hr31, h⟩ := h
      obtain ⟨hg32, h⟩ := h
      refine wp_iastore dX12_tells_46 ha30 hr31 hg32 ?_
      change WP _ _ _ _ _ _ _ (sI H6 (tg H6 a30) a30 x1.toNatClampNeg (0 : Int32)) _
      refine wp_goto (tgt := 137) dX12_tells_47 rfl ?_
      refine wp_iinc (v := (x1 + 1)) (ls' := [(1, .int (x1 + 1)), (3, .int (hI H (tg H a2) a2 (((4 : Int32) * x1) + (1 : Int32)).toNatClampNeg)), (2, .int (hI H (tg H a2) a2 ((4 : Int32) * x1).toNatClampNeg)), (0, rv (some a0))]) 3 dX12_tells_137 rfl rfl (by decide) rfl ?_
      refine wp_goto (tgt := 2) dX12_tells_140 rfl ?_
      refine wp_sub (ls' := [(0, rv (some a0)), (1, .int (x1 + 1))]) [3, 0] rfl ?_
      exact h
theorem C_X12_tells {d : Nat} {q : HP → Prop} {a0 : Nat} {H : HP} (h : wb_X12_tells_0 d q a0 H) : CV (d + 1) 0 0 mX12_tells [rv (some a0)] H q := by
  refine call_of (by decide +kernel) (by simp [lg_sl, rv_cat, vc_int, vc_long, vc_float, vc_double]) ?_
  have e : lv_args 0 [rv (some a0)] = [(0, rv (some a0))] := by simp [lv_args, rv_cat, vc_int, vc_long, vc_float, vc_double]
  rw [e]
  exact T_X12_tells_0 h
/-- UnitProverModel.term()I: the loop at 10 -/
def L_X12_term_10 (d : Nat) (q : HP → Int32 → Prop) (a0 : Nat) (x1 : Int32) (x2 : Int32) (H : HP) : Prop := WP (d + 1) mX12_term 0 0 10 [(0, rv (some a0)), (1, .int x1), (2, .int x2)] [] H (qI q)
def wb_X12_term_0 (d : Nat) (q : HP → Int32 → Prop) (a0 : Nat) (H : HP) : Prop :=
  tg H a0 = 13 ∧ (CI d 0 0 mX12_part [rv (some a0)] H (fun H1 r3 => tg H1 a0 = 13 ∧ (L_X12_term_10 d q a0 r3 (hI H1 1349 a0 0) H1)))
set_option maxRecDepth 40000 in
set_option maxHeartbeats 4000000 in
theorem T_X12_term_0 {d : Nat} {q : HP → Int32 → Prop} {a0 : Nat} {H : HP} (h : wb_X12_term_0 d q a0 H) : WP (d + 1) mX12_term 0 0 0 [(0, rv (some a0))] [] H (qI q) := by
  unfold wb_X12_term_0 at h
  refine wp_aload_n 0 dX12_term_0 rfl ?_
  obtain ⟨ht2, h⟩ := h
  refine wp_callV (ci := 12) (As := []) (rest := []) (mc := 0) (ms := 0) dX12_term_1 lk_X12_380 rfl rfl (by decide) rfl rfl rfl ht2 rfl rfl rfl w_7_136 (Call.weaken h ?_)
  rintro H1 _ ⟨r3, rfl, h⟩
  change WP _ _ _ _ _ _ [.int r3] H1 _
  refine wp_istore_n (ls' := [(1, .int r3), (0, rv (some a0))]) dX12_term_4 (by decide) rfl ?_
  refine wp_aload_n 1 dX12_term_5 rfl ?_
  obtain ⟨ht4, h⟩ := h
  refine wp_getI (ci := 12) (j := 49) dX12_term_6 fi_X12_359r rfl rfl ht4 ?_
  change WP _ _ _ _ _ _ (.int (hI H1 1349 a0 0) :: _) _ _
  refine wp_istore_n (ls' := [(2, .int (hI H1 1349 a0 0)), (1, .int r3), (0, rv (some a0))]) dX12_term_9 (by decide) rfl ?_
  refine wp_sub (ls' := [(0, rv (some a0)), (1, .int r3), (2, .int (hI H1 1349 a0 0))]) [2, 1, 0] rfl ?_
  exact h
def wb_X12_term_49 (d : Nat) (q : HP → Int32 → Prop) (a0 : Nat) (x1 : Int32) (x2 : Int32) (s0 : Int32) (H : HP) : Prop :=
  tg H a0 = 13 ∧ (CI d 0 0 mX12_part [rv (some a0)] (sI H 1324 a0 0 ((hI H 1324 a0 0) + (1 : Int32))) (fun H2 r3 => tg H2 a0 = 13 ∧ ((0 ≤ (hI H2 1325 a0 0) → L_X12_term_10 d q a0 x1 (0 : Int32) H2) ∧ (¬ (0 ≤ (hI H2 1325 a0 0)) → (¬ x2 = 0 → CI d 0 0 mX12_product_ [rv (some a0), .int x1, .int r3, .int s0, .int (1 : Int32)] H2 (fun H5 r6 => L_X12_term_10 d q a0 r6 (0 : Int32) H5)) ∧ (x2 = 0 → ((hI H2 1349 a0 0) = 0 → CI d 0 0 mX12_product_ [rv (some a0), .int x1, .int r3, .int s0, .int (0 : Int32)] H2 (fun H7 r8 => L_X12_term_10 d q a0 r8 (0 : Int32) H7)) ∧ (¬ ((hI H2 1349 a0 0) = 0) → CI d 0 0 mX12_product_ [rv (some a0), .int x1, .int r3, .int s0, .int (1 : Int32)] H2 (fun H9 r10 => L_X12_term_10 d q a0 r10 (0 : Int32) H9)))))))
set_option maxRecDepth 40000 in
set_option maxHeartbeats 4000000 in
theorem T_X12_term_49 {d : Nat} {q : HP → Int32 → Prop} {a0 : Nat} {x1 : Int32} {x2 : Int32} {s0 : Int32} {H : HP} (h : wb_X12_term_49 d q a0 x1 x2 s0 H) : WP (d + 1) mX12_term 0 0 49 [(0, rv (some a0)), (1, .int x1), (2, .int x2)] [.int s0] H (qI q) := by
  unfold wb_X12_term_49 at h
  refine wp_istore_n (ls' := [(3, .int s0), (0, rv (some a0)), (1, .int x1), (2, .int x2)]) dX12_term_49 (by decide) rfl ?_
  refine wp_aload_n 1 dX12_term_50 rfl ?_
  refine wp_dup dX12_term_51 (rv_cat _) ?_
  obtain ⟨ht1, h⟩ := h
  refine wp_getI (ci := 12) (j := 24) dX12_term_52 fi_X12_174r rfl rfl ht1 ?_
  change WP _ _ _ _ _ _ (.int (hI H 1324 a0 0) :: _) _ _
  refine wp_iconst (v := (1 : Int32)) dX12_term_55 (by decide) ?_
  refine wp_iadd dX12_term_56 ?_
  refine wp_putI (ci := 12) (j := 24) dX12_term_57 fi_X12_174 rfl (fun z => by cases z) rfl ht1 rfl rfl ?_
  change WP _ _ _ _ _ _ _ (sI H 1324 a0 0 ((hI H 1324 a0 0) + (1 : Int32))) _
  refine wp_aload_n 1 dX12_term_60 rfl ?_
  refine wp_callV (ci := 12) (As := []) (rest := []) (mc := 0) (ms := 0) dX12_term_61 lk_X12_380 rfl rfl (by decide) rfl rfl rfl ht1 rfl rfl rfl w_7_136 (Call.weaken h ?_)
  rintro H2 _ ⟨r3, rfl, h⟩
  change WP _ _ _ _ _ _ [.int r3] H2 _
  refine wp_istore (ls' := [(4, .int r3), (3, .int s0), (0, rv (some a0)), (1, .int x1), (2, .int x2)]) dX12_term_64 (by decide) rfl ?_
  refine wp_aload_n 2 dX12_term_66 rfl ?_
  obtain ⟨ht4, h⟩ := h
  refine wp_getI (ci := 12) (j := 25) dX12_term_67 fi_X12_189r rfl rfl ht4 ?_
  change WP _ _ _ _ _ _ (.int (hI H2 1325 a0 0) :: _) _ _
  refine wp_if_ge (tgt := 98) dX12_term_70 rfl (fun c => ?_) (fun c => ?_)
  · replace h := h.1 c
    refine wp_iconst (v := (0 : Int32)) dX12_term_98 (by decide) ?_
    refine wp_istore_n (ls' := [(2, .int (0 : Int32)), (4, .int r3), (3, .int s0), (0, rv (some a0)), (1, .int x1)]) dX12_term_99 (by decide) rfl ?_
    refine wp_goto (tgt := 10) dX12_term_100 rfl ?_
    refine wp_sub (ls' := [(0, rv (some a0)), (1, .int x1), (2, .int (0 : Int32))]) [3, 4, 0] rfl ?_
    exact h
  · replace h := h.2 c
    refine wp_aload_n 2 dX12_term_73 rfl ?_
    refine wp_iload_n 3 dX12_term_74 rfl ?_
    refine wp_iload 0 dX12_term_75 rfl ?_
    refine wp_iload_n 1 dX12_term_77 rfl ?_
    refine wp_iload_n 4 dX12_term_78 rfl ?_
    refine wp_if_ne (tgt := 89) dX12_term_79 rfl (fun c => ?_) (fun c => ?_)
    · replace h := h.1 c
      refine wp_iconst (v := (1 : Int32)) dX12_term_89 (by decide) ?_
      refine wp_goto (tgt := 94) dX12_term_90 rfl ?_
      refine wp_callV (ci := 12) (As := [.int x1, .int r3, .int s0, .int (1 : Int32)]) (rest := []) (mc := 0) (ms := 0) dX12_term_94 lk_X12_383 rfl rfl (by decide) rfl rfl rfl ht4 rfl rfl rfl w_7_193 (Call.weaken h ?_)
      rintro H5 _ ⟨r6, rfl, h⟩
      change WP _ _ _ _ _ _ [.int r6] H5 _
      refine wp_istore_n (ls' := [(1, .int r6), (4, .int r3), (3, .int s0), (0, rv (some a0)), (2, .int x2)]) dX12_term_97 (by decide) rfl ?_
      refine wp_iconst (v := (0 : Int32)) dX12_term_98 (by decide) ?_
      refine wp_istore_n (ls' := [(2, .int (0 : Int32)), (1, .int r6), (4, .int r3), (3, .int s0), (0, rv (some a0))]) dX12_term_99 (by decide) rfl ?_
      refine wp_goto (tgt := 10) dX12_term_100 rfl ?_
      refine wp_sub (ls' := [(0, rv (some a0)), (1, .int r6), (2, .int (0 : Int32))]) [4, 1, 0] rfl ?_
      exact h
    · replace h := h.2 c
      refine wp_aload_n 2 dX12_term_82 rfl ?_
      refine wp_getI (ci := 12) (j := 49) dX12_term_83 fi_X12_359r rfl rfl ht4 ?_
      change WP _ _ _ _ _ _ (.int (hI H2 1349 a0 0) :: _) _ _
      refine wp_if_eq (tgt := 93) dX12_term_86 rfl (fun c => ?_) (fun c => ?_)
      · replace h := h.1 c
        refine wp_iconst (v := (0 : Int32)) dX12_term_93 (by decide) ?_
        refine wp_callV (ci := 12) (As := [.int x1, .int r3, .int s0, .int (0 : Int32)]) (rest := []) (mc := 0) (ms := 0) dX12_term_94 lk_X12_383 rfl rfl (by decide) rfl rfl rfl ht4 rfl rfl rfl w_7_193 (Call.weaken h ?_)
        rintro H7 _ ⟨r8, rfl, h⟩
        change WP _ _ _ _ _ _ [.int r8] H7 _
        refine wp_istore_n (ls' := [(1, .int r8), (4, .int r3), (3, .int s0), (0, rv (some a0)), (2, .int x2)]) dX12_term_97 (by decide) rfl ?_
        refine wp_iconst (v := (0 : Int32)) dX12_term_98 (by decide) ?_
        refine wp_istore_n (ls' := [(2, .int (0 : Int32)), (1, .int r8), (4, .int r3), (3, .int s0), (0, rv (some a0))]) dX12_term_99 (by decide) rfl ?_
        refine wp_goto (tgt := 10) dX12_term_100 rfl ?_
        refine wp_sub (ls' := [(0, rv (some a0)), (1, .int r8), (2, .int (0 : Int32))]) [4, 1, 0] rfl ?_
        exact h
      · replace h := h.2 c
        refine wp_iconst (v := (1 : Int32)) dX12_term_89 (by decide) ?_
        refine wp_goto (tgt := 94) dX12_term_90 rfl ?_
        refine wp_callV (ci := 12) (As := [.int x1, .int r3, .int s0, .int (1 : Int32)]) (rest := []) (mc := 0) (ms := 0) dX12_term_94 lk_X12_383 rfl rfl (by decide) rfl rfl rfl ht4 rfl rfl rfl w_7_193 (Call.weaken h ?_)
        rintro H9 _ ⟨r10, rfl, h⟩
        change WP _ _ _ _ _ _ [.int r10] H9 _
        refine wp_istore_n (ls' := [(1, .int r10), (4, .int r3), (3, .int s0), (0, rv (some a0)), (2, .int x2)]) dX12_term_97 (by decide) rfl ?_
        refine wp_iconst (v := (0 : Int32)) dX12_term_98 (by decide) ?_
        refine wp_istore_n (ls' := [(2, .int (0 : Int32)), (1, .int r10), (4, .int r3), (3, .int s0), (0, rv (some a0))]) dX12_term_99 (by decide) rfl ?_
        refine wp_goto (tgt := 10) dX12_term_100 rfl ?_
        refine wp_sub (ls' := [(0, rv (some a0)), (1, .int r10), (2, .int (0 : Int32))]) [4, 1, 0] rfl ?_
        exact h
def wb_X12_term_10 (d : Nat) (q : HP → Int32 → Prop) (a0 : Nat) (x1 : Int32) (x2 : Int32) (H : HP) : Prop :=
  tg H a0 = 13 ∧ ((0 ≤ (hI H 1325 a0 0) → q H x1) ∧ (¬ (0 ≤ (hI H 1325 a0 0)) → CI d 0 0 mX12_here [rv (some a0)] H (fun H2 r3 => (r3 = (42 : Int32) → tg H2 a0 = 13 ∧ (CI d 0 0 mX12_here [rv (some a0)] H2 (fun H4 r6 => (¬ r6 = (42 : Int32) → wb_X12_term_49 d q a0 x1 x2 (-1 : Int32) H4) ∧ (r6 = (42 : Int32) → wb_X12_term_49 d q a0 x1 x2 (1 : Int32) H4)))) ∧ (¬ (r3 = (42 : Int32)) → tg H2 a0 = 13 ∧ (CI d 0 0 mX12_here [rv (some a0)] H2 (fun H7 r9 => (¬ r9 = (47 : Int32) → q H7 x1) ∧ (r9 = (47 : Int32) → tg H7 a0 = 13 ∧ (CI d 0 0 mX12_here [rv (some a0)] H7 (fun H10 r12 => (¬ r12 = (42 : Int32) → wb_X12_term_49 d q a0 x1 x2 (-1 : Int32) H10) ∧ (r12 = (42 : Int32) → wb_X12_term_49 d q a0 x1 x2 (1 : Int32) H10))))))))))
set_option maxRecDepth 40000 in
set_option maxHeartbeats 4000000 in
theorem T_X12_term_10 {d : Nat} {q : HP → Int32 → Prop} {a0 : Nat} {x1 : Int32} {x2 : Int32} {H : HP} (h : wb_X12_term_10 d q a0 x1 x2 H) : L_X12_term_10 d q a0 x1 x2 H := by
  unfold wb_X12_term_10 at h
  unfold L_X12_term_10
  refine wp_aload_n 0 dX12_term_10 rfl ?_
  obtain ⟨ht1, h⟩ := h
  refine wp_getI (ci := 12) (j := 25) dX12_term_11 fi_X12_189r rfl rfl ht1 ?_
  change WP _ _ _ _ _ _ (.int (hI H 1325 a0 0) :: _) _ _
  refine wp_if_ge (tgt := 103) dX12_term_14 rfl (fun c => ?_) (fun c => ?_)
  · replace h := h.1 c
    refine wp_iload_n 1 dX12_term_103 rfl ?_
    exact wp_ireturn (ty := .int) dX12_term_104 rfl rfl ⟨_, rfl, h⟩
  · replace h := h.2 c
    refine wp_aload_n 0 dX12_term_17 rfl ?_
    refine wp_callV (ci := 12) (As := []) (rest := []) (mc := 0) (ms := 0) dX12_term_18 lk_X12_177 rfl rfl (by decide) rfl rfl rfl ht1 rfl rfl rfl w_6_206 (Call.weaken h ?_)
    rintro H2 _ ⟨r3, rfl, h⟩
    change WP _ _ _ _ _ _ [.int r3] H2 _
    refine wp_bipush (v := (42 : Int32)) dX12_term_21 (by decide) ?_
    refine wp_icmp_eq (tgt := 35) dX12_term_23 rfl (fun c => ?_) (fun c => ?_)
    · replace h := h.1 c
      refine wp_aload_n 0 dX12_term_35 rfl ?_
      obtain ⟨ht5, h⟩ := h
      refine wp_callV (ci := 12) (As := []) (rest := []) (mc := 0) (ms := 0) dX12_term_36 lk_X12_177 rfl rfl (by decide) rfl rfl rfl ht5 rfl rfl rfl w_6_206 (Call.weaken h ?_)
      rintro H4 _ ⟨r6, rfl, h⟩
      change WP _ _ _ _ _ _ [.int r6] H4 _
      refine wp_bipush (v := (42 : Int32)) dX12_term_39 (by decide) ?_
      refine wp_icmp_ne (tgt := 48) dX12_term_41 rfl (fun c => ?_) (fun c => ?_)
      · replace h := h.1 c
        refine wp_iconst (v := (-1 : Int32)) dX12_term_48 (by decide) ?_
        exact T_X12_term_49 h
      · replace h := h.2 c
        refine wp_iconst (v := (1 : Int32)) dX12_term_44 (by decide) ?_
        refine wp_goto (tgt := 49) dX12_term_45 rfl ?_
        exact T_X12_term_49 h
    · replace h := h.2 c
      refine wp_aload_n 0 dX12_term_26 rfl ?_
      obtain ⟨ht8, h⟩ := h
      refine wp_callV (ci := 12) (As := []) (rest := []) (mc := 0) (ms := 0) dX12_term_27 lk_X12_177 rfl rfl (by decide) rfl rfl rfl ht8 rfl rfl rfl w_6_206 (Call.weaken h ?_)
      rintro H7 _ ⟨r9, rfl, h⟩
      change WP _ _ _ _ _ _ [.int r9] H7 _
      refine wp_bipush (v := (47 : Int32)) dX12_term_30 (by decide) ?_
      refine wp_icmp_ne (tgt := 103) dX12_term_32 rfl (fun c => ?_) (fun c => ?_)
      · replace h := h.1 c
        refine wp_iload_n 1 dX12_term_103 rfl ?_
        exact wp_ireturn (ty := .int) dX12_term_104 rfl rfl ⟨_, rfl, h⟩
      · replace h := h.2 c
        refine wp_aload_n 0 dX12_term_35 rfl ?_
        obtain ⟨ht11, h⟩ := h
        refine wp_callV (ci := 12) (As := []) (rest := []) (mc := 0) (ms := 0) dX12_term_36 lk_X12_177 rfl rfl (by decide) rfl rfl rfl ht11 rfl rfl rfl w_6_206 (Call.weaken h ?_)
        rintro H10 _ ⟨r12, rfl, h⟩
        change WP _ _ _ _ _ _ [.int r12] H10 _
        refine wp_bipush (v := (42 : Int32)) dX12_term_39 (by decide) ?_
        refine wp_icmp_ne (tgt := 48) dX12_term_41 rfl (fun c => ?_) (fun c => ?_)
        · replace h := h.1 c
          refine wp_iconst (v := (-1 : Int32)) dX12_term_48 (by decide) ?_
          exact T_X12_term_49 h
        · replace h := h.2 c
          refine wp_iconst (v := (1 : Int32)) dX12_term_44 (by decide) ?_
          refine wp_goto (tgt := 49) dX12_term_45 rfl ?_
          exact T_X12_term_49 h
theorem C_X12_term {d : Nat} {q : HP → Int32 → Prop} {a0 : Nat} {H : HP} (h : wb_X12_term_0 d q a0 H) : CI (d + 1) 0 0 mX12_term [rv (some a0)] H q := by
  refine call_of (by decide +kernel) (by simp [lg_sl, rv_cat, vc_int, vc_long, vc_float, vc_double]) ?_
  have e : lv_args 0 [rv (some a0)] = [(0, rv (some a0))] := by simp [lv_args, rv_cat, vc_int, vc_long, vc_float, vc_double]
  rw [e]
  exact T_X12_term_0 h
def wb_X12_timed_0 (d : Nat) (q : HP → Int64 → Prop) (a0 : Nat) (x1 : Int64) (x3 : Int64) (H : HP) : Prop :=
  (x1 = (0 : Int64) → q H (0 : Int64)) ∧ (¬ (x1 = (0 : Int64)) → (¬ x3 = (0 : Int64) → tg H a0 = 13 ∧ (((x1 * x3) = (-9223372036854775808 : Int64) → okZ ((hI H 1321 a0 0) ||| (1 : Int32)) ∧ (q (sI H 1321 a0 0 ((hI H 1321 a0 0) ||| (1 : Int32))) (x1 * x3))) ∧ (¬ ((x1 * x3) = (-9223372036854775808 : Int64)) → ¬ x3 = 0 ∧ ((((x1 * x3) / x3) = x1 → okZ ((hI H 1321 a0 0) ||| (0 : Int32)) ∧ (q (sI H 1321 a0 0 ((hI H 1321 a0 0) ||| (0 : Int32))) (x1 * x3))) ∧ (¬ (((x1 * x3) / x3) = x1) → okZ ((hI H 1321 a0 0) ||| (1 : Int32)) ∧ (q (sI H 1321 a0 0 ((hI H 1321 a0 0) ||| (1 : Int32))) (x1 * x3))))))) ∧ (x3 = (0 : Int64) → q H (0 : Int64)))
set_option maxRecDepth 40000 in
set_option maxHeartbeats 4000000 in
theorem T_X12_timed_0 {d : Nat} {q : HP → Int64 → Prop} {a0 : Nat} {x1 : Int64} {x3 : Int64} {H : HP} (h : wb_X12_timed_0 d q a0 x1 x3 H) : WP (d + 1) mX12_timed 0 0 0 [(0, rv (some a0)), (1, .long x1), (3, .long x3)] [] H (qJ q) := by
  unfold wb_X12_timed_0 at h
  refine wp_lload_n 1 dX12_timed_0 rfl ?_
  refine wp_lconst (v := (0 : Int64)) dX12_timed_1 (by decide) ?_
  refine wp_lcmp dX12_timed_2 ?_
  refine wp_if_eq (tgt := 12) dX12_timed_3 rfl (fun c => ?_) (fun c => ?_)
  · replace h := h.1 (lgc_eq.mp c)
    refine wp_lconst (v := (0 : Int64)) dX12_timed_12 (by decide) ?_
    exact wp_lreturn dX12_timed_13 rfl ⟨_, rfl, h⟩
  · replace h := h.2 (fun z => c (lgc_eq.mpr z))
    refine wp_lload_n 2 dX12_timed_6 rfl ?_
    refine wp_lconst (v := (0 : Int64)) dX12_timed_7 (by decide) ?_
    refine wp_lcmp dX12_timed_8 ?_
    refine wp_if_ne (tgt := 14) dX12_timed_9 rfl (fun c => ?_) (fun c => ?_)
    · replace h := h.1 (fun z => c (lgc_eq.mpr z))
      refine wp_lload_n 1 dX12_timed_14 rfl ?_
      refine wp_lload_n 2 dX12_timed_15 rfl ?_
      refine wp_lmul dX12_timed_16 ?_
      refine wp_lstore (ls' := [(5, .long (x1 * x3)), (0, rv (some a0)), (1, .long x1), (3, .long x3)]) dX12_timed_17 (by decide) rfl ?_
      refine wp_aload_n 1 dX12_timed_19 rfl ?_
      refine wp_dup dX12_timed_20 (rv_cat _) ?_
      obtain ⟨ht1, h⟩ := h
      refine wp_getI (ci := 12) (j := 21) dX12_timed_21 fi_X12_133r rfl rfl ht1 ?_
      change WP _ _ _ _ _ _ (.int (hI H 1321 a0 0) :: _) _ _
      refine wp_lload 0 dX12_timed_24 rfl ?_
      refine wp_ldc2 dX12_timed_26 w_7_55 ?_
      refine wp_lcmp dX12_timed_29 ?_
      refine wp_if_eq (tgt := 42) dX12_timed_30 rfl (fun c => ?_) (fun c => ?_)
      · replace h := h.1 (lgc_eq.mp c)
        refine wp_iconst (v := (1 : Int32)) dX12_timed_42 (by decide) ?_
        refine wp_goto (tgt := 47) dX12_timed_43 rfl ?_
        refine wp_ior dX12_timed_47 ?_
        obtain ⟨hg2, h⟩ := h
        refine wp_putI (ci := 12) (j := 21) dX12_timed_48 fi_X12_133 rfl (fun z => by cases z) rfl ht1 (nar_Z hg2).1 (nar_Z hg2).2 ?_
        change WP _ _ _ _ _ _ _ (sI H 1321 a0 0 ((hI H 1321 a0 0) ||| (1 : Int32))) _
        refine wp_lload 0 dX12_timed_51 rfl ?_
        exact wp_lreturn dX12_timed_53 rfl ⟨_, rfl, h⟩
      · replace h := h.2 (fun z => c (lgc_eq.mpr z))
        refine wp_lload 0 dX12_timed_33 rfl ?_
        refine wp_lload_n 3 dX12_timed_35 rfl ?_
        obtain ⟨hg3, h⟩ := h
        refine wp_ldiv dX12_timed_36 hg3 ?_
        refine wp_lload_n 2 dX12_timed_37 rfl ?_
        refine wp_lcmp dX12_timed_38 ?_
        refine wp_if_eq (tgt := 46) dX12_timed_39 rfl (fun c => ?_) (fun c => ?_)
        · replace h := h.1 (lgc_eq.mp c)
          refine wp_iconst (v := (0 : Int32)) dX12_timed_46 (by decide) ?_
          refine wp_ior dX12_timed_47 ?_
          obtain ⟨hg4, h⟩ := h
          refine wp_putI (ci := 12) (j := 21) dX12_timed_48 fi_X12_133 rfl (fun z => by cases z) rfl ht1 (nar_Z hg4).1 (nar_Z hg4).2 ?_
          change WP _ _ _ _ _ _ _ (sI H 1321 a0 0 ((hI H 1321 a0 0) ||| (0 : Int32))) _
          refine wp_lload 0 dX12_timed_51 rfl ?_
          exact wp_lreturn dX12_timed_53 rfl ⟨_, rfl, h⟩
        · replace h := h.2 (fun z => c (lgc_eq.mpr z))
          refine wp_iconst (v := (1 : Int32)) dX12_timed_42 (by decide) ?_
          refine wp_goto (tgt := 47) dX12_timed_43 rfl ?_
          refine wp_ior dX12_timed_47 ?_
          obtain ⟨hg5, h⟩ := h
          refine wp_putI (ci := 12) (j := 21) dX12_timed_48 fi_X12_133 rfl (fun z => by cases z) rfl ht1 (nar_Z hg5).1 (nar_Z hg5).2 ?_
          change WP _ _ _ _ _ _ _ (sI H 1321 a0 0 ((hI H 1321 a0 0) ||| (1 : Int32))) _
          refine wp_lload 0 dX12_timed_51 rfl ?_
          exact wp_lreturn dX12_timed_53 rfl ⟨_, rfl, h⟩
    · replace h := h.2 (lgc_eq.mp c)
      refine wp_lconst (v := (0 : Int64)) dX12_timed_12 (by decide) ?_
      exact wp_lreturn dX12_timed_13 rfl ⟨_, rfl, h⟩
theorem C_X12_timed {d : Nat} {q : HP → Int64 → Prop} {a0 : Nat} {x1 : Int64} {x3 : Int64} {H : HP} (h : wb_X12_timed_0 d q a0 x1 x3 H) : CJ (d + 1) 0 0 mX12_timed [rv (some a0), .long x1, .long x3] H q := by
  refine call_of (by decide +kernel) (by simp [lg_sl, rv_cat, vc_int, vc_long, vc_float, vc_double]) ?_
  have e : lv_args 0 [rv (some a0), .long x1, .long x3] = [(0, rv (some a0)), (1, .long x1), (3, .long x3)] := by simp [lv_args, rv_cat, vc_int, vc_long, vc_float, vc_double]
  rw [e]
  exact T_X12_timed_0 h
def wb_X12_times_0 (d : Nat) (q : HP → Prop) (a0 : Nat) (x1 : Int64) (x3 : Int64) (x5 : Int64) (x7 : Int64) (H : HP) : Prop :=
  (x1 = (0 : Int64) → tg H a0 = 13 ∧ (q (sL (sL H 1319 a0 0 (0 : Int64)) 1320 a0 0 (1 : Int64)))) ∧ (¬ (x1 = (0 : Int64)) → (¬ x5 = (0 : Int64) → CJ d 0 0 mX12_common [.long x1, .long x7] H (fun H2 r3 => CJ d 0 0 mX12_common [.long x5, .long x3] H2 (fun H4 r5 => ¬ r3 = 0 ∧ (¬ r5 = 0 ∧ (tg H4 a0 = 13 ∧ (CJ d 0 0 mX12_timed [rv (some a0), .long (x1 / r3), .long (x5 / r5)] H4 (fun H8 r10 => tg H8 a0 = 13 ∧ (¬ r5 = 0 ∧ (¬ r3 = 0 ∧ (CJ d 0 0 mX12_timed [rv (some a0), .long (x3 / r5), .long (x7 / r3)] (sL H8 1319 a0 0 r10) (fun H14 r15 => tg H14 a0 = 13 ∧ (q (sL H14 1320 a0 0 r15))))))))))))) ∧ (x5 = (0 : Int64) → tg H a0 = 13 ∧ (q (sL (sL H 1319 a0 0 (0 : Int64)) 1320 a0 0 (1 : Int64)))))
set_option maxRecDepth 40000 in
set_option maxHeartbeats 4000000 in
theorem T_X12_times_0 {d : Nat} {q : HP → Prop} {a0 : Nat} {x1 : Int64} {x3 : Int64} {x5 : Int64} {x7 : Int64} {H : HP} (h : wb_X12_times_0 d q a0 x1 x3 x5 x7 H) : WP (d + 1) mX12_times 0 0 0 [(0, rv (some a0)), (1, .long x1), (3, .long x3), (5, .long x5), (7, .long x7)] [] H (qV q) := by
  unfold wb_X12_times_0 at h
  refine wp_lload_n 1 dX12_times_0 rfl ?_
  refine wp_lconst (v := (0 : Int64)) dX12_times_1 (by decide) ?_
  refine wp_lcmp dX12_times_2 ?_
  refine wp_if_eq (tgt := 13) dX12_times_3 rfl (fun c => ?_) (fun c => ?_)
  · replace h := h.1 (lgc_eq.mp c)
    refine wp_aload_n 0 dX12_times_13 rfl ?_
    refine wp_lconst (v := (0 : Int64)) dX12_times_14 (by decide) ?_
    obtain ⟨ht1, h⟩ := h
    refine wp_putL (ci := 12) (j := 19) dX12_times_15 fi_X12_143 rfl (fun z => by cases z) rfl ht1 rfl rfl ?_
    change WP _ _ _ _ _ _ _ (sL H 1319 a0 0 (0 : Int64)) _
    refine wp_aload_n 0 dX12_times_18 rfl ?_
    refine wp_lconst (v := (1 : Int64)) dX12_times_19 (by decide) ?_
    refine wp_putL (ci := 12) (j := 20) dX12_times_20 fi_X12_147 rfl (fun z => by cases z) rfl ht1 rfl rfl ?_
    change WP _ _ _ _ _ _ _ (sL (sL H 1319 a0 0 (0 : Int64)) 1320 a0 0 (1 : Int64)) _
    exact wp_return dX12_times_23 rfl ⟨rfl, h⟩
  · replace h := h.2 (fun z => c (lgc_eq.mpr z))
    refine wp_lload 3 dX12_times_6 rfl ?_
    refine wp_lconst (v := (0 : Int64)) dX12_times_8 (by decide) ?_
    refine wp_lcmp dX12_times_9 ?_
    refine wp_if_ne (tgt := 24) dX12_times_10 rfl (fun c => ?_) (fun c => ?_)
    · replace h := h.1 (fun z => c (lgc_eq.mpr z))
      refine wp_lload_n 1 dX12_times_24 rfl ?_
      refine wp_lload 4 dX12_times_25 rfl ?_
      refine wp_callS (As := [.long x1, .long x7]) (rest := []) (mc := 0) (ms := 0) dX12_times_27 lk_X12_139 rfl rfl (by decide) rfl rfl rfl (Call.weaken h ?_)
      rintro H2 _ ⟨r3, rfl, h⟩
      change WP _ _ _ _ _ _ [.long r3] H2 _
      refine wp_lstore (ls' := [(9, .long r3), (0, rv (some a0)), (1, .long x1), (3, .long x3), (5, .long x5), (7, .long x7)]) dX12_times_30 (by decide) rfl ?_
      refine wp_lload 4 dX12_times_32 rfl ?_
      refine wp_lload_n 3 dX12_times_34 rfl ?_
      refine wp_callS (As := [.long x5, .long x3]) (rest := []) (mc := 0) (ms := 0) dX12_times_35 lk_X12_139 rfl rfl (by decide) rfl rfl rfl (Call.weaken h ?_)
      rintro H4 _ ⟨r5, rfl, h⟩
      change WP _ _ _ _ _ _ [.long r5] H4 _
      refine wp_lstore (ls' := [(11, .long r5), (9, .long r3), (0, rv (some a0)), (1, .long x1), (3, .long x3), (5, .long x5), (7, .long x7)]) dX12_times_38 (by decide) rfl ?_
      refine wp_aload_n 2 dX12_times_40 rfl ?_
      refine wp_aload_n 2 dX12_times_41 rfl ?_
      refine wp_lload_n 3 dX12_times_42 rfl ?_
      refine wp_lload 1 dX12_times_43 rfl ?_
      obtain ⟨hg6, h⟩ := h
      refine wp_ldiv dX12_times_45 hg6 ?_
      refine wp_lload 5 dX12_times_46 rfl ?_
      refine wp_lload 0 dX12_times_48 rfl ?_
      obtain ⟨hg7, h⟩ := h
      refine wp_ldiv dX12_times_50 hg7 ?_
      obtain ⟨ht9, h⟩ := h
      refine wp_callV (ci := 12) (As := [.long (x1 / r3), .long (x5 / r5)]) (rest := [rv (some a0)]) (mc := 0) (ms := 0) dX12_times_51 lk_X12_150 rfl rfl (by simp [rv_cat, vc_int, vc_long, vc_float, vc_double]) rfl rfl rfl ht9 rfl rfl rfl w_7_51 (Call.weaken h ?_)
      rintro H8 _ ⟨r10, rfl, h⟩
      change WP _ _ _ _ _ _ [.long r10, rv (some a0)] H8 _
      obtain ⟨ht11, h⟩ := h
      refine wp_putL (ci := 12) (j := 19) dX12_times_54 fi_X12_143 rfl (fun z => by cases z) rfl ht11 rfl rfl ?_
      change WP _ _ _ _ _ _ _ (sL H8 1319 a0 0 r10) _
      refine wp_aload_n 2 dX12_times_57 rfl ?_
      refine wp_aload_n 2 dX12_times_58 rfl ?_
      refine wp_lload_n 4 dX12_times_59 rfl ?_
      refine wp_lload 0 dX12_times_60 rfl ?_
      obtain ⟨hg12, h⟩ := h
      refine wp_ldiv dX12_times_62 hg12 ?_
      refine wp_lload 6 dX12_times_63 rfl ?_
      refine wp_lload 1 dX12_times_65 rfl ?_
      obtain ⟨hg13, h⟩ := h
      refine wp_ldiv dX12_times_67 hg13 ?_
      refine wp_callV (ci := 12) (As := [.long (x3 / r5), .long (x7 / r3)]) (rest := [rv (some a0)]) (mc := 0) (ms := 0) dX12_times_68 lk_X12_150 rfl rfl (by simp [rv_cat, vc_int, vc_long, vc_float, vc_double]) rfl rfl rfl ht11 rfl rfl rfl w_7_51 (Call.weaken h ?_)
      rintro H14 _ ⟨r15, rfl, h⟩
      change WP _ _ _ _ _ _ [.long r15, rv (some a0)] H14 _
      obtain ⟨ht16, h⟩ := h
      refine wp_putL (ci := 12) (j := 20) dX12_times_71 fi_X12_147 rfl (fun z => by cases z) rfl ht16 rfl rfl ?_
      change WP _ _ _ _ _ _ _ (sL H14 1320 a0 0 r15) _
      exact wp_return dX12_times_74 rfl ⟨rfl, h⟩
    · replace h := h.2 (lgc_eq.mp c)
      refine wp_aload_n 0 dX12_times_13 rfl ?_
      refine wp_lconst (v := (0 : Int64)) dX12_times_14 (by decide) ?_
      obtain ⟨ht17, h⟩ := h
      refine wp_putL (ci := 12) (j := 19) dX12_times_15 fi_X12_143 rfl (fun z => by cases z) rfl ht17 rfl rfl ?_
      change WP _ _ _ _ _ _ _ (sL H 1319 a0 0 (0 : Int64)) _
      refine wp_aload_n 0 dX12_times_18 rfl ?_
      refine wp_lconst (v := (1 : Int64)) dX12_times_19 (by decide) ?_
      refine wp_putL (ci := 12) (j := 20) dX12_times_20 fi_X12_147 rfl (fun z => by cases z) rfl ht17 rfl rfl ?_
      change WP _ _ _ _ _ _ _ (sL (sL H 1319 a0 0 (0 : Int64)) 1320 a0 0 (1 : Int64)) _
      exact wp_return dX12_times_23 rfl ⟨rfl, h⟩
theorem C_X12_times {d : Nat} {q : HP → Prop} {a0 : Nat} {x1 : Int64} {x3 : Int64} {x5 : Int64} {x7 : Int64} {H : HP} (h : wb_X12_times_0 d q a0 x1 x3 x5 x7 H) : CV (d + 1) 0 0 mX12_times [rv (some a0), .long x1, .long x3, .long x5, .long x7] H q := by
  refine call_of (by decide +kernel) (by simp [lg_sl, rv_cat, vc_int, vc_long, vc_float, vc_double]) ?_
  have e : lv_args 0 [rv (some a0), .long x1, .long x3, .long x5, .long x7] = [(0, rv (some a0)), (1, .long x1), (3, .long x3), (5, .long x5), (7, .long x7)] := by simp [lv_args, rv_cat, vc_int, vc_long, vc_float, vc_double]
  rw [e]
  exact T_X12_times_0 h
/-- UnitProverModel.tolds(I)I: the loop at 4 -/
def L_X12_tolds_4 (d : Nat) (q : HP → Int32 → Prop) (a0 : Nat) (x1 : Int32) (x2 : Int32) (x3 : Int32) (H : HP) : Prop := WP (d + 1) mX12_tolds 0 0 4 [(0, rv (some a0)), (1, .int x1), (2, .int x2), (3, .int x3)] [] H (qI q)
def wb_X12_tolds_0 (d : Nat) (q : HP → Int32 → Prop) (a0 : Nat) (x1 : Int32) (H : HP) : Prop :=
  L_X12_tolds_4 d q a0 x1 (0 : Int32) (0 : Int32) H
set_option maxRecDepth 40000 in
set_option maxHeartbeats 4000000 in
theorem T_X12_tolds_0 {d : Nat} {q : HP → Int32 → Prop} {a0 : Nat} {x1 : Int32} {H : HP} (h : wb_X12_tolds_0 d q a0 x1 H) : WP (d + 1) mX12_tolds 0 0 0 [(0, rv (some a0)), (1, .int x1)] [] H (qI q) := by
  unfold wb_X12_tolds_0 at h
  refine wp_iconst (v := (0 : Int32)) dX12_tolds_0 (by decide) ?_
  refine wp_istore_n (ls' := [(2, .int (0 : Int32)), (0, rv (some a0)), (1, .int x1)]) dX12_tolds_1 (by decide) rfl ?_
  refine wp_iconst (v := (0 : Int32)) dX12_tolds_2 (by decide) ?_
  refine wp_istore_n (ls' := [(3, .int (0 : Int32)), (2, .int (0 : Int32)), (0, rv (some a0)), (1, .int x1)]) dX12_tolds_3 (by decide) rfl ?_
  refine wp_sub (ls' := [(0, rv (some a0)), (1, .int x1), (2, .int (0 : Int32)), (3, .int (0 : Int32))]) [2, 3, 1, 0] rfl ?_
  exact h
def wb_X12_tolds_4 (d : Nat) (q : HP → Int32 → Prop) (a0 : Nat) (x1 : Int32) (x2 : Int32) (x3 : Int32) (H : HP) : Prop :=
  tg H a0 = 13 ∧ (((hI H 1307 a0 0) ≤ x3 → q H x2) ∧ (¬ ((hI H 1307 a0 0) ≤ x3) → ∃ a2, (hC H 1354 a0) = some a2 ∧ (isA H a2 0 ∧ (vp_in x3 (ln H a2) ∧ ((¬ (hI H (tg H a2) a2 x3.toNatClampNeg) = x1 → L_X12_tolds_4 d q a0 x1 (x2 + (0 : Int32)) (x3 + 1) H) ∧ ((hI H (tg H a2) a2 x3.toNatClampNeg) = x1 → L_X12_tolds_4 d q a0 x1 (x2 + (1 : Int32)) (x3 + 1) H))))))
set_option maxRecDepth 40000 in
set_option maxHeartbeats 4000000 in
theorem T_X12_tolds_4 {d : Nat} {q : HP → Int32 → Prop} {a0 : Nat} {x1 : Int32} {x2 : Int32} {x3 : Int32} {H : HP} (h : wb_X12_tolds_4 d q a0 x1 x2 x3 H) : L_X12_tolds_4 d q a0 x1 x2 x3 H := by
  unfold wb_X12_tolds_4 at h
  unfold L_X12_tolds_4
  refine wp_iload_n 3 dX12_tolds_4 rfl ?_
  refine wp_aload_n 0 dX12_tolds_5 rfl ?_
  obtain ⟨ht1, h⟩ := h
  refine wp_getI (ci := 12) (j := 7) dX12_tolds_6 fi_X12_275r rfl rfl ht1 ?_
  change WP _ _ _ _ _ _ (.int (hI H 1307 a0 0) :: _) _ _
  refine wp_icmp_ge (tgt := 36) dX12_tolds_9 rfl (fun c => ?_) (fun c => ?_)
  · replace h := h.1 c
    refine wp_iload_n 2 dX12_tolds_36 rfl ?_
    exact wp_ireturn (ty := .int) dX12_tolds_37 rfl rfl ⟨_, rfl, h⟩
  · replace h := h.2 c
    refine wp_iload_n 2 dX12_tolds_12 rfl ?_
    refine wp_aload_n 0 dX12_tolds_13 rfl ?_
    refine wp_getC (ci := 12) (j := 54) dX12_tolds_14 fi_X12_98r rfl rfl ht1 ?_
    change WP _ _ _ _ _ _ (rv (hC H 1354 a0) :: _) _ _
    refine wp_iload_n 3 dX12_tolds_17 rfl ?_
    obtain ⟨a2, ha2, h⟩ := h
    obtain ⟨hr3, h⟩ := h
    obtain ⟨hg4, h⟩ := h
    refine wp_iaload dX12_tolds_18 ha2 hr3 hg4 ?_
    refine wp_iload_n 1 dX12_tolds_19 rfl ?_
    refine wp_icmp_ne (tgt := 27) dX12_tolds_20 rfl (fun c => ?_) (fun c => ?_)
    · replace h := h.1 c
      refine wp_iconst (v := (0 : Int32)) dX12_tolds_27 (by decide) ?_
      refine wp_iadd dX12_tolds_28 ?_
      refine wp_istore_n (ls' := [(2, .int (x2 + (0 : Int32))), (0, rv (some a0)), (1, .int x1), (3, .int x3)]) dX12_tolds_29 (by decide) rfl ?_
      refine wp_iinc (v := (x3 + 1)) (ls' := [(3, .int (x3 + 1)), (2, .int (x2 + (0 : Int32))), (0, rv (some a0)), (1, .int x1)]) 3 dX12_tolds_30 rfl rfl (by decide) rfl ?_
      refine wp_goto (tgt := 4) dX12_tolds_33 rfl ?_
      refine wp_sub (ls' := [(0, rv (some a0)), (1, .int x1), (2, .int (x2 + (0 : Int32))), (3, .int (x3 + 1))]) [2, 3, 1, 0] rfl ?_
      exact h
    · replace h := h.2 c
      refine wp_iconst (v := (1 : Int32)) dX12_tolds_23 (by decide) ?_
      refine wp_goto (tgt := 28) dX12_tolds_24 rfl ?_
      refine wp_iadd dX12_tolds_28 ?_
      refine wp_istore_n (ls' := [(2, .int (x2 + (1 : Int32))), (0, rv (some a0)), (1, .int x1), (3, .int x3)]) dX12_tolds_29 (by decide) rfl ?_
      refine wp_iinc (v := (x3 + 1)) (ls' := [(3, .int (x3 + 1)), (2, .int (x2 + (1 : Int32))), (0, rv (some a0)), (1, .int x1)]) 3 dX12_tolds_30 rfl rfl (by decide) rfl ?_
      refine wp_goto (tgt := 4) dX12_tolds_33 rfl ?_
      refine wp_sub (ls' := [(0, rv (some a0)), (1, .int x1), (2, .int (x2 + (1 : Int32))), (3, .int (x3 + 1))]) [2, 3, 1, 0] rfl ?_
      exact h
theorem C_X12_tolds {d : Nat} {q : HP → Int32 → Prop} {a0 : Nat} {x1 : Int32} {H : HP} (h : wb_X12_tolds_0 d q a0 x1 H) : CI (d + 1) 0 0 mX12_tolds [rv (some a0), .int x1] H q := by
  refine call_of (by decide +kernel) (by simp [lg_sl, rv_cat, vc_int, vc_long, vc_float, vc_double]) ?_
  have e : lv_args 0 [rv (some a0), .int x1] = [(0, rv (some a0)), (1, .int x1)] := by simp [lv_args, rv_cat, vc_int, vc_long, vc_float, vc_double]
  rw [e]
  exact T_X12_tolds_0 h
/-- UnitProverModel.track(III)I: the loop at 68 -/
def L_X12_track_68 (d : Nat) (q : HP → Int32 → Prop) (a0 : Nat) (x1 : Int32) (x4 : Int32) (H : HP) : Prop := WP (d + 1) mX12_track 0 0 68 [(0, rv (some a0)), (1, .int x1), (4, .int x4)] [] H (qI q)
def wb_X12_track_0 (d : Nat) (q : HP → Int32 → Prop) (a0 : Nat) (x1 : Int32) (x2 : Int32) (x3 : Int32) (H : HP) : Prop :=
  CZ d 0 0 mX12_isTrack [.int x1] H (fun H1 b2 => (b2 = true → CZ d 0 0 mX12_isIn [.long (x2.toInt64), .long (-1 : Int64), .long (1 : Int64)] H1 (fun H3 b4 => (b4 = false → q H3 (-2 : Int32)) ∧ (b4 = true → (x2 < 0 → tg H3 a0 = 13 ∧ (∃ a6, (hC H3 1357 a0) = some a6 ∧ (isA H3 a6 0 ∧ (vp_in x1 (ln H3 a6) ∧ ((0 ≤ x2 → ∃ a9, (hC (sI H3 (tg H3 a6) a6 x1.toNatClampNeg x2) 1358 a0) = some a9 ∧ (isA (sI H3 (tg H3 a6) a6 x1.toNatClampNeg x2) a9 0 ∧ (vp_in x1 (ln (sI H3 (tg H3 a6) a6 x1.toNatClampNeg x2) a9) ∧ (L_X12_track_68 d q a0 x1 ((30 : Int32) * x1) (sI (sI H3 (tg H3 a6) a6 x1.toNatClampNeg x2) (tg (sI H3 (tg H3 a6) a6 x1.toNatClampNeg x2) a9) a9 x1.toNatClampNeg x3))))) ∧ (¬ (0 ≤ x2) → ∃ a12, (hC (sI H3 (tg H3 a6) a6 x1.toNatClampNeg x2) 1358 a0) = some a12 ∧ (isA (sI H3 (tg H3 a6) a6 x1.toNatClampNeg x2) a12 0 ∧ (vp_in x1 (ln (sI H3 (tg H3 a6) a6 x1.toNatClampNeg x2) a12) ∧ (L_X12_track_68 d q a0 x1 ((30 : Int32) * x1) (sI (sI H3 (tg H3 a6) a6 x1.toNatClampNeg x2) (tg (sI H3 (tg H3 a6) a6 x1.toNatClampNeg x2) a12) a12 x1.toNatClampNeg (0 : Int32))))))))))) ∧ (¬ (x2 < 0) → CZ d 0 0 mX12_isIn [.long (x3.toInt64), .long (0 : Int64), .long (30 : Int64)] H3 (fun H15 b16 => (b16 = true → tg H15 a0 = 13 ∧ (∃ a18, (hC H15 1357 a0) = some a18 ∧ (isA H15 a18 0 ∧ (vp_in x1 (ln H15 a18) ∧ ((0 ≤ x2 → ∃ a21, (hC (sI H15 (tg H15 a18) a18 x1.toNatClampNeg x2) 1358 a0) = some a21 ∧ (isA (sI H15 (tg H15 a18) a18 x1.toNatClampNeg x2) a21 0 ∧ (vp_in x1 (ln (sI H15 (tg H15 a18) a18 x1.toNatClampNeg x2) a21) ∧ (L_X12_track_68 d q a0 x1 ((30 : Int32) * x1) (sI (sI H15 (tg H15 a18) a18 x1.toNatClampNeg x2) (tg (sI H15 (tg H15 a18) a18 x1.toNatClampNeg x2) a21) a21 x1.toNatClampNeg x3))))) ∧ (¬ (0 ≤ x2) → ∃ a24, (hC (sI H15 (tg H15 a18) a18 x1.toNatClampNeg x2) 1358 a0) = some a24 ∧ (isA (sI H15 (tg H15 a18) a18 x1.toNatClampNeg x2) a24 0 ∧ (vp_in x1 (ln (sI H15 (tg H15 a18) a18 x1.toNatClampNeg x2) a24) ∧ (L_X12_track_68 d q a0 x1 ((30 : Int32) * x1) (sI (sI H15 (tg H15 a18) a18 x1.toNatClampNeg x2) (tg (sI H15 (tg H15 a18) a18 x1.toNatClampNeg x2) a24) a24 x1.toNatClampNeg (0 : Int32))))))))))) ∧ (b16 = false → q H15 (-2 : Int32))))))) ∧ (b2 = false → q H1 (-1 : Int32)))
set_option maxRecDepth 40000 in
set_option maxHeartbeats 4000000 in
theorem T_X12_track_0 {d : Nat} {q : HP → Int32 → Prop} {a0 : Nat} {x1 : Int32} {x2 : Int32} {x3 : Int32} {H : HP} (h : wb_X12_track_0 d q a0 x1 x2 x3 H) : WP (d + 1) mX12_track 0 0 0 [(0, rv (some a0)), (1, .int x1), (2, .int x2), (3, .int x3)] [] H (qI q) := by
  unfold wb_X12_track_0 at h
  refine wp_iload_n 1 dX12_track_0 rfl ?_
  refine wp_callS (As := [.int x1]) (rest := []) (mc := 0) (ms := 0) dX12_track_1 lk_X12_463 rfl rfl (by decide) rfl rfl rfl (Call.weaken h ?_)
  rintro H1 _ ⟨b2, rfl, h⟩
  change WP _ _ _ _ _ _ [.int (bI b2)] H1 _
  refine wp_if_ne (tgt := 9) dX12_track_4 rfl (fun c => ?_) (fun c => ?_)
  · replace h := h.1 (bI_1.mp c)
    refine wp_iload_n 2 dX12_track_9 rfl ?_
    refine wp_i2l dX12_track_10 ?_
    refine wp_ldc2 dX12_track_11 w_7_81 ?_
    refine wp_lconst (v := (1 : Int64)) dX12_track_14 (by decide) ?_
    refine wp_callS (As := [.long (x2.toInt64), .long (-1 : Int64), .long (1 : Int64)]) (rest := []) (mc := 0) (ms := 0) dX12_track_15 lk_X12_161 rfl rfl (by decide) rfl rfl rfl (Call.weaken h ?_)
    rintro H3 _ ⟨b4, rfl, h⟩
    change WP _ _ _ _ _ _ [.int (bI b4)] H3 _
    refine wp_if_eq (tgt := 37) dX12_track_18 rfl (fun c => ?_) (fun c => ?_)
    · replace h := h.1 (bI_0.mp c)
      refine wp_bipush (v := (-2 : Int32)) dX12_track_37 (by decide) ?_
      exact wp_ireturn (ty := .int) dX12_track_39 rfl rfl ⟨_, rfl, h⟩
    · replace h := h.2 (bI_1.mp c)
      refine wp_iload_n 2 dX12_track_21 rfl ?_
      refine wp_if_lt (tgt := 40) dX12_track_22 rfl (fun c => ?_) (fun c => ?_)
      · replace h := h.1 c
        refine wp_aload_n 0 dX12_track_40 rfl ?_
        obtain ⟨ht5, h⟩ := h
        refine wp_getC (ci := 12) (j := 57) dX12_track_41 fi_X12_107r rfl rfl ht5 ?_
        change WP _ _ _ _ _ _ (rv (hC H3 1357 a0) :: _) _ _
        refine wp_iload_n 1 dX12_track_44 rfl ?_
        refine wp_iload_n 2 dX12_track_45 rfl ?_
        obtain ⟨a6, ha6, h⟩ := h
        obtain ⟨hr7, h⟩ := h
        obtain ⟨hg8, h⟩ := h
        refine wp_iastore dX12_track_46 ha6 hr7 hg8 ?_
        change WP _ _ _ _ _ _ _ (sI H3 (tg H3 a6) a6 x1.toNatClampNeg x2) _
        refine wp_aload_n 0 dX12_track_47 rfl ?_
        refine wp_getC (ci := 12) (j := 58) dX12_track_48 fi_X12_110r rfl rfl ht5 ?_
        change WP _ _ _ _ _ _ (rv (hC (sI H3 (tg H3 a6) a6 x1.toNatClampNeg x2) 1358 a0) :: _) _ _
        refine wp_iload_n 1 dX12_track_51 rfl ?_
        refine wp_iload_n 2 dX12_track_52 rfl ?_
        refine wp_if_ge (tgt := 60) dX12_track_53 rfl (fun c => ?_) (fun c => ?_)
        · replace h := h.1 c
          refine wp_iload_n 3 dX12_track_60 rfl ?_
          obtain ⟨a9, ha9, h⟩ := h
          obtain ⟨hr10, h⟩ := h
          obtain ⟨hg11, h⟩ := h
          refine wp_iastore dX12_track_61 ha9 hr10 hg11 ?_
          change WP _ _ _ _ _ _ _ (sI (sI H3 (tg H3 a6) a6 x1.toNatClampNeg x2) (tg (sI H3 (tg H3 a6) a6 x1.toNatClampNeg x2) a9) a9 x1.toNatClampNeg x3) _
          refine wp_bipush (v := (30 : Int32)) dX12_track_62 (by decide) ?_
          refine wp_iload_n 1 dX12_track_64 rfl ?_
          refine wp_imul dX12_track_65 ?_
          refine wp_istore (ls' := [(4, .int ((30 : Int32) * x1)), (0, rv (some a0)), (1, .int x1), (2, .int x2), (3, .int x3)]) dX12_track_66 (by decide) rfl ?_
          refine wp_sub (ls' := [(0, rv (some a0)), (1, .int x1), (4, .int ((30 : Int32) * x1))]) [1, 2, 0] rfl ?_
          exact h
        · replace h := h.2 c
          refine wp_iconst (v := (0 : Int32)) dX12_track_56 (by decide) ?_
          refine wp_goto (tgt := 61) dX12_track_57 rfl ?_
          obtain ⟨a12, ha12, h⟩ := h
          obtain ⟨hr13, h⟩ := h
          obtain ⟨hg14, h⟩ := h
          refine wp_iastore dX12_track_61 ha12 hr13 hg14 ?_
          change WP _ _ _ _ _ _ _ (sI (sI H3 (tg H3 a6) a6 x1.toNatClampNeg x2) (tg (sI H3 (tg H3 a6) a6 x1.toNatClampNeg x2) a12) a12 x1.toNatClampNeg (0 : Int32)) _
          refine wp_bipush (v := (30 : Int32)) dX12_track_62 (by decide) ?_
          refine wp_iload_n 1 dX12_track_64 rfl ?_
          refine wp_imul dX12_track_65 ?_
          refine wp_istore (ls' := [(4, .int ((30 : Int32) * x1)), (0, rv (some a0)), (1, .int x1), (2, .int x2), (3, .int x3)]) dX12_track_66 (by decide) rfl ?_
          refine wp_sub (ls' := [(0, rv (some a0)), (1, .int x1), (4, .int ((30 : Int32) * x1))]) [1, 2, 0] rfl ?_
          exact h
      · replace h := h.2 c
        refine wp_iload_n 3 dX12_track_25 rfl ?_
        refine wp_i2l dX12_track_26 ?_
        refine wp_lconst (v := (0 : Int64)) dX12_track_27 (by decide) ?_
        refine wp_ldc2 dX12_track_28 w_8_87 ?_
        refine wp_callS (As := [.long (x3.toInt64), .long (0 : Int64), .long (30 : Int64)]) (rest := []) (mc := 0) (ms := 0) dX12_track_31 lk_X12_161 rfl rfl (by decide) rfl rfl rfl (Call.weaken h ?_)
        rintro H15 _ ⟨b16, rfl, h⟩
        change WP _ _ _ _ _ _ [.int (bI b16)] H15 _
        refine wp_if_ne (tgt := 40) dX12_track_34 rfl (fun c => ?_) (fun c => ?_)
        · replace h := h.1 (bI_1.mp c)
          refine wp_aload_n 0 dX12_track_40 rfl ?_
          obtain ⟨ht17, h⟩ := h
          refine wp_getC (ci := 12) (j := 57) dX12_track_41 fi_X12_107r rfl rfl ht17 ?_
          change WP _ _ _ _ _ _ (rv (hC H15 1357 a0) :: _) _ _
          refine wp_iload_n 1 dX12_track_44 rfl ?_
          refine wp_iload_n 2 dX12_track_45 rfl ?_
          obtain ⟨a18, ha18, h⟩ := h
          obtain ⟨hr19, h⟩ := h
          obtain ⟨hg20, h⟩ := h
          refine wp_iastore dX12_track_46 ha18 hr19 hg20 ?_
          change WP _ _ _ _ _ _ _ (sI H15 (tg H15 a18) a18 x1.toNatClampNeg x2) _
          refine wp_aload_n 0 dX12_track_47 rfl ?_
          refine wp_getC (ci := 12) (j := 58) dX12_track_48 fi_X12_110r rfl rfl ht17 ?_
          change WP _ _ _ _ _ _ (rv (hC (sI H15 (tg H15 a18) a18 x1.toNatClampNeg x2) 1358 a0) :: _) _ _
          refine wp_iload_n 1 dX12_track_51 rfl ?_
          refine wp_iload_n 2 dX12_track_52 rfl ?_
          refine wp_if_ge (tgt := 60) dX12_track_53 rfl (fun c => ?_) (fun c => ?_)
          · replace h := h.1 c
            refine wp_iload_n 3 dX12_track_60 rfl ?_
            obtain ⟨a21, ha21, h⟩ := h
            obtain ⟨hr22, h⟩ := h
            obtain ⟨hg23, h⟩ := h
            refine wp_iastore dX12_track_61 ha21 hr22 hg23 ?_
            change WP _ _ _ _ _ _ _ (sI (sI H15 (tg H15 a18) a18 x1.toNatClampNeg x2) (tg (sI H15 (tg H15 a18) a18 x1.toNatClampNeg x2) a21) a21 x1.toNatClampNeg x3) _
            refine wp_bipush (v := (30 : Int32)) dX12_track_62 (by decide) ?_
            refine wp_iload_n 1 dX12_track_64 rfl ?_
            refine wp_imul dX12_track_65 ?_
            refine wp_istore (ls' := [(4, .int ((30 : Int32) * x1)), (0, rv (some a0)), (1, .int x1), (2, .int x2), (3, .int x3)]) dX12_track_66 (by decide) rfl ?_
            refine wp_sub (ls' := [(0, rv (some a0)), (1, .int x1), (4, .int ((30 : Int32) * x1))]) [1, 2, 0] rfl ?_
            exact h
          · replace h := h.2 c
            refine wp_iconst (v := (0 : Int32)) dX12_track_56 (by decide) ?_
            refine wp_goto (tgt := 61) dX12_track_57 rfl ?_
            obtain ⟨a24, ha24, h⟩ := h
            obtain ⟨hr25, h⟩ := h
            obtain ⟨hg26, h⟩ := h
            refine wp_iastore dX12_track_61 ha24 hr25 hg26 ?_
            change WP _ _ _ _ _ _ _ (sI (sI H15 (tg H15 a18) a18 x1.toNatClampNeg x2) (tg (sI H15 (tg H15 a18) a18 x1.toNatClampNeg x2) a24) a24 x1.toNatClampNeg (0 : Int32)) _
            refine wp_bipush (v := (30 : Int32)) dX12_track_62 (by decide) ?_
            refine wp_iload_n 1 dX12_track_64 rfl ?_
            refine wp_imul dX12_track_65 ?_
            refine wp_istore (ls' := [(4, .int ((30 : Int32) * x1)), (0, rv (some a0)), (1, .int x1), (2, .int x2), (3, .int x3)]) dX12_track_66 (by decide) rfl ?_
            refine wp_sub (ls' := [(0, rv (some a0)), (1, .int x1), (4, .int ((30 : Int32) * x1))]) [1, 2, 0] rfl ?_
            exact h
        · replace h := h.2 (bI_0.mp c)
          refine wp_bipush (v := (-2 : Int32)) dX12_track_37 (by decide) ?_
          exact wp_ireturn (ty := .int) dX12_track_39 rfl rfl ⟨_, rfl, h⟩
  · replace h := h.2 (bI_0.mp c)
    refine wp_iconst (v := (-1 : Int32)) dX12_track_7 (by decide) ?_
    exact wp_ireturn (ty := .int) dX12_track_8 rfl rfl ⟨_, rfl, h⟩
def wb_X12_track_68 (d : Nat) (q : HP → Int32 → Prop) (a0 : Nat) (x1 : Int32) (x4 : Int32) (H : HP) : Prop :=
  ((((30 : Int32) * x1) + (30 : Int32)) ≤ x4 → q H (1 : Int32)) ∧ (¬ ((((30 : Int32) * x1) + (30 : Int32)) ≤ x4) → tg H a0 = 13 ∧ (∃ a2, (hC H 1359 a0) = some a2 ∧ (isA H a2 4 ∧ (vp_in x4 (ln H a2) ∧ (∃ a5, (hC (sF H (tg H a2) a2 x4.toNatClampNeg FP.fconst0) 1360 a0) = some a5 ∧ (isA (sF H (tg H a2) a2 x4.toNatClampNeg FP.fconst0) a5 5 ∧ (vp_in x4 (ln (sF H (tg H a2) a2 x4.toNatClampNeg FP.fconst0) a5) ∧ (L_X12_track_68 d q a0 x1 (x4 + 1) (sD (sF H (tg H a2) a2 x4.toNatClampNeg FP.fconst0) (tg (sF H (tg H a2) a2 x4.toNatClampNeg FP.fconst0) a5) a5 x4.toNatClampNeg FP.dconst0)))))))))
set_option maxRecDepth 40000 in
set_option maxHeartbeats 4000000 in
theorem T_X12_track_68 {d : Nat} {q : HP → Int32 → Prop} {a0 : Nat} {x1 : Int32} {x4 : Int32} {H : HP} (h : wb_X12_track_68 d q a0 x1 x4 H) : L_X12_track_68 d q a0 x1 x4 H := by
  unfold wb_X12_track_68 at h
  unfold L_X12_track_68
  refine wp_iload 2 dX12_track_68 rfl ?_
  refine wp_bipush (v := (30 : Int32)) dX12_track_70 (by decide) ?_
  refine wp_iload_n 1 dX12_track_72 rfl ?_
  refine wp_imul dX12_track_73 ?_
  refine wp_bipush (v := (30 : Int32)) dX12_track_74 (by decide) ?_
  refine wp_iadd dX12_track_76 ?_
  refine wp_icmp_ge (tgt := 102) dX12_track_77 rfl (fun c => ?_) (fun c => ?_)
  · replace h := h.1 c
    refine wp_iconst (v := (1 : Int32)) dX12_track_102 (by decide) ?_
    exact wp_ireturn (ty := .int) dX12_track_103 rfl rfl ⟨_, rfl, h⟩
  · replace h := h.2 c
    refine wp_aload_n 0 dX12_track_80 rfl ?_
    obtain ⟨ht1, h⟩ := h
    refine wp_getC (ci := 12) (j := 59) dX12_track_81 fi_X12_113r rfl rfl ht1 ?_
    change WP _ _ _ _ _ _ (rv (hC H 1359 a0) :: _) _ _
    refine wp_iload 2 dX12_track_84 rfl ?_
    refine wp_fconst0 dX12_track_86 ?_
    obtain ⟨a2, ha2, h⟩ := h
    obtain ⟨hr3, h⟩ := h
    obtain ⟨hg4, h⟩ := h
    refine wp_fastore dX12_track_87 ha2 hr3 hg4 ?_
    change WP _ _ _ _ _ _ _ (sF H (tg H a2) a2 x4.toNatClampNeg FP.fconst0) _
    refine wp_aload_n 0 dX12_track_88 rfl ?_
    refine wp_getC (ci := 12) (j := 60) dX12_track_89 fi_X12_117r rfl rfl ht1 ?_
    change WP _ _ _ _ _ _ (rv (hC (sF H (tg H a2) a2 x4.toNatClampNeg FP.fconst0) 1360 a0) :: _) _ _
    refine wp_iload 2 dX12_track_92 rfl ?_
    refine wp_dconst0 dX12_track_94 ?_
    obtain ⟨a5, ha5, h⟩ := h
    obtain ⟨hr6, h⟩ := h
    obtain ⟨hg7, h⟩ := h
    refine wp_dastore dX12_track_95 ha5 hr6 hg7 ?_
    change WP _ _ _ _ _ _ _ (sD (sF H (tg H a2) a2 x4.toNatClampNeg FP.fconst0) (tg (sF H (tg H a2) a2 x4.toNatClampNeg FP.fconst0) a5) a5 x4.toNatClampNeg FP.dconst0) _
    refine wp_iinc (v := (x4 + 1)) (ls' := [(4, .int (x4 + 1)), (0, rv (some a0)), (1, .int x1)]) 2 dX12_track_96 rfl rfl (by decide) rfl ?_
    refine wp_goto (tgt := 68) dX12_track_99 rfl ?_
    refine wp_sub (ls' := [(0, rv (some a0)), (1, .int x1), (4, .int (x4 + 1))]) [1, 2, 0] rfl ?_
    exact h
theorem C_X12_track {d : Nat} {q : HP → Int32 → Prop} {a0 : Nat} {x1 : Int32} {x2 : Int32} {x3 : Int32} {H : HP} (h : wb_X12_track_0 d q a0 x1 x2 x3 H) : CI (d + 1) 0 0 mX12_track [rv (some a0), .int x1, .int x2, .int x3] H q := by
  refine call_of (by decide +kernel) (by simp [lg_sl, rv_cat, vc_int, vc_long, vc_float, vc_double]) ?_
  have e : lv_args 0 [rv (some a0), .int x1, .int x2, .int x3] = [(0, rv (some a0)), (1, .int x1), (2, .int x2), (3, .int x3)] := by simp [lv_args, rv_cat, vc_int, vc_long, vc_float, vc_double]
  rw [e]
  exact T_X12_track_0 h
/-- UnitProverModel.trues()I: the loop at 4 -/
def L_X12_trues_4 (d : Nat) (q : HP → Int32 → Prop) (a0 : Nat) (x1 : Int32) (x2 : Int32) (H : HP) : Prop := WP (d + 1) mX12_trues 0 0 4 [(0, rv (some a0)), (1, .int x1), (2, .int x2)] [] H (qI q)
def wb_X12_trues_0 (d : Nat) (q : HP → Int32 → Prop) (a0 : Nat) (H : HP) : Prop :=
  L_X12_trues_4 d q a0 (0 : Int32) (0 : Int32) H
set_option maxRecDepth 40000 in
set_option maxHeartbeats 4000000 in
theorem T_X12_trues_0 {d : Nat} {q : HP → Int32 → Prop} {a0 : Nat} {H : HP} (h : wb_X12_trues_0 d q a0 H) : WP (d + 1) mX12_trues 0 0 0 [(0, rv (some a0))] [] H (qI q) := by
  unfold wb_X12_trues_0 at h
  refine wp_iconst (v := (0 : Int32)) dX12_trues_0 (by decide) ?_
  refine wp_istore_n (ls' := [(1, .int (0 : Int32)), (0, rv (some a0))]) dX12_trues_1 (by decide) rfl ?_
  refine wp_iconst (v := (0 : Int32)) dX12_trues_2 (by decide) ?_
  refine wp_istore_n (ls' := [(2, .int (0 : Int32)), (1, .int (0 : Int32)), (0, rv (some a0))]) dX12_trues_3 (by decide) rfl ?_
  refine wp_sub (ls' := [(0, rv (some a0)), (1, .int (0 : Int32)), (2, .int (0 : Int32))]) [2, 1, 0] rfl ?_
  exact h
def wb_X12_trues_4 (d : Nat) (q : HP → Int32 → Prop) (a0 : Nat) (x1 : Int32) (x2 : Int32) (H : HP) : Prop :=
  tg H a0 = 13 ∧ (((hI H 1307 a0 0) ≤ x2 → q H x1) ∧ (¬ ((hI H 1307 a0 0) ≤ x2) → CI d 0 0 mX12_isTrue [rv (some a0), .int x2] H (fun H2 r3 => (¬ r3 = (-15 : Int32) → L_X12_trues_4 d q a0 (x1 + r3) (x2 + 1) H2) ∧ (r3 = (-15 : Int32) → q H2 (-15 : Int32)))))
set_option maxRecDepth 40000 in
set_option maxHeartbeats 4000000 in
theorem T_X12_trues_4 {d : Nat} {q : HP → Int32 → Prop} {a0 : Nat} {x1 : Int32} {x2 : Int32} {H : HP} (h : wb_X12_trues_4 d q a0 x1 x2 H) : L_X12_trues_4 d q a0 x1 x2 H := by
  unfold wb_X12_trues_4 at h
  unfold L_X12_trues_4
  refine wp_iload_n 2 dX12_trues_4 rfl ?_
  refine wp_aload_n 0 dX12_trues_5 rfl ?_
  obtain ⟨ht1, h⟩ := h
  refine wp_getI (ci := 12) (j := 7) dX12_trues_6 fi_X12_275r rfl rfl ht1 ?_
  change WP _ _ _ _ _ _ (.int (hI H 1307 a0 0) :: _) _ _
  refine wp_icmp_ge (tgt := 37) dX12_trues_9 rfl (fun c => ?_) (fun c => ?_)
  · replace h := h.1 c
    refine wp_iload_n 1 dX12_trues_37 rfl ?_
    exact wp_ireturn (ty := .int) dX12_trues_38 rfl rfl ⟨_, rfl, h⟩
  · replace h := h.2 c
    refine wp_aload_n 0 dX12_trues_12 rfl ?_
    refine wp_iload_n 2 dX12_trues_13 rfl ?_
    refine wp_callV (ci := 12) (As := [.int x2]) (rest := []) (mc := 0) (ms := 0) dX12_trues_14 lk_X12_449 rfl rfl (by decide) rfl rfl rfl ht1 rfl rfl rfl w_8_47 (Call.weaken h ?_)
    rintro H2 _ ⟨r3, rfl, h⟩
    change WP _ _ _ _ _ _ [.int r3] H2 _
    refine wp_istore_n (ls' := [(3, .int r3), (0, rv (some a0)), (1, .int x1), (2, .int x2)]) dX12_trues_17 (by decide) rfl ?_
    refine wp_iload_n 0 dX12_trues_18 rfl ?_
    refine wp_bipush (v := (-15 : Int32)) dX12_trues_19 (by decide) ?_
    refine wp_icmp_ne (tgt := 27) dX12_trues_21 rfl (fun c => ?_) (fun c => ?_)
    · replace h := h.1 c
      refine wp_iload_n 2 dX12_trues_27 rfl ?_
      refine wp_iload_n 0 dX12_trues_28 rfl ?_
      refine wp_iadd dX12_trues_29 ?_
      refine wp_istore_n (ls' := [(1, .int (x1 + r3)), (3, .int r3), (0, rv (some a0)), (2, .int x2)]) dX12_trues_30 (by decide) rfl ?_
      refine wp_iinc (v := (x2 + 1)) (ls' := [(2, .int (x2 + 1)), (1, .int (x1 + r3)), (3, .int r3), (0, rv (some a0))]) 3 dX12_trues_31 rfl rfl (by decide) rfl ?_
      refine wp_goto (tgt := 4) dX12_trues_34 rfl ?_
      refine wp_sub (ls' := [(0, rv (some a0)), (1, .int (x1 + r3)), (2, .int (x2 + 1))]) [3, 1, 0] rfl ?_
      exact h
    · replace h := h.2 c
      refine wp_bipush (v := (-15 : Int32)) dX12_trues_24 (by decide) ?_
      exact wp_ireturn (ty := .int) dX12_trues_26 rfl rfl ⟨_, rfl, h⟩
theorem C_X12_trues {d : Nat} {q : HP → Int32 → Prop} {a0 : Nat} {H : HP} (h : wb_X12_trues_0 d q a0 H) : CI (d + 1) 0 0 mX12_trues [rv (some a0)] H q := by
  refine call_of (by decide +kernel) (by simp [lg_sl, rv_cat, vc_int, vc_long, vc_float, vc_double]) ?_
  have e : lv_args 0 [rv (some a0)] = [(0, rv (some a0))] := by simp [lv_args, rv_cat, vc_int, vc_long, vc_float, vc_double]
  rw [e]
  exact T_X12_trues_0 h
/-- UnitProverModel.twin(II)I: the loop at 54 -/
def L_X12_twin_54 (d : Nat) (q : HP → Int32 → Prop) (a0 : Nat) (x1 : Int32) (x2 : Int32) (x3 : Int32) (H : HP) : Prop := WP (d + 1) mX12_twin 0 0 54 [(0, rv (some a0)), (1, .int x1), (2, .int x2), (3, .int x3)] [] H (qI q)
def wb_X12_twin_0 (d : Nat) (q : HP → Int32 → Prop) (a0 : Nat) (x1 : Int32) (x2 : Int32) (H : HP) : Prop :=
  CZ d 0 0 mX12_isTrack [.int x1] H (fun H1 b2 => (b2 = false → q H1 (-1 : Int32)) ∧ (b2 = true → CZ d 0 0 mX12_isTrack [.int x2] H1 (fun H3 b4 => (b4 = true → tg H3 a0 = 13 ∧ (∃ a6, (hC H3 1357 a0) = some a6 ∧ (isA H3 a6 0 ∧ (vp_in x2 (ln H3 a6) ∧ ((0 ≤ (hI H3 (tg H3 a6) a6 x2.toNatClampNeg) → vp_in x2 (ln H3 a6) ∧ (vp_in x1 (ln H3 a6) ∧ (∃ a11, (hC (sI H3 (tg H3 a6) a6 x1.toNatClampNeg (hI H3 (tg H3 a6) a6 x2.toNatClampNeg)) 1358 a0) = some a11 ∧ (isA (sI H3 (tg H3 a6) a6 x1.toNatClampNeg (hI H3 (tg H3 a6) a6 x2.toNatClampNeg)) a11 0 ∧ (vp_in x2 (ln (sI H3 (tg H3 a6) a6 x1.toNatClampNeg (hI H3 (tg H3 a6) a6 x2.toNatClampNeg)) a11) ∧ (vp_in x1 (ln (sI H3 (tg H3 a6) a6 x1.toNatClampNeg (hI H3 (tg H3 a6) a6 x2.toNatClampNeg)) a11) ∧ (∀ H15, (sI (sI H3 (tg H3 a6) a6 x1.toNatClampNeg (hI H3 (tg H3 a6) a6 x2.toNatClampNeg)) (tg (sI H3 (tg H3 a6) a6 x1.toNatClampNeg (hI H3 (tg H3 a6) a6 x2.toNatClampNeg)) a11) a11 x1.toNatClampNeg (hI (sI H3 (tg H3 a6) a6 x1.toNatClampNeg (hI H3 (tg H3 a6) a6 x2.toNatClampNeg)) (tg (sI H3 (tg H3 a6) a6 x1.toNatClampNeg (hI H3 (tg H3 a6) a6 x2.toNatClampNeg)) a11) a11 x2.toNatClampNeg)) = H15 → (L_X12_twin_54 d q a0 x1 x2 (0 : Int32) H15)))))))) ∧ (¬ (0 ≤ (hI H3 (tg H3 a6) a6 x2.toNatClampNeg)) → q H3 (-6 : Int32))))))) ∧ (b4 = false → q H3 (-1 : Int32)))))
set_option maxRecDepth 40000 in
set_option maxHeartbeats 4000000 in
theorem T_X12_twin_0 {d : Nat} {q : HP → Int32 → Prop} {a0 : Nat} {x1 : Int32} {x2 : Int32} {H : HP} (h : wb_X12_twin_0 d q a0 x1 x2 H) : WP (d + 1) mX12_twin 0 0 0 [(0, rv (some a0)), (1, .int x1), (2, .int x2)] [] H (qI q) := by
  unfold wb_X12_twin_0 at h
  refine wp_iload_n 1 dX12_twin_0 rfl ?_
  refine wp_callS (As := [.int x1]) (rest := []) (mc := 0) (ms := 0) dX12_twin_1 lk_X12_463 rfl rfl (by decide) rfl rfl rfl (Call.weaken h ?_)
  rintro H1 _ ⟨b2, rfl, h⟩
  change WP _ _ _ _ _ _ [.int (bI b2)] H1 _
  refine wp_if_eq (tgt := 14) dX12_twin_4 rfl (fun c => ?_) (fun c => ?_)
  · replace h := h.1 (bI_0.mp c)
    refine wp_iconst (v := (-1 : Int32)) dX12_twin_14 (by decide) ?_
    exact wp_ireturn (ty := .int) dX12_twin_15 rfl rfl ⟨_, rfl, h⟩
  · replace h := h.2 (bI_1.mp c)
    refine wp_iload_n 2 dX12_twin_7 rfl ?_
    refine wp_callS (As := [.int x2]) (rest := []) (mc := 0) (ms := 0) dX12_twin_8 lk_X12_463 rfl rfl (by decide) rfl rfl rfl (Call.weaken h ?_)
    rintro H3 _ ⟨b4, rfl, h⟩
    change WP _ _ _ _ _ _ [.int (bI b4)] H3 _
    refine wp_if_ne (tgt := 16) dX12_twin_11 rfl (fun c => ?_) (fun c => ?_)
    · replace h := h.1 (bI_1.mp c)
      refine wp_aload_n 0 dX12_twin_16 rfl ?_
      obtain ⟨ht5, h⟩ := h
      refine wp_getC (ci := 12) (j := 57) dX12_twin_17 fi_X12_107r rfl rfl ht5 ?_
      change WP _ _ _ _ _ _ (rv (hC H3 1357 a0) :: _) _ _
      refine wp_iload_n 2 dX12_twin_20 rfl ?_
      obtain ⟨a6, ha6, h⟩ := h
      obtain ⟨hr7, h⟩ := h
      obtain ⟨hg8, h⟩ := h
      refine wp_iaload dX12_twin_21 ha6 hr7 hg8 ?_
      refine wp_if_ge (tgt := 28) dX12_twin_22 rfl (fun c => ?_) (fun c => ?_)
      · replace h := h.1 c
        refine wp_aload_n 0 dX12_twin_28 rfl ?_
        refine wp_getC (ci := 12) (j := 57) dX12_twin_29 fi_X12_107r rfl rfl ht5 ?_
        change WP _ _ _ _ _ _ (rv (hC H3 1357 a0) :: _) _ _
        refine wp_iload_n 1 dX12_twin_32 rfl ?_
        refine wp_aload_n 0 dX12_twin_33 rfl ?_
        refine wp_getC (ci := 12) (j := 57) dX12_twin_34 fi_X12_107r rfl rfl ht5 ?_
        change WP _ _ _ _ _ _ (rv (hC H3 1357 a0) :: _) _ _
        refine wp_iload_n 2 dX12_twin_37 rfl ?_
        obtain ⟨hg9, h⟩ := h
        refine wp_iaload dX12_twin_38 ha6 hr7 hg9 ?_
        obtain ⟨hg10, h⟩ := h
        refine wp_iastore dX12_twin_39 ha6 hr7 hg10 ?_
        change WP _ _ _ _ _ _ _ (sI H3 (tg H3 a6) a6 x1.toNatClampNeg (hI H3 (tg H3 a6) a6 x2.toNatClampNeg)) _
        refine wp_aload_n 0 dX12_twin_40 rfl ?_
        refine wp_getC (ci := 12) (j := 58) dX12_twin_41 fi_X12_110r rfl rfl ht5 ?_
        change WP _ _ _ _ _ _ (rv (hC (sI H3 (tg H3 a6) a6 x1.toNatClampNeg (hI H3 (tg H3 a6) a6 x2.toNatClampNeg)) 1358 a0) :: _) _ _
        refine wp_iload_n 1 dX12_twin_44 rfl ?_
        refine wp_aload_n 0 dX12_twin_45 rfl ?_
        refine wp_getC (ci := 12) (j := 58) dX12_twin_46 fi_X12_110r rfl rfl ht5 ?_
        change WP _ _ _ _ _ _ (rv (hC (sI H3 (tg H3 a6) a6 x1.toNatClampNeg (hI H3 (tg H3 a6) a6 x2.toNatClampNeg)) 1358 a0) :: _) _ _
        refine wp_iload_n 2 dX12_twin_49 rfl ?_
        obtain ⟨a11, ha11, h⟩ := h
        obtain ⟨hr12, h⟩ := h
        obtain ⟨hg13, h⟩ := h
        refine wp_iaload dX12_twin_50 ha11 hr12 hg13 ?_
        obtain ⟨hg14, h⟩ := h
        refine wp_iastore dX12_twin_51 ha11 hr12 hg14 ?_
        change WP _ _ _ _ _ _ _ (sI (sI H3 (tg H3 a6) a6 x1.toNatClampNeg (hI H3 (tg H3 a6) a6 x2.toNatClampNeg)) (tg (sI H3 (tg H3 a6) a6 x1.toNatClampNeg (hI H3 (tg H3 a6) a6 x2.toNatClampNeg)) a11) a11 x1.toNatClampNeg (hI (sI H3 (tg H3 a6) a6 x1.toNatClampNeg (hI H3 (tg H3 a6) a6 x2.toNatClampNeg)) (tg (sI H3 (tg H3 a6) a6 x1.toNatClampNeg (hI H3 (tg H3 a6) a6 x2.toNatClampNeg)) a11) a11 x2.toNatClampNeg)) _
        replace h := h _ rfl
        generalize e16 : (sI (sI H3 (tg H3 a6) a6 x1.toNatClampNeg (hI H3 (tg H3 a6) a6 x2.toNatClampNeg)) (tg (sI H3 (tg H3 a6) a6 x1.toNatClampNeg (hI H3 (tg H3 a6) a6 x2.toNatClampNeg)) a11) a11 x1.toNatClampNeg (hI (sI H3 (tg H3 a6) a6 x1.toNatClampNeg (hI H3 (tg H3 a6) a6 x2.toNatClampNeg)) (tg (sI H3 (tg H3 a6) a6 x1.toNatClampNeg (hI H3 (tg H3 a6) a6 x2.toNatClampNeg)) a11) a11 x2.toNatClampNeg)) = H15 at h ⊢
        have ht17 : tg H15 a0 = 13 := by rw [← e16]; exact ht5
        have hr18 : isA H15 a6 0 := by rw [← e16]; exact hr7
        have hr19 : isA H15 a11 0 := by rw [← e16]; exact hr12
        refine wp_iconst (v := (0 : Int32)) dX12_twin_52 (by decide) ?_
        refine wp_istore_n (ls' := [(3, .int (0 : Int32)), (0, rv (some a0)), (1, .int x1), (2, .int x2)]) dX12_twin_53 (by decide) rfl ?_
        refine wp_sub (ls' := [(0, rv (some a0)), (1, .int x1), (2, .int x2), (3, .int (0 : Int32))]) [1, 2, 3, 0] rfl ?_
        exact h
      · replace h := h.2 c
        refine wp_bipush (v := (-6 : Int32)) dX12_twin_25 (by decide) ?_
        exact wp_ireturn (ty := .int) dX12_twin_27 rfl rfl ⟨_, rfl, h⟩
    · replace h := h.2 (bI_0.mp c)
      refine wp_iconst (v := (-1 : Int32)) dX12_twin_14 (by decide) ?_
      exact wp_ireturn (ty := .int) dX12_twin_15 rfl rfl ⟨_, rfl, h⟩
def wb_X12_twin_54 (d : Nat) (q : HP → Int32 → Prop) (a0 : Nat) (x1 : Int32) (x2 : Int32) (x3 : Int32) (H : HP) : Prop :=
  ((30 : Int32) ≤ x3 → tg H a0 = 13 ∧ (∃ a2, (hC H 1358 a0) = some a2 ∧ (isA H a2 0 ∧ (vp_in x1 (ln H a2) ∧ (q H (hI H (tg H a2) a2 x1.toNatClampNeg)))))) ∧ (¬ ((30 : Int32) ≤ x3) → tg H a0 = 13 ∧ (∃ a6, (hC H 1359 a0) = some a6 ∧ (isA H a6 4 ∧ (vp_in (((30 : Int32) * x2) + x3) (ln H a6) ∧ (vp_in (((30 : Int32) * x1) + x3) (ln H a6) ∧ (∃ a10, (hC (sF H (tg H a6) a6 (((30 : Int32) * x1) + x3).toNatClampNeg (hF H (tg H a6) a6 (((30 : Int32) * x2) + x3).toNatClampNeg)) 1360 a0) = some a10 ∧ (isA (sF H (tg H a6) a6 (((30 : Int32) * x1) + x3).toNatClampNeg (hF H (tg H a6) a6 (((30 : Int32) * x2) + x3).toNatClampNeg)) a10 5 ∧ (vp_in (((30 : Int32) * x2) + x3) (ln (sF H (tg H a6) a6 (((30 : Int32) * x1) + x3).toNatClampNeg (hF H (tg H a6) a6 (((30 : Int32) * x2) + x3).toNatClampNeg)) a10) ∧ (vp_in (((30 : Int32) * x1) + x3) (ln (sF H (tg H a6) a6 (((30 : Int32) * x1) + x3).toNatClampNeg (hF H (tg H a6) a6 (((30 : Int32) * x2) + x3).toNatClampNeg)) a10) ∧ (∀ H14, (sD (sF H (tg H a6) a6 (((30 : Int32) * x1) + x3).toNatClampNeg (hF H (tg H a6) a6 (((30 : Int32) * x2) + x3).toNatClampNeg)) (tg (sF H (tg H a6) a6 (((30 : Int32) * x1) + x3).toNatClampNeg (hF H (tg H a6) a6 (((30 : Int32) * x2) + x3).toNatClampNeg)) a10) a10 (((30 : Int32) * x1) + x3).toNatClampNeg (hD (sF H (tg H a6) a6 (((30 : Int32) * x1) + x3).toNatClampNeg (hF H (tg H a6) a6 (((30 : Int32) * x2) + x3).toNatClampNeg)) (tg (sF H (tg H a6) a6 (((30 : Int32) * x1) + x3).toNatClampNeg (hF H (tg H a6) a6 (((30 : Int32) * x2) + x3).toNatClampNeg)) a10) a10 (((30 : Int32) * x2) + x3).toNatClampNeg)) = H14 → (L_X12_twin_54 d q a0 x1 x2 (x3 + 1) H14)))))))))))
set_option maxRecDepth 40000 in
set_option maxHeartbeats 4000000 in
theorem T_X12_twin_54 {d : Nat} {q : HP → Int32 → Prop} {a0 : Nat} {x1 : Int32} {x2 : Int32} {x3 : Int32} {H : HP} (h : wb_X12_twin_54 d q a0 x1 x2 x3 H) : L_X12_twin_54 d q a0 x1 x2 x3 H := by
  unfold wb_X12_twin_54 at h
  unfold L_X12_twin_54
  refine wp_iload_n 3 dX12_twin_54 rfl ?_
  refine wp_bipush (v := (30 : Int32)) dX12_twin_55 (by decide) ?_
  refine wp_icmp_ge (tgt := 110) dX12_twin_57 rfl (fun c => ?_) (fun c => ?_)
  · replace h := h.1 c
    refine wp_aload_n 0 dX12_twin_110 rfl ?_
    obtain ⟨ht1, h⟩ := h
    refine wp_getC (ci := 12) (j := 58) dX12_twin_111 fi_X12_110r rfl rfl ht1 ?_
    change WP _ _ _ _ _ _ (rv (hC H 1358 a0) :: _) _ _
    refine wp_iload_n 1 dX12_twin_114 rfl ?_
    obtain ⟨a2, ha2, h⟩ := h
    obtain ⟨hr3, h⟩ := h
    obtain ⟨hg4, h⟩ := h
    refine wp_iaload dX12_twin_115 ha2 hr3 hg4 ?_
    exact wp_ireturn (ty := .int) dX12_twin_116 rfl rfl ⟨_, rfl, h⟩
  · replace h := h.2 c
    refine wp_aload_n 0 dX12_twin_60 rfl ?_
    obtain ⟨ht5, h⟩ := h
    refine wp_getC (ci := 12) (j := 59) dX12_twin_61 fi_X12_113r rfl rfl ht5 ?_
    change WP _ _ _ _ _ _ (rv (hC H 1359 a0) :: _) _ _
    refine wp_bipush (v := (30 : Int32)) dX12_twin_64 (by decide) ?_
    refine wp_iload_n 1 dX12_twin_66 rfl ?_
    refine wp_imul dX12_twin_67 ?_
    refine wp_iload_n 3 dX12_twin_68 rfl ?_
    refine wp_iadd dX12_twin_69 ?_
    refine wp_aload_n 0 dX12_twin_70 rfl ?_
    refine wp_getC (ci := 12) (j := 59) dX12_twin_71 fi_X12_113r rfl rfl ht5 ?_
    change WP _ _ _ _ _ _ (rv (hC H 1359 a0) :: _) _ _
    refine wp_bipush (v := (30 : Int32)) dX12_twin_74 (by decide) ?_
    refine wp_iload_n 2 dX12_twin_76 rfl ?_
    refine wp_imul dX12_twin_77 ?_
    refine wp_iload_n 3 dX12_twin_78 rfl ?_
    refine wp_iadd dX12_twin_79 ?_
    obtain ⟨a6, ha6, h⟩ := h
    obtain ⟨hr7, h⟩ := h
    obtain ⟨hg8, h⟩ := h
    refine wp_faload dX12_twin_80 ha6 hr7 hg8 ?_
    obtain ⟨hg9, h⟩ := h
    refine wp_fastore dX12_twin_81 ha6 hr7 hg9 ?_
    change WP _ _ _ _ _ _ _ (sF H (tg H a6) a6 (((30 : Int32) * x1) + x3).toNatClampNeg (hF H (tg H a6) a6 (((30 : Int32) * x2) + x3).toNatClampNeg)) _
    refine wp_aload_n 0 dX12_twin_82 rfl ?_
    refine wp_getC (ci := 12) (j := 60) dX12_twin_83 fi_X12_117r rfl rfl ht5 ?_
    change WP _ _ _ _ _ _ (rv (hC (sF H (tg H a6) a6 (((30 : Int32) * x1) + x3).toNatClampNeg (hF H (tg H a6) a6 (((30 : Int32) * x2) + x3).toNatClampNeg)) 1360 a0) :: _) _ _
    refine wp_bipush (v := (30 : Int32)) dX12_twin_86 (by decide) ?_
    refine wp_iload_n 1 dX12_twin_88 rfl ?_
    refine wp_imul dX12_twin_89 ?_
    refine wp_iload_n 3 dX12_twin_90 rfl ?_
    refine wp_iadd dX12_twin_91 ?_
    refine wp_aload_n 0 dX12_twin_92 rfl ?_
    refine wp_getC (ci := 12) (j := 60) dX12_twin_93 fi_X12_117r rfl rfl ht5 ?_
    change WP _ _ _ _ _ _ (rv (hC (sF H (tg H a6) a6 (((30 : Int32) * x1) + x3).toNatClampNeg (hF H (tg H a6) a6 (((30 : Int32) * x2) + x3).toNatClampNeg)) 1360 a0) :: _) _ _
    refine wp_bipush (v := (30 : Int32)) dX12_twin_96 (by decide) ?_
    refine wp_iload_n 2 dX12_twin_98 rfl ?_
    refine wp_imul dX12_twin_99 ?_
    refine wp_iload_n 3 dX12_twin_100 rfl ?_
    refine wp_iadd dX12_twin_101 ?_
    obtain ⟨a10, ha10, h⟩ := h
    obtain ⟨hr11, h⟩ := h
    obtain ⟨hg12, h⟩ := h
    refine wp_daload dX12_twin_102 ha10 hr11 hg12 ?_
    obtain ⟨hg13, h⟩ := h
    refine wp_dastore dX12_twin_103 ha10 hr11 hg13 ?_
    change WP _ _ _ _ _ _ _ (sD (sF H (tg H a6) a6 (((30 : Int32) * x1) + x3).toNatClampNeg (hF H (tg H a6) a6 (((30 : Int32) * x2) + x3).toNatClampNeg)) (tg (sF H (tg H a6) a6 (((30 : Int32) * x1) + x3).toNatClampNeg (hF H (tg H a6) a6 (((30 : Int32) * x2) + x3).toNatClampNeg)) a10) a10 (((30 : Int32) * x1) + x3).toNatClampNeg (hD (sF H (tg H a6) a6 (((30 : Int32) * x1) + x3).toNatClampNeg (hF H (tg H a6) a6 (((30 : Int32) * x2) + x3).toNatClampNeg)) (tg (sF H (tg H a6) a6 (((30 : Int32) * x1) + x3).toNatClampNeg (hF H (tg H a6) a6 (((30 : Int32) * x2) + x3).toNatClampNeg)) a10) a10 (((30 : Int32) * x2) + x3).toNatClampNeg)) _
    replace h := h _ rfl
    generalize e15 : (sD (sF H (tg H a6) a6 (((30 : Int32) * x1) + x3).toNatClampNeg (hF H (tg H a6) a6 (((30 : Int32) * x2) + x3).toNatClampNeg)) (tg (sF H (tg H a6) a6 (((30 : Int32) * x1) + x3).toNatClampNeg (hF H (tg H a6) a6 (((30 : Int32) * x2) + x3).toNatClampNeg)) a10) a10 (((30 : Int32) * x1) + x3).toNatClampNeg (hD (sF H (tg H a6) a6 (((30 : Int32) * x1) + x3).toNatClampNeg (hF H (tg H a6) a6 (((30 : Int32) * x2) + x3).toNatClampNeg)) (tg (sF H (tg H a6) a6 (((30 : Int32) * x1) + x3).toNatClampNeg (hF H (tg H a6) a6 (((30 : Int32) * x2) + x3).toNatClampNeg)) a10) a10 (((30 : Int32) * x2) + x3).toNatClampNeg)) = H14 at h ⊢
    have ht16 : tg H14 a0 = 13 := by rw [← e15]; exact ht5
    have hr17 : isA H14 a6 4 := by rw [← e15]; exact hr7
    have hr18 : isA H14 a10 5 := by rw [← e15]; exact hr11
    refine wp_iinc (v := (x3 + 1)) (ls' := [(3, .int (x3 + 1)), (0, rv (some a0)), (1, .int x1), (2, .int x2)]) 3 dX12_twin_104 rfl rfl (by decide) rfl ?_
    refine wp_goto (tgt := 54) dX12_twin_107 rfl ?_
    refine wp_sub (ls' := [(0, rv (some a0)), (1, .int x1), (2, .int x2), (3, .int (x3 + 1))]) [1, 2, 3, 0] rfl ?_
    exact h
theorem C_X12_twin {d : Nat} {q : HP → Int32 → Prop} {a0 : Nat} {x1 : Int32} {x2 : Int32} {H : HP} (h : wb_X12_twin_0 d q a0 x1 x2 H) : CI (d + 1) 0 0 mX12_twin [rv (some a0), .int x1, .int x2] H q := by
  refine call_of (by decide +kernel) (by simp [lg_sl, rv_cat, vc_int, vc_long, vc_float, vc_double]) ?_
  have e : lv_args 0 [rv (some a0), .int x1, .int x2] = [(0, rv (some a0)), (1, .int x1), (2, .int x2)] := by simp [lv_args, rv_cat, vc_int, vc_long, vc_float, vc_double]
  rw [e]
  exact T_X12_twin_0 h
/-- UnitProverModel.unclaim(I)I: the loop at 32 -/
def L_X12_unclaim_32 (d : Nat) (q : HP → Int32 → Prop) (a0 : Nat) (x2 : Int32) (H : HP) : Prop := WP (d + 1) mX12_unclaim 0 0 32 [(0, rv (some a0)), (2, .int x2)] [] H (qI q)
def wb_X12_unclaim_0 (d : Nat) (q : HP → Int32 → Prop) (a0 : Nat) (x1 : Int32) (H : HP) : Prop :=
  tg H a0 = 13 ∧ (CZ d 0 0 mX12_isIn [.long (x1.toInt64), .long (0 : Int64), .long (((hI H 1307 a0 0) - (1 : Int32)).toInt64)] H (fun H2 b3 => (b3 = true → tg H2 a0 = 13 ∧ (L_X12_unclaim_32 d q a0 ((4 : Int32) * x1) (sI H2 1307 a0 0 ((hI H2 1307 a0 0) - (1 : Int32))))) ∧ (b3 = false → q H2 (-1 : Int32))))
set_option maxRecDepth 40000 in
set_option maxHeartbeats 4000000 in
theorem T_X12_unclaim_0 {d : Nat} {q : HP → Int32 → Prop} {a0 : Nat} {x1 : Int32} {H : HP} (h : wb_X12_unclaim_0 d q a0 x1 H) : WP (d + 1) mX12_unclaim 0 0 0 [(0, rv (some a0)), (1, .int x1)] [] H (qI q) := by
  unfold wb_X12_unclaim_0 at h
  refine wp_iload_n 1 dX12_unclaim_0 rfl ?_
  refine wp_i2l dX12_unclaim_1 ?_
  refine wp_lconst (v := (0 : Int64)) dX12_unclaim_2 (by decide) ?_
  refine wp_aload_n 0 dX12_unclaim_3 rfl ?_
  obtain ⟨ht1, h⟩ := h
  refine wp_getI (ci := 12) (j := 7) dX12_unclaim_4 fi_X12_275r rfl rfl ht1 ?_
  change WP _ _ _ _ _ _ (.int (hI H 1307 a0 0) :: _) _ _
  refine wp_iconst (v := (1 : Int32)) dX12_unclaim_7 (by decide) ?_
  refine wp_isub dX12_unclaim_8 ?_
  refine wp_i2l dX12_unclaim_9 ?_
  refine wp_callS (As := [.long (x1.toInt64), .long (0 : Int64), .long (((hI H 1307 a0 0) - (1 : Int32)).toInt64)]) (rest := []) (mc := 0) (ms := 0) dX12_unclaim_10 lk_X12_161 rfl rfl (by decide) rfl rfl rfl (Call.weaken h ?_)
  rintro H2 _ ⟨b3, rfl, h⟩
  change WP _ _ _ _ _ _ [.int (bI b3)] H2 _
  refine wp_if_ne (tgt := 18) dX12_unclaim_13 rfl (fun c => ?_) (fun c => ?_)
  · replace h := h.1 (bI_1.mp c)
    refine wp_aload_n 0 dX12_unclaim_18 rfl ?_
    refine wp_dup dX12_unclaim_19 (rv_cat _) ?_
    obtain ⟨ht4, h⟩ := h
    refine wp_getI (ci := 12) (j := 7) dX12_unclaim_20 fi_X12_275r rfl rfl ht4 ?_
    change WP _ _ _ _ _ _ (.int (hI H2 1307 a0 0) :: _) _ _
    refine wp_iconst (v := (1 : Int32)) dX12_unclaim_23 (by decide) ?_
    refine wp_isub dX12_unclaim_24 ?_
    refine wp_putI (ci := 12) (j := 7) dX12_unclaim_25 fi_X12_275 rfl (fun z => by cases z) rfl ht4 rfl rfl ?_
    change WP _ _ _ _ _ _ _ (sI H2 1307 a0 0 ((hI H2 1307 a0 0) - (1 : Int32))) _
    refine wp_iconst (v := (4 : Int32)) dX12_unclaim_28 (by decide) ?_
    refine wp_iload_n 1 dX12_unclaim_29 rfl ?_
    refine wp_imul dX12_unclaim_30 ?_
    refine wp_istore_n (ls' := [(2, .int ((4 : Int32) * x1)), (0, rv (some a0)), (1, .int x1)]) dX12_unclaim_31 (by decide) rfl ?_
    refine wp_sub (ls' := [(0, rv (some a0)), (2, .int ((4 : Int32) * x1))]) [1, 0] rfl ?_
    exact h
  · replace h := h.2 (bI_0.mp c)
    refine wp_iconst (v := (-1 : Int32)) dX12_unclaim_16 (by decide) ?_
    exact wp_ireturn (ty := .int) dX12_unclaim_17 rfl rfl ⟨_, rfl, h⟩
def wb_X12_unclaim_32 (d : Nat) (q : HP → Int32 → Prop) (a0 : Nat) (x2 : Int32) (H : HP) : Prop :=
  tg H a0 = 13 ∧ ((((4 : Int32) * (hI H 1307 a0 0)) ≤ x2 → q H (hI H 1307 a0 0)) ∧ (¬ (((4 : Int32) * (hI H 1307 a0 0)) ≤ x2) → ∃ a2, (hC H 1308 a0) = some a2 ∧ (isA H a2 0 ∧ (vp_in (x2 + (4 : Int32)) (ln H a2) ∧ (vp_in x2 (ln H a2) ∧ (L_X12_unclaim_32 d q a0 (x2 + 1) (sI H (tg H a2) a2 x2.toNatClampNeg (hI H (tg H a2) a2 (x2 + (4 : Int32)).toNatClampNeg))))))))
set_option maxRecDepth 40000 in
set_option maxHeartbeats 4000000 in
theorem T_X12_unclaim_32 {d : Nat} {q : HP → Int32 → Prop} {a0 : Nat} {x2 : Int32} {H : HP} (h : wb_X12_unclaim_32 d q a0 x2 H) : L_X12_unclaim_32 d q a0 x2 H := by
  unfold wb_X12_unclaim_32 at h
  unfold L_X12_unclaim_32
  refine wp_iload_n 1 dX12_unclaim_32 rfl ?_
  refine wp_iconst (v := (4 : Int32)) dX12_unclaim_33 (by decide) ?_
  refine wp_aload_n 0 dX12_unclaim_34 rfl ?_
  obtain ⟨ht1, h⟩ := h
  refine wp_getI (ci := 12) (j := 7) dX12_unclaim_35 fi_X12_275r rfl rfl ht1 ?_
  change WP _ _ _ _ _ _ (.int (hI H 1307 a0 0) :: _) _ _
  refine wp_imul dX12_unclaim_38 ?_
  refine wp_icmp_ge (tgt := 62) dX12_unclaim_39 rfl (fun c => ?_) (fun c => ?_)
  · replace h := h.1 c
    refine wp_aload_n 0 dX12_unclaim_62 rfl ?_
    refine wp_getI (ci := 12) (j := 7) dX12_unclaim_63 fi_X12_275r rfl rfl ht1 ?_
    change WP _ _ _ _ _ _ (.int (hI H 1307 a0 0) :: _) _ _
    exact wp_ireturn (ty := .int) dX12_unclaim_66 rfl rfl ⟨_, rfl, h⟩
  · replace h := h.2 c
    refine wp_aload_n 0 dX12_unclaim_42 rfl ?_
    refine wp_getC (ci := 12) (j := 8) dX12_unclaim_43 fi_X12_35r rfl rfl ht1 ?_
    change WP _ _ _ _ _ _ (rv (hC H 1308 a0) :: _) _ _
    refine wp_iload_n 1 dX12_unclaim_46 rfl ?_
    refine wp_aload_n 0 dX12_unclaim_47 rfl ?_
    refine wp_getC (ci := 12) (j := 8) dX12_unclaim_48 fi_X12_35r rfl rfl ht1 ?_
    change WP _ _ _ _ _ _ (rv (hC H 1308 a0) :: _) _ _
    refine wp_iload_n 1 dX12_unclaim_51 rfl ?_
    refine wp_iconst (v := (4 : Int32)) dX12_unclaim_52 (by decide) ?_
    refine wp_iadd dX12_unclaim_53 ?_
    obtain ⟨a2, ha2, h⟩ := h
    obtain ⟨hr3, h⟩ := h
    obtain ⟨hg4, h⟩ := h
    refine wp_iaload dX12_unclaim_54 ha2 hr3 hg4 ?_
    obtain ⟨hg5, h⟩ := h
    refine wp_iastore dX12_unclaim_55 ha2 hr3 hg5 ?_
    change WP _ _ _ _ _ _ _ (sI H (tg H a2) a2 x2.toNatClampNeg (hI H (tg H a2) a2 (x2 + (4 : Int32)).toNatClampNeg)) _
    refine wp_iinc (v := (x2 + 1)) (ls' := [(2, .int (x2 + 1)), (0, rv (some a0))]) 1 dX12_unclaim_56 rfl rfl (by decide) rfl ?_
    refine wp_goto (tgt := 32) dX12_unclaim_59 rfl ?_
    refine wp_sub (ls' := [(0, rv (some a0)), (2, .int (x2 + 1))]) [1, 0] rfl ?_
    exact h
theorem C_X12_unclaim {d : Nat} {q : HP → Int32 → Prop} {a0 : Nat} {x1 : Int32} {H : HP} (h : wb_X12_unclaim_0 d q a0 x1 H) : CI (d + 1) 0 0 mX12_unclaim [rv (some a0), .int x1] H q := by
  refine call_of (by decide +kernel) (by simp [lg_sl, rv_cat, vc_int, vc_long, vc_float, vc_double]) ?_
  have e : lv_args 0 [rv (some a0), .int x1] = [(0, rv (some a0)), (1, .int x1)] := by simp [lv_args, rv_cat, vc_int, vc_long, vc_float, vc_double]
  rw [e]
  exact T_X12_unclaim_0 h
def wb_X12_undo_0 (d : Nat) (q : HP → Int32 → Prop) (a0 : Nat) (H : HP) : Prop :=
  tg H a0 = 13 ∧ ((¬ (hI H 1309 a0 0) = 0 → CV d 0 0 mX12_copies [rv (hC (sI (sI H 1300 a0 0 (hI H 1310 a0 0)) 1307 a0 0 (hI (sI H 1300 a0 0 (hI H 1310 a0 0)) 1311 a0 0)) 1312 a0), rv (hC (sI (sI H 1300 a0 0 (hI H 1310 a0 0)) 1307 a0 0 (hI (sI H 1300 a0 0 (hI H 1310 a0 0)) 1311 a0 0)) 1301 a0)] (sI (sI H 1300 a0 0 (hI H 1310 a0 0)) 1307 a0 0 (hI (sI H 1300 a0 0 (hI H 1310 a0 0)) 1311 a0 0)) (fun H2 => tg H2 a0 = 13 ∧ (CV d 0 0 mX12_copies [rv (hC H2 1313 a0), rv (hC H2 1302 a0)] H2 (fun H4 => tg H4 a0 = 13 ∧ (CV d 0 0 mX12_copies [rv (hC H4 1314 a0), rv (hC H4 1308 a0)] H4 (fun H6 => tg H6 a0 = 13 ∧ (CV d 0 0 mX12_copiesLong [rv (hC H6 1315 a0), rv (hC H6 1303 a0)] H6 (fun H8 => tg H8 a0 = 13 ∧ (CV d 0 0 mX12_copiesLong [rv (hC H8 1316 a0), rv (hC H8 1304 a0)] H8 (fun H10 => tg H10 a0 = 13 ∧ (CV d 0 0 mX12_copiesLong [rv (hC H10 1317 a0), rv (hC H10 1305 a0)] H10 (fun H12 => tg H12 a0 = 13 ∧ (CV d 0 0 mX12_copiesLong [rv (hC H12 1318 a0), rv (hC H12 1306 a0)] H12 (fun H14 => tg H14 a0 = 13 ∧ (q H14 (hI H14 1300 a0 0)))))))))))))))) ∧ ((hI H 1309 a0 0) = 0 → q H (-3 : Int32)))
set_option maxRecDepth 40000 in
set_option maxHeartbeats 4000000 in
theorem T_X12_undo_0 {d : Nat} {q : HP → Int32 → Prop} {a0 : Nat} {H : HP} (h : wb_X12_undo_0 d q a0 H) : WP (d + 1) mX12_undo 0 0 0 [(0, rv (some a0))] [] H (qI q) := by
  unfold wb_X12_undo_0 at h
  refine wp_aload_n 0 dX12_undo_0 rfl ?_
  obtain ⟨ht1, h⟩ := h
  refine wp_getI (ci := 12) (j := 9) dX12_undo_1 fi_X12_501r rfl rfl ht1 ?_
  change WP _ _ _ _ _ _ (.int (hI H 1309 a0 0) :: _) _ _
  refine wp_if_ne (tgt := 10) dX12_undo_4 rfl (fun c => ?_) (fun c => ?_)
  · replace h := h.1 c
    refine wp_aload_n 0 dX12_undo_10 rfl ?_
    refine wp_aload_n 0 dX12_undo_11 rfl ?_
    refine wp_getI (ci := 12) (j := 10) dX12_undo_12 fi_X12_504r rfl rfl ht1 ?_
    change WP _ _ _ _ _ _ (.int (hI H 1310 a0 0) :: _) _ _
    refine wp_putI (ci := 12) (j := 0) dX12_undo_15 fi_X12_11 rfl (fun z => by cases z) rfl ht1 rfl rfl ?_
    change WP _ _ _ _ _ _ _ (sI H 1300 a0 0 (hI H 1310 a0 0)) _
    refine wp_aload_n 0 dX12_undo_18 rfl ?_
    refine wp_aload_n 0 dX12_undo_19 rfl ?_
    refine wp_getI (ci := 12) (j := 11) dX12_undo_20 fi_X12_507r rfl rfl ht1 ?_
    change WP _ _ _ _ _ _ (.int (hI (sI H 1300 a0 0 (hI H 1310 a0 0)) 1311 a0 0) :: _) _ _
    refine wp_putI (ci := 12) (j := 7) dX12_undo_23 fi_X12_275 rfl (fun z => by cases z) rfl ht1 rfl rfl ?_
    change WP _ _ _ _ _ _ _ (sI (sI H 1300 a0 0 (hI H 1310 a0 0)) 1307 a0 0 (hI (sI H 1300 a0 0 (hI H 1310 a0 0)) 1311 a0 0)) _
    refine wp_aload_n 0 dX12_undo_26 rfl ?_
    refine wp_getC (ci := 12) (j := 12) dX12_undo_27 fi_X12_38r rfl rfl ht1 ?_
    change WP _ _ _ _ _ _ (rv (hC (sI (sI H 1300 a0 0 (hI H 1310 a0 0)) 1307 a0 0 (hI (sI H 1300 a0 0 (hI H 1310 a0 0)) 1311 a0 0)) 1312 a0) :: _) _ _
    refine wp_aload_n 0 dX12_undo_30 rfl ?_
    refine wp_getC (ci := 12) (j := 1) dX12_undo_31 fi_X12_15r rfl rfl ht1 ?_
    change WP _ _ _ _ _ _ (rv (hC (sI (sI H 1300 a0 0 (hI H 1310 a0 0)) 1307 a0 0 (hI (sI H 1300 a0 0 (hI H 1310 a0 0)) 1311 a0 0)) 1301 a0) :: _) _ _
    refine wp_callS (As := [rv (hC (sI (sI H 1300 a0 0 (hI H 1310 a0 0)) 1307 a0 0 (hI (sI H 1300 a0 0 (hI H 1310 a0 0)) 1311 a0 0)) 1312 a0), rv (hC (sI (sI H 1300 a0 0 (hI H 1310 a0 0)) 1307 a0 0 (hI (sI H 1300 a0 0 (hI H 1310 a0 0)) 1311 a0 0)) 1301 a0)]) (rest := []) (mc := 0) (ms := 0) dX12_undo_34 lk_X12_510 rfl rfl (by decide) rfl rfl rfl (Call.weaken h ?_)
    rintro H2 _ ⟨rfl, h⟩
    change WP _ _ _ _ _ _ [] H2 _
    refine wp_aload_n 0 dX12_undo_37 rfl ?_
    obtain ⟨ht3, h⟩ := h
    refine wp_getC (ci := 12) (j := 13) dX12_undo_38 fi_X12_41r rfl rfl ht3 ?_
    change WP _ _ _ _ _ _ (rv (hC H2 1313 a0) :: _) _ _
    refine wp_aload_n 0 dX12_undo_41 rfl ?_
    refine wp_getC (ci := 12) (j := 2) dX12_undo_42 fi_X12_19r rfl rfl ht3 ?_
    change WP _ _ _ _ _ _ (rv (hC H2 1302 a0) :: _) _ _
    refine wp_callS (As := [rv (hC H2 1313 a0), rv (hC H2 1302 a0)]) (rest := []) (mc := 0) (ms := 0) dX12_undo_45 lk_X12_510 rfl rfl (by decide) rfl rfl rfl (Call.weaken h ?_)
    rintro H4 _ ⟨rfl, h⟩
    change WP _ _ _ _ _ _ [] H4 _
    refine wp_aload_n 0 dX12_undo_48 rfl ?_
    obtain ⟨ht5, h⟩ := h
    refine wp_getC (ci := 12) (j := 14) dX12_undo_49 fi_X12_44r rfl rfl ht5 ?_
    change WP _ _ _ _ _ _ (rv (hC H4 1314 a0) :: _) _ _
    refine wp_aload_n 0 dX12_undo_52 rfl ?_
    refine wp_getC (ci := 12) (j := 8) dX12_undo_53 fi_X12_35r rfl rfl ht5 ?_
    change WP _ _ _ _ _ _ (rv (hC H4 1308 a0) :: _) _ _
    refine wp_callS (As := [rv (hC H4 1314 a0), rv (hC H4 1308 a0)]) (rest := []) (mc := 0) (ms := 0) dX12_undo_56 lk_X12_510 rfl rfl (by decide) rfl rfl rfl (Call.weaken h ?_)
    rintro H6 _ ⟨rfl, h⟩
    change WP _ _ _ _ _ _ [] H6 _
    refine wp_aload_n 0 dX12_undo_59 rfl ?_
    obtain ⟨ht7, h⟩ := h
    refine wp_getC (ci := 12) (j := 15) dX12_undo_60 fi_X12_47r rfl rfl ht7 ?_
    change WP _ _ _ _ _ _ (rv (hC H6 1315 a0) :: _) _ _
    refine wp_aload_n 0 dX12_undo_63 rfl ?_
    refine wp_getC (ci := 12) (j := 3) dX12_undo_64 fi_X12_22r rfl rfl ht7 ?_
    change WP _ _ _ _ _ _ (rv (hC H6 1303 a0) :: _) _ _
    refine wp_callS (As := [rv (hC H6 1315 a0), rv (hC H6 1303 a0)]) (rest := []) (mc := 0) (ms := 0) dX12_undo_67 lk_X12_514 rfl rfl (by decide) rfl rfl rfl (Call.weaken h ?_)
    rintro H8 _ ⟨rfl, h⟩
    change WP _ _ _ _ _ _ [] H8 _
    refine wp_aload_n 0 dX12_undo_70 rfl ?_
    obtain ⟨ht9, h⟩ := h
    refine wp_getC (ci := 12) (j := 16) dX12_undo_71 fi_X12_50r rfl rfl ht9 ?_
    change WP _ _ _ _ _ _ (rv (hC H8 1316 a0) :: _) _ _
    refine wp_aload_n 0 dX12_undo_74 rfl ?_
    refine wp_getC (ci := 12) (j := 4) dX12_undo_75 fi_X12_26r rfl rfl ht9 ?_
    change WP _ _ _ _ _ _ (rv (hC H8 1304 a0) :: _) _ _
    refine wp_callS (As := [rv (hC H8 1316 a0), rv (hC H8 1304 a0)]) (rest := []) (mc := 0) (ms := 0) dX12_undo_78 lk_X12_514 rfl rfl (by decide) rfl rfl rfl (Call.weaken h ?_)
    rintro H10 _ ⟨rfl, h⟩
    change WP _ _ _ _ _ _ [] H10 _
    refine wp_aload_n 0 dX12_undo_81 rfl ?_
    obtain ⟨ht11, h⟩ := h
    refine wp_getC (ci := 12) (j := 17) dX12_undo_82 fi_X12_53r rfl rfl ht11 ?_
    change WP _ _ _ _ _ _ (rv (hC H10 1317 a0) :: _) _ _
    refine wp_aload_n 0 dX12_undo_85 rfl ?_
    refine wp_getC (ci := 12) (j := 5) dX12_undo_86 fi_X12_29r rfl rfl ht11 ?_
    change WP _ _ _ _ _ _ (rv (hC H10 1305 a0) :: _) _ _
    refine wp_callS (As := [rv (hC H10 1317 a0), rv (hC H10 1305 a0)]) (rest := []) (mc := 0) (ms := 0) dX12_undo_89 lk_X12_514 rfl rfl (by decide) rfl rfl rfl (Call.weaken h ?_)
    rintro H12 _ ⟨rfl, h⟩
    change WP _ _ _ _ _ _ [] H12 _
    refine wp_aload_n 0 dX12_undo_92 rfl ?_
    obtain ⟨ht13, h⟩ := h
    refine wp_getC (ci := 12) (j := 18) dX12_undo_93 fi_X12_56r rfl rfl ht13 ?_
    change WP _ _ _ _ _ _ (rv (hC H12 1318 a0) :: _) _ _
    refine wp_aload_n 0 dX12_undo_96 rfl ?_
    refine wp_getC (ci := 12) (j := 6) dX12_undo_97 fi_X12_32r rfl rfl ht13 ?_
    change WP _ _ _ _ _ _ (rv (hC H12 1306 a0) :: _) _ _
    refine wp_callS (As := [rv (hC H12 1318 a0), rv (hC H12 1306 a0)]) (rest := []) (mc := 0) (ms := 0) dX12_undo_100 lk_X12_514 rfl rfl (by decide) rfl rfl rfl (Call.weaken h ?_)
    rintro H14 _ ⟨rfl, h⟩
    change WP _ _ _ _ _ _ [] H14 _
    refine wp_aload_n 0 dX12_undo_103 rfl ?_
    obtain ⟨ht15, h⟩ := h
    refine wp_getI (ci := 12) (j := 0) dX12_undo_104 fi_X12_11r rfl rfl ht15 ?_
    change WP _ _ _ _ _ _ (.int (hI H14 1300 a0 0) :: _) _ _
    exact wp_ireturn (ty := .int) dX12_undo_107 rfl rfl ⟨_, rfl, h⟩
  · replace h := h.2 c
    refine wp_bipush (v := (-3 : Int32)) dX12_undo_7 (by decide) ?_
    exact wp_ireturn (ty := .int) dX12_undo_9 rfl rfl ⟨_, rfl, h⟩
theorem C_X12_undo {d : Nat} {q : HP → Int32 → Prop} {a0 : Nat} {H : HP} (h : wb_X12_undo_0 d q a0 H) : CI (d + 1) 0 0 mX12_undo [rv (some a0)] H q := by
  refine call_of (by decide +kernel) (by simp [lg_sl, rv_cat, vc_int, vc_long, vc_float, vc_double]) ?_
  have e : lv_args 0 [rv (some a0)] = [(0, rv (some a0))] := by simp [lv_args, rv_cat, vc_int, vc_long, vc_float, vc_double]
  rw [e]
  exact T_X12_undo_0 h
def wb_X12_unit_0 (d : Nat) (q : HP → Int32 → Prop) (a0 : Nat) (H : HP) : Prop :=
  tg H a0 = 13 ∧ (CI d 0 0 mX12_letters [rv (some a0)] H (fun H2 r3 => tg H2 a0 = 13 ∧ ((0 ≤ (hI H2 1325 a0 0) → q H2 (-1 : Int32)) ∧ (¬ (0 ≤ (hI H2 1325 a0 0)) → CI d 0 0 mX12_whose [rv (some a0), .int (hI H 1324 a0 0), .int r3] H2 (fun H5 r6 => q H5 r6)))))
set_option maxRecDepth 40000 in
set_option maxHeartbeats 4000000 in
theorem T_X12_unit_0 {d : Nat} {q : HP → Int32 → Prop} {a0 : Nat} {H : HP} (h : wb_X12_unit_0 d q a0 H) : WP (d + 1) mX12_unit 0 0 0 [(0, rv (some a0))] [] H (qI q) := by
  unfold wb_X12_unit_0 at h
  refine wp_aload_n 0 dX12_unit_0 rfl ?_
  obtain ⟨ht1, h⟩ := h
  refine wp_getI (ci := 12) (j := 24) dX12_unit_1 fi_X12_174r rfl rfl ht1 ?_
  change WP _ _ _ _ _ _ (.int (hI H 1324 a0 0) :: _) _ _
  refine wp_istore_n (ls' := [(1, .int (hI H 1324 a0 0)), (0, rv (some a0))]) dX12_unit_4 (by decide) rfl ?_
  refine wp_aload_n 1 dX12_unit_5 rfl ?_
  refine wp_callV (ci := 12) (As := []) (rest := []) (mc := 0) (ms := 0) dX12_unit_6 lk_X12_212 rfl rfl (by decide) rfl rfl rfl ht1 rfl rfl rfl w_6_198 (Call.weaken h ?_)
  rintro H2 _ ⟨r3, rfl, h⟩
  change WP _ _ _ _ _ _ [.int r3] H2 _
  refine wp_istore_n (ls' := [(2, .int r3), (1, .int (hI H 1324 a0 0)), (0, rv (some a0))]) dX12_unit_9 (by decide) rfl ?_
  refine wp_aload_n 2 dX12_unit_10 rfl ?_
  obtain ⟨ht4, h⟩ := h
  refine wp_getI (ci := 12) (j := 25) dX12_unit_11 fi_X12_189r rfl rfl ht4 ?_
  change WP _ _ _ _ _ _ (.int (hI H2 1325 a0 0) :: _) _ _
  refine wp_if_ge (tgt := 26) dX12_unit_14 rfl (fun c => ?_) (fun c => ?_)
  · replace h := h.1 c
    refine wp_iconst (v := (-1 : Int32)) dX12_unit_26 (by decide) ?_
    exact wp_ireturn (ty := .int) dX12_unit_27 rfl rfl ⟨_, rfl, h⟩
  · replace h := h.2 c
    refine wp_aload_n 2 dX12_unit_17 rfl ?_
    refine wp_iload_n 1 dX12_unit_18 rfl ?_
    refine wp_iload_n 0 dX12_unit_19 rfl ?_
    refine wp_callV (ci := 12) (As := [.int (hI H 1324 a0 0), .int r3]) (rest := []) (mc := 0) (ms := 0) dX12_unit_20 lk_X12_243 rfl rfl (by decide) rfl rfl rfl ht4 rfl rfl rfl w_7_8 (Call.weaken h ?_)
    rintro H5 _ ⟨r6, rfl, h⟩
    change WP _ _ _ _ _ _ [.int r6] H5 _
    refine wp_goto (tgt := 27) dX12_unit_23 rfl ?_
    exact wp_ireturn (ty := .int) dX12_unit_27 rfl rfl ⟨_, rfl, h⟩
theorem C_X12_unit {d : Nat} {q : HP → Int32 → Prop} {a0 : Nat} {H : HP} (h : wb_X12_unit_0 d q a0 H) : CI (d + 1) 0 0 mX12_unit [rv (some a0)] H q := by
  refine call_of (by decide +kernel) (by simp [lg_sl, rv_cat, vc_int, vc_long, vc_float, vc_double]) ?_
  have e : lv_args 0 [rv (some a0)] = [(0, rv (some a0))] := by simp [lv_args, rv_cat, vc_int, vc_long, vc_float, vc_double]
  rw [e]
  exact T_X12_unit_0 h
def wb_X12_value_0 (d : Nat) (q : HP → Int64 → Prop) (a0 : Nat) (x1 : Int32) (x2 : Int32) (H : HP) : Prop :=
  tg H a0 = 13 ∧ (((hI H 1339 a0 0) = 0 → q H (-9223372036854775808 : Int64)) ∧ (¬ ((hI H 1339 a0 0) = 0) → CZ d 0 0 mX12_isStep [rv (some a0), .int x1] H (fun H2 b3 => (b3 = false → q H2 (-9223372036854775808 : Int64)) ∧ (b3 = true → CZ d 0 0 mX12_isPart [.int x2] H2 (fun H4 b5 => (b5 = false → q H4 (-9223372036854775808 : Int64)) ∧ (b5 = true → tg H4 a0 = 13 ∧ (∃ a7, (hC H4 1347 a0) = some a7 ∧ (isA H4 a7 3 ∧ (vp_in x1 (ln H4 a7) ∧ (∃ a10, (hC H4 1348 a0) = some a10 ∧ (isA H4 a10 3 ∧ (vp_in x1 (ln H4 a10) ∧ (CJ d 0 0 mX12_partOf [.long (hL H4 (tg H4 a7) a7 x1.toNatClampNeg), .long (hL H4 (tg H4 a10) a10 x1.toNatClampNeg), .int x2] H4 (fun H13 r14 => q H13 r14))))))))))))))
set_option maxRecDepth 40000 in
set_option maxHeartbeats 4000000 in
theorem T_X12_value_0 {d : Nat} {q : HP → Int64 → Prop} {a0 : Nat} {x1 : Int32} {x2 : Int32} {H : HP} (h : wb_X12_value_0 d q a0 x1 x2 H) : WP (d + 1) mX12_value 0 0 0 [(0, rv (some a0)), (1, .int x1), (2, .int x2)] [] H (qJ q) := by
  unfold wb_X12_value_0 at h
  refine wp_aload_n 0 dX12_value_0 rfl ?_
  obtain ⟨ht1, h⟩ := h
  refine wp_getI (ci := 12) (j := 39) dX12_value_1 fi_X12_405r rfl rfl ht1 ?_
  change WP _ _ _ _ _ _ (.int (hI H 1339 a0 0) :: _) _ _
  refine wp_if_eq (tgt := 41) dX12_value_4 rfl (fun c => ?_) (fun c => ?_)
  · replace h := h.1 c
    refine wp_ldc2 dX12_value_41 w_7_55 ?_
    exact wp_lreturn dX12_value_44 rfl ⟨_, rfl, h⟩
  · replace h := h.2 c
    refine wp_aload_n 0 dX12_value_7 rfl ?_
    refine wp_iload_n 1 dX12_value_8 rfl ?_
    refine wp_callV (ci := 12) (As := [.int x1]) (rest := []) (mc := 0) (ms := 0) dX12_value_9 lk_X12_408 rfl rfl (by decide) rfl rfl rfl ht1 rfl rfl rfl w_7_213 (Call.weaken h ?_)
    rintro H2 _ ⟨b3, rfl, h⟩
    change WP _ _ _ _ _ _ [.int (bI b3)] H2 _
    refine wp_if_eq (tgt := 41) dX12_value_12 rfl (fun c => ?_) (fun c => ?_)
    · replace h := h.1 (bI_0.mp c)
      refine wp_ldc2 dX12_value_41 w_7_55 ?_
      exact wp_lreturn dX12_value_44 rfl ⟨_, rfl, h⟩
    · replace h := h.2 (bI_1.mp c)
      refine wp_iload_n 2 dX12_value_15 rfl ?_
      refine wp_callS (As := [.int x2]) (rest := []) (mc := 0) (ms := 0) dX12_value_16 lk_X12_288 rfl rfl (by decide) rfl rfl rfl (Call.weaken h ?_)
      rintro H4 _ ⟨b5, rfl, h⟩
      change WP _ _ _ _ _ _ [.int (bI b5)] H4 _
      refine wp_if_eq (tgt := 41) dX12_value_19 rfl (fun c => ?_) (fun c => ?_)
      · replace h := h.1 (bI_0.mp c)
        refine wp_ldc2 dX12_value_41 w_7_55 ?_
        exact wp_lreturn dX12_value_44 rfl ⟨_, rfl, h⟩
      · replace h := h.2 (bI_1.mp c)
        refine wp_aload_n 0 dX12_value_22 rfl ?_
        obtain ⟨ht6, h⟩ := h
        refine wp_getC (ci := 12) (j := 47) dX12_value_23 fi_X12_83r rfl rfl ht6 ?_
        change WP _ _ _ _ _ _ (rv (hC H4 1347 a0) :: _) _ _
        refine wp_iload_n 1 dX12_value_26 rfl ?_
        obtain ⟨a7, ha7, h⟩ := h
        obtain ⟨hr8, h⟩ := h
        obtain ⟨hg9, h⟩ := h
        refine wp_laload dX12_value_27 ha7 hr8 hg9 ?_
        refine wp_aload_n 0 dX12_value_28 rfl ?_
        refine wp_getC (ci := 12) (j := 48) dX12_value_29 fi_X12_86r rfl rfl ht6 ?_
        change WP _ _ _ _ _ _ (rv (hC H4 1348 a0) :: _) _ _
        refine wp_iload_n 1 dX12_value_32 rfl ?_
        obtain ⟨a10, ha10, h⟩ := h
        obtain ⟨hr11, h⟩ := h
        obtain ⟨hg12, h⟩ := h
        refine wp_laload dX12_value_33 ha10 hr11 hg12 ?_
        refine wp_iload_n 2 dX12_value_34 rfl ?_
        refine wp_callS (As := [.long (hL H4 (tg H4 a7) a7 x1.toNatClampNeg), .long (hL H4 (tg H4 a10) a10 x1.toNatClampNeg), .int x2]) (rest := []) (mc := 0) (ms := 0) dX12_value_35 lk_X12_291 rfl rfl (by decide) rfl rfl rfl (Call.weaken h ?_)
        rintro H13 _ ⟨r14, rfl, h⟩
        change WP _ _ _ _ _ _ [.long r14] H13 _
        refine wp_goto (tgt := 44) dX12_value_38 rfl ?_
        exact wp_lreturn dX12_value_44 rfl ⟨_, rfl, h⟩
theorem C_X12_value {d : Nat} {q : HP → Int64 → Prop} {a0 : Nat} {x1 : Int32} {x2 : Int32} {H : HP} (h : wb_X12_value_0 d q a0 x1 x2 H) : CJ (d + 1) 0 0 mX12_value [rv (some a0), .int x1, .int x2] H q := by
  refine call_of (by decide +kernel) (by simp [lg_sl, rv_cat, vc_int, vc_long, vc_float, vc_double]) ?_
  have e : lv_args 0 [rv (some a0), .int x1, .int x2] = [(0, rv (some a0)), (1, .int x1), (2, .int x2)] := by simp [lv_args, rv_cat, vc_int, vc_long, vc_float, vc_double]
  rw [e]
  exact T_X12_value_0 h
/-- UnitProverModel.whose(II)I: the loop at 2 -/
def L_X12_whose_2 (d : Nat) (q : HP → Int32 → Prop) (a0 : Nat) (x1 : Int32) (x2 : Int32) (x3 : Int32) (H : HP) : Prop := WP (d + 1) mX12_whose 0 0 2 [(0, rv (some a0)), (1, .int x1), (2, .int x2), (3, .int x3)] [] H (qI q)
/-- UnitProverModel.whose(II)I: the loop at 29 -/
def L_X12_whose_29 (d : Nat) (q : HP → Int32 → Prop) (a0 : Nat) (x1 : Int32) (x2 : Int32) (x3 : Int32) (x4 : Int32) (x5 : Int32) (H : HP) : Prop := WP (d + 1) mX12_whose 0 0 29 [(0, rv (some a0)), (1, .int x1), (2, .int x2), (3, .int x3), (4, .int x4), (5, .int x5)] [] H (qI q)
def wb_X12_whose_0 (d : Nat) (q : HP → Int32 → Prop) (a0 : Nat) (x1 : Int32) (x2 : Int32) (H : HP) : Prop :=
  L_X12_whose_2 d q a0 x1 x2 (0 : Int32) H
set_option maxRecDepth 40000 in
set_option maxHeartbeats 4000000 in
theorem T_X12_whose_0 {d : Nat} {q : HP → Int32 → Prop} {a0 : Nat} {x1 : Int32} {x2 : Int32} {H : HP} (h : wb_X12_whose_0 d q a0 x1 x2 H) : WP (d + 1) mX12_whose 0 0 0 [(0, rv (some a0)), (1, .int x1), (2, .int x2)] [] H (qI q) := by
  unfold wb_X12_whose_0 at h
  refine wp_iconst (v := (0 : Int32)) dX12_whose_0 (by decide) ?_
  refine wp_istore_n (ls' := [(3, .int (0 : Int32)), (0, rv (some a0)), (1, .int x1), (2, .int x2)]) dX12_whose_1 (by decide) rfl ?_
  refine wp_sub (ls' := [(0, rv (some a0)), (1, .int x1), (2, .int x2), (3, .int (0 : Int32))]) [1, 2, 3, 0] rfl ?_
  exact h
def wb_X12_whose_2 (d : Nat) (q : HP → Int32 → Prop) (a0 : Nat) (x1 : Int32) (x2 : Int32) (x3 : Int32) (H : HP) : Prop :=
  tg H a0 = 13 ∧ (((hI H 1300 a0 0) ≤ x3 → q H (-1 : Int32)) ∧ (¬ ((hI H 1300 a0 0) ≤ x3) → CI d 0 0 mX12_lettersOf [rv (some a0), .int x3] H (fun H2 r3 => (¬ r3 = x2 → L_X12_whose_29 d q a0 x1 x2 x3 (0 : Int32) (0 : Int32) H2) ∧ (r3 = x2 → L_X12_whose_29 d q a0 x1 x2 x3 (1 : Int32) (0 : Int32) H2))))
set_option maxRecDepth 40000 in
set_option maxHeartbeats 4000000 in
theorem T_X12_whose_2 {d : Nat} {q : HP → Int32 → Prop} {a0 : Nat} {x1 : Int32} {x2 : Int32} {x3 : Int32} {H : HP} (h : wb_X12_whose_2 d q a0 x1 x2 x3 H) : L_X12_whose_2 d q a0 x1 x2 x3 H := by
  unfold wb_X12_whose_2 at h
  unfold L_X12_whose_2
  refine wp_iload_n 3 dX12_whose_2 rfl ?_
  refine wp_aload_n 0 dX12_whose_3 rfl ?_
  obtain ⟨ht1, h⟩ := h
  refine wp_getI (ci := 12) (j := 0) dX12_whose_4 fi_X12_11r rfl rfl ht1 ?_
  change WP _ _ _ _ _ _ (.int (hI H 1300 a0 0) :: _) _ _
  refine wp_icmp_ge (tgt := 89) dX12_whose_7 rfl (fun c => ?_) (fun c => ?_)
  · replace h := h.1 c
    refine wp_iconst (v := (-1 : Int32)) dX12_whose_89 (by decide) ?_
    exact wp_ireturn (ty := .int) dX12_whose_90 rfl rfl ⟨_, rfl, h⟩
  · replace h := h.2 c
    refine wp_aload_n 0 dX12_whose_10 rfl ?_
    refine wp_iload_n 3 dX12_whose_11 rfl ?_
    refine wp_callV (ci := 12) (As := [.int x3]) (rest := []) (mc := 0) (ms := 0) dX12_whose_12 lk_X12_165 rfl rfl (by decide) rfl rfl rfl ht1 rfl rfl rfl w_7_12 (Call.weaken h ?_)
    rintro H2 _ ⟨r3, rfl, h⟩
    change WP _ _ _ _ _ _ [.int r3] H2 _
    refine wp_iload_n 2 dX12_whose_15 rfl ?_
    refine wp_icmp_ne (tgt := 23) dX12_whose_16 rfl (fun c => ?_) (fun c => ?_)
    · replace h := h.1 c
      refine wp_iconst (v := (0 : Int32)) dX12_whose_23 (by decide) ?_
      refine wp_istore (ls' := [(4, .int (0 : Int32)), (0, rv (some a0)), (1, .int x1), (2, .int x2), (3, .int x3)]) dX12_whose_24 (by decide) rfl ?_
      refine wp_iconst (v := (0 : Int32)) dX12_whose_26 (by decide) ?_
      refine wp_istore (ls' := [(5, .int (0 : Int32)), (4, .int (0 : Int32)), (0, rv (some a0)), (1, .int x1), (2, .int x2), (3, .int x3)]) dX12_whose_27 (by decide) rfl ?_
      refine wp_sub (ls' := [(0, rv (some a0)), (1, .int x1), (2, .int x2), (3, .int x3), (4, .int (0 : Int32)), (5, .int (0 : Int32))]) [2, 3, 4, 5, 1, 0] rfl ?_
      exact h
    · replace h := h.2 c
      refine wp_iconst (v := (1 : Int32)) dX12_whose_19 (by decide) ?_
      refine wp_goto (tgt := 24) dX12_whose_20 rfl ?_
      refine wp_istore (ls' := [(4, .int (1 : Int32)), (0, rv (some a0)), (1, .int x1), (2, .int x2), (3, .int x3)]) dX12_whose_24 (by decide) rfl ?_
      refine wp_iconst (v := (0 : Int32)) dX12_whose_26 (by decide) ?_
      refine wp_istore (ls' := [(5, .int (0 : Int32)), (4, .int (1 : Int32)), (0, rv (some a0)), (1, .int x1), (2, .int x2), (3, .int x3)]) dX12_whose_27 (by decide) rfl ?_
      refine wp_sub (ls' := [(0, rv (some a0)), (1, .int x1), (2, .int x2), (3, .int x3), (4, .int (1 : Int32)), (5, .int (0 : Int32))]) [2, 3, 4, 5, 1, 0] rfl ?_
      exact h
def wb_X12_whose_29 (d : Nat) (q : HP → Int32 → Prop) (a0 : Nat) (x1 : Int32) (x2 : Int32) (x3 : Int32) (x4 : Int32) (x5 : Int32) (H : HP) : Prop :=
  (x2 ≤ x5 → (x4 = 0 → L_X12_whose_2 d q a0 x1 x2 (x3 + 1) H) ∧ (¬ (x4 = 0) → q H x3)) ∧ (¬ (x2 ≤ x5) → (x4 = 0 → (x4 = 0 → L_X12_whose_2 d q a0 x1 x2 (x3 + 1) H) ∧ (¬ (x4 = 0) → q H x3)) ∧ (¬ (x4 = 0) → tg H a0 = 13 ∧ (∃ a2, (hC H 1301 a0) = some a2 ∧ (isA H a2 0 ∧ (vp_in (((4 : Int32) * x3) + x5) (ln H a2) ∧ (∃ a5, (hC H 1322 a0) = some a5 ∧ (isA H a5 0 ∧ (vp_in (x1 + x5) (ln H a5) ∧ ((¬ (hI H (tg H a2) a2 (((4 : Int32) * x3) + x5).toNatClampNeg) = (hI H (tg H a5) a5 (x1 + x5).toNatClampNeg) → L_X12_whose_29 d q a0 x1 x2 x3 (0 : Int32) (x5 + 1) H) ∧ ((hI H (tg H a2) a2 (((4 : Int32) * x3) + x5).toNatClampNeg) = (hI H (tg H a5) a5 (x1 + x5).toNatClampNeg) → L_X12_whose_29 d q a0 x1 x2 x3 (1 : Int32) (x5 + 1) H))))))))))
set_option maxRecDepth 40000 in
set_option maxHeartbeats 4000000 in
theorem T_X12_whose_29 {d : Nat} {q : HP → Int32 → Prop} {a0 : Nat} {x1 : Int32} {x2 : Int32} {x3 : Int32} {x4 : Int32} {x5 : Int32} {H : HP} (h : wb_X12_whose_29 d q a0 x1 x2 x3 x4 x5 H) : L_X12_whose_29 d q a0 x1 x2 x3 x4 x5 H := by
  unfold wb_X12_whose_29 at h
  unfold L_X12_whose_29
  refine wp_iload 5 dX12_whose_29 rfl ?_
  refine wp_iload_n 2 dX12_whose_31 rfl ?_
  refine wp_icmp_ge (tgt := 76) dX12_whose_32 rfl (fun c => ?_) (fun c => ?_)
  · replace h := h.1 c
    refine wp_iload 4 dX12_whose_76 rfl ?_
    refine wp_if_eq (tgt := 83) dX12_whose_78 rfl (fun c => ?_) (fun c => ?_)
    · replace h := h.1 c
      refine wp_iinc (v := (x3 + 1)) (ls' := [(3, .int (x3 + 1)), (0, rv (some a0)), (1, .int x1), (2, .int x2), (4, .int x4), (5, .int x5)]) 3 dX12_whose_83 rfl rfl (by decide) rfl ?_
      refine wp_goto (tgt := 2) dX12_whose_86 rfl ?_
      refine wp_sub (ls' := [(0, rv (some a0)), (1, .int x1), (2, .int x2), (3, .int (x3 + 1))]) [1, 2, 3, 0] rfl ?_
      exact h
    · replace h := h.2 c
      refine wp_iload_n 3 dX12_whose_81 rfl ?_
      exact wp_ireturn (ty := .int) dX12_whose_82 rfl rfl ⟨_, rfl, h⟩
  · replace h := h.2 c
    refine wp_iload 4 dX12_whose_35 rfl ?_
    refine wp_if_eq (tgt := 76) dX12_whose_37 rfl (fun c => ?_) (fun c => ?_)
    · replace h := h.1 c
      refine wp_iload 4 dX12_whose_76 rfl ?_
      refine wp_if_eq (tgt := 83) dX12_whose_78 rfl (fun c => ?_) (fun c => ?_)
      · replace h := h.1 c
        refine wp_iinc (v := (x3 + 1)) (ls' := [(3, .int (x3 + 1)), (0, rv (some a0)), (1, .int x1), (2, .int x2), (4, .int x4), (5, .int x5)]) 3 dX12_whose_83 rfl rfl (by decide) rfl ?_
        refine wp_goto (tgt := 2) dX12_whose_86 rfl ?_
        refine wp_sub (ls' := [(0, rv (some a0)), (1, .int x1), (2, .int x2), (3, .int (x3 + 1))]) [1, 2, 3, 0] rfl ?_
        exact h
      · replace h := h.2 c
        refine wp_iload_n 3 dX12_whose_81 rfl ?_
        exact wp_ireturn (ty := .int) dX12_whose_82 rfl rfl ⟨_, rfl, h⟩
    · replace h := h.2 c
      refine wp_aload_n 0 dX12_whose_40 rfl ?_
      obtain ⟨ht1, h⟩ := h
      refine wp_getC (ci := 12) (j := 1) dX12_whose_41 fi_X12_15r rfl rfl ht1 ?_
      change WP _ _ _ _ _ _ (rv (hC H 1301 a0) :: _) _ _
      refine wp_iconst (v := (4 : Int32)) dX12_whose_44 (by decide) ?_
      refine wp_iload_n 3 dX12_whose_45 rfl ?_
      refine wp_imul dX12_whose_46 ?_
      refine wp_iload 5 dX12_whose_47 rfl ?_
      refine wp_iadd dX12_whose_49 ?_
      obtain ⟨a2, ha2, h⟩ := h
      obtain ⟨hr3, h⟩ := h
      obtain ⟨hg4, h⟩ := h
      refine wp_iaload dX12_whose_50 ha2 hr3 hg4 ?_
      refine wp_aload_n 0 dX12_whose_51 rfl ?_
      refine wp_getC (ci := 12) (j := 22) dX12_whose_52 fi_X12_59r rfl rfl ht1 ?_
      change WP _ _ _ _ _ _ (rv (hC H 1322 a0) :: _) _ _
      refine wp_iload_n 1 dX12_whose_55 rfl ?_
      refine wp_iload 5 dX12_whose_56 rfl ?_
      refine wp_iadd dX12_whose_58 ?_
      obtain ⟨a5, ha5, h⟩ := h
      obtain ⟨hr6, h⟩ := h
      obtain ⟨hg7, h⟩ := h
      refine wp_iaload dX12_whose_59 ha5 hr6 hg7 ?_
      refine wp_icmp_ne (tgt := 67) dX12_whose_60 rfl (fun c => ?_) (fun c => ?_)
      · replace h := h.1 c
        refine wp_iconst (v := (0 : Int32)) dX12_whose_67 (by decide) ?_
        refine wp_istore (ls' := [(4, .int (0 : Int32)), (0, rv (some a0)), (1, .int x1), (2, .int x2), (3, .int x3), (5, .int x5)]) dX12_whose_68 (by decide) rfl ?_
        refine wp_iinc (v := (x5 + 1)) (ls' := [(5, .int (x5 + 1)), (4, .int (0 : Int32)), (0, rv (some a0)), (1, .int x1), (2, .int x2), (3, .int x3)]) 5 dX12_whose_70 rfl rfl (by decide) rfl ?_
        refine wp_goto (tgt := 29) dX12_whose_73 rfl ?_
        refine wp_sub (ls' := [(0, rv (some a0)), (1, .int x1), (2, .int x2), (3, .int x3), (4, .int (0 : Int32)), (5, .int (x5 + 1))]) [2, 3, 4, 5, 1, 0] rfl ?_
        exact h
      · replace h := h.2 c
        refine wp_iconst (v := (1 : Int32)) dX12_whose_63 (by decide) ?_
        refine wp_goto (tgt := 68) dX12_whose_64 rfl ?_
        refine wp_istore (ls' := [(4, .int (1 : Int32)), (0, rv (some a0)), (1, .int x1), (2, .int x2), (3, .int x3), (5, .int x5)]) dX12_whose_68 (by decide) rfl ?_
        refine wp_iinc (v := (x5 + 1)) (ls' := [(5, .int (x5 + 1)), (4, .int (1 : Int32)), (0, rv (some a0)), (1, .int x1), (2, .int x2), (3, .int x3)]) 5 dX12_whose_70 rfl rfl (by decide) rfl ?_
        refine wp_goto (tgt := 29) dX12_whose_73 rfl ?_
        refine wp_sub (ls' := [(0, rv (some a0)), (1, .int x1), (2, .int x2), (3, .int x3), (4, .int (1 : Int32)), (5, .int (x5 + 1))]) [2, 3, 4, 5, 1, 0] rfl ?_
        exact h
theorem C_X12_whose {d : Nat} {q : HP → Int32 → Prop} {a0 : Nat} {x1 : Int32} {x2 : Int32} {H : HP} (h : wb_X12_whose_0 d q a0 x1 x2 H) : CI (d + 1) 0 0 mX12_whose [rv (some a0), .int x1, .int x2] H q := by
  refine call_of (by decide +kernel) (by simp [lg_sl, rv_cat, vc_int, vc_long, vc_float, vc_double]) ?_
  have e : lv_args 0 [rv (some a0), .int x1, .int x2] = [(0, rv (some a0)), (1, .int x1), (2, .int x2)] := by simp [lv_args, rv_cat, vc_int, vc_long, vc_float, vc_double]
  rw [e]
  exact T_X12_whose_0 h
/-- UnitProverModel.wrongMixed()I: the loop at 2 -/
def L_X12_wrongMixed_2 (d : Nat) (q : HP → Int32 → Prop) (a0 : Nat) (x1 : Int32) (H : HP) : Prop := WP (d + 1) mX12_wrongMixed 0 0 2 [(0, rv (some a0)), (1, .int x1)] [] H (qI q)
/-- UnitProverModel.wrongMixed()I: the loop at 30 -/
def L_X12_wrongMixed_30 (d : Nat) (q : HP → Int32 → Prop) (a0 : Nat) (x1 : Int32) (H : HP) : Prop := WP (d + 1) mX12_wrongMixed 0 0 30 [(0, rv (some a0)), (1, .int x1)] [] H (qI q)
/-- UnitProverModel.wrongMixed()I: the loop at 62 -/
def L_X12_wrongMixed_62 (d : Nat) (q : HP → Int32 → Prop) (a0 : Nat) (x1 : Int32) (H : HP) : Prop := WP (d + 1) mX12_wrongMixed 0 0 62 [(0, rv (some a0)), (1, .int x1)] [] H (qI q)
/-- UnitProverModel.wrongMixed()I: the loop at 100 -/
def L_X12_wrongMixed_100 (d : Nat) (q : HP → Int32 → Prop) (a0 : Nat) (x1 : Int32) (H : HP) : Prop := WP (d + 1) mX12_wrongMixed 0 0 100 [(0, rv (some a0)), (1, .int x1)] [] H (qI q)
def wb_X12_wrongMixed_0 (d : Nat) (q : HP → Int32 → Prop) (a0 : Nat) (H : HP) : Prop :=
  L_X12_wrongMixed_2 d q a0 (0 : Int32) H
set_option maxRecDepth 40000 in
set_option maxHeartbeats 4000000 in
theorem T_X12_wrongMixed_0 {d : Nat} {q : HP → Int32 → Prop} {a0 : Nat} {H : HP} (h : wb_X12_wrongMixed_0 d q a0 H) : WP (d + 1) mX12_wrongMixed 0 0 0 [(0, rv (some a0))] [] H (qI q) := by
  unfold wb_X12_wrongMixed_0 at h
  refine wp_iconst (v := (0 : Int32)) dX12_wrongMixed_0 (by decide) ?_
  refine wp_istore_n (ls' := [(1, .int (0 : Int32)), (0, rv (some a0))]) dX12_wrongMixed_1 (by decide) rfl ?_
  refine wp_sub (ls' := [(0, rv (some a0)), (1, .int (0 : Int32))]) [1, 0] rfl ?_
  exact h
def wb_X12_wrongMixed_2 (d : Nat) (q : HP → Int32 → Prop) (a0 : Nat) (x1 : Int32) (H : HP) : Prop :=
  tg H a0 = 13 ∧ (((hI H 1352 a0 0) ≤ x1 → L_X12_wrongMixed_30 d q a0 (0 : Int32) H) ∧ (¬ ((hI H 1352 a0 0) ≤ x1) → ∃ a2, (hC H 1351 a0) = some a2 ∧ (isA H a2 0 ∧ (vp_in x1 (ln H a2) ∧ ((0 ≤ (hI H (tg H a2) a2 x1.toNatClampNeg) → L_X12_wrongMixed_2 d q a0 (x1 + 1) H) ∧ (¬ (0 ≤ (hI H (tg H a2) a2 x1.toNatClampNeg)) → q H (-8 : Int32)))))))
set_option maxRecDepth 40000 in
set_option maxHeartbeats 4000000 in
theorem T_X12_wrongMixed_2 {d : Nat} {q : HP → Int32 → Prop} {a0 : Nat} {x1 : Int32} {H : HP} (h : wb_X12_wrongMixed_2 d q a0 x1 H) : L_X12_wrongMixed_2 d q a0 x1 H := by
  unfold wb_X12_wrongMixed_2 at h
  unfold L_X12_wrongMixed_2
  refine wp_iload_n 1 dX12_wrongMixed_2 rfl ?_
  refine wp_aload_n 0 dX12_wrongMixed_3 rfl ?_
  obtain ⟨ht1, h⟩ := h
  refine wp_getI (ci := 12) (j := 52) dX12_wrongMixed_4 fi_X12_336r rfl rfl ht1 ?_
  change WP _ _ _ _ _ _ (.int (hI H 1352 a0 0) :: _) _ _
  refine wp_icmp_ge (tgt := 28) dX12_wrongMixed_7 rfl (fun c => ?_) (fun c => ?_)
  · replace h := h.1 c
    refine wp_iconst (v := (0 : Int32)) dX12_wrongMixed_28 (by decide) ?_
    refine wp_istore_n (ls' := [(1, .int (0 : Int32)), (0, rv (some a0))]) dX12_wrongMixed_29 (by decide) rfl ?_
    refine wp_sub (ls' := [(0, rv (some a0)), (1, .int (0 : Int32))]) [1, 0] rfl ?_
    exact h
  · replace h := h.2 c
    refine wp_aload_n 0 dX12_wrongMixed_10 rfl ?_
    refine wp_getC (ci := 12) (j := 51) dX12_wrongMixed_11 fi_X12_92r rfl rfl ht1 ?_
    change WP _ _ _ _ _ _ (rv (hC H 1351 a0) :: _) _ _
    refine wp_iload_n 1 dX12_wrongMixed_14 rfl ?_
    obtain ⟨a2, ha2, h⟩ := h
    obtain ⟨hr3, h⟩ := h
    obtain ⟨hg4, h⟩ := h
    refine wp_iaload dX12_wrongMixed_15 ha2 hr3 hg4 ?_
    refine wp_if_ge (tgt := 22) dX12_wrongMixed_16 rfl (fun c => ?_) (fun c => ?_)
    · replace h := h.1 c
      refine wp_iinc (v := (x1 + 1)) (ls' := [(1, .int (x1 + 1)), (0, rv (some a0))]) 1 dX12_wrongMixed_22 rfl rfl (by decide) rfl ?_
      refine wp_goto (tgt := 2) dX12_wrongMixed_25 rfl ?_
      refine wp_sub (ls' := [(0, rv (some a0)), (1, .int (x1 + 1))]) [1, 0] rfl ?_
      exact h
    · replace h := h.2 c
      refine wp_bipush (v := (-8 : Int32)) dX12_wrongMixed_19 (by decide) ?_
      exact wp_ireturn (ty := .int) dX12_wrongMixed_21 rfl rfl ⟨_, rfl, h⟩
def wb_X12_wrongMixed_30 (d : Nat) (q : HP → Int32 → Prop) (a0 : Nat) (x1 : Int32) (H : HP) : Prop :=
  tg H a0 = 13 ∧ (((hI H 1352 a0 0) ≤ x1 → L_X12_wrongMixed_62 d q a0 (1 : Int32) H) ∧ (¬ ((hI H 1352 a0 0) ≤ x1) → ∃ a2, (hC H 1351 a0) = some a2 ∧ (isA H a2 0 ∧ (vp_in x1 (ln H a2) ∧ (CZ d 0 0 mX12_hasOffset [rv (some a0), .int (hI H (tg H a2) a2 x1.toNatClampNeg)] H (fun H5 b6 => (b6 = false → L_X12_wrongMixed_30 d q a0 (x1 + 1) H5) ∧ (b6 = true → q H5 (-10 : Int32))))))))
set_option maxRecDepth 40000 in
set_option maxHeartbeats 4000000 in
theorem T_X12_wrongMixed_30 {d : Nat} {q : HP → Int32 → Prop} {a0 : Nat} {x1 : Int32} {H : HP} (h : wb_X12_wrongMixed_30 d q a0 x1 H) : L_X12_wrongMixed_30 d q a0 x1 H := by
  unfold wb_X12_wrongMixed_30 at h
  unfold L_X12_wrongMixed_30
  refine wp_iload_n 1 dX12_wrongMixed_30 rfl ?_
  refine wp_aload_n 0 dX12_wrongMixed_31 rfl ?_
  obtain ⟨ht1, h⟩ := h
  refine wp_getI (ci := 12) (j := 52) dX12_wrongMixed_32 fi_X12_336r rfl rfl ht1 ?_
  change WP _ _ _ _ _ _ (.int (hI H 1352 a0 0) :: _) _ _
  refine wp_icmp_ge (tgt := 60) dX12_wrongMixed_35 rfl (fun c => ?_) (fun c => ?_)
  · replace h := h.1 c
    refine wp_iconst (v := (1 : Int32)) dX12_wrongMixed_60 (by decide) ?_
    refine wp_istore_n (ls' := [(1, .int (1 : Int32)), (0, rv (some a0))]) dX12_wrongMixed_61 (by decide) rfl ?_
    refine wp_sub (ls' := [(0, rv (some a0)), (1, .int (1 : Int32))]) [1, 0] rfl ?_
    exact h
  · replace h := h.2 c
    refine wp_aload_n 0 dX12_wrongMixed_38 rfl ?_
    refine wp_aload_n 0 dX12_wrongMixed_39 rfl ?_
    refine wp_getC (ci := 12) (j := 51) dX12_wrongMixed_40 fi_X12_92r rfl rfl ht1 ?_
    change WP _ _ _ _ _ _ (rv (hC H 1351 a0) :: _) _ _
    refine wp_iload_n 1 dX12_wrongMixed_43 rfl ?_
    obtain ⟨a2, ha2, h⟩ := h
    obtain ⟨hr3, h⟩ := h
    obtain ⟨hg4, h⟩ := h
    refine wp_iaload dX12_wrongMixed_44 ha2 hr3 hg4 ?_
    refine wp_callV (ci := 12) (As := [.int (hI H (tg H a2) a2 x1.toNatClampNeg)]) (rest := []) (mc := 0) (ms := 0) dX12_wrongMixed_45 lk_X12_247 rfl rfl (by decide) rfl rfl rfl ht1 rfl rfl rfl w_7_16 (Call.weaken h ?_)
    rintro H5 _ ⟨b6, rfl, h⟩
    change WP _ _ _ _ _ _ [.int (bI b6)] H5 _
    refine wp_if_eq (tgt := 54) dX12_wrongMixed_48 rfl (fun c => ?_) (fun c => ?_)
    · replace h := h.1 (bI_0.mp c)
      refine wp_iinc (v := (x1 + 1)) (ls' := [(1, .int (x1 + 1)), (0, rv (some a0))]) 1 dX12_wrongMixed_54 rfl rfl (by decide) rfl ?_
      refine wp_goto (tgt := 30) dX12_wrongMixed_57 rfl ?_
      refine wp_sub (ls' := [(0, rv (some a0)), (1, .int (x1 + 1))]) [1, 0] rfl ?_
      exact h
    · replace h := h.2 (bI_1.mp c)
      refine wp_bipush (v := (-10 : Int32)) dX12_wrongMixed_51 (by decide) ?_
      exact wp_ireturn (ty := .int) dX12_wrongMixed_53 rfl rfl ⟨_, rfl, h⟩
def wb_X12_wrongMixed_62 (d : Nat) (q : HP → Int32 → Prop) (a0 : Nat) (x1 : Int32) (H : HP) : Prop :=
  tg H a0 = 13 ∧ (((hI H 1352 a0 0) ≤ x1 → L_X12_wrongMixed_100 d q a0 (1 : Int32) H) ∧ (¬ ((hI H 1352 a0 0) ≤ x1) → ∃ a2, (hC H 1351 a0) = some a2 ∧ (isA H a2 0 ∧ (vp_in (0 : Int32) (ln H a2) ∧ (vp_in x1 (ln H a2) ∧ (CZ d 0 0 mX12_areLike [rv (some a0), .int (hI H (tg H a2) a2 (0 : Int32).toNatClampNeg), .int (hI H (tg H a2) a2 x1.toNatClampNeg)] H (fun H6 b7 => (b7 = true → L_X12_wrongMixed_62 d q a0 (x1 + 1) H6) ∧ (b7 = false → q H6 (-13 : Int32)))))))))
set_option maxRecDepth 40000 in
set_option maxHeartbeats 4000000 in
theorem T_X12_wrongMixed_62 {d : Nat} {q : HP → Int32 → Prop} {a0 : Nat} {x1 : Int32} {H : HP} (h : wb_X12_wrongMixed_62 d q a0 x1 H) : L_X12_wrongMixed_62 d q a0 x1 H := by
  unfold wb_X12_wrongMixed_62 at h
  unfold L_X12_wrongMixed_62
  refine wp_iload_n 1 dX12_wrongMixed_62 rfl ?_
  refine wp_aload_n 0 dX12_wrongMixed_63 rfl ?_
  obtain ⟨ht1, h⟩ := h
  refine wp_getI (ci := 12) (j := 52) dX12_wrongMixed_64 fi_X12_336r rfl rfl ht1 ?_
  change WP _ _ _ _ _ _ (.int (hI H 1352 a0 0) :: _) _ _
  refine wp_icmp_ge (tgt := 98) dX12_wrongMixed_67 rfl (fun c => ?_) (fun c => ?_)
  · replace h := h.1 c
    refine wp_iconst (v := (1 : Int32)) dX12_wrongMixed_98 (by decide) ?_
    refine wp_istore_n (ls' := [(1, .int (1 : Int32)), (0, rv (some a0))]) dX12_wrongMixed_99 (by decide) rfl ?_
    refine wp_sub (ls' := [(0, rv (some a0)), (1, .int (1 : Int32))]) [1, 0] rfl ?_
    exact h
  · replace h := h.2 c
    refine wp_aload_n 0 dX12_wrongMixed_70 rfl ?_
    refine wp_aload_n 0 dX12_wrongMixed_71 rfl ?_
    refine wp_getC (ci := 12) (j := 51) dX12_wrongMixed_72 fi_X12_92r rfl rfl ht1 ?_
    change WP _ _ _ _ _ _ (rv (hC H 1351 a0) :: _) _ _
    refine wp_iconst (v := (0 : Int32)) dX12_wrongMixed_75 (by decide) ?_
    obtain ⟨a2, ha2, h⟩ := h
    obtain ⟨hr3, h⟩ := h
    obtain ⟨hg4, h⟩ := h
    refine wp_iaload dX12_wrongMixed_76 ha2 hr3 hg4 ?_
    refine wp_aload_n 0 dX12_wrongMixed_77 rfl ?_
    refine wp_getC (ci := 12) (j := 51) dX12_wrongMixed_78 fi_X12_92r rfl rfl ht1 ?_
    change WP _ _ _ _ _ _ (rv (hC H 1351 a0) :: _) _ _
    refine wp_iload_n 1 dX12_wrongMixed_81 rfl ?_
    obtain ⟨hg5, h⟩ := h
    refine wp_iaload dX12_wrongMixed_82 ha2 hr3 hg5 ?_
    refine wp_callV (ci := 12) (As := [.int (hI H (tg H a2) a2 (0 : Int32).toNatClampNeg), .int (hI H (tg H a2) a2 x1.toNatClampNeg)]) (rest := []) (mc := 0) (ms := 0) dX12_wrongMixed_83 lk_X12_295 rfl rfl (by decide) rfl rfl rfl ht1 rfl rfl rfl w_7_100 (Call.weaken h ?_)
    rintro H6 _ ⟨b7, rfl, h⟩
    change WP _ _ _ _ _ _ [.int (bI b7)] H6 _
    refine wp_if_ne (tgt := 92) dX12_wrongMixed_86 rfl (fun c => ?_) (fun c => ?_)
    · replace h := h.1 (bI_1.mp c)
      refine wp_iinc (v := (x1 + 1)) (ls' := [(1, .int (x1 + 1)), (0, rv (some a0))]) 1 dX12_wrongMixed_92 rfl rfl (by decide) rfl ?_
      refine wp_goto (tgt := 62) dX12_wrongMixed_95 rfl ?_
      refine wp_sub (ls' := [(0, rv (some a0)), (1, .int (x1 + 1))]) [1, 0] rfl ?_
      exact h
    · replace h := h.2 (bI_0.mp c)
      refine wp_bipush (v := (-13 : Int32)) dX12_wrongMixed_89 (by decide) ?_
      exact wp_ireturn (ty := .int) dX12_wrongMixed_91 rfl rfl ⟨_, rfl, h⟩
def wb_X12_wrongMixed_100 (d : Nat) (q : HP → Int32 → Prop) (a0 : Nat) (x1 : Int32) (H : HP) : Prop :=
  tg H a0 = 13 ∧ (((hI H 1352 a0 0) ≤ x1 → q H (0 : Int32)) ∧ (¬ ((hI H 1352 a0 0) ≤ x1) → ∃ a2, (hC H 1351 a0) = some a2 ∧ (isA H a2 0 ∧ (vp_in x1 (ln H a2) ∧ (vp_in (x1 - (1 : Int32)) (ln H a2) ∧ (CZ d 0 0 mX12_isLesser [rv (some a0), .int (hI H (tg H a2) a2 x1.toNatClampNeg), .int (hI H (tg H a2) a2 (x1 - (1 : Int32)).toNatClampNeg)] H (fun H6 b7 => (b7 = true → L_X12_wrongMixed_100 d q a0 (x1 + 1) H6) ∧ (b7 = false → q H6 (-14 : Int32)))))))))
set_option maxRecDepth 40000 in
set_option maxHeartbeats 4000000 in
theorem T_X12_wrongMixed_100 {d : Nat} {q : HP → Int32 → Prop} {a0 : Nat} {x1 : Int32} {H : HP} (h : wb_X12_wrongMixed_100 d q a0 x1 H) : L_X12_wrongMixed_100 d q a0 x1 H := by
  unfold wb_X12_wrongMixed_100 at h
  unfold L_X12_wrongMixed_100
  refine wp_iload_n 1 dX12_wrongMixed_100 rfl ?_
  refine wp_aload_n 0 dX12_wrongMixed_101 rfl ?_
  obtain ⟨ht1, h⟩ := h
  refine wp_getI (ci := 12) (j := 52) dX12_wrongMixed_102 fi_X12_336r rfl rfl ht1 ?_
  change WP _ _ _ _ _ _ (.int (hI H 1352 a0 0) :: _) _ _
  refine wp_icmp_ge (tgt := 138) dX12_wrongMixed_105 rfl (fun c => ?_) (fun c => ?_)
  · replace h := h.1 c
    refine wp_iconst (v := (0 : Int32)) dX12_wrongMixed_138 (by decide) ?_
    exact wp_ireturn (ty := .int) dX12_wrongMixed_139 rfl rfl ⟨_, rfl, h⟩
  · replace h := h.2 c
    refine wp_aload_n 0 dX12_wrongMixed_108 rfl ?_
    refine wp_aload_n 0 dX12_wrongMixed_109 rfl ?_
    refine wp_getC (ci := 12) (j := 51) dX12_wrongMixed_110 fi_X12_92r rfl rfl ht1 ?_
    change WP _ _ _ _ _ _ (rv (hC H 1351 a0) :: _) _ _
    refine wp_iload_n 1 dX12_wrongMixed_113 rfl ?_
    obtain ⟨a2, ha2, h⟩ := h
    obtain ⟨hr3, h⟩ := h
    obtain ⟨hg4, h⟩ := h
    refine wp_iaload dX12_wrongMixed_114 ha2 hr3 hg4 ?_
    refine wp_aload_n 0 dX12_wrongMixed_115 rfl ?_
    refine wp_getC (ci := 12) (j := 51) dX12_wrongMixed_116 fi_X12_92r rfl rfl ht1 ?_
    change WP _ _ _ _ _ _ (rv (hC H 1351 a0) :: _) _ _
    refine wp_iload_n 1 dX12_wrongMixed_119 rfl ?_
    refine wp_iconst (v := (1 : Int32)) dX12_wrongMixed_120 (by decide) ?_
    refine wp_isub dX12_wrongMixed_121 ?_
    obtain ⟨hg5, h⟩ := h
    refine wp_iaload dX12_wrongMixed_122 ha2 hr3 hg5 ?_
    refine wp_callV (ci := 12) (As := [.int (hI H (tg H a2) a2 x1.toNatClampNeg), .int (hI H (tg H a2) a2 (x1 - (1 : Int32)).toNatClampNeg)]) (rest := []) (mc := 0) (ms := 0) dX12_wrongMixed_123 lk_X12_309 rfl rfl (by decide) rfl rfl rfl ht1 rfl rfl rfl w_7_116 (Call.weaken h ?_)
    rintro H6 _ ⟨b7, rfl, h⟩
    change WP _ _ _ _ _ _ [.int (bI b7)] H6 _
    refine wp_if_ne (tgt := 132) dX12_wrongMixed_126 rfl (fun c => ?_) (fun c => ?_)
    · replace h := h.1 (bI_1.mp c)
      refine wp_iinc (v := (x1 + 1)) (ls' := [(1, .int (x1 + 1)), (0, rv (some a0))]) 1 dX12_wrongMixed_132 rfl rfl (by decide) rfl ?_
      refine wp_goto (tgt := 100) dX12_wrongMixed_135 rfl ?_
      refine wp_sub (ls' := [(0, rv (some a0)), (1, .int (x1 + 1))]) [1, 0] rfl ?_
      exact h
    · replace h := h.2 (bI_0.mp c)
      refine wp_bipush (v := (-14 : Int32)) dX12_wrongMixed_129 (by decide) ?_
      exact wp_ireturn (ty := .int) dX12_wrongMixed_131 rfl rfl ⟨_, rfl, h⟩
theorem C_X12_wrongMixed {d : Nat} {q : HP → Int32 → Prop} {a0 : Nat} {H : HP} (h : wb_X12_wrongMixed_0 d q a0 H) : CI (d + 1) 0 0 mX12_wrongMixed [rv (some a0)] H q := by
  refine call_of (by decide +kernel) (by simp [lg_sl, rv_cat, vc_int, vc_long, vc_float, vc_double]) ?_
  have e : lv_args 0 [rv (some a0)] = [(0, rv (some a0))] := by simp [lv_args, rv_cat, vc_int, vc_long, vc_float, vc_double]
  rw [e]
  exact T_X12_wrongMixed_0 h
/-- UnitProverModel.wrongWith(I)I: the loop at 19 -/
def L_X12_wrongWith_19 (d : Nat) (q : HP → Int32 → Prop) (a0 : Nat) (x1 : Int32) (x2 : Int32) (H : HP) : Prop := WP (d + 1) mX12_wrongWith 0 0 19 [(0, rv (some a0)), (1, .int x1), (2, .int x2)] [] H (qI q)
def wb_X12_wrongWith_0 (d : Nat) (q : HP → Int32 → Prop) (a0 : Nat) (x1 : Int32) (H : HP) : Prop :=
  tg H a0 = 13 ∧ (((hI H 1327 a0 0) = 0 → q H (-9 : Int32)) ∧ (¬ ((hI H 1327 a0 0) = 0) → (¬ (hI H 1328 a0 0) = 0 → L_X12_wrongWith_19 d q a0 x1 (0 : Int32) H) ∧ ((hI H 1328 a0 0) = 0 → q H (-9 : Int32))))
set_option maxRecDepth 40000 in
set_option maxHeartbeats 4000000 in
theorem T_X12_wrongWith_0 {d : Nat} {q : HP → Int32 → Prop} {a0 : Nat} {x1 : Int32} {H : HP} (h : wb_X12_wrongWith_0 d q a0 x1 H) : WP (d + 1) mX12_wrongWith 0 0 0 [(0, rv (some a0)), (1, .int x1)] [] H (qI q) := by
  unfold wb_X12_wrongWith_0 at h
  refine wp_aload_n 0 dX12_wrongWith_0 rfl ?_
  obtain ⟨ht1, h⟩ := h
  refine wp_getI (ci := 12) (j := 27) dX12_wrongWith_1 fi_X12_222r rfl rfl ht1 ?_
  change WP _ _ _ _ _ _ (.int (hI H 1327 a0 0) :: _) _ _
  refine wp_if_eq (tgt := 14) dX12_wrongWith_4 rfl (fun c => ?_) (fun c => ?_)
  · replace h := h.1 c
    refine wp_bipush (v := (-9 : Int32)) dX12_wrongWith_14 (by decide) ?_
    exact wp_ireturn (ty := .int) dX12_wrongWith_16 rfl rfl ⟨_, rfl, h⟩
  · replace h := h.2 c
    refine wp_aload_n 0 dX12_wrongWith_7 rfl ?_
    refine wp_getI (ci := 12) (j := 28) dX12_wrongWith_8 fi_X12_228r rfl rfl ht1 ?_
    change WP _ _ _ _ _ _ (.int (hI H 1328 a0 0) :: _) _ _
    refine wp_if_ne (tgt := 17) dX12_wrongWith_11 rfl (fun c => ?_) (fun c => ?_)
    · replace h := h.1 c
      refine wp_iconst (v := (0 : Int32)) dX12_wrongWith_17 (by decide) ?_
      refine wp_istore_n (ls' := [(2, .int (0 : Int32)), (0, rv (some a0)), (1, .int x1)]) dX12_wrongWith_18 (by decide) rfl ?_
      refine wp_sub (ls' := [(0, rv (some a0)), (1, .int x1), (2, .int (0 : Int32))]) [1, 2, 0] rfl ?_
      exact h
    · replace h := h.2 c
      refine wp_bipush (v := (-9 : Int32)) dX12_wrongWith_14 (by decide) ?_
      exact wp_ireturn (ty := .int) dX12_wrongWith_16 rfl rfl ⟨_, rfl, h⟩
def wb_X12_wrongWith_19 (d : Nat) (q : HP → Int32 → Prop) (a0 : Nat) (x1 : Int32) (x2 : Int32) (H : HP) : Prop :=
  tg H a0 = 13 ∧ (((hI H 1332 a0 0) ≤ x2 → (¬ (hI H 1330 a0 0) = 0 → CI d 0 0 mX12_whose [rv (some a0), .int (0 : Int32), .int x1] H (fun H2 r3 => (r3 < 0 → tg H2 a0 = 13 ∧ (((hI H2 1331 a0 0) = 0 → q H2 (0 : Int32)) ∧ (¬ ((hI H2 1331 a0 0) = 0) → ((1 : Int32) < (hI H2 1332 a0 0) → q H2 (-2 : Int32)) ∧ (¬ ((1 : Int32) < (hI H2 1332 a0 0)) → ∃ a5, (hC H2 1335 a0) = some a5 ∧ (isA H2 a5 0 ∧ (vp_in (0 : Int32) (ln H2 a5) ∧ (((hI H2 (tg H2 a5) a5 (0 : Int32).toNatClampNeg) ≤ (1 : Int32) → q H2 (0 : Int32)) ∧ (¬ ((hI H2 (tg H2 a5) a5 (0 : Int32).toNatClampNeg) ≤ (1 : Int32)) → q H2 (-2 : Int32))))))))) ∧ (¬ (r3 < 0) → q H2 (-11 : Int32)))) ∧ ((hI H 1330 a0 0) = 0 → q H (-9 : Int32))) ∧ (¬ ((hI H 1332 a0 0) ≤ x2) → ∃ a8, (hC H 1333 a0) = some a8 ∧ (isA H a8 0 ∧ (vp_in x2 (ln H a8) ∧ (∃ a11, (hC H 1334 a0) = some a11 ∧ (isA H a11 0 ∧ (vp_in x2 (ln H a11) ∧ (CI d 0 0 mX12_whose [rv (some a0), .int (hI H (tg H a8) a8 x2.toNatClampNeg), .int (hI H (tg H a11) a11 x2.toNatClampNeg)] H (fun H14 r15 => (0 ≤ r15 → tg H14 a0 = 13 ∧ (CZ d 0 0 mX12_hasOffset [rv (some a0), .int r15] H14 (fun H16 b18 => (b18 = false → L_X12_wrongWith_19 d q a0 x1 (x2 + 1) H16) ∧ (b18 = true → q H16 (-10 : Int32))))) ∧ (¬ (0 ≤ r15) → q H14 (-8 : Int32)))))))))))
set_option maxRecDepth 40000 in
set_option maxHeartbeats 4000000 in
theorem T_X12_wrongWith_19 {d : Nat} {q : HP → Int32 → Prop} {a0 : Nat} {x1 : Int32} {x2 : Int32} {H : HP} (h : wb_X12_wrongWith_19 d q a0 x1 x2 H) : L_X12_wrongWith_19 d q a0 x1 x2 H := by
  unfold wb_X12_wrongWith_19 at h
  unfold L_X12_wrongWith_19
  refine wp_iload_n 2 dX12_wrongWith_19 rfl ?_
  refine wp_aload_n 0 dX12_wrongWith_20 rfl ?_
  obtain ⟨ht1, h⟩ := h
  refine wp_getI (ci := 12) (j := 32) dX12_wrongWith_21 fi_X12_209r rfl rfl ht1 ?_
  change WP _ _ _ _ _ _ (.int (hI H 1332 a0 0) :: _) _ _
  refine wp_icmp_ge (tgt := 68) dX12_wrongWith_24 rfl (fun c => ?_) (fun c => ?_)
  · replace h := h.1 c
    refine wp_aload_n 0 dX12_wrongWith_68 rfl ?_
    refine wp_getI (ci := 12) (j := 30) dX12_wrongWith_69 fi_X12_237r rfl rfl ht1 ?_
    change WP _ _ _ _ _ _ (.int (hI H 1330 a0 0) :: _) _ _
    refine wp_if_ne (tgt := 78) dX12_wrongWith_72 rfl (fun c => ?_) (fun c => ?_)
    · replace h := h.1 c
      refine wp_aload_n 0 dX12_wrongWith_78 rfl ?_
      refine wp_iconst (v := (0 : Int32)) dX12_wrongWith_79 (by decide) ?_
      refine wp_iload_n 1 dX12_wrongWith_80 rfl ?_
      refine wp_callV (ci := 12) (As := [.int (0 : Int32), .int x1]) (rest := []) (mc := 0) (ms := 0) dX12_wrongWith_81 lk_X12_243 rfl rfl (by decide) rfl rfl rfl ht1 rfl rfl rfl w_7_8 (Call.weaken h ?_)
      rintro H2 _ ⟨r3, rfl, h⟩
      change WP _ _ _ _ _ _ [.int r3] H2 _
      refine wp_if_lt (tgt := 90) dX12_wrongWith_84 rfl (fun c => ?_) (fun c => ?_)
      · replace h := h.1 c
        refine wp_aload_n 0 dX12_wrongWith_90 rfl ?_
        obtain ⟨ht4, h⟩ := h
        refine wp_getI (ci := 12) (j := 31) dX12_wrongWith_91 fi_X12_234r rfl rfl ht4 ?_
        change WP _ _ _ _ _ _ (.int (hI H2 1331 a0 0) :: _) _ _
        refine wp_if_eq (tgt := 120) dX12_wrongWith_94 rfl (fun c => ?_) (fun c => ?_)
        · replace h := h.1 c
          refine wp_iconst (v := (0 : Int32)) dX12_wrongWith_120 (by decide) ?_
          exact wp_ireturn (ty := .int) dX12_wrongWith_121 rfl rfl ⟨_, rfl, h⟩
        · replace h := h.2 c
          refine wp_aload_n 0 dX12_wrongWith_97 rfl ?_
          refine wp_getI (ci := 12) (j := 32) dX12_wrongWith_98 fi_X12_209r rfl rfl ht4 ?_
          change WP _ _ _ _ _ _ (.int (hI H2 1332 a0 0) :: _) _ _
          refine wp_iconst (v := (1 : Int32)) dX12_wrongWith_101 (by decide) ?_
          refine wp_icmp_gt (tgt := 115) dX12_wrongWith_102 rfl (fun c => ?_) (fun c => ?_)
          · replace h := h.1 c
            refine wp_bipush (v := (-2 : Int32)) dX12_wrongWith_115 (by decide) ?_
            refine wp_goto (tgt := 121) dX12_wrongWith_117 rfl ?_
            exact wp_ireturn (ty := .int) dX12_wrongWith_121 rfl rfl ⟨_, rfl, h⟩
          · replace h := h.2 c
            refine wp_aload_n 0 dX12_wrongWith_105 rfl ?_
            refine wp_getC (ci := 12) (j := 35) dX12_wrongWith_106 fi_X12_68r rfl rfl ht4 ?_
            change WP _ _ _ _ _ _ (rv (hC H2 1335 a0) :: _) _ _
            refine wp_iconst (v := (0 : Int32)) dX12_wrongWith_109 (by decide) ?_
            obtain ⟨a5, ha5, h⟩ := h
            obtain ⟨hr6, h⟩ := h
            obtain ⟨hg7, h⟩ := h
            refine wp_iaload dX12_wrongWith_110 ha5 hr6 hg7 ?_
            refine wp_iconst (v := (1 : Int32)) dX12_wrongWith_111 (by decide) ?_
            refine wp_icmp_le (tgt := 120) dX12_wrongWith_112 rfl (fun c => ?_) (fun c => ?_)
            · replace h := h.1 c
              refine wp_iconst (v := (0 : Int32)) dX12_wrongWith_120 (by decide) ?_
              exact wp_ireturn (ty := .int) dX12_wrongWith_121 rfl rfl ⟨_, rfl, h⟩
            · replace h := h.2 c
              refine wp_bipush (v := (-2 : Int32)) dX12_wrongWith_115 (by decide) ?_
              refine wp_goto (tgt := 121) dX12_wrongWith_117 rfl ?_
              exact wp_ireturn (ty := .int) dX12_wrongWith_121 rfl rfl ⟨_, rfl, h⟩
      · replace h := h.2 c
        refine wp_bipush (v := (-11 : Int32)) dX12_wrongWith_87 (by decide) ?_
        exact wp_ireturn (ty := .int) dX12_wrongWith_89 rfl rfl ⟨_, rfl, h⟩
    · replace h := h.2 c
      refine wp_bipush (v := (-9 : Int32)) dX12_wrongWith_75 (by decide) ?_
      exact wp_ireturn (ty := .int) dX12_wrongWith_77 rfl rfl ⟨_, rfl, h⟩
  · replace h := h.2 c
    refine wp_aload_n 0 dX12_wrongWith_27 rfl ?_
    refine wp_aload_n 0 dX12_wrongWith_28 rfl ?_
    refine wp_getC (ci := 12) (j := 33) dX12_wrongWith_29 fi_X12_62r rfl rfl ht1 ?_
    change WP _ _ _ _ _ _ (rv (hC H 1333 a0) :: _) _ _
    refine wp_iload_n 2 dX12_wrongWith_32 rfl ?_
    obtain ⟨a8, ha8, h⟩ := h
    obtain ⟨hr9, h⟩ := h
    obtain ⟨hg10, h⟩ := h
    refine wp_iaload dX12_wrongWith_33 ha8 hr9 hg10 ?_
    refine wp_aload_n 0 dX12_wrongWith_34 rfl ?_
    refine wp_getC (ci := 12) (j := 34) dX12_wrongWith_35 fi_X12_65r rfl rfl ht1 ?_
    change WP _ _ _ _ _ _ (rv (hC H 1334 a0) :: _) _ _
    refine wp_iload_n 2 dX12_wrongWith_38 rfl ?_
    obtain ⟨a11, ha11, h⟩ := h
    obtain ⟨hr12, h⟩ := h
    obtain ⟨hg13, h⟩ := h
    refine wp_iaload dX12_wrongWith_39 ha11 hr12 hg13 ?_
    refine wp_callV (ci := 12) (As := [.int (hI H (tg H a8) a8 x2.toNatClampNeg), .int (hI H (tg H a11) a11 x2.toNatClampNeg)]) (rest := []) (mc := 0) (ms := 0) dX12_wrongWith_40 lk_X12_243 rfl rfl (by decide) rfl rfl rfl ht1 rfl rfl rfl w_7_8 (Call.weaken h ?_)
    rintro H14 _ ⟨r15, rfl, h⟩
    change WP _ _ _ _ _ _ [.int r15] H14 _
    refine wp_istore_n (ls' := [(3, .int r15), (0, rv (some a0)), (1, .int x1), (2, .int x2)]) dX12_wrongWith_43 (by decide) rfl ?_
    refine wp_iload_n 0 dX12_wrongWith_44 rfl ?_
    refine wp_if_ge (tgt := 51) dX12_wrongWith_45 rfl (fun c => ?_) (fun c => ?_)
    · replace h := h.1 c
      refine wp_aload_n 1 dX12_wrongWith_51 rfl ?_
      refine wp_iload_n 0 dX12_wrongWith_52 rfl ?_
      obtain ⟨ht17, h⟩ := h
      refine wp_callV (ci := 12) (As := [.int r15]) (rest := []) (mc := 0) (ms := 0) dX12_wrongWith_53 lk_X12_247 rfl rfl (by decide) rfl rfl rfl ht17 rfl rfl rfl w_7_16 (Call.weaken h ?_)
      rintro H16 _ ⟨b18, rfl, h⟩
      change WP _ _ _ _ _ _ [.int (bI b18)] H16 _
      refine wp_if_eq (tgt := 62) dX12_wrongWith_56 rfl (fun c => ?_) (fun c => ?_)
      · replace h := h.1 (bI_0.mp c)
        refine wp_iinc (v := (x2 + 1)) (ls' := [(2, .int (x2 + 1)), (3, .int r15), (0, rv (some a0)), (1, .int x1)]) 3 dX12_wrongWith_62 rfl rfl (by decide) rfl ?_
        refine wp_goto (tgt := 19) dX12_wrongWith_65 rfl ?_
        refine wp_sub (ls' := [(0, rv (some a0)), (1, .int x1), (2, .int (x2 + 1))]) [2, 3, 0] rfl ?_
        exact h
      · replace h := h.2 (bI_1.mp c)
        refine wp_bipush (v := (-10 : Int32)) dX12_wrongWith_59 (by decide) ?_
        exact wp_ireturn (ty := .int) dX12_wrongWith_61 rfl rfl ⟨_, rfl, h⟩
    · replace h := h.2 c
      refine wp_bipush (v := (-8 : Int32)) dX12_wrongWith_48 (by decide) ?_
      exact wp_ireturn (ty := .int) dX12_wrongWith_50 rfl rfl ⟨_, rfl, h⟩
theorem C_X12_wrongWith {d : Nat} {q : HP → Int32 → Prop} {a0 : Nat} {x1 : Int32} {H : HP} (h : wb_X12_wrongWith_0 d q a0 x1 H) : CI (d + 1) 0 0 mX12_wrongWith [rv (some a0), .int x1] H q := by
  refine call_of (by decide +kernel) (by simp [lg_sl, rv_cat, vc_int, vc_long, vc_float, vc_double]) ?_
  have e : lv_args 0 [rv (some a0), .int x1] = [(0, rv (some a0)), (1, .int x1)] := by simp [lv_args, rv_cat, vc_int, vc_long, vc_float, vc_double]
  rw [e]
  exact T_X12_wrongWith_0 h
