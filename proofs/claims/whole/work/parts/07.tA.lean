def wb_J0_charAt_5068e_0 (d : Nat) (q : HP → Int32 → Prop) (x1 : Int32) (H : HP) : Prop :=
  CZ d 0 0 mJ0_isLatin1_aae02 [rv (some strA)] H (fun H1 b2 => (b2 = false → False) ∧ (b2 = true → CI d 0 0 mJ1_charAt_3b067 [rv (some strV), .int x1] H1 (fun H3 r4 => narrow .char (.int r4) = .int r4 ∧ q H3 r4)))
set_option maxRecDepth 40000 in
set_option maxHeartbeats 4000000 in
theorem T_J0_charAt_5068e_0 {d : Nat} {q : HP → Int32 → Prop} {x1 : Int32} {H : HP} (h : wb_J0_charAt_5068e_0 d q x1 H) : WP (d + 1) mJ0_charAt_5068e 0 0 0 [(0, rv (some strA)), (1, .int x1)] [] H (qI q) := by
  unfold wb_J0_charAt_5068e_0 at h
  refine wp_aload_n 0 dJ0_charAt_5068e_0 rfl ?_
  refine wp_callStr (As := []) (rest := []) dJ0_charAt_5068e_1 lk_J0_492 rfl rfl (by decide) rfl rfl w_2_110 (Call.weaken h ?_)
  rintro H1 _ ⟨b2, rfl, h⟩
  change WP _ _ _ _ _ _ [.int (bI b2)] H1 _
  refine wp_if_eq (tgt := 16) dJ0_charAt_5068e_4 rfl (fun c => ?_) (fun c => ?_)
  · replace h := h.1 (bI_0.mp c)
    refine wp_aload_n 0 dJ0_charAt_5068e_16 rfl ?_
    refine wp_strValue dJ0_charAt_5068e_17 w_8_183 ?_
    refine wp_iload_n 1 dJ0_charAt_5068e_20 rfl ?_
    exact h.elim
  · replace h := h.2 (bI_1.mp c)
    refine wp_aload_n 0 dJ0_charAt_5068e_7 rfl ?_
    refine wp_strValue dJ0_charAt_5068e_8 w_8_183 ?_
    refine wp_iload_n 1 dJ0_charAt_5068e_11 rfl ?_
    refine wp_callS (As := [rv (some strV), .int x1]) (rest := []) (mc := 0) (ms := 0) dJ0_charAt_5068e_12 lk_J0_495 rfl rfl (by decide) rfl rfl rfl (Call.weaken h ?_)
    rintro H3 _ ⟨r4, rfl, h⟩
    change WP _ _ _ _ _ _ [.int r4] H3 _
    obtain ⟨hn, h⟩ := h
    exact wp_ireturn (ty := .char) dJ0_charAt_5068e_15 rfl hn ⟨_, rfl, h⟩
theorem C_J0_charAt_5068e {d : Nat} {q : HP → Int32 → Prop} {x1 : Int32} {H : HP} (h : wb_J0_charAt_5068e_0 d q x1 H) : CI (d + 1) 0 0 mJ0_charAt_5068e [rv (some strA), .int x1] H q := by
  refine call_of (by decide +kernel) (by simp [lg_sl, rv_cat, vc_int, vc_long, vc_float, vc_double]) ?_
  have e : lv_args 0 [rv (some strA), .int x1] = [(0, rv (some strA)), (1, .int x1)] := by simp [lv_args, rv_cat, vc_int, vc_long, vc_float, vc_double]
  rw [e]
  exact T_J0_charAt_5068e_0 h
def wb_J0_checkIndex_df160_0 (d : Nat) (q : HP → Prop) (x0 : Int32) (x1 : Int32) (H : HP) : Prop :=
  ∀ o1 : Option Nat, (CI d 0 0 mJ3_checkIndex_8e157 [.int x0, .int x1, rv o1] H (fun H2 r3 => q H2))
set_option maxRecDepth 40000 in
set_option maxHeartbeats 4000000 in
theorem T_J0_checkIndex_df160_0 {d : Nat} {q : HP → Prop} {x0 : Int32} {x1 : Int32} {H : HP} (h : wb_J0_checkIndex_df160_0 d q x0 x1 H) : WP (d + 1) mJ0_checkIndex_df160 0 0 0 [(0, .int x0), (1, .int x1)] [] H (qV q) := by
  unfold wb_J0_checkIndex_df160_0 at h
  refine wp_iload_n 0 dJ0_checkIndex_df160_0 rfl ?_
  refine wp_iload_n 1 dJ0_checkIndex_df160_1 rfl ?_
  refine wp_formatter dJ0_checkIndex_df160_2 w_2_122 (fun o1 => ?_)
  replace h := h o1
  refine wp_callS (As := [.int x0, .int x1, rv o1]) (rest := []) (mc := 0) (ms := 0) dJ0_checkIndex_df160_5 lk_J0_1059 rfl rfl (by decide) rfl rfl rfl (Call.weaken h ?_)
  rintro H2 _ ⟨r3, rfl, h⟩
  change WP _ _ _ _ _ _ [.int r3] H2 _
  refine wp_pop dJ0_checkIndex_df160_8 (rfl) ?_
  exact wp_return dJ0_checkIndex_df160_9 rfl ⟨rfl, h⟩
theorem C_J0_checkIndex_df160 {d : Nat} {q : HP → Prop} {x0 : Int32} {x1 : Int32} {H : HP} (h : wb_J0_checkIndex_df160_0 d q x0 x1 H) : CV (d + 1) 0 0 mJ0_checkIndex_df160 [.int x0, .int x1] H q := by
  refine call_of (by decide +kernel) (by simp [lg_sl, rv_cat, vc_int, vc_long, vc_float, vc_double]) ?_
  have e : lv_args 0 [.int x0, .int x1] = [(0, .int x0), (1, .int x1)] := by simp [lv_args, rv_cat, vc_int, vc_long, vc_float, vc_double]
  rw [e]
  exact T_J0_checkIndex_df160_0 h
def wb_J0_isLatin1_aae02_0 (d : Nat) (q : HP → Bool → Prop)  (H : HP) : Prop :=
  ((1 : Int32) = 0 → q H false) ∧ (¬ ((1 : Int32) = 0) → (¬ (0 : Int32) = 0 → q H false) ∧ ((0 : Int32) = 0 → q H true))
set_option maxRecDepth 40000 in
set_option maxHeartbeats 4000000 in
theorem T_J0_isLatin1_aae02_0 {d : Nat} {q : HP → Bool → Prop}  {H : HP} (h : wb_J0_isLatin1_aae02_0 d q  H) : WP (d + 1) mJ0_isLatin1_aae02 0 0 0 [(0, rv (some strA))] [] H (qZ q) := by
  unfold wb_J0_isLatin1_aae02_0 at h
  refine wp_compact dJ0_isLatin1_aae02_0 w_2_114 ?_
  refine wp_if_eq (tgt := 17) dJ0_isLatin1_aae02_3 rfl (fun c => ?_) (fun c => ?_)
  · replace h := h.1 c
    refine wp_iconst (v := (0 : Int32)) dJ0_isLatin1_aae02_17 (by decide) ?_
    exact wp_ireturn (ty := .boolean) dJ0_isLatin1_aae02_18 rfl rfl ⟨false, rfl, h⟩
  · replace h := h.2 c
    refine wp_aload_n 0 dJ0_isLatin1_aae02_6 rfl ?_
    refine wp_strCoder dJ0_isLatin1_aae02_7 w_8_182 ?_
    refine wp_if_ne (tgt := 17) dJ0_isLatin1_aae02_10 rfl (fun c => ?_) (fun c => ?_)
    · replace h := h.1 c
      refine wp_iconst (v := (0 : Int32)) dJ0_isLatin1_aae02_17 (by decide) ?_
      exact wp_ireturn (ty := .boolean) dJ0_isLatin1_aae02_18 rfl rfl ⟨false, rfl, h⟩
    · replace h := h.2 c
      refine wp_iconst (v := (1 : Int32)) dJ0_isLatin1_aae02_13 (by decide) ?_
      refine wp_goto (tgt := 18) dJ0_isLatin1_aae02_14 rfl ?_
      exact wp_ireturn (ty := .boolean) dJ0_isLatin1_aae02_18 rfl rfl ⟨true, rfl, h⟩
theorem C_J0_isLatin1_aae02 {d : Nat} {q : HP → Bool → Prop}  {H : HP} (h : wb_J0_isLatin1_aae02_0 d q  H) : CZ (d + 1) 0 0 mJ0_isLatin1_aae02 [rv (some strA)] H q := by
  refine call_of (by decide +kernel) (by simp [lg_sl, rv_cat, vc_int, vc_long, vc_float, vc_double]) ?_
  have e : lv_args 0 [rv (some strA)] = [(0, rv (some strA))] := by simp [lv_args, rv_cat, vc_int, vc_long, vc_float, vc_double]
  rw [e]
  exact T_J0_isLatin1_aae02_0 h
def wb_J13_compare_74951_0 (d : Nat) (q : HP → Int32 → Prop) (x0 : Int64) (x2 : Int64) (H : HP) : Prop :=
  (x2 ≤ x0 → (¬ x0 = x2 → q H (1 : Int32)) ∧ (x0 = x2 → q H (0 : Int32))) ∧ (¬ (x2 ≤ x0) → q H (-1 : Int32))
set_option maxRecDepth 40000 in
set_option maxHeartbeats 4000000 in
theorem T_J13_compare_74951_0 {d : Nat} {q : HP → Int32 → Prop} {x0 : Int64} {x2 : Int64} {H : HP} (h : wb_J13_compare_74951_0 d q x0 x2 H) : WP (d + 1) mJ13_compare_74951 0 0 0 [(0, .long x0), (2, .long x2)] [] H (qI q) := by
  unfold wb_J13_compare_74951_0 at h
  refine wp_lload_n 0 dJ13_compare_74951_0 rfl ?_
  refine wp_lload_n 1 dJ13_compare_74951_1 rfl ?_
  refine wp_lcmp dJ13_compare_74951_2 ?_
  refine wp_if_ge (tgt := 10) dJ13_compare_74951_3 rfl (fun c => ?_) (fun c => ?_)
  · replace h := h.1 (lgc_ge.mp c)
    refine wp_lload_n 0 dJ13_compare_74951_10 rfl ?_
    refine wp_lload_n 1 dJ13_compare_74951_11 rfl ?_
    refine wp_lcmp dJ13_compare_74951_12 ?_
    refine wp_if_ne (tgt := 20) dJ13_compare_74951_13 rfl (fun c => ?_) (fun c => ?_)
    · replace h := h.1 (fun z => c (lgc_eq.mpr z))
      refine wp_iconst (v := (1 : Int32)) dJ13_compare_74951_20 (by decide) ?_
      exact wp_ireturn (ty := .int) dJ13_compare_74951_21 rfl rfl ⟨_, rfl, h⟩
    · replace h := h.2 (lgc_eq.mp c)
      refine wp_iconst (v := (0 : Int32)) dJ13_compare_74951_16 (by decide) ?_
      refine wp_goto (tgt := 21) dJ13_compare_74951_17 rfl ?_
      exact wp_ireturn (ty := .int) dJ13_compare_74951_21 rfl rfl ⟨_, rfl, h⟩
  · replace h := h.2 (fun z => c (lgc_ge.mpr z))
    refine wp_iconst (v := (-1 : Int32)) dJ13_compare_74951_6 (by decide) ?_
    refine wp_goto (tgt := 21) dJ13_compare_74951_7 rfl ?_
    exact wp_ireturn (ty := .int) dJ13_compare_74951_21 rfl rfl ⟨_, rfl, h⟩
theorem C_J13_compare_74951 {d : Nat} {q : HP → Int32 → Prop} {x0 : Int64} {x2 : Int64} {H : HP} (h : wb_J13_compare_74951_0 d q x0 x2 H) : CI (d + 1) 0 0 mJ13_compare_74951 [.long x0, .long x2] H q := by
  refine call_of (by decide +kernel) (by simp [lg_sl, rv_cat, vc_int, vc_long, vc_float, vc_double]) ?_
  have e : lv_args 0 [.long x0, .long x2] = [(0, .long x0), (2, .long x2)] := by simp [lv_args, rv_cat, vc_int, vc_long, vc_float, vc_double]
  rw [e]
  exact T_J13_compare_74951_0 h
def wb_J13_signum_95d88_0 (d : Nat) (q : HP → Int32 → Prop) (x0 : Int64) (H : HP) : Prop :=
  q H (((x0 >>> ((63 : Int32).toInt64 &&& 63)) ||| (((-x0).toUInt64 >>> ((63 : Int32).toInt64.toUInt64 &&& Int64.toUInt64 63)).toInt64)).toInt32)
set_option maxRecDepth 40000 in
set_option maxHeartbeats 4000000 in
theorem T_J13_signum_95d88_0 {d : Nat} {q : HP → Int32 → Prop} {x0 : Int64} {H : HP} (h : wb_J13_signum_95d88_0 d q x0 H) : WP (d + 1) mJ13_signum_95d88 0 0 0 [(0, .long x0)] [] H (qI q) := by
  unfold wb_J13_signum_95d88_0 at h
  refine wp_lload_n 0 dJ13_signum_95d88_0 rfl ?_
  refine wp_bipush (v := (63 : Int32)) dJ13_signum_95d88_1 (by decide) ?_
  refine wp_lshr dJ13_signum_95d88_3 ?_
  refine wp_lload_n 0 dJ13_signum_95d88_4 rfl ?_
  refine wp_lneg dJ13_signum_95d88_5 ?_
  refine wp_bipush (v := (63 : Int32)) dJ13_signum_95d88_6 (by decide) ?_
  refine wp_lushr dJ13_signum_95d88_8 ?_
  refine wp_lor dJ13_signum_95d88_9 ?_
  refine wp_l2i dJ13_signum_95d88_10 ?_
  exact wp_ireturn (ty := .int) dJ13_signum_95d88_11 rfl rfl ⟨_, rfl, h⟩
theorem C_J13_signum_95d88 {d : Nat} {q : HP → Int32 → Prop} {x0 : Int64} {H : HP} (h : wb_J13_signum_95d88_0 d q x0 H) : CI (d + 1) 0 0 mJ13_signum_95d88 [.long x0] H q := by
  refine call_of (by decide +kernel) (by simp [lg_sl, rv_cat, vc_int, vc_long, vc_float, vc_double]) ?_
  have e : lv_args 0 [.long x0] = [(0, .long x0)] := by simp [lv_args, rv_cat, vc_int, vc_long, vc_float, vc_double]
  rw [e]
  exact T_J13_signum_95d88_0 h
def wb_J1_charAt_3b067_0 (d : Nat) (q : HP → Int32 → Prop) (x1 : Int32) (H : HP) : Prop :=
  CV d 0 0 mJ0_checkIndex_df160 [.int x1, .int (5 : Int32)] H (fun H1 => vp_in x1 5 ∧ (narrow .char (.int (((([(109 : Int32), 103, 115, 107, 97].getD x1.toNatClampNeg 0) &&& (255 : Int32)).toUInt32 % 65536).toInt32)) = .int (((([(109 : Int32), 103, 115, 107, 97].getD x1.toNatClampNeg 0) &&& (255 : Int32)).toUInt32 % 65536).toInt32) ∧ q H1 (((([(109 : Int32), 103, 115, 107, 97].getD x1.toNatClampNeg 0) &&& (255 : Int32)).toUInt32 % 65536).toInt32)))
set_option maxRecDepth 40000 in
set_option maxHeartbeats 4000000 in
theorem T_J1_charAt_3b067_0 {d : Nat} {q : HP → Int32 → Prop} {x1 : Int32} {H : HP} (h : wb_J1_charAt_3b067_0 d q x1 H) : WP (d + 1) mJ1_charAt_3b067 0 0 0 [(0, rv (some strV)), (1, .int x1)] [] H (qI q) := by
  unfold wb_J1_charAt_3b067_0 at h
  refine wp_iload_n 1 dJ1_charAt_3b067_0 rfl ?_
  refine wp_aload_n 0 dJ1_charAt_3b067_1 rfl ?_
  refine wp_strLen dJ1_charAt_3b067_2 ?_
  refine wp_callS (As := [.int x1, .int (5 : Int32)]) (rest := []) (mc := 0) (ms := 0) dJ1_charAt_3b067_3 lk_J1_9 rfl rfl (by decide) rfl rfl rfl (Call.weaken h ?_)
  rintro H1 _ ⟨rfl, h⟩
  change WP _ _ _ _ _ _ [] H1 _
  refine wp_aload_n 0 dJ1_charAt_3b067_6 rfl ?_
  refine wp_iload_n 1 dJ1_charAt_3b067_7 rfl ?_
  obtain ⟨hg2, h⟩ := h
  refine wp_strByte dJ1_charAt_3b067_8 hg2 ?_
  refine wp_sipush (v := (255 : Int32)) dJ1_charAt_3b067_9 (by decide) ?_
  refine wp_iand dJ1_charAt_3b067_12 ?_
  refine wp_i2c dJ1_charAt_3b067_13 ?_
  obtain ⟨hn, h⟩ := h
  exact wp_ireturn (ty := .char) dJ1_charAt_3b067_14 rfl hn ⟨_, rfl, h⟩
theorem C_J1_charAt_3b067 {d : Nat} {q : HP → Int32 → Prop} {x1 : Int32} {H : HP} (h : wb_J1_charAt_3b067_0 d q x1 H) : CI (d + 1) 0 0 mJ1_charAt_3b067 [rv (some strV), .int x1] H q := by
  refine call_of (by decide +kernel) (by simp [lg_sl, rv_cat, vc_int, vc_long, vc_float, vc_double]) ?_
  have e : lv_args 0 [rv (some strV), .int x1] = [(0, rv (some strV)), (1, .int x1)] := by simp [lv_args, rv_cat, vc_int, vc_long, vc_float, vc_double]
  rw [e]
  exact T_J1_charAt_3b067_0 h
def wb_J3_checkIndex_8e157_0 (d : Nat) (q : HP → Int32 → Prop) (x0 : Int32) (x1 : Int32) (o2 : Option Nat) (H : HP) : Prop :=
  (x0 < 0 → False) ∧ (¬ (x0 < 0) → (x0 < x1 → q H x0) ∧ (¬ (x0 < x1) → False))
set_option maxRecDepth 40000 in
set_option maxHeartbeats 4000000 in
theorem T_J3_checkIndex_8e157_0 {d : Nat} {q : HP → Int32 → Prop} {x0 : Int32} {x1 : Int32} {o2 : Option Nat} {H : HP} (h : wb_J3_checkIndex_8e157_0 d q x0 x1 o2 H) : WP (d + 1) mJ3_checkIndex_8e157 0 0 0 [(0, .int x0), (1, .int x1), (2, rv o2)] [] H (qI q) := by
  unfold wb_J3_checkIndex_8e157_0 at h
  refine wp_iload_n 0 dJ3_checkIndex_8e157_0 rfl ?_
  refine wp_if_lt (tgt := 9) dJ3_checkIndex_8e157_1 rfl (fun c => ?_) (fun c => ?_)
  · replace h := h.1 c
    refine wp_aload_n 2 dJ3_checkIndex_8e157_9 rfl ?_
    refine wp_iload_n 0 dJ3_checkIndex_8e157_10 rfl ?_
    refine wp_iload_n 1 dJ3_checkIndex_8e157_11 rfl ?_
    exact h.elim
  · replace h := h.2 c
    refine wp_iload_n 0 dJ3_checkIndex_8e157_4 rfl ?_
    refine wp_iload_n 1 dJ3_checkIndex_8e157_5 rfl ?_
    refine wp_icmp_lt (tgt := 16) dJ3_checkIndex_8e157_6 rfl (fun c => ?_) (fun c => ?_)
    · replace h := h.1 c
      refine wp_iload_n 0 dJ3_checkIndex_8e157_16 rfl ?_
      exact wp_ireturn (ty := .int) dJ3_checkIndex_8e157_17 rfl rfl ⟨_, rfl, h⟩
    · replace h := h.2 c
      refine wp_aload_n 2 dJ3_checkIndex_8e157_9 rfl ?_
      refine wp_iload_n 0 dJ3_checkIndex_8e157_10 rfl ?_
      refine wp_iload_n 1 dJ3_checkIndex_8e157_11 rfl ?_
      exact h.elim
theorem C_J3_checkIndex_8e157 {d : Nat} {q : HP → Int32 → Prop} {x0 : Int32} {x1 : Int32} {o2 : Option Nat} {H : HP} (h : wb_J3_checkIndex_8e157_0 d q x0 x1 o2 H) : CI (d + 1) 0 0 mJ3_checkIndex_8e157 [.int x0, .int x1, rv o2] H q := by
  refine call_of (by decide +kernel) (by simp [lg_sl, rv_cat, vc_int, vc_long, vc_float, vc_double]) ?_
  have e : lv_args 0 [.int x0, .int x1, rv o2] = [(0, .int x0), (1, .int x1), (2, rv o2)] := by simp [lv_args, rv_cat, vc_int, vc_long, vc_float, vc_double]
  rw [e]
  exact T_J3_checkIndex_8e157_0 h
def wb_J9_abs_067f4_0 (d : Nat) (q : HP → Int64 → Prop) (x0 : Int64) (H : HP) : Prop :=
  ((0 : Int64) ≤ x0 → q H x0) ∧ (¬ ((0 : Int64) ≤ x0) → q H (-x0))
set_option maxRecDepth 40000 in
set_option maxHeartbeats 4000000 in
theorem T_J9_abs_067f4_0 {d : Nat} {q : HP → Int64 → Prop} {x0 : Int64} {H : HP} (h : wb_J9_abs_067f4_0 d q x0 H) : WP (d + 1) mJ9_abs_067f4 0 0 0 [(0, .long x0)] [] H (qJ q) := by
  unfold wb_J9_abs_067f4_0 at h
  refine wp_lload_n 0 dJ9_abs_067f4_0 rfl ?_
  refine wp_lconst (v := (0 : Int64)) dJ9_abs_067f4_1 (by decide) ?_
  refine wp_lcmp dJ9_abs_067f4_2 ?_
  refine wp_if_ge (tgt := 11) dJ9_abs_067f4_3 rfl (fun c => ?_) (fun c => ?_)
  · replace h := h.1 (lgc_ge.mp c)
    refine wp_lload_n 0 dJ9_abs_067f4_11 rfl ?_
    exact wp_lreturn dJ9_abs_067f4_12 rfl ⟨_, rfl, h⟩
  · replace h := h.2 (fun z => c (lgc_ge.mpr z))
    refine wp_lload_n 0 dJ9_abs_067f4_6 rfl ?_
    refine wp_lneg dJ9_abs_067f4_7 ?_
    refine wp_goto (tgt := 12) dJ9_abs_067f4_8 rfl ?_
    exact wp_lreturn dJ9_abs_067f4_12 rfl ⟨_, rfl, h⟩
theorem C_J9_abs_067f4 {d : Nat} {q : HP → Int64 → Prop} {x0 : Int64} {H : HP} (h : wb_J9_abs_067f4_0 d q x0 H) : CJ (d + 1) 0 0 mJ9_abs_067f4 [.long x0] H q := by
  refine call_of (by decide +kernel) (by simp [lg_sl, rv_cat, vc_int, vc_long, vc_float, vc_double]) ?_
  have e : lv_args 0 [.long x0] = [(0, .long x0)] := by simp [lv_args, rv_cat, vc_int, vc_long, vc_float, vc_double]
  rw [e]
  exact T_J9_abs_067f4_0 h
def wb_J9_abs_0f7a4_0 (d : Nat) (q : HP → Int32 → Prop) (x0 : Int32) (H : HP) : Prop :=
  (0 ≤ x0 → q H x0) ∧ (¬ (0 ≤ x0) → q H (-x0))
set_option maxRecDepth 40000 in
set_option maxHeartbeats 4000000 in
theorem T_J9_abs_0f7a4_0 {d : Nat} {q : HP → Int32 → Prop} {x0 : Int32} {H : HP} (h : wb_J9_abs_0f7a4_0 d q x0 H) : WP (d + 1) mJ9_abs_0f7a4 0 0 0 [(0, .int x0)] [] H (qI q) := by
  unfold wb_J9_abs_0f7a4_0 at h
  refine wp_iload_n 0 dJ9_abs_0f7a4_0 rfl ?_
  refine wp_if_ge (tgt := 9) dJ9_abs_0f7a4_1 rfl (fun c => ?_) (fun c => ?_)
  · replace h := h.1 c
    refine wp_iload_n 0 dJ9_abs_0f7a4_9 rfl ?_
    exact wp_ireturn (ty := .int) dJ9_abs_0f7a4_10 rfl rfl ⟨_, rfl, h⟩
  · replace h := h.2 c
    refine wp_iload_n 0 dJ9_abs_0f7a4_4 rfl ?_
    refine wp_ineg dJ9_abs_0f7a4_5 ?_
    refine wp_goto (tgt := 10) dJ9_abs_0f7a4_6 rfl ?_
    exact wp_ireturn (ty := .int) dJ9_abs_0f7a4_10 rfl rfl ⟨_, rfl, h⟩
theorem C_J9_abs_0f7a4 {d : Nat} {q : HP → Int32 → Prop} {x0 : Int32} {H : HP} (h : wb_J9_abs_0f7a4_0 d q x0 H) : CI (d + 1) 0 0 mJ9_abs_0f7a4 [.int x0] H q := by
  refine call_of (by decide +kernel) (by simp [lg_sl, rv_cat, vc_int, vc_long, vc_float, vc_double]) ?_
  have e : lv_args 0 [.int x0] = [(0, .int x0)] := by simp [lv_args, rv_cat, vc_int, vc_long, vc_float, vc_double]
  rw [e]
  exact T_J9_abs_0f7a4_0 h
def wb_J9_floorDiv_f86c9_0 (d : Nat) (q : HP → Int64 → Prop) (x0 : Int64) (x2 : Int64) (H : HP) : Prop :=
  ¬ x2 = 0 ∧ (((0 : Int64) ≤ (x0 ^^^ x2) → q H (x0 / x2)) ∧ (¬ ((0 : Int64) ≤ (x0 ^^^ x2)) → (((x0 / x2) * x2) = x0 → q H (x0 / x2)) ∧ (¬ (((x0 / x2) * x2) = x0) → q H ((x0 / x2) - (1 : Int64)))))
set_option maxRecDepth 40000 in
set_option maxHeartbeats 4000000 in
theorem T_J9_floorDiv_f86c9_0 {d : Nat} {q : HP → Int64 → Prop} {x0 : Int64} {x2 : Int64} {H : HP} (h : wb_J9_floorDiv_f86c9_0 d q x0 x2 H) : WP (d + 1) mJ9_floorDiv_f86c9 0 0 0 [(0, .long x0), (2, .long x2)] [] H (qJ q) := by
  unfold wb_J9_floorDiv_f86c9_0 at h
  refine wp_lload_n 0 dJ9_floorDiv_f86c9_0 rfl ?_
  refine wp_lload_n 1 dJ9_floorDiv_f86c9_1 rfl ?_
  obtain ⟨hg1, h⟩ := h
  refine wp_ldiv dJ9_floorDiv_f86c9_2 hg1 ?_
  refine wp_lstore (ls' := [(4, .long (x0 / x2)), (0, .long x0), (2, .long x2)]) dJ9_floorDiv_f86c9_3 (by decide) rfl ?_
  refine wp_lload_n 1 dJ9_floorDiv_f86c9_5 rfl ?_
  refine wp_lload_n 2 dJ9_floorDiv_f86c9_6 rfl ?_
  refine wp_lxor dJ9_floorDiv_f86c9_7 ?_
  refine wp_lconst (v := (0 : Int64)) dJ9_floorDiv_f86c9_8 (by decide) ?_
  refine wp_lcmp dJ9_floorDiv_f86c9_9 ?_
  refine wp_if_ge (tgt := 27) dJ9_floorDiv_f86c9_10 rfl (fun c => ?_) (fun c => ?_)
  · replace h := h.1 (lgc_ge.mp c)
    refine wp_lload 0 dJ9_floorDiv_f86c9_27 rfl ?_
    exact wp_lreturn dJ9_floorDiv_f86c9_29 rfl ⟨_, rfl, h⟩
  · replace h := h.2 (fun z => c (lgc_ge.mpr z))
    refine wp_lload 0 dJ9_floorDiv_f86c9_13 rfl ?_
    refine wp_lload_n 2 dJ9_floorDiv_f86c9_15 rfl ?_
    refine wp_lmul dJ9_floorDiv_f86c9_16 ?_
    refine wp_lload_n 1 dJ9_floorDiv_f86c9_17 rfl ?_
    refine wp_lcmp dJ9_floorDiv_f86c9_18 ?_
    refine wp_if_eq (tgt := 27) dJ9_floorDiv_f86c9_19 rfl (fun c => ?_) (fun c => ?_)
    · replace h := h.1 (lgc_eq.mp c)
      refine wp_lload 0 dJ9_floorDiv_f86c9_27 rfl ?_
      exact wp_lreturn dJ9_floorDiv_f86c9_29 rfl ⟨_, rfl, h⟩
    · replace h := h.2 (fun z => c (lgc_eq.mpr z))
      refine wp_lload 0 dJ9_floorDiv_f86c9_22 rfl ?_
      refine wp_lconst (v := (1 : Int64)) dJ9_floorDiv_f86c9_24 (by decide) ?_
      refine wp_lsub dJ9_floorDiv_f86c9_25 ?_
      exact wp_lreturn dJ9_floorDiv_f86c9_26 rfl ⟨_, rfl, h⟩
theorem C_J9_floorDiv_f86c9 {d : Nat} {q : HP → Int64 → Prop} {x0 : Int64} {x2 : Int64} {H : HP} (h : wb_J9_floorDiv_f86c9_0 d q x0 x2 H) : CJ (d + 1) 0 0 mJ9_floorDiv_f86c9 [.long x0, .long x2] H q := by
  refine call_of (by decide +kernel) (by simp [lg_sl, rv_cat, vc_int, vc_long, vc_float, vc_double]) ?_
  have e : lv_args 0 [.long x0, .long x2] = [(0, .long x0), (2, .long x2)] := by simp [lv_args, rv_cat, vc_int, vc_long, vc_float, vc_double]
  rw [e]
  exact T_J9_floorDiv_f86c9_0 h
def wb_J9_min_7cf53_0 (d : Nat) (q : HP → Int32 → Prop) (x0 : Int32) (x1 : Int32) (H : HP) : Prop :=
  (x1 < x0 → q H x1) ∧ (¬ (x1 < x0) → q H x0)
set_option maxRecDepth 40000 in
set_option maxHeartbeats 4000000 in
theorem T_J9_min_7cf53_0 {d : Nat} {q : HP → Int32 → Prop} {x0 : Int32} {x1 : Int32} {H : HP} (h : wb_J9_min_7cf53_0 d q x0 x1 H) : WP (d + 1) mJ9_min_7cf53 0 0 0 [(0, .int x0), (1, .int x1)] [] H (qI q) := by
  unfold wb_J9_min_7cf53_0 at h
  refine wp_iload_n 0 dJ9_min_7cf53_0 rfl ?_
  refine wp_iload_n 1 dJ9_min_7cf53_1 rfl ?_
  refine wp_icmp_gt (tgt := 9) dJ9_min_7cf53_2 rfl (fun c => ?_) (fun c => ?_)
  · replace h := h.1 c
    refine wp_iload_n 1 dJ9_min_7cf53_9 rfl ?_
    exact wp_ireturn (ty := .int) dJ9_min_7cf53_10 rfl rfl ⟨_, rfl, h⟩
  · replace h := h.2 c
    refine wp_iload_n 0 dJ9_min_7cf53_5 rfl ?_
    refine wp_goto (tgt := 10) dJ9_min_7cf53_6 rfl ?_
    exact wp_ireturn (ty := .int) dJ9_min_7cf53_10 rfl rfl ⟨_, rfl, h⟩
theorem C_J9_min_7cf53 {d : Nat} {q : HP → Int32 → Prop} {x0 : Int32} {x1 : Int32} {H : HP} (h : wb_J9_min_7cf53_0 d q x0 x1 H) : CI (d + 1) 0 0 mJ9_min_7cf53 [.int x0, .int x1] H q := by
  refine call_of (by decide +kernel) (by simp [lg_sl, rv_cat, vc_int, vc_long, vc_float, vc_double]) ?_
  have e : lv_args 0 [.int x0, .int x1] = [(0, .int x0), (1, .int x1)] := by simp [lv_args, rv_cat, vc_int, vc_long, vc_float, vc_double]
  rw [e]
  exact T_J9_min_7cf53_0 h
def wb_Jxe99ae_doubleToLongBits_ccdee_0 (d : Nat) (q : HP → Int64 → Prop) (x0 : UInt64) (H : HP) : Prop :=
  CZ d 0 0 mJxe99ae_isNaN_b9ae7 [.double x0] H (fun H1 b2 => (b2 = true → q H1 (9221120237041090560 : Int64)) ∧ (b2 = false → q H1 (x0.toInt64)))
set_option maxRecDepth 40000 in
set_option maxHeartbeats 4000000 in
theorem T_Jxe99ae_doubleToLongBits_ccdee_0 {d : Nat} {q : HP → Int64 → Prop} {x0 : UInt64} {H : HP} (h : wb_Jxe99ae_doubleToLongBits_ccdee_0 d q x0 H) : WP (d + 1) mJxe99ae_doubleToLongBits_ccdee 0 0 0 [(0, .double x0)] [] H (qJ q) := by
  unfold wb_Jxe99ae_doubleToLongBits_ccdee_0 at h
  refine wp_dload_n 0 dJxe99ae_doubleToLongBits_ccdee_0 rfl ?_
  refine wp_callS (As := [.double x0]) (rest := []) (mc := 0) (ms := 0) dJxe99ae_doubleToLongBits_ccdee_1 lk_Jxe99ae_122 rfl rfl (by decide) rfl rfl rfl (Call.weaken h ?_)
  rintro H1 _ ⟨b2, rfl, h⟩
  change WP _ _ _ _ _ _ [.int (bI b2)] H1 _
  refine wp_if_ne (tgt := 12) dJxe99ae_doubleToLongBits_ccdee_4 rfl (fun c => ?_) (fun c => ?_)
  · replace h := h.1 (bI_1.mp c)
    refine wp_ldc2 dJxe99ae_doubleToLongBits_ccdee_12 w_8_18 ?_
    exact wp_lreturn dJxe99ae_doubleToLongBits_ccdee_15 rfl ⟨_, rfl, h⟩
  · replace h := h.2 (bI_0.mp c)
    refine wp_dload_n 0 dJxe99ae_doubleToLongBits_ccdee_7 rfl ?_
    refine wp_d2raw dJxe99ae_doubleToLongBits_ccdee_8 w_8_15 w_8_17 w_8_16 w_1_21 (by decide) (by omega) ?_
    exact wp_lreturn dJxe99ae_doubleToLongBits_ccdee_11 rfl ⟨_, rfl, h⟩
theorem C_Jxe99ae_doubleToLongBits_ccdee {d : Nat} {q : HP → Int64 → Prop} {x0 : UInt64} {H : HP} (h : wb_Jxe99ae_doubleToLongBits_ccdee_0 d q x0 H) : CJ (d + 1) 0 0 mJxe99ae_doubleToLongBits_ccdee [.double x0] H q := by
  refine call_of (by decide +kernel) (by simp [lg_sl, rv_cat, vc_int, vc_long, vc_float, vc_double]) ?_
  have e : lv_args 0 [.double x0] = [(0, .double x0)] := by simp [lv_args, rv_cat, vc_int, vc_long, vc_float, vc_double]
  rw [e]
  exact T_Jxe99ae_doubleToLongBits_ccdee_0 h
def wb_Jxe99ae_isNaN_b9ae7_0 (d : Nat) (q : HP → Bool → Prop) (x0 : UInt64) (H : HP) : Prop :=
  ((Op.cmpValue (FP.dcmp x0 x0) .l) = 0 → q H false) ∧ (¬ ((Op.cmpValue (FP.dcmp x0 x0) .l) = 0) → q H true)
set_option maxRecDepth 40000 in
set_option maxHeartbeats 4000000 in
theorem T_Jxe99ae_isNaN_b9ae7_0 {d : Nat} {q : HP → Bool → Prop} {x0 : UInt64} {H : HP} (h : wb_Jxe99ae_isNaN_b9ae7_0 d q x0 H) : WP (d + 1) mJxe99ae_isNaN_b9ae7 0 0 0 [(0, .double x0)] [] H (qZ q) := by
  unfold wb_Jxe99ae_isNaN_b9ae7_0 at h
  refine wp_dload_n 0 dJxe99ae_isNaN_b9ae7_0 rfl ?_
  refine wp_dload_n 0 dJxe99ae_isNaN_b9ae7_1 rfl ?_
  refine wp_dcmp dJxe99ae_isNaN_b9ae7_2 ?_
  refine wp_if_eq (tgt := 10) dJxe99ae_isNaN_b9ae7_3 rfl (fun c => ?_) (fun c => ?_)
  · replace h := h.1 c
    refine wp_iconst (v := (0 : Int32)) dJxe99ae_isNaN_b9ae7_10 (by decide) ?_
    exact wp_ireturn (ty := .boolean) dJxe99ae_isNaN_b9ae7_11 rfl rfl ⟨false, rfl, h⟩
  · replace h := h.2 c
    refine wp_iconst (v := (1 : Int32)) dJxe99ae_isNaN_b9ae7_6 (by decide) ?_
    refine wp_goto (tgt := 11) dJxe99ae_isNaN_b9ae7_7 rfl ?_
    exact wp_ireturn (ty := .boolean) dJxe99ae_isNaN_b9ae7_11 rfl rfl ⟨true, rfl, h⟩
theorem C_Jxe99ae_isNaN_b9ae7 {d : Nat} {q : HP → Bool → Prop} {x0 : UInt64} {H : HP} (h : wb_Jxe99ae_isNaN_b9ae7_0 d q x0 H) : CZ (d + 1) 0 0 mJxe99ae_isNaN_b9ae7 [.double x0] H q := by
  refine call_of (by decide +kernel) (by simp [lg_sl, rv_cat, vc_int, vc_long, vc_float, vc_double]) ?_
  have e : lv_args 0 [.double x0] = [(0, .double x0)] := by simp [lv_args, rv_cat, vc_int, vc_long, vc_float, vc_double]
  rw [e]
  exact T_Jxe99ae_isNaN_b9ae7_0 h
def wb_Jxf58ca_floatToIntBits_5c35a_0 (d : Nat) (q : HP → Int32 → Prop) (x0 : UInt32) (H : HP) : Prop :=
  CZ d 0 0 mJxf58ca_isNaN_12338 [.float x0] H (fun H1 b2 => (b2 = true → q H1 (2143289344 : Int32)) ∧ (b2 = false → q H1 (x0.toInt32)))
set_option maxRecDepth 40000 in
set_option maxHeartbeats 4000000 in
theorem T_Jxf58ca_floatToIntBits_5c35a_0 {d : Nat} {q : HP → Int32 → Prop} {x0 : UInt32} {H : HP} (h : wb_Jxf58ca_floatToIntBits_5c35a_0 d q x0 H) : WP (d + 1) mJxf58ca_floatToIntBits_5c35a 0 0 0 [(0, .float x0)] [] H (qI q) := by
  unfold wb_Jxf58ca_floatToIntBits_5c35a_0 at h
  refine wp_fload_n 0 dJxf58ca_floatToIntBits_5c35a_0 rfl ?_
  refine wp_callS (As := [.float x0]) (rest := []) (mc := 0) (ms := 0) dJxf58ca_floatToIntBits_5c35a_1 lk_Jxf58ca_59 rfl rfl (by decide) rfl rfl rfl (Call.weaken h ?_)
  rintro H1 _ ⟨b2, rfl, h⟩
  change WP _ _ _ _ _ _ [.int (bI b2)] H1 _
  refine wp_if_ne (tgt := 12) dJxf58ca_floatToIntBits_5c35a_4 rfl (fun c => ?_) (fun c => ?_)
  · replace h := h.1 (bI_1.mp c)
    refine wp_ldc dJxf58ca_floatToIntBits_5c35a_12 w_8_28 ?_
    exact wp_ireturn (ty := .int) dJxf58ca_floatToIntBits_5c35a_14 rfl rfl ⟨_, rfl, h⟩
  · replace h := h.2 (bI_0.mp c)
    refine wp_fload_n 0 dJxf58ca_floatToIntBits_5c35a_7 rfl ?_
    refine wp_f2raw dJxf58ca_floatToIntBits_5c35a_8 w_8_25 w_8_27 w_8_26 w_1_22 (by decide) (by omega) ?_
    exact wp_ireturn (ty := .int) dJxf58ca_floatToIntBits_5c35a_11 rfl rfl ⟨_, rfl, h⟩
theorem C_Jxf58ca_floatToIntBits_5c35a {d : Nat} {q : HP → Int32 → Prop} {x0 : UInt32} {H : HP} (h : wb_Jxf58ca_floatToIntBits_5c35a_0 d q x0 H) : CI (d + 1) 0 0 mJxf58ca_floatToIntBits_5c35a [.float x0] H q := by
  refine call_of (by decide +kernel) (by simp [lg_sl, rv_cat, vc_int, vc_long, vc_float, vc_double]) ?_
  have e : lv_args 0 [.float x0] = [(0, .float x0)] := by simp [lv_args, rv_cat, vc_int, vc_long, vc_float, vc_double]
  rw [e]
  exact T_Jxf58ca_floatToIntBits_5c35a_0 h
def wb_Jxf58ca_isNaN_12338_0 (d : Nat) (q : HP → Bool → Prop) (x0 : UInt32) (H : HP) : Prop :=
  ((Op.cmpValue (FP.fcmp x0 x0) .l) = 0 → q H false) ∧ (¬ ((Op.cmpValue (FP.fcmp x0 x0) .l) = 0) → q H true)
set_option maxRecDepth 40000 in
set_option maxHeartbeats 4000000 in
theorem T_Jxf58ca_isNaN_12338_0 {d : Nat} {q : HP → Bool → Prop} {x0 : UInt32} {H : HP} (h : wb_Jxf58ca_isNaN_12338_0 d q x0 H) : WP (d + 1) mJxf58ca_isNaN_12338 0 0 0 [(0, .float x0)] [] H (qZ q) := by
  unfold wb_Jxf58ca_isNaN_12338_0 at h
  refine wp_fload_n 0 dJxf58ca_isNaN_12338_0 rfl ?_
  refine wp_fload_n 0 dJxf58ca_isNaN_12338_1 rfl ?_
  refine wp_fcmp dJxf58ca_isNaN_12338_2 ?_
  refine wp_if_eq (tgt := 10) dJxf58ca_isNaN_12338_3 rfl (fun c => ?_) (fun c => ?_)
  · replace h := h.1 c
    refine wp_iconst (v := (0 : Int32)) dJxf58ca_isNaN_12338_10 (by decide) ?_
    exact wp_ireturn (ty := .boolean) dJxf58ca_isNaN_12338_11 rfl rfl ⟨false, rfl, h⟩
  · replace h := h.2 c
    refine wp_iconst (v := (1 : Int32)) dJxf58ca_isNaN_12338_6 (by decide) ?_
    refine wp_goto (tgt := 11) dJxf58ca_isNaN_12338_7 rfl ?_
    exact wp_ireturn (ty := .boolean) dJxf58ca_isNaN_12338_11 rfl rfl ⟨true, rfl, h⟩
theorem C_Jxf58ca_isNaN_12338 {d : Nat} {q : HP → Bool → Prop} {x0 : UInt32} {H : HP} (h : wb_Jxf58ca_isNaN_12338_0 d q x0 H) : CZ (d + 1) 0 0 mJxf58ca_isNaN_12338 [.float x0] H q := by
  refine call_of (by decide +kernel) (by simp [lg_sl, rv_cat, vc_int, vc_long, vc_float, vc_double]) ?_
  have e : lv_args 0 [.float x0] = [(0, .float x0)] := by simp [lv_args, rv_cat, vc_int, vc_long, vc_float, vc_double]
  rw [e]
  exact T_Jxf58ca_isNaN_12338_0 h
/-- UnitProver$FloatBits.exponentOf(D)I: the loop at 22 -/
def L_X2_exponentOf_22 (d : Nat) (q : HP → Int32 → Prop) (a0 : Nat) (x3 : Int32) (x4 : UInt64) (x6 : Int32) (x7 : Int32) (H : HP) : Prop := WP (d + 1) mX2_exponentOf 0 0 22 [(0, rv (some a0)), (3, .int x3), (4, .double x4), (6, .int x6), (7, .int x7)] [] H (qI q)
def wb_X2_exponentOf_0 (d : Nat) (q : HP → Int32 → Prop) (a0 : Nat) (x1 : UInt64) (H : HP) : Prop :=
  ((Op.cmpValue (FP.dcmp x1 FP.dconst1) .l) < 0 → L_X2_exponentOf_22 d q a0 (0 : Int32) x1 (0 : Int32) (9 : Int32) H) ∧ (¬ ((Op.cmpValue (FP.dcmp x1 FP.dconst1) .l) < 0) → L_X2_exponentOf_22 d q a0 (0 : Int32) x1 (1 : Int32) (9 : Int32) H)
set_option maxRecDepth 40000 in
set_option maxHeartbeats 4000000 in
theorem T_X2_exponentOf_0 {d : Nat} {q : HP → Int32 → Prop} {a0 : Nat} {x1 : UInt64} {H : HP} (h : wb_X2_exponentOf_0 d q a0 x1 H) : WP (d + 1) mX2_exponentOf 0 0 0 [(0, rv (some a0)), (1, .double x1)] [] H (qI q) := by
  unfold wb_X2_exponentOf_0 at h
  refine wp_iconst (v := (0 : Int32)) dX2_exponentOf_0 (by decide) ?_
  refine wp_istore_n (ls' := [(3, .int (0 : Int32)), (0, rv (some a0)), (1, .double x1)]) dX2_exponentOf_1 (by decide) rfl ?_
  refine wp_dload_n 2 dX2_exponentOf_2 rfl ?_
  refine wp_dstore (ls' := [(4, .double x1), (3, .int (0 : Int32)), (0, rv (some a0)), (1, .double x1)]) dX2_exponentOf_3 (by decide) rfl ?_
  refine wp_dload_n 3 dX2_exponentOf_5 rfl ?_
  refine wp_dconst1 dX2_exponentOf_6 ?_
  refine wp_dcmp dX2_exponentOf_7 ?_
  refine wp_if_lt (tgt := 15) dX2_exponentOf_8 rfl (fun c => ?_) (fun c => ?_)
  · replace h := h.1 c
    refine wp_iconst (v := (0 : Int32)) dX2_exponentOf_15 (by decide) ?_
    refine wp_istore (ls' := [(6, .int (0 : Int32)), (4, .double x1), (3, .int (0 : Int32)), (0, rv (some a0)), (1, .double x1)]) dX2_exponentOf_16 (by decide) rfl ?_
    refine wp_bipush (v := (9 : Int32)) dX2_exponentOf_18 (by decide) ?_
    refine wp_istore (ls' := [(7, .int (9 : Int32)), (6, .int (0 : Int32)), (4, .double x1), (3, .int (0 : Int32)), (0, rv (some a0)), (1, .double x1)]) dX2_exponentOf_20 (by decide) rfl ?_
    refine wp_sub (ls' := [(0, rv (some a0)), (3, .int (0 : Int32)), (4, .double x1), (6, .int (0 : Int32)), (7, .int (9 : Int32))]) [4, 3, 2, 1, 0] rfl ?_
    exact h
  · replace h := h.2 c
    refine wp_iconst (v := (1 : Int32)) dX2_exponentOf_11 (by decide) ?_
    refine wp_goto (tgt := 16) dX2_exponentOf_12 rfl ?_
    refine wp_istore (ls' := [(6, .int (1 : Int32)), (4, .double x1), (3, .int (0 : Int32)), (0, rv (some a0)), (1, .double x1)]) dX2_exponentOf_16 (by decide) rfl ?_
    refine wp_bipush (v := (9 : Int32)) dX2_exponentOf_18 (by decide) ?_
    refine wp_istore (ls' := [(7, .int (9 : Int32)), (6, .int (1 : Int32)), (4, .double x1), (3, .int (0 : Int32)), (0, rv (some a0)), (1, .double x1)]) dX2_exponentOf_20 (by decide) rfl ?_
    refine wp_sub (ls' := [(0, rv (some a0)), (3, .int (0 : Int32)), (4, .double x1), (6, .int (1 : Int32)), (7, .int (9 : Int32))]) [4, 3, 2, 1, 0] rfl ?_
    exact h
def wb_X2_exponentOf_22 (d : Nat) (q : HP → Int32 → Prop) (a0 : Nat) (x3 : Int32) (x4 : UInt64) (x6 : Int32) (x7 : Int32) (H : HP) : Prop :=
  (x7 < 0 → q H x3) ∧ (¬ (x7 < 0) → (x6 = 0 → (¬ x6 = 0 → L_X2_exponentOf_22 d q a0 x3 x4 x6 (x7 + (-1)) H) ∧ (x6 = 0 → tg H a0 = 3 ∧ (∃ a2, (hC H 300 a0) = some a2 ∧ (isA H a2 5 ∧ (vp_in x7 (ln H a2) ∧ (∀ r5, alike64 r5 (FP.dmul x4 (hD H (tg H a2) a2 x7.toNatClampNeg)) = true → ((0 ≤ (Op.cmpValue (FP.dcmp r5 (4611686018427387904 : UInt64)) .g) → L_X2_exponentOf_22 d q a0 x3 x4 x6 (x7 + (-1)) H) ∧ (¬ (0 ≤ (Op.cmpValue (FP.dcmp r5 (4611686018427387904 : UInt64)) .g)) → vp_in x7 (ln H a2) ∧ (∀ r7, alike64 r7 (FP.dmul x4 (hD H (tg H a2) a2 x7.toNatClampNeg)) = true → (L_X2_exponentOf_22 d q a0 (x3 - ((1 : Int32) <<< (x7 &&& 31))) r7 x6 (x7 + (-1)) H)))))))))) ∧ (¬ (x6 = 0) → tg H a0 = 3 ∧ (∃ a9, (hC H 300 a0) = some a9 ∧ (isA H a9 5 ∧ (vp_in x7 (ln H a9) ∧ (((Op.cmpValue (FP.dcmp x4 (hD H (tg H a9) a9 x7.toNatClampNeg)) .l) < 0 → (¬ x6 = 0 → L_X2_exponentOf_22 d q a0 x3 x4 x6 (x7 + (-1)) H) ∧ (x6 = 0 → vp_in x7 (ln H a9) ∧ (∀ r13, alike64 r13 (FP.dmul x4 (hD H (tg H a9) a9 x7.toNatClampNeg)) = true → ((0 ≤ (Op.cmpValue (FP.dcmp r13 (4611686018427387904 : UInt64)) .g) → L_X2_exponentOf_22 d q a0 x3 x4 x6 (x7 + (-1)) H) ∧ (¬ (0 ≤ (Op.cmpValue (FP.dcmp r13 (4611686018427387904 : UInt64)) .g)) → vp_in x7 (ln H a9) ∧ (∀ r15, alike64 r15 (FP.dmul x4 (hD H (tg H a9) a9 x7.toNatClampNeg)) = true → (L_X2_exponentOf_22 d q a0 (x3 - ((1 : Int32) <<< (x7 &&& 31))) r15 x6 (x7 + (-1)) H))))))) ∧ (¬ ((Op.cmpValue (FP.dcmp x4 (hD H (tg H a9) a9 x7.toNatClampNeg)) .l) < 0) → vp_in x7 (ln H a9) ∧ (∀ r17, alike64 r17 (FP.ddiv x4 (hD H (tg H a9) a9 x7.toNatClampNeg)) = true → (L_X2_exponentOf_22 d q a0 (x3 + ((1 : Int32) <<< (x7 &&& 31))) r17 x6 (x7 + (-1)) H)))))))))
set_option maxRecDepth 40000 in
set_option maxHeartbeats 4000000 in
theorem T_X2_exponentOf_22 {d : Nat} {q : HP → Int32 → Prop} {a0 : Nat} {x3 : Int32} {x4 : UInt64} {x6 : Int32} {x7 : Int32} {H : HP} (h : wb_X2_exponentOf_22 d q a0 x3 x4 x6 x7 H) : L_X2_exponentOf_22 d q a0 x3 x4 x6 x7 H := by
  unfold wb_X2_exponentOf_22 at h
  unfold L_X2_exponentOf_22
  refine wp_iload 4 dX2_exponentOf_22 rfl ?_
  refine wp_if_lt (tgt := 114) dX2_exponentOf_24 rfl (fun c => ?_) (fun c => ?_)
  · replace h := h.1 c
    refine wp_iload_n 1 dX2_exponentOf_114 rfl ?_
    exact wp_ireturn (ty := .int) dX2_exponentOf_115 rfl rfl ⟨_, rfl, h⟩
  · replace h := h.2 c
    refine wp_iload 3 dX2_exponentOf_27 rfl ?_
    refine wp_if_eq (tgt := 67) dX2_exponentOf_29 rfl (fun c => ?_) (fun c => ?_)
    · replace h := h.1 c
      refine wp_iload 3 dX2_exponentOf_67 rfl ?_
      refine wp_if_ne (tgt := 108) dX2_exponentOf_69 rfl (fun c => ?_) (fun c => ?_)
      · replace h := h.1 c
        refine wp_iinc (v := (x7 + (-1))) (ls' := [(7, .int (x7 + (-1))), (0, rv (some a0)), (3, .int x3), (4, .double x4), (6, .int x6)]) 4 dX2_exponentOf_108 rfl rfl (by decide) rfl ?_
        refine wp_goto (tgt := 22) dX2_exponentOf_111 rfl ?_
        refine wp_sub (ls' := [(0, rv (some a0)), (3, .int x3), (4, .double x4), (6, .int x6), (7, .int (x7 + (-1)))]) [1, 2, 3, 4, 0] rfl ?_
        exact h
      · replace h := h.2 c
        refine wp_dload 2 dX2_exponentOf_72 rfl ?_
        refine wp_aload_n 0 dX2_exponentOf_74 rfl ?_
        obtain ⟨ht1, h⟩ := h
        refine wp_getC (ci := 2) (j := 0) dX2_exponentOf_75 fi_X2_9r rfl rfl ht1 ?_
        change WP _ _ _ _ _ _ (rv (hC H 300 a0) :: _) _ _
        refine wp_iload 4 dX2_exponentOf_78 rfl ?_
        obtain ⟨a2, ha2, h⟩ := h
        obtain ⟨hr3, h⟩ := h
        obtain ⟨hg4, h⟩ := h
        refine wp_daload dX2_exponentOf_80 ha2 hr3 hg4 ?_
        refine wp_dmul dX2_exponentOf_81 (fun r5 hr5 => ?_)
        replace h := h r5 hr5
        refine wp_ldc2d dX2_exponentOf_82 w_2_89 ?_
        refine wp_dcmp dX2_exponentOf_85 ?_
        refine wp_if_ge (tgt := 108) dX2_exponentOf_86 rfl (fun c => ?_) (fun c => ?_)
        · replace h := h.1 c
          refine wp_iinc (v := (x7 + (-1))) (ls' := [(7, .int (x7 + (-1))), (0, rv (some a0)), (3, .int x3), (4, .double x4), (6, .int x6)]) 4 dX2_exponentOf_108 rfl rfl (by decide) rfl ?_
          refine wp_goto (tgt := 22) dX2_exponentOf_111 rfl ?_
          refine wp_sub (ls' := [(0, rv (some a0)), (3, .int x3), (4, .double x4), (6, .int x6), (7, .int (x7 + (-1)))]) [1, 2, 3, 4, 0] rfl ?_
          exact h
        · replace h := h.2 c
          refine wp_dload 2 dX2_exponentOf_89 rfl ?_
          refine wp_aload_n 0 dX2_exponentOf_91 rfl ?_
          refine wp_getC (ci := 2) (j := 0) dX2_exponentOf_92 fi_X2_9r rfl rfl ht1 ?_
          change WP _ _ _ _ _ _ (rv (hC H 300 a0) :: _) _ _
          refine wp_iload 4 dX2_exponentOf_95 rfl ?_
          obtain ⟨hg6, h⟩ := h
          refine wp_daload dX2_exponentOf_97 ha2 hr3 hg6 ?_
          refine wp_dmul dX2_exponentOf_98 (fun r7 hr7 => ?_)
          replace h := h r7 hr7
          refine wp_dstore (ls' := [(4, .double r7), (0, rv (some a0)), (3, .int x3), (6, .int x6), (7, .int x7)]) dX2_exponentOf_99 (by decide) rfl ?_
          refine wp_iload_n 2 dX2_exponentOf_101 rfl ?_
          refine wp_iconst (v := (1 : Int32)) dX2_exponentOf_102 (by decide) ?_
          refine wp_iload 4 dX2_exponentOf_103 rfl ?_
          refine wp_ishl dX2_exponentOf_105 ?_
          refine wp_isub dX2_exponentOf_106 ?_
          refine wp_istore_n (ls' := [(3, .int (x3 - ((1 : Int32) <<< (x7 &&& 31)))), (4, .double r7), (0, rv (some a0)), (6, .int x6), (7, .int x7)]) dX2_exponentOf_107 (by decide) rfl ?_
          refine wp_iinc (v := (x7 + (-1))) (ls' := [(7, .int (x7 + (-1))), (3, .int (x3 - ((1 : Int32) <<< (x7 &&& 31)))), (4, .double r7), (0, rv (some a0)), (6, .int x6)]) 4 dX2_exponentOf_108 rfl rfl (by decide) rfl ?_
          refine wp_goto (tgt := 22) dX2_exponentOf_111 rfl ?_
          refine wp_sub (ls' := [(0, rv (some a0)), (3, .int (x3 - ((1 : Int32) <<< (x7 &&& 31)))), (4, .double r7), (6, .int x6), (7, .int (x7 + (-1)))]) [3, 1, 2, 4, 0] rfl ?_
          exact h
    · replace h := h.2 c
      refine wp_dload 2 dX2_exponentOf_32 rfl ?_
      refine wp_aload_n 0 dX2_exponentOf_34 rfl ?_
      obtain ⟨ht8, h⟩ := h
      refine wp_getC (ci := 2) (j := 0) dX2_exponentOf_35 fi_X2_9r rfl rfl ht8 ?_
      change WP _ _ _ _ _ _ (rv (hC H 300 a0) :: _) _ _
      refine wp_iload 4 dX2_exponentOf_38 rfl ?_
      obtain ⟨a9, ha9, h⟩ := h
      obtain ⟨hr10, h⟩ := h
      obtain ⟨hg11, h⟩ := h
      refine wp_daload dX2_exponentOf_40 ha9 hr10 hg11 ?_
      refine wp_dcmp dX2_exponentOf_41 ?_
      refine wp_if_lt (tgt := 67) dX2_exponentOf_42 rfl (fun c => ?_) (fun c => ?_)
      · replace h := h.1 c
        refine wp_iload 3 dX2_exponentOf_67 rfl ?_
        refine wp_if_ne (tgt := 108) dX2_exponentOf_69 rfl (fun c => ?_) (fun c => ?_)
        · replace h := h.1 c
          refine wp_iinc (v := (x7 + (-1))) (ls' := [(7, .int (x7 + (-1))), (0, rv (some a0)), (3, .int x3), (4, .double x4), (6, .int x6)]) 4 dX2_exponentOf_108 rfl rfl (by decide) rfl ?_
          refine wp_goto (tgt := 22) dX2_exponentOf_111 rfl ?_
          refine wp_sub (ls' := [(0, rv (some a0)), (3, .int x3), (4, .double x4), (6, .int x6), (7, .int (x7 + (-1)))]) [1, 2, 3, 4, 0] rfl ?_
          exact h
        · replace h := h.2 c
          refine wp_dload 2 dX2_exponentOf_72 rfl ?_
          refine wp_aload_n 0 dX2_exponentOf_74 rfl ?_
          refine wp_getC (ci := 2) (j := 0) dX2_exponentOf_75 fi_X2_9r rfl rfl ht8 ?_
          change WP _ _ _ _ _ _ (rv (hC H 300 a0) :: _) _ _
          refine wp_iload 4 dX2_exponentOf_78 rfl ?_
          obtain ⟨hg12, h⟩ := h
          refine wp_daload dX2_exponentOf_80 ha9 hr10 hg12 ?_
          refine wp_dmul dX2_exponentOf_81 (fun r13 hr13 => ?_)
          replace h := h r13 hr13
          refine wp_ldc2d dX2_exponentOf_82 w_2_89 ?_
          refine wp_dcmp dX2_exponentOf_85 ?_
          refine wp_if_ge (tgt := 108) dX2_exponentOf_86 rfl (fun c => ?_) (fun c => ?_)
          · replace h := h.1 c
            refine wp_iinc (v := (x7 + (-1))) (ls' := [(7, .int (x7 + (-1))), (0, rv (some a0)), (3, .int x3), (4, .double x4), (6, .int x6)]) 4 dX2_exponentOf_108 rfl rfl (by decide) rfl ?_
            refine wp_goto (tgt := 22) dX2_exponentOf_111 rfl ?_
            refine wp_sub (ls' := [(0, rv (some a0)), (3, .int x3), (4, .double x4), (6, .int x6), (7, .int (x7 + (-1)))]) [1, 2, 3, 4, 0] rfl ?_
            exact h
          · replace h := h.2 c
            refine wp_dload 2 dX2_exponentOf_89 rfl ?_
            refine wp_aload_n 0 dX2_exponentOf_91 rfl ?_
            refine wp_getC (ci := 2) (j := 0) dX2_exponentOf_92 fi_X2_9r rfl rfl ht8 ?_
            change WP _ _ _ _ _ _ (rv (hC H 300 a0) :: _) _ _
            refine wp_iload 4 dX2_exponentOf_95 rfl ?_
            obtain ⟨hg14, h⟩ := h
            refine wp_daload dX2_exponentOf_97 ha9 hr10 hg14 ?_
            refine wp_dmul dX2_exponentOf_98 (fun r15 hr15 => ?_)
            replace h := h r15 hr15
            refine wp_dstore (ls' := [(4, .double r15), (0, rv (some a0)), (3, .int x3), (6, .int x6), (7, .int x7)]) dX2_exponentOf_99 (by decide) rfl ?_
            refine wp_iload_n 2 dX2_exponentOf_101 rfl ?_
            refine wp_iconst (v := (1 : Int32)) dX2_exponentOf_102 (by decide) ?_
            refine wp_iload 4 dX2_exponentOf_103 rfl ?_
            refine wp_ishl dX2_exponentOf_105 ?_
            refine wp_isub dX2_exponentOf_106 ?_
            refine wp_istore_n (ls' := [(3, .int (x3 - ((1 : Int32) <<< (x7 &&& 31)))), (4, .double r15), (0, rv (some a0)), (6, .int x6), (7, .int x7)]) dX2_exponentOf_107 (by decide) rfl ?_
            refine wp_iinc (v := (x7 + (-1))) (ls' := [(7, .int (x7 + (-1))), (3, .int (x3 - ((1 : Int32) <<< (x7 &&& 31)))), (4, .double r15), (0, rv (some a0)), (6, .int x6)]) 4 dX2_exponentOf_108 rfl rfl (by decide) rfl ?_
            refine wp_goto (tgt := 22) dX2_exponentOf_111 rfl ?_
            refine wp_sub (ls' := [(0, rv (some a0)), (3, .int (x3 - ((1 : Int32) <<< (x7 &&& 31)))), (4, .double r15), (6, .int x6), (7, .int (x7 + (-1)))]) [3, 1, 2, 4, 0] rfl ?_
            exact h
      · replace h := h.2 c
        refine wp_dload 2 dX2_exponentOf_45 rfl ?_
        refine wp_aload_n 0 dX2_exponentOf_47 rfl ?_
        refine wp_getC (ci := 2) (j := 0) dX2_exponentOf_48 fi_X2_9r rfl rfl ht8 ?_
        change WP _ _ _ _ _ _ (rv (hC H 300 a0) :: _) _ _
        refine wp_iload 4 dX2_exponentOf_51 rfl ?_
        obtain ⟨hg16, h⟩ := h
        refine wp_daload dX2_exponentOf_53 ha9 hr10 hg16 ?_
        refine wp_ddiv dX2_exponentOf_54 (fun r17 hr17 => ?_)
        replace h := h r17 hr17
        refine wp_dstore (ls' := [(4, .double r17), (0, rv (some a0)), (3, .int x3), (6, .int x6), (7, .int x7)]) dX2_exponentOf_55 (by decide) rfl ?_
        refine wp_iload_n 2 dX2_exponentOf_57 rfl ?_
        refine wp_iconst (v := (1 : Int32)) dX2_exponentOf_58 (by decide) ?_
        refine wp_iload 4 dX2_exponentOf_59 rfl ?_
        refine wp_ishl dX2_exponentOf_61 ?_
        refine wp_iadd dX2_exponentOf_62 ?_
        refine wp_istore_n (ls' := [(3, .int (x3 + ((1 : Int32) <<< (x7 &&& 31)))), (4, .double r17), (0, rv (some a0)), (6, .int x6), (7, .int x7)]) dX2_exponentOf_63 (by decide) rfl ?_
        refine wp_goto (tgt := 108) dX2_exponentOf_64 rfl ?_
        refine wp_iinc (v := (x7 + (-1))) (ls' := [(7, .int (x7 + (-1))), (3, .int (x3 + ((1 : Int32) <<< (x7 &&& 31)))), (4, .double r17), (0, rv (some a0)), (6, .int x6)]) 4 dX2_exponentOf_108 rfl rfl (by decide) rfl ?_
        refine wp_goto (tgt := 22) dX2_exponentOf_111 rfl ?_
        refine wp_sub (ls' := [(0, rv (some a0)), (3, .int (x3 + ((1 : Int32) <<< (x7 &&& 31)))), (4, .double r17), (6, .int x6), (7, .int (x7 + (-1)))]) [3, 1, 2, 4, 0] rfl ?_
        exact h
theorem C_X2_exponentOf {d : Nat} {q : HP → Int32 → Prop} {a0 : Nat} {x1 : UInt64} {H : HP} (h : wb_X2_exponentOf_0 d q a0 x1 H) : CI (d + 1) 0 0 mX2_exponentOf [rv (some a0), .double x1] H q := by
  refine call_of (by decide +kernel) (by simp [lg_sl, rv_cat, vc_int, vc_long, vc_float, vc_double]) ?_
  have e : lv_args 0 [rv (some a0), .double x1] = [(0, rv (some a0)), (1, .double x1)] := by simp [lv_args, rv_cat, vc_int, vc_long, vc_float, vc_double]
  rw [e]
  exact T_X2_exponentOf_0 h
def wb_X2_fromBits_0 (d : Nat) (q : HP → UInt64 → Prop) (a0 : Nat) (x1 : Int64) (x3 : Int32) (x4 : Int32) (H : HP) : Prop :=
  CJ d 0 0 mX2_topExponent [.int x4] H (fun H1 r2 => ∀ r3, alike64 r3 (FP.ddiv (FP.l2d (x1 &&& (((1 : Int64) <<< (x3.toInt64 &&& 63)) - (1 : Int64)))) (FP.l2d ((1 : Int64) <<< (x3.toInt64 &&& 63)))) = true → (CJ d 0 0 mX2_topExponent [.int x4] H1 (fun H4 r5 => (¬ ((x1 >>> (x3.toInt64 &&& 63)) &&& r2) = r5 → (¬ ((x1 >>> (x3.toInt64 &&& 63)) &&& r2) = (0 : Int64) → ∀ r6, alike64 r6 (FP.dadd FP.dconst1 r3) = true → (tg H4 a0 = 3 ∧ (CD d 0 0 mX2_scaled [rv (some a0), .double r6, .int ((((x1 >>> (x3.toInt64 &&& 63)) &&& r2).toInt32) - x4)] H4 (fun H7 r9 => q H7 r9)))) ∧ (((x1 >>> (x3.toInt64 &&& 63)) &&& r2) = (0 : Int64) → tg H4 a0 = 3 ∧ (CD d 0 0 mX2_scaled [rv (some a0), .double r3, .int ((1 : Int32) - x4)] H4 (fun H10 r12 => q H10 r12)))) ∧ (((x1 >>> (x3.toInt64 &&& 63)) &&& r2) = r5 → tg H4 a0 = 3 ∧ (q H4 (hD H4 301 a0 0))))))
set_option maxRecDepth 40000 in
set_option maxHeartbeats 4000000 in
theorem T_X2_fromBits_0 {d : Nat} {q : HP → UInt64 → Prop} {a0 : Nat} {x1 : Int64} {x3 : Int32} {x4 : Int32} {H : HP} (h : wb_X2_fromBits_0 d q a0 x1 x3 x4 H) : WP (d + 1) mX2_fromBits 0 0 0 [(0, rv (some a0)), (1, .long x1), (3, .int x3), (4, .int x4)] [] H (qD q) := by
  unfold wb_X2_fromBits_0 at h
  refine wp_lload_n 1 dX2_fromBits_0 rfl ?_
  refine wp_iload_n 2 dX2_fromBits_1 rfl ?_
  refine wp_lshr dX2_fromBits_2 ?_
  refine wp_iload 3 dX2_fromBits_3 rfl ?_
  refine wp_callS (As := [.int x4]) (rest := [.long (x1 >>> (x3.toInt64 &&& 63))]) (mc := 0) (ms := 0) dX2_fromBits_5 lk_X2_41 rfl rfl (by simp [rv_cat, vc_int, vc_long, vc_float, vc_double]) rfl rfl rfl (Call.weaken h ?_)
  rintro H1 _ ⟨r2, rfl, h⟩
  change WP _ _ _ _ _ _ [.long r2, .long (x1 >>> (x3.toInt64 &&& 63))] H1 _
  refine wp_land dX2_fromBits_8 ?_
  refine wp_lstore (ls' := [(5, .long ((x1 >>> (x3.toInt64 &&& 63)) &&& r2)), (0, rv (some a0)), (1, .long x1), (3, .int x3), (4, .int x4)]) dX2_fromBits_9 (by decide) rfl ?_
  refine wp_lload_n 2 dX2_fromBits_11 rfl ?_
  refine wp_lconst (v := (1 : Int64)) dX2_fromBits_12 (by decide) ?_
  refine wp_iload_n 3 dX2_fromBits_13 rfl ?_
  refine wp_lshl dX2_fromBits_14 ?_
  refine wp_lconst (v := (1 : Int64)) dX2_fromBits_15 (by decide) ?_
  refine wp_lsub dX2_fromBits_16 ?_
  refine wp_land dX2_fromBits_17 ?_
  refine wp_l2d dX2_fromBits_18 ?_
  refine wp_lconst (v := (1 : Int64)) dX2_fromBits_19 (by decide) ?_
  refine wp_iload_n 3 dX2_fromBits_20 rfl ?_
  refine wp_lshl dX2_fromBits_21 ?_
  refine wp_l2d dX2_fromBits_22 ?_
  refine wp_ddiv dX2_fromBits_23 (fun r3 hr3 => ?_)
  replace h := h r3 hr3
  refine wp_dstore (ls' := [(7, .double r3), (5, .long ((x1 >>> (x3.toInt64 &&& 63)) &&& r2)), (0, rv (some a0)), (1, .long x1), (3, .int x3), (4, .int x4)]) dX2_fromBits_24 (by decide) rfl ?_
  refine wp_lload 1 dX2_fromBits_26 rfl ?_
  refine wp_iload 5 dX2_fromBits_28 rfl ?_
  refine wp_callS (As := [.int x4]) (rest := [.long ((x1 >>> (x3.toInt64 &&& 63)) &&& r2)]) (mc := 0) (ms := 0) dX2_fromBits_30 lk_X2_41 rfl rfl (by simp [rv_cat, vc_int, vc_long, vc_float, vc_double]) rfl rfl rfl (Call.weaken h ?_)
  rintro H4 _ ⟨r5, rfl, h⟩
  change WP _ _ _ _ _ _ [.long r5, .long ((x1 >>> (x3.toInt64 &&& 63)) &&& r2)] H4 _
  refine wp_lcmp dX2_fromBits_33 ?_
  refine wp_if_ne (tgt := 42) dX2_fromBits_34 rfl (fun c => ?_) (fun c => ?_)
  · replace h := h.1 (fun z => c (lgc_eq.mpr z))
    refine wp_lload 1 dX2_fromBits_42 rfl ?_
    refine wp_lconst (v := (0 : Int64)) dX2_fromBits_44 (by decide) ?_
    refine wp_lcmp dX2_fromBits_45 ?_
    refine wp_if_ne (tgt := 62) dX2_fromBits_46 rfl (fun c => ?_) (fun c => ?_)
    · replace h := h.1 (fun z => c (lgc_eq.mpr z))
      refine wp_aload_n 2 dX2_fromBits_62 rfl ?_
      refine wp_dconst1 dX2_fromBits_63 ?_
      refine wp_dload 0 dX2_fromBits_64 rfl ?_
      refine wp_dadd dX2_fromBits_66 (fun r6 hr6 => ?_)
      replace h := h r6 hr6
      refine wp_lload 1 dX2_fromBits_67 rfl ?_
      refine wp_l2i dX2_fromBits_69 ?_
      refine wp_iload 5 dX2_fromBits_70 rfl ?_
      refine wp_isub dX2_fromBits_72 ?_
      obtain ⟨ht8, h⟩ := h
      refine wp_callV (ci := 2) (As := [.double r6, .int ((((x1 >>> (x3.toInt64 &&& 63)) &&& r2).toInt32) - x4)]) (rest := []) (mc := 0) (ms := 0) dX2_fromBits_73 lk_X2_45 rfl rfl (by decide) rfl rfl rfl ht8 rfl rfl rfl w_4_207 (Call.weaken h ?_)
      rintro H7 _ ⟨r9, rfl, h⟩
      change WP _ _ _ _ _ _ [.double r9] H7 _
      exact wp_dreturn dX2_fromBits_76 rfl ⟨_, rfl, h⟩
    · replace h := h.2 (lgc_eq.mp c)
      refine wp_aload_n 2 dX2_fromBits_49 rfl ?_
      refine wp_dload 0 dX2_fromBits_50 rfl ?_
      refine wp_iconst (v := (1 : Int32)) dX2_fromBits_52 (by decide) ?_
      refine wp_iload 5 dX2_fromBits_53 rfl ?_
      refine wp_isub dX2_fromBits_55 ?_
      obtain ⟨ht11, h⟩ := h
      refine wp_callV (ci := 2) (As := [.double r3, .int ((1 : Int32) - x4)]) (rest := []) (mc := 0) (ms := 0) dX2_fromBits_56 lk_X2_45 rfl rfl (by decide) rfl rfl rfl ht11 rfl rfl rfl w_4_207 (Call.weaken h ?_)
      rintro H10 _ ⟨r12, rfl, h⟩
      change WP _ _ _ _ _ _ [.double r12] H10 _
      refine wp_goto (tgt := 76) dX2_fromBits_59 rfl ?_
      exact wp_dreturn dX2_fromBits_76 rfl ⟨_, rfl, h⟩
  · replace h := h.2 (lgc_eq.mp c)
    refine wp_aload_n 2 dX2_fromBits_37 rfl ?_
    obtain ⟨ht13, h⟩ := h
    refine wp_getD (ci := 2) (j := 1) dX2_fromBits_38 fi_X2_15r rfl rfl ht13 ?_
    change WP _ _ _ _ _ _ (.double (hD H4 301 a0 0) :: _) _ _
    exact wp_dreturn dX2_fromBits_41 rfl ⟨_, rfl, h⟩
theorem C_X2_fromBits {d : Nat} {q : HP → UInt64 → Prop} {a0 : Nat} {x1 : Int64} {x3 : Int32} {x4 : Int32} {H : HP} (h : wb_X2_fromBits_0 d q a0 x1 x3 x4 H) : CD (d + 1) 0 0 mX2_fromBits [rv (some a0), .long x1, .int x3, .int x4] H q := by
  refine call_of (by decide +kernel) (by simp [lg_sl, rv_cat, vc_int, vc_long, vc_float, vc_double]) ?_
  have e : lv_args 0 [rv (some a0), .long x1, .int x3, .int x4] = [(0, rv (some a0)), (1, .long x1), (3, .int x3), (4, .int x4)] := by simp [lv_args, rv_cat, vc_int, vc_long, vc_float, vc_double]
  rw [e]
  exact T_X2_fromBits_0 h
/-- UnitProver$FloatBits.<init>()V: the loop at 18 -/
def L_X2_init_18 (d : Nat) (ca sa : Nat) (q : HP → Prop) (a0 : Nat) (x1 : UInt64) (x3 : Int32) (H : HP) : Prop := WP (d + 1) mX2_init ca sa 18 [(0, rv (some a0)), (1, .double x1), (3, .int x3)] [] H (qV q)
def wb_X2_init_0 (d : Nat) (ca sa : Nat) (q : HP → Prop) (a0 : Nat) (H : HP) : Prop :=
  hN H < scrA ∧ (1 ≤ ca ∧ (10 ≤ sa ∧ (tg (nw H 4101 10) a0 = 3 ∧ (L_X2_init_18 d (ca - 1) (sa - 10) q a0 (4611686018427387904 : UInt64) (0 : Int32) (sC (nw H 4101 10) 300 a0 (some (hN H)))))))
set_option maxRecDepth 40000 in
set_option maxHeartbeats 4000000 in
theorem T_X2_init_0 {d : Nat} {ca sa : Nat} {q : HP → Prop} {a0 : Nat} {H : HP} (h : wb_X2_init_0 d ca sa q a0 H) : WP (d + 1) mX2_init ca sa 0 [(0, rv (some a0))] [] H (qV q) := by
  unfold wb_X2_init_0 at h
  refine wp_aload_n 0 dX2_init_0 rfl ?_
  refine wp_objInit dX2_init_1 w_2_88 w_1_29 w_1_30 rfl (by decide) (by omega) ?_
  refine wp_aload_n 0 dX2_init_4 rfl ?_
  refine wp_bipush (v := (10 : Int32)) dX2_init_5 (by decide) ?_
  obtain ⟨hg1, h⟩ := h
  obtain ⟨hg2, h⟩ := h
  obtain ⟨hg3, h⟩ := h
  refine wp_newarray (t := 4101) (N := 10) (ca' := ca - 1) (sa' := sa - 10) dX2_init_7 w_2_97 (by decide) rfl (by decide) (by decide) (by decide +kernel) hg1 (by omega) (by omega) ?_
  obtain ⟨ht4, h⟩ := h
  refine wp_putC (ci := 2) (j := 0) dX2_init_9 fi_X2_9 rfl (fun _ => rfl) rfl ht4 (Or.inr ⟨_, rfl⟩) ?_
  change WP _ _ _ _ _ _ _ (sC (nw H 4101 10) 300 a0 (some (hN H))) _
  refine wp_ldc2d dX2_init_12 w_2_89 ?_
  refine wp_dstore_n (ls' := [(1, .double (4611686018427387904 : UInt64)), (0, rv (some a0))]) dX2_init_15 (by decide) rfl ?_
  refine wp_iconst (v := (0 : Int32)) dX2_init_16 (by decide) ?_
  refine wp_istore_n (ls' := [(3, .int (0 : Int32)), (1, .double (4611686018427387904 : UInt64)), (0, rv (some a0))]) dX2_init_17 (by decide) rfl ?_
  refine wp_sub (ls' := [(0, rv (some a0)), (1, .double (4611686018427387904 : UInt64)), (3, .int (0 : Int32))]) [2, 1, 0] rfl ?_
  exact h
def wb_X2_init_18 (d : Nat) (ca sa : Nat) (q : HP → Prop) (a0 : Nat) (x1 : UInt64) (x3 : Int32) (H : HP) : Prop :=
  ((10 : Int32) ≤ x3 → tg H a0 = 3 ∧ (q (sD H 301 a0 0 x1))) ∧ (¬ ((10 : Int32) ≤ x3) → tg H a0 = 3 ∧ (∃ a3, (hC H 300 a0) = some a3 ∧ (isA H a3 5 ∧ (vp_in x3 (ln H a3) ∧ (∀ r6, alike64 r6 (FP.dmul x1 x1) = true → (L_X2_init_18 d ca sa q a0 r6 (x3 + 1) (sD H (tg H a3) a3 x3.toNatClampNeg x1)))))))
set_option maxRecDepth 40000 in
set_option maxHeartbeats 4000000 in
theorem T_X2_init_18 {d : Nat} {ca sa : Nat} {q : HP → Prop} {a0 : Nat} {x1 : UInt64} {x3 : Int32} {H : HP} (h : wb_X2_init_18 d ca sa q a0 x1 x3 H) : L_X2_init_18 d ca sa q a0 x1 x3 H := by
  unfold wb_X2_init_18 at h
  unfold L_X2_init_18
  refine wp_iload_n 2 dX2_init_18 rfl ?_
  refine wp_bipush (v := (10 : Int32)) dX2_init_19 (by decide) ?_
  refine wp_icmp_ge (tgt := 41) dX2_init_21 rfl (fun c => ?_) (fun c => ?_)
  · replace h := h.1 c
    refine wp_aload_n 0 dX2_init_41 rfl ?_
    refine wp_dload_n 1 dX2_init_42 rfl ?_
    obtain ⟨ht1, h⟩ := h
    refine wp_putD (ci := 2) (j := 1) dX2_init_43 fi_X2_15 rfl (fun _ => rfl) rfl ht1 rfl rfl ?_
    change WP _ _ _ _ _ _ _ (sD H 301 a0 0 x1) _
    exact wp_return dX2_init_46 rfl ⟨rfl, h⟩
  · replace h := h.2 c
    refine wp_aload_n 0 dX2_init_24 rfl ?_
    obtain ⟨ht2, h⟩ := h
    refine wp_getC (ci := 2) (j := 0) dX2_init_25 fi_X2_9r rfl rfl ht2 ?_
    change WP _ _ _ _ _ _ (rv (hC H 300 a0) :: _) _ _
    refine wp_iload_n 2 dX2_init_28 rfl ?_
    refine wp_dload_n 1 dX2_init_29 rfl ?_
    obtain ⟨a3, ha3, h⟩ := h
    obtain ⟨hr4, h⟩ := h
    obtain ⟨hg5, h⟩ := h
    refine wp_dastore dX2_init_30 ha3 hr4 hg5 ?_
    change WP _ _ _ _ _ _ _ (sD H (tg H a3) a3 x3.toNatClampNeg x1) _
    refine wp_dload_n 1 dX2_init_31 rfl ?_
    refine wp_dload_n 1 dX2_init_32 rfl ?_
    refine wp_dmul dX2_init_33 (fun r6 hr6 => ?_)
    replace h := h r6 hr6
    refine wp_dstore_n (ls' := [(1, .double r6), (0, rv (some a0)), (3, .int x3)]) dX2_init_34 (by decide) rfl ?_
    refine wp_iinc (v := (x3 + 1)) (ls' := [(3, .int (x3 + 1)), (1, .double r6), (0, rv (some a0))]) 2 dX2_init_35 rfl rfl (by decide) rfl ?_
    refine wp_goto (tgt := 18) dX2_init_38 rfl ?_
    refine wp_sub (ls' := [(0, rv (some a0)), (1, .double r6), (3, .int (x3 + 1))]) [2, 1, 0] rfl ?_
    exact h
theorem C_X2_init {d : Nat} {ca sa : Nat} {q : HP → Prop} {a0 : Nat} {H : HP} (h : wb_X2_init_0 d ca sa q a0 H) : CV (d + 1) ca sa mX2_init [rv (some a0)] H q := by
  refine call_of (by decide +kernel) (by simp [lg_sl, rv_cat, vc_int, vc_long, vc_float, vc_double]) ?_
  have e : lv_args 0 [rv (some a0)] = [(0, rv (some a0))] := by simp [lv_args, rv_cat, vc_int, vc_long, vc_float, vc_double]
  rw [e]
  exact T_X2_init_0 h
def wb_X2_isEndless_0 (d : Nat) (q : HP → Bool → Prop) (a0 : Nat) (x1 : UInt64) (H : HP) : Prop :=
  tg H a0 = 3 ∧ (((Op.cmpValue (FP.dcmp x1 (hD H 301 a0 0)) .l) = 0 → q H true) ∧ (¬ ((Op.cmpValue (FP.dcmp x1 (hD H 301 a0 0)) .l) = 0) → (¬ (Op.cmpValue (FP.dcmp x1 (FP.dneg (hD H 301 a0 0))) .l) = 0 → q H false) ∧ ((Op.cmpValue (FP.dcmp x1 (FP.dneg (hD H 301 a0 0))) .l) = 0 → q H true)))
set_option maxRecDepth 40000 in
set_option maxHeartbeats 4000000 in
theorem T_X2_isEndless_0 {d : Nat} {q : HP → Bool → Prop} {a0 : Nat} {x1 : UInt64} {H : HP} (h : wb_X2_isEndless_0 d q a0 x1 H) : WP (d + 1) mX2_isEndless 0 0 0 [(0, rv (some a0)), (1, .double x1)] [] H (qZ q) := by
  unfold wb_X2_isEndless_0 at h
  refine wp_dload_n 1 dX2_isEndless_0 rfl ?_
  refine wp_aload_n 0 dX2_isEndless_1 rfl ?_
  obtain ⟨ht1, h⟩ := h
  refine wp_getD (ci := 2) (j := 1) dX2_isEndless_2 fi_X2_15r rfl rfl ht1 ?_
  change WP _ _ _ _ _ _ (.double (hD H 301 a0 0) :: _) _ _
  refine wp_dcmp dX2_isEndless_5 ?_
  refine wp_if_eq (tgt := 19) dX2_isEndless_6 rfl (fun c => ?_) (fun c => ?_)
  · replace h := h.1 c
    refine wp_iconst (v := (1 : Int32)) dX2_isEndless_19 (by decide) ?_
    refine wp_goto (tgt := 24) dX2_isEndless_20 rfl ?_
    exact wp_ireturn (ty := .boolean) dX2_isEndless_24 rfl rfl ⟨true, rfl, h⟩
  · replace h := h.2 c
    refine wp_dload_n 1 dX2_isEndless_9 rfl ?_
    refine wp_aload_n 0 dX2_isEndless_10 rfl ?_
    refine wp_getD (ci := 2) (j := 1) dX2_isEndless_11 fi_X2_15r rfl rfl ht1 ?_
    change WP _ _ _ _ _ _ (.double (hD H 301 a0 0) :: _) _ _
    refine wp_dneg dX2_isEndless_14 ?_
    refine wp_dcmp dX2_isEndless_15 ?_
    refine wp_if_ne (tgt := 23) dX2_isEndless_16 rfl (fun c => ?_) (fun c => ?_)
    · replace h := h.1 c
      refine wp_iconst (v := (0 : Int32)) dX2_isEndless_23 (by decide) ?_
      exact wp_ireturn (ty := .boolean) dX2_isEndless_24 rfl rfl ⟨false, rfl, h⟩
    · replace h := h.2 c
      refine wp_iconst (v := (1 : Int32)) dX2_isEndless_19 (by decide) ?_
      refine wp_goto (tgt := 24) dX2_isEndless_20 rfl ?_
      exact wp_ireturn (ty := .boolean) dX2_isEndless_24 rfl rfl ⟨true, rfl, h⟩
theorem C_X2_isEndless {d : Nat} {q : HP → Bool → Prop} {a0 : Nat} {x1 : UInt64} {H : HP} (h : wb_X2_isEndless_0 d q a0 x1 H) : CZ (d + 1) 0 0 mX2_isEndless [rv (some a0), .double x1] H q := by
  refine call_of (by decide +kernel) (by simp [lg_sl, rv_cat, vc_int, vc_long, vc_float, vc_double]) ?_
  have e : lv_args 0 [rv (some a0), .double x1] = [(0, rv (some a0)), (1, .double x1)] := by simp [lv_args, rv_cat, vc_int, vc_long, vc_float, vc_double]
  rw [e]
  exact T_X2_isEndless_0 h
def wb_X2_isNegative_0 (d : Nat) (q : HP → Bool → Prop) (x0 : UInt64) (H : HP) : Prop :=
  ((Op.cmpValue (FP.dcmp x0 FP.dconst0) .g) < 0 → q H true) ∧ (¬ ((Op.cmpValue (FP.dcmp x0 FP.dconst0) .g) < 0) → (¬ (Op.cmpValue (FP.dcmp x0 FP.dconst0) .l) = 0 → q H false) ∧ ((Op.cmpValue (FP.dcmp x0 FP.dconst0) .l) = 0 → ∀ r1, alike64 r1 (FP.ddiv FP.dconst1 x0) = true → ((0 ≤ (Op.cmpValue (FP.dcmp r1 FP.dconst0) .g) → q H false) ∧ (¬ (0 ≤ (Op.cmpValue (FP.dcmp r1 FP.dconst0) .g)) → q H true))))
set_option maxRecDepth 40000 in
set_option maxHeartbeats 4000000 in
theorem T_X2_isNegative_0 {d : Nat} {q : HP → Bool → Prop} {x0 : UInt64} {H : HP} (h : wb_X2_isNegative_0 d q x0 H) : WP (d + 1) mX2_isNegative 0 0 0 [(0, .double x0)] [] H (qZ q) := by
  unfold wb_X2_isNegative_0 at h
  refine wp_dload_n 0 dX2_isNegative_0 rfl ?_
  refine wp_dconst0 dX2_isNegative_1 ?_
  refine wp_dcmp dX2_isNegative_2 ?_
  refine wp_if_lt (tgt := 20) dX2_isNegative_3 rfl (fun c => ?_) (fun c => ?_)
  · replace h := h.1 c
    refine wp_iconst (v := (1 : Int32)) dX2_isNegative_20 (by decide) ?_
    refine wp_goto (tgt := 25) dX2_isNegative_21 rfl ?_
    exact wp_ireturn (ty := .boolean) dX2_isNegative_25 rfl rfl ⟨true, rfl, h⟩
  · replace h := h.2 c
    refine wp_dload_n 0 dX2_isNegative_6 rfl ?_
    refine wp_dconst0 dX2_isNegative_7 ?_
    refine wp_dcmp dX2_isNegative_8 ?_
    refine wp_if_ne (tgt := 24) dX2_isNegative_9 rfl (fun c => ?_) (fun c => ?_)
    · replace h := h.1 c
      refine wp_iconst (v := (0 : Int32)) dX2_isNegative_24 (by decide) ?_
      exact wp_ireturn (ty := .boolean) dX2_isNegative_25 rfl rfl ⟨false, rfl, h⟩
    · replace h := h.2 c
      refine wp_dconst1 dX2_isNegative_12 ?_
      refine wp_dload_n 0 dX2_isNegative_13 rfl ?_
      refine wp_ddiv dX2_isNegative_14 (fun r1 hr1 => ?_)
      replace h := h r1 hr1
      refine wp_dconst0 dX2_isNegative_15 ?_
      refine wp_dcmp dX2_isNegative_16 ?_
      refine wp_if_ge (tgt := 24) dX2_isNegative_17 rfl (fun c => ?_) (fun c => ?_)
      · replace h := h.1 c
        refine wp_iconst (v := (0 : Int32)) dX2_isNegative_24 (by decide) ?_
        exact wp_ireturn (ty := .boolean) dX2_isNegative_25 rfl rfl ⟨false, rfl, h⟩
      · replace h := h.2 c
        refine wp_iconst (v := (1 : Int32)) dX2_isNegative_20 (by decide) ?_
        refine wp_goto (tgt := 25) dX2_isNegative_21 rfl ?_
        exact wp_ireturn (ty := .boolean) dX2_isNegative_25 rfl rfl ⟨true, rfl, h⟩
theorem C_X2_isNegative {d : Nat} {q : HP → Bool → Prop} {x0 : UInt64} {H : HP} (h : wb_X2_isNegative_0 d q x0 H) : CZ (d + 1) 0 0 mX2_isNegative [.double x0] H q := by
  refine call_of (by decide +kernel) (by simp [lg_sl, rv_cat, vc_int, vc_long, vc_float, vc_double]) ?_
  have e : lv_args 0 [.double x0] = [(0, .double x0)] := by simp [lv_args, rv_cat, vc_int, vc_long, vc_float, vc_double]
  rw [e]
  exact T_X2_isNegative_0 h
def wb_X2_isNoDouble_0 (d : Nat) (q : HP → Bool → Prop) (x1 : Int64) (H : HP) : Prop :=
  CZ d 0 0 mX2_isNoNumber [.long x1, .int (52 : Int32), .int (1023 : Int32)] H (fun H1 b2 => q H1 b2)
set_option maxRecDepth 40000 in
set_option maxHeartbeats 4000000 in
theorem T_X2_isNoDouble_0 {d : Nat} {q : HP → Bool → Prop} {x1 : Int64} {H : HP} (h : wb_X2_isNoDouble_0 d q x1 H) : WP (d + 1) mX2_isNoDouble 0 0 0 [(1, .long x1)] [] H (qZ q) := by
  unfold wb_X2_isNoDouble_0 at h
  refine wp_lload_n 0 dX2_isNoDouble_0 rfl ?_
  refine wp_bipush (v := (52 : Int32)) dX2_isNoDouble_1 (by decide) ?_
  refine wp_sipush (v := (1023 : Int32)) dX2_isNoDouble_3 (by decide) ?_
  refine wp_callS (As := [.long x1, .int (52 : Int32), .int (1023 : Int32)]) (rest := []) (mc := 0) (ms := 0) dX2_isNoDouble_6 lk_X2_31 rfl rfl (by decide) rfl rfl rfl (Call.weaken h ?_)
  rintro H1 _ ⟨b2, rfl, h⟩
  change WP _ _ _ _ _ _ [.int (bI b2)] H1 _
  exact wp_ireturn (ty := .boolean) dX2_isNoDouble_9 rfl (nar_bI _).1 ⟨b2, rfl, h⟩
theorem C_X2_isNoDouble {d : Nat} {q : HP → Bool → Prop} {a0 : Nat} {x1 : Int64} {H : HP} (h : wb_X2_isNoDouble_0 d q x1 H) : CZ (d + 1) 0 0 mX2_isNoDouble [rv (some a0), .long x1] H q := by
  refine call_of (by decide +kernel) (by simp [lg_sl, rv_cat, vc_int, vc_long, vc_float, vc_double]) ?_
  have e : lv_args 0 [rv (some a0), .long x1] = [(0, rv (some a0)), (1, .long x1)] := by simp [lv_args, rv_cat, vc_int, vc_long, vc_float, vc_double]
  rw [e]
  refine wp_sub (ls' := [(1, .long x1)]) [1] rfl ?_
  exact T_X2_isNoDouble_0 h
def wb_X2_isNoFloat_0 (d : Nat) (q : HP → Bool → Prop) (x1 : Int64) (H : HP) : Prop :=
  CZ d 0 0 mX2_isNoNumber [.long x1, .int (23 : Int32), .int (127 : Int32)] H (fun H1 b2 => q H1 b2)
set_option maxRecDepth 40000 in
set_option maxHeartbeats 4000000 in
theorem T_X2_isNoFloat_0 {d : Nat} {q : HP → Bool → Prop} {x1 : Int64} {H : HP} (h : wb_X2_isNoFloat_0 d q x1 H) : WP (d + 1) mX2_isNoFloat 0 0 0 [(1, .long x1)] [] H (qZ q) := by
  unfold wb_X2_isNoFloat_0 at h
  refine wp_lload_n 0 dX2_isNoFloat_0 rfl ?_
  refine wp_bipush (v := (23 : Int32)) dX2_isNoFloat_1 (by decide) ?_
  refine wp_bipush (v := (127 : Int32)) dX2_isNoFloat_3 (by decide) ?_
  refine wp_callS (As := [.long x1, .int (23 : Int32), .int (127 : Int32)]) (rest := []) (mc := 0) (ms := 0) dX2_isNoFloat_5 lk_X2_31 rfl rfl (by decide) rfl rfl rfl (Call.weaken h ?_)
  rintro H1 _ ⟨b2, rfl, h⟩
  change WP _ _ _ _ _ _ [.int (bI b2)] H1 _
  exact wp_ireturn (ty := .boolean) dX2_isNoFloat_8 rfl (nar_bI _).1 ⟨b2, rfl, h⟩
theorem C_X2_isNoFloat {d : Nat} {q : HP → Bool → Prop} {a0 : Nat} {x1 : Int64} {H : HP} (h : wb_X2_isNoFloat_0 d q x1 H) : CZ (d + 1) 0 0 mX2_isNoFloat [rv (some a0), .long x1] H q := by
  refine call_of (by decide +kernel) (by simp [lg_sl, rv_cat, vc_int, vc_long, vc_float, vc_double]) ?_
  have e : lv_args 0 [rv (some a0), .long x1] = [(0, rv (some a0)), (1, .long x1)] := by simp [lv_args, rv_cat, vc_int, vc_long, vc_float, vc_double]
  rw [e]
  refine wp_sub (ls' := [(1, .long x1)]) [1] rfl ?_
  exact T_X2_isNoFloat_0 h
def wb_X2_isNoNumber_0 (d : Nat) (q : HP → Bool → Prop) (x0 : Int64) (x2 : Int32) (x3 : Int32) (H : HP) : Prop :=
  CJ d 0 0 mX2_topExponent [.int x3] H (fun H1 r2 => CJ d 0 0 mX2_topExponent [.int x3] H1 (fun H3 r4 => (¬ ((x0 >>> (x2.toInt64 &&& 63)) &&& r2) = r4 → q H3 false) ∧ (((x0 >>> (x2.toInt64 &&& 63)) &&& r2) = r4 → ((x0 &&& (((1 : Int64) <<< (x2.toInt64 &&& 63)) - (1 : Int64))) = (0 : Int64) → q H3 false) ∧ (¬ ((x0 &&& (((1 : Int64) <<< (x2.toInt64 &&& 63)) - (1 : Int64))) = (0 : Int64)) → q H3 true))))
set_option maxRecDepth 40000 in
set_option maxHeartbeats 4000000 in
theorem T_X2_isNoNumber_0 {d : Nat} {q : HP → Bool → Prop} {x0 : Int64} {x2 : Int32} {x3 : Int32} {H : HP} (h : wb_X2_isNoNumber_0 d q x0 x2 x3 H) : WP (d + 1) mX2_isNoNumber 0 0 0 [(0, .long x0), (2, .int x2), (3, .int x3)] [] H (qZ q) := by
  unfold wb_X2_isNoNumber_0 at h
  refine wp_lload_n 0 dX2_isNoNumber_0 rfl ?_
  refine wp_iload_n 1 dX2_isNoNumber_1 rfl ?_
  refine wp_lshr dX2_isNoNumber_2 ?_
  refine wp_iload_n 2 dX2_isNoNumber_3 rfl ?_
  refine wp_callS (As := [.int x3]) (rest := [.long (x0 >>> (x2.toInt64 &&& 63))]) (mc := 0) (ms := 0) dX2_isNoNumber_4 lk_X2_41 rfl rfl (by simp [rv_cat, vc_int, vc_long, vc_float, vc_double]) rfl rfl rfl (Call.weaken h ?_)
  rintro H1 _ ⟨r2, rfl, h⟩
  change WP _ _ _ _ _ _ [.long r2, .long (x0 >>> (x2.toInt64 &&& 63))] H1 _
  refine wp_land dX2_isNoNumber_7 ?_
  refine wp_iload_n 2 dX2_isNoNumber_8 rfl ?_
  refine wp_callS (As := [.int x3]) (rest := [.long ((x0 >>> (x2.toInt64 &&& 63)) &&& r2)]) (mc := 0) (ms := 0) dX2_isNoNumber_9 lk_X2_41 rfl rfl (by simp [rv_cat, vc_int, vc_long, vc_float, vc_double]) rfl rfl rfl (Call.weaken h ?_)
  rintro H3 _ ⟨r4, rfl, h⟩
  change WP _ _ _ _ _ _ [.long r4, .long ((x0 >>> (x2.toInt64 &&& 63)) &&& r2)] H3 _
  refine wp_lcmp dX2_isNoNumber_12 ?_
  refine wp_if_ne (tgt := 32) dX2_isNoNumber_13 rfl (fun c => ?_) (fun c => ?_)
  · replace h := h.1 (fun z => c (lgc_eq.mpr z))
    refine wp_iconst (v := (0 : Int32)) dX2_isNoNumber_32 (by decide) ?_
    exact wp_ireturn (ty := .boolean) dX2_isNoNumber_33 rfl rfl ⟨false, rfl, h⟩
  · replace h := h.2 (lgc_eq.mp c)
    refine wp_lload_n 0 dX2_isNoNumber_16 rfl ?_
    refine wp_lconst (v := (1 : Int64)) dX2_isNoNumber_17 (by decide) ?_
    refine wp_iload_n 1 dX2_isNoNumber_18 rfl ?_
    refine wp_lshl dX2_isNoNumber_19 ?_
    refine wp_lconst (v := (1 : Int64)) dX2_isNoNumber_20 (by decide) ?_
    refine wp_lsub dX2_isNoNumber_21 ?_
    refine wp_land dX2_isNoNumber_22 ?_
    refine wp_lconst (v := (0 : Int64)) dX2_isNoNumber_23 (by decide) ?_
    refine wp_lcmp dX2_isNoNumber_24 ?_
    refine wp_if_eq (tgt := 32) dX2_isNoNumber_25 rfl (fun c => ?_) (fun c => ?_)
    · replace h := h.1 (lgc_eq.mp c)
      refine wp_iconst (v := (0 : Int32)) dX2_isNoNumber_32 (by decide) ?_
      exact wp_ireturn (ty := .boolean) dX2_isNoNumber_33 rfl rfl ⟨false, rfl, h⟩
    · replace h := h.2 (fun z => c (lgc_eq.mpr z))
      refine wp_iconst (v := (1 : Int32)) dX2_isNoNumber_28 (by decide) ?_
      refine wp_goto (tgt := 33) dX2_isNoNumber_29 rfl ?_
      exact wp_ireturn (ty := .boolean) dX2_isNoNumber_33 rfl rfl ⟨true, rfl, h⟩
theorem C_X2_isNoNumber {d : Nat} {q : HP → Bool → Prop} {x0 : Int64} {x2 : Int32} {x3 : Int32} {H : HP} (h : wb_X2_isNoNumber_0 d q x0 x2 x3 H) : CZ (d + 1) 0 0 mX2_isNoNumber [.long x0, .int x2, .int x3] H q := by
  refine call_of (by decide +kernel) (by simp [lg_sl, rv_cat, vc_int, vc_long, vc_float, vc_double]) ?_
  have e : lv_args 0 [.long x0, .int x2, .int x3] = [(0, .long x0), (2, .int x2), (3, .int x3)] := by simp [lv_args, rv_cat, vc_int, vc_long, vc_float, vc_double]
  rw [e]
  exact T_X2_isNoNumber_0 h
def wb_X2_magnitude_0 (d : Nat) (q : HP → Int64 → Prop) (a0 : Nat) (x1 : UInt64) (x3 : Int32) (x4 : Int32) (H : HP) : Prop :=
  (0 ≤ (Op.cmpValue (FP.dcmp x1 FP.dconst0) .g) → (¬ (Op.cmpValue (FP.dcmp x1 FP.dconst0) .l) = 0 → tg H a0 = 3 ∧ ((¬ (Op.cmpValue (FP.dcmp x1 (hD H 301 a0 0)) .l) = 0 → CI d 0 0 mX2_exponentOf [rv (some a0), .double x1] H (fun H2 r3 => (((1 : Int32) - x4) ≤ r3 → tg H2 a0 = 3 ∧ (CD d 0 0 mX2_scaled [rv (some a0), .double x1, .int (-r3)] H2 (fun H4 r6 => ∀ r7, alike64 r7 (FP.dsub r6 FP.dconst1) = true → (∀ r8, alike64 r8 (FP.dmul r7 (FP.l2d ((1 : Int64) <<< (x3.toInt64 &&& 63)))) = true → (q H4 ((((r3 + x4).toInt64) <<< (x3.toInt64 &&& 63)) ||| (FP.d2l r8))))))) ∧ (¬ (((1 : Int32) - x4) ≤ r3) → tg H2 a0 = 3 ∧ (CD d 0 0 mX2_scaled [rv (some a0), .double x1, .int (x4 - (1 : Int32))] H2 (fun H9 r11 => ∀ r12, alike64 r12 (FP.dmul r11 (FP.l2d ((1 : Int64) <<< (x3.toInt64 &&& 63)))) = true → (q H9 (FP.d2l r12))))))) ∧ ((Op.cmpValue (FP.dcmp x1 (hD H 301 a0 0)) .l) = 0 → CJ d 0 0 mX2_topExponent [.int x4] H (fun H13 r14 => q H13 (r14 <<< (x3.toInt64 &&& 63)))))) ∧ ((Op.cmpValue (FP.dcmp x1 FP.dconst0) .l) = 0 → q H (0 : Int64))) ∧ (¬ (0 ≤ (Op.cmpValue (FP.dcmp x1 FP.dconst0) .g)) → (¬ (Op.cmpValue (FP.dcmp (FP.dneg x1) FP.dconst0) .l) = 0 → tg H a0 = 3 ∧ ((¬ (Op.cmpValue (FP.dcmp (FP.dneg x1) (hD H 301 a0 0)) .l) = 0 → CI d 0 0 mX2_exponentOf [rv (some a0), .double (FP.dneg x1)] H (fun H16 r17 => (((1 : Int32) - x4) ≤ r17 → tg H16 a0 = 3 ∧ (CD d 0 0 mX2_scaled [rv (some a0), .double (FP.dneg x1), .int (-r17)] H16 (fun H18 r20 => ∀ r21, alike64 r21 (FP.dsub r20 FP.dconst1) = true → (∀ r22, alike64 r22 (FP.dmul r21 (FP.l2d ((1 : Int64) <<< (x3.toInt64 &&& 63)))) = true → (q H18 ((((r17 + x4).toInt64) <<< (x3.toInt64 &&& 63)) ||| (FP.d2l r22))))))) ∧ (¬ (((1 : Int32) - x4) ≤ r17) → tg H16 a0 = 3 ∧ (CD d 0 0 mX2_scaled [rv (some a0), .double (FP.dneg x1), .int (x4 - (1 : Int32))] H16 (fun H23 r25 => ∀ r26, alike64 r26 (FP.dmul r25 (FP.l2d ((1 : Int64) <<< (x3.toInt64 &&& 63)))) = true → (q H23 (FP.d2l r26))))))) ∧ ((Op.cmpValue (FP.dcmp (FP.dneg x1) (hD H 301 a0 0)) .l) = 0 → CJ d 0 0 mX2_topExponent [.int x4] H (fun H27 r28 => q H27 (r28 <<< (x3.toInt64 &&& 63)))))) ∧ ((Op.cmpValue (FP.dcmp (FP.dneg x1) FP.dconst0) .l) = 0 → q H (0 : Int64)))
set_option maxRecDepth 40000 in
set_option maxHeartbeats 4000000 in
theorem T_X2_magnitude_0 {d : Nat} {q : HP → Int64 → Prop} {a0 : Nat} {x1 : UInt64} {x3 : Int32} {x4 : Int32} {H : HP} (h : wb_X2_magnitude_0 d q a0 x1 x3 x4 H) : WP (d + 1) mX2_magnitude 0 0 0 [(0, rv (some a0)), (1, .double x1), (3, .int x3), (4, .int x4)] [] H (qJ q) := by
  unfold wb_X2_magnitude_0 at h
  refine wp_dload_n 1 dX2_magnitude_0 rfl ?_
  refine wp_dconst0 dX2_magnitude_1 ?_
  refine wp_dcmp dX2_magnitude_2 ?_
  refine wp_if_ge (tgt := 11) dX2_magnitude_3 rfl (fun c => ?_) (fun c => ?_)
  · replace h := h.1 c
    refine wp_dload_n 1 dX2_magnitude_11 rfl ?_
    refine wp_dstore (ls' := [(5, .double x1), (0, rv (some a0)), (1, .double x1), (3, .int x3), (4, .int x4)]) dX2_magnitude_12 (by decide) rfl ?_
    refine wp_dload 0 dX2_magnitude_14 rfl ?_
    refine wp_dconst0 dX2_magnitude_16 ?_
    refine wp_dcmp dX2_magnitude_17 ?_
    refine wp_if_ne (tgt := 23) dX2_magnitude_18 rfl (fun c => ?_) (fun c => ?_)
    · replace h := h.1 c
      refine wp_dload 0 dX2_magnitude_23 rfl ?_
      refine wp_aload_n 1 dX2_magnitude_25 rfl ?_
      obtain ⟨ht1, h⟩ := h
      refine wp_getD (ci := 2) (j := 1) dX2_magnitude_26 fi_X2_15r rfl rfl ht1 ?_
      change WP _ _ _ _ _ _ (.double (hD H 301 a0 0) :: _) _ _
      refine wp_dcmp dX2_magnitude_29 ?_
      refine wp_if_ne (tgt := 41) dX2_magnitude_30 rfl (fun c => ?_) (fun c => ?_)
      · replace h := h.1 c
        refine wp_aload_n 1 dX2_magnitude_41 rfl ?_
        refine wp_dload 0 dX2_magnitude_42 rfl ?_
        refine wp_callV (ci := 2) (As := [.double x1]) (rest := []) (mc := 0) (ms := 0) dX2_magnitude_44 lk_X2_49 rfl rfl (by decide) rfl rfl rfl ht1 rfl rfl rfl w_4_203 (Call.weaken h ?_)
        rintro H2 _ ⟨r3, rfl, h⟩
        change WP _ _ _ _ _ _ [.int r3] H2 _
        refine wp_istore (ls' := [(7, .int r3), (5, .double x1), (0, rv (some a0)), (1, .double x1), (3, .int x3), (4, .int x4)]) dX2_magnitude_47 (by decide) rfl ?_
        refine wp_lconst (v := (1 : Int64)) dX2_magnitude_49 (by decide) ?_
        refine wp_iload_n 4 dX2_magnitude_50 rfl ?_
        refine wp_lshl dX2_magnitude_51 ?_
        refine wp_l2d dX2_magnitude_52 ?_
        refine wp_dstore (ls' := [(8, .double (FP.l2d ((1 : Int64) <<< (x3.toInt64 &&& 63)))), (7, .int r3), (5, .double x1), (0, rv (some a0)), (1, .double x1), (3, .int x3), (4, .int x4)]) dX2_magnitude_53 (by decide) rfl ?_
        refine wp_iload 1 dX2_magnitude_55 rfl ?_
        refine wp_iconst (v := (1 : Int32)) dX2_magnitude_57 (by decide) ?_
        refine wp_iload 6 dX2_magnitude_58 rfl ?_
        refine wp_isub dX2_magnitude_60 ?_
        refine wp_icmp_ge (tgt := 79) dX2_magnitude_61 rfl (fun c => ?_) (fun c => ?_)
        · replace h := h.1 c
          refine wp_iload 1 dX2_magnitude_79 rfl ?_
          refine wp_iload 6 dX2_magnitude_81 rfl ?_
          refine wp_iadd dX2_magnitude_83 ?_
          refine wp_i2l dX2_magnitude_84 ?_
          refine wp_iload_n 5 dX2_magnitude_85 rfl ?_
          refine wp_lshl dX2_magnitude_86 ?_
          refine wp_aload_n 3 dX2_magnitude_87 rfl ?_
          refine wp_dload 2 dX2_magnitude_88 rfl ?_
          refine wp_iload 1 dX2_magnitude_90 rfl ?_
          refine wp_ineg dX2_magnitude_92 ?_
          obtain ⟨ht5, h⟩ := h
          refine wp_callV (ci := 2) (As := [.double x1, .int (-r3)]) (rest := [.long (((r3 + x4).toInt64) <<< (x3.toInt64 &&& 63))]) (mc := 0) (ms := 0) dX2_magnitude_93 lk_X2_45 rfl rfl (by simp [rv_cat, vc_int, vc_long, vc_float, vc_double]) rfl rfl rfl ht5 rfl rfl rfl w_4_207 (Call.weaken h ?_)
          rintro H4 _ ⟨r6, rfl, h⟩
          change WP _ _ _ _ _ _ [.double r6, .long (((r3 + x4).toInt64) <<< (x3.toInt64 &&& 63))] H4 _
          refine wp_dconst1 dX2_magnitude_96 ?_
          refine wp_dsub dX2_magnitude_97 (fun r7 hr7 => ?_)
          replace h := h r7 hr7
          refine wp_dload 0 dX2_magnitude_98 rfl ?_
          refine wp_dmul dX2_magnitude_100 (fun r8 hr8 => ?_)
          replace h := h r8 hr8
          refine wp_d2l dX2_magnitude_101 ?_
          refine wp_lor dX2_magnitude_102 ?_
          exact wp_lreturn dX2_magnitude_103 rfl ⟨_, rfl, h⟩
        · replace h := h.2 c
          refine wp_aload_n 3 dX2_magnitude_64 rfl ?_
          refine wp_dload 2 dX2_magnitude_65 rfl ?_
          refine wp_iload 6 dX2_magnitude_67 rfl ?_
          refine wp_iconst (v := (1 : Int32)) dX2_magnitude_69 (by decide) ?_
          refine wp_isub dX2_magnitude_70 ?_
          obtain ⟨ht10, h⟩ := h
          refine wp_callV (ci := 2) (As := [.double x1, .int (x4 - (1 : Int32))]) (rest := []) (mc := 0) (ms := 0) dX2_magnitude_71 lk_X2_45 rfl rfl (by decide) rfl rfl rfl ht10 rfl rfl rfl w_4_207 (Call.weaken h ?_)
          rintro H9 _ ⟨r11, rfl, h⟩
          change WP _ _ _ _ _ _ [.double r11] H9 _
          refine wp_dload 0 dX2_magnitude_74 rfl ?_
          refine wp_dmul dX2_magnitude_76 (fun r12 hr12 => ?_)
          replace h := h r12 hr12
          refine wp_d2l dX2_magnitude_77 ?_
          exact wp_lreturn dX2_magnitude_78 rfl ⟨_, rfl, h⟩
      · replace h := h.2 c
        refine wp_iload 4 dX2_magnitude_33 rfl ?_
        refine wp_callS (As := [.int x4]) (rest := []) (mc := 0) (ms := 0) dX2_magnitude_35 lk_X2_41 rfl rfl (by decide) rfl rfl rfl (Call.weaken h ?_)
        rintro H13 _ ⟨r14, rfl, h⟩
        change WP _ _ _ _ _ _ [.long r14] H13 _
        refine wp_iload_n 3 dX2_magnitude_38 rfl ?_
        refine wp_lshl dX2_magnitude_39 ?_
        exact wp_lreturn dX2_magnitude_40 rfl ⟨_, rfl, h⟩
    · replace h := h.2 c
      refine wp_lconst (v := (0 : Int64)) dX2_magnitude_21 (by decide) ?_
      exact wp_lreturn dX2_magnitude_22 rfl ⟨_, rfl, h⟩
  · replace h := h.2 c
    refine wp_dload_n 1 dX2_magnitude_6 rfl ?_
    refine wp_dneg dX2_magnitude_7 ?_
    refine wp_goto (tgt := 12) dX2_magnitude_8 rfl ?_
    refine wp_dstore (ls' := [(5, .double (FP.dneg x1)), (0, rv (some a0)), (1, .double x1), (3, .int x3), (4, .int x4)]) dX2_magnitude_12 (by decide) rfl ?_
    refine wp_dload 0 dX2_magnitude_14 rfl ?_
    refine wp_dconst0 dX2_magnitude_16 ?_
    refine wp_dcmp dX2_magnitude_17 ?_
    refine wp_if_ne (tgt := 23) dX2_magnitude_18 rfl (fun c => ?_) (fun c => ?_)
    · replace h := h.1 c
      refine wp_dload 0 dX2_magnitude_23 rfl ?_
      refine wp_aload_n 1 dX2_magnitude_25 rfl ?_
      obtain ⟨ht15, h⟩ := h
      refine wp_getD (ci := 2) (j := 1) dX2_magnitude_26 fi_X2_15r rfl rfl ht15 ?_
      change WP _ _ _ _ _ _ (.double (hD H 301 a0 0) :: _) _ _
      refine wp_dcmp dX2_magnitude_29 ?_
      refine wp_if_ne (tgt := 41) dX2_magnitude_30 rfl (fun c => ?_) (fun c => ?_)
      · replace h := h.1 c
        refine wp_aload_n 1 dX2_magnitude_41 rfl ?_
        refine wp_dload 0 dX2_magnitude_42 rfl ?_
        refine wp_callV (ci := 2) (As := [.double (FP.dneg x1)]) (rest := []) (mc := 0) (ms := 0) dX2_magnitude_44 lk_X2_49 rfl rfl (by decide) rfl rfl rfl ht15 rfl rfl rfl w_4_203 (Call.weaken h ?_)
        rintro H16 _ ⟨r17, rfl, h⟩
        change WP _ _ _ _ _ _ [.int r17] H16 _
        refine wp_istore (ls' := [(7, .int r17), (5, .double (FP.dneg x1)), (0, rv (some a0)), (1, .double x1), (3, .int x3), (4, .int x4)]) dX2_magnitude_47 (by decide) rfl ?_
        refine wp_lconst (v := (1 : Int64)) dX2_magnitude_49 (by decide) ?_
        refine wp_iload_n 4 dX2_magnitude_50 rfl ?_
        refine wp_lshl dX2_magnitude_51 ?_
        refine wp_l2d dX2_magnitude_52 ?_
        refine wp_dstore (ls' := [(8, .double (FP.l2d ((1 : Int64) <<< (x3.toInt64 &&& 63)))), (7, .int r17), (5, .double (FP.dneg x1)), (0, rv (some a0)), (1, .double x1), (3, .int x3), (4, .int x4)]) dX2_magnitude_53 (by decide) rfl ?_
        refine wp_iload 1 dX2_magnitude_55 rfl ?_
        refine wp_iconst (v := (1 : Int32)) dX2_magnitude_57 (by decide) ?_
        refine wp_iload 6 dX2_magnitude_58 rfl ?_
        refine wp_isub dX2_magnitude_60 ?_
        refine wp_icmp_ge (tgt := 79) dX2_magnitude_61 rfl (fun c => ?_) (fun c => ?_)
        · replace h := h.1 c
          refine wp_iload 1 dX2_magnitude_79 rfl ?_
          refine wp_iload 6 dX2_magnitude_81 rfl ?_
          refine wp_iadd dX2_magnitude_83 ?_
          refine wp_i2l dX2_magnitude_84 ?_
          refine wp_iload_n 5 dX2_magnitude_85 rfl ?_
          refine wp_lshl dX2_magnitude_86 ?_
          refine wp_aload_n 3 dX2_magnitude_87 rfl ?_
          refine wp_dload 2 dX2_magnitude_88 rfl ?_
          refine wp_iload 1 dX2_magnitude_90 rfl ?_
          refine wp_ineg dX2_magnitude_92 ?_
          obtain ⟨ht19, h⟩ := h
          refine wp_callV (ci := 2) (As := [.double (FP.dneg x1), .int (-r17)]) (rest := [.long (((r17 + x4).toInt64) <<< (x3.toInt64 &&& 63))]) (mc := 0) (ms := 0) dX2_magnitude_93 lk_X2_45 rfl rfl (by simp [rv_cat, vc_int, vc_long, vc_float, vc_double]) rfl rfl rfl ht19 rfl rfl rfl w_4_207 (Call.weaken h ?_)
          rintro H18 _ ⟨r20, rfl, h⟩
          change WP _ _ _ _ _ _ [.double r20, .long (((r17 + x4).toInt64) <<< (x3.toInt64 &&& 63))] H18 _
          refine wp_dconst1 dX2_magnitude_96 ?_
          refine wp_dsub dX2_magnitude_97 (fun r21 hr21 => ?_)
          replace h := h r21 hr21
          refine wp_dload 0 dX2_magnitude_98 rfl ?_
          refine wp_dmul dX2_magnitude_100 (fun r22 hr22 => ?_)
          replace h := h r22 hr22
          refine wp_d2l dX2_magnitude_101 ?_
          refine wp_lor dX2_magnitude_102 ?_
          exact wp_lreturn dX2_magnitude_103 rfl ⟨_, rfl, h⟩
        · replace h := h.2 c
          refine wp_aload_n 3 dX2_magnitude_64 rfl ?_
          refine wp_dload 2 dX2_magnitude_65 rfl ?_
          refine wp_iload 6 dX2_magnitude_67 rfl ?_
          refine wp_iconst (v := (1 : Int32)) dX2_magnitude_69 (by decide) ?_
          refine wp_isub dX2_magnitude_70 ?_
          obtain ⟨ht24, h⟩ := h
          refine wp_callV (ci := 2) (As := [.double (FP.dneg x1), .int (x4 - (1 : Int32))]) (rest := []) (mc := 0) (ms := 0) dX2_magnitude_71 lk_X2_45 rfl rfl (by decide) rfl rfl rfl ht24 rfl rfl rfl w_4_207 (Call.weaken h ?_)
          rintro H23 _ ⟨r25, rfl, h⟩
          change WP _ _ _ _ _ _ [.double r25] H23 _
          refine wp_dload 0 dX2_magnitude_74 rfl ?_
          refine wp_dmul dX2_magnitude_76 (fun r26 hr26 => ?_)
          replace h := h r26 hr26
          refine wp_d2l dX2_magnitude_77 ?_
          exact wp_lreturn dX2_magnitude_78 rfl ⟨_, rfl, h⟩
      · replace h := h.2 c
        refine wp_iload 4 dX2_magnitude_33 rfl ?_
        refine wp_callS (As := [.int x4]) (rest := []) (mc := 0) (ms := 0) dX2_magnitude_35 lk_X2_41 rfl rfl (by decide) rfl rfl rfl (Call.weaken h ?_)
        rintro H27 _ ⟨r28, rfl, h⟩
        change WP _ _ _ _ _ _ [.long r28] H27 _
        refine wp_iload_n 3 dX2_magnitude_38 rfl ?_
        refine wp_lshl dX2_magnitude_39 ?_
        exact wp_lreturn dX2_magnitude_40 rfl ⟨_, rfl, h⟩
    · replace h := h.2 c
      refine wp_lconst (v := (0 : Int64)) dX2_magnitude_21 (by decide) ?_
      exact wp_lreturn dX2_magnitude_22 rfl ⟨_, rfl, h⟩
theorem C_X2_magnitude {d : Nat} {q : HP → Int64 → Prop} {a0 : Nat} {x1 : UInt64} {x3 : Int32} {x4 : Int32} {H : HP} (h : wb_X2_magnitude_0 d q a0 x1 x3 x4 H) : CJ (d + 1) 0 0 mX2_magnitude [rv (some a0), .double x1, .int x3, .int x4] H q := by
  refine call_of (by decide +kernel) (by simp [lg_sl, rv_cat, vc_int, vc_long, vc_float, vc_double]) ?_
  have e : lv_args 0 [rv (some a0), .double x1, .int x3, .int x4] = [(0, rv (some a0)), (1, .double x1), (3, .int x3), (4, .int x4)] := by simp [lv_args, rv_cat, vc_int, vc_long, vc_float, vc_double]
  rw [e]
  exact T_X2_magnitude_0 h
def wb_X2_ofDouble_0 (d : Nat) (q : HP → Int64 → Prop) (a0 : Nat) (x1 : UInt64) (H : HP) : Prop :=
  tg H a0 = 3 ∧ (CJ d 0 0 mX2_magnitude [rv (some a0), .double x1, .int (52 : Int32), .int (1023 : Int32)] H (fun H1 r3 => CZ d 0 0 mX2_isNegative [.double x1] H1 (fun H4 b5 => (b5 = false → q H4 (r3 ||| (0 : Int64))) ∧ (b5 = true → q H4 (r3 ||| (-9223372036854775808 : Int64))))))
set_option maxRecDepth 40000 in
set_option maxHeartbeats 4000000 in
theorem T_X2_ofDouble_0 {d : Nat} {q : HP → Int64 → Prop} {a0 : Nat} {x1 : UInt64} {H : HP} (h : wb_X2_ofDouble_0 d q a0 x1 H) : WP (d + 1) mX2_ofDouble 0 0 0 [(0, rv (some a0)), (1, .double x1)] [] H (qJ q) := by
  unfold wb_X2_ofDouble_0 at h
  refine wp_aload_n 0 dX2_ofDouble_0 rfl ?_
  refine wp_dload_n 1 dX2_ofDouble_1 rfl ?_
  refine wp_bipush (v := (52 : Int32)) dX2_ofDouble_2 (by decide) ?_
  refine wp_sipush (v := (1023 : Int32)) dX2_ofDouble_4 (by decide) ?_
  obtain ⟨ht2, h⟩ := h
  refine wp_callV (ci := 2) (As := [.double x1, .int (52 : Int32), .int (1023 : Int32)]) (rest := []) (mc := 0) (ms := 0) dX2_ofDouble_7 lk_X2_19 rfl rfl (by decide) rfl rfl rfl ht2 rfl rfl rfl w_4_195 (Call.weaken h ?_)
  rintro H1 _ ⟨r3, rfl, h⟩
  change WP _ _ _ _ _ _ [.long r3] H1 _
  refine wp_dload_n 1 dX2_ofDouble_10 rfl ?_
  refine wp_callS (As := [.double x1]) (rest := [.long r3]) (mc := 0) (ms := 0) dX2_ofDouble_11 lk_X2_23 rfl rfl (by simp [rv_cat, vc_int, vc_long, vc_float, vc_double]) rfl rfl rfl (Call.weaken h ?_)
  rintro H4 _ ⟨b5, rfl, h⟩
  change WP _ _ _ _ _ _ [.int (bI b5), .long r3] H4 _
  refine wp_if_eq (tgt := 23) dX2_ofDouble_14 rfl (fun c => ?_) (fun c => ?_)
  · replace h := h.1 (bI_0.mp c)
    refine wp_lconst (v := (0 : Int64)) dX2_ofDouble_23 (by decide) ?_
    refine wp_lor dX2_ofDouble_24 ?_
    exact wp_lreturn dX2_ofDouble_25 rfl ⟨_, rfl, h⟩
  · replace h := h.2 (bI_1.mp c)
    refine wp_ldc2 dX2_ofDouble_17 w_4_215 ?_
    refine wp_goto (tgt := 24) dX2_ofDouble_20 rfl ?_
    refine wp_lor dX2_ofDouble_24 ?_
    exact wp_lreturn dX2_ofDouble_25 rfl ⟨_, rfl, h⟩
theorem C_X2_ofDouble {d : Nat} {q : HP → Int64 → Prop} {a0 : Nat} {x1 : UInt64} {H : HP} (h : wb_X2_ofDouble_0 d q a0 x1 H) : CJ (d + 1) 0 0 mX2_ofDouble [rv (some a0), .double x1] H q := by
  refine call_of (by decide +kernel) (by simp [lg_sl, rv_cat, vc_int, vc_long, vc_float, vc_double]) ?_
  have e : lv_args 0 [rv (some a0), .double x1] = [(0, rv (some a0)), (1, .double x1)] := by simp [lv_args, rv_cat, vc_int, vc_long, vc_float, vc_double]
  rw [e]
  exact T_X2_ofDouble_0 h
def wb_X2_ofFloat_0 (d : Nat) (q : HP → Int64 → Prop) (a0 : Nat) (x1 : UInt32) (H : HP) : Prop :=
  ∀ r1, alike64 r1 (FP.f2d x1) = true → (tg H a0 = 3 ∧ (CJ d 0 0 mX2_magnitude [rv (some a0), .double r1, .int (23 : Int32), .int (127 : Int32)] H (fun H2 r4 => ∀ r5, alike64 r5 (FP.f2d x1) = true → (CZ d 0 0 mX2_isNegative [.double r5] H2 (fun H6 b7 => (b7 = false → q H6 (((r4 ||| (0 : Int64)).toInt32).toInt64)) ∧ (b7 = true → q H6 (((r4 ||| (2147483648 : Int64)).toInt32).toInt64)))))))
set_option maxRecDepth 40000 in
set_option maxHeartbeats 4000000 in
theorem T_X2_ofFloat_0 {d : Nat} {q : HP → Int64 → Prop} {a0 : Nat} {x1 : UInt32} {H : HP} (h : wb_X2_ofFloat_0 d q a0 x1 H) : WP (d + 1) mX2_ofFloat 0 0 0 [(0, rv (some a0)), (1, .float x1)] [] H (qJ q) := by
  unfold wb_X2_ofFloat_0 at h
  refine wp_aload_n 0 dX2_ofFloat_0 rfl ?_
  refine wp_fload_n 1 dX2_ofFloat_1 rfl ?_
  refine wp_f2d dX2_ofFloat_2 (fun r1 hr1 => ?_)
  replace h := h r1 hr1
  refine wp_bipush (v := (23 : Int32)) dX2_ofFloat_3 (by decide) ?_
  refine wp_bipush (v := (127 : Int32)) dX2_ofFloat_5 (by decide) ?_
  obtain ⟨ht3, h⟩ := h
  refine wp_callV (ci := 2) (As := [.double r1, .int (23 : Int32), .int (127 : Int32)]) (rest := []) (mc := 0) (ms := 0) dX2_ofFloat_7 lk_X2_19 rfl rfl (by decide) rfl rfl rfl ht3 rfl rfl rfl w_4_195 (Call.weaken h ?_)
  rintro H2 _ ⟨r4, rfl, h⟩
  change WP _ _ _ _ _ _ [.long r4] H2 _
  refine wp_fload_n 1 dX2_ofFloat_10 rfl ?_
  refine wp_f2d dX2_ofFloat_11 (fun r5 hr5 => ?_)
  replace h := h r5 hr5
  refine wp_callS (As := [.double r5]) (rest := [.long r4]) (mc := 0) (ms := 0) dX2_ofFloat_12 lk_X2_23 rfl rfl (by simp [rv_cat, vc_int, vc_long, vc_float, vc_double]) rfl rfl rfl (Call.weaken h ?_)
  rintro H6 _ ⟨b7, rfl, h⟩
  change WP _ _ _ _ _ _ [.int (bI b7), .long r4] H6 _
  refine wp_if_eq (tgt := 24) dX2_ofFloat_15 rfl (fun c => ?_) (fun c => ?_)
  · replace h := h.1 (bI_0.mp c)
    refine wp_lconst (v := (0 : Int64)) dX2_ofFloat_24 (by decide) ?_
    refine wp_lor dX2_ofFloat_25 ?_
    refine wp_l2i dX2_ofFloat_26 ?_
    refine wp_i2l dX2_ofFloat_27 ?_
    exact wp_lreturn dX2_ofFloat_28 rfl ⟨_, rfl, h⟩
  · replace h := h.2 (bI_1.mp c)
    refine wp_ldc2 dX2_ofFloat_18 w_4_220 ?_
    refine wp_goto (tgt := 25) dX2_ofFloat_21 rfl ?_
    refine wp_lor dX2_ofFloat_25 ?_
    refine wp_l2i dX2_ofFloat_26 ?_
    refine wp_i2l dX2_ofFloat_27 ?_
    exact wp_lreturn dX2_ofFloat_28 rfl ⟨_, rfl, h⟩
theorem C_X2_ofFloat {d : Nat} {q : HP → Int64 → Prop} {a0 : Nat} {x1 : UInt32} {H : HP} (h : wb_X2_ofFloat_0 d q a0 x1 H) : CJ (d + 1) 0 0 mX2_ofFloat [rv (some a0), .float x1] H q := by
  refine call_of (by decide +kernel) (by simp [lg_sl, rv_cat, vc_int, vc_long, vc_float, vc_double]) ?_
  have e : lv_args 0 [rv (some a0), .float x1] = [(0, rv (some a0)), (1, .float x1)] := by simp [lv_args, rv_cat, vc_int, vc_long, vc_float, vc_double]
  rw [e]
  exact T_X2_ofFloat_0 h
/-- UnitProver$FloatBits.scaled(DI)D: the loop at 6 -/
def L_X2_scaled_6 (d : Nat) (q : HP → UInt64 → Prop) (a0 : Nat) (x3 : Int32) (x4 : UInt64) (x6 : Int32) (H : HP) : Prop := WP (d + 1) mX2_scaled 0 0 6 [(0, rv (some a0)), (3, .int x3), (4, .double x4), (6, .int x6)] [] H (qD q)
def wb_X2_scaled_0 (d : Nat) (q : HP → UInt64 → Prop) (a0 : Nat) (x1 : UInt64) (x3 : Int32) (H : HP) : Prop :=
  L_X2_scaled_6 d q a0 x3 x1 (0 : Int32) H
set_option maxRecDepth 40000 in
set_option maxHeartbeats 4000000 in
theorem T_X2_scaled_0 {d : Nat} {q : HP → UInt64 → Prop} {a0 : Nat} {x1 : UInt64} {x3 : Int32} {H : HP} (h : wb_X2_scaled_0 d q a0 x1 x3 H) : WP (d + 1) mX2_scaled 0 0 0 [(0, rv (some a0)), (1, .double x1), (3, .int x3)] [] H (qD q) := by
  unfold wb_X2_scaled_0 at h
  refine wp_dload_n 1 dX2_scaled_0 rfl ?_
  refine wp_dstore (ls' := [(4, .double x1), (0, rv (some a0)), (1, .double x1), (3, .int x3)]) dX2_scaled_1 (by decide) rfl ?_
  refine wp_iconst (v := (0 : Int32)) dX2_scaled_3 (by decide) ?_
  refine wp_istore (ls' := [(6, .int (0 : Int32)), (4, .double x1), (0, rv (some a0)), (1, .double x1), (3, .int x3)]) dX2_scaled_4 (by decide) rfl ?_
  refine wp_sub (ls' := [(0, rv (some a0)), (3, .int x3), (4, .double x1), (6, .int (0 : Int32))]) [2, 4, 1, 0] rfl ?_
  exact h
def wb_X2_scaled_6 (d : Nat) (q : HP → UInt64 → Prop) (a0 : Nat) (x3 : Int32) (x4 : UInt64) (x6 : Int32) (H : HP) : Prop :=
  ((10 : Int32) ≤ x6 → q H x4) ∧ (¬ ((10 : Int32) ≤ x6) → CI d 0 0 mJ9_abs_0f7a4 [.int x3] H (fun H1 r2 => (((r2 >>> (x6 &&& 31)) &&& (1 : Int32)) = 0 → L_X2_scaled_6 d q a0 x3 x4 (x6 + 1) H1) ∧ (¬ (((r2 >>> (x6 &&& 31)) &&& (1 : Int32)) = 0) → (x3 ≤ 0 → tg H1 a0 = 3 ∧ (∃ a4, (hC H1 300 a0) = some a4 ∧ (isA H1 a4 5 ∧ (vp_in x6 (ln H1 a4) ∧ (∀ r7, alike64 r7 (FP.ddiv x4 (hD H1 (tg H1 a4) a4 x6.toNatClampNeg)) = true → (L_X2_scaled_6 d q a0 x3 r7 (x6 + 1) H1)))))) ∧ (¬ (x3 ≤ 0) → tg H1 a0 = 3 ∧ (∃ a9, (hC H1 300 a0) = some a9 ∧ (isA H1 a9 5 ∧ (vp_in x6 (ln H1 a9) ∧ (∀ r12, alike64 r12 (FP.dmul x4 (hD H1 (tg H1 a9) a9 x6.toNatClampNeg)) = true → (L_X2_scaled_6 d q a0 x3 r12 (x6 + 1) H1)))))))))
set_option maxRecDepth 40000 in
set_option maxHeartbeats 4000000 in
theorem T_X2_scaled_6 {d : Nat} {q : HP → UInt64 → Prop} {a0 : Nat} {x3 : Int32} {x4 : UInt64} {x6 : Int32} {H : HP} (h : wb_X2_scaled_6 d q a0 x3 x4 x6 H) : L_X2_scaled_6 d q a0 x3 x4 x6 H := by
  unfold wb_X2_scaled_6 at h
  unfold L_X2_scaled_6
  refine wp_iload 3 dX2_scaled_6 rfl ?_
  refine wp_bipush (v := (10 : Int32)) dX2_scaled_8 (by decide) ?_
  refine wp_icmp_ge (tgt := 60) dX2_scaled_10 rfl (fun c => ?_) (fun c => ?_)
  · replace h := h.1 c
    refine wp_dload 2 dX2_scaled_60 rfl ?_
    exact wp_dreturn dX2_scaled_62 rfl ⟨_, rfl, h⟩
  · replace h := h.2 c
    refine wp_iload_n 1 dX2_scaled_13 rfl ?_
    refine wp_callS (As := [.int x3]) (rest := []) (mc := 0) (ms := 0) dX2_scaled_14 lk_X2_53 rfl rfl (by decide) rfl rfl rfl (Call.weaken h ?_)
    rintro H1 _ ⟨r2, rfl, h⟩
    change WP _ _ _ _ _ _ [.int r2] H1 _
    refine wp_iload 3 dX2_scaled_17 rfl ?_
    refine wp_ishr dX2_scaled_19 ?_
    refine wp_iconst (v := (1 : Int32)) dX2_scaled_20 (by decide) ?_
    refine wp_iand dX2_scaled_21 ?_
    refine wp_if_eq (tgt := 54) dX2_scaled_22 rfl (fun c => ?_) (fun c => ?_)
    · replace h := h.1 c
      refine wp_iinc (v := (x6 + 1)) (ls' := [(6, .int (x6 + 1)), (0, rv (some a0)), (3, .int x3), (4, .double x4)]) 3 dX2_scaled_54 rfl rfl (by decide) rfl ?_
      refine wp_goto (tgt := 6) dX2_scaled_57 rfl ?_
      refine wp_sub (ls' := [(0, rv (some a0)), (3, .int x3), (4, .double x4), (6, .int (x6 + 1))]) [1, 2, 3, 0] rfl ?_
      exact h
    · replace h := h.2 c
      refine wp_iload_n 1 dX2_scaled_25 rfl ?_
      refine wp_if_le (tgt := 42) dX2_scaled_26 rfl (fun c => ?_) (fun c => ?_)
      · replace h := h.1 c
        refine wp_dload 2 dX2_scaled_42 rfl ?_
        refine wp_aload_n 0 dX2_scaled_44 rfl ?_
        obtain ⟨ht3, h⟩ := h
        refine wp_getC (ci := 2) (j := 0) dX2_scaled_45 fi_X2_9r rfl rfl ht3 ?_
        change WP _ _ _ _ _ _ (rv (hC H1 300 a0) :: _) _ _
        refine wp_iload 3 dX2_scaled_48 rfl ?_
        obtain ⟨a4, ha4, h⟩ := h
        obtain ⟨hr5, h⟩ := h
        obtain ⟨hg6, h⟩ := h
        refine wp_daload dX2_scaled_50 ha4 hr5 hg6 ?_
        refine wp_ddiv dX2_scaled_51 (fun r7 hr7 => ?_)
        replace h := h r7 hr7
        refine wp_dstore (ls' := [(4, .double r7), (0, rv (some a0)), (3, .int x3), (6, .int x6)]) dX2_scaled_52 (by decide) rfl ?_
        refine wp_iinc (v := (x6 + 1)) (ls' := [(6, .int (x6 + 1)), (4, .double r7), (0, rv (some a0)), (3, .int x3)]) 3 dX2_scaled_54 rfl rfl (by decide) rfl ?_
        refine wp_goto (tgt := 6) dX2_scaled_57 rfl ?_
        refine wp_sub (ls' := [(0, rv (some a0)), (3, .int x3), (4, .double r7), (6, .int (x6 + 1))]) [2, 3, 1, 0] rfl ?_
        exact h
      · replace h := h.2 c
        refine wp_dload 2 dX2_scaled_29 rfl ?_
        refine wp_aload_n 0 dX2_scaled_31 rfl ?_
        obtain ⟨ht8, h⟩ := h
        refine wp_getC (ci := 2) (j := 0) dX2_scaled_32 fi_X2_9r rfl rfl ht8 ?_
        change WP _ _ _ _ _ _ (rv (hC H1 300 a0) :: _) _ _
        refine wp_iload 3 dX2_scaled_35 rfl ?_
        obtain ⟨a9, ha9, h⟩ := h
        obtain ⟨hr10, h⟩ := h
        obtain ⟨hg11, h⟩ := h
        refine wp_daload dX2_scaled_37 ha9 hr10 hg11 ?_
        refine wp_dmul dX2_scaled_38 (fun r12 hr12 => ?_)
        replace h := h r12 hr12
        refine wp_goto (tgt := 52) dX2_scaled_39 rfl ?_
        refine wp_dstore (ls' := [(4, .double r12), (0, rv (some a0)), (3, .int x3), (6, .int x6)]) dX2_scaled_52 (by decide) rfl ?_
        refine wp_iinc (v := (x6 + 1)) (ls' := [(6, .int (x6 + 1)), (4, .double r12), (0, rv (some a0)), (3, .int x3)]) 3 dX2_scaled_54 rfl rfl (by decide) rfl ?_
        refine wp_goto (tgt := 6) dX2_scaled_57 rfl ?_
        refine wp_sub (ls' := [(0, rv (some a0)), (3, .int x3), (4, .double r12), (6, .int (x6 + 1))]) [2, 3, 1, 0] rfl ?_
        exact h
theorem C_X2_scaled {d : Nat} {q : HP → UInt64 → Prop} {a0 : Nat} {x1 : UInt64} {x3 : Int32} {H : HP} (h : wb_X2_scaled_0 d q a0 x1 x3 H) : CD (d + 1) 0 0 mX2_scaled [rv (some a0), .double x1, .int x3] H q := by
  refine call_of (by decide +kernel) (by simp [lg_sl, rv_cat, vc_int, vc_long, vc_float, vc_double]) ?_
  have e : lv_args 0 [rv (some a0), .double x1, .int x3] = [(0, rv (some a0)), (1, .double x1), (3, .int x3)] := by simp [lv_args, rv_cat, vc_int, vc_long, vc_float, vc_double]
  rw [e]
  exact T_X2_scaled_0 h
def wb_X2_toDouble_0 (d : Nat) (q : HP → UInt64 → Prop) (a0 : Nat) (x1 : Int64) (H : HP) : Prop :=
  tg H a0 = 3 ∧ (CD d 0 0 mX2_fromBits [rv (some a0), .long x1, .int (52 : Int32), .int (1023 : Int32)] H (fun H1 r3 => ((0 : Int64) ≤ x1 → q H1 r3) ∧ (¬ ((0 : Int64) ≤ x1) → q H1 (FP.dneg r3))))
set_option maxRecDepth 40000 in
set_option maxHeartbeats 4000000 in
theorem T_X2_toDouble_0 {d : Nat} {q : HP → UInt64 → Prop} {a0 : Nat} {x1 : Int64} {H : HP} (h : wb_X2_toDouble_0 d q a0 x1 H) : WP (d + 1) mX2_toDouble 0 0 0 [(0, rv (some a0)), (1, .long x1)] [] H (qD q) := by
  unfold wb_X2_toDouble_0 at h
  refine wp_aload_n 0 dX2_toDouble_0 rfl ?_
  refine wp_lload_n 1 dX2_toDouble_1 rfl ?_
  refine wp_bipush (v := (52 : Int32)) dX2_toDouble_2 (by decide) ?_
  refine wp_sipush (v := (1023 : Int32)) dX2_toDouble_4 (by decide) ?_
  obtain ⟨ht2, h⟩ := h
  refine wp_callV (ci := 2) (As := [.long x1, .int (52 : Int32), .int (1023 : Int32)]) (rest := []) (mc := 0) (ms := 0) dX2_toDouble_7 lk_X2_35 rfl rfl (by decide) rfl rfl rfl ht2 rfl rfl rfl w_5_101 (Call.weaken h ?_)
  rintro H1 _ ⟨r3, rfl, h⟩
  change WP _ _ _ _ _ _ [.double r3] H1 _
  refine wp_dstore_n (ls' := [(3, .double r3), (0, rv (some a0)), (1, .long x1)]) dX2_toDouble_10 (by decide) rfl ?_
  refine wp_lload_n 2 dX2_toDouble_11 rfl ?_
  refine wp_lconst (v := (0 : Int64)) dX2_toDouble_12 (by decide) ?_
  refine wp_lcmp dX2_toDouble_13 ?_
  refine wp_if_ge (tgt := 22) dX2_toDouble_14 rfl (fun c => ?_) (fun c => ?_)
  · replace h := h.1 (lgc_ge.mp c)
    refine wp_dload_n 0 dX2_toDouble_22 rfl ?_
    exact wp_dreturn dX2_toDouble_23 rfl ⟨_, rfl, h⟩
  · replace h := h.2 (fun z => c (lgc_ge.mpr z))
    refine wp_dload_n 0 dX2_toDouble_17 rfl ?_
    refine wp_dneg dX2_toDouble_18 ?_
    refine wp_goto (tgt := 23) dX2_toDouble_19 rfl ?_
    exact wp_dreturn dX2_toDouble_23 rfl ⟨_, rfl, h⟩
theorem C_X2_toDouble {d : Nat} {q : HP → UInt64 → Prop} {a0 : Nat} {x1 : Int64} {H : HP} (h : wb_X2_toDouble_0 d q a0 x1 H) : CD (d + 1) 0 0 mX2_toDouble [rv (some a0), .long x1] H q := by
  refine call_of (by decide +kernel) (by simp [lg_sl, rv_cat, vc_int, vc_long, vc_float, vc_double]) ?_
  have e : lv_args 0 [rv (some a0), .long x1] = [(0, rv (some a0)), (1, .long x1)] := by simp [lv_args, rv_cat, vc_int, vc_long, vc_float, vc_double]
  rw [e]
  exact T_X2_toDouble_0 h
def wb_X2_toFloat_0 (d : Nat) (q : HP → UInt64 → Prop) (a0 : Nat) (x1 : Int64) (H : HP) : Prop :=
  tg H a0 = 3 ∧ (CD d 0 0 mX2_fromBits [rv (some a0), .long x1, .int (23 : Int32), .int (127 : Int32)] H (fun H1 r3 => ((x1 &&& (2147483648 : Int64)) = (0 : Int64) → q H1 r3) ∧ (¬ ((x1 &&& (2147483648 : Int64)) = (0 : Int64)) → q H1 (FP.dneg r3))))
set_option maxRecDepth 40000 in
set_option maxHeartbeats 4000000 in
theorem T_X2_toFloat_0 {d : Nat} {q : HP → UInt64 → Prop} {a0 : Nat} {x1 : Int64} {H : HP} (h : wb_X2_toFloat_0 d q a0 x1 H) : WP (d + 1) mX2_toFloat 0 0 0 [(0, rv (some a0)), (1, .long x1)] [] H (qD q) := by
  unfold wb_X2_toFloat_0 at h
  refine wp_aload_n 0 dX2_toFloat_0 rfl ?_
  refine wp_lload_n 1 dX2_toFloat_1 rfl ?_
  refine wp_bipush (v := (23 : Int32)) dX2_toFloat_2 (by decide) ?_
  refine wp_bipush (v := (127 : Int32)) dX2_toFloat_4 (by decide) ?_
  obtain ⟨ht2, h⟩ := h
  refine wp_callV (ci := 2) (As := [.long x1, .int (23 : Int32), .int (127 : Int32)]) (rest := []) (mc := 0) (ms := 0) dX2_toFloat_6 lk_X2_35 rfl rfl (by decide) rfl rfl rfl ht2 rfl rfl rfl w_5_101 (Call.weaken h ?_)
  rintro H1 _ ⟨r3, rfl, h⟩
  change WP _ _ _ _ _ _ [.double r3] H1 _
  refine wp_dstore_n (ls' := [(3, .double r3), (0, rv (some a0)), (1, .long x1)]) dX2_toFloat_9 (by decide) rfl ?_
  refine wp_lload_n 2 dX2_toFloat_10 rfl ?_
  refine wp_ldc2 dX2_toFloat_11 w_4_220 ?_
  refine wp_land dX2_toFloat_14 ?_
  refine wp_lconst (v := (0 : Int64)) dX2_toFloat_15 (by decide) ?_
  refine wp_lcmp dX2_toFloat_16 ?_
  refine wp_if_eq (tgt := 25) dX2_toFloat_17 rfl (fun c => ?_) (fun c => ?_)
  · replace h := h.1 (lgc_eq.mp c)
    refine wp_dload_n 0 dX2_toFloat_25 rfl ?_
    exact wp_dreturn dX2_toFloat_26 rfl ⟨_, rfl, h⟩
  · replace h := h.2 (fun z => c (lgc_eq.mpr z))
    refine wp_dload_n 0 dX2_toFloat_20 rfl ?_
    refine wp_dneg dX2_toFloat_21 ?_
    refine wp_goto (tgt := 26) dX2_toFloat_22 rfl ?_
    exact wp_dreturn dX2_toFloat_26 rfl ⟨_, rfl, h⟩
theorem C_X2_toFloat {d : Nat} {q : HP → UInt64 → Prop} {a0 : Nat} {x1 : Int64} {H : HP} (h : wb_X2_toFloat_0 d q a0 x1 H) : CD (d + 1) 0 0 mX2_toFloat [rv (some a0), .long x1] H q := by
  refine call_of (by decide +kernel) (by simp [lg_sl, rv_cat, vc_int, vc_long, vc_float, vc_double]) ?_
  have e : lv_args 0 [rv (some a0), .long x1] = [(0, rv (some a0)), (1, .long x1)] := by simp [lv_args, rv_cat, vc_int, vc_long, vc_float, vc_double]
  rw [e]
  exact T_X2_toFloat_0 h
def wb_X2_topExponent_0 (d : Nat) (q : HP → Int64 → Prop) (x0 : Int32) (H : HP) : Prop :=
  q H (((2 : Int64) * (x0.toInt64)) + (1 : Int64))
set_option maxRecDepth 40000 in
set_option maxHeartbeats 4000000 in
theorem T_X2_topExponent_0 {d : Nat} {q : HP → Int64 → Prop} {x0 : Int32} {H : HP} (h : wb_X2_topExponent_0 d q x0 H) : WP (d + 1) mX2_topExponent 0 0 0 [(0, .int x0)] [] H (qJ q) := by
  unfold wb_X2_topExponent_0 at h
  refine wp_ldc2 dX2_topExponent_0 w_4_202 ?_
  refine wp_iload_n 0 dX2_topExponent_3 rfl ?_
  refine wp_i2l dX2_topExponent_4 ?_
  refine wp_lmul dX2_topExponent_5 ?_
  refine wp_lconst (v := (1 : Int64)) dX2_topExponent_6 (by decide) ?_
  refine wp_ladd dX2_topExponent_7 ?_
  exact wp_lreturn dX2_topExponent_8 rfl ⟨_, rfl, h⟩
theorem C_X2_topExponent {d : Nat} {q : HP → Int64 → Prop} {x0 : Int32} {H : HP} (h : wb_X2_topExponent_0 d q x0 H) : CJ (d + 1) 0 0 mX2_topExponent [.int x0] H q := by
  refine call_of (by decide +kernel) (by simp [lg_sl, rv_cat, vc_int, vc_long, vc_float, vc_double]) ?_
  have e : lv_args 0 [.int x0] = [(0, .int x0)] := by simp [lv_args, rv_cat, vc_int, vc_long, vc_float, vc_double]
  rw [e]
  exact T_X2_topExponent_0 h
def wb_X3_add_0 (d : Nat) (q : HP → Bool → Prop) (a0 : Nat) (o1 : Option Nat) (H : HP) : Prop :=
  ∃ a1, o1 = some a1 ∧ (tg H a1 = 4 ∧ (tg H a0 = 4 ∧ (CZ d 0 0 mX3_addUp [rv (some a0), .long (hL H 400 a1 0), .long (hL H 401 a1 0)] H (fun H3 b5 => q H3 b5))))
set_option maxRecDepth 40000 in
set_option maxHeartbeats 4000000 in
theorem T_X3_add_0 {d : Nat} {q : HP → Bool → Prop} {a0 : Nat} {o1 : Option Nat} {H : HP} (h : wb_X3_add_0 d q a0 o1 H) : WP (d + 1) mX3_add 0 0 0 [(0, rv (some a0)), (1, rv o1)] [] H (qZ q) := by
  unfold wb_X3_add_0 at h
  refine wp_aload_n 0 dX3_add_0 rfl ?_
  refine wp_aload_n 1 dX3_add_1 rfl ?_
  obtain ⟨a1, ha1, h⟩ := h
  obtain ⟨ht2, h⟩ := h
  refine wp_getL (ci := 3) (j := 0) dX3_add_2 fi_X3_9r rfl ha1 ht2 ?_
  change WP _ _ _ _ _ _ (.long (hL H 400 a1 0) :: _) _ _
  refine wp_aload_n 1 dX3_add_5 rfl ?_
  refine wp_getL (ci := 3) (j := 1) dX3_add_6 fi_X3_15r rfl ha1 ht2 ?_
  change WP _ _ _ _ _ _ (.long (hL H 401 a1 0) :: _) _ _
  obtain ⟨ht4, h⟩ := h
  refine wp_callV (ci := 3) (As := [.long (hL H 400 a1 0), .long (hL H 401 a1 0)]) (rest := []) (mc := 0) (ms := 0) dX3_add_9 lk_X3_31 rfl rfl (by decide) rfl rfl rfl ht4 rfl rfl rfl w_4_92 (Call.weaken h ?_)
  rintro H3 _ ⟨b5, rfl, h⟩
  change WP _ _ _ _ _ _ [.int (bI b5)] H3 _
  exact wp_ireturn (ty := .boolean) dX3_add_12 rfl (nar_bI _).1 ⟨b5, rfl, h⟩
theorem C_X3_add {d : Nat} {q : HP → Bool → Prop} {a0 : Nat} {o1 : Option Nat} {H : HP} (h : wb_X3_add_0 d q a0 o1 H) : CZ (d + 1) 0 0 mX3_add [rv (some a0), rv o1] H q := by
  refine call_of (by decide +kernel) (by simp [lg_sl, rv_cat, vc_int, vc_long, vc_float, vc_double]) ?_
  have e : lv_args 0 [rv (some a0), rv o1] = [(0, rv (some a0)), (1, rv o1)] := by simp [lv_args, rv_cat, vc_int, vc_long, vc_float, vc_double]
  rw [e]
  exact T_X3_add_0 h
def wb_X3_addUp_0 (d : Nat) (q : HP → Bool → Prop) (a0 : Nat) (x1 : Int64) (x3 : Int64) (H : HP) : Prop :=
  tg H a0 = 4 ∧ (CJ d 0 0 mX3_commonDivisor [.long (hL H 401 a0 0), .long x3] H (fun H2 r3 => tg H2 a0 = 4 ∧ (¬ r3 = 0 ∧ (CJ d 0 0 mX3_product [.long (hL H2 400 a0 0), .long (x3 / r3)] H2 (fun H6 r7 => tg H6 a0 = 4 ∧ (¬ r3 = 0 ∧ (CJ d 0 0 mX3_product [.long x1, .long ((hL H6 401 a0 0) / r3)] H6 (fun H10 r11 => CJ d 0 0 mX3_total [.long r7, .long r11] H10 (fun H12 r13 => tg H12 a0 = 4 ∧ (¬ r3 = 0 ∧ (CJ d 0 0 mX3_product [.long (hL H12 401 a0 0), .long (x3 / r3)] H12 (fun H16 r17 => (r13 = (-9223372036854775808 : Int64) → q H16 false) ∧ (¬ (r13 = (-9223372036854775808 : Int64)) → (¬ r17 = (-9223372036854775808 : Int64) → CJ d 0 0 mX3_commonDivisor [.long r13, .long r17] H16 (fun H18 r19 => ¬ r19 = 0 ∧ (tg H18 a0 = 4 ∧ (¬ r19 = 0 ∧ (q (sL (sL H18 400 a0 0 (r13 / r19)) 401 a0 0 (r17 / r19)) true))))) ∧ (r17 = (-9223372036854775808 : Int64) → q H16 false))))))))))))))
set_option maxRecDepth 40000 in
set_option maxHeartbeats 4000000 in
theorem T_X3_addUp_0 {d : Nat} {q : HP → Bool → Prop} {a0 : Nat} {x1 : Int64} {x3 : Int64} {H : HP} (h : wb_X3_addUp_0 d q a0 x1 x3 H) : WP (d + 1) mX3_addUp 0 0 0 [(0, rv (some a0)), (1, .long x1), (3, .long x3)] [] H (qZ q) := by
  unfold wb_X3_addUp_0 at h
  refine wp_aload_n 0 dX3_addUp_0 rfl ?_
  obtain ⟨ht1, h⟩ := h
  refine wp_getL (ci := 3) (j := 1) dX3_addUp_1 fi_X3_15r rfl rfl ht1 ?_
  change WP _ _ _ _ _ _ (.long (hL H 401 a0 0) :: _) _ _
  refine wp_lload_n 2 dX3_addUp_4 rfl ?_
  refine wp_callS (As := [.long (hL H 401 a0 0), .long x3]) (rest := []) (mc := 0) (ms := 0) dX3_addUp_5 lk_X3_18 rfl rfl (by decide) rfl rfl rfl (Call.weaken h ?_)
  rintro H2 _ ⟨r3, rfl, h⟩
  change WP _ _ _ _ _ _ [.long r3] H2 _
  refine wp_lstore (ls' := [(5, .long r3), (0, rv (some a0)), (1, .long x1), (3, .long x3)]) dX3_addUp_8 (by decide) rfl ?_
  refine wp_aload_n 1 dX3_addUp_10 rfl ?_
  obtain ⟨ht4, h⟩ := h
  refine wp_getL (ci := 3) (j := 0) dX3_addUp_11 fi_X3_9r rfl rfl ht4 ?_
  change WP _ _ _ _ _ _ (.long (hL H2 400 a0 0) :: _) _ _
  refine wp_lload_n 3 dX3_addUp_14 rfl ?_
  refine wp_lload 0 dX3_addUp_15 rfl ?_
  obtain ⟨hg5, h⟩ := h
  refine wp_ldiv dX3_addUp_17 hg5 ?_
  refine wp_callS (As := [.long (hL H2 400 a0 0), .long (x3 / r3)]) (rest := []) (mc := 0) (ms := 0) dX3_addUp_18 lk_X3_28 rfl rfl (by decide) rfl rfl rfl (Call.weaken h ?_)
  rintro H6 _ ⟨r7, rfl, h⟩
  change WP _ _ _ _ _ _ [.long r7] H6 _
  refine wp_lload_n 2 dX3_addUp_21 rfl ?_
  refine wp_aload_n 1 dX3_addUp_22 rfl ?_
  obtain ⟨ht8, h⟩ := h
  refine wp_getL (ci := 3) (j := 1) dX3_addUp_23 fi_X3_15r rfl rfl ht8 ?_
  change WP _ _ _ _ _ _ (.long (hL H6 401 a0 0) :: _) _ _
  refine wp_lload 0 dX3_addUp_26 rfl ?_
  obtain ⟨hg9, h⟩ := h
  refine wp_ldiv dX3_addUp_28 hg9 ?_
  refine wp_callS (As := [.long x1, .long ((hL H6 401 a0 0) / r3)]) (rest := [.long r7]) (mc := 0) (ms := 0) dX3_addUp_29 lk_X3_28 rfl rfl (by simp [rv_cat, vc_int, vc_long, vc_float, vc_double]) rfl rfl rfl (Call.weaken h ?_)
  rintro H10 _ ⟨r11, rfl, h⟩
  change WP _ _ _ _ _ _ [.long r11, .long r7] H10 _
  refine wp_callS (As := [.long r7, .long r11]) (rest := []) (mc := 0) (ms := 0) dX3_addUp_32 lk_X3_34 rfl rfl (by decide) rfl rfl rfl (Call.weaken h ?_)
  rintro H12 _ ⟨r13, rfl, h⟩
  change WP _ _ _ _ _ _ [.long r13] H12 _
  refine wp_lstore (ls' := [(7, .long r13), (5, .long r3), (0, rv (some a0)), (1, .long x1), (3, .long x3)]) dX3_addUp_35 (by decide) rfl ?_
  refine wp_aload_n 2 dX3_addUp_37 rfl ?_
  obtain ⟨ht14, h⟩ := h
  refine wp_getL (ci := 3) (j := 1) dX3_addUp_38 fi_X3_15r rfl rfl ht14 ?_
  change WP _ _ _ _ _ _ (.long (hL H12 401 a0 0) :: _) _ _
  refine wp_lload_n 4 dX3_addUp_41 rfl ?_
  refine wp_lload 1 dX3_addUp_42 rfl ?_
  obtain ⟨hg15, h⟩ := h
  refine wp_ldiv dX3_addUp_44 hg15 ?_
  refine wp_callS (As := [.long (hL H12 401 a0 0), .long (x3 / r3)]) (rest := []) (mc := 0) (ms := 0) dX3_addUp_45 lk_X3_28 rfl rfl (by decide) rfl rfl rfl (Call.weaken h ?_)
  rintro H16 _ ⟨r17, rfl, h⟩
  change WP _ _ _ _ _ _ [.long r17] H16 _
  refine wp_lstore (ls' := [(9, .long r17), (7, .long r13), (5, .long r3), (0, rv (some a0)), (1, .long x1), (3, .long x3)]) dX3_addUp_48 (by decide) rfl ?_
  refine wp_lload 1 dX3_addUp_50 rfl ?_
  refine wp_ldc2 dX3_addUp_52 w_3_120 ?_
  refine wp_lcmp dX3_addUp_55 ?_
  refine wp_if_eq (tgt := 68) dX3_addUp_56 rfl (fun c => ?_) (fun c => ?_)
  · replace h := h.1 (lgc_eq.mp c)
    refine wp_iconst (v := (0 : Int32)) dX3_addUp_68 (by decide) ?_
    exact wp_ireturn (ty := .boolean) dX3_addUp_69 rfl rfl ⟨false, rfl, h⟩
  · replace h := h.2 (fun z => c (lgc_eq.mpr z))
    refine wp_lload 0 dX3_addUp_59 rfl ?_
    refine wp_ldc2 dX3_addUp_61 w_3_120 ?_
    refine wp_lcmp dX3_addUp_64 ?_
    refine wp_if_ne (tgt := 70) dX3_addUp_65 rfl (fun c => ?_) (fun c => ?_)
    · replace h := h.1 (fun z => c (lgc_eq.mpr z))
      refine wp_lload 1 dX3_addUp_70 rfl ?_
      refine wp_lload 0 dX3_addUp_72 rfl ?_
      refine wp_callS (As := [.long r13, .long r17]) (rest := []) (mc := 0) (ms := 0) dX3_addUp_74 lk_X3_18 rfl rfl (by decide) rfl rfl rfl (Call.weaken h ?_)
      rintro H18 _ ⟨r19, rfl, h⟩
      change WP _ _ _ _ _ _ [.long r19] H18 _
      refine wp_lstore (ls' := [(11, .long r19), (9, .long r17), (7, .long r13), (5, .long r3), (0, rv (some a0)), (1, .long x1), (3, .long x3)]) dX3_addUp_77 (by decide) rfl ?_
      refine wp_aload_n 4 dX3_addUp_79 rfl ?_
      refine wp_lload 2 dX3_addUp_80 rfl ?_
      refine wp_lload 0 dX3_addUp_82 rfl ?_
      obtain ⟨hg20, h⟩ := h
      refine wp_ldiv dX3_addUp_84 hg20 ?_
      obtain ⟨ht21, h⟩ := h
      refine wp_putL (ci := 3) (j := 0) dX3_addUp_85 fi_X3_9 rfl (fun z => by cases z) rfl ht21 rfl rfl ?_
      change WP _ _ _ _ _ _ _ (sL H18 400 a0 0 (r13 / r19)) _
      refine wp_aload_n 4 dX3_addUp_88 rfl ?_
      refine wp_lload 1 dX3_addUp_89 rfl ?_
      refine wp_lload 0 dX3_addUp_91 rfl ?_
      obtain ⟨hg22, h⟩ := h
      refine wp_ldiv dX3_addUp_93 hg22 ?_
      refine wp_putL (ci := 3) (j := 1) dX3_addUp_94 fi_X3_15 rfl (fun z => by cases z) rfl ht21 rfl rfl ?_
      change WP _ _ _ _ _ _ _ (sL (sL H18 400 a0 0 (r13 / r19)) 401 a0 0 (r17 / r19)) _
      refine wp_iconst (v := (1 : Int32)) dX3_addUp_97 (by decide) ?_
      exact wp_ireturn (ty := .boolean) dX3_addUp_98 rfl rfl ⟨true, rfl, h⟩
    · replace h := h.2 (lgc_eq.mp c)
      refine wp_iconst (v := (0 : Int32)) dX3_addUp_68 (by decide) ?_
      exact wp_ireturn (ty := .boolean) dX3_addUp_69 rfl rfl ⟨false, rfl, h⟩
theorem C_X3_addUp {d : Nat} {q : HP → Bool → Prop} {a0 : Nat} {x1 : Int64} {x3 : Int64} {H : HP} (h : wb_X3_addUp_0 d q a0 x1 x3 H) : CZ (d + 1) 0 0 mX3_addUp [rv (some a0), .long x1, .long x3] H q := by
  refine call_of (by decide +kernel) (by simp [lg_sl, rv_cat, vc_int, vc_long, vc_float, vc_double]) ?_
  have e : lv_args 0 [rv (some a0), .long x1, .long x3] = [(0, rv (some a0)), (1, .long x1), (3, .long x3)] := by simp [lv_args, rv_cat, vc_int, vc_long, vc_float, vc_double]
  rw [e]
  exact T_X3_addUp_0 h
def wb_X3_asDouble_0 (d : Nat) (q : HP → UInt64 → Prop) (a0 : Nat) (H : HP) : Prop :=
  tg H a0 = 4 ∧ (∀ r2, alike64 r2 (FP.ddiv (FP.l2d (hL H 400 a0 0)) (FP.l2d (hL H 401 a0 0))) = true → (q H r2))
set_option maxRecDepth 40000 in
set_option maxHeartbeats 4000000 in
theorem T_X3_asDouble_0 {d : Nat} {q : HP → UInt64 → Prop} {a0 : Nat} {H : HP} (h : wb_X3_asDouble_0 d q a0 H) : WP (d + 1) mX3_asDouble 0 0 0 [(0, rv (some a0))] [] H (qD q) := by
  unfold wb_X3_asDouble_0 at h
  refine wp_aload_n 0 dX3_asDouble_0 rfl ?_
  obtain ⟨ht1, h⟩ := h
  refine wp_getL (ci := 3) (j := 0) dX3_asDouble_1 fi_X3_9r rfl rfl ht1 ?_
  change WP _ _ _ _ _ _ (.long (hL H 400 a0 0) :: _) _ _
  refine wp_l2d dX3_asDouble_4 ?_
  refine wp_aload_n 0 dX3_asDouble_5 rfl ?_
  refine wp_getL (ci := 3) (j := 1) dX3_asDouble_6 fi_X3_15r rfl rfl ht1 ?_
  change WP _ _ _ _ _ _ (.long (hL H 401 a0 0) :: _) _ _
  refine wp_l2d dX3_asDouble_9 ?_
  refine wp_ddiv dX3_asDouble_10 (fun r2 hr2 => ?_)
  replace h := h r2 hr2
  exact wp_dreturn dX3_asDouble_11 rfl ⟨_, rfl, h⟩
theorem C_X3_asDouble {d : Nat} {q : HP → UInt64 → Prop} {a0 : Nat} {H : HP} (h : wb_X3_asDouble_0 d q a0 H) : CD (d + 1) 0 0 mX3_asDouble [rv (some a0)] H q := by
  refine call_of (by decide +kernel) (by simp [lg_sl, rv_cat, vc_int, vc_long, vc_float, vc_double]) ?_
  have e : lv_args 0 [rv (some a0)] = [(0, rv (some a0))] := by simp [lv_args, rv_cat, vc_int, vc_long, vc_float, vc_double]
  rw [e]
  exact T_X3_asDouble_0 h
/-- UnitProver$Fraction.commonDivisor(JJ)J: the loop at 31 -/
def L_X3_commonDivisor_31 (d : Nat) (q : HP → Int64 → Prop) (x4 : Int64) (x6 : Int64) (x8 : Int32) (H : HP) : Prop := WP (d + 1) mX3_commonDivisor 0 0 31 [(4, .long x4), (6, .long x6), (8, .int x8)] [] H (qJ q)
def wb_X3_commonDivisor_0 (d : Nat) (q : HP → Int64 → Prop) (x0 : Int64) (x2 : Int64) (H : HP) : Prop :=
  ((0 : Int64) ≤ x0 → ((0 : Int64) ≤ x2 → L_X3_commonDivisor_31 d q x0 x2 (0 : Int32) H) ∧ (¬ ((0 : Int64) ≤ x2) → L_X3_commonDivisor_31 d q x0 (-x2) (0 : Int32) H)) ∧ (¬ ((0 : Int64) ≤ x0) → ((0 : Int64) ≤ x2 → L_X3_commonDivisor_31 d q (-x0) x2 (0 : Int32) H) ∧ (¬ ((0 : Int64) ≤ x2) → L_X3_commonDivisor_31 d q (-x0) (-x2) (0 : Int32) H))
set_option maxRecDepth 40000 in
set_option maxHeartbeats 4000000 in
theorem T_X3_commonDivisor_0 {d : Nat} {q : HP → Int64 → Prop} {x0 : Int64} {x2 : Int64} {H : HP} (h : wb_X3_commonDivisor_0 d q x0 x2 H) : WP (d + 1) mX3_commonDivisor 0 0 0 [(0, .long x0), (2, .long x2)] [] H (qJ q) := by
  unfold wb_X3_commonDivisor_0 at h
  refine wp_lload_n 0 dX3_commonDivisor_0 rfl ?_
  refine wp_lconst (v := (0 : Int64)) dX3_commonDivisor_1 (by decide) ?_
  refine wp_lcmp dX3_commonDivisor_2 ?_
  refine wp_if_ge (tgt := 11) dX3_commonDivisor_3 rfl (fun c => ?_) (fun c => ?_)
  · replace h := h.1 (lgc_ge.mp c)
    refine wp_lload_n 0 dX3_commonDivisor_11 rfl ?_
    refine wp_lstore (ls' := [(4, .long x0), (0, .long x0), (2, .long x2)]) dX3_commonDivisor_12 (by decide) rfl ?_
    refine wp_lload_n 2 dX3_commonDivisor_14 rfl ?_
    refine wp_lconst (v := (0 : Int64)) dX3_commonDivisor_15 (by decide) ?_
    refine wp_lcmp dX3_commonDivisor_16 ?_
    refine wp_if_ge (tgt := 25) dX3_commonDivisor_17 rfl (fun c => ?_) (fun c => ?_)
    · replace h := h.1 (lgc_ge.mp c)
      refine wp_lload_n 2 dX3_commonDivisor_25 rfl ?_
      refine wp_lstore (ls' := [(6, .long x2), (4, .long x0), (0, .long x0), (2, .long x2)]) dX3_commonDivisor_26 (by decide) rfl ?_
      refine wp_iconst (v := (0 : Int32)) dX3_commonDivisor_28 (by decide) ?_
      refine wp_istore (ls' := [(8, .int (0 : Int32)), (6, .long x2), (4, .long x0), (0, .long x0), (2, .long x2)]) dX3_commonDivisor_29 (by decide) rfl ?_
      refine wp_sub (ls' := [(4, .long x0), (6, .long x2), (8, .int (0 : Int32))]) [2, 1, 0] rfl ?_
      exact h
    · replace h := h.2 (fun z => c (lgc_ge.mpr z))
      refine wp_lload_n 2 dX3_commonDivisor_20 rfl ?_
      refine wp_lneg dX3_commonDivisor_21 ?_
      refine wp_goto (tgt := 26) dX3_commonDivisor_22 rfl ?_
      refine wp_lstore (ls' := [(6, .long (-x2)), (4, .long x0), (0, .long x0), (2, .long x2)]) dX3_commonDivisor_26 (by decide) rfl ?_
      refine wp_iconst (v := (0 : Int32)) dX3_commonDivisor_28 (by decide) ?_
      refine wp_istore (ls' := [(8, .int (0 : Int32)), (6, .long (-x2)), (4, .long x0), (0, .long x0), (2, .long x2)]) dX3_commonDivisor_29 (by decide) rfl ?_
      refine wp_sub (ls' := [(4, .long x0), (6, .long (-x2)), (8, .int (0 : Int32))]) [2, 1, 0] rfl ?_
      exact h
  · replace h := h.2 (fun z => c (lgc_ge.mpr z))
    refine wp_lload_n 0 dX3_commonDivisor_6 rfl ?_
    refine wp_lneg dX3_commonDivisor_7 ?_
    refine wp_goto (tgt := 12) dX3_commonDivisor_8 rfl ?_
    refine wp_lstore (ls' := [(4, .long (-x0)), (0, .long x0), (2, .long x2)]) dX3_commonDivisor_12 (by decide) rfl ?_
    refine wp_lload_n 2 dX3_commonDivisor_14 rfl ?_
    refine wp_lconst (v := (0 : Int64)) dX3_commonDivisor_15 (by decide) ?_
    refine wp_lcmp dX3_commonDivisor_16 ?_
    refine wp_if_ge (tgt := 25) dX3_commonDivisor_17 rfl (fun c => ?_) (fun c => ?_)
    · replace h := h.1 (lgc_ge.mp c)
      refine wp_lload_n 2 dX3_commonDivisor_25 rfl ?_
      refine wp_lstore (ls' := [(6, .long x2), (4, .long (-x0)), (0, .long x0), (2, .long x2)]) dX3_commonDivisor_26 (by decide) rfl ?_
      refine wp_iconst (v := (0 : Int32)) dX3_commonDivisor_28 (by decide) ?_
      refine wp_istore (ls' := [(8, .int (0 : Int32)), (6, .long x2), (4, .long (-x0)), (0, .long x0), (2, .long x2)]) dX3_commonDivisor_29 (by decide) rfl ?_
      refine wp_sub (ls' := [(4, .long (-x0)), (6, .long x2), (8, .int (0 : Int32))]) [2, 1, 0] rfl ?_
      exact h
    · replace h := h.2 (fun z => c (lgc_ge.mpr z))
      refine wp_lload_n 2 dX3_commonDivisor_20 rfl ?_
      refine wp_lneg dX3_commonDivisor_21 ?_
      refine wp_goto (tgt := 26) dX3_commonDivisor_22 rfl ?_
      refine wp_lstore (ls' := [(6, .long (-x2)), (4, .long (-x0)), (0, .long x0), (2, .long x2)]) dX3_commonDivisor_26 (by decide) rfl ?_
      refine wp_iconst (v := (0 : Int32)) dX3_commonDivisor_28 (by decide) ?_
      refine wp_istore (ls' := [(8, .int (0 : Int32)), (6, .long (-x2)), (4, .long (-x0)), (0, .long x0), (2, .long x2)]) dX3_commonDivisor_29 (by decide) rfl ?_
      refine wp_sub (ls' := [(4, .long (-x0)), (6, .long (-x2)), (8, .int (0 : Int32))]) [2, 1, 0] rfl ?_
      exact h
def wb_X3_commonDivisor_31 (d : Nat) (q : HP → Int64 → Prop) (x4 : Int64) (x6 : Int64) (x8 : Int32) (H : HP) : Prop :=
  ((200 : Int32) ≤ x8 → ((1 : Int64) ≤ x4 → q H x4) ∧ (¬ ((1 : Int64) ≤ x4) → q H (1 : Int64))) ∧ (¬ ((200 : Int32) ≤ x8) → (x6 = (0 : Int64) → ((1 : Int64) ≤ x4 → q H x4) ∧ (¬ ((1 : Int64) ≤ x4) → q H (1 : Int64))) ∧ (¬ (x6 = (0 : Int64)) → ¬ x6 = 0 ∧ (L_X3_commonDivisor_31 d q x6 (x4 - x4 / x6 * x6) (x8 + 1) H)))
set_option maxRecDepth 40000 in
set_option maxHeartbeats 4000000 in
theorem T_X3_commonDivisor_31 {d : Nat} {q : HP → Int64 → Prop} {x4 : Int64} {x6 : Int64} {x8 : Int32} {H : HP} (h : wb_X3_commonDivisor_31 d q x4 x6 x8 H) : L_X3_commonDivisor_31 d q x4 x6 x8 H := by
  unfold wb_X3_commonDivisor_31 at h
  unfold L_X3_commonDivisor_31
  refine wp_iload 2 dX3_commonDivisor_31 rfl ?_
  refine wp_sipush (v := (200 : Int32)) dX3_commonDivisor_33 (by decide) ?_
  refine wp_icmp_ge (tgt := 67) dX3_commonDivisor_36 rfl (fun c => ?_) (fun c => ?_)
  · replace h := h.1 c
    refine wp_lload 0 dX3_commonDivisor_67 rfl ?_
    refine wp_lconst (v := (1 : Int64)) dX3_commonDivisor_69 (by decide) ?_
    refine wp_lcmp dX3_commonDivisor_70 ?_
    refine wp_if_ge (tgt := 78) dX3_commonDivisor_71 rfl (fun c => ?_) (fun c => ?_)
    · replace h := h.1 (lgc_ge.mp c)
      refine wp_lload 0 dX3_commonDivisor_78 rfl ?_
      exact wp_lreturn dX3_commonDivisor_80 rfl ⟨_, rfl, h⟩
    · replace h := h.2 (fun z => c (lgc_ge.mpr z))
      refine wp_lconst (v := (1 : Int64)) dX3_commonDivisor_74 (by decide) ?_
      refine wp_goto (tgt := 80) dX3_commonDivisor_75 rfl ?_
      exact wp_lreturn dX3_commonDivisor_80 rfl ⟨_, rfl, h⟩
  · replace h := h.2 c
    refine wp_lload 1 dX3_commonDivisor_39 rfl ?_
    refine wp_lconst (v := (0 : Int64)) dX3_commonDivisor_41 (by decide) ?_
    refine wp_lcmp dX3_commonDivisor_42 ?_
    refine wp_if_eq (tgt := 67) dX3_commonDivisor_43 rfl (fun c => ?_) (fun c => ?_)
    · replace h := h.1 (lgc_eq.mp c)
      refine wp_lload 0 dX3_commonDivisor_67 rfl ?_
      refine wp_lconst (v := (1 : Int64)) dX3_commonDivisor_69 (by decide) ?_
      refine wp_lcmp dX3_commonDivisor_70 ?_
      refine wp_if_ge (tgt := 78) dX3_commonDivisor_71 rfl (fun c => ?_) (fun c => ?_)
      · replace h := h.1 (lgc_ge.mp c)
        refine wp_lload 0 dX3_commonDivisor_78 rfl ?_
        exact wp_lreturn dX3_commonDivisor_80 rfl ⟨_, rfl, h⟩
      · replace h := h.2 (fun z => c (lgc_ge.mpr z))
        refine wp_lconst (v := (1 : Int64)) dX3_commonDivisor_74 (by decide) ?_
        refine wp_goto (tgt := 80) dX3_commonDivisor_75 rfl ?_
        exact wp_lreturn dX3_commonDivisor_80 rfl ⟨_, rfl, h⟩
    · replace h := h.2 (fun z => c (lgc_eq.mpr z))
      refine wp_lload 0 dX3_commonDivisor_46 rfl ?_
      refine wp_lload 1 dX3_commonDivisor_48 rfl ?_
      obtain ⟨hg1, h⟩ := h
      refine wp_lrem dX3_commonDivisor_50 hg1 ?_
      refine wp_lstore (ls' := [(9, .long (x4 - x4 / x6 * x6)), (4, .long x4), (6, .long x6), (8, .int x8)]) dX3_commonDivisor_51 (by decide) rfl ?_
      refine wp_lload 2 dX3_commonDivisor_53 rfl ?_
      refine wp_lstore (ls' := [(4, .long x6), (9, .long (x4 - x4 / x6 * x6)), (6, .long x6), (8, .int x8)]) dX3_commonDivisor_55 (by decide) rfl ?_
      refine wp_lload 1 dX3_commonDivisor_57 rfl ?_
      refine wp_lstore (ls' := [(6, .long (x4 - x4 / x6 * x6)), (4, .long x6), (9, .long (x4 - x4 / x6 * x6)), (8, .int x8)]) dX3_commonDivisor_59 (by decide) rfl ?_
      refine wp_iinc (v := (x8 + 1)) (ls' := [(8, .int (x8 + 1)), (6, .long (x4 - x4 / x6 * x6)), (4, .long x6), (9, .long (x4 - x4 / x6 * x6))]) 3 dX3_commonDivisor_61 rfl rfl (by decide) rfl ?_
      refine wp_goto (tgt := 31) dX3_commonDivisor_64 rfl ?_
      refine wp_sub (ls' := [(4, .long x6), (6, .long (x4 - x4 / x6 * x6)), (8, .int (x8 + 1))]) [2, 1, 0] rfl ?_
      exact h
theorem C_X3_commonDivisor {d : Nat} {q : HP → Int64 → Prop} {x0 : Int64} {x2 : Int64} {H : HP} (h : wb_X3_commonDivisor_0 d q x0 x2 H) : CJ (d + 1) 0 0 mX3_commonDivisor [.long x0, .long x2] H q := by
  refine call_of (by decide +kernel) (by simp [lg_sl, rv_cat, vc_int, vc_long, vc_float, vc_double]) ?_
  have e : lv_args 0 [.long x0, .long x2] = [(0, .long x0), (2, .long x2)] := by simp [lv_args, rv_cat, vc_int, vc_long, vc_float, vc_double]
  rw [e]
  exact T_X3_commonDivisor_0 h
/-- UnitProver$Fraction.compareWith(LUnitProver$Fraction;)I: the loop at 29 -/
def L_X3_compareWith_29 (d : Nat) (q : HP → Int32 → Prop) (x2 : Int64) (x4 : Int64) (x6 : Int64) (x8 : Int64) (x10 : Int32) (x11 : Int32) (H : HP) : Prop := WP (d + 1) mX3_compareWith 0 0 29 [(2, .long x2), (4, .long x4), (6, .long x6), (8, .long x8), (10, .int x10), (11, .int x11)] [] H (qI q)
def wb_X3_compareWith_0 (d : Nat) (q : HP → Int32 → Prop) (a0 : Nat) (o1 : Option Nat) (H : HP) : Prop :=
  tg H a0 = 4 ∧ (∃ a2, o1 = some a2 ∧ (tg H a2 = 4 ∧ (L_X3_compareWith_29 d q (hL H 400 a0 0) (hL H 401 a0 0) (hL H 400 a2 0) (hL H 401 a2 0) (1 : Int32) (0 : Int32) H)))
set_option maxRecDepth 40000 in
set_option maxHeartbeats 4000000 in
theorem T_X3_compareWith_0 {d : Nat} {q : HP → Int32 → Prop} {a0 : Nat} {o1 : Option Nat} {H : HP} (h : wb_X3_compareWith_0 d q a0 o1 H) : WP (d + 1) mX3_compareWith 0 0 0 [(0, rv (some a0)), (1, rv o1)] [] H (qI q) := by
  unfold wb_X3_compareWith_0 at h
  refine wp_aload_n 0 dX3_compareWith_0 rfl ?_
  obtain ⟨ht1, h⟩ := h
  refine wp_getL (ci := 3) (j := 0) dX3_compareWith_1 fi_X3_9r rfl rfl ht1 ?_
  change WP _ _ _ _ _ _ (.long (hL H 400 a0 0) :: _) _ _
  refine wp_lstore_n (ls' := [(2, .long (hL H 400 a0 0)), (0, rv (some a0)), (1, rv o1)]) dX3_compareWith_4 (by decide) (by change st2 _ 2 _ = _; simp [st2, rv_cat, vc_int, vc_long, vc_float, vc_double]) ?_
  refine wp_aload_n 1 dX3_compareWith_5 rfl ?_
  refine wp_getL (ci := 3) (j := 1) dX3_compareWith_6 fi_X3_15r rfl rfl ht1 ?_
  change WP _ _ _ _ _ _ (.long (hL H 401 a0 0) :: _) _ _
  refine wp_lstore (ls' := [(4, .long (hL H 401 a0 0)), (2, .long (hL H 400 a0 0)), (0, rv (some a0)), (1, rv o1)]) dX3_compareWith_9 (by decide) rfl ?_
  refine wp_aload_n 3 dX3_compareWith_11 rfl ?_
  obtain ⟨a2, ha2, h⟩ := h
  obtain ⟨ht3, h⟩ := h
  refine wp_getL (ci := 3) (j := 0) dX3_compareWith_12 fi_X3_9r rfl ha2 ht3 ?_
  change WP _ _ _ _ _ _ (.long (hL H 400 a2 0) :: _) _ _
  refine wp_lstore (ls' := [(6, .long (hL H 400 a2 0)), (4, .long (hL H 401 a0 0)), (2, .long (hL H 400 a0 0)), (0, rv (some a0)), (1, rv o1)]) dX3_compareWith_15 (by decide) rfl ?_
  refine wp_aload_n 4 dX3_compareWith_17 rfl ?_
  refine wp_getL (ci := 3) (j := 1) dX3_compareWith_18 fi_X3_15r rfl ha2 ht3 ?_
  change WP _ _ _ _ _ _ (.long (hL H 401 a2 0) :: _) _ _
  refine wp_lstore (ls' := [(8, .long (hL H 401 a2 0)), (6, .long (hL H 400 a2 0)), (4, .long (hL H 401 a0 0)), (2, .long (hL H 400 a0 0)), (0, rv (some a0)), (1, rv o1)]) dX3_compareWith_21 (by decide) rfl ?_
  refine wp_iconst (v := (1 : Int32)) dX3_compareWith_23 (by decide) ?_
  refine wp_istore (ls' := [(10, .int (1 : Int32)), (8, .long (hL H 401 a2 0)), (6, .long (hL H 400 a2 0)), (4, .long (hL H 401 a0 0)), (2, .long (hL H 400 a0 0)), (0, rv (some a0)), (1, rv o1)]) dX3_compareWith_24 (by decide) rfl ?_
  refine wp_iconst (v := (0 : Int32)) dX3_compareWith_26 (by decide) ?_
  refine wp_istore (ls' := [(11, .int (0 : Int32)), (10, .int (1 : Int32)), (8, .long (hL H 401 a2 0)), (6, .long (hL H 400 a2 0)), (4, .long (hL H 401 a0 0)), (2, .long (hL H 400 a0 0)), (0, rv (some a0)), (1, rv o1)]) dX3_compareWith_27 (by decide) rfl ?_
  refine wp_sub (ls' := [(2, .long (hL H 400 a0 0)), (4, .long (hL H 401 a0 0)), (6, .long (hL H 400 a2 0)), (8, .long (hL H 401 a2 0)), (10, .int (1 : Int32)), (11, .int (0 : Int32))]) [5, 4, 3, 2, 1, 0] rfl ?_
  exact h
def wb_X3_compareWith_29 (d : Nat) (q : HP → Int32 → Prop) (x2 : Int64) (x4 : Int64) (x6 : Int64) (x8 : Int64) (x10 : Int32) (x11 : Int32) (H : HP) : Prop :=
  ((200 : Int32) ≤ x11 → (¬ x4 = x8 → (¬ x4 = (0 : Int64) → q H (-x10)) ∧ (x4 = (0 : Int64) → q H x10)) ∧ (x4 = x8 → q H (0 : Int32))) ∧ (¬ ((200 : Int32) ≤ x11) → (x4 ≤ (0 : Int64) → (¬ x4 = x8 → (¬ x4 = (0 : Int64) → q H (-x10)) ∧ (x4 = (0 : Int64) → q H x10)) ∧ (x4 = x8 → q H (0 : Int32))) ∧ (¬ (x4 ≤ (0 : Int64)) → (x8 ≤ (0 : Int64) → (¬ x4 = x8 → (¬ x4 = (0 : Int64) → q H (-x10)) ∧ (x4 = (0 : Int64) → q H x10)) ∧ (x4 = x8 → q H (0 : Int32))) ∧ (¬ (x8 ≤ (0 : Int64)) → CJ d 0 0 mJ9_floorDiv_f86c9 [.long x2, .long x4] H (fun H1 r2 => CJ d 0 0 mJ9_floorDiv_f86c9 [.long x6, .long x8] H1 (fun H3 r4 => (r2 = r4 → L_X3_compareWith_29 d q x4 (x2 - (r2 * x4)) x8 (x6 - (r4 * x8)) (-x10) (x11 + 1) H3) ∧ (¬ (r2 = r4) → (r4 ≤ r2 → q H3 x10) ∧ (¬ (r4 ≤ r2) → q H3 (-x10))))))))
set_option maxRecDepth 40000 in
set_option maxHeartbeats 4000000 in
theorem T_X3_compareWith_29 {d : Nat} {q : HP → Int32 → Prop} {x2 : Int64} {x4 : Int64} {x6 : Int64} {x8 : Int64} {x10 : Int32} {x11 : Int32} {H : HP} (h : wb_X3_compareWith_29 d q x2 x4 x6 x8 x10 x11 H) : L_X3_compareWith_29 d q x2 x4 x6 x8 x10 x11 H := by
  unfold wb_X3_compareWith_29 at h
  unfold L_X3_compareWith_29
  refine wp_iload 5 dX3_compareWith_29 rfl ?_
  refine wp_sipush (v := (200 : Int32)) dX3_compareWith_31 (by decide) ?_
  refine wp_icmp_ge (tgt := 138) dX3_compareWith_34 rfl (fun c => ?_) (fun c => ?_)
  · replace h := h.1 c
    refine wp_lload 1 dX3_compareWith_138 rfl ?_
    refine wp_lload 3 dX3_compareWith_140 rfl ?_
    refine wp_lcmp dX3_compareWith_142 ?_
    refine wp_if_ne (tgt := 150) dX3_compareWith_143 rfl (fun c => ?_) (fun c => ?_)
    · replace h := h.1 (fun z => c (lgc_eq.mpr z))
      refine wp_lload 1 dX3_compareWith_150 rfl ?_
      refine wp_lconst (v := (0 : Int64)) dX3_compareWith_152 (by decide) ?_
      refine wp_lcmp dX3_compareWith_153 ?_
      refine wp_if_ne (tgt := 162) dX3_compareWith_154 rfl (fun c => ?_) (fun c => ?_)
      · replace h := h.1 (fun z => c (lgc_eq.mpr z))
        refine wp_iload 4 dX3_compareWith_162 rfl ?_
        refine wp_ineg dX3_compareWith_164 ?_
        exact wp_ireturn (ty := .int) dX3_compareWith_165 rfl rfl ⟨_, rfl, h⟩
      · replace h := h.2 (lgc_eq.mp c)
        refine wp_iload 4 dX3_compareWith_157 rfl ?_
        refine wp_goto (tgt := 165) dX3_compareWith_159 rfl ?_
        exact wp_ireturn (ty := .int) dX3_compareWith_165 rfl rfl ⟨_, rfl, h⟩
    · replace h := h.2 (lgc_eq.mp c)
      refine wp_iconst (v := (0 : Int32)) dX3_compareWith_146 (by decide) ?_
      refine wp_goto (tgt := 165) dX3_compareWith_147 rfl ?_
      exact wp_ireturn (ty := .int) dX3_compareWith_165 rfl rfl ⟨_, rfl, h⟩
  · replace h := h.2 c
    refine wp_lload 1 dX3_compareWith_37 rfl ?_
    refine wp_lconst (v := (0 : Int64)) dX3_compareWith_39 (by decide) ?_
    refine wp_lcmp dX3_compareWith_40 ?_
    refine wp_if_le (tgt := 138) dX3_compareWith_41 rfl (fun c => ?_) (fun c => ?_)
    · replace h := h.1 (lgc_le.mp c)
      refine wp_lload 1 dX3_compareWith_138 rfl ?_
      refine wp_lload 3 dX3_compareWith_140 rfl ?_
      refine wp_lcmp dX3_compareWith_142 ?_
      refine wp_if_ne (tgt := 150) dX3_compareWith_143 rfl (fun c => ?_) (fun c => ?_)
      · replace h := h.1 (fun z => c (lgc_eq.mpr z))
        refine wp_lload 1 dX3_compareWith_150 rfl ?_
        refine wp_lconst (v := (0 : Int64)) dX3_compareWith_152 (by decide) ?_
        refine wp_lcmp dX3_compareWith_153 ?_
        refine wp_if_ne (tgt := 162) dX3_compareWith_154 rfl (fun c => ?_) (fun c => ?_)
        · replace h := h.1 (fun z => c (lgc_eq.mpr z))
          refine wp_iload 4 dX3_compareWith_162 rfl ?_
          refine wp_ineg dX3_compareWith_164 ?_
          exact wp_ireturn (ty := .int) dX3_compareWith_165 rfl rfl ⟨_, rfl, h⟩
        · replace h := h.2 (lgc_eq.mp c)
          refine wp_iload 4 dX3_compareWith_157 rfl ?_
          refine wp_goto (tgt := 165) dX3_compareWith_159 rfl ?_
          exact wp_ireturn (ty := .int) dX3_compareWith_165 rfl rfl ⟨_, rfl, h⟩
      · replace h := h.2 (lgc_eq.mp c)
        refine wp_iconst (v := (0 : Int32)) dX3_compareWith_146 (by decide) ?_
        refine wp_goto (tgt := 165) dX3_compareWith_147 rfl ?_
        exact wp_ireturn (ty := .int) dX3_compareWith_165 rfl rfl ⟨_, rfl, h⟩
    · replace h := h.2 (fun z => c (lgc_le.mpr z))
      refine wp_lload 3 dX3_compareWith_44 rfl ?_
      refine wp_lconst (v := (0 : Int64)) dX3_compareWith_46 (by decide) ?_
      refine wp_lcmp dX3_compareWith_47 ?_
      refine wp_if_le (tgt := 138) dX3_compareWith_48 rfl (fun c => ?_) (fun c => ?_)
      · replace h := h.1 (lgc_le.mp c)
        refine wp_lload 1 dX3_compareWith_138 rfl ?_
        refine wp_lload 3 dX3_compareWith_140 rfl ?_
        refine wp_lcmp dX3_compareWith_142 ?_
        refine wp_if_ne (tgt := 150) dX3_compareWith_143 rfl (fun c => ?_) (fun c => ?_)
        · replace h := h.1 (fun z => c (lgc_eq.mpr z))
          refine wp_lload 1 dX3_compareWith_150 rfl ?_
          refine wp_lconst (v := (0 : Int64)) dX3_compareWith_152 (by decide) ?_
          refine wp_lcmp dX3_compareWith_153 ?_
          refine wp_if_ne (tgt := 162) dX3_compareWith_154 rfl (fun c => ?_) (fun c => ?_)
          · replace h := h.1 (fun z => c (lgc_eq.mpr z))
            refine wp_iload 4 dX3_compareWith_162 rfl ?_
            refine wp_ineg dX3_compareWith_164 ?_
            exact wp_ireturn (ty := .int) dX3_compareWith_165 rfl rfl ⟨_, rfl, h⟩
          · replace h := h.2 (lgc_eq.mp c)
            refine wp_iload 4 dX3_compareWith_157 rfl ?_
            refine wp_goto (tgt := 165) dX3_compareWith_159 rfl ?_
            exact wp_ireturn (ty := .int) dX3_compareWith_165 rfl rfl ⟨_, rfl, h⟩
        · replace h := h.2 (lgc_eq.mp c)
          refine wp_iconst (v := (0 : Int32)) dX3_compareWith_146 (by decide) ?_
          refine wp_goto (tgt := 165) dX3_compareWith_147 rfl ?_
          exact wp_ireturn (ty := .int) dX3_compareWith_165 rfl rfl ⟨_, rfl, h⟩
      · replace h := h.2 (fun z => c (lgc_le.mpr z))
        refine wp_lload_n 0 dX3_compareWith_51 rfl ?_
        refine wp_lload 1 dX3_compareWith_52 rfl ?_
        refine wp_callS (As := [.long x2, .long x4]) (rest := []) (mc := 0) (ms := 0) dX3_compareWith_54 lk_X3_37 rfl rfl (by decide) rfl rfl rfl (Call.weaken h ?_)
        rintro H1 _ ⟨r2, rfl, h⟩
        change WP _ _ _ _ _ _ [.long r2] H1 _
        refine wp_lstore (ls' := [(12, .long r2), (2, .long x2), (4, .long x4), (6, .long x6), (8, .long x8), (10, .int x10), (11, .int x11)]) dX3_compareWith_57 (by decide) rfl ?_
        refine wp_lload 3 dX3_compareWith_59 rfl ?_
        refine wp_lload 4 dX3_compareWith_61 rfl ?_
        refine wp_callS (As := [.long x6, .long x8]) (rest := []) (mc := 0) (ms := 0) dX3_compareWith_63 lk_X3_37 rfl rfl (by decide) rfl rfl rfl (Call.weaken h ?_)
        rintro H3 _ ⟨r4, rfl, h⟩
        change WP _ _ _ _ _ _ [.long r4] H3 _
        refine wp_lstore (ls' := [(14, .long r4), (12, .long r2), (2, .long x2), (4, .long x4), (6, .long x6), (8, .long x8), (10, .int x10), (11, .int x11)]) dX3_compareWith_66 (by decide) rfl ?_
        refine wp_lload 1 dX3_compareWith_68 rfl ?_
        refine wp_lload 0 dX3_compareWith_70 rfl ?_
        refine wp_lcmp dX3_compareWith_72 ?_
        refine wp_if_eq (tgt := 93) dX3_compareWith_73 rfl (fun c => ?_) (fun c => ?_)
        · replace h := h.1 (lgc_eq.mp c)
          refine wp_lload_n 2 dX3_compareWith_93 rfl ?_
          refine wp_lload 1 dX3_compareWith_94 rfl ?_
          refine wp_lload 3 dX3_compareWith_96 rfl ?_
          refine wp_lmul dX3_compareWith_98 ?_
          refine wp_lsub dX3_compareWith_99 ?_
          refine wp_lstore (ls' := [(16, .long (x2 - (r2 * x4))), (14, .long r4), (12, .long r2), (2, .long x2), (4, .long x4), (6, .long x6), (8, .long x8), (10, .int x10), (11, .int x11)]) dX3_compareWith_100 (by decide) rfl ?_
          refine wp_lload 5 dX3_compareWith_102 rfl ?_
          refine wp_lload 1 dX3_compareWith_104 rfl ?_
          refine wp_lload 6 dX3_compareWith_106 rfl ?_
          refine wp_lmul dX3_compareWith_108 ?_
          refine wp_lsub dX3_compareWith_109 ?_
          refine wp_lstore (ls' := [(18, .long (x6 - (r4 * x8))), (16, .long (x2 - (r2 * x4))), (14, .long r4), (12, .long r2), (2, .long x2), (4, .long x4), (6, .long x6), (8, .long x8), (10, .int x10), (11, .int x11)]) dX3_compareWith_110 (by decide) rfl ?_
          refine wp_lload 5 dX3_compareWith_112 rfl ?_
          refine wp_lstore_n (ls' := [(2, .long x4), (18, .long (x6 - (r4 * x8))), (16, .long (x2 - (r2 * x4))), (14, .long r4), (12, .long r2), (4, .long x4), (6, .long x6), (8, .long x8), (10, .int x10), (11, .int x11)]) dX3_compareWith_114 (by decide) rfl ?_
          refine wp_lload 2 dX3_compareWith_115 rfl ?_
          refine wp_lstore (ls' := [(4, .long (x2 - (r2 * x4))), (2, .long x4), (18, .long (x6 - (r4 * x8))), (16, .long (x2 - (r2 * x4))), (14, .long r4), (12, .long r2), (6, .long x6), (8, .long x8), (10, .int x10), (11, .int x11)]) dX3_compareWith_117 (by decide) rfl ?_
          refine wp_lload 7 dX3_compareWith_119 rfl ?_
          refine wp_lstore (ls' := [(6, .long x8), (4, .long (x2 - (r2 * x4))), (2, .long x4), (18, .long (x6 - (r4 * x8))), (16, .long (x2 - (r2 * x4))), (14, .long r4), (12, .long r2), (8, .long x8), (10, .int x10), (11, .int x11)]) dX3_compareWith_121 (by decide) rfl ?_
          refine wp_lload 3 dX3_compareWith_123 rfl ?_
          refine wp_lstore (ls' := [(8, .long (x6 - (r4 * x8))), (6, .long x8), (4, .long (x2 - (r2 * x4))), (2, .long x4), (18, .long (x6 - (r4 * x8))), (16, .long (x2 - (r2 * x4))), (14, .long r4), (12, .long r2), (10, .int x10), (11, .int x11)]) dX3_compareWith_125 (by decide) rfl ?_
          refine wp_iload 8 dX3_compareWith_127 rfl ?_
          refine wp_ineg dX3_compareWith_129 ?_
          refine wp_istore (ls' := [(10, .int (-x10)), (8, .long (x6 - (r4 * x8))), (6, .long x8), (4, .long (x2 - (r2 * x4))), (2, .long x4), (18, .long (x6 - (r4 * x8))), (16, .long (x2 - (r2 * x4))), (14, .long r4), (12, .long r2), (11, .int x11)]) dX3_compareWith_130 (by decide) rfl ?_
          refine wp_iinc (v := (x11 + 1)) (ls' := [(11, .int (x11 + 1)), (10, .int (-x10)), (8, .long (x6 - (r4 * x8))), (6, .long x8), (4, .long (x2 - (r2 * x4))), (2, .long x4), (18, .long (x6 - (r4 * x8))), (16, .long (x2 - (r2 * x4))), (14, .long r4), (12, .long r2)]) 9 dX3_compareWith_132 rfl rfl (by decide) rfl ?_
          refine wp_goto (tgt := 29) dX3_compareWith_135 rfl ?_
          refine wp_sub (ls' := [(2, .long x4), (4, .long (x2 - (r2 * x4))), (6, .long x8), (8, .long (x6 - (r4 * x8))), (10, .int (-x10)), (11, .int (x11 + 1))]) [5, 4, 3, 2, 1, 0] rfl ?_
          exact h
        · replace h := h.2 (fun z => c (lgc_eq.mpr z))
          refine wp_lload 1 dX3_compareWith_76 rfl ?_
          refine wp_lload 0 dX3_compareWith_78 rfl ?_
          refine wp_lcmp dX3_compareWith_80 ?_
          refine wp_if_ge (tgt := 90) dX3_compareWith_81 rfl (fun c => ?_) (fun c => ?_)
          · replace h := h.1 (lgc_ge.mp c)
            refine wp_iload 6 dX3_compareWith_90 rfl ?_
            exact wp_ireturn (ty := .int) dX3_compareWith_92 rfl rfl ⟨_, rfl, h⟩
          · replace h := h.2 (fun z => c (lgc_ge.mpr z))
            refine wp_iload 6 dX3_compareWith_84 rfl ?_
            refine wp_ineg dX3_compareWith_86 ?_
            refine wp_goto (tgt := 92) dX3_compareWith_87 rfl ?_
            exact wp_ireturn (ty := .int) dX3_compareWith_92 rfl rfl ⟨_, rfl, h⟩
theorem C_X3_compareWith {d : Nat} {q : HP → Int32 → Prop} {a0 : Nat} {o1 : Option Nat} {H : HP} (h : wb_X3_compareWith_0 d q a0 o1 H) : CI (d + 1) 0 0 mX3_compareWith [rv (some a0), rv o1] H q := by
  refine call_of (by decide +kernel) (by simp [lg_sl, rv_cat, vc_int, vc_long, vc_float, vc_double]) ?_
  have e : lv_args 0 [rv (some a0), rv o1] = [(0, rv (some a0)), (1, rv o1)] := by simp [lv_args, rv_cat, vc_int, vc_long, vc_float, vc_double]
  rw [e]
  exact T_X3_compareWith_0 h
def wb_X3_copy_0 (d : Nat) (q : HP → Prop) (a0 : Nat) (o1 : Option Nat) (H : HP) : Prop :=
  ∃ a1, o1 = some a1 ∧ (tg H a1 = 4 ∧ (tg H a0 = 4 ∧ (q (sL (sL H 400 a0 0 (hL H 400 a1 0)) 401 a0 0 (hL (sL H 400 a0 0 (hL H 400 a1 0)) 401 a1 0)))))
set_option maxRecDepth 40000 in
set_option maxHeartbeats 4000000 in
theorem T_X3_copy_0 {d : Nat} {q : HP → Prop} {a0 : Nat} {o1 : Option Nat} {H : HP} (h : wb_X3_copy_0 d q a0 o1 H) : WP (d + 1) mX3_copy 0 0 0 [(0, rv (some a0)), (1, rv o1)] [] H (qV q) := by
  unfold wb_X3_copy_0 at h
  refine wp_aload_n 0 dX3_copy_0 rfl ?_
  refine wp_aload_n 1 dX3_copy_1 rfl ?_
  obtain ⟨a1, ha1, h⟩ := h
  obtain ⟨ht2, h⟩ := h
  refine wp_getL (ci := 3) (j := 0) dX3_copy_2 fi_X3_9r rfl ha1 ht2 ?_
  change WP _ _ _ _ _ _ (.long (hL H 400 a1 0) :: _) _ _
  obtain ⟨ht3, h⟩ := h
  refine wp_putL (ci := 3) (j := 0) dX3_copy_5 fi_X3_9 rfl (fun z => by cases z) rfl ht3 rfl rfl ?_
  change WP _ _ _ _ _ _ _ (sL H 400 a0 0 (hL H 400 a1 0)) _
  refine wp_aload_n 0 dX3_copy_8 rfl ?_
  refine wp_aload_n 1 dX3_copy_9 rfl ?_
  refine wp_getL (ci := 3) (j := 1) dX3_copy_10 fi_X3_15r rfl ha1 ht2 ?_
  change WP _ _ _ _ _ _ (.long (hL (sL H 400 a0 0 (hL H 400 a1 0)) 401 a1 0) :: _) _ _
  refine wp_putL (ci := 3) (j := 1) dX3_copy_13 fi_X3_15 rfl (fun z => by cases z) rfl ht3 rfl rfl ?_
  change WP _ _ _ _ _ _ _ (sL (sL H 400 a0 0 (hL H 400 a1 0)) 401 a0 0 (hL (sL H 400 a0 0 (hL H 400 a1 0)) 401 a1 0)) _
  exact wp_return dX3_copy_16 rfl ⟨rfl, h⟩
theorem C_X3_copy {d : Nat} {q : HP → Prop} {a0 : Nat} {o1 : Option Nat} {H : HP} (h : wb_X3_copy_0 d q a0 o1 H) : CV (d + 1) 0 0 mX3_copy [rv (some a0), rv o1] H q := by
  refine call_of (by decide +kernel) (by simp [lg_sl, rv_cat, vc_int, vc_long, vc_float, vc_double]) ?_
  have e : lv_args 0 [rv (some a0), rv o1] = [(0, rv (some a0)), (1, rv o1)] := by simp [lv_args, rv_cat, vc_int, vc_long, vc_float, vc_double]
  rw [e]
  exact T_X3_copy_0 h
def wb_X3_cutToWhole_0 (d : Nat) (q : HP → Prop) (a0 : Nat) (H : HP) : Prop :=
  tg H a0 = 4 ∧ (((hL H 401 a0 0) = (0 : Int64) → q H) ∧ (¬ ((hL H 401 a0 0) = (0 : Int64)) → ¬ (hL H 401 a0 0) = 0 ∧ (q (sL (sL H 400 a0 0 ((hL H 400 a0 0) / (hL H 401 a0 0))) 401 a0 0 (1 : Int64)))))
set_option maxRecDepth 40000 in
set_option maxHeartbeats 4000000 in
theorem T_X3_cutToWhole_0 {d : Nat} {q : HP → Prop} {a0 : Nat} {H : HP} (h : wb_X3_cutToWhole_0 d q a0 H) : WP (d + 1) mX3_cutToWhole 0 0 0 [(0, rv (some a0))] [] H (qV q) := by
  unfold wb_X3_cutToWhole_0 at h
  refine wp_aload_n 0 dX3_cutToWhole_0 rfl ?_
  obtain ⟨ht1, h⟩ := h
  refine wp_getL (ci := 3) (j := 1) dX3_cutToWhole_1 fi_X3_15r rfl rfl ht1 ?_
  change WP _ _ _ _ _ _ (.long (hL H 401 a0 0) :: _) _ _
  refine wp_lconst (v := (0 : Int64)) dX3_cutToWhole_4 (by decide) ?_
  refine wp_lcmp dX3_cutToWhole_5 ?_
  refine wp_if_eq (tgt := 27) dX3_cutToWhole_6 rfl (fun c => ?_) (fun c => ?_)
  · replace h := h.1 (lgc_eq.mp c)
    exact wp_return dX3_cutToWhole_27 rfl ⟨rfl, h⟩
  · replace h := h.2 (fun z => c (lgc_eq.mpr z))
    refine wp_aload_n 0 dX3_cutToWhole_9 rfl ?_
    refine wp_aload_n 0 dX3_cutToWhole_10 rfl ?_
    refine wp_getL (ci := 3) (j := 0) dX3_cutToWhole_11 fi_X3_9r rfl rfl ht1 ?_
    change WP _ _ _ _ _ _ (.long (hL H 400 a0 0) :: _) _ _
    refine wp_aload_n 0 dX3_cutToWhole_14 rfl ?_
    refine wp_getL (ci := 3) (j := 1) dX3_cutToWhole_15 fi_X3_15r rfl rfl ht1 ?_
    change WP _ _ _ _ _ _ (.long (hL H 401 a0 0) :: _) _ _
    obtain ⟨hg2, h⟩ := h
    refine wp_ldiv dX3_cutToWhole_18 hg2 ?_
    refine wp_putL (ci := 3) (j := 0) dX3_cutToWhole_19 fi_X3_9 rfl (fun z => by cases z) rfl ht1 rfl rfl ?_
    change WP _ _ _ _ _ _ _ (sL H 400 a0 0 ((hL H 400 a0 0) / (hL H 401 a0 0))) _
    refine wp_aload_n 0 dX3_cutToWhole_22 rfl ?_
    refine wp_lconst (v := (1 : Int64)) dX3_cutToWhole_23 (by decide) ?_
    refine wp_putL (ci := 3) (j := 1) dX3_cutToWhole_24 fi_X3_15 rfl (fun z => by cases z) rfl ht1 rfl rfl ?_
    change WP _ _ _ _ _ _ _ (sL (sL H 400 a0 0 ((hL H 400 a0 0) / (hL H 401 a0 0))) 401 a0 0 (1 : Int64)) _
    exact wp_return dX3_cutToWhole_27 rfl ⟨rfl, h⟩
theorem C_X3_cutToWhole {d : Nat} {q : HP → Prop} {a0 : Nat} {H : HP} (h : wb_X3_cutToWhole_0 d q a0 H) : CV (d + 1) 0 0 mX3_cutToWhole [rv (some a0)] H q := by
  refine call_of (by decide +kernel) (by simp [lg_sl, rv_cat, vc_int, vc_long, vc_float, vc_double]) ?_
  have e : lv_args 0 [rv (some a0)] = [(0, rv (some a0))] := by simp [lv_args, rv_cat, vc_int, vc_long, vc_float, vc_double]
  rw [e]
  exact T_X3_cutToWhole_0 h
def wb_X3_divide_0 (d : Nat) (q : HP → Bool → Prop) (a0 : Nat) (o1 : Option Nat) (H : HP) : Prop :=
  ∃ a1, o1 = some a1 ∧ (tg H a1 = 4 ∧ ((¬ (hL H 400 a1 0) = (0 : Int64) → ((0 : Int64) ≤ (hL H 400 a1 0) → tg H a0 = 4 ∧ (CZ d 0 0 mX3_multiplyBy [rv (some a0), .long (hL H 401 a1 0), .long (hL H 400 a1 0)] H (fun H3 b5 => q H3 b5))) ∧ (¬ ((0 : Int64) ≤ (hL H 400 a1 0)) → tg H a0 = 4 ∧ (CZ d 0 0 mX3_multiplyBy [rv (some a0), .long (-(hL H 401 a1 0)), .long (-(hL H 400 a1 0))] H (fun H6 b8 => q H6 b8)))) ∧ ((hL H 400 a1 0) = (0 : Int64) → q H false)))
set_option maxRecDepth 40000 in
set_option maxHeartbeats 4000000 in
theorem T_X3_divide_0 {d : Nat} {q : HP → Bool → Prop} {a0 : Nat} {o1 : Option Nat} {H : HP} (h : wb_X3_divide_0 d q a0 o1 H) : WP (d + 1) mX3_divide 0 0 0 [(0, rv (some a0)), (1, rv o1)] [] H (qZ q) := by
  unfold wb_X3_divide_0 at h
  refine wp_aload_n 1 dX3_divide_0 rfl ?_
  obtain ⟨a1, ha1, h⟩ := h
  obtain ⟨ht2, h⟩ := h
  refine wp_getL (ci := 3) (j := 0) dX3_divide_1 fi_X3_9r rfl ha1 ht2 ?_
  change WP _ _ _ _ _ _ (.long (hL H 400 a1 0) :: _) _ _
  refine wp_lconst (v := (0 : Int64)) dX3_divide_4 (by decide) ?_
  refine wp_lcmp dX3_divide_5 ?_
  refine wp_if_ne (tgt := 11) dX3_divide_6 rfl (fun c => ?_) (fun c => ?_)
  · replace h := h.1 (fun z => c (lgc_eq.mpr z))
    refine wp_aload_n 1 dX3_divide_11 rfl ?_
    refine wp_getL (ci := 3) (j := 0) dX3_divide_12 fi_X3_9r rfl ha1 ht2 ?_
    change WP _ _ _ _ _ _ (.long (hL H 400 a1 0) :: _) _ _
    refine wp_lconst (v := (0 : Int64)) dX3_divide_15 (by decide) ?_
    refine wp_lcmp dX3_divide_16 ?_
    refine wp_if_ge (tgt := 37) dX3_divide_17 rfl (fun c => ?_) (fun c => ?_)
    · replace h := h.1 (lgc_ge.mp c)
      refine wp_aload_n 0 dX3_divide_37 rfl ?_
      refine wp_aload_n 1 dX3_divide_38 rfl ?_
      refine wp_getL (ci := 3) (j := 1) dX3_divide_39 fi_X3_15r rfl ha1 ht2 ?_
      change WP _ _ _ _ _ _ (.long (hL H 401 a1 0) :: _) _ _
      refine wp_aload_n 1 dX3_divide_42 rfl ?_
      refine wp_getL (ci := 3) (j := 0) dX3_divide_43 fi_X3_9r rfl ha1 ht2 ?_
      change WP _ _ _ _ _ _ (.long (hL H 400 a1 0) :: _) _ _
      obtain ⟨ht4, h⟩ := h
      refine wp_callV (ci := 3) (As := [.long (hL H 401 a1 0), .long (hL H 400 a1 0)]) (rest := []) (mc := 0) (ms := 0) dX3_divide_46 lk_X3_24 rfl rfl (by decide) rfl rfl rfl ht4 rfl rfl rfl w_3_113 (Call.weaken h ?_)
      rintro H3 _ ⟨b5, rfl, h⟩
      change WP _ _ _ _ _ _ [.int (bI b5)] H3 _
      exact wp_ireturn (ty := .boolean) dX3_divide_49 rfl (nar_bI _).1 ⟨b5, rfl, h⟩
    · replace h := h.2 (fun z => c (lgc_ge.mpr z))
      refine wp_aload_n 0 dX3_divide_20 rfl ?_
      refine wp_aload_n 1 dX3_divide_21 rfl ?_
      refine wp_getL (ci := 3) (j := 1) dX3_divide_22 fi_X3_15r rfl ha1 ht2 ?_
      change WP _ _ _ _ _ _ (.long (hL H 401 a1 0) :: _) _ _
      refine wp_lneg dX3_divide_25 ?_
      refine wp_aload_n 1 dX3_divide_26 rfl ?_
      refine wp_getL (ci := 3) (j := 0) dX3_divide_27 fi_X3_9r rfl ha1 ht2 ?_
      change WP _ _ _ _ _ _ (.long (hL H 400 a1 0) :: _) _ _
      refine wp_lneg dX3_divide_30 ?_
      obtain ⟨ht7, h⟩ := h
      refine wp_callV (ci := 3) (As := [.long (-(hL H 401 a1 0)), .long (-(hL H 400 a1 0))]) (rest := []) (mc := 0) (ms := 0) dX3_divide_31 lk_X3_24 rfl rfl (by decide) rfl rfl rfl ht7 rfl rfl rfl w_3_113 (Call.weaken h ?_)
      rintro H6 _ ⟨b8, rfl, h⟩
      change WP _ _ _ _ _ _ [.int (bI b8)] H6 _
      refine wp_goto (tgt := 49) dX3_divide_34 rfl ?_
      exact wp_ireturn (ty := .boolean) dX3_divide_49 rfl (nar_bI _).1 ⟨b8, rfl, h⟩
  · replace h := h.2 (lgc_eq.mp c)
    refine wp_iconst (v := (0 : Int32)) dX3_divide_9 (by decide) ?_
    exact wp_ireturn (ty := .boolean) dX3_divide_10 rfl rfl ⟨false, rfl, h⟩
theorem C_X3_divide {d : Nat} {q : HP → Bool → Prop} {a0 : Nat} {o1 : Option Nat} {H : HP} (h : wb_X3_divide_0 d q a0 o1 H) : CZ (d + 1) 0 0 mX3_divide [rv (some a0), rv o1] H q := by
  refine call_of (by decide +kernel) (by simp [lg_sl, rv_cat, vc_int, vc_long, vc_float, vc_double]) ?_
  have e : lv_args 0 [rv (some a0), rv o1] = [(0, rv (some a0)), (1, rv o1)] := by simp [lv_args, rv_cat, vc_int, vc_long, vc_float, vc_double]
  rw [e]
  exact T_X3_divide_0 h
def wb_X3_init_0 (d : Nat) (ca sa : Nat) (q : HP → Prop) (a0 : Nat) (H : HP) : Prop :=
  tg H a0 = 4 ∧ (q (sL (sL H 400 a0 0 (0 : Int64)) 401 a0 0 (1 : Int64)))
set_option maxRecDepth 40000 in
set_option maxHeartbeats 4000000 in
theorem T_X3_init_0 {d : Nat} {ca sa : Nat} {q : HP → Prop} {a0 : Nat} {H : HP} (h : wb_X3_init_0 d ca sa q a0 H) : WP (d + 1) mX3_init ca sa 0 [(0, rv (some a0))] [] H (qV q) := by
  unfold wb_X3_init_0 at h
  refine wp_aload_n 0 dX3_init_0 rfl ?_
  refine wp_objInit dX3_init_1 w_1_72 w_1_29 w_1_30 rfl (by decide) (by omega) ?_
  refine wp_aload_n 0 dX3_init_4 rfl ?_
  refine wp_lconst (v := (0 : Int64)) dX3_init_5 (by decide) ?_
  obtain ⟨ht1, h⟩ := h
  refine wp_putL (ci := 3) (j := 0) dX3_init_6 fi_X3_9 rfl (fun z => by cases z) rfl ht1 rfl rfl ?_
  change WP _ _ _ _ _ _ _ (sL H 400 a0 0 (0 : Int64)) _
  refine wp_aload_n 0 dX3_init_9 rfl ?_
  refine wp_lconst (v := (1 : Int64)) dX3_init_10 (by decide) ?_
  refine wp_putL (ci := 3) (j := 1) dX3_init_11 fi_X3_15 rfl (fun z => by cases z) rfl ht1 rfl rfl ?_
  change WP _ _ _ _ _ _ _ (sL (sL H 400 a0 0 (0 : Int64)) 401 a0 0 (1 : Int64)) _
  exact wp_return dX3_init_14 rfl ⟨rfl, h⟩
theorem C_X3_init {d : Nat} {ca sa : Nat} {q : HP → Prop} {a0 : Nat} {H : HP} (h : wb_X3_init_0 d ca sa q a0 H) : CV (d + 1) ca sa mX3_init [rv (some a0)] H q := by
  refine call_of (by decide +kernel) (by simp [lg_sl, rv_cat, vc_int, vc_long, vc_float, vc_double]) ?_
  have e : lv_args 0 [rv (some a0)] = [(0, rv (some a0))] := by simp [lv_args, rv_cat, vc_int, vc_long, vc_float, vc_double]
  rw [e]
  exact T_X3_init_0 h
def wb_X3_multiply_0 (d : Nat) (q : HP → Bool → Prop) (a0 : Nat) (o1 : Option Nat) (H : HP) : Prop :=
  ∃ a1, o1 = some a1 ∧ (tg H a1 = 4 ∧ (tg H a0 = 4 ∧ (CZ d 0 0 mX3_multiplyBy [rv (some a0), .long (hL H 400 a1 0), .long (hL H 401 a1 0)] H (fun H3 b5 => q H3 b5))))
set_option maxRecDepth 40000 in
set_option maxHeartbeats 4000000 in
theorem T_X3_multiply_0 {d : Nat} {q : HP → Bool → Prop} {a0 : Nat} {o1 : Option Nat} {H : HP} (h : wb_X3_multiply_0 d q a0 o1 H) : WP (d + 1) mX3_multiply 0 0 0 [(0, rv (some a0)), (1, rv o1)] [] H (qZ q) := by
  unfold wb_X3_multiply_0 at h
  refine wp_aload_n 0 dX3_multiply_0 rfl ?_
  refine wp_aload_n 1 dX3_multiply_1 rfl ?_
  obtain ⟨a1, ha1, h⟩ := h
  obtain ⟨ht2, h⟩ := h
  refine wp_getL (ci := 3) (j := 0) dX3_multiply_2 fi_X3_9r rfl ha1 ht2 ?_
  change WP _ _ _ _ _ _ (.long (hL H 400 a1 0) :: _) _ _
  refine wp_aload_n 1 dX3_multiply_5 rfl ?_
  refine wp_getL (ci := 3) (j := 1) dX3_multiply_6 fi_X3_15r rfl ha1 ht2 ?_
  change WP _ _ _ _ _ _ (.long (hL H 401 a1 0) :: _) _ _
  obtain ⟨ht4, h⟩ := h
  refine wp_callV (ci := 3) (As := [.long (hL H 400 a1 0), .long (hL H 401 a1 0)]) (rest := []) (mc := 0) (ms := 0) dX3_multiply_9 lk_X3_24 rfl rfl (by decide) rfl rfl rfl ht4 rfl rfl rfl w_3_113 (Call.weaken h ?_)
  rintro H3 _ ⟨b5, rfl, h⟩
  change WP _ _ _ _ _ _ [.int (bI b5)] H3 _
  exact wp_ireturn (ty := .boolean) dX3_multiply_12 rfl (nar_bI _).1 ⟨b5, rfl, h⟩
theorem C_X3_multiply {d : Nat} {q : HP → Bool → Prop} {a0 : Nat} {o1 : Option Nat} {H : HP} (h : wb_X3_multiply_0 d q a0 o1 H) : CZ (d + 1) 0 0 mX3_multiply [rv (some a0), rv o1] H q := by
  refine call_of (by decide +kernel) (by simp [lg_sl, rv_cat, vc_int, vc_long, vc_float, vc_double]) ?_
  have e : lv_args 0 [rv (some a0), rv o1] = [(0, rv (some a0)), (1, rv o1)] := by simp [lv_args, rv_cat, vc_int, vc_long, vc_float, vc_double]
  rw [e]
  exact T_X3_multiply_0 h
def wb_X3_multiplyBy_0 (d : Nat) (q : HP → Bool → Prop) (a0 : Nat) (x1 : Int64) (x3 : Int64) (H : HP) : Prop :=
  tg H a0 = 4 ∧ (CJ d 0 0 mX3_commonDivisor [.long (hL H 400 a0 0), .long x3] H (fun H2 r3 => tg H2 a0 = 4 ∧ (CJ d 0 0 mX3_commonDivisor [.long x1, .long (hL H2 401 a0 0)] H2 (fun H5 r6 => tg H5 a0 = 4 ∧ (¬ r3 = 0 ∧ (¬ r6 = 0 ∧ (CJ d 0 0 mX3_product [.long ((hL H5 400 a0 0) / r3), .long (x1 / r6)] H5 (fun H10 r11 => tg H10 a0 = 4 ∧ (¬ r6 = 0 ∧ (¬ r3 = 0 ∧ (CJ d 0 0 mX3_product [.long ((hL H10 401 a0 0) / r6), .long (x3 / r3)] H10 (fun H15 r16 => (r11 = (-9223372036854775808 : Int64) → q H15 false) ∧ (¬ (r11 = (-9223372036854775808 : Int64)) → (¬ r16 = (-9223372036854775808 : Int64) → tg H15 a0 = 4 ∧ (q (sL (sL H15 400 a0 0 r11) 401 a0 0 r16) true)) ∧ (r16 = (-9223372036854775808 : Int64) → q H15 false))))))))))))))
set_option maxRecDepth 40000 in
set_option maxHeartbeats 4000000 in
theorem T_X3_multiplyBy_0 {d : Nat} {q : HP → Bool → Prop} {a0 : Nat} {x1 : Int64} {x3 : Int64} {H : HP} (h : wb_X3_multiplyBy_0 d q a0 x1 x3 H) : WP (d + 1) mX3_multiplyBy 0 0 0 [(0, rv (some a0)), (1, .long x1), (3, .long x3)] [] H (qZ q) := by
  unfold wb_X3_multiplyBy_0 at h
  refine wp_aload_n 0 dX3_multiplyBy_0 rfl ?_
  obtain ⟨ht1, h⟩ := h
  refine wp_getL (ci := 3) (j := 0) dX3_multiplyBy_1 fi_X3_9r rfl rfl ht1 ?_
  change WP _ _ _ _ _ _ (.long (hL H 400 a0 0) :: _) _ _
  refine wp_lload_n 2 dX3_multiplyBy_4 rfl ?_
  refine wp_callS (As := [.long (hL H 400 a0 0), .long x3]) (rest := []) (mc := 0) (ms := 0) dX3_multiplyBy_5 lk_X3_18 rfl rfl (by decide) rfl rfl rfl (Call.weaken h ?_)
  rintro H2 _ ⟨r3, rfl, h⟩
  change WP _ _ _ _ _ _ [.long r3] H2 _
  refine wp_lstore (ls' := [(5, .long r3), (0, rv (some a0)), (1, .long x1), (3, .long x3)]) dX3_multiplyBy_8 (by decide) rfl ?_
  refine wp_lload_n 2 dX3_multiplyBy_10 rfl ?_
  refine wp_aload_n 1 dX3_multiplyBy_11 rfl ?_
  obtain ⟨ht4, h⟩ := h
  refine wp_getL (ci := 3) (j := 1) dX3_multiplyBy_12 fi_X3_15r rfl rfl ht4 ?_
  change WP _ _ _ _ _ _ (.long (hL H2 401 a0 0) :: _) _ _
  refine wp_callS (As := [.long x1, .long (hL H2 401 a0 0)]) (rest := []) (mc := 0) (ms := 0) dX3_multiplyBy_15 lk_X3_18 rfl rfl (by decide) rfl rfl rfl (Call.weaken h ?_)
  rintro H5 _ ⟨r6, rfl, h⟩
  change WP _ _ _ _ _ _ [.long r6] H5 _
  refine wp_lstore (ls' := [(7, .long r6), (5, .long r3), (0, rv (some a0)), (1, .long x1), (3, .long x3)]) dX3_multiplyBy_18 (by decide) rfl ?_
  refine wp_aload_n 2 dX3_multiplyBy_20 rfl ?_
  obtain ⟨ht7, h⟩ := h
  refine wp_getL (ci := 3) (j := 0) dX3_multiplyBy_21 fi_X3_9r rfl rfl ht7 ?_
  change WP _ _ _ _ _ _ (.long (hL H5 400 a0 0) :: _) _ _
  refine wp_lload 1 dX3_multiplyBy_24 rfl ?_
  obtain ⟨hg8, h⟩ := h
  refine wp_ldiv dX3_multiplyBy_26 hg8 ?_
  refine wp_lload_n 3 dX3_multiplyBy_27 rfl ?_
  refine wp_lload 0 dX3_multiplyBy_28 rfl ?_
  obtain ⟨hg9, h⟩ := h
  refine wp_ldiv dX3_multiplyBy_30 hg9 ?_
  refine wp_callS (As := [.long ((hL H5 400 a0 0) / r3), .long (x1 / r6)]) (rest := []) (mc := 0) (ms := 0) dX3_multiplyBy_31 lk_X3_28 rfl rfl (by decide) rfl rfl rfl (Call.weaken h ?_)
  rintro H10 _ ⟨r11, rfl, h⟩
  change WP _ _ _ _ _ _ [.long r11] H10 _
  refine wp_lstore (ls' := [(9, .long r11), (7, .long r6), (5, .long r3), (0, rv (some a0)), (1, .long x1), (3, .long x3)]) dX3_multiplyBy_34 (by decide) rfl ?_
  refine wp_aload_n 3 dX3_multiplyBy_36 rfl ?_
  obtain ⟨ht12, h⟩ := h
  refine wp_getL (ci := 3) (j := 1) dX3_multiplyBy_37 fi_X3_15r rfl rfl ht12 ?_
  change WP _ _ _ _ _ _ (.long (hL H10 401 a0 0) :: _) _ _
  refine wp_lload 1 dX3_multiplyBy_40 rfl ?_
  obtain ⟨hg13, h⟩ := h
  refine wp_ldiv dX3_multiplyBy_42 hg13 ?_
  refine wp_lload_n 5 dX3_multiplyBy_43 rfl ?_
  refine wp_lload 2 dX3_multiplyBy_44 rfl ?_
  obtain ⟨hg14, h⟩ := h
  refine wp_ldiv dX3_multiplyBy_46 hg14 ?_
  refine wp_callS (As := [.long ((hL H10 401 a0 0) / r6), .long (x3 / r3)]) (rest := []) (mc := 0) (ms := 0) dX3_multiplyBy_47 lk_X3_28 rfl rfl (by decide) rfl rfl rfl (Call.weaken h ?_)
  rintro H15 _ ⟨r16, rfl, h⟩
  change WP _ _ _ _ _ _ [.long r16] H15 _
  refine wp_lstore (ls' := [(11, .long r16), (9, .long r11), (7, .long r6), (5, .long r3), (0, rv (some a0)), (1, .long x1), (3, .long x3)]) dX3_multiplyBy_50 (by decide) rfl ?_
  refine wp_lload 1 dX3_multiplyBy_52 rfl ?_
  refine wp_ldc2 dX3_multiplyBy_54 w_3_120 ?_
  refine wp_lcmp dX3_multiplyBy_57 ?_
  refine wp_if_eq (tgt := 70) dX3_multiplyBy_58 rfl (fun c => ?_) (fun c => ?_)
  · replace h := h.1 (lgc_eq.mp c)
    refine wp_iconst (v := (0 : Int32)) dX3_multiplyBy_70 (by decide) ?_
    exact wp_ireturn (ty := .boolean) dX3_multiplyBy_71 rfl rfl ⟨false, rfl, h⟩
  · replace h := h.2 (fun z => c (lgc_eq.mpr z))
    refine wp_lload 0 dX3_multiplyBy_61 rfl ?_
    refine wp_ldc2 dX3_multiplyBy_63 w_3_120 ?_
    refine wp_lcmp dX3_multiplyBy_66 ?_
    refine wp_if_ne (tgt := 72) dX3_multiplyBy_67 rfl (fun c => ?_) (fun c => ?_)
    · replace h := h.1 (fun z => c (lgc_eq.mpr z))
      refine wp_aload_n 4 dX3_multiplyBy_72 rfl ?_
      refine wp_lload 1 dX3_multiplyBy_73 rfl ?_
      obtain ⟨ht17, h⟩ := h
      refine wp_putL (ci := 3) (j := 0) dX3_multiplyBy_75 fi_X3_9 rfl (fun z => by cases z) rfl ht17 rfl rfl ?_
      change WP _ _ _ _ _ _ _ (sL H15 400 a0 0 r11) _
      refine wp_aload_n 4 dX3_multiplyBy_78 rfl ?_
      refine wp_lload 0 dX3_multiplyBy_79 rfl ?_
      refine wp_putL (ci := 3) (j := 1) dX3_multiplyBy_81 fi_X3_15 rfl (fun z => by cases z) rfl ht17 rfl rfl ?_
      change WP _ _ _ _ _ _ _ (sL (sL H15 400 a0 0 r11) 401 a0 0 r16) _
      refine wp_iconst (v := (1 : Int32)) dX3_multiplyBy_84 (by decide) ?_
      exact wp_ireturn (ty := .boolean) dX3_multiplyBy_85 rfl rfl ⟨true, rfl, h⟩
    · replace h := h.2 (lgc_eq.mp c)
      refine wp_iconst (v := (0 : Int32)) dX3_multiplyBy_70 (by decide) ?_
      exact wp_ireturn (ty := .boolean) dX3_multiplyBy_71 rfl rfl ⟨false, rfl, h⟩
theorem C_X3_multiplyBy {d : Nat} {q : HP → Bool → Prop} {a0 : Nat} {x1 : Int64} {x3 : Int64} {H : HP} (h : wb_X3_multiplyBy_0 d q a0 x1 x3 H) : CZ (d + 1) 0 0 mX3_multiplyBy [rv (some a0), .long x1, .long x3] H q := by
  refine call_of (by decide +kernel) (by simp [lg_sl, rv_cat, vc_int, vc_long, vc_float, vc_double]) ?_
  have e : lv_args 0 [rv (some a0), .long x1, .long x3] = [(0, rv (some a0)), (1, .long x1), (3, .long x3)] := by simp [lv_args, rv_cat, vc_int, vc_long, vc_float, vc_double]
  rw [e]
  exact T_X3_multiplyBy_0 h
def wb_X3_part_0 (d : Nat) (q : HP → Int64 → Prop) (a0 : Nat) (x1 : Int32) (H : HP) : Prop :=
  (¬ x1 = 0 → (¬ x1 = (1 : Int32) → q H (-9223372036854775808 : Int64)) ∧ (x1 = (1 : Int32) → tg H a0 = 4 ∧ (q H (hL H 401 a0 0)))) ∧ (x1 = 0 → tg H a0 = 4 ∧ (q H (hL H 400 a0 0)))
set_option maxRecDepth 40000 in
set_option maxHeartbeats 4000000 in
theorem T_X3_part_0 {d : Nat} {q : HP → Int64 → Prop} {a0 : Nat} {x1 : Int32} {H : HP} (h : wb_X3_part_0 d q a0 x1 H) : WP (d + 1) mX3_part 0 0 0 [(0, rv (some a0)), (1, .int x1)] [] H (qJ q) := by
  unfold wb_X3_part_0 at h
  refine wp_iload_n 1 dX3_part_0 rfl ?_
  refine wp_if_ne (tgt := 11) dX3_part_1 rfl (fun c => ?_) (fun c => ?_)
  · replace h := h.1 c
    refine wp_iload_n 1 dX3_part_11 rfl ?_
    refine wp_iconst (v := (1 : Int32)) dX3_part_12 (by decide) ?_
    refine wp_icmp_ne (tgt := 23) dX3_part_13 rfl (fun c => ?_) (fun c => ?_)
    · replace h := h.1 c
      refine wp_ldc2 dX3_part_23 w_3_120 ?_
      exact wp_lreturn dX3_part_26 rfl ⟨_, rfl, h⟩
    · replace h := h.2 c
      refine wp_aload_n 0 dX3_part_16 rfl ?_
      obtain ⟨ht1, h⟩ := h
      refine wp_getL (ci := 3) (j := 1) dX3_part_17 fi_X3_15r rfl rfl ht1 ?_
      change WP _ _ _ _ _ _ (.long (hL H 401 a0 0) :: _) _ _
      refine wp_goto (tgt := 26) dX3_part_20 rfl ?_
      exact wp_lreturn dX3_part_26 rfl ⟨_, rfl, h⟩
  · replace h := h.2 c
    refine wp_aload_n 0 dX3_part_4 rfl ?_
    obtain ⟨ht2, h⟩ := h
    refine wp_getL (ci := 3) (j := 0) dX3_part_5 fi_X3_9r rfl rfl ht2 ?_
    change WP _ _ _ _ _ _ (.long (hL H 400 a0 0) :: _) _ _
    refine wp_goto (tgt := 26) dX3_part_8 rfl ?_
    exact wp_lreturn dX3_part_26 rfl ⟨_, rfl, h⟩
theorem C_X3_part {d : Nat} {q : HP → Int64 → Prop} {a0 : Nat} {x1 : Int32} {H : HP} (h : wb_X3_part_0 d q a0 x1 H) : CJ (d + 1) 0 0 mX3_part [rv (some a0), .int x1] H q := by
  refine call_of (by decide +kernel) (by simp [lg_sl, rv_cat, vc_int, vc_long, vc_float, vc_double]) ?_
  have e : lv_args 0 [rv (some a0), .int x1] = [(0, rv (some a0)), (1, .int x1)] := by simp [lv_args, rv_cat, vc_int, vc_long, vc_float, vc_double]
  rw [e]
  exact T_X3_part_0 h
def wb_X3_product_0 (d : Nat) (q : HP → Int64 → Prop) (x0 : Int64) (x2 : Int64) (H : HP) : Prop :=
  (x0 = (0 : Int64) → q H (0 : Int64)) ∧ (¬ (x0 = (0 : Int64)) → (¬ x2 = (0 : Int64) → ¬ x0 = 0 ∧ ((¬ ((x0 * x2) / x0) = x2 → q H (-9223372036854775808 : Int64)) ∧ (((x0 * x2) / x0) = x2 → q H (x0 * x2)))) ∧ (x2 = (0 : Int64) → q H (0 : Int64)))
set_option maxRecDepth 40000 in
set_option maxHeartbeats 4000000 in
theorem T_X3_product_0 {d : Nat} {q : HP → Int64 → Prop} {x0 : Int64} {x2 : Int64} {H : HP} (h : wb_X3_product_0 d q x0 x2 H) : WP (d + 1) mX3_product 0 0 0 [(0, .long x0), (2, .long x2)] [] H (qJ q) := by
  unfold wb_X3_product_0 at h
  refine wp_lload_n 0 dX3_product_0 rfl ?_
  refine wp_lconst (v := (0 : Int64)) dX3_product_1 (by decide) ?_
  refine wp_lcmp dX3_product_2 ?_
  refine wp_if_eq (tgt := 12) dX3_product_3 rfl (fun c => ?_) (fun c => ?_)
  · replace h := h.1 (lgc_eq.mp c)
    refine wp_lconst (v := (0 : Int64)) dX3_product_12 (by decide) ?_
    exact wp_lreturn dX3_product_13 rfl ⟨_, rfl, h⟩
  · replace h := h.2 (fun z => c (lgc_eq.mpr z))
    refine wp_lload_n 1 dX3_product_6 rfl ?_
    refine wp_lconst (v := (0 : Int64)) dX3_product_7 (by decide) ?_
    refine wp_lcmp dX3_product_8 ?_
    refine wp_if_ne (tgt := 14) dX3_product_9 rfl (fun c => ?_) (fun c => ?_)
    · replace h := h.1 (fun z => c (lgc_eq.mpr z))
      refine wp_lload_n 0 dX3_product_14 rfl ?_
      refine wp_lload_n 1 dX3_product_15 rfl ?_
      refine wp_lmul dX3_product_16 ?_
      refine wp_lstore (ls' := [(4, .long (x0 * x2)), (0, .long x0), (2, .long x2)]) dX3_product_17 (by decide) rfl ?_
      refine wp_lload 0 dX3_product_19 rfl ?_
      refine wp_lload_n 1 dX3_product_21 rfl ?_
      obtain ⟨hg1, h⟩ := h
      refine wp_ldiv dX3_product_22 hg1 ?_
      refine wp_lload_n 2 dX3_product_23 rfl ?_
      refine wp_lcmp dX3_product_24 ?_
      refine wp_if_ne (tgt := 33) dX3_product_25 rfl (fun c => ?_) (fun c => ?_)
      · replace h := h.1 (fun z => c (lgc_eq.mpr z))
        refine wp_ldc2 dX3_product_33 w_3_120 ?_
        exact wp_lreturn dX3_product_36 rfl ⟨_, rfl, h⟩
      · replace h := h.2 (lgc_eq.mp c)
        refine wp_lload 0 dX3_product_28 rfl ?_
        refine wp_goto (tgt := 36) dX3_product_30 rfl ?_
        exact wp_lreturn dX3_product_36 rfl ⟨_, rfl, h⟩
    · replace h := h.2 (lgc_eq.mp c)
      refine wp_lconst (v := (0 : Int64)) dX3_product_12 (by decide) ?_
      exact wp_lreturn dX3_product_13 rfl ⟨_, rfl, h⟩
theorem C_X3_product {d : Nat} {q : HP → Int64 → Prop} {x0 : Int64} {x2 : Int64} {H : HP} (h : wb_X3_product_0 d q x0 x2 H) : CJ (d + 1) 0 0 mX3_product [.long x0, .long x2] H q := by
  refine call_of (by decide +kernel) (by simp [lg_sl, rv_cat, vc_int, vc_long, vc_float, vc_double]) ?_
  have e : lv_args 0 [.long x0, .long x2] = [(0, .long x0), (2, .long x2)] := by simp [lv_args, rv_cat, vc_int, vc_long, vc_float, vc_double]
  rw [e]
  exact T_X3_product_0 h
def wb_X3_set_0 (d : Nat) (q : HP → Prop) (a0 : Nat) (x1 : Int64) (x3 : Int64) (H : HP) : Prop :=
  CJ d 0 0 mX3_commonDivisor [.long x1, .long x3] H (fun H1 r2 => ¬ r2 = 0 ∧ (tg H1 a0 = 4 ∧ (¬ r2 = 0 ∧ (q (sL (sL H1 400 a0 0 (x1 / r2)) 401 a0 0 (x3 / r2))))))
set_option maxRecDepth 40000 in
set_option maxHeartbeats 4000000 in
theorem T_X3_set_0 {d : Nat} {q : HP → Prop} {a0 : Nat} {x1 : Int64} {x3 : Int64} {H : HP} (h : wb_X3_set_0 d q a0 x1 x3 H) : WP (d + 1) mX3_set 0 0 0 [(0, rv (some a0)), (1, .long x1), (3, .long x3)] [] H (qV q) := by
  unfold wb_X3_set_0 at h
  refine wp_lload_n 1 dX3_set_0 rfl ?_
  refine wp_lload_n 2 dX3_set_1 rfl ?_
  refine wp_callS (As := [.long x1, .long x3]) (rest := []) (mc := 0) (ms := 0) dX3_set_2 lk_X3_18 rfl rfl (by decide) rfl rfl rfl (Call.weaken h ?_)
  rintro H1 _ ⟨r2, rfl, h⟩
  change WP _ _ _ _ _ _ [.long r2] H1 _
  refine wp_lstore (ls' := [(5, .long r2), (0, rv (some a0)), (1, .long x1), (3, .long x3)]) dX3_set_5 (by decide) rfl ?_
  refine wp_aload_n 1 dX3_set_7 rfl ?_
  refine wp_lload_n 2 dX3_set_8 rfl ?_
  refine wp_lload 0 dX3_set_9 rfl ?_
  obtain ⟨hg3, h⟩ := h
  refine wp_ldiv dX3_set_11 hg3 ?_
  obtain ⟨ht4, h⟩ := h
  refine wp_putL (ci := 3) (j := 0) dX3_set_12 fi_X3_9 rfl (fun z => by cases z) rfl ht4 rfl rfl ?_
  change WP _ _ _ _ _ _ _ (sL H1 400 a0 0 (x1 / r2)) _
  refine wp_aload_n 1 dX3_set_15 rfl ?_
  refine wp_lload_n 3 dX3_set_16 rfl ?_
  refine wp_lload 0 dX3_set_17 rfl ?_
  obtain ⟨hg5, h⟩ := h
  refine wp_ldiv dX3_set_19 hg5 ?_
  refine wp_putL (ci := 3) (j := 1) dX3_set_20 fi_X3_15 rfl (fun z => by cases z) rfl ht4 rfl rfl ?_
  change WP _ _ _ _ _ _ _ (sL (sL H1 400 a0 0 (x1 / r2)) 401 a0 0 (x3 / r2)) _
  exact wp_return dX3_set_23 rfl ⟨rfl, h⟩
theorem C_X3_set {d : Nat} {q : HP → Prop} {a0 : Nat} {x1 : Int64} {x3 : Int64} {H : HP} (h : wb_X3_set_0 d q a0 x1 x3 H) : CV (d + 1) 0 0 mX3_set [rv (some a0), .long x1, .long x3] H q := by
  refine call_of (by decide +kernel) (by simp [lg_sl, rv_cat, vc_int, vc_long, vc_float, vc_double]) ?_
  have e : lv_args 0 [rv (some a0), .long x1, .long x3] = [(0, rv (some a0)), (1, .long x1), (3, .long x3)] := by simp [lv_args, rv_cat, vc_int, vc_long, vc_float, vc_double]
  rw [e]
  exact T_X3_set_0 h
def wb_X3_subtract_0 (d : Nat) (q : HP → Bool → Prop) (a0 : Nat) (o1 : Option Nat) (H : HP) : Prop :=
  ∃ a1, o1 = some a1 ∧ (tg H a1 = 4 ∧ (tg H a0 = 4 ∧ (CZ d 0 0 mX3_addUp [rv (some a0), .long (-(hL H 400 a1 0)), .long (hL H 401 a1 0)] H (fun H3 b5 => q H3 b5))))
set_option maxRecDepth 40000 in
set_option maxHeartbeats 4000000 in
theorem T_X3_subtract_0 {d : Nat} {q : HP → Bool → Prop} {a0 : Nat} {o1 : Option Nat} {H : HP} (h : wb_X3_subtract_0 d q a0 o1 H) : WP (d + 1) mX3_subtract 0 0 0 [(0, rv (some a0)), (1, rv o1)] [] H (qZ q) := by
  unfold wb_X3_subtract_0 at h
  refine wp_aload_n 0 dX3_subtract_0 rfl ?_
  refine wp_aload_n 1 dX3_subtract_1 rfl ?_
  obtain ⟨a1, ha1, h⟩ := h
  obtain ⟨ht2, h⟩ := h
  refine wp_getL (ci := 3) (j := 0) dX3_subtract_2 fi_X3_9r rfl ha1 ht2 ?_
  change WP _ _ _ _ _ _ (.long (hL H 400 a1 0) :: _) _ _
  refine wp_lneg dX3_subtract_5 ?_
  refine wp_aload_n 1 dX3_subtract_6 rfl ?_
  refine wp_getL (ci := 3) (j := 1) dX3_subtract_7 fi_X3_15r rfl ha1 ht2 ?_
  change WP _ _ _ _ _ _ (.long (hL H 401 a1 0) :: _) _ _
  obtain ⟨ht4, h⟩ := h
  refine wp_callV (ci := 3) (As := [.long (-(hL H 400 a1 0)), .long (hL H 401 a1 0)]) (rest := []) (mc := 0) (ms := 0) dX3_subtract_10 lk_X3_31 rfl rfl (by decide) rfl rfl rfl ht4 rfl rfl rfl w_4_92 (Call.weaken h ?_)
  rintro H3 _ ⟨b5, rfl, h⟩
  change WP _ _ _ _ _ _ [.int (bI b5)] H3 _
  exact wp_ireturn (ty := .boolean) dX3_subtract_13 rfl (nar_bI _).1 ⟨b5, rfl, h⟩
theorem C_X3_subtract {d : Nat} {q : HP → Bool → Prop} {a0 : Nat} {o1 : Option Nat} {H : HP} (h : wb_X3_subtract_0 d q a0 o1 H) : CZ (d + 1) 0 0 mX3_subtract [rv (some a0), rv o1] H q := by
  refine call_of (by decide +kernel) (by simp [lg_sl, rv_cat, vc_int, vc_long, vc_float, vc_double]) ?_
  have e : lv_args 0 [rv (some a0), rv o1] = [(0, rv (some a0)), (1, rv o1)] := by simp [lv_args, rv_cat, vc_int, vc_long, vc_float, vc_double]
  rw [e]
  exact T_X3_subtract_0 h
def wb_X3_total_0 (d : Nat) (q : HP → Int64 → Prop) (x0 : Int64) (x2 : Int64) (H : HP) : Prop :=
  (x0 = (-9223372036854775808 : Int64) → q H (-9223372036854775808 : Int64)) ∧ (¬ (x0 = (-9223372036854775808 : Int64)) → (¬ x2 = (-9223372036854775808 : Int64) → ((0 : Int64) ≤ ((x0 ^^^ (x0 + x2)) &&& (x2 ^^^ (x0 + x2))) → q H (x0 + x2)) ∧ (¬ ((0 : Int64) ≤ ((x0 ^^^ (x0 + x2)) &&& (x2 ^^^ (x0 + x2)))) → q H (-9223372036854775808 : Int64))) ∧ (x2 = (-9223372036854775808 : Int64) → q H (-9223372036854775808 : Int64)))
set_option maxRecDepth 40000 in
set_option maxHeartbeats 4000000 in
theorem T_X3_total_0 {d : Nat} {q : HP → Int64 → Prop} {x0 : Int64} {x2 : Int64} {H : HP} (h : wb_X3_total_0 d q x0 x2 H) : WP (d + 1) mX3_total 0 0 0 [(0, .long x0), (2, .long x2)] [] H (qJ q) := by
  unfold wb_X3_total_0 at h
  refine wp_lload_n 0 dX3_total_0 rfl ?_
  refine wp_ldc2 dX3_total_1 w_3_120 ?_
  refine wp_lcmp dX3_total_4 ?_
  refine wp_if_eq (tgt := 16) dX3_total_5 rfl (fun c => ?_) (fun c => ?_)
  · replace h := h.1 (lgc_eq.mp c)
    refine wp_ldc2 dX3_total_16 w_3_120 ?_
    exact wp_lreturn dX3_total_19 rfl ⟨_, rfl, h⟩
  · replace h := h.2 (fun z => c (lgc_eq.mpr z))
    refine wp_lload_n 1 dX3_total_8 rfl ?_
    refine wp_ldc2 dX3_total_9 w_3_120 ?_
    refine wp_lcmp dX3_total_12 ?_
    refine wp_if_ne (tgt := 20) dX3_total_13 rfl (fun c => ?_) (fun c => ?_)
    · replace h := h.1 (fun z => c (lgc_eq.mpr z))
      refine wp_lload_n 0 dX3_total_20 rfl ?_
      refine wp_lload_n 1 dX3_total_21 rfl ?_
      refine wp_ladd dX3_total_22 ?_
      refine wp_lstore (ls' := [(4, .long (x0 + x2)), (0, .long x0), (2, .long x2)]) dX3_total_23 (by decide) rfl ?_
      refine wp_lload_n 1 dX3_total_25 rfl ?_
      refine wp_lload 0 dX3_total_26 rfl ?_
      refine wp_lxor dX3_total_28 ?_
      refine wp_lload_n 2 dX3_total_29 rfl ?_
      refine wp_lload 0 dX3_total_30 rfl ?_
      refine wp_lxor dX3_total_32 ?_
      refine wp_land dX3_total_33 ?_
      refine wp_lconst (v := (0 : Int64)) dX3_total_34 (by decide) ?_
      refine wp_lcmp dX3_total_35 ?_
      refine wp_if_ge (tgt := 45) dX3_total_36 rfl (fun c => ?_) (fun c => ?_)
      · replace h := h.1 (lgc_ge.mp c)
        refine wp_lload 0 dX3_total_45 rfl ?_
        exact wp_lreturn dX3_total_47 rfl ⟨_, rfl, h⟩
      · replace h := h.2 (fun z => c (lgc_ge.mpr z))
        refine wp_ldc2 dX3_total_39 w_3_120 ?_
        refine wp_goto (tgt := 47) dX3_total_42 rfl ?_
        exact wp_lreturn dX3_total_47 rfl ⟨_, rfl, h⟩
    · replace h := h.2 (lgc_eq.mp c)
      refine wp_ldc2 dX3_total_16 w_3_120 ?_
      exact wp_lreturn dX3_total_19 rfl ⟨_, rfl, h⟩
theorem C_X3_total {d : Nat} {q : HP → Int64 → Prop} {x0 : Int64} {x2 : Int64} {H : HP} (h : wb_X3_total_0 d q x0 x2 H) : CJ (d + 1) 0 0 mX3_total [.long x0, .long x2] H q := by
  refine call_of (by decide +kernel) (by simp [lg_sl, rv_cat, vc_int, vc_long, vc_float, vc_double]) ?_
  have e : lv_args 0 [.long x0, .long x2] = [(0, .long x0), (2, .long x2)] := by simp [lv_args, rv_cat, vc_int, vc_long, vc_float, vc_double]
  rw [e]
  exact T_X3_total_0 h
/-- UnitProver$Rack.filled()I: the loop at 4 -/
def L_X5_filled_4 (d : Nat) (q : HP → Int32 → Prop) (a0 : Nat) (x1 : Int32) (x2 : Int32) (H : HP) : Prop := WP (d + 1) mX5_filled 0 0 4 [(0, rv (some a0)), (1, .int x1), (2, .int x2)] [] H (qI q)
def wb_X5_filled_0 (d : Nat) (q : HP → Int32 → Prop) (a0 : Nat) (H : HP) : Prop :=
  L_X5_filled_4 d q a0 (0 : Int32) (0 : Int32) H
set_option maxRecDepth 40000 in
set_option maxHeartbeats 4000000 in
theorem T_X5_filled_0 {d : Nat} {q : HP → Int32 → Prop} {a0 : Nat} {H : HP} (h : wb_X5_filled_0 d q a0 H) : WP (d + 1) mX5_filled 0 0 0 [(0, rv (some a0))] [] H (qI q) := by
  unfold wb_X5_filled_0 at h
  refine wp_iconst (v := (0 : Int32)) dX5_filled_0 (by decide) ?_
  refine wp_istore_n (ls' := [(1, .int (0 : Int32)), (0, rv (some a0))]) dX5_filled_1 (by decide) rfl ?_
  refine wp_iconst (v := (0 : Int32)) dX5_filled_2 (by decide) ?_
  refine wp_istore_n (ls' := [(2, .int (0 : Int32)), (1, .int (0 : Int32)), (0, rv (some a0))]) dX5_filled_3 (by decide) rfl ?_
  refine wp_sub (ls' := [(0, rv (some a0)), (1, .int (0 : Int32)), (2, .int (0 : Int32))]) [2, 1, 0] rfl ?_
  exact h
def wb_X5_filled_4 (d : Nat) (q : HP → Int32 → Prop) (a0 : Nat) (x1 : Int32) (x2 : Int32) (H : HP) : Prop :=
  ((6 : Int32) ≤ x2 → q H x1) ∧ (¬ ((6 : Int32) ≤ x2) → tg H a0 = 6 ∧ (∃ a2, (hC H 601 a0) = some a2 ∧ (isA H a2 0 ∧ (vp_in x2 (ln H a2) ∧ ((¬ (hI H (tg H a2) a2 x2.toNatClampNeg) = (-1 : Int32) → L_X5_filled_4 d q a0 (x1 + (1 : Int32)) (x2 + 1) H) ∧ ((hI H (tg H a2) a2 x2.toNatClampNeg) = (-1 : Int32) → L_X5_filled_4 d q a0 (x1 + (0 : Int32)) (x2 + 1) H))))))
set_option maxRecDepth 40000 in
set_option maxHeartbeats 4000000 in
theorem T_X5_filled_4 {d : Nat} {q : HP → Int32 → Prop} {a0 : Nat} {x1 : Int32} {x2 : Int32} {H : HP} (h : wb_X5_filled_4 d q a0 x1 x2 H) : L_X5_filled_4 d q a0 x1 x2 H := by
  unfold wb_X5_filled_4 at h
  unfold L_X5_filled_4
  refine wp_iload_n 2 dX5_filled_4 rfl ?_
  refine wp_bipush (v := (6 : Int32)) dX5_filled_5 (by decide) ?_
  refine wp_icmp_ge (tgt := 34) dX5_filled_7 rfl (fun c => ?_) (fun c => ?_)
  · replace h := h.1 c
    refine wp_iload_n 1 dX5_filled_34 rfl ?_
    exact wp_ireturn (ty := .int) dX5_filled_35 rfl rfl ⟨_, rfl, h⟩
  · replace h := h.2 c
    refine wp_iload_n 1 dX5_filled_10 rfl ?_
    refine wp_aload_n 0 dX5_filled_11 rfl ?_
    obtain ⟨ht1, h⟩ := h
    refine wp_getC (ci := 5) (j := 1) dX5_filled_12 fi_X5_9r rfl rfl ht1 ?_
    change WP _ _ _ _ _ _ (rv (hC H 601 a0) :: _) _ _
    refine wp_iload_n 2 dX5_filled_15 rfl ?_
    obtain ⟨a2, ha2, h⟩ := h
    obtain ⟨hr3, h⟩ := h
    obtain ⟨hg4, h⟩ := h
    refine wp_iaload dX5_filled_16 ha2 hr3 hg4 ?_
    refine wp_iconst (v := (-1 : Int32)) dX5_filled_17 (by decide) ?_
    refine wp_icmp_ne (tgt := 25) dX5_filled_18 rfl (fun c => ?_) (fun c => ?_)
    · replace h := h.1 c
      refine wp_iconst (v := (1 : Int32)) dX5_filled_25 (by decide) ?_
      refine wp_iadd dX5_filled_26 ?_
      refine wp_istore_n (ls' := [(1, .int (x1 + (1 : Int32))), (0, rv (some a0)), (2, .int x2)]) dX5_filled_27 (by decide) rfl ?_
      refine wp_iinc (v := (x2 + 1)) (ls' := [(2, .int (x2 + 1)), (1, .int (x1 + (1 : Int32))), (0, rv (some a0))]) 2 dX5_filled_28 rfl rfl (by decide) rfl ?_
      refine wp_goto (tgt := 4) dX5_filled_31 rfl ?_
      refine wp_sub (ls' := [(0, rv (some a0)), (1, .int (x1 + (1 : Int32))), (2, .int (x2 + 1))]) [2, 1, 0] rfl ?_
      exact h
    · replace h := h.2 c
      refine wp_iconst (v := (0 : Int32)) dX5_filled_21 (by decide) ?_
      refine wp_goto (tgt := 26) dX5_filled_22 rfl ?_
      refine wp_iadd dX5_filled_26 ?_
      refine wp_istore_n (ls' := [(1, .int (x1 + (0 : Int32))), (0, rv (some a0)), (2, .int x2)]) dX5_filled_27 (by decide) rfl ?_
      refine wp_iinc (v := (x2 + 1)) (ls' := [(2, .int (x2 + 1)), (1, .int (x1 + (0 : Int32))), (0, rv (some a0))]) 2 dX5_filled_28 rfl rfl (by decide) rfl ?_
      refine wp_goto (tgt := 4) dX5_filled_31 rfl ?_
      refine wp_sub (ls' := [(0, rv (some a0)), (1, .int (x1 + (0 : Int32))), (2, .int (x2 + 1))]) [2, 1, 0] rfl ?_
      exact h
theorem C_X5_filled {d : Nat} {q : HP → Int32 → Prop} {a0 : Nat} {H : HP} (h : wb_X5_filled_0 d q a0 H) : CI (d + 1) 0 0 mX5_filled [rv (some a0)] H q := by
  refine call_of (by decide +kernel) (by simp [lg_sl, rv_cat, vc_int, vc_long, vc_float, vc_double]) ?_
  have e : lv_args 0 [rv (some a0)] = [(0, rv (some a0))] := by simp [lv_args, rv_cat, vc_int, vc_long, vc_float, vc_double]
  rw [e]
  exact T_X5_filled_0 h
/-- UnitProver$Rack.<init>(I)V: the loop at 27 -/
def L_X5_init_27 (d : Nat) (ca sa : Nat) (q : HP → Prop) (a0 : Nat) (x2 : Int32) (H : HP) : Prop := WP (d + 1) mX5_init ca sa 27 [(0, rv (some a0)), (2, .int x2)] [] H (qV q)
def wb_X5_init_0 (d : Nat) (ca sa : Nat) (q : HP → Prop) (a0 : Nat) (x1 : Int32) (H : HP) : Prop :=
  hN H < scrA ∧ (1 ≤ ca ∧ (6 ≤ sa ∧ (tg (nw H 4112 6) a0 = 6 ∧ (hN (sC (nw H 4112 6) 601 a0 (some (hN H))) < scrA ∧ (1 ≤ (ca - 1) ∧ (6 ≤ (sa - 6) ∧ (tg (nw (sC (nw H 4112 6) 601 a0 (some (hN H))) 4131 6) a0 = 6 ∧ (L_X5_init_27 d ((ca - 1) - 1) ((sa - 6) - 6) q a0 (0 : Int32) (sI (sC (nw (sC (nw H 4112 6) 601 a0 (some (hN H))) 4131 6) 602 a0 (some (hN (sC (nw H 4112 6) 601 a0 (some (hN H)))))) 600 a0 0 x1)))))))))
set_option maxRecDepth 40000 in
set_option maxHeartbeats 4000000 in
theorem T_X5_init_0 {d : Nat} {ca sa : Nat} {q : HP → Prop} {a0 : Nat} {x1 : Int32} {H : HP} (h : wb_X5_init_0 d ca sa q a0 x1 H) : WP (d + 1) mX5_init ca sa 0 [(0, rv (some a0)), (1, .int x1)] [] H (qV q) := by
  unfold wb_X5_init_0 at h
  refine wp_aload_n 0 dX5_init_0 rfl ?_
  refine wp_objInit dX5_init_1 w_2_179 w_1_29 w_1_30 rfl (by decide) (by omega) ?_
  refine wp_aload_n 0 dX5_init_4 rfl ?_
  refine wp_bipush (v := (6 : Int32)) dX5_init_5 (by decide) ?_
  obtain ⟨hg1, h⟩ := h
  obtain ⟨hg2, h⟩ := h
  obtain ⟨hg3, h⟩ := h
  refine wp_newarray (t := 4112) (N := 6) (ca' := ca - 1) (sa' := sa - 6) dX5_init_7 w_1_88 (by decide) rfl (by decide) (by decide) (by decide +kernel) hg1 (by omega) (by omega) ?_
  obtain ⟨ht4, h⟩ := h
  refine wp_putC (ci := 5) (j := 1) dX5_init_9 fi_X5_9 rfl (fun _ => rfl) rfl ht4 (Or.inr ⟨_, rfl⟩) ?_
  change WP _ _ _ _ _ _ _ (sC (nw H 4112 6) 601 a0 (some (hN H))) _
  refine wp_aload_n 0 dX5_init_12 rfl ?_
  refine wp_bipush (v := (6 : Int32)) dX5_init_13 (by decide) ?_
  obtain ⟨hg5, h⟩ := h
  obtain ⟨hg6, h⟩ := h
  obtain ⟨hg7, h⟩ := h
  refine wp_newarray (t := 4131) (N := 6) (ca' := (ca - 1) - 1) (sa' := (sa - 6) - 6) dX5_init_15 w_2_192 (by decide) rfl (by decide) (by decide) (by decide +kernel) hg5 (by omega) (by omega) ?_
  obtain ⟨ht8, h⟩ := h
  refine wp_putC (ci := 5) (j := 2) dX5_init_17 fi_X5_15 rfl (fun _ => rfl) rfl ht8 (Or.inr ⟨_, rfl⟩) ?_
  change WP _ _ _ _ _ _ _ (sC (nw (sC (nw H 4112 6) 601 a0 (some (hN H))) 4131 6) 602 a0 (some (hN (sC (nw H 4112 6) 601 a0 (some (hN H)))))) _
  refine wp_aload_n 0 dX5_init_20 rfl ?_
  refine wp_iload_n 1 dX5_init_21 rfl ?_
  refine wp_putI (ci := 5) (j := 0) dX5_init_22 fi_X5_19 rfl (fun _ => rfl) rfl ht8 rfl rfl ?_
  change WP _ _ _ _ _ _ _ (sI (sC (nw (sC (nw H 4112 6) 601 a0 (some (hN H))) 4131 6) 602 a0 (some (hN (sC (nw H 4112 6) 601 a0 (some (hN H)))))) 600 a0 0 x1) _
  refine wp_iconst (v := (0 : Int32)) dX5_init_25 (by decide) ?_
  refine wp_istore_n (ls' := [(2, .int (0 : Int32)), (0, rv (some a0)), (1, .int x1)]) dX5_init_26 (by decide) rfl ?_
  refine wp_sub (ls' := [(0, rv (some a0)), (2, .int (0 : Int32))]) [1, 0] rfl ?_
  exact h
def wb_X5_init_27 (d : Nat) (ca sa : Nat) (q : HP → Prop) (a0 : Nat) (x2 : Int32) (H : HP) : Prop :=
  ((6 : Int32) ≤ x2 → q H) ∧ (¬ ((6 : Int32) ≤ x2) → tg H a0 = 6 ∧ (∃ a2, (hC H 601 a0) = some a2 ∧ (isA H a2 0 ∧ (vp_in x2 (ln H a2) ∧ (L_X5_init_27 d ca sa q a0 (x2 + 1) (sI H (tg H a2) a2 x2.toNatClampNeg (-1 : Int32)))))))
set_option maxRecDepth 40000 in
set_option maxHeartbeats 4000000 in
theorem T_X5_init_27 {d : Nat} {ca sa : Nat} {q : HP → Prop} {a0 : Nat} {x2 : Int32} {H : HP} (h : wb_X5_init_27 d ca sa q a0 x2 H) : L_X5_init_27 d ca sa q a0 x2 H := by
  unfold wb_X5_init_27 at h
  unfold L_X5_init_27
  refine wp_iload_n 1 dX5_init_27 rfl ?_
  refine wp_bipush (v := (6 : Int32)) dX5_init_28 (by decide) ?_
  refine wp_icmp_ge (tgt := 46) dX5_init_30 rfl (fun c => ?_) (fun c => ?_)
  · replace h := h.1 c
    exact wp_return dX5_init_46 rfl ⟨rfl, h⟩
  · replace h := h.2 c
    refine wp_aload_n 0 dX5_init_33 rfl ?_
    obtain ⟨ht1, h⟩ := h
    refine wp_getC (ci := 5) (j := 1) dX5_init_34 fi_X5_9r rfl rfl ht1 ?_
    change WP _ _ _ _ _ _ (rv (hC H 601 a0) :: _) _ _
    refine wp_iload_n 1 dX5_init_37 rfl ?_
    refine wp_iconst (v := (-1 : Int32)) dX5_init_38 (by decide) ?_
    obtain ⟨a2, ha2, h⟩ := h
    obtain ⟨hr3, h⟩ := h
    obtain ⟨hg4, h⟩ := h
    refine wp_iastore dX5_init_39 ha2 hr3 hg4 ?_
    change WP _ _ _ _ _ _ _ (sI H (tg H a2) a2 x2.toNatClampNeg (-1 : Int32)) _
    refine wp_iinc (v := (x2 + 1)) (ls' := [(2, .int (x2 + 1)), (0, rv (some a0))]) 1 dX5_init_40 rfl rfl (by decide) rfl ?_
    refine wp_goto (tgt := 27) dX5_init_43 rfl ?_
    refine wp_sub (ls' := [(0, rv (some a0)), (2, .int (x2 + 1))]) [1, 0] rfl ?_
    exact h
theorem C_X5_init {d : Nat} {ca sa : Nat} {q : HP → Prop} {a0 : Nat} {x1 : Int32} {H : HP} (h : wb_X5_init_0 d ca sa q a0 x1 H) : CV (d + 1) ca sa mX5_init [rv (some a0), .int x1] H q := by
  refine call_of (by decide +kernel) (by simp [lg_sl, rv_cat, vc_int, vc_long, vc_float, vc_double]) ?_
  have e : lv_args 0 [rv (some a0), .int x1] = [(0, rv (some a0)), (1, .int x1)] := by simp [lv_args, rv_cat, vc_int, vc_long, vc_float, vc_double]
  rw [e]
  exact T_X5_init_0 h
def wb_X5_store_0 (d : Nat) (q : HP → Bool → Prop) (a0 : Nat) (x1 : Int32) (x2 : Int32) (x3 : Int64) (H : HP) : Prop :=
  (x1 < 0 → q H false) ∧ (¬ (x1 < 0) → ((6 : Int32) ≤ x1 → q H false) ∧ (¬ ((6 : Int32) ≤ x1) → (x2 = (-1 : Int32) → tg H a0 = 6 ∧ (∃ a2, (hC H 601 a0) = some a2 ∧ (isA H a2 0 ∧ (vp_in x1 (ln H a2) ∧ (∃ a5, (hC (sI H (tg H a2) a2 x1.toNatClampNeg x2) 602 a0) = some a5 ∧ (isA (sI H (tg H a2) a2 x1.toNatClampNeg x2) a5 3 ∧ (vp_in x1 (ln (sI H (tg H a2) a2 x1.toNatClampNeg x2) a5) ∧ (q (sL (sI H (tg H a2) a2 x1.toNatClampNeg x2) (tg (sI H (tg H a2) a2 x1.toNatClampNeg x2) a5) a5 x1.toNatClampNeg x3) true)))))))) ∧ (¬ (x2 = (-1 : Int32)) → tg H a0 = 6 ∧ (((hI H 600 a0 0) = (2 : Int32) → ∃ a9, (hC H 601 a0) = some a9 ∧ (isA H a9 0 ∧ (vp_in x1 (ln H a9) ∧ (∃ a12, (hC (sI H (tg H a9) a9 x1.toNatClampNeg x2) 602 a0) = some a12 ∧ (isA (sI H (tg H a9) a9 x1.toNatClampNeg x2) a12 3 ∧ (vp_in x1 (ln (sI H (tg H a9) a9 x1.toNatClampNeg x2) a12) ∧ (q (sL (sI H (tg H a9) a9 x1.toNatClampNeg x2) (tg (sI H (tg H a9) a9 x1.toNatClampNeg x2) a12) a12 x1.toNatClampNeg x3) true))))))) ∧ (¬ ((hI H 600 a0 0) = (2 : Int32)) → ((hI H 600 a0 0) = x2 → ∃ a15, (hC H 601 a0) = some a15 ∧ (isA H a15 0 ∧ (vp_in x1 (ln H a15) ∧ (∃ a18, (hC (sI H (tg H a15) a15 x1.toNatClampNeg x2) 602 a0) = some a18 ∧ (isA (sI H (tg H a15) a15 x1.toNatClampNeg x2) a18 3 ∧ (vp_in x1 (ln (sI H (tg H a15) a15 x1.toNatClampNeg x2) a18) ∧ (q (sL (sI H (tg H a15) a15 x1.toNatClampNeg x2) (tg (sI H (tg H a15) a15 x1.toNatClampNeg x2) a18) a18 x1.toNatClampNeg x3) true))))))) ∧ (¬ ((hI H 600 a0 0) = x2) → q H false))))))
set_option maxRecDepth 40000 in
set_option maxHeartbeats 4000000 in
theorem T_X5_store_0 {d : Nat} {q : HP → Bool → Prop} {a0 : Nat} {x1 : Int32} {x2 : Int32} {x3 : Int64} {H : HP} (h : wb_X5_store_0 d q a0 x1 x2 x3 H) : WP (d + 1) mX5_store 0 0 0 [(0, rv (some a0)), (1, .int x1), (2, .int x2), (3, .long x3)] [] H (qZ q) := by
  unfold wb_X5_store_0 at h
  refine wp_iload_n 1 dX5_store_0 rfl ?_
  refine wp_if_lt (tgt := 31) dX5_store_1 rfl (fun c => ?_) (fun c => ?_)
  · replace h := h.1 c
    refine wp_iconst (v := (0 : Int32)) dX5_store_31 (by decide) ?_
    exact wp_ireturn (ty := .boolean) dX5_store_32 rfl rfl ⟨false, rfl, h⟩
  · replace h := h.2 c
    refine wp_iload_n 1 dX5_store_4 rfl ?_
    refine wp_bipush (v := (6 : Int32)) dX5_store_5 (by decide) ?_
    refine wp_icmp_ge (tgt := 31) dX5_store_7 rfl (fun c => ?_) (fun c => ?_)
    · replace h := h.1 c
      refine wp_iconst (v := (0 : Int32)) dX5_store_31 (by decide) ?_
      exact wp_ireturn (ty := .boolean) dX5_store_32 rfl rfl ⟨false, rfl, h⟩
    · replace h := h.2 c
      refine wp_iload_n 2 dX5_store_10 rfl ?_
      refine wp_iconst (v := (-1 : Int32)) dX5_store_11 (by decide) ?_
      refine wp_icmp_eq (tgt := 33) dX5_store_12 rfl (fun c => ?_) (fun c => ?_)
      · replace h := h.1 c
        refine wp_aload_n 0 dX5_store_33 rfl ?_
        obtain ⟨ht1, h⟩ := h
        refine wp_getC (ci := 5) (j := 1) dX5_store_34 fi_X5_9r rfl rfl ht1 ?_
        change WP _ _ _ _ _ _ (rv (hC H 601 a0) :: _) _ _
        refine wp_iload_n 1 dX5_store_37 rfl ?_
        refine wp_iload_n 2 dX5_store_38 rfl ?_
        obtain ⟨a2, ha2, h⟩ := h
        obtain ⟨hr3, h⟩ := h
        obtain ⟨hg4, h⟩ := h
        refine wp_iastore dX5_store_39 ha2 hr3 hg4 ?_
        change WP _ _ _ _ _ _ _ (sI H (tg H a2) a2 x1.toNatClampNeg x2) _
        refine wp_aload_n 0 dX5_store_40 rfl ?_
        refine wp_getC (ci := 5) (j := 2) dX5_store_41 fi_X5_15r rfl rfl ht1 ?_
        change WP _ _ _ _ _ _ (rv (hC (sI H (tg H a2) a2 x1.toNatClampNeg x2) 602 a0) :: _) _ _
        refine wp_iload_n 1 dX5_store_44 rfl ?_
        refine wp_lload_n 3 dX5_store_45 rfl ?_
        obtain ⟨a5, ha5, h⟩ := h
        obtain ⟨hr6, h⟩ := h
        obtain ⟨hg7, h⟩ := h
        refine wp_lastore dX5_store_46 ha5 hr6 hg7 ?_
        change WP _ _ _ _ _ _ _ (sL (sI H (tg H a2) a2 x1.toNatClampNeg x2) (tg (sI H (tg H a2) a2 x1.toNatClampNeg x2) a5) a5 x1.toNatClampNeg x3) _
        refine wp_iconst (v := (1 : Int32)) dX5_store_47 (by decide) ?_
        exact wp_ireturn (ty := .boolean) dX5_store_48 rfl rfl ⟨true, rfl, h⟩
      · replace h := h.2 c
        refine wp_aload_n 0 dX5_store_15 rfl ?_
        obtain ⟨ht8, h⟩ := h
        refine wp_getI (ci := 5) (j := 0) dX5_store_16 fi_X5_19r rfl rfl ht8 ?_
        change WP _ _ _ _ _ _ (.int (hI H 600 a0 0) :: _) _ _
        refine wp_iconst (v := (2 : Int32)) dX5_store_19 (by decide) ?_
        refine wp_icmp_eq (tgt := 33) dX5_store_20 rfl (fun c => ?_) (fun c => ?_)
        · replace h := h.1 c
          refine wp_aload_n 0 dX5_store_33 rfl ?_
          refine wp_getC (ci := 5) (j := 1) dX5_store_34 fi_X5_9r rfl rfl ht8 ?_
          change WP _ _ _ _ _ _ (rv (hC H 601 a0) :: _) _ _
          refine wp_iload_n 1 dX5_store_37 rfl ?_
          refine wp_iload_n 2 dX5_store_38 rfl ?_
          obtain ⟨a9, ha9, h⟩ := h
          obtain ⟨hr10, h⟩ := h
          obtain ⟨hg11, h⟩ := h
          refine wp_iastore dX5_store_39 ha9 hr10 hg11 ?_
          change WP _ _ _ _ _ _ _ (sI H (tg H a9) a9 x1.toNatClampNeg x2) _
          refine wp_aload_n 0 dX5_store_40 rfl ?_
          refine wp_getC (ci := 5) (j := 2) dX5_store_41 fi_X5_15r rfl rfl ht8 ?_
          change WP _ _ _ _ _ _ (rv (hC (sI H (tg H a9) a9 x1.toNatClampNeg x2) 602 a0) :: _) _ _
          refine wp_iload_n 1 dX5_store_44 rfl ?_
          refine wp_lload_n 3 dX5_store_45 rfl ?_
          obtain ⟨a12, ha12, h⟩ := h
          obtain ⟨hr13, h⟩ := h
          obtain ⟨hg14, h⟩ := h
          refine wp_lastore dX5_store_46 ha12 hr13 hg14 ?_
          change WP _ _ _ _ _ _ _ (sL (sI H (tg H a9) a9 x1.toNatClampNeg x2) (tg (sI H (tg H a9) a9 x1.toNatClampNeg x2) a12) a12 x1.toNatClampNeg x3) _
          refine wp_iconst (v := (1 : Int32)) dX5_store_47 (by decide) ?_
          exact wp_ireturn (ty := .boolean) dX5_store_48 rfl rfl ⟨true, rfl, h⟩
        · replace h := h.2 c
          refine wp_aload_n 0 dX5_store_23 rfl ?_
          refine wp_getI (ci := 5) (j := 0) dX5_store_24 fi_X5_19r rfl rfl ht8 ?_
          change WP _ _ _ _ _ _ (.int (hI H 600 a0 0) :: _) _ _
          refine wp_iload_n 2 dX5_store_27 rfl ?_
          refine wp_icmp_eq (tgt := 33) dX5_store_28 rfl (fun c => ?_) (fun c => ?_)
          · replace h := h.1 c
            refine wp_aload_n 0 dX5_store_33 rfl ?_
            refine wp_getC (ci := 5) (j := 1) dX5_store_34 fi_X5_9r rfl rfl ht8 ?_
            change WP _ _ _ _ _ _ (rv (hC H 601 a0) :: _) _ _
            refine wp_iload_n 1 dX5_store_37 rfl ?_
            refine wp_iload_n 2 dX5_store_38 rfl ?_
            obtain ⟨a15, ha15, h⟩ := h
            obtain ⟨hr16, h⟩ := h
            obtain ⟨hg17, h⟩ := h
            refine wp_iastore dX5_store_39 ha15 hr16 hg17 ?_
            change WP _ _ _ _ _ _ _ (sI H (tg H a15) a15 x1.toNatClampNeg x2) _
            refine wp_aload_n 0 dX5_store_40 rfl ?_
            refine wp_getC (ci := 5) (j := 2) dX5_store_41 fi_X5_15r rfl rfl ht8 ?_
            change WP _ _ _ _ _ _ (rv (hC (sI H (tg H a15) a15 x1.toNatClampNeg x2) 602 a0) :: _) _ _
            refine wp_iload_n 1 dX5_store_44 rfl ?_
            refine wp_lload_n 3 dX5_store_45 rfl ?_
            obtain ⟨a18, ha18, h⟩ := h
            obtain ⟨hr19, h⟩ := h
            obtain ⟨hg20, h⟩ := h
            refine wp_lastore dX5_store_46 ha18 hr19 hg20 ?_
            change WP _ _ _ _ _ _ _ (sL (sI H (tg H a15) a15 x1.toNatClampNeg x2) (tg (sI H (tg H a15) a15 x1.toNatClampNeg x2) a18) a18 x1.toNatClampNeg x3) _
            refine wp_iconst (v := (1 : Int32)) dX5_store_47 (by decide) ?_
            exact wp_ireturn (ty := .boolean) dX5_store_48 rfl rfl ⟨true, rfl, h⟩
          · replace h := h.2 c
            refine wp_iconst (v := (0 : Int32)) dX5_store_31 (by decide) ?_
            exact wp_ireturn (ty := .boolean) dX5_store_32 rfl rfl ⟨false, rfl, h⟩
theorem C_X5_store {d : Nat} {q : HP → Bool → Prop} {a0 : Nat} {x1 : Int32} {x2 : Int32} {x3 : Int64} {H : HP} (h : wb_X5_store_0 d q a0 x1 x2 x3 H) : CZ (d + 1) 0 0 mX5_store [rv (some a0), .int x1, .int x2, .long x3] H q := by
  refine call_of (by decide +kernel) (by simp [lg_sl, rv_cat, vc_int, vc_long, vc_float, vc_double]) ?_
  have e : lv_args 0 [rv (some a0), .int x1, .int x2, .long x3] = [(0, rv (some a0)), (1, .int x1), (2, .int x2), (3, .long x3)] := by simp [lv_args, rv_cat, vc_int, vc_long, vc_float, vc_double]
  rw [e]
  exact T_X5_store_0 h
def wb_X7_append_0 (d : Nat) (q : HP → Bool → Prop) (a0 : Nat) (x1 : Int32) (H : HP) : Prop :=
  tg H a0 = 8 ∧ (((hI H 801 a0 0) < (60 : Int32) → ∃ a2, (hC H 800 a0) = some a2 ∧ (isA H a2 1 ∧ (vp_in (hI H 801 a0 0) (ln H a2) ∧ (∀ H5, (sI (sI H (tg H a2) a2 (hI H 801 a0 0).toNatClampNeg ((x1.toInt8.toInt32).toInt8.toInt32)) 801 a0 0 ((hI (sI H (tg H a2) a2 (hI H 801 a0 0).toNatClampNeg ((x1.toInt8.toInt32).toInt8.toInt32)) 801 a0 0) + (1 : Int32))) = H5 → (q H5 true))))) ∧ (¬ ((hI H 801 a0 0) < (60 : Int32)) → q H false))
set_option maxRecDepth 40000 in
set_option maxHeartbeats 4000000 in
theorem T_X7_append_0 {d : Nat} {q : HP → Bool → Prop} {a0 : Nat} {x1 : Int32} {H : HP} (h : wb_X7_append_0 d q a0 x1 H) : WP (d + 1) mX7_append 0 0 0 [(0, rv (some a0)), (1, .int x1)] [] H (qZ q) := by
  unfold wb_X7_append_0 at h
  refine wp_aload_n 0 dX7_append_0 rfl ?_
  obtain ⟨ht1, h⟩ := h
  refine wp_getI (ci := 7) (j := 1) dX7_append_1 fi_X7_15r rfl rfl ht1 ?_
  change WP _ _ _ _ _ _ (.int (hI H 801 a0 0) :: _) _ _
  refine wp_bipush (v := (60 : Int32)) dX7_append_4 (by decide) ?_
  refine wp_icmp_lt (tgt := 11) dX7_append_6 rfl (fun c => ?_) (fun c => ?_)
  · replace h := h.1 c
    refine wp_aload_n 0 dX7_append_11 rfl ?_
    refine wp_getC (ci := 7) (j := 0) dX7_append_12 fi_X7_9r rfl rfl ht1 ?_
    change WP _ _ _ _ _ _ (rv (hC H 800 a0) :: _) _ _
    refine wp_aload_n 0 dX7_append_15 rfl ?_
    refine wp_getI (ci := 7) (j := 1) dX7_append_16 fi_X7_15r rfl rfl ht1 ?_
    change WP _ _ _ _ _ _ (.int (hI H 801 a0 0) :: _) _ _
    refine wp_iload_n 1 dX7_append_19 rfl ?_
    refine wp_i2b dX7_append_20 ?_
    obtain ⟨a2, ha2, h⟩ := h
    obtain ⟨hr3, h⟩ := h
    obtain ⟨hg4, h⟩ := h
    refine wp_bastore dX7_append_21 ha2 hr3 hg4 ?_
    change WP _ _ _ _ _ _ _ (sI H (tg H a2) a2 (hI H 801 a0 0).toNatClampNeg ((x1.toInt8.toInt32).toInt8.toInt32)) _
    refine wp_aload_n 0 dX7_append_22 rfl ?_
    refine wp_dup dX7_append_23 (rv_cat _) ?_
    refine wp_getI (ci := 7) (j := 1) dX7_append_24 fi_X7_15r rfl rfl ht1 ?_
    change WP _ _ _ _ _ _ (.int (hI (sI H (tg H a2) a2 (hI H 801 a0 0).toNatClampNeg ((x1.toInt8.toInt32).toInt8.toInt32)) 801 a0 0) :: _) _ _
    refine wp_iconst (v := (1 : Int32)) dX7_append_27 (by decide) ?_
    refine wp_iadd dX7_append_28 ?_
    refine wp_putI (ci := 7) (j := 1) dX7_append_29 fi_X7_15 rfl (fun z => by cases z) rfl ht1 rfl rfl ?_
    change WP _ _ _ _ _ _ _ (sI (sI H (tg H a2) a2 (hI H 801 a0 0).toNatClampNeg ((x1.toInt8.toInt32).toInt8.toInt32)) 801 a0 0 ((hI (sI H (tg H a2) a2 (hI H 801 a0 0).toNatClampNeg ((x1.toInt8.toInt32).toInt8.toInt32)) 801 a0 0) + (1 : Int32))) _
    replace h := h _ rfl
    generalize e6 : (sI (sI H (tg H a2) a2 (hI H 801 a0 0).toNatClampNeg ((x1.toInt8.toInt32).toInt8.toInt32)) 801 a0 0 ((hI (sI H (tg H a2) a2 (hI H 801 a0 0).toNatClampNeg ((x1.toInt8.toInt32).toInt8.toInt32)) 801 a0 0) + (1 : Int32))) = H5 at h ⊢
    have ht7 : tg H5 a0 = 8 := by rw [← e6]; exact ht1
    have hr8 : isA H5 a2 1 := by rw [← e6]; exact hr3
    refine wp_iconst (v := (1 : Int32)) dX7_append_32 (by decide) ?_
    exact wp_ireturn (ty := .boolean) dX7_append_33 rfl rfl ⟨true, rfl, h⟩
  · replace h := h.2 c
    refine wp_iconst (v := (0 : Int32)) dX7_append_9 (by decide) ?_
    exact wp_ireturn (ty := .boolean) dX7_append_10 rfl rfl ⟨false, rfl, h⟩
theorem C_X7_append {d : Nat} {q : HP → Bool → Prop} {a0 : Nat} {x1 : Int32} {H : HP} (h : wb_X7_append_0 d q a0 x1 H) : CZ (d + 1) 0 0 mX7_append [rv (some a0), .int x1] H q := by
  refine call_of (by decide +kernel) (by simp [lg_sl, rv_cat, vc_int, vc_long, vc_float, vc_double]) ?_
  have e : lv_args 0 [rv (some a0), .int x1] = [(0, rv (some a0)), (1, .int x1)] := by simp [lv_args, rv_cat, vc_int, vc_long, vc_float, vc_double]
  rw [e]
  exact T_X7_append_0 h
def wb_X7_clear_0 (d : Nat) (q : HP → Prop) (a0 : Nat) (H : HP) : Prop :=
  tg H a0 = 8 ∧ (q (sI (sI H 801 a0 0 (0 : Int32)) 802 a0 0 (0 : Int32)))
set_option maxRecDepth 40000 in
set_option maxHeartbeats 4000000 in
theorem T_X7_clear_0 {d : Nat} {q : HP → Prop} {a0 : Nat} {H : HP} (h : wb_X7_clear_0 d q a0 H) : WP (d + 1) mX7_clear 0 0 0 [(0, rv (some a0))] [] H (qV q) := by
  unfold wb_X7_clear_0 at h
  refine wp_aload_n 0 dX7_clear_0 rfl ?_
  refine wp_iconst (v := (0 : Int32)) dX7_clear_1 (by decide) ?_
  obtain ⟨ht1, h⟩ := h
  refine wp_putI (ci := 7) (j := 1) dX7_clear_2 fi_X7_15 rfl (fun z => by cases z) rfl ht1 rfl rfl ?_
  change WP _ _ _ _ _ _ _ (sI H 801 a0 0 (0 : Int32)) _
  refine wp_aload_n 0 dX7_clear_5 rfl ?_
  refine wp_iconst (v := (0 : Int32)) dX7_clear_6 (by decide) ?_
  refine wp_putI (ci := 7) (j := 2) dX7_clear_7 fi_X7_19 rfl (fun z => by cases z) rfl ht1 rfl rfl ?_
  change WP _ _ _ _ _ _ _ (sI (sI H 801 a0 0 (0 : Int32)) 802 a0 0 (0 : Int32)) _
  exact wp_return dX7_clear_10 rfl ⟨rfl, h⟩
theorem C_X7_clear {d : Nat} {q : HP → Prop} {a0 : Nat} {H : HP} (h : wb_X7_clear_0 d q a0 H) : CV (d + 1) 0 0 mX7_clear [rv (some a0)] H q := by
  refine call_of (by decide +kernel) (by simp [lg_sl, rv_cat, vc_int, vc_long, vc_float, vc_double]) ?_
  have e : lv_args 0 [rv (some a0)] = [(0, rv (some a0))] := by simp [lv_args, rv_cat, vc_int, vc_long, vc_float, vc_double]
  rw [e]
  exact T_X7_clear_0 h
/-- UnitProver$Tape.holds([BII)Z: the loop at 25 -/
def L_X7_holds_25 (d : Nat) (q : HP → Bool → Prop) (a0 : Nat) (o1 : Option Nat) (x2 : Int32) (x3 : Int32) (x4 : Int32) (H : HP) : Prop := WP (d + 1) mX7_holds 0 0 25 [(0, rv (some a0)), (1, rv o1), (2, .int x2), (3, .int x3), (4, .int x4)] [] H (qZ q)
def wb_X7_holds_0 (d : Nat) (q : HP → Bool → Prop) (a0 : Nat) (o1 : Option Nat) (x2 : Int32) (x3 : Int32) (H : HP) : Prop :=
  (x3 < 0 → q H false) ∧ (¬ (x3 < 0) → tg H a0 = 8 ∧ (((hI H 801 a0 0) < (x3 + x2) → q H false) ∧ (¬ ((hI H 801 a0 0) < (x3 + x2)) → ∃ a2, o1 = some a2 ∧ (4096 ≤ tg H a2 ∧ ((x2 ≤ (Int32.ofNat (ln H a2)) → L_X7_holds_25 d q a0 o1 x2 x3 (0 : Int32) H) ∧ (¬ (x2 ≤ (Int32.ofNat (ln H a2))) → q H false))))))
set_option maxRecDepth 40000 in
set_option maxHeartbeats 4000000 in
theorem T_X7_holds_0 {d : Nat} {q : HP → Bool → Prop} {a0 : Nat} {o1 : Option Nat} {x2 : Int32} {x3 : Int32} {H : HP} (h : wb_X7_holds_0 d q a0 o1 x2 x3 H) : WP (d + 1) mX7_holds 0 0 0 [(0, rv (some a0)), (1, rv o1), (2, .int x2), (3, .int x3)] [] H (qZ q) := by
  unfold wb_X7_holds_0 at h
  refine wp_iload_n 3 dX7_holds_0 rfl ?_
  refine wp_if_lt (tgt := 20) dX7_holds_1 rfl (fun c => ?_) (fun c => ?_)
  · replace h := h.1 c
    refine wp_iconst (v := (0 : Int32)) dX7_holds_20 (by decide) ?_
    exact wp_ireturn (ty := .boolean) dX7_holds_21 rfl rfl ⟨false, rfl, h⟩
  · replace h := h.2 c
    refine wp_iload_n 3 dX7_holds_4 rfl ?_
    refine wp_iload_n 2 dX7_holds_5 rfl ?_
    refine wp_iadd dX7_holds_6 ?_
    refine wp_aload_n 0 dX7_holds_7 rfl ?_
    obtain ⟨ht1, h⟩ := h
    refine wp_getI (ci := 7) (j := 1) dX7_holds_8 fi_X7_15r rfl rfl ht1 ?_
    change WP _ _ _ _ _ _ (.int (hI H 801 a0 0) :: _) _ _
    refine wp_icmp_gt (tgt := 20) dX7_holds_11 rfl (fun c => ?_) (fun c => ?_)
    · replace h := h.1 c
      refine wp_iconst (v := (0 : Int32)) dX7_holds_20 (by decide) ?_
      exact wp_ireturn (ty := .boolean) dX7_holds_21 rfl rfl ⟨false, rfl, h⟩
    · replace h := h.2 c
      refine wp_iload_n 2 dX7_holds_14 rfl ?_
      refine wp_aload_n 1 dX7_holds_15 rfl ?_
      obtain ⟨a2, ha2, h⟩ := h
      obtain ⟨hg3, h⟩ := h
      refine wp_alen dX7_holds_16 ha2 hg3 ?_
      refine wp_icmp_le (tgt := 22) dX7_holds_17 rfl (fun c => ?_) (fun c => ?_)
      · replace h := h.1 c
        refine wp_iconst (v := (0 : Int32)) dX7_holds_22 (by decide) ?_
        refine wp_istore (ls' := [(4, .int (0 : Int32)), (0, rv (some a0)), (1, rv o1), (2, .int x2), (3, .int x3)]) dX7_holds_23 (by decide) rfl ?_
        refine wp_sub (ls' := [(0, rv (some a0)), (1, rv o1), (2, .int x2), (3, .int x3), (4, .int (0 : Int32))]) [1, 2, 3, 4, 0] rfl ?_
        exact h
      · replace h := h.2 c
        refine wp_iconst (v := (0 : Int32)) dX7_holds_20 (by decide) ?_
        exact wp_ireturn (ty := .boolean) dX7_holds_21 rfl rfl ⟨false, rfl, h⟩
def wb_X7_holds_25 (d : Nat) (q : HP → Bool → Prop) (a0 : Nat) (o1 : Option Nat) (x2 : Int32) (x3 : Int32) (x4 : Int32) (H : HP) : Prop :=
  (x2 ≤ x4 → q H true) ∧ (¬ (x2 ≤ x4) → tg H a0 = 8 ∧ (∃ a2, (hC H 800 a0) = some a2 ∧ (isA H a2 1 ∧ (vp_in (x3 + x4) (ln H a2) ∧ (∃ a5, o1 = some a5 ∧ (isA H a5 1 ∧ (vp_in x4 (ln H a5) ∧ (((hI H (tg H a2) a2 (x3 + x4).toNatClampNeg) = (hI H (tg H a5) a5 x4.toNatClampNeg) → L_X7_holds_25 d q a0 o1 x2 x3 (x4 + 1) H) ∧ (¬ ((hI H (tg H a2) a2 (x3 + x4).toNatClampNeg) = (hI H (tg H a5) a5 x4.toNatClampNeg)) → q H false)))))))))
set_option maxRecDepth 40000 in
set_option maxHeartbeats 4000000 in
theorem T_X7_holds_25 {d : Nat} {q : HP → Bool → Prop} {a0 : Nat} {o1 : Option Nat} {x2 : Int32} {x3 : Int32} {x4 : Int32} {H : HP} (h : wb_X7_holds_25 d q a0 o1 x2 x3 x4 H) : L_X7_holds_25 d q a0 o1 x2 x3 x4 H := by
  unfold wb_X7_holds_25 at h
  unfold L_X7_holds_25
  refine wp_iload 4 dX7_holds_25 rfl ?_
  refine wp_iload_n 2 dX7_holds_27 rfl ?_
  refine wp_icmp_ge (tgt := 55) dX7_holds_28 rfl (fun c => ?_) (fun c => ?_)
  · replace h := h.1 c
    refine wp_iconst (v := (1 : Int32)) dX7_holds_55 (by decide) ?_
    exact wp_ireturn (ty := .boolean) dX7_holds_56 rfl rfl ⟨true, rfl, h⟩
  · replace h := h.2 c
    refine wp_aload_n 0 dX7_holds_31 rfl ?_
    obtain ⟨ht1, h⟩ := h
    refine wp_getC (ci := 7) (j := 0) dX7_holds_32 fi_X7_9r rfl rfl ht1 ?_
    change WP _ _ _ _ _ _ (rv (hC H 800 a0) :: _) _ _
    refine wp_iload_n 3 dX7_holds_35 rfl ?_
    refine wp_iload 4 dX7_holds_36 rfl ?_
    refine wp_iadd dX7_holds_38 ?_
    obtain ⟨a2, ha2, h⟩ := h
    obtain ⟨hr3, h⟩ := h
    obtain ⟨hg4, h⟩ := h
    refine wp_baload dX7_holds_39 ha2 hr3 hg4 ?_
    refine wp_aload_n 1 dX7_holds_40 rfl ?_
    refine wp_iload 4 dX7_holds_41 rfl ?_
    obtain ⟨a5, ha5, h⟩ := h
    obtain ⟨hr6, h⟩ := h
    obtain ⟨hg7, h⟩ := h
    refine wp_baload dX7_holds_43 ha5 hr6 hg7 ?_
    refine wp_icmp_eq (tgt := 49) dX7_holds_44 rfl (fun c => ?_) (fun c => ?_)
    · replace h := h.1 c
      refine wp_iinc (v := (x4 + 1)) (ls' := [(4, .int (x4 + 1)), (0, rv (some a0)), (1, rv o1), (2, .int x2), (3, .int x3)]) 4 dX7_holds_49 rfl rfl (by decide) rfl ?_
      refine wp_goto (tgt := 25) dX7_holds_52 rfl ?_
      refine wp_sub (ls' := [(0, rv (some a0)), (1, rv o1), (2, .int x2), (3, .int x3), (4, .int (x4 + 1))]) [1, 2, 3, 4, 0] rfl ?_
      exact h
    · replace h := h.2 c
      refine wp_iconst (v := (0 : Int32)) dX7_holds_47 (by decide) ?_
      exact wp_ireturn (ty := .boolean) dX7_holds_48 rfl rfl ⟨false, rfl, h⟩
theorem C_X7_holds {d : Nat} {q : HP → Bool → Prop} {a0 : Nat} {o1 : Option Nat} {x2 : Int32} {x3 : Int32} {H : HP} (h : wb_X7_holds_0 d q a0 o1 x2 x3 H) : CZ (d + 1) 0 0 mX7_holds [rv (some a0), rv o1, .int x2, .int x3] H q := by
  refine call_of (by decide +kernel) (by simp [lg_sl, rv_cat, vc_int, vc_long, vc_float, vc_double]) ?_
  have e : lv_args 0 [rv (some a0), rv o1, .int x2, .int x3] = [(0, rv (some a0)), (1, rv o1), (2, .int x2), (3, .int x3)] := by simp [lv_args, rv_cat, vc_int, vc_long, vc_float, vc_double]
  rw [e]
  exact T_X7_holds_0 h
def wb_X7_init_0 (d : Nat) (ca sa : Nat) (q : HP → Prop) (a0 : Nat) (H : HP) : Prop :=
  hN H < scrA ∧ (1 ≤ ca ∧ (60 ≤ sa ∧ (tg (nw H 4145 60) a0 = 8 ∧ (q (sI (sI (sC (nw H 4145 60) 800 a0 (some (hN H))) 801 a0 0 (0 : Int32)) 802 a0 0 (0 : Int32))))))
set_option maxRecDepth 40000 in
set_option maxHeartbeats 4000000 in
theorem T_X7_init_0 {d : Nat} {ca sa : Nat} {q : HP → Prop} {a0 : Nat} {H : HP} (h : wb_X7_init_0 d ca sa q a0 H) : WP (d + 1) mX7_init ca sa 0 [(0, rv (some a0))] [] H (qV q) := by
  unfold wb_X7_init_0 at h
  refine wp_aload_n 0 dX7_init_0 rfl ?_
  refine wp_objInit dX7_init_1 w_1_36 w_1_29 w_1_30 rfl (by decide) (by omega) ?_
  refine wp_aload_n 0 dX7_init_4 rfl ?_
  refine wp_bipush (v := (60 : Int32)) dX7_init_5 (by decide) ?_
  obtain ⟨hg1, h⟩ := h
  obtain ⟨hg2, h⟩ := h
  obtain ⟨hg3, h⟩ := h
  refine wp_newarray (t := 4145) (N := 60) (ca' := ca - 1) (sa' := sa - 60) dX7_init_7 w_1_53 (by decide) rfl (by decide) (by decide) (by decide +kernel) hg1 (by omega) (by omega) ?_
  obtain ⟨ht4, h⟩ := h
  refine wp_putC (ci := 7) (j := 0) dX7_init_9 fi_X7_9 rfl (fun _ => rfl) rfl ht4 (Or.inr ⟨_, rfl⟩) ?_
  change WP _ _ _ _ _ _ _ (sC (nw H 4145 60) 800 a0 (some (hN H))) _
  refine wp_aload_n 0 dX7_init_12 rfl ?_
  refine wp_iconst (v := (0 : Int32)) dX7_init_13 (by decide) ?_
  refine wp_putI (ci := 7) (j := 1) dX7_init_14 fi_X7_15 rfl (fun z => by cases z) rfl ht4 rfl rfl ?_
  change WP _ _ _ _ _ _ _ (sI (sC (nw H 4145 60) 800 a0 (some (hN H))) 801 a0 0 (0 : Int32)) _
  refine wp_aload_n 0 dX7_init_17 rfl ?_
  refine wp_iconst (v := (0 : Int32)) dX7_init_18 (by decide) ?_
  refine wp_putI (ci := 7) (j := 2) dX7_init_19 fi_X7_19 rfl (fun z => by cases z) rfl ht4 rfl rfl ?_
  change WP _ _ _ _ _ _ _ (sI (sI (sC (nw H 4145 60) 800 a0 (some (hN H))) 801 a0 0 (0 : Int32)) 802 a0 0 (0 : Int32)) _
  exact wp_return dX7_init_22 rfl ⟨rfl, h⟩
theorem C_X7_init {d : Nat} {ca sa : Nat} {q : HP → Prop} {a0 : Nat} {H : HP} (h : wb_X7_init_0 d ca sa q a0 H) : CV (d + 1) ca sa mX7_init [rv (some a0)] H q := by
  refine call_of (by decide +kernel) (by simp [lg_sl, rv_cat, vc_int, vc_long, vc_float, vc_double]) ?_
  have e : lv_args 0 [rv (some a0)] = [(0, rv (some a0))] := by simp [lv_args, rv_cat, vc_int, vc_long, vc_float, vc_double]
  rw [e]
  exact T_X7_init_0 h
def wb_X7_isAtEnd_0 (d : Nat) (q : HP → Bool → Prop) (a0 : Nat) (H : HP) : Prop :=
  tg H a0 = 8 ∧ (((hI H 802 a0 0) < (hI H 801 a0 0) → q H false) ∧ (¬ ((hI H 802 a0 0) < (hI H 801 a0 0)) → q H true))
set_option maxRecDepth 40000 in
set_option maxHeartbeats 4000000 in
theorem T_X7_isAtEnd_0 {d : Nat} {q : HP → Bool → Prop} {a0 : Nat} {H : HP} (h : wb_X7_isAtEnd_0 d q a0 H) : WP (d + 1) mX7_isAtEnd 0 0 0 [(0, rv (some a0))] [] H (qZ q) := by
  unfold wb_X7_isAtEnd_0 at h
  refine wp_aload_n 0 dX7_isAtEnd_0 rfl ?_
  obtain ⟨ht1, h⟩ := h
  refine wp_getI (ci := 7) (j := 2) dX7_isAtEnd_1 fi_X7_19r rfl rfl ht1 ?_
  change WP _ _ _ _ _ _ (.int (hI H 802 a0 0) :: _) _ _
  refine wp_aload_n 0 dX7_isAtEnd_4 rfl ?_
  refine wp_getI (ci := 7) (j := 1) dX7_isAtEnd_5 fi_X7_15r rfl rfl ht1 ?_
  change WP _ _ _ _ _ _ (.int (hI H 801 a0 0) :: _) _ _
  refine wp_icmp_lt (tgt := 15) dX7_isAtEnd_8 rfl (fun c => ?_) (fun c => ?_)
  · replace h := h.1 c
    refine wp_iconst (v := (0 : Int32)) dX7_isAtEnd_15 (by decide) ?_
    exact wp_ireturn (ty := .boolean) dX7_isAtEnd_16 rfl rfl ⟨false, rfl, h⟩
  · replace h := h.2 c
    refine wp_iconst (v := (1 : Int32)) dX7_isAtEnd_11 (by decide) ?_
    refine wp_goto (tgt := 16) dX7_isAtEnd_12 rfl ?_
    exact wp_ireturn (ty := .boolean) dX7_isAtEnd_16 rfl rfl ⟨true, rfl, h⟩
theorem C_X7_isAtEnd {d : Nat} {q : HP → Bool → Prop} {a0 : Nat} {H : HP} (h : wb_X7_isAtEnd_0 d q a0 H) : CZ (d + 1) 0 0 mX7_isAtEnd [rv (some a0)] H q := by
  refine call_of (by decide +kernel) (by simp [lg_sl, rv_cat, vc_int, vc_long, vc_float, vc_double]) ?_
  have e : lv_args 0 [rv (some a0)] = [(0, rv (some a0))] := by simp [lv_args, rv_cat, vc_int, vc_long, vc_float, vc_double]
  rw [e]
  exact T_X7_isAtEnd_0 h
def wb_X7_isFigure_0 (d : Nat) (q : HP → Bool → Prop) (a0 : Nat) (x1 : Int32) (H : HP) : Prop :=
  tg H a0 = 8 ∧ (CI d 0 0 mX7_look [rv (some a0), .int x1] H (fun H1 r3 => (r3 < (48 : Int32) → q H1 false) ∧ (¬ (r3 < (48 : Int32)) → ((57 : Int32) < r3 → q H1 false) ∧ (¬ ((57 : Int32) < r3) → q H1 true))))
set_option maxRecDepth 40000 in
set_option maxHeartbeats 4000000 in
theorem T_X7_isFigure_0 {d : Nat} {q : HP → Bool → Prop} {a0 : Nat} {x1 : Int32} {H : HP} (h : wb_X7_isFigure_0 d q a0 x1 H) : WP (d + 1) mX7_isFigure 0 0 0 [(0, rv (some a0)), (1, .int x1)] [] H (qZ q) := by
  unfold wb_X7_isFigure_0 at h
  refine wp_aload_n 0 dX7_isFigure_0 rfl ?_
  refine wp_iload_n 1 dX7_isFigure_1 rfl ?_
  obtain ⟨ht2, h⟩ := h
  refine wp_callV (ci := 7) (As := [.int x1]) (rest := []) (mc := 0) (ms := 0) dX7_isFigure_2 lk_X7_22 rfl rfl (by decide) rfl rfl rfl ht2 rfl rfl rfl w_3_26 (Call.weaken h ?_)
  rintro H1 _ ⟨r3, rfl, h⟩
  change WP _ _ _ _ _ _ [.int r3] H1 _
  refine wp_istore_n (ls' := [(2, .int r3), (0, rv (some a0)), (1, .int x1)]) dX7_isFigure_5 (by decide) rfl ?_
  refine wp_iload_n 0 dX7_isFigure_6 rfl ?_
  refine wp_bipush (v := (48 : Int32)) dX7_isFigure_7 (by decide) ?_
  refine wp_icmp_lt (tgt := 22) dX7_isFigure_9 rfl (fun c => ?_) (fun c => ?_)
  · replace h := h.1 c
    refine wp_iconst (v := (0 : Int32)) dX7_isFigure_22 (by decide) ?_
    exact wp_ireturn (ty := .boolean) dX7_isFigure_23 rfl rfl ⟨false, rfl, h⟩
  · replace h := h.2 c
    refine wp_iload_n 0 dX7_isFigure_12 rfl ?_
    refine wp_bipush (v := (57 : Int32)) dX7_isFigure_13 (by decide) ?_
    refine wp_icmp_gt (tgt := 22) dX7_isFigure_15 rfl (fun c => ?_) (fun c => ?_)
    · replace h := h.1 c
      refine wp_iconst (v := (0 : Int32)) dX7_isFigure_22 (by decide) ?_
      exact wp_ireturn (ty := .boolean) dX7_isFigure_23 rfl rfl ⟨false, rfl, h⟩
    · replace h := h.2 c
      refine wp_iconst (v := (1 : Int32)) dX7_isFigure_18 (by decide) ?_
      refine wp_goto (tgt := 23) dX7_isFigure_19 rfl ?_
      exact wp_ireturn (ty := .boolean) dX7_isFigure_23 rfl rfl ⟨true, rfl, h⟩
theorem C_X7_isFigure {d : Nat} {q : HP → Bool → Prop} {a0 : Nat} {x1 : Int32} {H : HP} (h : wb_X7_isFigure_0 d q a0 x1 H) : CZ (d + 1) 0 0 mX7_isFigure [rv (some a0), .int x1] H q := by
  refine call_of (by decide +kernel) (by simp [lg_sl, rv_cat, vc_int, vc_long, vc_float, vc_double]) ?_
  have e : lv_args 0 [rv (some a0), .int x1] = [(0, rv (some a0)), (1, .int x1)] := by simp [lv_args, rv_cat, vc_int, vc_long, vc_float, vc_double]
  rw [e]
  exact T_X7_isFigure_0 h
def wb_X7_isLetter_0 (d : Nat) (q : HP → Bool → Prop) (a0 : Nat) (x1 : Int32) (H : HP) : Prop :=
  tg H a0 = 8 ∧ (CI d 0 0 mX7_look [rv (some a0), .int x1] H (fun H1 r3 => (r3 < (97 : Int32) → q H1 false) ∧ (¬ (r3 < (97 : Int32)) → ((122 : Int32) < r3 → q H1 false) ∧ (¬ ((122 : Int32) < r3) → q H1 true))))
set_option maxRecDepth 40000 in
set_option maxHeartbeats 4000000 in
theorem T_X7_isLetter_0 {d : Nat} {q : HP → Bool → Prop} {a0 : Nat} {x1 : Int32} {H : HP} (h : wb_X7_isLetter_0 d q a0 x1 H) : WP (d + 1) mX7_isLetter 0 0 0 [(0, rv (some a0)), (1, .int x1)] [] H (qZ q) := by
  unfold wb_X7_isLetter_0 at h
  refine wp_aload_n 0 dX7_isLetter_0 rfl ?_
  refine wp_iload_n 1 dX7_isLetter_1 rfl ?_
  obtain ⟨ht2, h⟩ := h
  refine wp_callV (ci := 7) (As := [.int x1]) (rest := []) (mc := 0) (ms := 0) dX7_isLetter_2 lk_X7_22 rfl rfl (by decide) rfl rfl rfl ht2 rfl rfl rfl w_3_26 (Call.weaken h ?_)
  rintro H1 _ ⟨r3, rfl, h⟩
  change WP _ _ _ _ _ _ [.int r3] H1 _
  refine wp_istore_n (ls' := [(2, .int r3), (0, rv (some a0)), (1, .int x1)]) dX7_isLetter_5 (by decide) rfl ?_
  refine wp_iload_n 0 dX7_isLetter_6 rfl ?_
  refine wp_bipush (v := (97 : Int32)) dX7_isLetter_7 (by decide) ?_
  refine wp_icmp_lt (tgt := 22) dX7_isLetter_9 rfl (fun c => ?_) (fun c => ?_)
  · replace h := h.1 c
    refine wp_iconst (v := (0 : Int32)) dX7_isLetter_22 (by decide) ?_
    exact wp_ireturn (ty := .boolean) dX7_isLetter_23 rfl rfl ⟨false, rfl, h⟩
  · replace h := h.2 c
    refine wp_iload_n 0 dX7_isLetter_12 rfl ?_
    refine wp_bipush (v := (122 : Int32)) dX7_isLetter_13 (by decide) ?_
    refine wp_icmp_gt (tgt := 22) dX7_isLetter_15 rfl (fun c => ?_) (fun c => ?_)
    · replace h := h.1 c
      refine wp_iconst (v := (0 : Int32)) dX7_isLetter_22 (by decide) ?_
      exact wp_ireturn (ty := .boolean) dX7_isLetter_23 rfl rfl ⟨false, rfl, h⟩
    · replace h := h.2 c
      refine wp_iconst (v := (1 : Int32)) dX7_isLetter_18 (by decide) ?_
      refine wp_goto (tgt := 23) dX7_isLetter_19 rfl ?_
      exact wp_ireturn (ty := .boolean) dX7_isLetter_23 rfl rfl ⟨true, rfl, h⟩
theorem C_X7_isLetter {d : Nat} {q : HP → Bool → Prop} {a0 : Nat} {x1 : Int32} {H : HP} (h : wb_X7_isLetter_0 d q a0 x1 H) : CZ (d + 1) 0 0 mX7_isLetter [rv (some a0), .int x1] H q := by
  refine call_of (by decide +kernel) (by simp [lg_sl, rv_cat, vc_int, vc_long, vc_float, vc_double]) ?_
  have e : lv_args 0 [rv (some a0), .int x1] = [(0, rv (some a0)), (1, .int x1)] := by simp [lv_args, rv_cat, vc_int, vc_long, vc_float, vc_double]
  rw [e]
  exact T_X7_isLetter_0 h
def wb_X7_isPower_0 (d : Nat) (q : HP → Bool → Prop) (a0 : Nat) (H : HP) : Prop :=
  tg H a0 = 8 ∧ (CI d 0 0 mX7_look [rv (some a0), .int (0 : Int32)] H (fun H1 r3 => (r3 < (49 : Int32) → q H1 false) ∧ (¬ (r3 < (49 : Int32)) → tg H1 a0 = 8 ∧ (CI d 0 0 mX7_look [rv (some a0), .int (0 : Int32)] H1 (fun H4 r6 => ((52 : Int32) < r6 → q H4 false) ∧ (¬ ((52 : Int32) < r6) → q H4 true))))))
set_option maxRecDepth 40000 in
set_option maxHeartbeats 4000000 in
theorem T_X7_isPower_0 {d : Nat} {q : HP → Bool → Prop} {a0 : Nat} {H : HP} (h : wb_X7_isPower_0 d q a0 H) : WP (d + 1) mX7_isPower 0 0 0 [(0, rv (some a0))] [] H (qZ q) := by
  unfold wb_X7_isPower_0 at h
  refine wp_aload_n 0 dX7_isPower_0 rfl ?_
  refine wp_iconst (v := (0 : Int32)) dX7_isPower_1 (by decide) ?_
  obtain ⟨ht2, h⟩ := h
  refine wp_callV (ci := 7) (As := [.int (0 : Int32)]) (rest := []) (mc := 0) (ms := 0) dX7_isPower_2 lk_X7_22 rfl rfl (by decide) rfl rfl rfl ht2 rfl rfl rfl w_3_26 (Call.weaken h ?_)
  rintro H1 _ ⟨r3, rfl, h⟩
  change WP _ _ _ _ _ _ [.int r3] H1 _
  refine wp_bipush (v := (49 : Int32)) dX7_isPower_5 (by decide) ?_
  refine wp_icmp_lt (tgt := 24) dX7_isPower_7 rfl (fun c => ?_) (fun c => ?_)
  · replace h := h.1 c
    refine wp_iconst (v := (0 : Int32)) dX7_isPower_24 (by decide) ?_
    exact wp_ireturn (ty := .boolean) dX7_isPower_25 rfl rfl ⟨false, rfl, h⟩
  · replace h := h.2 c
    refine wp_aload_n 0 dX7_isPower_10 rfl ?_
    refine wp_iconst (v := (0 : Int32)) dX7_isPower_11 (by decide) ?_
    obtain ⟨ht5, h⟩ := h
    refine wp_callV (ci := 7) (As := [.int (0 : Int32)]) (rest := []) (mc := 0) (ms := 0) dX7_isPower_12 lk_X7_22 rfl rfl (by decide) rfl rfl rfl ht5 rfl rfl rfl w_3_26 (Call.weaken h ?_)
    rintro H4 _ ⟨r6, rfl, h⟩
    change WP _ _ _ _ _ _ [.int r6] H4 _
    refine wp_bipush (v := (52 : Int32)) dX7_isPower_15 (by decide) ?_
    refine wp_icmp_gt (tgt := 24) dX7_isPower_17 rfl (fun c => ?_) (fun c => ?_)
    · replace h := h.1 c
      refine wp_iconst (v := (0 : Int32)) dX7_isPower_24 (by decide) ?_
      exact wp_ireturn (ty := .boolean) dX7_isPower_25 rfl rfl ⟨false, rfl, h⟩
    · replace h := h.2 c
      refine wp_iconst (v := (1 : Int32)) dX7_isPower_20 (by decide) ?_
      refine wp_goto (tgt := 25) dX7_isPower_21 rfl ?_
      exact wp_ireturn (ty := .boolean) dX7_isPower_25 rfl rfl ⟨true, rfl, h⟩
theorem C_X7_isPower {d : Nat} {q : HP → Bool → Prop} {a0 : Nat} {H : HP} (h : wb_X7_isPower_0 d q a0 H) : CZ (d + 1) 0 0 mX7_isPower [rv (some a0)] H q := by
  refine call_of (by decide +kernel) (by simp [lg_sl, rv_cat, vc_int, vc_long, vc_float, vc_double]) ?_
  have e : lv_args 0 [rv (some a0)] = [(0, rv (some a0))] := by simp [lv_args, rv_cat, vc_int, vc_long, vc_float, vc_double]
  rw [e]
  exact T_X7_isPower_0 h
def wb_X7_look_0 (d : Nat) (q : HP → Int32 → Prop) (a0 : Nat) (x1 : Int32) (H : HP) : Prop :=
  tg H a0 = 8 ∧ ((((hI H 802 a0 0) + x1) < 0 → q H (0 : Int32)) ∧ (¬ (((hI H 802 a0 0) + x1) < 0) → (((hI H 802 a0 0) + x1) < (hI H 801 a0 0) → ∃ a2, (hC H 800 a0) = some a2 ∧ (isA H a2 1 ∧ (vp_in ((hI H 802 a0 0) + x1) (ln H a2) ∧ (q H (hI H (tg H a2) a2 ((hI H 802 a0 0) + x1).toNatClampNeg))))) ∧ (¬ (((hI H 802 a0 0) + x1) < (hI H 801 a0 0)) → q H (0 : Int32))))
set_option maxRecDepth 40000 in
set_option maxHeartbeats 4000000 in
theorem T_X7_look_0 {d : Nat} {q : HP → Int32 → Prop} {a0 : Nat} {x1 : Int32} {H : HP} (h : wb_X7_look_0 d q a0 x1 H) : WP (d + 1) mX7_look 0 0 0 [(0, rv (some a0)), (1, .int x1)] [] H (qI q) := by
  unfold wb_X7_look_0 at h
  refine wp_aload_n 0 dX7_look_0 rfl ?_
  obtain ⟨ht1, h⟩ := h
  refine wp_getI (ci := 7) (j := 2) dX7_look_1 fi_X7_19r rfl rfl ht1 ?_
  change WP _ _ _ _ _ _ (.int (hI H 802 a0 0) :: _) _ _
  refine wp_iload_n 1 dX7_look_4 rfl ?_
  refine wp_iadd dX7_look_5 ?_
  refine wp_istore_n (ls' := [(2, .int ((hI H 802 a0 0) + x1)), (0, rv (some a0)), (1, .int x1)]) dX7_look_6 (by decide) rfl ?_
  refine wp_iload_n 0 dX7_look_7 rfl ?_
  refine wp_if_lt (tgt := 19) dX7_look_8 rfl (fun c => ?_) (fun c => ?_)
  · replace h := h.1 c
    refine wp_iconst (v := (0 : Int32)) dX7_look_19 (by decide) ?_
    refine wp_goto (tgt := 29) dX7_look_20 rfl ?_
    exact wp_ireturn (ty := .int) dX7_look_29 rfl rfl ⟨_, rfl, h⟩
  · replace h := h.2 c
    refine wp_iload_n 0 dX7_look_11 rfl ?_
    refine wp_aload_n 1 dX7_look_12 rfl ?_
    refine wp_getI (ci := 7) (j := 1) dX7_look_13 fi_X7_15r rfl rfl ht1 ?_
    change WP _ _ _ _ _ _ (.int (hI H 801 a0 0) :: _) _ _
    refine wp_icmp_lt (tgt := 23) dX7_look_16 rfl (fun c => ?_) (fun c => ?_)
    · replace h := h.1 c
      refine wp_aload_n 1 dX7_look_23 rfl ?_
      refine wp_getC (ci := 7) (j := 0) dX7_look_24 fi_X7_9r rfl rfl ht1 ?_
      change WP _ _ _ _ _ _ (rv (hC H 800 a0) :: _) _ _
      refine wp_iload_n 0 dX7_look_27 rfl ?_
      obtain ⟨a2, ha2, h⟩ := h
      obtain ⟨hr3, h⟩ := h
      obtain ⟨hg4, h⟩ := h
      refine wp_baload dX7_look_28 ha2 hr3 hg4 ?_
      exact wp_ireturn (ty := .int) dX7_look_29 rfl rfl ⟨_, rfl, h⟩
    · replace h := h.2 c
      refine wp_iconst (v := (0 : Int32)) dX7_look_19 (by decide) ?_
      refine wp_goto (tgt := 29) dX7_look_20 rfl ?_
      exact wp_ireturn (ty := .int) dX7_look_29 rfl rfl ⟨_, rfl, h⟩
theorem C_X7_look {d : Nat} {q : HP → Int32 → Prop} {a0 : Nat} {x1 : Int32} {H : HP} (h : wb_X7_look_0 d q a0 x1 H) : CI (d + 1) 0 0 mX7_look [rv (some a0), .int x1] H q := by
  refine call_of (by decide +kernel) (by simp [lg_sl, rv_cat, vc_int, vc_long, vc_float, vc_double]) ?_
  have e : lv_args 0 [rv (some a0), .int x1] = [(0, rv (some a0)), (1, .int x1)] := by simp [lv_args, rv_cat, vc_int, vc_long, vc_float, vc_double]
  rw [e]
  exact T_X7_look_0 h
def wb_X7_takeFigure_0 (d : Nat) (q : HP → Int32 → Prop) (a0 : Nat) (H : HP) : Prop :=
  tg H a0 = 8 ∧ (CI d 0 0 mX7_look [rv (some a0), .int (-1 : Int32)] (sI H 802 a0 0 ((hI H 802 a0 0) + (1 : Int32))) (fun H2 r3 => q H2 (r3 - (48 : Int32))))
set_option maxRecDepth 40000 in
set_option maxHeartbeats 4000000 in
theorem T_X7_takeFigure_0 {d : Nat} {q : HP → Int32 → Prop} {a0 : Nat} {H : HP} (h : wb_X7_takeFigure_0 d q a0 H) : WP (d + 1) mX7_takeFigure 0 0 0 [(0, rv (some a0))] [] H (qI q) := by
  unfold wb_X7_takeFigure_0 at h
  refine wp_aload_n 0 dX7_takeFigure_0 rfl ?_
  refine wp_dup dX7_takeFigure_1 (rv_cat _) ?_
  obtain ⟨ht1, h⟩ := h
  refine wp_getI (ci := 7) (j := 2) dX7_takeFigure_2 fi_X7_19r rfl rfl ht1 ?_
  change WP _ _ _ _ _ _ (.int (hI H 802 a0 0) :: _) _ _
  refine wp_iconst (v := (1 : Int32)) dX7_takeFigure_5 (by decide) ?_
  refine wp_iadd dX7_takeFigure_6 ?_
  refine wp_putI (ci := 7) (j := 2) dX7_takeFigure_7 fi_X7_19 rfl (fun z => by cases z) rfl ht1 rfl rfl ?_
  change WP _ _ _ _ _ _ _ (sI H 802 a0 0 ((hI H 802 a0 0) + (1 : Int32))) _
  refine wp_aload_n 0 dX7_takeFigure_10 rfl ?_
  refine wp_iconst (v := (-1 : Int32)) dX7_takeFigure_11 (by decide) ?_
  refine wp_callV (ci := 7) (As := [.int (-1 : Int32)]) (rest := []) (mc := 0) (ms := 0) dX7_takeFigure_12 lk_X7_22 rfl rfl (by decide) rfl rfl rfl ht1 rfl rfl rfl w_3_26 (Call.weaken h ?_)
  rintro H2 _ ⟨r3, rfl, h⟩
  change WP _ _ _ _ _ _ [.int r3] H2 _
  refine wp_bipush (v := (48 : Int32)) dX7_takeFigure_15 (by decide) ?_
  refine wp_isub dX7_takeFigure_17 ?_
  exact wp_ireturn (ty := .int) dX7_takeFigure_18 rfl rfl ⟨_, rfl, h⟩
theorem C_X7_takeFigure {d : Nat} {q : HP → Int32 → Prop} {a0 : Nat} {H : HP} (h : wb_X7_takeFigure_0 d q a0 H) : CI (d + 1) 0 0 mX7_takeFigure [rv (some a0)] H q := by
  refine call_of (by decide +kernel) (by simp [lg_sl, rv_cat, vc_int, vc_long, vc_float, vc_double]) ?_
  have e : lv_args 0 [rv (some a0)] = [(0, rv (some a0))] := by simp [lv_args, rv_cat, vc_int, vc_long, vc_float, vc_double]
  rw [e]
  exact T_X7_takeFigure_0 h
/-- UnitProver$Tape.takeName()I: the loop at 2 -/
def L_X7_takeName_2 (d : Nat) (q : HP → Int32 → Prop) (a0 : Nat) (x1 : Int32) (H : HP) : Prop := WP (d + 1) mX7_takeName 0 0 2 [(0, rv (some a0)), (1, .int x1)] [] H (qI q)
def wb_X7_takeName_0 (d : Nat) (q : HP → Int32 → Prop) (a0 : Nat) (H : HP) : Prop :=
  L_X7_takeName_2 d q a0 (0 : Int32) H
set_option maxRecDepth 40000 in
set_option maxHeartbeats 4000000 in
theorem T_X7_takeName_0 {d : Nat} {q : HP → Int32 → Prop} {a0 : Nat} {H : HP} (h : wb_X7_takeName_0 d q a0 H) : WP (d + 1) mX7_takeName 0 0 0 [(0, rv (some a0))] [] H (qI q) := by
  unfold wb_X7_takeName_0 at h
  refine wp_iconst (v := (0 : Int32)) dX7_takeName_0 (by decide) ?_
  refine wp_istore_n (ls' := [(1, .int (0 : Int32)), (0, rv (some a0))]) dX7_takeName_1 (by decide) rfl ?_
  refine wp_sub (ls' := [(0, rv (some a0)), (1, .int (0 : Int32))]) [1, 0] rfl ?_
  exact h
def wb_X7_takeName_2 (d : Nat) (q : HP → Int32 → Prop) (a0 : Nat) (x1 : Int32) (H : HP) : Prop :=
  ((4 : Int32) ≤ x1 → q H x1) ∧ (¬ ((4 : Int32) ≤ x1) → tg H a0 = 8 ∧ (CZ d 0 0 mX7_isLetter [rv (some a0), .int (0 : Int32)] H (fun H1 b3 => (b3 = false → q H1 x1) ∧ (b3 = true → tg H1 a0 = 8 ∧ (L_X7_takeName_2 d q a0 (x1 + 1) (sI H1 802 a0 0 ((hI H1 802 a0 0) + (1 : Int32))))))))
set_option maxRecDepth 40000 in
set_option maxHeartbeats 4000000 in
theorem T_X7_takeName_2 {d : Nat} {q : HP → Int32 → Prop} {a0 : Nat} {x1 : Int32} {H : HP} (h : wb_X7_takeName_2 d q a0 x1 H) : L_X7_takeName_2 d q a0 x1 H := by
  unfold wb_X7_takeName_2 at h
  unfold L_X7_takeName_2
  refine wp_iload_n 1 dX7_takeName_2 rfl ?_
  refine wp_iconst (v := (4 : Int32)) dX7_takeName_3 (by decide) ?_
  refine wp_icmp_ge (tgt := 31) dX7_takeName_4 rfl (fun c => ?_) (fun c => ?_)
  · replace h := h.1 c
    refine wp_iload_n 1 dX7_takeName_31 rfl ?_
    exact wp_ireturn (ty := .int) dX7_takeName_32 rfl rfl ⟨_, rfl, h⟩
  · replace h := h.2 c
    refine wp_aload_n 0 dX7_takeName_7 rfl ?_
    refine wp_iconst (v := (0 : Int32)) dX7_takeName_8 (by decide) ?_
    obtain ⟨ht2, h⟩ := h
    refine wp_callV (ci := 7) (As := [.int (0 : Int32)]) (rest := []) (mc := 0) (ms := 0) dX7_takeName_9 lk_X7_26 rfl rfl (by decide) rfl rfl rfl ht2 rfl rfl rfl w_3_22 (Call.weaken h ?_)
    rintro H1 _ ⟨b3, rfl, h⟩
    change WP _ _ _ _ _ _ [.int (bI b3)] H1 _
    refine wp_if_eq (tgt := 31) dX7_takeName_12 rfl (fun c => ?_) (fun c => ?_)
    · replace h := h.1 (bI_0.mp c)
      refine wp_iload_n 1 dX7_takeName_31 rfl ?_
      exact wp_ireturn (ty := .int) dX7_takeName_32 rfl rfl ⟨_, rfl, h⟩
    · replace h := h.2 (bI_1.mp c)
      refine wp_iinc (v := (x1 + 1)) (ls' := [(1, .int (x1 + 1)), (0, rv (some a0))]) 1 dX7_takeName_15 rfl rfl (by decide) rfl ?_
      refine wp_aload_n 1 dX7_takeName_18 rfl ?_
      refine wp_dup dX7_takeName_19 (rv_cat _) ?_
      obtain ⟨ht4, h⟩ := h
      refine wp_getI (ci := 7) (j := 2) dX7_takeName_20 fi_X7_19r rfl rfl ht4 ?_
      change WP _ _ _ _ _ _ (.int (hI H1 802 a0 0) :: _) _ _
      refine wp_iconst (v := (1 : Int32)) dX7_takeName_23 (by decide) ?_
      refine wp_iadd dX7_takeName_24 ?_
      refine wp_putI (ci := 7) (j := 2) dX7_takeName_25 fi_X7_19 rfl (fun z => by cases z) rfl ht4 rfl rfl ?_
      change WP _ _ _ _ _ _ _ (sI H1 802 a0 0 ((hI H1 802 a0 0) + (1 : Int32))) _
      refine wp_goto (tgt := 2) dX7_takeName_28 rfl ?_
      refine wp_sub (ls' := [(0, rv (some a0)), (1, .int (x1 + 1))]) [1, 0] rfl ?_
      exact h
theorem C_X7_takeName {d : Nat} {q : HP → Int32 → Prop} {a0 : Nat} {H : HP} (h : wb_X7_takeName_0 d q a0 H) : CI (d + 1) 0 0 mX7_takeName [rv (some a0)] H q := by
  refine call_of (by decide +kernel) (by simp [lg_sl, rv_cat, vc_int, vc_long, vc_float, vc_double]) ?_
  have e : lv_args 0 [rv (some a0)] = [(0, rv (some a0))] := by simp [lv_args, rv_cat, vc_int, vc_long, vc_float, vc_double]
  rw [e]
  exact T_X7_takeName_0 h
/-- UnitProver$Tape.takeNumber()I: the loop at 14 -/
def L_X7_takeNumber_14 (d : Nat) (q : HP → Int32 → Prop) (a0 : Nat) (x1 : Int32) (x2 : Int32) (H : HP) : Prop := WP (d + 1) mX7_takeNumber 0 0 14 [(0, rv (some a0)), (1, .int x1), (2, .int x2)] [] H (qI q)
def wb_X7_takeNumber_0 (d : Nat) (q : HP → Int32 → Prop) (a0 : Nat) (H : HP) : Prop :=
  tg H a0 = 8 ∧ (CZ d 0 0 mX7_isFigure [rv (some a0), .int (0 : Int32)] H (fun H1 b3 => (b3 = true → L_X7_takeNumber_14 d q a0 (0 : Int32) (0 : Int32) H1) ∧ (b3 = false → q H1 (-1 : Int32))))
set_option maxRecDepth 40000 in
set_option maxHeartbeats 4000000 in
theorem T_X7_takeNumber_0 {d : Nat} {q : HP → Int32 → Prop} {a0 : Nat} {H : HP} (h : wb_X7_takeNumber_0 d q a0 H) : WP (d + 1) mX7_takeNumber 0 0 0 [(0, rv (some a0))] [] H (qI q) := by
  unfold wb_X7_takeNumber_0 at h
  refine wp_aload_n 0 dX7_takeNumber_0 rfl ?_
  refine wp_iconst (v := (0 : Int32)) dX7_takeNumber_1 (by decide) ?_
  obtain ⟨ht2, h⟩ := h
  refine wp_callV (ci := 7) (As := [.int (0 : Int32)]) (rest := []) (mc := 0) (ms := 0) dX7_takeNumber_2 lk_X7_30 rfl rfl (by decide) rfl rfl rfl ht2 rfl rfl rfl w_3_41 (Call.weaken h ?_)
  rintro H1 _ ⟨b3, rfl, h⟩
  change WP _ _ _ _ _ _ [.int (bI b3)] H1 _
  refine wp_if_ne (tgt := 10) dX7_takeNumber_5 rfl (fun c => ?_) (fun c => ?_)
  · replace h := h.1 (bI_1.mp c)
    refine wp_iconst (v := (0 : Int32)) dX7_takeNumber_10 (by decide) ?_
    refine wp_istore_n (ls' := [(1, .int (0 : Int32)), (0, rv (some a0))]) dX7_takeNumber_11 (by decide) rfl ?_
    refine wp_iconst (v := (0 : Int32)) dX7_takeNumber_12 (by decide) ?_
    refine wp_istore_n (ls' := [(2, .int (0 : Int32)), (1, .int (0 : Int32)), (0, rv (some a0))]) dX7_takeNumber_13 (by decide) rfl ?_
    refine wp_sub (ls' := [(0, rv (some a0)), (1, .int (0 : Int32)), (2, .int (0 : Int32))]) [2, 1, 0] rfl ?_
    exact h
  · replace h := h.2 (bI_0.mp c)
    refine wp_iconst (v := (-1 : Int32)) dX7_takeNumber_8 (by decide) ?_
    exact wp_ireturn (ty := .int) dX7_takeNumber_9 rfl rfl ⟨_, rfl, h⟩
def wb_X7_takeNumber_14 (d : Nat) (q : HP → Int32 → Prop) (a0 : Nat) (x1 : Int32) (x2 : Int32) (H : HP) : Prop :=
  ((6 : Int32) ≤ x2 → q H x1) ∧ (¬ ((6 : Int32) ≤ x2) → tg H a0 = 8 ∧ (CZ d 0 0 mX7_isFigure [rv (some a0), .int (0 : Int32)] H (fun H1 b3 => (b3 = false → q H1 x1) ∧ (b3 = true → tg H1 a0 = 8 ∧ (CI d 0 0 mX7_takeFigure [rv (some a0)] H1 (fun H4 r6 => L_X7_takeNumber_14 d q a0 ((x1 * (10 : Int32)) + r6) (x2 + 1) H4))))))
set_option maxRecDepth 40000 in
set_option maxHeartbeats 4000000 in
theorem T_X7_takeNumber_14 {d : Nat} {q : HP → Int32 → Prop} {a0 : Nat} {x1 : Int32} {x2 : Int32} {H : HP} (h : wb_X7_takeNumber_14 d q a0 x1 x2 H) : L_X7_takeNumber_14 d q a0 x1 x2 H := by
  unfold wb_X7_takeNumber_14 at h
  unfold L_X7_takeNumber_14
  refine wp_iload_n 2 dX7_takeNumber_14 rfl ?_
  refine wp_bipush (v := (6 : Int32)) dX7_takeNumber_15 (by decide) ?_
  refine wp_icmp_ge (tgt := 44) dX7_takeNumber_17 rfl (fun c => ?_) (fun c => ?_)
  · replace h := h.1 c
    refine wp_iload_n 1 dX7_takeNumber_44 rfl ?_
    exact wp_ireturn (ty := .int) dX7_takeNumber_45 rfl rfl ⟨_, rfl, h⟩
  · replace h := h.2 c
    refine wp_aload_n 0 dX7_takeNumber_20 rfl ?_
    refine wp_iconst (v := (0 : Int32)) dX7_takeNumber_21 (by decide) ?_
    obtain ⟨ht2, h⟩ := h
    refine wp_callV (ci := 7) (As := [.int (0 : Int32)]) (rest := []) (mc := 0) (ms := 0) dX7_takeNumber_22 lk_X7_30 rfl rfl (by decide) rfl rfl rfl ht2 rfl rfl rfl w_3_41 (Call.weaken h ?_)
    rintro H1 _ ⟨b3, rfl, h⟩
    change WP _ _ _ _ _ _ [.int (bI b3)] H1 _
    refine wp_if_eq (tgt := 44) dX7_takeNumber_25 rfl (fun c => ?_) (fun c => ?_)
    · replace h := h.1 (bI_0.mp c)
      refine wp_iload_n 1 dX7_takeNumber_44 rfl ?_
      exact wp_ireturn (ty := .int) dX7_takeNumber_45 rfl rfl ⟨_, rfl, h⟩
    · replace h := h.2 (bI_1.mp c)
      refine wp_iload_n 1 dX7_takeNumber_28 rfl ?_
      refine wp_bipush (v := (10 : Int32)) dX7_takeNumber_29 (by decide) ?_
      refine wp_imul dX7_takeNumber_31 ?_
      refine wp_aload_n 0 dX7_takeNumber_32 rfl ?_
      obtain ⟨ht5, h⟩ := h
      refine wp_callV (ci := 7) (As := []) (rest := [.int (x1 * (10 : Int32))]) (mc := 0) (ms := 0) dX7_takeNumber_33 lk_X7_33 rfl rfl (by simp [rv_cat, vc_int, vc_long, vc_float, vc_double]) rfl rfl rfl ht5 rfl rfl rfl w_3_45 (Call.weaken h ?_)
      rintro H4 _ ⟨r6, rfl, h⟩
      change WP _ _ _ _ _ _ [.int r6, .int (x1 * (10 : Int32))] H4 _
      refine wp_iadd dX7_takeNumber_36 ?_
      refine wp_istore_n (ls' := [(1, .int ((x1 * (10 : Int32)) + r6)), (0, rv (some a0)), (2, .int x2)]) dX7_takeNumber_37 (by decide) rfl ?_
      refine wp_iinc (v := (x2 + 1)) (ls' := [(2, .int (x2 + 1)), (1, .int ((x1 * (10 : Int32)) + r6)), (0, rv (some a0))]) 2 dX7_takeNumber_38 rfl rfl (by decide) rfl ?_
      refine wp_goto (tgt := 14) dX7_takeNumber_41 rfl ?_
      refine wp_sub (ls' := [(0, rv (some a0)), (1, .int ((x1 * (10 : Int32)) + r6)), (2, .int (x2 + 1))]) [2, 1, 0] rfl ?_
      exact h
theorem C_X7_takeNumber {d : Nat} {q : HP → Int32 → Prop} {a0 : Nat} {H : HP} (h : wb_X7_takeNumber_0 d q a0 H) : CI (d + 1) 0 0 mX7_takeNumber [rv (some a0)] H q := by
  refine call_of (by decide +kernel) (by simp [lg_sl, rv_cat, vc_int, vc_long, vc_float, vc_double]) ?_
  have e : lv_args 0 [rv (some a0)] = [(0, rv (some a0))] := by simp [lv_args, rv_cat, vc_int, vc_long, vc_float, vc_double]
  rw [e]
  exact T_X7_takeNumber_0 h
def wb_X7_takePower_0 (d : Nat) (q : HP → Int32 → Prop) (a0 : Nat) (H : HP) : Prop :=
  tg H a0 = 8 ∧ (CZ d 0 0 mX7_isPower [rv (some a0)] H (fun H1 b3 => (b3 = false → q H1 (1 : Int32)) ∧ (b3 = true → tg H1 a0 = 8 ∧ (CI d 0 0 mX7_takeFigure [rv (some a0)] H1 (fun H4 r6 => q H4 r6)))))
set_option maxRecDepth 40000 in
set_option maxHeartbeats 4000000 in
theorem T_X7_takePower_0 {d : Nat} {q : HP → Int32 → Prop} {a0 : Nat} {H : HP} (h : wb_X7_takePower_0 d q a0 H) : WP (d + 1) mX7_takePower 0 0 0 [(0, rv (some a0))] [] H (qI q) := by
  unfold wb_X7_takePower_0 at h
  refine wp_aload_n 0 dX7_takePower_0 rfl ?_
  obtain ⟨ht2, h⟩ := h
  refine wp_callV (ci := 7) (As := []) (rest := []) (mc := 0) (ms := 0) dX7_takePower_1 lk_X7_37 rfl rfl (by decide) rfl rfl rfl ht2 rfl rfl rfl w_3_57 (Call.weaken h ?_)
  rintro H1 _ ⟨b3, rfl, h⟩
  change WP _ _ _ _ _ _ [.int (bI b3)] H1 _
  refine wp_if_eq (tgt := 14) dX7_takePower_4 rfl (fun c => ?_) (fun c => ?_)
  · replace h := h.1 (bI_0.mp c)
    refine wp_iconst (v := (1 : Int32)) dX7_takePower_14 (by decide) ?_
    exact wp_ireturn (ty := .int) dX7_takePower_15 rfl rfl ⟨_, rfl, h⟩
  · replace h := h.2 (bI_1.mp c)
    refine wp_aload_n 0 dX7_takePower_7 rfl ?_
    obtain ⟨ht5, h⟩ := h
    refine wp_callV (ci := 7) (As := []) (rest := []) (mc := 0) (ms := 0) dX7_takePower_8 lk_X7_33 rfl rfl (by decide) rfl rfl rfl ht5 rfl rfl rfl w_3_45 (Call.weaken h ?_)
    rintro H4 _ ⟨r6, rfl, h⟩
    change WP _ _ _ _ _ _ [.int r6] H4 _
    refine wp_goto (tgt := 15) dX7_takePower_11 rfl ?_
    exact wp_ireturn (ty := .int) dX7_takePower_15 rfl rfl ⟨_, rfl, h⟩
theorem C_X7_takePower {d : Nat} {q : HP → Int32 → Prop} {a0 : Nat} {H : HP} (h : wb_X7_takePower_0 d q a0 H) : CI (d + 1) 0 0 mX7_takePower [rv (some a0)] H q := by
  refine call_of (by decide +kernel) (by simp [lg_sl, rv_cat, vc_int, vc_long, vc_float, vc_double]) ?_
  have e : lv_args 0 [rv (some a0)] = [(0, rv (some a0))] := by simp [lv_args, rv_cat, vc_int, vc_long, vc_float, vc_double]
  rw [e]
  exact T_X7_takePower_0 h
def wb_X7_takes_0 (d : Nat) (q : HP → Bool → Prop) (a0 : Nat) (x1 : Int32) (H : HP) : Prop :=
  tg H a0 = 8 ∧ (CI d 0 0 mX7_look [rv (some a0), .int (0 : Int32)] H (fun H1 r3 => (r3 = x1 → tg H1 a0 = 8 ∧ (q (sI H1 802 a0 0 ((hI H1 802 a0 0) + (1 : Int32))) true)) ∧ (¬ (r3 = x1) → q H1 false)))
set_option maxRecDepth 40000 in
set_option maxHeartbeats 4000000 in
theorem T_X7_takes_0 {d : Nat} {q : HP → Bool → Prop} {a0 : Nat} {x1 : Int32} {H : HP} (h : wb_X7_takes_0 d q a0 x1 H) : WP (d + 1) mX7_takes 0 0 0 [(0, rv (some a0)), (1, .int x1)] [] H (qZ q) := by
  unfold wb_X7_takes_0 at h
  refine wp_aload_n 0 dX7_takes_0 rfl ?_
  refine wp_iconst (v := (0 : Int32)) dX7_takes_1 (by decide) ?_
  obtain ⟨ht2, h⟩ := h
  refine wp_callV (ci := 7) (As := [.int (0 : Int32)]) (rest := []) (mc := 0) (ms := 0) dX7_takes_2 lk_X7_22 rfl rfl (by decide) rfl rfl rfl ht2 rfl rfl rfl w_3_26 (Call.weaken h ?_)
  rintro H1 _ ⟨r3, rfl, h⟩
  change WP _ _ _ _ _ _ [.int r3] H1 _
  refine wp_iload_n 1 dX7_takes_5 rfl ?_
  refine wp_icmp_eq (tgt := 11) dX7_takes_6 rfl (fun c => ?_) (fun c => ?_)
  · replace h := h.1 c
    refine wp_aload_n 0 dX7_takes_11 rfl ?_
    refine wp_dup dX7_takes_12 (rv_cat _) ?_
    obtain ⟨ht4, h⟩ := h
    refine wp_getI (ci := 7) (j := 2) dX7_takes_13 fi_X7_19r rfl rfl ht4 ?_
    change WP _ _ _ _ _ _ (.int (hI H1 802 a0 0) :: _) _ _
    refine wp_iconst (v := (1 : Int32)) dX7_takes_16 (by decide) ?_
    refine wp_iadd dX7_takes_17 ?_
    refine wp_putI (ci := 7) (j := 2) dX7_takes_18 fi_X7_19 rfl (fun z => by cases z) rfl ht4 rfl rfl ?_
    change WP _ _ _ _ _ _ _ (sI H1 802 a0 0 ((hI H1 802 a0 0) + (1 : Int32))) _
    refine wp_iconst (v := (1 : Int32)) dX7_takes_21 (by decide) ?_
    exact wp_ireturn (ty := .boolean) dX7_takes_22 rfl rfl ⟨true, rfl, h⟩
  · replace h := h.2 c
    refine wp_iconst (v := (0 : Int32)) dX7_takes_9 (by decide) ?_
    exact wp_ireturn (ty := .boolean) dX7_takes_10 rfl rfl ⟨false, rfl, h⟩
theorem C_X7_takes {d : Nat} {q : HP → Bool → Prop} {a0 : Nat} {x1 : Int32} {H : HP} (h : wb_X7_takes_0 d q a0 x1 H) : CZ (d + 1) 0 0 mX7_takes [rv (some a0), .int x1] H q := by
  refine call_of (by decide +kernel) (by simp [lg_sl, rv_cat, vc_int, vc_long, vc_float, vc_double]) ?_
  have e : lv_args 0 [rv (some a0), .int x1] = [(0, rv (some a0)), (1, .int x1)] := by simp [lv_args, rv_cat, vc_int, vc_long, vc_float, vc_double]
  rw [e]
  exact T_X7_takes_0 h
/-- UnitProver$Track.become(II)V: the loop at 12 -/
def L_X8_become_12 (d : Nat) (q : HP → Prop) (a0 : Nat) (x3 : Int32) (H : HP) : Prop := WP (d + 1) mX8_become 0 0 12 [(0, rv (some a0)), (3, .int x3)] [] H (qV q)
def wb_X8_become_0 (d : Nat) (q : HP → Prop) (a0 : Nat) (x1 : Int32) (x2 : Int32) (H : HP) : Prop :=
  tg H a0 = 9 ∧ (L_X8_become_12 d q a0 (0 : Int32) (sI (sI H 900 a0 0 x1) 901 a0 0 x2))
set_option maxRecDepth 40000 in
set_option maxHeartbeats 4000000 in
theorem T_X8_become_0 {d : Nat} {q : HP → Prop} {a0 : Nat} {x1 : Int32} {x2 : Int32} {H : HP} (h : wb_X8_become_0 d q a0 x1 x2 H) : WP (d + 1) mX8_become 0 0 0 [(0, rv (some a0)), (1, .int x1), (2, .int x2)] [] H (qV q) := by
  unfold wb_X8_become_0 at h
  refine wp_aload_n 0 dX8_become_0 rfl ?_
  refine wp_iload_n 1 dX8_become_1 rfl ?_
  obtain ⟨ht1, h⟩ := h
  refine wp_putI (ci := 8) (j := 0) dX8_become_2 fi_X8_9 rfl (fun z => by cases z) rfl ht1 rfl rfl ?_
  change WP _ _ _ _ _ _ _ (sI H 900 a0 0 x1) _
  refine wp_aload_n 0 dX8_become_5 rfl ?_
  refine wp_iload_n 2 dX8_become_6 rfl ?_
  refine wp_putI (ci := 8) (j := 1) dX8_become_7 fi_X8_15 rfl (fun z => by cases z) rfl ht1 rfl rfl ?_
  change WP _ _ _ _ _ _ _ (sI (sI H 900 a0 0 x1) 901 a0 0 x2) _
  refine wp_iconst (v := (0 : Int32)) dX8_become_10 (by decide) ?_
  refine wp_istore_n (ls' := [(3, .int (0 : Int32)), (0, rv (some a0)), (1, .int x1), (2, .int x2)]) dX8_become_11 (by decide) rfl ?_
  refine wp_sub (ls' := [(0, rv (some a0)), (3, .int (0 : Int32))]) [1, 0] rfl ?_
  exact h
def wb_X8_become_12 (d : Nat) (q : HP → Prop) (a0 : Nat) (x3 : Int32) (H : HP) : Prop :=
  ((30 : Int32) ≤ x3 → q H) ∧ (¬ ((30 : Int32) ≤ x3) → tg H a0 = 9 ∧ (CV d 0 0 mX8_store [rv (some a0), .int x3, .double FP.dconst0] H (fun H1 => L_X8_become_12 d q a0 (x3 + 1) H1)))
set_option maxRecDepth 40000 in
set_option maxHeartbeats 4000000 in
theorem T_X8_become_12 {d : Nat} {q : HP → Prop} {a0 : Nat} {x3 : Int32} {H : HP} (h : wb_X8_become_12 d q a0 x3 H) : L_X8_become_12 d q a0 x3 H := by
  unfold wb_X8_become_12 at h
  unfold L_X8_become_12
  refine wp_iload_n 1 dX8_become_12 rfl ?_
  refine wp_bipush (v := (30 : Int32)) dX8_become_13 (by decide) ?_
  refine wp_icmp_ge (tgt := 30) dX8_become_15 rfl (fun c => ?_) (fun c => ?_)
  · replace h := h.1 c
    exact wp_return dX8_become_30 rfl ⟨rfl, h⟩
  · replace h := h.2 c
    refine wp_aload_n 0 dX8_become_18 rfl ?_
    refine wp_iload_n 1 dX8_become_19 rfl ?_
    refine wp_dconst0 dX8_become_20 ?_
    obtain ⟨ht2, h⟩ := h
    refine wp_callV (ci := 8) (As := [.int x3, .double FP.dconst0]) (rest := []) (mc := 0) (ms := 0) dX8_become_21 lk_X8_26 rfl rfl (by decide) rfl rfl rfl ht2 rfl rfl rfl w_5_58 (Call.weaken h ?_)
    rintro H1 _ ⟨rfl, h⟩
    change WP _ _ _ _ _ _ [] H1 _
    refine wp_iinc (v := (x3 + 1)) (ls' := [(3, .int (x3 + 1)), (0, rv (some a0))]) 1 dX8_become_24 rfl rfl (by decide) rfl ?_
    refine wp_goto (tgt := 12) dX8_become_27 rfl ?_
    refine wp_sub (ls' := [(0, rv (some a0)), (3, .int (x3 + 1))]) [1, 0] rfl ?_
    exact h
theorem C_X8_become {d : Nat} {q : HP → Prop} {a0 : Nat} {x1 : Int32} {x2 : Int32} {H : HP} (h : wb_X8_become_0 d q a0 x1 x2 H) : CV (d + 1) 0 0 mX8_become [rv (some a0), .int x1, .int x2] H q := by
  refine call_of (by decide +kernel) (by simp [lg_sl, rv_cat, vc_int, vc_long, vc_float, vc_double]) ?_
  have e : lv_args 0 [rv (some a0), .int x1, .int x2] = [(0, rv (some a0)), (1, .int x1), (2, .int x2)] := by simp [lv_args, rv_cat, vc_int, vc_long, vc_float, vc_double]
  rw [e]
  exact T_X8_become_0 h
def wb_X8_bitsOf_0 (d : Nat) (q : HP → Int64 → Prop) (a0 : Nat) (x1 : UInt64) (x3 : Int32) (o4 : Option Nat) (H : HP) : Prop :=
  tg H a0 = 9 ∧ ((¬ (hI H 900 a0 0) = 0 → (x3 = 0 → ∃ a3, o4 = some a3 ∧ (tg H a3 = 3 ∧ (CJ d 0 0 mX2_ofDouble [rv o4, .double x1] H (fun H2 r5 => q H2 r5)))) ∧ (¬ (x3 = 0) → q H (9221120237041090560 : Int64))) ∧ ((hI H 900 a0 0) = 0 → (x3 = 0 → ∀ r6, alike32 r6 (FP.d2f x1) = true → (∃ a8, o4 = some a8 ∧ (tg H a8 = 3 ∧ (CJ d 0 0 mX2_ofFloat [rv o4, .float r6] H (fun H7 r10 => q H7 r10))))) ∧ (¬ (x3 = 0) → q H (2143289344 : Int64))))
set_option maxRecDepth 40000 in
set_option maxHeartbeats 4000000 in
theorem T_X8_bitsOf_0 {d : Nat} {q : HP → Int64 → Prop} {a0 : Nat} {x1 : UInt64} {x3 : Int32} {o4 : Option Nat} {H : HP} (h : wb_X8_bitsOf_0 d q a0 x1 x3 o4 H) : WP (d + 1) mX8_bitsOf 0 0 0 [(0, rv (some a0)), (1, .double x1), (3, .int x3), (4, rv o4)] [] H (qJ q) := by
  unfold wb_X8_bitsOf_0 at h
  refine wp_aload_n 0 dX8_bitsOf_0 rfl ?_
  obtain ⟨ht1, h⟩ := h
  refine wp_getI (ci := 8) (j := 0) dX8_bitsOf_1 fi_X8_9r rfl rfl ht1 ?_
  change WP _ _ _ _ _ _ (.int (hI H 900 a0 0) :: _) _ _
  refine wp_if_ne (tgt := 25) dX8_bitsOf_4 rfl (fun c => ?_) (fun c => ?_)
  · replace h := h.1 c
    refine wp_iload_n 2 dX8_bitsOf_25 rfl ?_
    refine wp_if_eq (tgt := 35) dX8_bitsOf_26 rfl (fun c => ?_) (fun c => ?_)
    · replace h := h.1 c
      refine wp_aload 3 dX8_bitsOf_35 rfl ?_
      refine wp_dload_n 1 dX8_bitsOf_37 rfl ?_
      obtain ⟨a3, ha3, h⟩ := h
      obtain ⟨ht4, h⟩ := h
      refine wp_callV (ci := 2) (As := [.double x1]) (rest := []) (mc := 0) (ms := 0) dX8_bitsOf_38 lk_X8_56 rfl rfl (by decide) ha3 rfl rfl ht4 rfl rfl rfl w_5_120 (Call.weaken h ?_)
      rintro H2 _ ⟨r5, rfl, h⟩
      change WP _ _ _ _ _ _ [.long r5] H2 _
      exact wp_lreturn dX8_bitsOf_41 rfl ⟨_, rfl, h⟩
    · replace h := h.2 c
      refine wp_ldc2 dX8_bitsOf_29 w_5_119 ?_
      refine wp_goto (tgt := 41) dX8_bitsOf_32 rfl ?_
      exact wp_lreturn dX8_bitsOf_41 rfl ⟨_, rfl, h⟩
  · replace h := h.2 c
    refine wp_iload_n 2 dX8_bitsOf_7 rfl ?_
    refine wp_if_eq (tgt := 17) dX8_bitsOf_8 rfl (fun c => ?_) (fun c => ?_)
    · replace h := h.1 c
      refine wp_aload 3 dX8_bitsOf_17 rfl ?_
      refine wp_dload_n 1 dX8_bitsOf_19 rfl ?_
      refine wp_d2f dX8_bitsOf_20 (fun r6 hr6 => ?_)
      replace h := h r6 hr6
      obtain ⟨a8, ha8, h⟩ := h
      obtain ⟨ht9, h⟩ := h
      refine wp_callV (ci := 2) (As := [.float r6]) (rest := []) (mc := 0) (ms := 0) dX8_bitsOf_21 lk_X8_50 rfl rfl (by decide) ha8 rfl rfl ht9 rfl rfl rfl w_5_118 (Call.weaken h ?_)
      rintro H7 _ ⟨r10, rfl, h⟩
      change WP _ _ _ _ _ _ [.long r10] H7 _
      exact wp_lreturn dX8_bitsOf_24 rfl ⟨_, rfl, h⟩
    · replace h := h.2 c
      refine wp_ldc2 dX8_bitsOf_11 w_5_117 ?_
      refine wp_goto (tgt := 24) dX8_bitsOf_14 rfl ?_
      exact wp_lreturn dX8_bitsOf_24 rfl ⟨_, rfl, h⟩
theorem C_X8_bitsOf {d : Nat} {q : HP → Int64 → Prop} {a0 : Nat} {x1 : UInt64} {x3 : Int32} {o4 : Option Nat} {H : HP} (h : wb_X8_bitsOf_0 d q a0 x1 x3 o4 H) : CJ (d + 1) 0 0 mX8_bitsOf [rv (some a0), .double x1, .int x3, rv o4] H q := by
  refine call_of (by decide +kernel) (by simp [lg_sl, rv_cat, vc_int, vc_long, vc_float, vc_double]) ?_
  have e : lv_args 0 [rv (some a0), .double x1, .int x3, rv o4] = [(0, rv (some a0)), (1, .double x1), (3, .int x3), (4, rv o4)] := by simp [lv_args, rv_cat, vc_int, vc_long, vc_float, vc_double]
  rw [e]
  exact T_X8_bitsOf_0 h
/-- UnitProver$Track.convert(LUnitProver$Unit;LUnitProver$Unit;)V: the loop at 2 -/
def L_X8_convert_2 (d : Nat) (q : HP → Prop) (a0 : Nat) (o1 : Option Nat) (o2 : Option Nat) (x3 : Int32) (H : HP) : Prop := WP (d + 1) mX8_convert 0 0 2 [(0, rv (some a0)), (1, rv o1), (2, rv o2), (3, .int x3)] [] H (qV q)
def wb_X8_convert_0 (d : Nat) (q : HP → Prop) (a0 : Nat) (o1 : Option Nat) (o2 : Option Nat) (H : HP) : Prop :=
  L_X8_convert_2 d q a0 o1 o2 (0 : Int32) H
set_option maxRecDepth 40000 in
set_option maxHeartbeats 4000000 in
theorem T_X8_convert_0 {d : Nat} {q : HP → Prop} {a0 : Nat} {o1 : Option Nat} {o2 : Option Nat} {H : HP} (h : wb_X8_convert_0 d q a0 o1 o2 H) : WP (d + 1) mX8_convert 0 0 0 [(0, rv (some a0)), (1, rv o1), (2, rv o2)] [] H (qV q) := by
  unfold wb_X8_convert_0 at h
  refine wp_iconst (v := (0 : Int32)) dX8_convert_0 (by decide) ?_
  refine wp_istore_n (ls' := [(3, .int (0 : Int32)), (0, rv (some a0)), (1, rv o1), (2, rv o2)]) dX8_convert_1 (by decide) (by change st1 _ 3 _ = _; simp [st1, rv_cat, vc_int, vc_long, vc_float, vc_double]) ?_
  refine wp_sub (ls' := [(0, rv (some a0)), (1, rv o1), (2, rv o2), (3, .int (0 : Int32))]) [1, 2, 3, 0] rfl ?_
  exact h
def wb_X8_convert_2 (d : Nat) (q : HP → Prop) (a0 : Nat) (o1 : Option Nat) (o2 : Option Nat) (x3 : Int32) (H : HP) : Prop :=
  tg H a0 = 9 ∧ (((hI H 901 a0 0) ≤ x3 → q H) ∧ (¬ ((hI H 901 a0 0) ≤ x3) → ((30 : Int32) ≤ x3 → q H) ∧ (¬ ((30 : Int32) ≤ x3) → ∃ a2, (hC H 903 a0) = some a2 ∧ (isA H a2 2 ∧ (vp_in x3 (ln H a2) ∧ ((¬ (hI H (tg H a2) a2 x3.toNatClampNeg) = 0 → L_X8_convert_2 d q a0 o1 o2 (x3 + 1) H) ∧ ((hI H (tg H a2) a2 x3.toNatClampNeg) = 0 → (¬ (hI H 900 a0 0) = 0 → ∃ a5, (hC H 902 a0) = some a5 ∧ (isA H a5 5 ∧ (vp_in x3 (ln H a5) ∧ (CD d 0 0 mX8_inDoubles [.double (hD H (tg H a5) a5 x3.toNatClampNeg), rv o1, rv o2] H (fun H8 r9 => isA H8 a5 5 ∧ (vp_in x3 (ln H8 a5) ∧ (L_X8_convert_2 d q a0 o1 o2 (x3 + 1) (sD H8 (tg H8 a5) a5 x3.toNatClampNeg r9)))))))) ∧ ((hI H 900 a0 0) = 0 → ∃ a12, (hC H 902 a0) = some a12 ∧ (isA H a12 5 ∧ (vp_in x3 (ln H a12) ∧ (∀ r15, alike32 r15 (FP.d2f (hD H (tg H a12) a12 x3.toNatClampNeg)) = true → (CF d 0 0 mX8_inFloats [.float r15, rv o1, rv o2] H (fun H16 r17 => ∀ r18, alike64 r18 (FP.f2d r17) = true → (isA H16 a12 5 ∧ (vp_in x3 (ln H16 a12) ∧ (L_X8_convert_2 d q a0 o1 o2 (x3 + 1) (sD H16 (tg H16 a12) a12 x3.toNatClampNeg r18)))))))))))))))))
set_option maxRecDepth 40000 in
set_option maxHeartbeats 4000000 in
theorem T_X8_convert_2 {d : Nat} {q : HP → Prop} {a0 : Nat} {o1 : Option Nat} {o2 : Option Nat} {x3 : Int32} {H : HP} (h : wb_X8_convert_2 d q a0 o1 o2 x3 H) : L_X8_convert_2 d q a0 o1 o2 x3 H := by
  unfold wb_X8_convert_2 at h
  unfold L_X8_convert_2
  refine wp_iload_n 3 dX8_convert_2 rfl ?_
  refine wp_aload_n 0 dX8_convert_3 rfl ?_
  obtain ⟨ht1, h⟩ := h
  refine wp_getI (ci := 8) (j := 1) dX8_convert_4 fi_X8_15r rfl rfl ht1 ?_
  change WP _ _ _ _ _ _ (.int (hI H 901 a0 0) :: _) _ _
  refine wp_icmp_ge (tgt := 71) dX8_convert_7 rfl (fun c => ?_) (fun c => ?_)
  · replace h := h.1 c
    exact wp_return dX8_convert_71 rfl ⟨rfl, h⟩
  · replace h := h.2 c
    refine wp_iload_n 3 dX8_convert_10 rfl ?_
    refine wp_bipush (v := (30 : Int32)) dX8_convert_11 (by decide) ?_
    refine wp_icmp_ge (tgt := 71) dX8_convert_13 rfl (fun c => ?_) (fun c => ?_)
    · replace h := h.1 c
      exact wp_return dX8_convert_71 rfl ⟨rfl, h⟩
    · replace h := h.2 c
      refine wp_aload_n 0 dX8_convert_16 rfl ?_
      refine wp_getC (ci := 8) (j := 3) dX8_convert_17 fi_X8_22r rfl rfl ht1 ?_
      change WP _ _ _ _ _ _ (rv (hC H 903 a0) :: _) _ _
      refine wp_iload_n 3 dX8_convert_20 rfl ?_
      obtain ⟨a2, ha2, h⟩ := h
      obtain ⟨hr3, h⟩ := h
      obtain ⟨hg4, h⟩ := h
      refine wp_zaload dX8_convert_21 ha2 hr3 hg4 ?_
      refine wp_if_ne (tgt := 65) dX8_convert_22 rfl (fun c => ?_) (fun c => ?_)
      · replace h := h.1 c
        refine wp_iinc (v := (x3 + 1)) (ls' := [(3, .int (x3 + 1)), (0, rv (some a0)), (1, rv o1), (2, rv o2)]) 3 dX8_convert_65 rfl rfl (by decide) (by simp [st1, rv_cat, vc_int, vc_long, vc_float, vc_double]) ?_
        refine wp_goto (tgt := 2) dX8_convert_68 rfl ?_
        refine wp_sub (ls' := [(0, rv (some a0)), (1, rv o1), (2, rv o2), (3, .int (x3 + 1))]) [1, 2, 3, 0] rfl ?_
        exact h
      · replace h := h.2 c
        refine wp_aload_n 0 dX8_convert_25 rfl ?_
        refine wp_getC (ci := 8) (j := 2) dX8_convert_26 fi_X8_18r rfl rfl ht1 ?_
        change WP _ _ _ _ _ _ (rv (hC H 902 a0) :: _) _ _
        refine wp_iload_n 3 dX8_convert_29 rfl ?_
        refine wp_aload_n 0 dX8_convert_30 rfl ?_
        refine wp_getI (ci := 8) (j := 0) dX8_convert_31 fi_X8_9r rfl rfl ht1 ?_
        change WP _ _ _ _ _ _ (.int (hI H 900 a0 0) :: _) _ _
        refine wp_if_ne (tgt := 53) dX8_convert_34 rfl (fun c => ?_) (fun c => ?_)
        · replace h := h.1 c
          refine wp_aload_n 0 dX8_convert_53 rfl ?_
          refine wp_getC (ci := 8) (j := 2) dX8_convert_54 fi_X8_18r rfl rfl ht1 ?_
          change WP _ _ _ _ _ _ (rv (hC H 902 a0) :: _) _ _
          refine wp_iload_n 3 dX8_convert_57 rfl ?_
          obtain ⟨a5, ha5, h⟩ := h
          obtain ⟨hr6, h⟩ := h
          obtain ⟨hg7, h⟩ := h
          refine wp_daload dX8_convert_58 ha5 hr6 hg7 ?_
          refine wp_aload_n 1 dX8_convert_59 rfl ?_
          refine wp_aload_n 2 dX8_convert_60 rfl ?_
          refine wp_callS (As := [.double (hD H (tg H a5) a5 x3.toNatClampNeg), rv o1, rv o2]) (rest := [.int x3, rv (hC H 902 a0)]) (mc := 0) (ms := 0) dX8_convert_61 lk_X8_70 rfl rfl (by simp [rv_cat, vc_int, vc_long, vc_float, vc_double]) rfl rfl rfl (Call.weaken h ?_)
          rintro H8 _ ⟨r9, rfl, h⟩
          change WP _ _ _ _ _ _ [.double r9, .int x3, rv (hC H 902 a0)] H8 _
          obtain ⟨hr10, h⟩ := h
          obtain ⟨hg11, h⟩ := h
          refine wp_dastore dX8_convert_64 ha5 hr10 hg11 ?_
          change WP _ _ _ _ _ _ _ (sD H8 (tg H8 a5) a5 x3.toNatClampNeg r9) _
          refine wp_iinc (v := (x3 + 1)) (ls' := [(3, .int (x3 + 1)), (0, rv (some a0)), (1, rv o1), (2, rv o2)]) 3 dX8_convert_65 rfl rfl (by decide) (by simp [st1, rv_cat, vc_int, vc_long, vc_float, vc_double]) ?_
          refine wp_goto (tgt := 2) dX8_convert_68 rfl ?_
          refine wp_sub (ls' := [(0, rv (some a0)), (1, rv o1), (2, rv o2), (3, .int (x3 + 1))]) [1, 2, 3, 0] rfl ?_
          exact h
        · replace h := h.2 c
          refine wp_aload_n 0 dX8_convert_37 rfl ?_
          refine wp_getC (ci := 8) (j := 2) dX8_convert_38 fi_X8_18r rfl rfl ht1 ?_
          change WP _ _ _ _ _ _ (rv (hC H 902 a0) :: _) _ _
          refine wp_iload_n 3 dX8_convert_41 rfl ?_
          obtain ⟨a12, ha12, h⟩ := h
          obtain ⟨hr13, h⟩ := h
          obtain ⟨hg14, h⟩ := h
          refine wp_daload dX8_convert_42 ha12 hr13 hg14 ?_
          refine wp_d2f dX8_convert_43 (fun r15 hr15 => ?_)
          replace h := h r15 hr15
          refine wp_aload_n 1 dX8_convert_44 rfl ?_
          refine wp_aload_n 2 dX8_convert_45 rfl ?_
          refine wp_callS (As := [.float r15, rv o1, rv o2]) (rest := [.int x3, rv (hC H 902 a0)]) (mc := 0) (ms := 0) dX8_convert_46 lk_X8_66 rfl rfl (by simp [rv_cat, vc_int, vc_long, vc_float, vc_double]) rfl rfl rfl (Call.weaken h ?_)
          rintro H16 _ ⟨r17, rfl, h⟩
          change WP _ _ _ _ _ _ [.float r17, .int x3, rv (hC H 902 a0)] H16 _
          refine wp_f2d dX8_convert_49 (fun r18 hr18 => ?_)
          replace h := h r18 hr18
          refine wp_goto (tgt := 64) dX8_convert_50 rfl ?_
          obtain ⟨hr19, h⟩ := h
          obtain ⟨hg20, h⟩ := h
          refine wp_dastore dX8_convert_64 ha12 hr19 hg20 ?_
          change WP _ _ _ _ _ _ _ (sD H16 (tg H16 a12) a12 x3.toNatClampNeg r18) _
          refine wp_iinc (v := (x3 + 1)) (ls' := [(3, .int (x3 + 1)), (0, rv (some a0)), (1, rv o1), (2, rv o2)]) 3 dX8_convert_65 rfl rfl (by decide) (by simp [st1, rv_cat, vc_int, vc_long, vc_float, vc_double]) ?_
          refine wp_goto (tgt := 2) dX8_convert_68 rfl ?_
          refine wp_sub (ls' := [(0, rv (some a0)), (1, rv o1), (2, rv o2), (3, .int (x3 + 1))]) [1, 2, 3, 0] rfl ?_
          exact h
theorem C_X8_convert {d : Nat} {q : HP → Prop} {a0 : Nat} {o1 : Option Nat} {o2 : Option Nat} {H : HP} (h : wb_X8_convert_0 d q a0 o1 o2 H) : CV (d + 1) 0 0 mX8_convert [rv (some a0), rv o1, rv o2] H q := by
  refine call_of (by decide +kernel) (by simp [lg_sl, rv_cat, vc_int, vc_long, vc_float, vc_double]) ?_
  have e : lv_args 0 [rv (some a0), rv o1, rv o2] = [(0, rv (some a0)), (1, rv o1), (2, rv o2)] := by simp [lv_args, rv_cat, vc_int, vc_long, vc_float, vc_double]
  rw [e]
  exact T_X8_convert_0 h
/-- UnitProver$Track.copy(LUnitProver$Track;)V: the loop at 33 -/
def L_X8_copy_33 (d : Nat) (q : HP → Prop) (a0 : Nat) (o1 : Option Nat) (x2 : Int32) (H : HP) : Prop := WP (d + 1) mX8_copy 0 0 33 [(0, rv (some a0)), (1, rv o1), (2, .int x2)] [] H (qV q)
def wb_X8_copy_0 (d : Nat) (q : HP → Prop) (a0 : Nat) (o1 : Option Nat) (H : HP) : Prop :=
  ∃ a1, o1 = some a1 ∧ (tg H a1 = 9 ∧ (tg H a0 = 9 ∧ (∃ a4, (hC (sI (sI H 900 a0 0 (hI H 900 a1 0)) 901 a0 0 (hI (sI H 900 a0 0 (hI H 900 a1 0)) 901 a1 0)) 902 a1) = some a4 ∧ (isA (sI (sI H 900 a0 0 (hI H 900 a1 0)) 901 a0 0 (hI (sI H 900 a0 0 (hI H 900 a1 0)) 901 a1 0)) a4 5 ∧ (∃ a6, (hC (sI (sI H 900 a0 0 (hI H 900 a1 0)) 901 a0 0 (hI (sI H 900 a0 0 (hI H 900 a1 0)) 901 a1 0)) 902 a0) = some a6 ∧ (isA (sI (sI H 900 a0 0 (hI H 900 a1 0)) 901 a0 0 (hI (sI H 900 a0 0 (hI H 900 a1 0)) 901 a1 0)) a6 5 ∧ ((0 : Int32).toNatClampNeg + (30 : Int32).toNatClampNeg ≤ ln (sI (sI H 900 a0 0 (hI H 900 a1 0)) 901 a0 0 (hI (sI H 900 a0 0 (hI H 900 a1 0)) 901 a1 0)) a4 ∧ ((0 : Int32).toNatClampNeg + (30 : Int32).toNatClampNeg ≤ ln (sI (sI H 900 a0 0 (hI H 900 a1 0)) 901 a0 0 (hI (sI H 900 a0 0 (hI H 900 a1 0)) 901 a1 0)) a6 ∧ (∀ H10, (fD (sI (sI H 900 a0 0 (hI H 900 a1 0)) 901 a0 0 (hI (sI H 900 a0 0 (hI H 900 a1 0)) 901 a1 0)) (tg (sI (sI H 900 a0 0 (hI H 900 a1 0)) 901 a0 0 (hI (sI H 900 a0 0 (hI H 900 a1 0)) 901 a1 0)) a6) a6 (va_cpy (hD (sI (sI H 900 a0 0 (hI H 900 a1 0)) 901 a0 0 (hI (sI H 900 a0 0 (hI H 900 a1 0)) 901 a1 0)) (tg (sI (sI H 900 a0 0 (hI H 900 a1 0)) 901 a0 0 (hI (sI H 900 a0 0 (hI H 900 a1 0)) 901 a1 0)) a4) a4) (hD (sI (sI H 900 a0 0 (hI H 900 a1 0)) 901 a0 0 (hI (sI H 900 a0 0 (hI H 900 a1 0)) 901 a1 0)) (tg (sI (sI H 900 a0 0 (hI H 900 a1 0)) 901 a0 0 (hI (sI H 900 a0 0 (hI H 900 a1 0)) 901 a1 0)) a6) a6) (0 : Int32).toNatClampNeg (0 : Int32).toNatClampNeg (30 : Int32).toNatClampNeg)) = H10 → (L_X8_copy_33 d q a0 o1 (0 : Int32) H10))))))))))
set_option maxRecDepth 40000 in
set_option maxHeartbeats 4000000 in
theorem T_X8_copy_0 {d : Nat} {q : HP → Prop} {a0 : Nat} {o1 : Option Nat} {H : HP} (h : wb_X8_copy_0 d q a0 o1 H) : WP (d + 1) mX8_copy 0 0 0 [(0, rv (some a0)), (1, rv o1)] [] H (qV q) := by
  unfold wb_X8_copy_0 at h
  refine wp_aload_n 0 dX8_copy_0 rfl ?_
  refine wp_aload_n 1 dX8_copy_1 rfl ?_
  obtain ⟨a1, ha1, h⟩ := h
  obtain ⟨ht2, h⟩ := h
  refine wp_getI (ci := 8) (j := 0) dX8_copy_2 fi_X8_9r rfl ha1 ht2 ?_
  change WP _ _ _ _ _ _ (.int (hI H 900 a1 0) :: _) _ _
  obtain ⟨ht3, h⟩ := h
  refine wp_putI (ci := 8) (j := 0) dX8_copy_5 fi_X8_9 rfl (fun z => by cases z) rfl ht3 rfl rfl ?_
  change WP _ _ _ _ _ _ _ (sI H 900 a0 0 (hI H 900 a1 0)) _
  refine wp_aload_n 0 dX8_copy_8 rfl ?_
  refine wp_aload_n 1 dX8_copy_9 rfl ?_
  refine wp_getI (ci := 8) (j := 1) dX8_copy_10 fi_X8_15r rfl ha1 ht2 ?_
  change WP _ _ _ _ _ _ (.int (hI (sI H 900 a0 0 (hI H 900 a1 0)) 901 a1 0) :: _) _ _
  refine wp_putI (ci := 8) (j := 1) dX8_copy_13 fi_X8_15 rfl (fun z => by cases z) rfl ht3 rfl rfl ?_
  change WP _ _ _ _ _ _ _ (sI (sI H 900 a0 0 (hI H 900 a1 0)) 901 a0 0 (hI (sI H 900 a0 0 (hI H 900 a1 0)) 901 a1 0)) _
  refine wp_aload_n 1 dX8_copy_16 rfl ?_
  refine wp_getC (ci := 8) (j := 2) dX8_copy_17 fi_X8_18r rfl ha1 ht2 ?_
  change WP _ _ _ _ _ _ (rv (hC (sI (sI H 900 a0 0 (hI H 900 a1 0)) 901 a0 0 (hI (sI H 900 a0 0 (hI H 900 a1 0)) 901 a1 0)) 902 a1) :: _) _ _
  refine wp_iconst (v := (0 : Int32)) dX8_copy_20 (by decide) ?_
  refine wp_aload_n 0 dX8_copy_21 rfl ?_
  refine wp_getC (ci := 8) (j := 2) dX8_copy_22 fi_X8_18r rfl rfl ht3 ?_
  change WP _ _ _ _ _ _ (rv (hC (sI (sI H 900 a0 0 (hI H 900 a1 0)) 901 a0 0 (hI (sI H 900 a0 0 (hI H 900 a1 0)) 901 a1 0)) 902 a0) :: _) _ _
  refine wp_iconst (v := (0 : Int32)) dX8_copy_25 (by decide) ?_
  refine wp_bipush (v := (30 : Int32)) dX8_copy_26 (by decide) ?_
  obtain ⟨a4, ha4, h⟩ := h
  obtain ⟨hr5, h⟩ := h
  obtain ⟨a6, ha6, h⟩ := h
  obtain ⟨hr7, h⟩ := h
  obtain ⟨hg8, h⟩ := h
  obtain ⟨hg9, h⟩ := h
  refine wp_copyD5 dX8_copy_28 w_5_164 w_3_134 w_3_133 w_1_19 ha4 hr5 ha6 hr7 (by decide) (by decide) (by decide) hg8 hg9 (by decide) (by omega) ?_
  replace h := h _ rfl
  generalize e11 : (fD (sI (sI H 900 a0 0 (hI H 900 a1 0)) 901 a0 0 (hI (sI H 900 a0 0 (hI H 900 a1 0)) 901 a1 0)) (tg (sI (sI H 900 a0 0 (hI H 900 a1 0)) 901 a0 0 (hI (sI H 900 a0 0 (hI H 900 a1 0)) 901 a1 0)) a6) a6 (va_cpy (hD (sI (sI H 900 a0 0 (hI H 900 a1 0)) 901 a0 0 (hI (sI H 900 a0 0 (hI H 900 a1 0)) 901 a1 0)) (tg (sI (sI H 900 a0 0 (hI H 900 a1 0)) 901 a0 0 (hI (sI H 900 a0 0 (hI H 900 a1 0)) 901 a1 0)) a4) a4) (hD (sI (sI H 900 a0 0 (hI H 900 a1 0)) 901 a0 0 (hI (sI H 900 a0 0 (hI H 900 a1 0)) 901 a1 0)) (tg (sI (sI H 900 a0 0 (hI H 900 a1 0)) 901 a0 0 (hI (sI H 900 a0 0 (hI H 900 a1 0)) 901 a1 0)) a6) a6) (0 : Int32).toNatClampNeg (0 : Int32).toNatClampNeg (30 : Int32).toNatClampNeg)) = H10 at h ⊢
  have ht12 : tg H10 a1 = 9 := by rw [← e11]; exact ht2
  have ht13 : tg H10 a0 = 9 := by rw [← e11]; exact ht3
  have hr14 : isA H10 a4 5 := by rw [← e11]; exact hr5
  have hr15 : isA H10 a6 5 := by rw [← e11]; exact hr7
  refine wp_iconst (v := (0 : Int32)) dX8_copy_31 (by decide) ?_
  refine wp_istore_n (ls' := [(2, .int (0 : Int32)), (0, rv (some a0)), (1, rv o1)]) dX8_copy_32 (by decide) (by change st1 _ 2 _ = _; simp [st1, rv_cat, vc_int, vc_long, vc_float, vc_double]) ?_
  refine wp_sub (ls' := [(0, rv (some a0)), (1, rv o1), (2, .int (0 : Int32))]) [1, 2, 0] rfl ?_
  exact h
def wb_X8_copy_33 (d : Nat) (q : HP → Prop) (a0 : Nat) (o1 : Option Nat) (x2 : Int32) (H : HP) : Prop :=
  ((30 : Int32) ≤ x2 → q H) ∧ (¬ ((30 : Int32) ≤ x2) → tg H a0 = 9 ∧ (∃ a2, o1 = some a2 ∧ (tg H a2 = 9 ∧ (∃ a4, (hC H 903 a2) = some a4 ∧ (isA H a4 2 ∧ (vp_in x2 (ln H a4) ∧ (∃ a7, (hC H 903 a0) = some a7 ∧ (isA H a7 2 ∧ (vp_in x2 (ln H a7) ∧ (L_X8_copy_33 d q a0 o1 (x2 + 1) (sI H (tg H a7) a7 x2.toNatClampNeg (vp_nar .boolean (hI H (tg H a4) a4 x2.toNatClampNeg)))))))))))))
set_option maxRecDepth 40000 in
set_option maxHeartbeats 4000000 in
theorem T_X8_copy_33 {d : Nat} {q : HP → Prop} {a0 : Nat} {o1 : Option Nat} {x2 : Int32} {H : HP} (h : wb_X8_copy_33 d q a0 o1 x2 H) : L_X8_copy_33 d q a0 o1 x2 H := by
  unfold wb_X8_copy_33 at h
  unfold L_X8_copy_33
  refine wp_iload_n 2 dX8_copy_33 rfl ?_
  refine wp_bipush (v := (30 : Int32)) dX8_copy_34 (by decide) ?_
  refine wp_icmp_ge (tgt := 57) dX8_copy_36 rfl (fun c => ?_) (fun c => ?_)
  · replace h := h.1 c
    exact wp_return dX8_copy_57 rfl ⟨rfl, h⟩
  · replace h := h.2 c
    refine wp_aload_n 0 dX8_copy_39 rfl ?_
    obtain ⟨ht1, h⟩ := h
    refine wp_getC (ci := 8) (j := 3) dX8_copy_40 fi_X8_22r rfl rfl ht1 ?_
    change WP _ _ _ _ _ _ (rv (hC H 903 a0) :: _) _ _
    refine wp_iload_n 2 dX8_copy_43 rfl ?_
    refine wp_aload_n 1 dX8_copy_44 rfl ?_
    obtain ⟨a2, ha2, h⟩ := h
    obtain ⟨ht3, h⟩ := h
    refine wp_getC (ci := 8) (j := 3) dX8_copy_45 fi_X8_22r rfl ha2 ht3 ?_
    change WP _ _ _ _ _ _ (rv (hC H 903 a2) :: _) _ _
    refine wp_iload_n 2 dX8_copy_48 rfl ?_
    obtain ⟨a4, ha4, h⟩ := h
    obtain ⟨hr5, h⟩ := h
    obtain ⟨hg6, h⟩ := h
    refine wp_zaload dX8_copy_49 ha4 hr5 hg6 ?_
    obtain ⟨a7, ha7, h⟩ := h
    obtain ⟨hr8, h⟩ := h
    obtain ⟨hg9, h⟩ := h
    refine wp_zastore dX8_copy_50 ha7 hr8 hg9 ?_
    change WP _ _ _ _ _ _ _ (sI H (tg H a7) a7 x2.toNatClampNeg (vp_nar .boolean (hI H (tg H a4) a4 x2.toNatClampNeg))) _
    refine wp_iinc (v := (x2 + 1)) (ls' := [(2, .int (x2 + 1)), (0, rv (some a0)), (1, rv o1)]) 2 dX8_copy_51 rfl rfl (by decide) (by simp [st1, rv_cat, vc_int, vc_long, vc_float, vc_double]) ?_
    refine wp_goto (tgt := 33) dX8_copy_54 rfl ?_
    refine wp_sub (ls' := [(0, rv (some a0)), (1, rv o1), (2, .int (x2 + 1))]) [1, 2, 0] rfl ?_
    exact h
theorem C_X8_copy {d : Nat} {q : HP → Prop} {a0 : Nat} {o1 : Option Nat} {H : HP} (h : wb_X8_copy_0 d q a0 o1 H) : CV (d + 1) 0 0 mX8_copy [rv (some a0), rv o1] H q := by
  refine call_of (by decide +kernel) (by simp [lg_sl, rv_cat, vc_int, vc_long, vc_float, vc_double]) ?_
  have e : lv_args 0 [rv (some a0), rv o1] = [(0, rv (some a0)), (1, rv o1)] := by simp [lv_args, rv_cat, vc_int, vc_long, vc_float, vc_double]
  rw [e]
  exact T_X8_copy_0 h
def wb_X8_inDoubles_0 (d : Nat) (q : HP → UInt64 → Prop) (x0 : UInt64) (o2 : Option Nat) (o3 : Option Nat) (H : HP) : Prop :=
  ∃ a1, o2 = some a1 ∧ (tg H a1 = 10 ∧ (∃ a3, (hC H 1003 a1) = some a3 ∧ (tg H a3 = 4 ∧ (∀ r5, alike64 r5 (FP.dmul x0 (FP.l2d (hL H 400 a3 0))) = true → (∀ r6, alike64 r6 (FP.ddiv r5 (FP.l2d (hL H 401 a3 0))) = true → (∃ a7, (hC H 1004 a1) = some a7 ∧ (tg H a7 = 4 ∧ (∀ r9, alike64 r9 (FP.ddiv (FP.l2d (hL H 400 a7 0)) (FP.l2d (hL H 401 a7 0))) = true → (∀ r10, alike64 r10 (FP.dadd r6 r9) = true → (∃ a11, o3 = some a11 ∧ (tg H a11 = 10 ∧ (∃ a13, (hC H 1004 a11) = some a13 ∧ (tg H a13 = 4 ∧ (∀ r15, alike64 r15 (FP.ddiv (FP.l2d (hL H 400 a13 0)) (FP.l2d (hL H 401 a13 0))) = true → (∀ r16, alike64 r16 (FP.dsub r10 r15) = true → (∃ a17, (hC H 1003 a11) = some a17 ∧ (tg H a17 = 4 ∧ (∀ r19, alike64 r19 (FP.dmul r16 (FP.l2d (hL H 401 a17 0))) = true → (∀ r20, alike64 r20 (FP.ddiv r19 (FP.l2d (hL H 400 a17 0))) = true → (q H r20))))))))))))))))))))
set_option maxRecDepth 40000 in
set_option maxHeartbeats 4000000 in
theorem T_X8_inDoubles_0 {d : Nat} {q : HP → UInt64 → Prop} {x0 : UInt64} {o2 : Option Nat} {o3 : Option Nat} {H : HP} (h : wb_X8_inDoubles_0 d q x0 o2 o3 H) : WP (d + 1) mX8_inDoubles 0 0 0 [(0, .double x0), (2, rv o2), (3, rv o3)] [] H (qD q) := by
  unfold wb_X8_inDoubles_0 at h
  refine wp_dload_n 0 dX8_inDoubles_0 rfl ?_
  refine wp_aload_n 1 dX8_inDoubles_1 rfl ?_
  obtain ⟨a1, ha1, h⟩ := h
  obtain ⟨ht2, h⟩ := h
  refine wp_getC (ci := 9) (j := 3) dX8_inDoubles_2 fi_X8_74 rfl ha1 ht2 ?_
  change WP _ _ _ _ _ _ (rv (hC H 1003 a1) :: _) _ _
  obtain ⟨a3, ha3, h⟩ := h
  obtain ⟨ht4, h⟩ := h
  refine wp_getL (ci := 3) (j := 0) dX8_inDoubles_5 fi_X8_80r rfl ha3 ht4 ?_
  change WP _ _ _ _ _ _ (.long (hL H 400 a3 0) :: _) _ _
  refine wp_l2d dX8_inDoubles_8 ?_
  refine wp_dmul dX8_inDoubles_9 (fun r5 hr5 => ?_)
  replace h := h r5 hr5
  refine wp_dstore (ls' := [(4, .double r5), (0, .double x0), (2, rv o2), (3, rv o3)]) dX8_inDoubles_10 (by decide) (by change st2 _ 4 _ = _; simp [st2, rv_cat, vc_int, vc_long, vc_float, vc_double]) ?_
  refine wp_dload 0 dX8_inDoubles_12 rfl ?_
  refine wp_aload_n 2 dX8_inDoubles_14 rfl ?_
  refine wp_getC (ci := 9) (j := 3) dX8_inDoubles_15 fi_X8_74 rfl ha1 ht2 ?_
  change WP _ _ _ _ _ _ (rv (hC H 1003 a1) :: _) _ _
  refine wp_getL (ci := 3) (j := 1) dX8_inDoubles_18 fi_X8_86r rfl ha3 ht4 ?_
  change WP _ _ _ _ _ _ (.long (hL H 401 a3 0) :: _) _ _
  refine wp_l2d dX8_inDoubles_21 ?_
  refine wp_ddiv dX8_inDoubles_22 (fun r6 hr6 => ?_)
  replace h := h r6 hr6
  refine wp_dstore (ls' := [(4, .double r6), (0, .double x0), (2, rv o2), (3, rv o3)]) dX8_inDoubles_23 (by decide) (by change st2 _ 4 _ = _; simp [st2, rv_cat, vc_int, vc_long, vc_float, vc_double]) ?_
  refine wp_dload 0 dX8_inDoubles_25 rfl ?_
  refine wp_aload_n 2 dX8_inDoubles_27 rfl ?_
  refine wp_getC (ci := 9) (j := 4) dX8_inDoubles_28 fi_X8_89 rfl ha1 ht2 ?_
  change WP _ _ _ _ _ _ (rv (hC H 1004 a1) :: _) _ _
  obtain ⟨a7, ha7, h⟩ := h
  obtain ⟨ht8, h⟩ := h
  refine wp_getL (ci := 3) (j := 0) dX8_inDoubles_31 fi_X8_80r rfl ha7 ht8 ?_
  change WP _ _ _ _ _ _ (.long (hL H 400 a7 0) :: _) _ _
  refine wp_l2d dX8_inDoubles_34 ?_
  refine wp_aload_n 2 dX8_inDoubles_35 rfl ?_
  refine wp_getC (ci := 9) (j := 4) dX8_inDoubles_36 fi_X8_89 rfl ha1 ht2 ?_
  change WP _ _ _ _ _ _ (rv (hC H 1004 a1) :: _) _ _
  refine wp_getL (ci := 3) (j := 1) dX8_inDoubles_39 fi_X8_86r rfl ha7 ht8 ?_
  change WP _ _ _ _ _ _ (.long (hL H 401 a7 0) :: _) _ _
  refine wp_l2d dX8_inDoubles_42 ?_
  refine wp_ddiv dX8_inDoubles_43 (fun r9 hr9 => ?_)
  replace h := h r9 hr9
  refine wp_dadd dX8_inDoubles_44 (fun r10 hr10 => ?_)
  replace h := h r10 hr10
  refine wp_dstore (ls' := [(4, .double r10), (0, .double x0), (2, rv o2), (3, rv o3)]) dX8_inDoubles_45 (by decide) (by change st2 _ 4 _ = _; simp [st2, rv_cat, vc_int, vc_long, vc_float, vc_double]) ?_
  refine wp_dload 0 dX8_inDoubles_47 rfl ?_
  refine wp_aload_n 3 dX8_inDoubles_49 rfl ?_
  obtain ⟨a11, ha11, h⟩ := h
  obtain ⟨ht12, h⟩ := h
  refine wp_getC (ci := 9) (j := 4) dX8_inDoubles_50 fi_X8_89 rfl ha11 ht12 ?_
  change WP _ _ _ _ _ _ (rv (hC H 1004 a11) :: _) _ _
  obtain ⟨a13, ha13, h⟩ := h
  obtain ⟨ht14, h⟩ := h
  refine wp_getL (ci := 3) (j := 0) dX8_inDoubles_53 fi_X8_80r rfl ha13 ht14 ?_
  change WP _ _ _ _ _ _ (.long (hL H 400 a13 0) :: _) _ _
  refine wp_l2d dX8_inDoubles_56 ?_
  refine wp_aload_n 3 dX8_inDoubles_57 rfl ?_
  refine wp_getC (ci := 9) (j := 4) dX8_inDoubles_58 fi_X8_89 rfl ha11 ht12 ?_
  change WP _ _ _ _ _ _ (rv (hC H 1004 a11) :: _) _ _
  refine wp_getL (ci := 3) (j := 1) dX8_inDoubles_61 fi_X8_86r rfl ha13 ht14 ?_
  change WP _ _ _ _ _ _ (.long (hL H 401 a13 0) :: _) _ _
  refine wp_l2d dX8_inDoubles_64 ?_
  refine wp_ddiv dX8_inDoubles_65 (fun r15 hr15 => ?_)
  replace h := h r15 hr15
  refine wp_dsub dX8_inDoubles_66 (fun r16 hr16 => ?_)
  replace h := h r16 hr16
  refine wp_dstore (ls' := [(4, .double r16), (0, .double x0), (2, rv o2), (3, rv o3)]) dX8_inDoubles_67 (by decide) (by change st2 _ 4 _ = _; simp [st2, rv_cat, vc_int, vc_long, vc_float, vc_double]) ?_
  refine wp_dload 0 dX8_inDoubles_69 rfl ?_
  refine wp_aload_n 3 dX8_inDoubles_71 rfl ?_
  refine wp_getC (ci := 9) (j := 3) dX8_inDoubles_72 fi_X8_74 rfl ha11 ht12 ?_
  change WP _ _ _ _ _ _ (rv (hC H 1003 a11) :: _) _ _
  obtain ⟨a17, ha17, h⟩ := h
  obtain ⟨ht18, h⟩ := h
  refine wp_getL (ci := 3) (j := 1) dX8_inDoubles_75 fi_X8_86r rfl ha17 ht18 ?_
  change WP _ _ _ _ _ _ (.long (hL H 401 a17 0) :: _) _ _
  refine wp_l2d dX8_inDoubles_78 ?_
  refine wp_dmul dX8_inDoubles_79 (fun r19 hr19 => ?_)
  replace h := h r19 hr19
  refine wp_dstore (ls' := [(4, .double r19), (0, .double x0), (2, rv o2), (3, rv o3)]) dX8_inDoubles_80 (by decide) (by change st2 _ 4 _ = _; simp [st2, rv_cat, vc_int, vc_long, vc_float, vc_double]) ?_
  refine wp_dload 0 dX8_inDoubles_82 rfl ?_
  refine wp_aload_n 3 dX8_inDoubles_84 rfl ?_
  refine wp_getC (ci := 9) (j := 3) dX8_inDoubles_85 fi_X8_74 rfl ha11 ht12 ?_
  change WP _ _ _ _ _ _ (rv (hC H 1003 a11) :: _) _ _
  refine wp_getL (ci := 3) (j := 0) dX8_inDoubles_88 fi_X8_80r rfl ha17 ht18 ?_
  change WP _ _ _ _ _ _ (.long (hL H 400 a17 0) :: _) _ _
  refine wp_l2d dX8_inDoubles_91 ?_
  refine wp_ddiv dX8_inDoubles_92 (fun r20 hr20 => ?_)
  replace h := h r20 hr20
  exact wp_dreturn dX8_inDoubles_93 rfl ⟨_, rfl, h⟩
theorem C_X8_inDoubles {d : Nat} {q : HP → UInt64 → Prop} {x0 : UInt64} {o2 : Option Nat} {o3 : Option Nat} {H : HP} (h : wb_X8_inDoubles_0 d q x0 o2 o3 H) : CD (d + 1) 0 0 mX8_inDoubles [.double x0, rv o2, rv o3] H q := by
  refine call_of (by decide +kernel) (by simp [lg_sl, rv_cat, vc_int, vc_long, vc_float, vc_double]) ?_
  have e : lv_args 0 [.double x0, rv o2, rv o3] = [(0, .double x0), (2, rv o2), (3, rv o3)] := by simp [lv_args, rv_cat, vc_int, vc_long, vc_float, vc_double]
  rw [e]
  exact T_X8_inDoubles_0 h
def wb_X8_inFloats_0 (d : Nat) (q : HP → UInt32 → Prop) (x0 : UInt32) (o1 : Option Nat) (o2 : Option Nat) (H : HP) : Prop :=
  ∃ a1, o1 = some a1 ∧ (tg H a1 = 10 ∧ (∃ a3, (hC H 1003 a1) = some a3 ∧ (tg H a3 = 4 ∧ (∀ r5, alike32 r5 (FP.fmul x0 (FP.l2f (hL H 400 a3 0))) = true → (∀ r6, alike32 r6 (FP.fdiv r5 (FP.l2f (hL H 401 a3 0))) = true → (∃ a7, (hC H 1004 a1) = some a7 ∧ (tg H a7 = 4 ∧ (∀ r9, alike32 r9 (FP.fdiv (FP.l2f (hL H 400 a7 0)) (FP.l2f (hL H 401 a7 0))) = true → (∀ r10, alike32 r10 (FP.fadd r6 r9) = true → (∃ a11, o2 = some a11 ∧ (tg H a11 = 10 ∧ (∃ a13, (hC H 1004 a11) = some a13 ∧ (tg H a13 = 4 ∧ (∀ r15, alike32 r15 (FP.fdiv (FP.l2f (hL H 400 a13 0)) (FP.l2f (hL H 401 a13 0))) = true → (∀ r16, alike32 r16 (FP.fsub r10 r15) = true → (∃ a17, (hC H 1003 a11) = some a17 ∧ (tg H a17 = 4 ∧ (∀ r19, alike32 r19 (FP.fmul r16 (FP.l2f (hL H 401 a17 0))) = true → (∀ r20, alike32 r20 (FP.fdiv r19 (FP.l2f (hL H 400 a17 0))) = true → (q H r20))))))))))))))))))))
set_option maxRecDepth 40000 in
set_option maxHeartbeats 4000000 in
theorem T_X8_inFloats_0 {d : Nat} {q : HP → UInt32 → Prop} {x0 : UInt32} {o1 : Option Nat} {o2 : Option Nat} {H : HP} (h : wb_X8_inFloats_0 d q x0 o1 o2 H) : WP (d + 1) mX8_inFloats 0 0 0 [(0, .float x0), (1, rv o1), (2, rv o2)] [] H (qF q) := by
  unfold wb_X8_inFloats_0 at h
  refine wp_fload_n 0 dX8_inFloats_0 rfl ?_
  refine wp_aload_n 1 dX8_inFloats_1 rfl ?_
  obtain ⟨a1, ha1, h⟩ := h
  obtain ⟨ht2, h⟩ := h
  refine wp_getC (ci := 9) (j := 3) dX8_inFloats_2 fi_X8_74 rfl ha1 ht2 ?_
  change WP _ _ _ _ _ _ (rv (hC H 1003 a1) :: _) _ _
  obtain ⟨a3, ha3, h⟩ := h
  obtain ⟨ht4, h⟩ := h
  refine wp_getL (ci := 3) (j := 0) dX8_inFloats_5 fi_X8_80r rfl ha3 ht4 ?_
  change WP _ _ _ _ _ _ (.long (hL H 400 a3 0) :: _) _ _
  refine wp_l2f dX8_inFloats_8 ?_
  refine wp_fmul dX8_inFloats_9 (fun r5 hr5 => ?_)
  replace h := h r5 hr5
  refine wp_fstore_n (ls' := [(3, .float r5), (0, .float x0), (1, rv o1), (2, rv o2)]) dX8_inFloats_10 (by decide) (by change st1 _ 3 _ = _; simp [st1, rv_cat, vc_int, vc_long, vc_float, vc_double]) ?_
  refine wp_fload_n 0 dX8_inFloats_11 rfl ?_
  refine wp_aload_n 2 dX8_inFloats_12 rfl ?_
  refine wp_getC (ci := 9) (j := 3) dX8_inFloats_13 fi_X8_74 rfl ha1 ht2 ?_
  change WP _ _ _ _ _ _ (rv (hC H 1003 a1) :: _) _ _
  refine wp_getL (ci := 3) (j := 1) dX8_inFloats_16 fi_X8_86r rfl ha3 ht4 ?_
  change WP _ _ _ _ _ _ (.long (hL H 401 a3 0) :: _) _ _
  refine wp_l2f dX8_inFloats_19 ?_
  refine wp_fdiv dX8_inFloats_20 (fun r6 hr6 => ?_)
  replace h := h r6 hr6
  refine wp_fstore_n (ls' := [(3, .float r6), (0, .float x0), (1, rv o1), (2, rv o2)]) dX8_inFloats_21 (by decide) (by change st1 _ 3 _ = _; simp [st1, rv_cat, vc_int, vc_long, vc_float, vc_double]) ?_
  refine wp_fload_n 0 dX8_inFloats_22 rfl ?_
  refine wp_aload_n 2 dX8_inFloats_23 rfl ?_
  refine wp_getC (ci := 9) (j := 4) dX8_inFloats_24 fi_X8_89 rfl ha1 ht2 ?_
  change WP _ _ _ _ _ _ (rv (hC H 1004 a1) :: _) _ _
  obtain ⟨a7, ha7, h⟩ := h
  obtain ⟨ht8, h⟩ := h
  refine wp_getL (ci := 3) (j := 0) dX8_inFloats_27 fi_X8_80r rfl ha7 ht8 ?_
  change WP _ _ _ _ _ _ (.long (hL H 400 a7 0) :: _) _ _
  refine wp_l2f dX8_inFloats_30 ?_
  refine wp_aload_n 2 dX8_inFloats_31 rfl ?_
  refine wp_getC (ci := 9) (j := 4) dX8_inFloats_32 fi_X8_89 rfl ha1 ht2 ?_
  change WP _ _ _ _ _ _ (rv (hC H 1004 a1) :: _) _ _
  refine wp_getL (ci := 3) (j := 1) dX8_inFloats_35 fi_X8_86r rfl ha7 ht8 ?_
  change WP _ _ _ _ _ _ (.long (hL H 401 a7 0) :: _) _ _
  refine wp_l2f dX8_inFloats_38 ?_
  refine wp_fdiv dX8_inFloats_39 (fun r9 hr9 => ?_)
  replace h := h r9 hr9
  refine wp_fadd dX8_inFloats_40 (fun r10 hr10 => ?_)
  replace h := h r10 hr10
  refine wp_fstore_n (ls' := [(3, .float r10), (0, .float x0), (1, rv o1), (2, rv o2)]) dX8_inFloats_41 (by decide) (by change st1 _ 3 _ = _; simp [st1, rv_cat, vc_int, vc_long, vc_float, vc_double]) ?_
  refine wp_fload_n 0 dX8_inFloats_42 rfl ?_
  refine wp_aload_n 3 dX8_inFloats_43 rfl ?_
  obtain ⟨a11, ha11, h⟩ := h
  obtain ⟨ht12, h⟩ := h
  refine wp_getC (ci := 9) (j := 4) dX8_inFloats_44 fi_X8_89 rfl ha11 ht12 ?_
  change WP _ _ _ _ _ _ (rv (hC H 1004 a11) :: _) _ _
  obtain ⟨a13, ha13, h⟩ := h
  obtain ⟨ht14, h⟩ := h
  refine wp_getL (ci := 3) (j := 0) dX8_inFloats_47 fi_X8_80r rfl ha13 ht14 ?_
  change WP _ _ _ _ _ _ (.long (hL H 400 a13 0) :: _) _ _
  refine wp_l2f dX8_inFloats_50 ?_
  refine wp_aload_n 3 dX8_inFloats_51 rfl ?_
  refine wp_getC (ci := 9) (j := 4) dX8_inFloats_52 fi_X8_89 rfl ha11 ht12 ?_
  change WP _ _ _ _ _ _ (rv (hC H 1004 a11) :: _) _ _
  refine wp_getL (ci := 3) (j := 1) dX8_inFloats_55 fi_X8_86r rfl ha13 ht14 ?_
  change WP _ _ _ _ _ _ (.long (hL H 401 a13 0) :: _) _ _
  refine wp_l2f dX8_inFloats_58 ?_
  refine wp_fdiv dX8_inFloats_59 (fun r15 hr15 => ?_)
  replace h := h r15 hr15
  refine wp_fsub dX8_inFloats_60 (fun r16 hr16 => ?_)
  replace h := h r16 hr16
  refine wp_fstore_n (ls' := [(3, .float r16), (0, .float x0), (1, rv o1), (2, rv o2)]) dX8_inFloats_61 (by decide) (by change st1 _ 3 _ = _; simp [st1, rv_cat, vc_int, vc_long, vc_float, vc_double]) ?_
  refine wp_fload_n 0 dX8_inFloats_62 rfl ?_
  refine wp_aload_n 3 dX8_inFloats_63 rfl ?_
  refine wp_getC (ci := 9) (j := 3) dX8_inFloats_64 fi_X8_74 rfl ha11 ht12 ?_
  change WP _ _ _ _ _ _ (rv (hC H 1003 a11) :: _) _ _
  obtain ⟨a17, ha17, h⟩ := h
  obtain ⟨ht18, h⟩ := h
  refine wp_getL (ci := 3) (j := 1) dX8_inFloats_67 fi_X8_86r rfl ha17 ht18 ?_
  change WP _ _ _ _ _ _ (.long (hL H 401 a17 0) :: _) _ _
  refine wp_l2f dX8_inFloats_70 ?_
  refine wp_fmul dX8_inFloats_71 (fun r19 hr19 => ?_)
  replace h := h r19 hr19
  refine wp_fstore_n (ls' := [(3, .float r19), (0, .float x0), (1, rv o1), (2, rv o2)]) dX8_inFloats_72 (by decide) (by change st1 _ 3 _ = _; simp [st1, rv_cat, vc_int, vc_long, vc_float, vc_double]) ?_
  refine wp_fload_n 0 dX8_inFloats_73 rfl ?_
  refine wp_aload_n 3 dX8_inFloats_74 rfl ?_
  refine wp_getC (ci := 9) (j := 3) dX8_inFloats_75 fi_X8_74 rfl ha11 ht12 ?_
  change WP _ _ _ _ _ _ (rv (hC H 1003 a11) :: _) _ _
  refine wp_getL (ci := 3) (j := 0) dX8_inFloats_78 fi_X8_80r rfl ha17 ht18 ?_
  change WP _ _ _ _ _ _ (.long (hL H 400 a17 0) :: _) _ _
  refine wp_l2f dX8_inFloats_81 ?_
  refine wp_fdiv dX8_inFloats_82 (fun r20 hr20 => ?_)
  replace h := h r20 hr20
  exact wp_freturn dX8_inFloats_83 rfl ⟨_, rfl, h⟩
theorem C_X8_inFloats {d : Nat} {q : HP → UInt32 → Prop} {x0 : UInt32} {o1 : Option Nat} {o2 : Option Nat} {H : HP} (h : wb_X8_inFloats_0 d q x0 o1 o2 H) : CF (d + 1) 0 0 mX8_inFloats [.float x0, rv o1, rv o2] H q := by
  refine call_of (by decide +kernel) (by simp [lg_sl, rv_cat, vc_int, vc_long, vc_float, vc_double]) ?_
  have e : lv_args 0 [.float x0, rv o1, rv o2] = [(0, .float x0), (1, rv o1), (2, rv o2)] := by simp [lv_args, rv_cat, vc_int, vc_long, vc_float, vc_double]
  rw [e]
  exact T_X8_inFloats_0 h
def wb_X8_init_0 (d : Nat) (ca sa : Nat) (q : HP → Prop) (a0 : Nat) (H : HP) : Prop :=
  tg H a0 = 9 ∧ (hN (sI (sI H 900 a0 0 (-1 : Int32)) 901 a0 0 (0 : Int32)) < scrA ∧ (1 ≤ ca ∧ (30 ≤ sa ∧ (tg (nw (sI (sI H 900 a0 0 (-1 : Int32)) 901 a0 0 (0 : Int32)) 4165 30) a0 = 9 ∧ (hN (sC (nw (sI (sI H 900 a0 0 (-1 : Int32)) 901 a0 0 (0 : Int32)) 4165 30) 902 a0 (some (hN (sI (sI H 900 a0 0 (-1 : Int32)) 901 a0 0 (0 : Int32))))) < scrA ∧ (1 ≤ (ca - 1) ∧ (30 ≤ (sa - 30) ∧ (tg (nw (sC (nw (sI (sI H 900 a0 0 (-1 : Int32)) 901 a0 0 (0 : Int32)) 4165 30) 902 a0 (some (hN (sI (sI H 900 a0 0 (-1 : Int32)) 901 a0 0 (0 : Int32))))) 4178 30) a0 = 9 ∧ (∀ H10, (sC (nw (sC (nw (sI (sI H 900 a0 0 (-1 : Int32)) 901 a0 0 (0 : Int32)) 4165 30) 902 a0 (some (hN (sI (sI H 900 a0 0 (-1 : Int32)) 901 a0 0 (0 : Int32))))) 4178 30) 903 a0 (some (hN (sC (nw (sI (sI H 900 a0 0 (-1 : Int32)) 901 a0 0 (0 : Int32)) 4165 30) 902 a0 (some (hN (sI (sI H 900 a0 0 (-1 : Int32)) 901 a0 0 (0 : Int32)))))))) = H10 → (q H10))))))))))
set_option maxRecDepth 40000 in
set_option maxHeartbeats 4000000 in
theorem T_X8_init_0 {d : Nat} {ca sa : Nat} {q : HP → Prop} {a0 : Nat} {H : HP} (h : wb_X8_init_0 d ca sa q a0 H) : WP (d + 1) mX8_init ca sa 0 [(0, rv (some a0))] [] H (qV q) := by
  unfold wb_X8_init_0 at h
  refine wp_aload_n 0 dX8_init_0 rfl ?_
  refine wp_objInit dX8_init_1 w_2_157 w_1_29 w_1_30 rfl (by decide) (by omega) ?_
  refine wp_aload_n 0 dX8_init_4 rfl ?_
  refine wp_iconst (v := (-1 : Int32)) dX8_init_5 (by decide) ?_
  obtain ⟨ht1, h⟩ := h
  refine wp_putI (ci := 8) (j := 0) dX8_init_6 fi_X8_9 rfl (fun z => by cases z) rfl ht1 rfl rfl ?_
  change WP _ _ _ _ _ _ _ (sI H 900 a0 0 (-1 : Int32)) _
  refine wp_aload_n 0 dX8_init_9 rfl ?_
  refine wp_iconst (v := (0 : Int32)) dX8_init_10 (by decide) ?_
  refine wp_putI (ci := 8) (j := 1) dX8_init_11 fi_X8_15 rfl (fun z => by cases z) rfl ht1 rfl rfl ?_
  change WP _ _ _ _ _ _ _ (sI (sI H 900 a0 0 (-1 : Int32)) 901 a0 0 (0 : Int32)) _
  refine wp_aload_n 0 dX8_init_14 rfl ?_
  refine wp_bipush (v := (30 : Int32)) dX8_init_15 (by decide) ?_
  obtain ⟨hg2, h⟩ := h
  obtain ⟨hg3, h⟩ := h
  obtain ⟨hg4, h⟩ := h
  refine wp_newarray (t := 4165) (N := 30) (ca' := ca - 1) (sa' := sa - 30) dX8_init_17 w_2_97 (by decide) rfl (by decide) (by decide) (by decide +kernel) hg2 (by omega) (by omega) ?_
  obtain ⟨ht5, h⟩ := h
  refine wp_putC (ci := 8) (j := 2) dX8_init_19 fi_X8_18 rfl (fun _ => rfl) rfl ht5 (Or.inr ⟨_, rfl⟩) ?_
  change WP _ _ _ _ _ _ _ (sC (nw (sI (sI H 900 a0 0 (-1 : Int32)) 901 a0 0 (0 : Int32)) 4165 30) 902 a0 (some (hN (sI (sI H 900 a0 0 (-1 : Int32)) 901 a0 0 (0 : Int32))))) _
  refine wp_aload_n 0 dX8_init_22 rfl ?_
  refine wp_bipush (v := (30 : Int32)) dX8_init_23 (by decide) ?_
  obtain ⟨hg6, h⟩ := h
  obtain ⟨hg7, h⟩ := h
  obtain ⟨hg8, h⟩ := h
  refine wp_newarray (t := 4178) (N := 30) (ca' := (ca - 1) - 1) (sa' := (sa - 30) - 30) dX8_init_25 w_1_179 (by decide) rfl (by decide) (by decide) (by decide +kernel) hg6 (by omega) (by omega) ?_
  obtain ⟨ht9, h⟩ := h
  refine wp_putC (ci := 8) (j := 3) dX8_init_27 fi_X8_22 rfl (fun _ => rfl) rfl ht9 (Or.inr ⟨_, rfl⟩) ?_
  change WP _ _ _ _ _ _ _ (sC (nw (sC (nw (sI (sI H 900 a0 0 (-1 : Int32)) 901 a0 0 (0 : Int32)) 4165 30) 902 a0 (some (hN (sI (sI H 900 a0 0 (-1 : Int32)) 901 a0 0 (0 : Int32))))) 4178 30) 903 a0 (some (hN (sC (nw (sI (sI H 900 a0 0 (-1 : Int32)) 901 a0 0 (0 : Int32)) 4165 30) 902 a0 (some (hN (sI (sI H 900 a0 0 (-1 : Int32)) 901 a0 0 (0 : Int32)))))))) _
  replace h := h _ rfl
  generalize e11 : (sC (nw (sC (nw (sI (sI H 900 a0 0 (-1 : Int32)) 901 a0 0 (0 : Int32)) 4165 30) 902 a0 (some (hN (sI (sI H 900 a0 0 (-1 : Int32)) 901 a0 0 (0 : Int32))))) 4178 30) 903 a0 (some (hN (sC (nw (sI (sI H 900 a0 0 (-1 : Int32)) 901 a0 0 (0 : Int32)) 4165 30) 902 a0 (some (hN (sI (sI H 900 a0 0 (-1 : Int32)) 901 a0 0 (0 : Int32)))))))) = H10 at h ⊢
  have ht12 : tg H10 a0 = 9 := by rw [← e11]; exact ht9
  exact wp_return dX8_init_30 rfl ⟨rfl, h⟩
theorem C_X8_init {d : Nat} {ca sa : Nat} {q : HP → Prop} {a0 : Nat} {H : HP} (h : wb_X8_init_0 d ca sa q a0 H) : CV (d + 1) ca sa mX8_init [rv (some a0)] H q := by
  refine call_of (by decide +kernel) (by simp [lg_sl, rv_cat, vc_int, vc_long, vc_float, vc_double]) ?_
  have e : lv_args 0 [rv (some a0)] = [(0, rv (some a0))] := by simp [lv_args, rv_cat, vc_int, vc_long, vc_float, vc_double]
  rw [e]
  exact T_X8_init_0 h
def wb_X8_isNothing_0 (d : Nat) (q : HP → Bool → Prop) (a0 : Nat) (H : HP) : Prop :=
  tg H a0 = 9 ∧ ((0 ≤ (hI H 900 a0 0) → q H false) ∧ (¬ (0 ≤ (hI H 900 a0 0)) → q H true))
set_option maxRecDepth 40000 in
set_option maxHeartbeats 4000000 in
theorem T_X8_isNothing_0 {d : Nat} {q : HP → Bool → Prop} {a0 : Nat} {H : HP} (h : wb_X8_isNothing_0 d q a0 H) : WP (d + 1) mX8_isNothing 0 0 0 [(0, rv (some a0))] [] H (qZ q) := by
  unfold wb_X8_isNothing_0 at h
  refine wp_aload_n 0 dX8_isNothing_0 rfl ?_
  obtain ⟨ht1, h⟩ := h
  refine wp_getI (ci := 8) (j := 0) dX8_isNothing_1 fi_X8_9r rfl rfl ht1 ?_
  change WP _ _ _ _ _ _ (.int (hI H 900 a0 0) :: _) _ _
  refine wp_if_ge (tgt := 11) dX8_isNothing_4 rfl (fun c => ?_) (fun c => ?_)
  · replace h := h.1 c
    refine wp_iconst (v := (0 : Int32)) dX8_isNothing_11 (by decide) ?_
    exact wp_ireturn (ty := .boolean) dX8_isNothing_12 rfl rfl ⟨false, rfl, h⟩
  · replace h := h.2 c
    refine wp_iconst (v := (1 : Int32)) dX8_isNothing_7 (by decide) ?_
    refine wp_goto (tgt := 12) dX8_isNothing_8 rfl ?_
    exact wp_ireturn (ty := .boolean) dX8_isNothing_12 rfl rfl ⟨true, rfl, h⟩
theorem C_X8_isNothing {d : Nat} {q : HP → Bool → Prop} {a0 : Nat} {H : HP} (h : wb_X8_isNothing_0 d q a0 H) : CZ (d + 1) 0 0 mX8_isNothing [rv (some a0)] H q := by
  refine call_of (by decide +kernel) (by simp [lg_sl, rv_cat, vc_int, vc_long, vc_float, vc_double]) ?_
  have e : lv_args 0 [rv (some a0)] = [(0, rv (some a0))] := by simp [lv_args, rv_cat, vc_int, vc_long, vc_float, vc_double]
  rw [e]
  exact T_X8_isNothing_0 h
def wb_X8_number_0 (d : Nat) (q : HP → UInt64 → Prop) (a0 : Nat) (x1 : Int32) (H : HP) : Prop :=
  tg H a0 = 9 ∧ (∃ a2, (hC H 903 a0) = some a2 ∧ (isA H a2 2 ∧ (vp_in x1 (ln H a2) ∧ (((hI H (tg H a2) a2 x1.toNatClampNeg) = 0 → ∃ a5, (hC H 902 a0) = some a5 ∧ (isA H a5 5 ∧ (vp_in x1 (ln H a5) ∧ (q H (hD H (tg H a5) a5 x1.toNatClampNeg))))) ∧ (¬ ((hI H (tg H a2) a2 x1.toNatClampNeg) = 0) → q H FP.dconst0)))))
set_option maxRecDepth 40000 in
set_option maxHeartbeats 4000000 in
theorem T_X8_number_0 {d : Nat} {q : HP → UInt64 → Prop} {a0 : Nat} {x1 : Int32} {H : HP} (h : wb_X8_number_0 d q a0 x1 H) : WP (d + 1) mX8_number 0 0 0 [(0, rv (some a0)), (1, .int x1)] [] H (qD q) := by
  unfold wb_X8_number_0 at h
  refine wp_aload_n 0 dX8_number_0 rfl ?_
  obtain ⟨ht1, h⟩ := h
  refine wp_getC (ci := 8) (j := 3) dX8_number_1 fi_X8_22r rfl rfl ht1 ?_
  change WP _ _ _ _ _ _ (rv (hC H 903 a0) :: _) _ _
  refine wp_iload_n 1 dX8_number_4 rfl ?_
  obtain ⟨a2, ha2, h⟩ := h
  obtain ⟨hr3, h⟩ := h
  obtain ⟨hg4, h⟩ := h
  refine wp_zaload dX8_number_5 ha2 hr3 hg4 ?_
  refine wp_if_eq (tgt := 13) dX8_number_6 rfl (fun c => ?_) (fun c => ?_)
  · replace h := h.1 c
    refine wp_aload_n 0 dX8_number_13 rfl ?_
    refine wp_getC (ci := 8) (j := 2) dX8_number_14 fi_X8_18r rfl rfl ht1 ?_
    change WP _ _ _ _ _ _ (rv (hC H 902 a0) :: _) _ _
    refine wp_iload_n 1 dX8_number_17 rfl ?_
    obtain ⟨a5, ha5, h⟩ := h
    obtain ⟨hr6, h⟩ := h
    obtain ⟨hg7, h⟩ := h
    refine wp_daload dX8_number_18 ha5 hr6 hg7 ?_
    exact wp_dreturn dX8_number_19 rfl ⟨_, rfl, h⟩
  · replace h := h.2 c
    refine wp_dconst0 dX8_number_9 ?_
    refine wp_goto (tgt := 19) dX8_number_10 rfl ?_
    exact wp_dreturn dX8_number_19 rfl ⟨_, rfl, h⟩
theorem C_X8_number {d : Nat} {q : HP → UInt64 → Prop} {a0 : Nat} {x1 : Int32} {H : HP} (h : wb_X8_number_0 d q a0 x1 H) : CD (d + 1) 0 0 mX8_number [rv (some a0), .int x1] H q := by
  refine call_of (by decide +kernel) (by simp [lg_sl, rv_cat, vc_int, vc_long, vc_float, vc_double]) ?_
  have e : lv_args 0 [rv (some a0), .int x1] = [(0, rv (some a0)), (1, .int x1)] := by simp [lv_args, rv_cat, vc_int, vc_long, vc_float, vc_double]
  rw [e]
  exact T_X8_number_0 h
def wb_X8_store_0 (d : Nat) (q : HP → Prop) (a0 : Nat) (x1 : Int32) (x2 : UInt64) (H : HP) : Prop :=
  tg H a0 = 9 ∧ (∃ a2, (hC H 902 a0) = some a2 ∧ (isA H a2 5 ∧ (vp_in x1 (ln H a2) ∧ (∃ a5, (hC (sD H (tg H a2) a2 x1.toNatClampNeg x2) 903 a0) = some a5 ∧ (isA (sD H (tg H a2) a2 x1.toNatClampNeg x2) a5 2 ∧ (vp_in x1 (ln (sD H (tg H a2) a2 x1.toNatClampNeg x2) a5) ∧ (q (sI (sD H (tg H a2) a2 x1.toNatClampNeg x2) (tg (sD H (tg H a2) a2 x1.toNatClampNeg x2) a5) a5 x1.toNatClampNeg (vp_nar .boolean (0 : Int32))))))))))
set_option maxRecDepth 40000 in
set_option maxHeartbeats 4000000 in
theorem T_X8_store_0 {d : Nat} {q : HP → Prop} {a0 : Nat} {x1 : Int32} {x2 : UInt64} {H : HP} (h : wb_X8_store_0 d q a0 x1 x2 H) : WP (d + 1) mX8_store 0 0 0 [(0, rv (some a0)), (1, .int x1), (2, .double x2)] [] H (qV q) := by
  unfold wb_X8_store_0 at h
  refine wp_aload_n 0 dX8_store_0 rfl ?_
  obtain ⟨ht1, h⟩ := h
  refine wp_getC (ci := 8) (j := 2) dX8_store_1 fi_X8_18r rfl rfl ht1 ?_
  change WP _ _ _ _ _ _ (rv (hC H 902 a0) :: _) _ _
  refine wp_iload_n 1 dX8_store_4 rfl ?_
  refine wp_dload_n 2 dX8_store_5 rfl ?_
  obtain ⟨a2, ha2, h⟩ := h
  obtain ⟨hr3, h⟩ := h
  obtain ⟨hg4, h⟩ := h
  refine wp_dastore dX8_store_6 ha2 hr3 hg4 ?_
  change WP _ _ _ _ _ _ _ (sD H (tg H a2) a2 x1.toNatClampNeg x2) _
  refine wp_aload_n 0 dX8_store_7 rfl ?_
  refine wp_getC (ci := 8) (j := 3) dX8_store_8 fi_X8_22r rfl rfl ht1 ?_
  change WP _ _ _ _ _ _ (rv (hC (sD H (tg H a2) a2 x1.toNatClampNeg x2) 903 a0) :: _) _ _
  refine wp_iload_n 1 dX8_store_11 rfl ?_
  refine wp_iconst (v := (0 : Int32)) dX8_store_12 (by decide) ?_
  obtain ⟨a5, ha5, h⟩ := h
  obtain ⟨hr6, h⟩ := h
  obtain ⟨hg7, h⟩ := h
  refine wp_zastore dX8_store_13 ha5 hr6 hg7 ?_
  change WP _ _ _ _ _ _ _ (sI (sD H (tg H a2) a2 x1.toNatClampNeg x2) (tg (sD H (tg H a2) a2 x1.toNatClampNeg x2) a5) a5 x1.toNatClampNeg (vp_nar .boolean (0 : Int32))) _
  exact wp_return dX8_store_14 rfl ⟨rfl, h⟩
theorem C_X8_store {d : Nat} {q : HP → Prop} {a0 : Nat} {x1 : Int32} {x2 : UInt64} {H : HP} (h : wb_X8_store_0 d q a0 x1 x2 H) : CV (d + 1) 0 0 mX8_store [rv (some a0), .int x1, .double x2] H q := by
  refine call_of (by decide +kernel) (by simp [lg_sl, rv_cat, vc_int, vc_long, vc_float, vc_double]) ?_
  have e : lv_args 0 [rv (some a0), .int x1, .double x2] = [(0, rv (some a0)), (1, .int x1), (2, .double x2)] := by simp [lv_args, rv_cat, vc_int, vc_long, vc_float, vc_double]
  rw [e]
  exact T_X8_store_0 h
def wb_X8_storeBits_47 (d : Nat) (q : HP → Prop) (a0 : Nat) (x1 : Int32) (o4 : Option Nat) (x5 : Int64) (s0 : Option Nat) (s1 : Int32) (s2 : Int32) (H : HP) : Prop :=
  ∃ a1, s0 = some a1 ∧ (isA H a1 2 ∧ (vp_in s1 (ln H a1) ∧ (tg (sI H (tg H a1) a1 s1.toNatClampNeg (vp_nar .boolean s2)) a0 = 9 ∧ (∃ a5, (hC (sI H (tg H a1) a1 s1.toNatClampNeg (vp_nar .boolean s2)) 903 a0) = some a5 ∧ (isA (sI H (tg H a1) a1 s1.toNatClampNeg (vp_nar .boolean s2)) a5 2 ∧ (vp_in x1 (ln (sI H (tg H a1) a1 s1.toNatClampNeg (vp_nar .boolean s2)) a5) ∧ (((hI (sI H (tg H a1) a1 s1.toNatClampNeg (vp_nar .boolean s2)) (tg (sI H (tg H a1) a1 s1.toNatClampNeg (vp_nar .boolean s2)) a5) a5 x1.toNatClampNeg) = 0 → (¬ (hI (sI H (tg H a1) a1 s1.toNatClampNeg (vp_nar .boolean s2)) 900 a0 0) = 0 → ∃ a9, o4 = some a9 ∧ (tg (sI H (tg H a1) a1 s1.toNatClampNeg (vp_nar .boolean s2)) a9 = 3 ∧ (CD d 0 0 mX2_toDouble [rv o4, .long x5] (sI H (tg H a1) a1 s1.toNatClampNeg (vp_nar .boolean s2)) (fun H8 r11 => ∃ a12, (hC (sI H (tg H a1) a1 s1.toNatClampNeg (vp_nar .boolean s2)) 902 a0) = some a12 ∧ (isA H8 a12 5 ∧ (vp_in x1 (ln H8 a12) ∧ (q (sD H8 (tg H8 a12) a12 x1.toNatClampNeg r11)))))))) ∧ ((hI (sI H (tg H a1) a1 s1.toNatClampNeg (vp_nar .boolean s2)) 900 a0 0) = 0 → ∃ a16, o4 = some a16 ∧ (tg (sI H (tg H a1) a1 s1.toNatClampNeg (vp_nar .boolean s2)) a16 = 3 ∧ (CD d 0 0 mX2_toFloat [rv o4, .long x5] (sI H (tg H a1) a1 s1.toNatClampNeg (vp_nar .boolean s2)) (fun H15 r18 => ∃ a19, (hC (sI H (tg H a1) a1 s1.toNatClampNeg (vp_nar .boolean s2)) 902 a0) = some a19 ∧ (isA H15 a19 5 ∧ (vp_in x1 (ln H15 a19) ∧ (q (sD H15 (tg H15 a19) a19 x1.toNatClampNeg r18))))))))) ∧ (¬ ((hI (sI H (tg H a1) a1 s1.toNatClampNeg (vp_nar .boolean s2)) (tg (sI H (tg H a1) a1 s1.toNatClampNeg (vp_nar .boolean s2)) a5) a5 x1.toNatClampNeg) = 0) → ∃ a22, (hC (sI H (tg H a1) a1 s1.toNatClampNeg (vp_nar .boolean s2)) 902 a0) = some a22 ∧ (isA (sI H (tg H a1) a1 s1.toNatClampNeg (vp_nar .boolean s2)) a22 5 ∧ (vp_in x1 (ln (sI H (tg H a1) a1 s1.toNatClampNeg (vp_nar .boolean s2)) a22) ∧ (q (sD (sI H (tg H a1) a1 s1.toNatClampNeg (vp_nar .boolean s2)) (tg (sI H (tg H a1) a1 s1.toNatClampNeg (vp_nar .boolean s2)) a22) a22 x1.toNatClampNeg FP.dconst0))))))))))))
set_option maxRecDepth 40000 in
set_option maxHeartbeats 4000000 in
theorem T_X8_storeBits_47 {d : Nat} {q : HP → Prop} {a0 : Nat} {x1 : Int32} {o4 : Option Nat} {x5 : Int64} {s0 : Option Nat} {s1 : Int32} {s2 : Int32} {H : HP} (h : wb_X8_storeBits_47 d q a0 x1 o4 x5 s0 s1 s2 H) : WP (d + 1) mX8_storeBits 0 0 47 [(0, rv (some a0)), (1, .int x1), (4, rv o4), (5, .long x5)] [.int s2, .int s1, rv s0] H (qV q) := by
  unfold wb_X8_storeBits_47 at h
  obtain ⟨a1, ha1, h⟩ := h
  obtain ⟨hr2, h⟩ := h
  obtain ⟨hg3, h⟩ := h
  refine wp_zastore dX8_storeBits_47 ha1 hr2 hg3 ?_
  change WP _ _ _ _ _ _ _ (sI H (tg H a1) a1 s1.toNatClampNeg (vp_nar .boolean s2)) _
  refine wp_aload_n 0 dX8_storeBits_48 rfl ?_
  obtain ⟨ht4, h⟩ := h
  refine wp_getC (ci := 8) (j := 2) dX8_storeBits_49 fi_X8_18r rfl rfl ht4 ?_
  change WP _ _ _ _ _ _ (rv (hC (sI H (tg H a1) a1 s1.toNatClampNeg (vp_nar .boolean s2)) 902 a0) :: _) _ _
  refine wp_iload_n 1 dX8_storeBits_52 rfl ?_
  refine wp_aload_n 0 dX8_storeBits_53 rfl ?_
  refine wp_getC (ci := 8) (j := 3) dX8_storeBits_54 fi_X8_22r rfl rfl ht4 ?_
  change WP _ _ _ _ _ _ (rv (hC (sI H (tg H a1) a1 s1.toNatClampNeg (vp_nar .boolean s2)) 903 a0) :: _) _ _
  refine wp_iload_n 1 dX8_storeBits_57 rfl ?_
  obtain ⟨a5, ha5, h⟩ := h
  obtain ⟨hr6, h⟩ := h
  obtain ⟨hg7, h⟩ := h
  refine wp_zaload dX8_storeBits_58 ha5 hr6 hg7 ?_
  refine wp_if_eq (tgt := 66) dX8_storeBits_59 rfl (fun c => ?_) (fun c => ?_)
  · replace h := h.1 c
    refine wp_aload_n 0 dX8_storeBits_66 rfl ?_
    refine wp_getI (ci := 8) (j := 0) dX8_storeBits_67 fi_X8_9r rfl rfl ht4 ?_
    change WP _ _ _ _ _ _ (.int (hI (sI H (tg H a1) a1 s1.toNatClampNeg (vp_nar .boolean s2)) 900 a0 0) :: _) _ _
    refine wp_if_ne (tgt := 83) dX8_storeBits_70 rfl (fun c => ?_) (fun c => ?_)
    · replace h := h.1 c
      refine wp_aload 2 dX8_storeBits_83 rfl ?_
      refine wp_lload 3 dX8_storeBits_85 rfl ?_
      obtain ⟨a9, ha9, h⟩ := h
      obtain ⟨ht10, h⟩ := h
      refine wp_callV (ci := 2) (As := [.long x5]) (rest := [.int x1, rv (hC (sI H (tg H a1) a1 s1.toNatClampNeg (vp_nar .boolean s2)) 902 a0)]) (mc := 0) (ms := 0) dX8_storeBits_87 lk_X8_45 rfl rfl (by simp [rv_cat, vc_int, vc_long, vc_float, vc_double]) ha9 rfl rfl ht10 rfl rfl rfl w_5_105 (Call.weaken h ?_)
      rintro H8 _ ⟨r11, rfl, h⟩
      change WP _ _ _ _ _ _ [.double r11, .int x1, rv (hC (sI H (tg H a1) a1 s1.toNatClampNeg (vp_nar .boolean s2)) 902 a0)] H8 _
      obtain ⟨a12, ha12, h⟩ := h
      obtain ⟨hr13, h⟩ := h
      obtain ⟨hg14, h⟩ := h
      refine wp_dastore dX8_storeBits_90 ha12 hr13 hg14 ?_
      change WP _ _ _ _ _ _ _ (sD H8 (tg H8 a12) a12 x1.toNatClampNeg r11) _
      exact wp_return dX8_storeBits_91 rfl ⟨rfl, h⟩
    · replace h := h.2 c
      refine wp_aload 2 dX8_storeBits_73 rfl ?_
      refine wp_lload 3 dX8_storeBits_75 rfl ?_
      obtain ⟨a16, ha16, h⟩ := h
      obtain ⟨ht17, h⟩ := h
      refine wp_callV (ci := 2) (As := [.long x5]) (rest := [.int x1, rv (hC (sI H (tg H a1) a1 s1.toNatClampNeg (vp_nar .boolean s2)) 902 a0)]) (mc := 0) (ms := 0) dX8_storeBits_77 lk_X8_41 rfl rfl (by simp [rv_cat, vc_int, vc_long, vc_float, vc_double]) ha16 rfl rfl ht17 rfl rfl rfl w_5_97 (Call.weaken h ?_)
      rintro H15 _ ⟨r18, rfl, h⟩
      change WP _ _ _ _ _ _ [.double r18, .int x1, rv (hC (sI H (tg H a1) a1 s1.toNatClampNeg (vp_nar .boolean s2)) 902 a0)] H15 _
      refine wp_goto (tgt := 90) dX8_storeBits_80 rfl ?_
      obtain ⟨a19, ha19, h⟩ := h
      obtain ⟨hr20, h⟩ := h
      obtain ⟨hg21, h⟩ := h
      refine wp_dastore dX8_storeBits_90 ha19 hr20 hg21 ?_
      change WP _ _ _ _ _ _ _ (sD H15 (tg H15 a19) a19 x1.toNatClampNeg r18) _
      exact wp_return dX8_storeBits_91 rfl ⟨rfl, h⟩
  · replace h := h.2 c
    refine wp_dconst0 dX8_storeBits_62 ?_
    refine wp_goto (tgt := 90) dX8_storeBits_63 rfl ?_
    obtain ⟨a22, ha22, h⟩ := h
    obtain ⟨hr23, h⟩ := h
    obtain ⟨hg24, h⟩ := h
    refine wp_dastore dX8_storeBits_90 ha22 hr23 hg24 ?_
    change WP _ _ _ _ _ _ _ (sD (sI H (tg H a1) a1 s1.toNatClampNeg (vp_nar .boolean s2)) (tg (sI H (tg H a1) a1 s1.toNatClampNeg (vp_nar .boolean s2)) a22) a22 x1.toNatClampNeg FP.dconst0) _
    exact wp_return dX8_storeBits_91 rfl ⟨rfl, h⟩
def wb_X8_storeBits_0 (d : Nat) (q : HP → Prop) (a0 : Nat) (x1 : Int32) (x2 : Int64) (o4 : Option Nat) (H : HP) : Prop :=
  tg H a0 = 9 ∧ ((¬ (hI H 900 a0 0) = 0 → (¬ (hI H 900 a0 0) = 0 → ∃ a3, o4 = some a3 ∧ (tg H a3 = 3 ∧ (CZ d 0 0 mX2_isNoDouble [rv o4, .long x2] H (fun H2 b5 => wb_X8_storeBits_47 d q a0 x1 o4 x2 (hC H 903 a0) x1 (bI b5) H2)))) ∧ ((hI H 900 a0 0) = 0 → ∃ a7, o4 = some a7 ∧ (tg H a7 = 3 ∧ (CZ d 0 0 mX2_isNoFloat [rv o4, .long x2] H (fun H6 b9 => wb_X8_storeBits_47 d q a0 x1 o4 x2 (hC H 903 a0) x1 (bI b9) H6))))) ∧ ((hI H 900 a0 0) = 0 → (¬ (hI H 900 a0 0) = 0 → ∃ a11, o4 = some a11 ∧ (tg H a11 = 3 ∧ (CZ d 0 0 mX2_isNoDouble [rv o4, .long (x2 &&& (4294967295 : Int64))] H (fun H10 b13 => wb_X8_storeBits_47 d q a0 x1 o4 (x2 &&& (4294967295 : Int64)) (hC H 903 a0) x1 (bI b13) H10)))) ∧ ((hI H 900 a0 0) = 0 → ∃ a15, o4 = some a15 ∧ (tg H a15 = 3 ∧ (CZ d 0 0 mX2_isNoFloat [rv o4, .long (x2 &&& (4294967295 : Int64))] H (fun H14 b17 => wb_X8_storeBits_47 d q a0 x1 o4 (x2 &&& (4294967295 : Int64)) (hC H 903 a0) x1 (bI b17) H14))))))
set_option maxRecDepth 40000 in
set_option maxHeartbeats 4000000 in
theorem T_X8_storeBits_0 {d : Nat} {q : HP → Prop} {a0 : Nat} {x1 : Int32} {x2 : Int64} {o4 : Option Nat} {H : HP} (h : wb_X8_storeBits_0 d q a0 x1 x2 o4 H) : WP (d + 1) mX8_storeBits 0 0 0 [(0, rv (some a0)), (1, .int x1), (2, .long x2), (4, rv o4)] [] H (qV q) := by
  unfold wb_X8_storeBits_0 at h
  refine wp_aload_n 0 dX8_storeBits_0 rfl ?_
  obtain ⟨ht1, h⟩ := h
  refine wp_getI (ci := 8) (j := 0) dX8_storeBits_1 fi_X8_9r rfl rfl ht1 ?_
  change WP _ _ _ _ _ _ (.int (hI H 900 a0 0) :: _) _ _
  refine wp_if_ne (tgt := 15) dX8_storeBits_4 rfl (fun c => ?_) (fun c => ?_)
  · replace h := h.1 c
    refine wp_lload_n 2 dX8_storeBits_15 rfl ?_
    refine wp_lstore (ls' := [(5, .long x2), (0, rv (some a0)), (1, .int x1), (2, .long x2), (4, rv o4)]) dX8_storeBits_16 (by decide) (by change st2 _ 5 _ = _; simp [st2, rv_cat, vc_int, vc_long, vc_float, vc_double]) ?_
    refine wp_aload_n 1 dX8_storeBits_18 rfl ?_
    refine wp_getC (ci := 8) (j := 3) dX8_storeBits_19 fi_X8_22r rfl rfl ht1 ?_
    change WP _ _ _ _ _ _ (rv (hC H 903 a0) :: _) _ _
    refine wp_iload_n 2 dX8_storeBits_22 rfl ?_
    refine wp_aload_n 1 dX8_storeBits_23 rfl ?_
    refine wp_getI (ci := 8) (j := 0) dX8_storeBits_24 fi_X8_9r rfl rfl ht1 ?_
    change WP _ _ _ _ _ _ (.int (hI H 900 a0 0) :: _) _ _
    refine wp_if_ne (tgt := 40) dX8_storeBits_27 rfl (fun c => ?_) (fun c => ?_)
    · replace h := h.1 c
      refine wp_aload 4 dX8_storeBits_40 rfl ?_
      refine wp_lload 0 dX8_storeBits_42 rfl ?_
      obtain ⟨a3, ha3, h⟩ := h
      obtain ⟨ht4, h⟩ := h
      refine wp_callV (ci := 2) (As := [.long x2]) (rest := [.int x1, rv (hC H 903 a0)]) (mc := 0) (ms := 0) dX8_storeBits_44 lk_X8_38 rfl rfl (by simp [rv_cat, vc_int, vc_long, vc_float, vc_double]) ha3 rfl rfl ht4 rfl rfl rfl w_5_93 (Call.weaken h ?_)
      rintro H2 _ ⟨b5, rfl, h⟩
      change WP _ _ _ _ _ _ [.int (bI b5), .int x1, rv (hC H 903 a0)] H2 _
      refine wp_sub (ls' := [(0, rv (some a0)), (1, .int x1), (4, rv o4), (5, .long x2)]) [1, 2, 4, 0] rfl ?_
      exact T_X8_storeBits_47 h
    · replace h := h.2 c
      refine wp_aload 4 dX8_storeBits_30 rfl ?_
      refine wp_lload 0 dX8_storeBits_32 rfl ?_
      obtain ⟨a7, ha7, h⟩ := h
      obtain ⟨ht8, h⟩ := h
      refine wp_callV (ci := 2) (As := [.long x2]) (rest := [.int x1, rv (hC H 903 a0)]) (mc := 0) (ms := 0) dX8_storeBits_34 lk_X8_32 rfl rfl (by simp [rv_cat, vc_int, vc_long, vc_float, vc_double]) ha7 rfl rfl ht8 rfl rfl rfl w_5_86 (Call.weaken h ?_)
      rintro H6 _ ⟨b9, rfl, h⟩
      change WP _ _ _ _ _ _ [.int (bI b9), .int x1, rv (hC H 903 a0)] H6 _
      refine wp_goto (tgt := 47) dX8_storeBits_37 rfl ?_
      refine wp_sub (ls' := [(0, rv (some a0)), (1, .int x1), (4, rv o4), (5, .long x2)]) [1, 2, 4, 0] rfl ?_
      exact T_X8_storeBits_47 h
  · replace h := h.2 c
    refine wp_lload_n 2 dX8_storeBits_7 rfl ?_
    refine wp_ldc2 dX8_storeBits_8 w_5_85 ?_
    refine wp_land dX8_storeBits_11 ?_
    refine wp_goto (tgt := 16) dX8_storeBits_12 rfl ?_
    refine wp_lstore (ls' := [(5, .long (x2 &&& (4294967295 : Int64))), (0, rv (some a0)), (1, .int x1), (2, .long x2), (4, rv o4)]) dX8_storeBits_16 (by decide) (by change st2 _ 5 _ = _; simp [st2, rv_cat, vc_int, vc_long, vc_float, vc_double]) ?_
    refine wp_aload_n 1 dX8_storeBits_18 rfl ?_
    refine wp_getC (ci := 8) (j := 3) dX8_storeBits_19 fi_X8_22r rfl rfl ht1 ?_
    change WP _ _ _ _ _ _ (rv (hC H 903 a0) :: _) _ _
    refine wp_iload_n 2 dX8_storeBits_22 rfl ?_
    refine wp_aload_n 1 dX8_storeBits_23 rfl ?_
    refine wp_getI (ci := 8) (j := 0) dX8_storeBits_24 fi_X8_9r rfl rfl ht1 ?_
    change WP _ _ _ _ _ _ (.int (hI H 900 a0 0) :: _) _ _
    refine wp_if_ne (tgt := 40) dX8_storeBits_27 rfl (fun c => ?_) (fun c => ?_)
    · replace h := h.1 c
      refine wp_aload 4 dX8_storeBits_40 rfl ?_
      refine wp_lload 0 dX8_storeBits_42 rfl ?_
      obtain ⟨a11, ha11, h⟩ := h
      obtain ⟨ht12, h⟩ := h
      refine wp_callV (ci := 2) (As := [.long (x2 &&& (4294967295 : Int64))]) (rest := [.int x1, rv (hC H 903 a0)]) (mc := 0) (ms := 0) dX8_storeBits_44 lk_X8_38 rfl rfl (by simp [rv_cat, vc_int, vc_long, vc_float, vc_double]) ha11 rfl rfl ht12 rfl rfl rfl w_5_93 (Call.weaken h ?_)
      rintro H10 _ ⟨b13, rfl, h⟩
      change WP _ _ _ _ _ _ [.int (bI b13), .int x1, rv (hC H 903 a0)] H10 _
      refine wp_sub (ls' := [(0, rv (some a0)), (1, .int x1), (4, rv o4), (5, .long (x2 &&& (4294967295 : Int64)))]) [1, 2, 4, 0] rfl ?_
      exact T_X8_storeBits_47 h
    · replace h := h.2 c
      refine wp_aload 4 dX8_storeBits_30 rfl ?_
      refine wp_lload 0 dX8_storeBits_32 rfl ?_
      obtain ⟨a15, ha15, h⟩ := h
      obtain ⟨ht16, h⟩ := h
      refine wp_callV (ci := 2) (As := [.long (x2 &&& (4294967295 : Int64))]) (rest := [.int x1, rv (hC H 903 a0)]) (mc := 0) (ms := 0) dX8_storeBits_34 lk_X8_32 rfl rfl (by simp [rv_cat, vc_int, vc_long, vc_float, vc_double]) ha15 rfl rfl ht16 rfl rfl rfl w_5_86 (Call.weaken h ?_)
      rintro H14 _ ⟨b17, rfl, h⟩
      change WP _ _ _ _ _ _ [.int (bI b17), .int x1, rv (hC H 903 a0)] H14 _
      refine wp_goto (tgt := 47) dX8_storeBits_37 rfl ?_
      refine wp_sub (ls' := [(0, rv (some a0)), (1, .int x1), (4, rv o4), (5, .long (x2 &&& (4294967295 : Int64)))]) [1, 2, 4, 0] rfl ?_
      exact T_X8_storeBits_47 h
theorem C_X8_storeBits {d : Nat} {q : HP → Prop} {a0 : Nat} {x1 : Int32} {x2 : Int64} {o4 : Option Nat} {H : HP} (h : wb_X8_storeBits_0 d q a0 x1 x2 o4 H) : CV (d + 1) 0 0 mX8_storeBits [rv (some a0), .int x1, .long x2, rv o4] H q := by
  refine call_of (by decide +kernel) (by simp [lg_sl, rv_cat, vc_int, vc_long, vc_float, vc_double]) ?_
  have e : lv_args 0 [rv (some a0), .int x1, .long x2, rv o4] = [(0, rv (some a0)), (1, .int x1), (2, .long x2), (4, rv o4)] := by simp [lv_args, rv_cat, vc_int, vc_long, vc_float, vc_double]
  rw [e]
  exact T_X8_storeBits_0 h
/-- UnitProver$Track.sumBits(LUnitProver$FloatBits;)J: the loop at 5 -/
def L_X8_sumBits_5 (d : Nat) (q : HP → Int64 → Prop) (a0 : Nat) (o1 : Option Nat) (x2 : UInt64) (x4 : Int32) (H : HP) : Prop := WP (d + 1) mX8_sumBits 0 0 5 [(0, rv (some a0)), (1, rv o1), (2, .double x2), (4, .int x4)] [] H (qJ q)
def wb_X8_sumBits_0 (d : Nat) (q : HP → Int64 → Prop) (a0 : Nat) (o1 : Option Nat) (H : HP) : Prop :=
  L_X8_sumBits_5 d q a0 o1 FP.dconst0 (0 : Int32) H
set_option maxRecDepth 40000 in
set_option maxHeartbeats 4000000 in
theorem T_X8_sumBits_0 {d : Nat} {q : HP → Int64 → Prop} {a0 : Nat} {o1 : Option Nat} {H : HP} (h : wb_X8_sumBits_0 d q a0 o1 H) : WP (d + 1) mX8_sumBits 0 0 0 [(0, rv (some a0)), (1, rv o1)] [] H (qJ q) := by
  unfold wb_X8_sumBits_0 at h
  refine wp_dconst0 dX8_sumBits_0 ?_
  refine wp_dstore_n (ls' := [(2, .double FP.dconst0), (0, rv (some a0)), (1, rv o1)]) dX8_sumBits_1 (by decide) (by change st2 _ 2 _ = _; simp [st2, rv_cat, vc_int, vc_long, vc_float, vc_double]) ?_
  refine wp_iconst (v := (0 : Int32)) dX8_sumBits_2 (by decide) ?_
  refine wp_istore (ls' := [(4, .int (0 : Int32)), (2, .double FP.dconst0), (0, rv (some a0)), (1, rv o1)]) dX8_sumBits_3 (by decide) rfl ?_
  refine wp_sub (ls' := [(0, rv (some a0)), (1, rv o1), (2, .double FP.dconst0), (4, .int (0 : Int32))]) [2, 3, 1, 0] rfl ?_
  exact h
def wb_X8_sumBits_5 (d : Nat) (q : HP → Int64 → Prop) (a0 : Nat) (o1 : Option Nat) (x2 : UInt64) (x4 : Int32) (H : HP) : Prop :=
  tg H a0 = 9 ∧ (((hI H 901 a0 0) ≤ x4 → CJ d 0 0 mX8_bitsOf [rv (some a0), .double x2, .int (0 : Int32), rv o1] H (fun H2 r3 => q H2 r3)) ∧ (¬ ((hI H 901 a0 0) ≤ x4) → ((30 : Int32) ≤ x4 → CJ d 0 0 mX8_bitsOf [rv (some a0), .double x2, .int (0 : Int32), rv o1] H (fun H4 r5 => q H4 r5)) ∧ (¬ ((30 : Int32) ≤ x4) → ∃ a6, (hC H 903 a0) = some a6 ∧ (isA H a6 2 ∧ (vp_in x4 (ln H a6) ∧ ((¬ (hI H (tg H a6) a6 x4.toNatClampNeg) = 0 → CJ d 0 0 mX8_bitsOf [rv (some a0), .double FP.dconst0, .int (1 : Int32), rv o1] H (fun H9 r10 => q H9 r10)) ∧ ((hI H (tg H a6) a6 x4.toNatClampNeg) = 0 → ∃ a12, o1 = some a12 ∧ (tg H a12 = 3 ∧ (CZ d 0 0 mX2_isEndless [rv o1, .double x2] H (fun H11 b14 => (b14 = false → tg H11 a0 = 9 ∧ ((¬ (hI H11 900 a0 0) = 0 → ∃ a16, (hC H11 902 a0) = some a16 ∧ (isA H11 a16 5 ∧ (vp_in x4 (ln H11 a16) ∧ (∀ r19, alike64 r19 (FP.dadd x2 (hD H11 (tg H11 a16) a16 x4.toNatClampNeg)) = true → (L_X8_sumBits_5 d q a0 o1 r19 (x4 + 1) H11))))) ∧ ((hI H11 900 a0 0) = 0 → ∀ r20, alike32 r20 (FP.d2f x2) = true → (∃ a21, (hC H11 902 a0) = some a21 ∧ (isA H11 a21 5 ∧ (vp_in x4 (ln H11 a21) ∧ (∀ r24, alike32 r24 (FP.d2f (hD H11 (tg H11 a21) a21 x4.toNatClampNeg)) = true → (∀ r25, alike32 r25 (FP.fadd r20 r24) = true → (∀ r26, alike64 r26 (FP.f2d r25) = true → (L_X8_sumBits_5 d q a0 o1 r26 (x4 + 1) H11)))))))))) ∧ (b14 = true → tg H11 a0 = 9 ∧ (∃ a28, (hC H11 902 a0) = some a28 ∧ (isA H11 a28 5 ∧ (vp_in x4 (ln H11 a28) ∧ ((¬ (Op.cmpValue (FP.dcmp (hD H11 (tg H11 a28) a28 x4.toNatClampNeg) (FP.dneg x2)) .l) = 0 → (¬ (hI H11 900 a0 0) = 0 → vp_in x4 (ln H11 a28) ∧ (∀ r32, alike64 r32 (FP.dadd x2 (hD H11 (tg H11 a28) a28 x4.toNatClampNeg)) = true → (L_X8_sumBits_5 d q a0 o1 r32 (x4 + 1) H11))) ∧ ((hI H11 900 a0 0) = 0 → ∀ r33, alike32 r33 (FP.d2f x2) = true → (vp_in x4 (ln H11 a28) ∧ (∀ r35, alike32 r35 (FP.d2f (hD H11 (tg H11 a28) a28 x4.toNatClampNeg)) = true → (∀ r36, alike32 r36 (FP.fadd r33 r35) = true → (∀ r37, alike64 r37 (FP.f2d r36) = true → (L_X8_sumBits_5 d q a0 o1 r37 (x4 + 1) H11))))))) ∧ ((Op.cmpValue (FP.dcmp (hD H11 (tg H11 a28) a28 x4.toNatClampNeg) (FP.dneg x2)) .l) = 0 → CJ d 0 0 mX8_bitsOf [rv (some a0), .double FP.dconst0, .int (1 : Int32), rv o1] H11 (fun H38 r39 => q H38 r39)))))))))))))))))
set_option maxRecDepth 40000 in
set_option maxHeartbeats 4000000 in
theorem T_X8_sumBits_5 {d : Nat} {q : HP → Int64 → Prop} {a0 : Nat} {o1 : Option Nat} {x2 : UInt64} {x4 : Int32} {H : HP} (h : wb_X8_sumBits_5 d q a0 o1 x2 x4 H) : L_X8_sumBits_5 d q a0 o1 x2 x4 H := by
  unfold wb_X8_sumBits_5 at h
  unfold L_X8_sumBits_5
  refine wp_iload 3 dX8_sumBits_5 rfl ?_
  refine wp_aload_n 0 dX8_sumBits_7 rfl ?_
  obtain ⟨ht1, h⟩ := h
  refine wp_getI (ci := 8) (j := 1) dX8_sumBits_8 fi_X8_15r rfl rfl ht1 ?_
  change WP _ _ _ _ _ _ (.int (hI H 901 a0 0) :: _) _ _
  refine wp_icmp_ge (tgt := 98) dX8_sumBits_11 rfl (fun c => ?_) (fun c => ?_)
  · replace h := h.1 c
    refine wp_aload_n 0 dX8_sumBits_98 rfl ?_
    refine wp_dload_n 2 dX8_sumBits_99 rfl ?_
    refine wp_iconst (v := (0 : Int32)) dX8_sumBits_100 (by decide) ?_
    refine wp_aload_n 1 dX8_sumBits_101 rfl ?_
    refine wp_callV (ci := 8) (As := [.double x2, .int (0 : Int32), rv o1]) (rest := []) (mc := 0) (ms := 0) dX8_sumBits_102 lk_X8_96 rfl rfl (by decide) rfl rfl rfl ht1 rfl rfl rfl w_5_147 (Call.weaken h ?_)
    rintro H2 _ ⟨r3, rfl, h⟩
    change WP _ _ _ _ _ _ [.long r3] H2 _
    exact wp_lreturn dX8_sumBits_105 rfl ⟨_, rfl, h⟩
  · replace h := h.2 c
    refine wp_iload 3 dX8_sumBits_14 rfl ?_
    refine wp_bipush (v := (30 : Int32)) dX8_sumBits_16 (by decide) ?_
    refine wp_icmp_ge (tgt := 98) dX8_sumBits_18 rfl (fun c => ?_) (fun c => ?_)
    · replace h := h.1 c
      refine wp_aload_n 0 dX8_sumBits_98 rfl ?_
      refine wp_dload_n 2 dX8_sumBits_99 rfl ?_
      refine wp_iconst (v := (0 : Int32)) dX8_sumBits_100 (by decide) ?_
      refine wp_aload_n 1 dX8_sumBits_101 rfl ?_
      refine wp_callV (ci := 8) (As := [.double x2, .int (0 : Int32), rv o1]) (rest := []) (mc := 0) (ms := 0) dX8_sumBits_102 lk_X8_96 rfl rfl (by decide) rfl rfl rfl ht1 rfl rfl rfl w_5_147 (Call.weaken h ?_)
      rintro H4 _ ⟨r5, rfl, h⟩
      change WP _ _ _ _ _ _ [.long r5] H4 _
      exact wp_lreturn dX8_sumBits_105 rfl ⟨_, rfl, h⟩
    · replace h := h.2 c
      refine wp_aload_n 0 dX8_sumBits_21 rfl ?_
      refine wp_getC (ci := 8) (j := 3) dX8_sumBits_22 fi_X8_22r rfl rfl ht1 ?_
      change WP _ _ _ _ _ _ (rv (hC H 903 a0) :: _) _ _
      refine wp_iload 3 dX8_sumBits_25 rfl ?_
      obtain ⟨a6, ha6, h⟩ := h
      obtain ⟨hr7, h⟩ := h
      obtain ⟨hg8, h⟩ := h
      refine wp_zaload dX8_sumBits_27 ha6 hr7 hg8 ?_
      refine wp_if_ne (tgt := 52) dX8_sumBits_28 rfl (fun c => ?_) (fun c => ?_)
      · replace h := h.1 c
        refine wp_aload_n 0 dX8_sumBits_52 rfl ?_
        refine wp_dconst0 dX8_sumBits_53 ?_
        refine wp_iconst (v := (1 : Int32)) dX8_sumBits_54 (by decide) ?_
        refine wp_aload_n 1 dX8_sumBits_55 rfl ?_
        refine wp_callV (ci := 8) (As := [.double FP.dconst0, .int (1 : Int32), rv o1]) (rest := []) (mc := 0) (ms := 0) dX8_sumBits_56 lk_X8_96 rfl rfl (by decide) rfl rfl rfl ht1 rfl rfl rfl w_5_147 (Call.weaken h ?_)
        rintro H9 _ ⟨r10, rfl, h⟩
        change WP _ _ _ _ _ _ [.long r10] H9 _
        exact wp_lreturn dX8_sumBits_59 rfl ⟨_, rfl, h⟩
      · replace h := h.2 c
        refine wp_aload_n 1 dX8_sumBits_31 rfl ?_
        refine wp_dload_n 2 dX8_sumBits_32 rfl ?_
        obtain ⟨a12, ha12, h⟩ := h
        obtain ⟨ht13, h⟩ := h
        refine wp_callV (ci := 2) (As := [.double x2]) (rest := []) (mc := 0) (ms := 0) dX8_sumBits_33 lk_X8_92 rfl rfl (by decide) ha12 rfl rfl ht13 rfl rfl rfl w_5_143 (Call.weaken h ?_)
        rintro H11 _ ⟨b14, rfl, h⟩
        change WP _ _ _ _ _ _ [.int (bI b14)] H11 _
        refine wp_if_eq (tgt := 60) dX8_sumBits_36 rfl (fun c => ?_) (fun c => ?_)
        · replace h := h.1 (bI_0.mp c)
          refine wp_aload_n 0 dX8_sumBits_60 rfl ?_
          obtain ⟨ht15, h⟩ := h
          refine wp_getI (ci := 8) (j := 0) dX8_sumBits_61 fi_X8_9r rfl rfl ht15 ?_
          change WP _ _ _ _ _ _ (.int (hI H11 900 a0 0) :: _) _ _
          refine wp_if_ne (tgt := 82) dX8_sumBits_64 rfl (fun c => ?_) (fun c => ?_)
          · replace h := h.1 c
            refine wp_dload_n 2 dX8_sumBits_82 rfl ?_
            refine wp_aload_n 0 dX8_sumBits_83 rfl ?_
            refine wp_getC (ci := 8) (j := 2) dX8_sumBits_84 fi_X8_18r rfl rfl ht15 ?_
            change WP _ _ _ _ _ _ (rv (hC H11 902 a0) :: _) _ _
            refine wp_iload 3 dX8_sumBits_87 rfl ?_
            obtain ⟨a16, ha16, h⟩ := h
            obtain ⟨hr17, h⟩ := h
            obtain ⟨hg18, h⟩ := h
            refine wp_daload dX8_sumBits_89 ha16 hr17 hg18 ?_
            refine wp_dadd dX8_sumBits_90 (fun r19 hr19 => ?_)
            replace h := h r19 hr19
            refine wp_dstore_n (ls' := [(2, .double r19), (0, rv (some a0)), (1, rv o1), (4, .int x4)]) dX8_sumBits_91 (by decide) (by change st2 _ 2 _ = _; simp [st2, rv_cat, vc_int, vc_long, vc_float, vc_double]) ?_
            refine wp_iinc (v := (x4 + 1)) (ls' := [(4, .int (x4 + 1)), (2, .double r19), (0, rv (some a0)), (1, rv o1)]) 3 dX8_sumBits_92 rfl rfl (by decide) rfl ?_
            refine wp_goto (tgt := 5) dX8_sumBits_95 rfl ?_
            refine wp_sub (ls' := [(0, rv (some a0)), (1, rv o1), (2, .double r19), (4, .int (x4 + 1))]) [2, 3, 1, 0] rfl ?_
            exact h
          · replace h := h.2 c
            refine wp_dload_n 2 dX8_sumBits_67 rfl ?_
            refine wp_d2f dX8_sumBits_68 (fun r20 hr20 => ?_)
            replace h := h r20 hr20
            refine wp_aload_n 0 dX8_sumBits_69 rfl ?_
            refine wp_getC (ci := 8) (j := 2) dX8_sumBits_70 fi_X8_18r rfl rfl ht15 ?_
            change WP _ _ _ _ _ _ (rv (hC H11 902 a0) :: _) _ _
            refine wp_iload 3 dX8_sumBits_73 rfl ?_
            obtain ⟨a21, ha21, h⟩ := h
            obtain ⟨hr22, h⟩ := h
            obtain ⟨hg23, h⟩ := h
            refine wp_daload dX8_sumBits_75 ha21 hr22 hg23 ?_
            refine wp_d2f dX8_sumBits_76 (fun r24 hr24 => ?_)
            replace h := h r24 hr24
            refine wp_fadd dX8_sumBits_77 (fun r25 hr25 => ?_)
            replace h := h r25 hr25
            refine wp_f2d dX8_sumBits_78 (fun r26 hr26 => ?_)
            replace h := h r26 hr26
            refine wp_goto (tgt := 91) dX8_sumBits_79 rfl ?_
            refine wp_dstore_n (ls' := [(2, .double r26), (0, rv (some a0)), (1, rv o1), (4, .int x4)]) dX8_sumBits_91 (by decide) (by change st2 _ 2 _ = _; simp [st2, rv_cat, vc_int, vc_long, vc_float, vc_double]) ?_
            refine wp_iinc (v := (x4 + 1)) (ls' := [(4, .int (x4 + 1)), (2, .double r26), (0, rv (some a0)), (1, rv o1)]) 3 dX8_sumBits_92 rfl rfl (by decide) rfl ?_
            refine wp_goto (tgt := 5) dX8_sumBits_95 rfl ?_
            refine wp_sub (ls' := [(0, rv (some a0)), (1, rv o1), (2, .double r26), (4, .int (x4 + 1))]) [2, 3, 1, 0] rfl ?_
            exact h
        · replace h := h.2 (bI_1.mp c)
          refine wp_aload_n 0 dX8_sumBits_39 rfl ?_
          obtain ⟨ht27, h⟩ := h
          refine wp_getC (ci := 8) (j := 2) dX8_sumBits_40 fi_X8_18r rfl rfl ht27 ?_
          change WP _ _ _ _ _ _ (rv (hC H11 902 a0) :: _) _ _
          refine wp_iload 3 dX8_sumBits_43 rfl ?_
          obtain ⟨a28, ha28, h⟩ := h
          obtain ⟨hr29, h⟩ := h
          obtain ⟨hg30, h⟩ := h
          refine wp_daload dX8_sumBits_45 ha28 hr29 hg30 ?_
          refine wp_dload_n 2 dX8_sumBits_46 rfl ?_
          refine wp_dneg dX8_sumBits_47 ?_
          refine wp_dcmp dX8_sumBits_48 ?_
          refine wp_if_ne (tgt := 60) dX8_sumBits_49 rfl (fun c => ?_) (fun c => ?_)
          · replace h := h.1 c
            refine wp_aload_n 0 dX8_sumBits_60 rfl ?_
            refine wp_getI (ci := 8) (j := 0) dX8_sumBits_61 fi_X8_9r rfl rfl ht27 ?_
            change WP _ _ _ _ _ _ (.int (hI H11 900 a0 0) :: _) _ _
            refine wp_if_ne (tgt := 82) dX8_sumBits_64 rfl (fun c => ?_) (fun c => ?_)
            · replace h := h.1 c
              refine wp_dload_n 2 dX8_sumBits_82 rfl ?_
              refine wp_aload_n 0 dX8_sumBits_83 rfl ?_
              refine wp_getC (ci := 8) (j := 2) dX8_sumBits_84 fi_X8_18r rfl rfl ht27 ?_
              change WP _ _ _ _ _ _ (rv (hC H11 902 a0) :: _) _ _
              refine wp_iload 3 dX8_sumBits_87 rfl ?_
              obtain ⟨hg31, h⟩ := h
              refine wp_daload dX8_sumBits_89 ha28 hr29 hg31 ?_
              refine wp_dadd dX8_sumBits_90 (fun r32 hr32 => ?_)
              replace h := h r32 hr32
              refine wp_dstore_n (ls' := [(2, .double r32), (0, rv (some a0)), (1, rv o1), (4, .int x4)]) dX8_sumBits_91 (by decide) (by change st2 _ 2 _ = _; simp [st2, rv_cat, vc_int, vc_long, vc_float, vc_double]) ?_
              refine wp_iinc (v := (x4 + 1)) (ls' := [(4, .int (x4 + 1)), (2, .double r32), (0, rv (some a0)), (1, rv o1)]) 3 dX8_sumBits_92 rfl rfl (by decide) rfl ?_
              refine wp_goto (tgt := 5) dX8_sumBits_95 rfl ?_
              refine wp_sub (ls' := [(0, rv (some a0)), (1, rv o1), (2, .double r32), (4, .int (x4 + 1))]) [2, 3, 1, 0] rfl ?_
              exact h
            · replace h := h.2 c
              refine wp_dload_n 2 dX8_sumBits_67 rfl ?_
              refine wp_d2f dX8_sumBits_68 (fun r33 hr33 => ?_)
              replace h := h r33 hr33
              refine wp_aload_n 0 dX8_sumBits_69 rfl ?_
              refine wp_getC (ci := 8) (j := 2) dX8_sumBits_70 fi_X8_18r rfl rfl ht27 ?_
              change WP _ _ _ _ _ _ (rv (hC H11 902 a0) :: _) _ _
              refine wp_iload 3 dX8_sumBits_73 rfl ?_
              obtain ⟨hg34, h⟩ := h
              refine wp_daload dX8_sumBits_75 ha28 hr29 hg34 ?_
              refine wp_d2f dX8_sumBits_76 (fun r35 hr35 => ?_)
              replace h := h r35 hr35
              refine wp_fadd dX8_sumBits_77 (fun r36 hr36 => ?_)
              replace h := h r36 hr36
              refine wp_f2d dX8_sumBits_78 (fun r37 hr37 => ?_)
              replace h := h r37 hr37
              refine wp_goto (tgt := 91) dX8_sumBits_79 rfl ?_
              refine wp_dstore_n (ls' := [(2, .double r37), (0, rv (some a0)), (1, rv o1), (4, .int x4)]) dX8_sumBits_91 (by decide) (by change st2 _ 2 _ = _; simp [st2, rv_cat, vc_int, vc_long, vc_float, vc_double]) ?_
              refine wp_iinc (v := (x4 + 1)) (ls' := [(4, .int (x4 + 1)), (2, .double r37), (0, rv (some a0)), (1, rv o1)]) 3 dX8_sumBits_92 rfl rfl (by decide) rfl ?_
              refine wp_goto (tgt := 5) dX8_sumBits_95 rfl ?_
              refine wp_sub (ls' := [(0, rv (some a0)), (1, rv o1), (2, .double r37), (4, .int (x4 + 1))]) [2, 3, 1, 0] rfl ?_
              exact h
          · replace h := h.2 c
            refine wp_aload_n 0 dX8_sumBits_52 rfl ?_
            refine wp_dconst0 dX8_sumBits_53 ?_
            refine wp_iconst (v := (1 : Int32)) dX8_sumBits_54 (by decide) ?_
            refine wp_aload_n 1 dX8_sumBits_55 rfl ?_
            refine wp_callV (ci := 8) (As := [.double FP.dconst0, .int (1 : Int32), rv o1]) (rest := []) (mc := 0) (ms := 0) dX8_sumBits_56 lk_X8_96 rfl rfl (by decide) rfl rfl rfl ht27 rfl rfl rfl w_5_147 (Call.weaken h ?_)
            rintro H38 _ ⟨r39, rfl, h⟩
            change WP _ _ _ _ _ _ [.long r39] H38 _
            exact wp_lreturn dX8_sumBits_59 rfl ⟨_, rfl, h⟩
theorem C_X8_sumBits {d : Nat} {q : HP → Int64 → Prop} {a0 : Nat} {o1 : Option Nat} {H : HP} (h : wb_X8_sumBits_0 d q a0 o1 H) : CJ (d + 1) 0 0 mX8_sumBits [rv (some a0), rv o1] H q := by
  refine call_of (by decide +kernel) (by simp [lg_sl, rv_cat, vc_int, vc_long, vc_float, vc_double]) ?_
  have e : lv_args 0 [rv (some a0), rv o1] = [(0, rv (some a0)), (1, rv o1)] := by simp [lv_args, rv_cat, vc_int, vc_long, vc_float, vc_double]
  rw [e]
  exact T_X8_sumBits_0 h
def wb_X9_copy_0 (d : Nat) (q : HP → Prop) (a0 : Nat) (o1 : Option Nat) (H : HP) : Prop :=
  ∃ a1, o1 = some a1 ∧ (tg H a1 = 10 ∧ (tg H a0 = 10 ∧ (∃ a4, (hC (sI H 1001 a0 0 (hI H 1001 a1 0)) 1000 a1) = some a4 ∧ (isA (sI H 1001 a0 0 (hI H 1001 a1 0)) a4 1 ∧ (∃ a6, (hC (sI H 1001 a0 0 (hI H 1001 a1 0)) 1000 a0) = some a6 ∧ (isA (sI H 1001 a0 0 (hI H 1001 a1 0)) a6 1 ∧ ((0 : Int32).toNatClampNeg + (4 : Int32).toNatClampNeg ≤ ln (sI H 1001 a0 0 (hI H 1001 a1 0)) a4 ∧ ((0 : Int32).toNatClampNeg + (4 : Int32).toNatClampNeg ≤ ln (sI H 1001 a0 0 (hI H 1001 a1 0)) a6 ∧ ((∀ i, i < (4 : Int32).toNatClampNeg → fits .byte (.int (hI (sI H 1001 a0 0 (hI H 1001 a1 0)) (tg (sI H 1001 a0 0 (hI H 1001 a1 0)) a4) a4 ((0 : Int32).toNatClampNeg + i))) = true) ∧ (∀ H11, (fI (sI H 1001 a0 0 (hI H 1001 a1 0)) (tg (sI H 1001 a0 0 (hI H 1001 a1 0)) a6) a6 (va_cpy (hI (sI H 1001 a0 0 (hI H 1001 a1 0)) (tg (sI H 1001 a0 0 (hI H 1001 a1 0)) a4) a4) (hI (sI H 1001 a0 0 (hI H 1001 a1 0)) (tg (sI H 1001 a0 0 (hI H 1001 a1 0)) a6) a6) (0 : Int32).toNatClampNeg (0 : Int32).toNatClampNeg (4 : Int32).toNatClampNeg)) = H11 → (∃ a17, (hC H11 1002 a1) = some a17 ∧ (isA H11 a17 0 ∧ (∃ a19, (hC H11 1002 a0) = some a19 ∧ (isA H11 a19 0 ∧ ((0 : Int32).toNatClampNeg + (5 : Int32).toNatClampNeg ≤ ln H11 a17 ∧ ((0 : Int32).toNatClampNeg + (5 : Int32).toNatClampNeg ≤ ln H11 a19 ∧ (∃ a24, (hC (fI H11 (tg H11 a19) a19 (va_cpy (hI H11 (tg H11 a17) a17) (hI H11 (tg H11 a19) a19) (0 : Int32).toNatClampNeg (0 : Int32).toNatClampNeg (5 : Int32).toNatClampNeg)) 1003 a0) = some a24 ∧ (tg (fI H11 (tg H11 a19) a19 (va_cpy (hI H11 (tg H11 a17) a17) (hI H11 (tg H11 a19) a19) (0 : Int32).toNatClampNeg (0 : Int32).toNatClampNeg (5 : Int32).toNatClampNeg)) a24 = 4 ∧ (CV d 0 0 mX3_copy [rv (hC (fI H11 (tg H11 a19) a19 (va_cpy (hI H11 (tg H11 a17) a17) (hI H11 (tg H11 a19) a19) (0 : Int32).toNatClampNeg (0 : Int32).toNatClampNeg (5 : Int32).toNatClampNeg)) 1003 a0), rv (hC (fI H11 (tg H11 a19) a19 (va_cpy (hI H11 (tg H11 a17) a17) (hI H11 (tg H11 a19) a19) (0 : Int32).toNatClampNeg (0 : Int32).toNatClampNeg (5 : Int32).toNatClampNeg)) 1003 a1)] (fI H11 (tg H11 a19) a19 (va_cpy (hI H11 (tg H11 a17) a17) (hI H11 (tg H11 a19) a19) (0 : Int32).toNatClampNeg (0 : Int32).toNatClampNeg (5 : Int32).toNatClampNeg)) (fun H23 => tg H23 a0 = 10 ∧ (tg H23 a1 = 10 ∧ (∃ a29, (hC H23 1004 a0) = some a29 ∧ (tg H23 a29 = 4 ∧ (CV d 0 0 mX3_copy [rv (hC H23 1004 a0), rv (hC H23 1004 a1)] H23 (fun H28 => q H28)))))))))))))))))))))))))
set_option maxRecDepth 40000 in
set_option maxHeartbeats 4000000 in
theorem T_X9_copy_0 {d : Nat} {q : HP → Prop} {a0 : Nat} {o1 : Option Nat} {H : HP} (h : wb_X9_copy_0 d q a0 o1 H) : WP (d + 1) mX9_copy 0 0 0 [(0, rv (some a0)), (1, rv o1)] [] H (qV q) := by
  unfold wb_X9_copy_0 at h
  refine wp_aload_n 0 dX9_copy_0 rfl ?_
  refine wp_aload_n 1 dX9_copy_1 rfl ?_
  obtain ⟨a1, ha1, h⟩ := h
  obtain ⟨ht2, h⟩ := h
  refine wp_getI (ci := 9) (j := 1) dX9_copy_2 fi_X9_17r rfl ha1 ht2 ?_
  change WP _ _ _ _ _ _ (.int (hI H 1001 a1 0) :: _) _ _
  obtain ⟨ht3, h⟩ := h
  refine wp_putI (ci := 9) (j := 1) dX9_copy_5 fi_X9_17 rfl (fun z => by cases z) rfl ht3 rfl rfl ?_
  change WP _ _ _ _ _ _ _ (sI H 1001 a0 0 (hI H 1001 a1 0)) _
  refine wp_aload_n 1 dX9_copy_8 rfl ?_
  refine wp_getC (ci := 9) (j := 0) dX9_copy_9 fi_X9_11r rfl ha1 ht2 ?_
  change WP _ _ _ _ _ _ (rv (hC (sI H 1001 a0 0 (hI H 1001 a1 0)) 1000 a1) :: _) _ _
  refine wp_iconst (v := (0 : Int32)) dX9_copy_12 (by decide) ?_
  refine wp_aload_n 0 dX9_copy_13 rfl ?_
  refine wp_getC (ci := 9) (j := 0) dX9_copy_14 fi_X9_11r rfl rfl ht3 ?_
  change WP _ _ _ _ _ _ (rv (hC (sI H 1001 a0 0 (hI H 1001 a1 0)) 1000 a0) :: _) _ _
  refine wp_iconst (v := (0 : Int32)) dX9_copy_17 (by decide) ?_
  refine wp_iconst (v := (4 : Int32)) dX9_copy_18 (by decide) ?_
  obtain ⟨a4, ha4, h⟩ := h
  obtain ⟨hr5, h⟩ := h
  obtain ⟨a6, ha6, h⟩ := h
  obtain ⟨hr7, h⟩ := h
  obtain ⟨hg8, h⟩ := h
  obtain ⟨hg9, h⟩ := h
  obtain ⟨hg10, h⟩ := h
  refine wp_copyI1 dX9_copy_19 w_3_132 w_3_134 w_3_133 w_1_19 ha4 hr5 ha6 hr7 (by decide) (by decide) (by decide) hg8 hg9 hg10 (by decide) (by omega) ?_
  replace h := h _ rfl
  generalize e12 : (fI (sI H 1001 a0 0 (hI H 1001 a1 0)) (tg (sI H 1001 a0 0 (hI H 1001 a1 0)) a6) a6 (va_cpy (hI (sI H 1001 a0 0 (hI H 1001 a1 0)) (tg (sI H 1001 a0 0 (hI H 1001 a1 0)) a4) a4) (hI (sI H 1001 a0 0 (hI H 1001 a1 0)) (tg (sI H 1001 a0 0 (hI H 1001 a1 0)) a6) a6) (0 : Int32).toNatClampNeg (0 : Int32).toNatClampNeg (4 : Int32).toNatClampNeg)) = H11 at h ⊢
  have ht13 : tg H11 a1 = 10 := by rw [← e12]; exact ht2
  have ht14 : tg H11 a0 = 10 := by rw [← e12]; exact ht3
  have hr15 : isA H11 a4 1 := by rw [← e12]; exact hr5
  have hr16 : isA H11 a6 1 := by rw [← e12]; exact hr7
  refine wp_aload_n 1 dX9_copy_22 rfl ?_
  refine wp_getC (ci := 9) (j := 2) dX9_copy_23 fi_X9_21r rfl ha1 ht13 ?_
  change WP _ _ _ _ _ _ (rv (hC H11 1002 a1) :: _) _ _
  refine wp_iconst (v := (0 : Int32)) dX9_copy_26 (by decide) ?_
  refine wp_aload_n 0 dX9_copy_27 rfl ?_
  refine wp_getC (ci := 9) (j := 2) dX9_copy_28 fi_X9_21r rfl rfl ht14 ?_
  change WP _ _ _ _ _ _ (rv (hC H11 1002 a0) :: _) _ _
  refine wp_iconst (v := (0 : Int32)) dX9_copy_31 (by decide) ?_
  refine wp_iconst (v := (5 : Int32)) dX9_copy_32 (by decide) ?_
  obtain ⟨a17, ha17, h⟩ := h
  obtain ⟨hr18, h⟩ := h
  obtain ⟨a19, ha19, h⟩ := h
  obtain ⟨hr20, h⟩ := h
  obtain ⟨hg21, h⟩ := h
  obtain ⟨hg22, h⟩ := h
  refine wp_copyI0 dX9_copy_33 w_3_132 w_3_134 w_3_133 w_1_19 ha17 hr18 ha19 hr20 (by decide) (by decide) (by decide) hg21 hg22 (by decide) (by omega) ?_
  refine wp_aload_n 0 dX9_copy_36 rfl ?_
  refine wp_getC (ci := 9) (j := 3) dX9_copy_37 fi_X9_28r rfl rfl ht14 ?_
  change WP _ _ _ _ _ _ (rv (hC (fI H11 (tg H11 a19) a19 (va_cpy (hI H11 (tg H11 a17) a17) (hI H11 (tg H11 a19) a19) (0 : Int32).toNatClampNeg (0 : Int32).toNatClampNeg (5 : Int32).toNatClampNeg)) 1003 a0) :: _) _ _
  refine wp_aload_n 1 dX9_copy_40 rfl ?_
  refine wp_getC (ci := 9) (j := 3) dX9_copy_41 fi_X9_28r rfl ha1 ht13 ?_
  change WP _ _ _ _ _ _ (rv (hC (fI H11 (tg H11 a19) a19 (va_cpy (hI H11 (tg H11 a17) a17) (hI H11 (tg H11 a19) a19) (0 : Int32).toNatClampNeg (0 : Int32).toNatClampNeg (5 : Int32).toNatClampNeg)) 1003 a1) :: _) _ _
  obtain ⟨a24, ha24, h⟩ := h
  obtain ⟨ht25, h⟩ := h
  refine wp_callV (ci := 3) (As := [rv (hC (fI H11 (tg H11 a19) a19 (va_cpy (hI H11 (tg H11 a17) a17) (hI H11 (tg H11 a19) a19) (0 : Int32).toNatClampNeg (0 : Int32).toNatClampNeg (5 : Int32).toNatClampNeg)) 1003 a1)]) (rest := []) (mc := 0) (ms := 0) dX9_copy_44 lk_X9_62 rfl rfl (by decide) ha24 rfl rfl ht25 rfl rfl rfl w_3_143 (Call.weaken h ?_)
  rintro H23 _ ⟨rfl, h⟩
  change WP _ _ _ _ _ _ [] H23 _
  refine wp_aload_n 0 dX9_copy_47 rfl ?_
  obtain ⟨ht26, h⟩ := h
  refine wp_getC (ci := 9) (j := 4) dX9_copy_48 fi_X9_32r rfl rfl ht26 ?_
  change WP _ _ _ _ _ _ (rv (hC H23 1004 a0) :: _) _ _
  refine wp_aload_n 1 dX9_copy_51 rfl ?_
  obtain ⟨ht27, h⟩ := h
  refine wp_getC (ci := 9) (j := 4) dX9_copy_52 fi_X9_32r rfl ha1 ht27 ?_
  change WP _ _ _ _ _ _ (rv (hC H23 1004 a1) :: _) _ _
  obtain ⟨a29, ha29, h⟩ := h
  obtain ⟨ht30, h⟩ := h
  refine wp_callV (ci := 3) (As := [rv (hC H23 1004 a1)]) (rest := []) (mc := 0) (ms := 0) dX9_copy_55 lk_X9_62 rfl rfl (by decide) ha29 rfl rfl ht30 rfl rfl rfl w_3_143 (Call.weaken h ?_)
  rintro H28 _ ⟨rfl, h⟩
  change WP _ _ _ _ _ _ [] H28 _
  exact wp_return dX9_copy_58 rfl ⟨rfl, h⟩
theorem C_X9_copy {d : Nat} {q : HP → Prop} {a0 : Nat} {o1 : Option Nat} {H : HP} (h : wb_X9_copy_0 d q a0 o1 H) : CV (d + 1) 0 0 mX9_copy [rv (some a0), rv o1] H q := by
  refine call_of (by decide +kernel) (by simp [lg_sl, rv_cat, vc_int, vc_long, vc_float, vc_double]) ?_
  have e : lv_args 0 [rv (some a0), rv o1] = [(0, rv (some a0)), (1, rv o1)] := by simp [lv_args, rv_cat, vc_int, vc_long, vc_float, vc_double]
  rw [e]
  exact T_X9_copy_0 h
def wb_X9_hasOffset_0 (d : Nat) (q : HP → Bool → Prop) (a0 : Nat) (H : HP) : Prop :=
  tg H a0 = 10 ∧ (∃ a2, (hC H 1004 a0) = some a2 ∧ (tg H a2 = 4 ∧ (((hL H 400 a2 0) = (0 : Int64) → q H false) ∧ (¬ ((hL H 400 a2 0) = (0 : Int64)) → q H true))))
set_option maxRecDepth 40000 in
set_option maxHeartbeats 4000000 in
theorem T_X9_hasOffset_0 {d : Nat} {q : HP → Bool → Prop} {a0 : Nat} {H : HP} (h : wb_X9_hasOffset_0 d q a0 H) : WP (d + 1) mX9_hasOffset 0 0 0 [(0, rv (some a0))] [] H (qZ q) := by
  unfold wb_X9_hasOffset_0 at h
  refine wp_aload_n 0 dX9_hasOffset_0 rfl ?_
  obtain ⟨ht1, h⟩ := h
  refine wp_getC (ci := 9) (j := 4) dX9_hasOffset_1 fi_X9_32r rfl rfl ht1 ?_
  change WP _ _ _ _ _ _ (rv (hC H 1004 a0) :: _) _ _
  obtain ⟨a2, ha2, h⟩ := h
  obtain ⟨ht3, h⟩ := h
  refine wp_getL (ci := 3) (j := 0) dX9_hasOffset_4 fi_X9_35r rfl ha2 ht3 ?_
  change WP _ _ _ _ _ _ (.long (hL H 400 a2 0) :: _) _ _
  refine wp_lconst (v := (0 : Int64)) dX9_hasOffset_7 (by decide) ?_
  refine wp_lcmp dX9_hasOffset_8 ?_
  refine wp_if_eq (tgt := 16) dX9_hasOffset_9 rfl (fun c => ?_) (fun c => ?_)
  · replace h := h.1 (lgc_eq.mp c)
    refine wp_iconst (v := (0 : Int32)) dX9_hasOffset_16 (by decide) ?_
    exact wp_ireturn (ty := .boolean) dX9_hasOffset_17 rfl rfl ⟨false, rfl, h⟩
  · replace h := h.2 (fun z => c (lgc_eq.mpr z))
    refine wp_iconst (v := (1 : Int32)) dX9_hasOffset_12 (by decide) ?_
    refine wp_goto (tgt := 17) dX9_hasOffset_13 rfl ?_
    exact wp_ireturn (ty := .boolean) dX9_hasOffset_17 rfl rfl ⟨true, rfl, h⟩
theorem C_X9_hasOffset {d : Nat} {q : HP → Bool → Prop} {a0 : Nat} {H : HP} (h : wb_X9_hasOffset_0 d q a0 H) : CZ (d + 1) 0 0 mX9_hasOffset [rv (some a0)] H q := by
  refine call_of (by decide +kernel) (by simp [lg_sl, rv_cat, vc_int, vc_long, vc_float, vc_double]) ?_
  have e : lv_args 0 [rv (some a0)] = [(0, rv (some a0))] := by simp [lv_args, rv_cat, vc_int, vc_long, vc_float, vc_double]
  rw [e]
  exact T_X9_hasOffset_0 h
def wb_X9_init_0 (d : Nat) (ca sa : Nat) (q : HP → Prop) (a0 : Nat) (H : HP) : Prop :=
  hN H < scrA ∧ (1 ≤ ca ∧ (4 ≤ sa ∧ (tg (nw H 4193 4) a0 = 10 ∧ (hN (sI (sC (nw H 4193 4) 1000 a0 (some (hN H))) 1001 a0 0 (0 : Int32)) < scrA ∧ (1 ≤ (ca - 1) ∧ (5 ≤ (sa - 4) ∧ (tg (nw (sI (sC (nw H 4193 4) 1000 a0 (some (hN H))) 1001 a0 0 (0 : Int32)) 4208 5) a0 = 10 ∧ (∀ H9, (sC (nw (sI (sC (nw H 4193 4) 1000 a0 (some (hN H))) 1001 a0 0 (0 : Int32)) 4208 5) 1002 a0 (some (hN (sI (sC (nw H 4193 4) 1000 a0 (some (hN H))) 1001 a0 0 (0 : Int32))))) = H9 → (hN H9 < scrA ∧ (1 ≤ ((ca - 1) - 1) ∧ (2 ≤ ((sa - 4) - 5) ∧ (CV d 0 0 mX3_init [rv (some (hN H9))] (nw H9 4 0) (fun H15 => tg H15 a0 = 10 ∧ (hN (sC H15 1003 a0 (some (hN H9))) < scrA ∧ (1 ≤ (((ca - 1) - 1) - 1) ∧ (2 ≤ (((sa - 4) - 5) - 2) ∧ (CV d 0 0 mX3_init [rv (some (hN (sC H15 1003 a0 (some (hN H9)))))] (nw (sC H15 1003 a0 (some (hN H9))) 4 0) (fun H20 => tg H20 a0 = 10 ∧ (q (sC H20 1004 a0 (some (hN (sC H15 1003 a0 (some (hN H9)))))))))))))))))))))))))
set_option maxRecDepth 40000 in
set_option maxHeartbeats 4000000 in
theorem T_X9_init_0 {d : Nat} {ca sa : Nat} {q : HP → Prop} {a0 : Nat} {H : HP} (h : wb_X9_init_0 d ca sa q a0 H) : WP (d + 1) mX9_init ca sa 0 [(0, rv (some a0))] [] H (qV q) := by
  unfold wb_X9_init_0 at h
  refine wp_aload_n 0 dX9_init_0 rfl ?_
  refine wp_objInit dX9_init_1 w_1_66 w_1_29 w_1_30 rfl (by decide) (by omega) ?_
  refine wp_aload_n 0 dX9_init_4 rfl ?_
  refine wp_iconst (v := (4 : Int32)) dX9_init_5 (by decide) ?_
  obtain ⟨hg1, h⟩ := h
  obtain ⟨hg2, h⟩ := h
  obtain ⟨hg3, h⟩ := h
  refine wp_newarray (t := 4193) (N := 4) (ca' := ca - 1) (sa' := sa - 4) dX9_init_6 w_1_53 (by decide) rfl (by decide) (by decide) (by decide +kernel) hg1 (by omega) (by omega) ?_
  obtain ⟨ht4, h⟩ := h
  refine wp_putC (ci := 9) (j := 0) dX9_init_8 fi_X9_11 rfl (fun _ => rfl) rfl ht4 (Or.inr ⟨_, rfl⟩) ?_
  change WP _ _ _ _ _ _ _ (sC (nw H 4193 4) 1000 a0 (some (hN H))) _
  refine wp_aload_n 0 dX9_init_11 rfl ?_
  refine wp_iconst (v := (0 : Int32)) dX9_init_12 (by decide) ?_
  refine wp_putI (ci := 9) (j := 1) dX9_init_13 fi_X9_17 rfl (fun z => by cases z) rfl ht4 rfl rfl ?_
  change WP _ _ _ _ _ _ _ (sI (sC (nw H 4193 4) 1000 a0 (some (hN H))) 1001 a0 0 (0 : Int32)) _
  refine wp_aload_n 0 dX9_init_16 rfl ?_
  refine wp_iconst (v := (5 : Int32)) dX9_init_17 (by decide) ?_
  obtain ⟨hg5, h⟩ := h
  obtain ⟨hg6, h⟩ := h
  obtain ⟨hg7, h⟩ := h
  refine wp_newarray (t := 4208) (N := 5) (ca' := (ca - 1) - 1) (sa' := (sa - 4) - 5) dX9_init_18 w_1_88 (by decide) rfl (by decide) (by decide) (by decide +kernel) hg5 (by omega) (by omega) ?_
  obtain ⟨ht8, h⟩ := h
  refine wp_putC (ci := 9) (j := 2) dX9_init_20 fi_X9_21 rfl (fun _ => rfl) rfl ht8 (Or.inr ⟨_, rfl⟩) ?_
  change WP _ _ _ _ _ _ _ (sC (nw (sI (sC (nw H 4193 4) 1000 a0 (some (hN H))) 1001 a0 0 (0 : Int32)) 4208 5) 1002 a0 (some (hN (sI (sC (nw H 4193 4) 1000 a0 (some (hN H))) 1001 a0 0 (0 : Int32))))) _
  replace h := h _ rfl
  generalize e10 : (sC (nw (sI (sC (nw H 4193 4) 1000 a0 (some (hN H))) 1001 a0 0 (0 : Int32)) 4208 5) 1002 a0 (some (hN (sI (sC (nw H 4193 4) 1000 a0 (some (hN H))) 1001 a0 0 (0 : Int32))))) = H9 at h ⊢
  have ht11 : tg H9 a0 = 10 := by rw [← e10]; exact ht8
  refine wp_aload_n 0 dX9_init_23 rfl ?_
  obtain ⟨hg12, h⟩ := h
  obtain ⟨hg13, h⟩ := h
  obtain ⟨hg14, h⟩ := h
  refine wp_new (ca' := ((ca - 1) - 1) - 1) (sa' := ((sa - 4) - 5) - 2) dX9_init_24 (ci := 3) (N := 2) rfl w_1_67 w_1_68 w_1_5 inG3 tyX3_ok (by decide) hg12 (by omega) (by omega) ?_
  refine wp_dup dX9_init_27 (rv_cat _) ?_
  refine wp_callI (As := []) (rest := [rv (some (hN H9)), rv (some a0)]) (mc := 0) (ms := 0) (ca' := (((ca - 1) - 1) - 1)) (sa' := (((sa - 4) - 5) - 2)) dX9_init_28 lk_X9_27 rfl rfl (by simp [rv_cat, vc_int, vc_long, vc_float, vc_double]) rfl rfl rfl rfl (Call.weaken h ?_)
  rintro H15 _ ⟨rfl, h⟩
  change WP _ _ _ _ _ _ [rv (some (hN H9)), rv (some a0)] H15 _
  obtain ⟨ht16, h⟩ := h
  refine wp_putC (ci := 9) (j := 3) dX9_init_31 fi_X9_28 rfl (fun _ => rfl) rfl ht16 (Or.inl ⟨_, rfl⟩) ?_
  change WP _ _ _ _ _ _ _ (sC H15 1003 a0 (some (hN H9))) _
  refine wp_aload_n 0 dX9_init_34 rfl ?_
  obtain ⟨hg17, h⟩ := h
  obtain ⟨hg18, h⟩ := h
  obtain ⟨hg19, h⟩ := h
  refine wp_new (ca' := (((ca - 1) - 1) - 1) - 1) (sa' := (((sa - 4) - 5) - 2) - 2) dX9_init_35 (ci := 3) (N := 2) rfl w_1_67 w_1_68 w_1_5 inG3 tyX3_ok (by decide) hg17 (by omega) (by omega) ?_
  refine wp_dup dX9_init_38 (rv_cat _) ?_
  refine wp_callI (As := []) (rest := [rv (some (hN (sC H15 1003 a0 (some (hN H9))))), rv (some a0)]) (mc := 0) (ms := 0) (ca' := ((((ca - 1) - 1) - 1) - 1)) (sa' := ((((sa - 4) - 5) - 2) - 2)) dX9_init_39 lk_X9_27 rfl rfl (by simp [rv_cat, vc_int, vc_long, vc_float, vc_double]) rfl rfl rfl rfl (Call.weaken h ?_)
  rintro H20 _ ⟨rfl, h⟩
  change WP _ _ _ _ _ _ [rv (some (hN (sC H15 1003 a0 (some (hN H9))))), rv (some a0)] H20 _
  obtain ⟨ht21, h⟩ := h
  refine wp_putC (ci := 9) (j := 4) dX9_init_42 fi_X9_32 rfl (fun _ => rfl) rfl ht21 (Or.inl ⟨_, rfl⟩) ?_
  change WP _ _ _ _ _ _ _ (sC H20 1004 a0 (some (hN (sC H15 1003 a0 (some (hN H9)))))) _
  exact wp_return dX9_init_45 rfl ⟨rfl, h⟩
theorem C_X9_init {d : Nat} {ca sa : Nat} {q : HP → Prop} {a0 : Nat} {H : HP} (h : wb_X9_init_0 d ca sa q a0 H) : CV (d + 1) ca sa mX9_init [rv (some a0)] H q := by
  refine call_of (by decide +kernel) (by simp [lg_sl, rv_cat, vc_int, vc_long, vc_float, vc_double]) ?_
  have e : lv_args 0 [rv (some a0)] = [(0, rv (some a0))] := by simp [lv_args, rv_cat, vc_int, vc_long, vc_float, vc_double]
  rw [e]
  exact T_X9_init_0 h
def wb_X9_isLike_0 (d : Nat) (q : HP → Bool → Prop) (a0 : Nat) (o1 : Option Nat) (H : HP) : Prop :=
  tg H a0 = 10 ∧ (∃ a2, o1 = some a2 ∧ (tg H a2 = 10 ∧ (CZ d 0 0 mX11_equalRows [rv (hC H 1002 a0), rv (hC H 1002 a2)] H (fun H4 b5 => q H4 b5))))
set_option maxRecDepth 40000 in
set_option maxHeartbeats 4000000 in
theorem T_X9_isLike_0 {d : Nat} {q : HP → Bool → Prop} {a0 : Nat} {o1 : Option Nat} {H : HP} (h : wb_X9_isLike_0 d q a0 o1 H) : WP (d + 1) mX9_isLike 0 0 0 [(0, rv (some a0)), (1, rv o1)] [] H (qZ q) := by
  unfold wb_X9_isLike_0 at h
  refine wp_aload_n 0 dX9_isLike_0 rfl ?_
  obtain ⟨ht1, h⟩ := h
  refine wp_getC (ci := 9) (j := 2) dX9_isLike_1 fi_X9_21r rfl rfl ht1 ?_
  change WP _ _ _ _ _ _ (rv (hC H 1002 a0) :: _) _ _
  refine wp_aload_n 1 dX9_isLike_4 rfl ?_
  obtain ⟨a2, ha2, h⟩ := h
  obtain ⟨ht3, h⟩ := h
  refine wp_getC (ci := 9) (j := 2) dX9_isLike_5 fi_X9_21r rfl ha2 ht3 ?_
  change WP _ _ _ _ _ _ (rv (hC H 1002 a2) :: _) _ _
  refine wp_callS (As := [rv (hC H 1002 a0), rv (hC H 1002 a2)]) (rest := []) (mc := 0) (ms := 0) dX9_isLike_8 lk_X9_39 rfl rfl (by decide) rfl rfl rfl (Call.weaken h ?_)
  rintro H4 _ ⟨b5, rfl, h⟩
  change WP _ _ _ _ _ _ [.int (bI b5)] H4 _
  exact wp_ireturn (ty := .boolean) dX9_isLike_11 rfl (nar_bI _).1 ⟨b5, rfl, h⟩
theorem C_X9_isLike {d : Nat} {q : HP → Bool → Prop} {a0 : Nat} {o1 : Option Nat} {H : HP} (h : wb_X9_isLike_0 d q a0 o1 H) : CZ (d + 1) 0 0 mX9_isLike [rv (some a0), rv o1] H q := by
  refine call_of (by decide +kernel) (by simp [lg_sl, rv_cat, vc_int, vc_long, vc_float, vc_double]) ?_
  have e : lv_args 0 [rv (some a0), rv o1] = [(0, rv (some a0)), (1, rv o1)] := by simp [lv_args, rv_cat, vc_int, vc_long, vc_float, vc_double]
  rw [e]
  exact T_X9_isLike_0 h
def wb_X9_isNamed_0 (d : Nat) (q : HP → Bool → Prop) (a0 : Nat) (o1 : Option Nat) (x2 : Int32) (x3 : Int32) (H : HP) : Prop :=
  tg H a0 = 10 ∧ ((¬ x3 = (hI H 1001 a0 0) → q H false) ∧ (x3 = (hI H 1001 a0 0) → ∃ a3, o1 = some a3 ∧ (tg H a3 = 8 ∧ (CZ d 0 0 mX7_holds [rv o1, rv (hC H 1000 a0), .int (hI H 1001 a0 0), .int x2] H (fun H2 b5 => (b5 = false → q H2 false) ∧ (b5 = true → q H2 true))))))
set_option maxRecDepth 40000 in
set_option maxHeartbeats 4000000 in
theorem T_X9_isNamed_0 {d : Nat} {q : HP → Bool → Prop} {a0 : Nat} {o1 : Option Nat} {x2 : Int32} {x3 : Int32} {H : HP} (h : wb_X9_isNamed_0 d q a0 o1 x2 x3 H) : WP (d + 1) mX9_isNamed 0 0 0 [(0, rv (some a0)), (1, rv o1), (2, .int x2), (3, .int x3)] [] H (qZ q) := by
  unfold wb_X9_isNamed_0 at h
  refine wp_iload_n 3 dX9_isNamed_0 rfl ?_
  refine wp_aload_n 0 dX9_isNamed_1 rfl ?_
  obtain ⟨ht1, h⟩ := h
  refine wp_getI (ci := 9) (j := 1) dX9_isNamed_2 fi_X9_17r rfl rfl ht1 ?_
  change WP _ _ _ _ _ _ (.int (hI H 1001 a0 0) :: _) _ _
  refine wp_icmp_ne (tgt := 28) dX9_isNamed_5 rfl (fun c => ?_) (fun c => ?_)
  · replace h := h.1 c
    refine wp_iconst (v := (0 : Int32)) dX9_isNamed_28 (by decide) ?_
    exact wp_ireturn (ty := .boolean) dX9_isNamed_29 rfl rfl ⟨false, rfl, h⟩
  · replace h := h.2 c
    refine wp_aload_n 1 dX9_isNamed_8 rfl ?_
    refine wp_aload_n 0 dX9_isNamed_9 rfl ?_
    refine wp_getC (ci := 9) (j := 0) dX9_isNamed_10 fi_X9_11r rfl rfl ht1 ?_
    change WP _ _ _ _ _ _ (rv (hC H 1000 a0) :: _) _ _
    refine wp_aload_n 0 dX9_isNamed_13 rfl ?_
    refine wp_getI (ci := 9) (j := 1) dX9_isNamed_14 fi_X9_17r rfl rfl ht1 ?_
    change WP _ _ _ _ _ _ (.int (hI H 1001 a0 0) :: _) _ _
    refine wp_iload_n 2 dX9_isNamed_17 rfl ?_
    obtain ⟨a3, ha3, h⟩ := h
    obtain ⟨ht4, h⟩ := h
    refine wp_callV (ci := 7) (As := [rv (hC H 1000 a0), .int (hI H 1001 a0 0), .int x2]) (rest := []) (mc := 0) (ms := 0) dX9_isNamed_18 lk_X9_43 rfl rfl (by decide) ha3 rfl rfl ht4 rfl rfl rfl w_3_82 (Call.weaken h ?_)
    rintro H2 _ ⟨b5, rfl, h⟩
    change WP _ _ _ _ _ _ [.int (bI b5)] H2 _
    refine wp_if_eq (tgt := 28) dX9_isNamed_21 rfl (fun c => ?_) (fun c => ?_)
    · replace h := h.1 (bI_0.mp c)
      refine wp_iconst (v := (0 : Int32)) dX9_isNamed_28 (by decide) ?_
      exact wp_ireturn (ty := .boolean) dX9_isNamed_29 rfl rfl ⟨false, rfl, h⟩
    · replace h := h.2 (bI_1.mp c)
      refine wp_iconst (v := (1 : Int32)) dX9_isNamed_24 (by decide) ?_
      refine wp_goto (tgt := 29) dX9_isNamed_25 rfl ?_
      exact wp_ireturn (ty := .boolean) dX9_isNamed_29 rfl rfl ⟨true, rfl, h⟩
theorem C_X9_isNamed {d : Nat} {q : HP → Bool → Prop} {a0 : Nat} {o1 : Option Nat} {x2 : Int32} {x3 : Int32} {H : HP} (h : wb_X9_isNamed_0 d q a0 o1 x2 x3 H) : CZ (d + 1) 0 0 mX9_isNamed [rv (some a0), rv o1, .int x2, .int x3] H q := by
  refine call_of (by decide +kernel) (by simp [lg_sl, rv_cat, vc_int, vc_long, vc_float, vc_double]) ?_
  have e : lv_args 0 [rv (some a0), rv o1, .int x2, .int x3] = [(0, rv (some a0)), (1, rv o1), (2, .int x2), (3, .int x3)] := by simp [lv_args, rv_cat, vc_int, vc_long, vc_float, vc_double]
  rw [e]
  exact T_X9_isNamed_0 h
def wb_X9_takeName_0 (d : Nat) (q : HP → Prop) (a0 : Nat) (o1 : Option Nat) (x2 : Int32) (H : HP) : Prop :=
  CI d 0 0 mJ9_min_7cf53 [.int x2, .int (4 : Int32)] H (fun H1 r2 => tg H1 a0 = 10 ∧ (∃ a4, o1 = some a4 ∧ (tg (sI H1 1001 a0 0 r2) a4 = 8 ∧ (∃ a6, (hC (sI H1 1001 a0 0 r2) 800 a4) = some a6 ∧ (isA (sI H1 1001 a0 0 r2) a6 1 ∧ (∃ a8, (hC (sI H1 1001 a0 0 r2) 1000 a0) = some a8 ∧ (isA (sI H1 1001 a0 0 r2) a8 1 ∧ (¬ (hI (sI H1 1001 a0 0 r2) 1001 a0 0) < 0 ∧ ((0 : Int32).toNatClampNeg + (hI (sI H1 1001 a0 0 r2) 1001 a0 0).toNatClampNeg ≤ ln (sI H1 1001 a0 0 r2) a6 ∧ ((0 : Int32).toNatClampNeg + (hI (sI H1 1001 a0 0 r2) 1001 a0 0).toNatClampNeg ≤ ln (sI H1 1001 a0 0 r2) a8 ∧ ((∀ i, i < (hI (sI H1 1001 a0 0 r2) 1001 a0 0).toNatClampNeg → fits .byte (.int (hI (sI H1 1001 a0 0 r2) (tg (sI H1 1001 a0 0 r2) a6) a6 ((0 : Int32).toNatClampNeg + i))) = true) ∧ (∀ H14, (fI (sI H1 1001 a0 0 r2) (tg (sI H1 1001 a0 0 r2) a8) a8 (va_cpy (hI (sI H1 1001 a0 0 r2) (tg (sI H1 1001 a0 0 r2) a6) a6) (hI (sI H1 1001 a0 0 r2) (tg (sI H1 1001 a0 0 r2) a8) a8) (0 : Int32).toNatClampNeg (0 : Int32).toNatClampNeg (hI (sI H1 1001 a0 0 r2) 1001 a0 0).toNatClampNeg)) = H14 → (q H14)))))))))))))
set_option maxRecDepth 40000 in
set_option maxHeartbeats 4000000 in
theorem T_X9_takeName_0 {d : Nat} {q : HP → Prop} {a0 : Nat} {o1 : Option Nat} {x2 : Int32} {H : HP} (h : wb_X9_takeName_0 d q a0 o1 x2 H) : WP (d + 1) mX9_takeName 0 0 0 [(0, rv (some a0)), (1, rv o1), (2, .int x2)] [] H (qV q) := by
  unfold wb_X9_takeName_0 at h
  refine wp_aload_n 0 dX9_takeName_0 rfl ?_
  refine wp_iload_n 2 dX9_takeName_1 rfl ?_
  refine wp_iconst (v := (4 : Int32)) dX9_takeName_2 (by decide) ?_
  refine wp_callS (As := [.int x2, .int (4 : Int32)]) (rest := [rv (some a0)]) (mc := 0) (ms := 0) dX9_takeName_3 lk_X9_47 rfl rfl (by simp [rv_cat, vc_int, vc_long, vc_float, vc_double]) rfl rfl rfl (Call.weaken h ?_)
  rintro H1 _ ⟨r2, rfl, h⟩
  change WP _ _ _ _ _ _ [.int r2, rv (some a0)] H1 _
  obtain ⟨ht3, h⟩ := h
  refine wp_putI (ci := 9) (j := 1) dX9_takeName_6 fi_X9_17 rfl (fun z => by cases z) rfl ht3 rfl rfl ?_
  change WP _ _ _ _ _ _ _ (sI H1 1001 a0 0 r2) _
  refine wp_aload_n 1 dX9_takeName_9 rfl ?_
  obtain ⟨a4, ha4, h⟩ := h
  obtain ⟨ht5, h⟩ := h
  refine wp_getC (ci := 7) (j := 0) dX9_takeName_10 fi_X9_53 rfl ha4 ht5 ?_
  change WP _ _ _ _ _ _ (rv (hC (sI H1 1001 a0 0 r2) 800 a4) :: _) _ _
  refine wp_iconst (v := (0 : Int32)) dX9_takeName_13 (by decide) ?_
  refine wp_aload_n 0 dX9_takeName_14 rfl ?_
  refine wp_getC (ci := 9) (j := 0) dX9_takeName_15 fi_X9_11r rfl rfl ht3 ?_
  change WP _ _ _ _ _ _ (rv (hC (sI H1 1001 a0 0 r2) 1000 a0) :: _) _ _
  refine wp_iconst (v := (0 : Int32)) dX9_takeName_18 (by decide) ?_
  refine wp_aload_n 0 dX9_takeName_19 rfl ?_
  refine wp_getI (ci := 9) (j := 1) dX9_takeName_20 fi_X9_17r rfl rfl ht3 ?_
  change WP _ _ _ _ _ _ (.int (hI (sI H1 1001 a0 0 r2) 1001 a0 0) :: _) _ _
  obtain ⟨a6, ha6, h⟩ := h
  obtain ⟨hr7, h⟩ := h
  obtain ⟨a8, ha8, h⟩ := h
  obtain ⟨hr9, h⟩ := h
  obtain ⟨hg10, h⟩ := h
  obtain ⟨hg11, h⟩ := h
  obtain ⟨hg12, h⟩ := h
  obtain ⟨hg13, h⟩ := h
  refine wp_copyI1 dX9_takeName_23 w_3_132 w_3_134 w_3_133 w_1_19 ha6 hr7 ha8 hr9 (by decide) (by decide) hg10 hg11 hg12 hg13 (by decide) (by omega) ?_
  replace h := h _ rfl
  generalize e15 : (fI (sI H1 1001 a0 0 r2) (tg (sI H1 1001 a0 0 r2) a8) a8 (va_cpy (hI (sI H1 1001 a0 0 r2) (tg (sI H1 1001 a0 0 r2) a6) a6) (hI (sI H1 1001 a0 0 r2) (tg (sI H1 1001 a0 0 r2) a8) a8) (0 : Int32).toNatClampNeg (0 : Int32).toNatClampNeg (hI (sI H1 1001 a0 0 r2) 1001 a0 0).toNatClampNeg)) = H14 at h ⊢
  have ht16 : tg H14 a0 = 10 := by rw [← e15]; exact ht3
  have ht17 : tg H14 a4 = 8 := by rw [← e15]; exact ht5
  have hr18 : isA H14 a6 1 := by rw [← e15]; exact hr7
  have hr19 : isA H14 a8 1 := by rw [← e15]; exact hr9
  exact wp_return dX9_takeName_26 rfl ⟨rfl, h⟩
theorem C_X9_takeName {d : Nat} {q : HP → Prop} {a0 : Nat} {o1 : Option Nat} {x2 : Int32} {H : HP} (h : wb_X9_takeName_0 d q a0 o1 x2 H) : CV (d + 1) 0 0 mX9_takeName [rv (some a0), rv o1, .int x2] H q := by
  refine call_of (by decide +kernel) (by simp [lg_sl, rv_cat, vc_int, vc_long, vc_float, vc_double]) ?_
  have e : lv_args 0 [rv (some a0), rv o1, .int x2] = [(0, rv (some a0)), (1, rv o1), (2, .int x2)] := by simp [lv_args, rv_cat, vc_int, vc_long, vc_float, vc_double]
  rw [e]
  exact T_X9_takeName_0 h
