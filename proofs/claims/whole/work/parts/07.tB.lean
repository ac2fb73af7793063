/-- UnitProver$Claims.against()I: the loop at 4 -/
def L_X0_against_4 (d : Nat) (q : HP → Int32 → Prop) (a0 : Nat) (x1 : Int32) (x2 : Int32) (H : HP) : Prop := WP (d + 1) mX0_against 0 0 4 [(0, rv (some a0)), (1, .int x1), (2, .int x2)] [] H (qI q)
def wb_X0_against_0 (d : Nat) (q : HP → Int32 → Prop) (a0 : Nat) (H : HP) : Prop :=
  L_X0_against_4 d q a0 (0 : Int32) (0 : Int32) H
set_option maxRecDepth 40000 in
set_option maxHeartbeats 4000000 in
theorem T_X0_against_0 {d : Nat} {q : HP → Int32 → Prop} {a0 : Nat} {H : HP} (h : wb_X0_against_0 d q a0 H) : WP (d + 1) mX0_against 0 0 0 [(0, rv (some a0))] [] H (qI q) := by
  unfold wb_X0_against_0 at h
  refine wp_iconst (v := (0 : Int32)) dX0_against_0 (by decide) ?_
  refine wp_istore_n (ls' := [(1, .int (0 : Int32)), (0, rv (some a0))]) dX0_against_1 (by decide) rfl ?_
  refine wp_iconst (v := (0 : Int32)) dX0_against_2 (by decide) ?_
  refine wp_istore_n (ls' := [(2, .int (0 : Int32)), (1, .int (0 : Int32)), (0, rv (some a0))]) dX0_against_3 (by decide) rfl ?_
  refine wp_sub (ls' := [(0, rv (some a0)), (1, .int (0 : Int32)), (2, .int (0 : Int32))]) [2, 1, 0] rfl ?_
  exact h
def wb_X0_against_4 (d : Nat) (q : HP → Int32 → Prop) (a0 : Nat) (x1 : Int32) (x2 : Int32) (H : HP) : Prop :=
  tg H a0 = 1 ∧ (((hI H 104 a0 0) ≤ x2 → q H x1) ∧ (¬ ((hI H 104 a0 0) ≤ x2) → ∃ a2, (hC H 106 a0) = some a2 ∧ (isA H a2 0 ∧ (vp_in x2 (ln H a2) ∧ ((¬ (hI H (tg H a2) a2 x2.toNatClampNeg) = (1 : Int32) → L_X0_against_4 d q a0 (x1 + (0 : Int32)) (x2 + 1) H) ∧ ((hI H (tg H a2) a2 x2.toNatClampNeg) = (1 : Int32) → L_X0_against_4 d q a0 (x1 + (1 : Int32)) (x2 + 1) H))))))
set_option maxRecDepth 40000 in
set_option maxHeartbeats 4000000 in
theorem T_X0_against_4 {d : Nat} {q : HP → Int32 → Prop} {a0 : Nat} {x1 : Int32} {x2 : Int32} {H : HP} (h : wb_X0_against_4 d q a0 x1 x2 H) : L_X0_against_4 d q a0 x1 x2 H := by
  unfold wb_X0_against_4 at h
  unfold L_X0_against_4
  refine wp_iload_n 2 dX0_against_4 rfl ?_
  refine wp_aload_n 0 dX0_against_5 rfl ?_
  obtain ⟨ht1, h⟩ := h
  refine wp_getI (ci := 0) (j := 4) dX0_against_6 fi_X0_24r rfl rfl ht1 ?_
  change WP _ _ _ _ _ _ (.int (hI H 104 a0 0) :: _) _ _
  refine wp_icmp_ge (tgt := 36) dX0_against_9 rfl (fun c => ?_) (fun c => ?_)
  · replace h := h.1 c
    refine wp_iload_n 1 dX0_against_36 rfl ?_
    exact wp_ireturn (ty := .int) dX0_against_37 rfl rfl ⟨_, rfl, h⟩
  · replace h := h.2 c
    refine wp_iload_n 1 dX0_against_12 rfl ?_
    refine wp_aload_n 0 dX0_against_13 rfl ?_
    refine wp_getC (ci := 0) (j := 6) dX0_against_14 fi_X0_32r rfl rfl ht1 ?_
    change WP _ _ _ _ _ _ (rv (hC H 106 a0) :: _) _ _
    refine wp_iload_n 2 dX0_against_17 rfl ?_
    obtain ⟨a2, ha2, h⟩ := h
    obtain ⟨hr3, h⟩ := h
    obtain ⟨hg4, h⟩ := h
    refine wp_iaload dX0_against_18 ha2 hr3 hg4 ?_
    refine wp_iconst (v := (1 : Int32)) dX0_against_19 (by decide) ?_
    refine wp_icmp_ne (tgt := 27) dX0_against_20 rfl (fun c => ?_) (fun c => ?_)
    · replace h := h.1 c
      refine wp_iconst (v := (0 : Int32)) dX0_against_27 (by decide) ?_
      refine wp_iadd dX0_against_28 ?_
      refine wp_istore_n (ls' := [(1, .int (x1 + (0 : Int32))), (0, rv (some a0)), (2, .int x2)]) dX0_against_29 (by decide) rfl ?_
      refine wp_iinc (v := (x2 + 1)) (ls' := [(2, .int (x2 + 1)), (1, .int (x1 + (0 : Int32))), (0, rv (some a0))]) 2 dX0_against_30 rfl rfl (by decide) rfl ?_
      refine wp_goto (tgt := 4) dX0_against_33 rfl ?_
      refine wp_sub (ls' := [(0, rv (some a0)), (1, .int (x1 + (0 : Int32))), (2, .int (x2 + 1))]) [2, 1, 0] rfl ?_
      exact h
    · replace h := h.2 c
      refine wp_iconst (v := (1 : Int32)) dX0_against_23 (by decide) ?_
      refine wp_goto (tgt := 28) dX0_against_24 rfl ?_
      refine wp_iadd dX0_against_28 ?_
      refine wp_istore_n (ls' := [(1, .int (x1 + (1 : Int32))), (0, rv (some a0)), (2, .int x2)]) dX0_against_29 (by decide) rfl ?_
      refine wp_iinc (v := (x2 + 1)) (ls' := [(2, .int (x2 + 1)), (1, .int (x1 + (1 : Int32))), (0, rv (some a0))]) 2 dX0_against_30 rfl rfl (by decide) rfl ?_
      refine wp_goto (tgt := 4) dX0_against_33 rfl ?_
      refine wp_sub (ls' := [(0, rv (some a0)), (1, .int (x1 + (1 : Int32))), (2, .int (x2 + 1))]) [2, 1, 0] rfl ?_
      exact h
theorem C_X0_against {d : Nat} {q : HP → Int32 → Prop} {a0 : Nat} {H : HP} (h : wb_X0_against_0 d q a0 H) : CI (d + 1) 0 0 mX0_against [rv (some a0)] H q := by
  refine call_of (by decide +kernel) (by simp [lg_sl, rv_cat, vc_int, vc_long, vc_float, vc_double]) ?_
  have e : lv_args 0 [rv (some a0)] = [(0, rv (some a0))] := by simp [lv_args, rv_cat, vc_int, vc_long, vc_float, vc_double]
  rw [e]
  exact T_X0_against_0 h
def wb_X0_append_0 (d : Nat) (q : HP → Bool → Prop) (a0 : Nat) (x1 : Int32) (x2 : Int32) (x3 : Int32) (x4 : Int32) (H : HP) : Prop :=
  tg H a0 = 1 ∧ (((hI H 104 a0 0) < (16 : Int32) → ∃ a2, (hC H 100 a0) = some a2 ∧ (isA H a2 0 ∧ (vp_in (hI H 104 a0 0) (ln H a2) ∧ (∃ a5, (hC (sI H (tg H a2) a2 (hI H 104 a0 0).toNatClampNeg x1) 101 a0) = some a5 ∧ (isA (sI H (tg H a2) a2 (hI H 104 a0 0).toNatClampNeg x1) a5 0 ∧ (vp_in (hI (sI H (tg H a2) a2 (hI H 104 a0 0).toNatClampNeg x1) 104 a0 0) (ln (sI H (tg H a2) a2 (hI H 104 a0 0).toNatClampNeg x1) a5) ∧ (∀ H8, (sI (sI H (tg H a2) a2 (hI H 104 a0 0).toNatClampNeg x1) (tg (sI H (tg H a2) a2 (hI H 104 a0 0).toNatClampNeg x1) a5) a5 (hI (sI H (tg H a2) a2 (hI H 104 a0 0).toNatClampNeg x1) 104 a0 0).toNatClampNeg x2) = H8 → (∃ a13, (hC H8 102 a0) = some a13 ∧ (isA H8 a13 0 ∧ (vp_in (hI H8 104 a0 0) (ln H8 a13) ∧ (∃ a16, (hC (sI H8 (tg H8 a13) a13 (hI H8 104 a0 0).toNatClampNeg x3) 103 a0) = some a16 ∧ (isA (sI H8 (tg H8 a13) a13 (hI H8 104 a0 0).toNatClampNeg x3) a16 0 ∧ (vp_in (hI (sI H8 (tg H8 a13) a13 (hI H8 104 a0 0).toNatClampNeg x3) 104 a0 0) (ln (sI H8 (tg H8 a13) a13 (hI H8 104 a0 0).toNatClampNeg x3) a16) ∧ (∀ H19, (sI (sI H8 (tg H8 a13) a13 (hI H8 104 a0 0).toNatClampNeg x3) (tg (sI H8 (tg H8 a13) a13 (hI H8 104 a0 0).toNatClampNeg x3) a16) a16 (hI (sI H8 (tg H8 a13) a13 (hI H8 104 a0 0).toNatClampNeg x3) 104 a0 0).toNatClampNeg x4) = H19 → (CV d 0 0 mX0_judgeAll [rv (some a0)] (sI H19 104 a0 0 ((hI H19 104 a0 0) + (1 : Int32))) (fun H26 => q H26 true)))))))))))))))) ∧ (¬ ((hI H 104 a0 0) < (16 : Int32)) → q H false))
set_option maxRecDepth 40000 in
set_option maxHeartbeats 4000000 in
theorem T_X0_append_0 {d : Nat} {q : HP → Bool → Prop} {a0 : Nat} {x1 : Int32} {x2 : Int32} {x3 : Int32} {x4 : Int32} {H : HP} (h : wb_X0_append_0 d q a0 x1 x2 x3 x4 H) : WP (d + 1) mX0_append 0 0 0 [(0, rv (some a0)), (1, .int x1), (2, .int x2), (3, .int x3), (4, .int x4)] [] H (qZ q) := by
  unfold wb_X0_append_0 at h
  refine wp_aload_n 0 dX0_append_0 rfl ?_
  obtain ⟨ht1, h⟩ := h
  refine wp_getI (ci := 0) (j := 4) dX0_append_1 fi_X0_24r rfl rfl ht1 ?_
  change WP _ _ _ _ _ _ (.int (hI H 104 a0 0) :: _) _ _
  refine wp_bipush (v := (16 : Int32)) dX0_append_4 (by decide) ?_
  refine wp_icmp_lt (tgt := 11) dX0_append_6 rfl (fun c => ?_) (fun c => ?_)
  · replace h := h.1 c
    refine wp_aload_n 0 dX0_append_11 rfl ?_
    refine wp_getC (ci := 0) (j := 0) dX0_append_12 fi_X0_9r rfl rfl ht1 ?_
    change WP _ _ _ _ _ _ (rv (hC H 100 a0) :: _) _ _
    refine wp_aload_n 0 dX0_append_15 rfl ?_
    refine wp_getI (ci := 0) (j := 4) dX0_append_16 fi_X0_24r rfl rfl ht1 ?_
    change WP _ _ _ _ _ _ (.int (hI H 104 a0 0) :: _) _ _
    refine wp_iload_n 1 dX0_append_19 rfl ?_
    obtain ⟨a2, ha2, h⟩ := h
    obtain ⟨hr3, h⟩ := h
    obtain ⟨hg4, h⟩ := h
    refine wp_iastore dX0_append_20 ha2 hr3 hg4 ?_
    change WP _ _ _ _ _ _ _ (sI H (tg H a2) a2 (hI H 104 a0 0).toNatClampNeg x1) _
    refine wp_aload_n 0 dX0_append_21 rfl ?_
    refine wp_getC (ci := 0) (j := 1) dX0_append_22 fi_X0_15r rfl rfl ht1 ?_
    change WP _ _ _ _ _ _ (rv (hC (sI H (tg H a2) a2 (hI H 104 a0 0).toNatClampNeg x1) 101 a0) :: _) _ _
    refine wp_aload_n 0 dX0_append_25 rfl ?_
    refine wp_getI (ci := 0) (j := 4) dX0_append_26 fi_X0_24r rfl rfl ht1 ?_
    change WP _ _ _ _ _ _ (.int (hI (sI H (tg H a2) a2 (hI H 104 a0 0).toNatClampNeg x1) 104 a0 0) :: _) _ _
    refine wp_iload_n 2 dX0_append_29 rfl ?_
    obtain ⟨a5, ha5, h⟩ := h
    obtain ⟨hr6, h⟩ := h
    obtain ⟨hg7, h⟩ := h
    refine wp_iastore dX0_append_30 ha5 hr6 hg7 ?_
    change WP _ _ _ _ _ _ _ (sI (sI H (tg H a2) a2 (hI H 104 a0 0).toNatClampNeg x1) (tg (sI H (tg H a2) a2 (hI H 104 a0 0).toNatClampNeg x1) a5) a5 (hI (sI H (tg H a2) a2 (hI H 104 a0 0).toNatClampNeg x1) 104 a0 0).toNatClampNeg x2) _
    replace h := h _ rfl
    generalize e9 : (sI (sI H (tg H a2) a2 (hI H 104 a0 0).toNatClampNeg x1) (tg (sI H (tg H a2) a2 (hI H 104 a0 0).toNatClampNeg x1) a5) a5 (hI (sI H (tg H a2) a2 (hI H 104 a0 0).toNatClampNeg x1) 104 a0 0).toNatClampNeg x2) = H8 at h ⊢
    have ht10 : tg H8 a0 = 1 := by rw [← e9]; exact ht1
    have hr11 : isA H8 a2 0 := by rw [← e9]; exact hr3
    have hr12 : isA H8 a5 0 := by rw [← e9]; exact hr6
    refine wp_aload_n 0 dX0_append_31 rfl ?_
    refine wp_getC (ci := 0) (j := 2) dX0_append_32 fi_X0_18r rfl rfl ht10 ?_
    change WP _ _ _ _ _ _ (rv (hC H8 102 a0) :: _) _ _
    refine wp_aload_n 0 dX0_append_35 rfl ?_
    refine wp_getI (ci := 0) (j := 4) dX0_append_36 fi_X0_24r rfl rfl ht10 ?_
    change WP _ _ _ _ _ _ (.int (hI H8 104 a0 0) :: _) _ _
    refine wp_iload_n 3 dX0_append_39 rfl ?_
    obtain ⟨a13, ha13, h⟩ := h
    obtain ⟨hr14, h⟩ := h
    obtain ⟨hg15, h⟩ := h
    refine wp_iastore dX0_append_40 ha13 hr14 hg15 ?_
    change WP _ _ _ _ _ _ _ (sI H8 (tg H8 a13) a13 (hI H8 104 a0 0).toNatClampNeg x3) _
    refine wp_aload_n 0 dX0_append_41 rfl ?_
    refine wp_getC (ci := 0) (j := 3) dX0_append_42 fi_X0_21r rfl rfl ht10 ?_
    change WP _ _ _ _ _ _ (rv (hC (sI H8 (tg H8 a13) a13 (hI H8 104 a0 0).toNatClampNeg x3) 103 a0) :: _) _ _
    refine wp_aload_n 0 dX0_append_45 rfl ?_
    refine wp_getI (ci := 0) (j := 4) dX0_append_46 fi_X0_24r rfl rfl ht10 ?_
    change WP _ _ _ _ _ _ (.int (hI (sI H8 (tg H8 a13) a13 (hI H8 104 a0 0).toNatClampNeg x3) 104 a0 0) :: _) _ _
    refine wp_iload 4 dX0_append_49 rfl ?_
    obtain ⟨a16, ha16, h⟩ := h
    obtain ⟨hr17, h⟩ := h
    obtain ⟨hg18, h⟩ := h
    refine wp_iastore dX0_append_51 ha16 hr17 hg18 ?_
    change WP _ _ _ _ _ _ _ (sI (sI H8 (tg H8 a13) a13 (hI H8 104 a0 0).toNatClampNeg x3) (tg (sI H8 (tg H8 a13) a13 (hI H8 104 a0 0).toNatClampNeg x3) a16) a16 (hI (sI H8 (tg H8 a13) a13 (hI H8 104 a0 0).toNatClampNeg x3) 104 a0 0).toNatClampNeg x4) _
    replace h := h _ rfl
    generalize e20 : (sI (sI H8 (tg H8 a13) a13 (hI H8 104 a0 0).toNatClampNeg x3) (tg (sI H8 (tg H8 a13) a13 (hI H8 104 a0 0).toNatClampNeg x3) a16) a16 (hI (sI H8 (tg H8 a13) a13 (hI H8 104 a0 0).toNatClampNeg x3) 104 a0 0).toNatClampNeg x4) = H19 at h ⊢
    have ht21 : tg H19 a0 = 1 := by rw [← e20]; exact ht10
    have hr22 : isA H19 a2 0 := by rw [← e20]; exact hr11
    have hr23 : isA H19 a5 0 := by rw [← e20]; exact hr12
    have hr24 : isA H19 a13 0 := by rw [← e20]; exact hr14
    have hr25 : isA H19 a16 0 := by rw [← e20]; exact hr17
    refine wp_aload_n 0 dX0_append_52 rfl ?_
    refine wp_dup dX0_append_53 (rv_cat _) ?_
    refine wp_getI (ci := 0) (j := 4) dX0_append_54 fi_X0_24r rfl rfl ht21 ?_
    change WP _ _ _ _ _ _ (.int (hI H19 104 a0 0) :: _) _ _
    refine wp_iconst (v := (1 : Int32)) dX0_append_57 (by decide) ?_
    refine wp_iadd dX0_append_58 ?_
    refine wp_putI (ci := 0) (j := 4) dX0_append_59 fi_X0_24 rfl (fun z => by cases z) rfl ht21 rfl rfl ?_
    change WP _ _ _ _ _ _ _ (sI H19 104 a0 0 ((hI H19 104 a0 0) + (1 : Int32))) _
    refine wp_aload_n 0 dX0_append_62 rfl ?_
    refine wp_callV (ci := 0) (As := []) (rest := []) (mc := 0) (ms := 0) dX0_append_63 lk_X0_51 rfl rfl (by decide) rfl rfl rfl ht21 rfl rfl rfl w_3_163 (Call.weaken h ?_)
    rintro H26 _ ⟨rfl, h⟩
    change WP _ _ _ _ _ _ [] H26 _
    refine wp_iconst (v := (1 : Int32)) dX0_append_66 (by decide) ?_
    exact wp_ireturn (ty := .boolean) dX0_append_67 rfl rfl ⟨true, rfl, h⟩
  · replace h := h.2 c
    refine wp_iconst (v := (0 : Int32)) dX0_append_9 (by decide) ?_
    exact wp_ireturn (ty := .boolean) dX0_append_10 rfl rfl ⟨false, rfl, h⟩
theorem C_X0_append {d : Nat} {q : HP → Bool → Prop} {a0 : Nat} {x1 : Int32} {x2 : Int32} {x3 : Int32} {x4 : Int32} {H : HP} (h : wb_X0_append_0 d q a0 x1 x2 x3 x4 H) : CZ (d + 1) 0 0 mX0_append [rv (some a0), .int x1, .int x2, .int x3, .int x4] H q := by
  refine call_of (by decide +kernel) (by simp [lg_sl, rv_cat, vc_int, vc_long, vc_float, vc_double]) ?_
  have e : lv_args 0 [rv (some a0), .int x1, .int x2, .int x3, .int x4] = [(0, rv (some a0)), (1, .int x1), (2, .int x2), (3, .int x3), (4, .int x4)] := by simp [lv_args, rv_cat, vc_int, vc_long, vc_float, vc_double]
  rw [e]
  exact T_X0_append_0 h
def wb_X0_copy_0 (d : Nat) (q : HP → Prop) (a0 : Nat) (o1 : Option Nat) (H : HP) : Prop :=
  ∃ a1, o1 = some a1 ∧ (tg H a1 = 1 ∧ (tg H a0 = 1 ∧ (∃ a4, (hC (sI H 104 a0 0 (hI H 104 a1 0)) 100 a1) = some a4 ∧ (isA (sI H 104 a0 0 (hI H 104 a1 0)) a4 0 ∧ (∃ a6, (hC (sI H 104 a0 0 (hI H 104 a1 0)) 100 a0) = some a6 ∧ (isA (sI H 104 a0 0 (hI H 104 a1 0)) a6 0 ∧ ((0 : Int32).toNatClampNeg + (16 : Int32).toNatClampNeg ≤ ln (sI H 104 a0 0 (hI H 104 a1 0)) a4 ∧ ((0 : Int32).toNatClampNeg + (16 : Int32).toNatClampNeg ≤ ln (sI H 104 a0 0 (hI H 104 a1 0)) a6 ∧ (∀ H10, (fI (sI H 104 a0 0 (hI H 104 a1 0)) (tg (sI H 104 a0 0 (hI H 104 a1 0)) a6) a6 (va_cpy (hI (sI H 104 a0 0 (hI H 104 a1 0)) (tg (sI H 104 a0 0 (hI H 104 a1 0)) a4) a4) (hI (sI H 104 a0 0 (hI H 104 a1 0)) (tg (sI H 104 a0 0 (hI H 104 a1 0)) a6) a6) (0 : Int32).toNatClampNeg (0 : Int32).toNatClampNeg (16 : Int32).toNatClampNeg)) = H10 → (∃ a16, (hC H10 101 a1) = some a16 ∧ (isA H10 a16 0 ∧ (∃ a18, (hC H10 101 a0) = some a18 ∧ (isA H10 a18 0 ∧ ((0 : Int32).toNatClampNeg + (16 : Int32).toNatClampNeg ≤ ln H10 a16 ∧ ((0 : Int32).toNatClampNeg + (16 : Int32).toNatClampNeg ≤ ln H10 a18 ∧ (∃ a22, (hC (fI H10 (tg H10 a18) a18 (va_cpy (hI H10 (tg H10 a16) a16) (hI H10 (tg H10 a18) a18) (0 : Int32).toNatClampNeg (0 : Int32).toNatClampNeg (16 : Int32).toNatClampNeg)) 102 a1) = some a22 ∧ (isA (fI H10 (tg H10 a18) a18 (va_cpy (hI H10 (tg H10 a16) a16) (hI H10 (tg H10 a18) a18) (0 : Int32).toNatClampNeg (0 : Int32).toNatClampNeg (16 : Int32).toNatClampNeg)) a22 0 ∧ (∃ a24, (hC (fI H10 (tg H10 a18) a18 (va_cpy (hI H10 (tg H10 a16) a16) (hI H10 (tg H10 a18) a18) (0 : Int32).toNatClampNeg (0 : Int32).toNatClampNeg (16 : Int32).toNatClampNeg)) 102 a0) = some a24 ∧ (isA (fI H10 (tg H10 a18) a18 (va_cpy (hI H10 (tg H10 a16) a16) (hI H10 (tg H10 a18) a18) (0 : Int32).toNatClampNeg (0 : Int32).toNatClampNeg (16 : Int32).toNatClampNeg)) a24 0 ∧ ((0 : Int32).toNatClampNeg + (16 : Int32).toNatClampNeg ≤ ln (fI H10 (tg H10 a18) a18 (va_cpy (hI H10 (tg H10 a16) a16) (hI H10 (tg H10 a18) a18) (0 : Int32).toNatClampNeg (0 : Int32).toNatClampNeg (16 : Int32).toNatClampNeg)) a22 ∧ ((0 : Int32).toNatClampNeg + (16 : Int32).toNatClampNeg ≤ ln (fI H10 (tg H10 a18) a18 (va_cpy (hI H10 (tg H10 a16) a16) (hI H10 (tg H10 a18) a18) (0 : Int32).toNatClampNeg (0 : Int32).toNatClampNeg (16 : Int32).toNatClampNeg)) a24 ∧ (∀ H28, (fI (fI H10 (tg H10 a18) a18 (va_cpy (hI H10 (tg H10 a16) a16) (hI H10 (tg H10 a18) a18) (0 : Int32).toNatClampNeg (0 : Int32).toNatClampNeg (16 : Int32).toNatClampNeg)) (tg (fI H10 (tg H10 a18) a18 (va_cpy (hI H10 (tg H10 a16) a16) (hI H10 (tg H10 a18) a18) (0 : Int32).toNatClampNeg (0 : Int32).toNatClampNeg (16 : Int32).toNatClampNeg)) a24) a24 (va_cpy (hI (fI H10 (tg H10 a18) a18 (va_cpy (hI H10 (tg H10 a16) a16) (hI H10 (tg H10 a18) a18) (0 : Int32).toNatClampNeg (0 : Int32).toNatClampNeg (16 : Int32).toNatClampNeg)) (tg (fI H10 (tg H10 a18) a18 (va_cpy (hI H10 (tg H10 a16) a16) (hI H10 (tg H10 a18) a18) (0 : Int32).toNatClampNeg (0 : Int32).toNatClampNeg (16 : Int32).toNatClampNeg)) a22) a22) (hI (fI H10 (tg H10 a18) a18 (va_cpy (hI H10 (tg H10 a16) a16) (hI H10 (tg H10 a18) a18) (0 : Int32).toNatClampNeg (0 : Int32).toNatClampNeg (16 : Int32).toNatClampNeg)) (tg (fI H10 (tg H10 a18) a18 (va_cpy (hI H10 (tg H10 a16) a16) (hI H10 (tg H10 a18) a18) (0 : Int32).toNatClampNeg (0 : Int32).toNatClampNeg (16 : Int32).toNatClampNeg)) a24) a24) (0 : Int32).toNatClampNeg (0 : Int32).toNatClampNeg (16 : Int32).toNatClampNeg)) = H28 → (∃ a38, (hC H28 103 a1) = some a38 ∧ (isA H28 a38 0 ∧ (∃ a40, (hC H28 103 a0) = some a40 ∧ (isA H28 a40 0 ∧ ((0 : Int32).toNatClampNeg + (16 : Int32).toNatClampNeg ≤ ln H28 a38 ∧ ((0 : Int32).toNatClampNeg + (16 : Int32).toNatClampNeg ≤ ln H28 a40 ∧ (CV d 0 0 mX0_judgeAll [rv (some a0)] (fI H28 (tg H28 a40) a40 (va_cpy (hI H28 (tg H28 a38) a38) (hI H28 (tg H28 a40) a40) (0 : Int32).toNatClampNeg (0 : Int32).toNatClampNeg (16 : Int32).toNatClampNeg)) (fun H44 => q H44))))))))))))))))))))))))))))))
set_option maxRecDepth 40000 in
set_option maxHeartbeats 4000000 in
theorem T_X0_copy_0 {d : Nat} {q : HP → Prop} {a0 : Nat} {o1 : Option Nat} {H : HP} (h : wb_X0_copy_0 d q a0 o1 H) : WP (d + 1) mX0_copy 0 0 0 [(0, rv (some a0)), (1, rv o1)] [] H (qV q) := by
  unfold wb_X0_copy_0 at h
  refine wp_aload_n 0 dX0_copy_0 rfl ?_
  refine wp_aload_n 1 dX0_copy_1 rfl ?_
  obtain ⟨a1, ha1, h⟩ := h
  obtain ⟨ht2, h⟩ := h
  refine wp_getI (ci := 0) (j := 4) dX0_copy_2 fi_X0_24r rfl ha1 ht2 ?_
  change WP _ _ _ _ _ _ (.int (hI H 104 a1 0) :: _) _ _
  obtain ⟨ht3, h⟩ := h
  refine wp_putI (ci := 0) (j := 4) dX0_copy_5 fi_X0_24 rfl (fun z => by cases z) rfl ht3 rfl rfl ?_
  change WP _ _ _ _ _ _ _ (sI H 104 a0 0 (hI H 104 a1 0)) _
  refine wp_aload_n 1 dX0_copy_8 rfl ?_
  refine wp_getC (ci := 0) (j := 0) dX0_copy_9 fi_X0_9r rfl ha1 ht2 ?_
  change WP _ _ _ _ _ _ (rv (hC (sI H 104 a0 0 (hI H 104 a1 0)) 100 a1) :: _) _ _
  refine wp_iconst (v := (0 : Int32)) dX0_copy_12 (by decide) ?_
  refine wp_aload_n 0 dX0_copy_13 rfl ?_
  refine wp_getC (ci := 0) (j := 0) dX0_copy_14 fi_X0_9r rfl rfl ht3 ?_
  change WP _ _ _ _ _ _ (rv (hC (sI H 104 a0 0 (hI H 104 a1 0)) 100 a0) :: _) _ _
  refine wp_iconst (v := (0 : Int32)) dX0_copy_17 (by decide) ?_
  refine wp_bipush (v := (16 : Int32)) dX0_copy_18 (by decide) ?_
  obtain ⟨a4, ha4, h⟩ := h
  obtain ⟨hr5, h⟩ := h
  obtain ⟨a6, ha6, h⟩ := h
  obtain ⟨hr7, h⟩ := h
  obtain ⟨hg8, h⟩ := h
  obtain ⟨hg9, h⟩ := h
  refine wp_copyI0 dX0_copy_20 w_5_204 w_3_134 w_3_133 w_1_19 ha4 hr5 ha6 hr7 (by decide) (by decide) (by decide) hg8 hg9 (by decide) (by omega) ?_
  replace h := h _ rfl
  generalize e11 : (fI (sI H 104 a0 0 (hI H 104 a1 0)) (tg (sI H 104 a0 0 (hI H 104 a1 0)) a6) a6 (va_cpy (hI (sI H 104 a0 0 (hI H 104 a1 0)) (tg (sI H 104 a0 0 (hI H 104 a1 0)) a4) a4) (hI (sI H 104 a0 0 (hI H 104 a1 0)) (tg (sI H 104 a0 0 (hI H 104 a1 0)) a6) a6) (0 : Int32).toNatClampNeg (0 : Int32).toNatClampNeg (16 : Int32).toNatClampNeg)) = H10 at h ⊢
  have ht12 : tg H10 a1 = 1 := by rw [← e11]; exact ht2
  have ht13 : tg H10 a0 = 1 := by rw [← e11]; exact ht3
  have hr14 : isA H10 a4 0 := by rw [← e11]; exact hr5
  have hr15 : isA H10 a6 0 := by rw [← e11]; exact hr7
  refine wp_aload_n 1 dX0_copy_23 rfl ?_
  refine wp_getC (ci := 0) (j := 1) dX0_copy_24 fi_X0_15r rfl ha1 ht12 ?_
  change WP _ _ _ _ _ _ (rv (hC H10 101 a1) :: _) _ _
  refine wp_iconst (v := (0 : Int32)) dX0_copy_27 (by decide) ?_
  refine wp_aload_n 0 dX0_copy_28 rfl ?_
  refine wp_getC (ci := 0) (j := 1) dX0_copy_29 fi_X0_15r rfl rfl ht13 ?_
  change WP _ _ _ _ _ _ (rv (hC H10 101 a0) :: _) _ _
  refine wp_iconst (v := (0 : Int32)) dX0_copy_32 (by decide) ?_
  refine wp_bipush (v := (16 : Int32)) dX0_copy_33 (by decide) ?_
  obtain ⟨a16, ha16, h⟩ := h
  obtain ⟨hr17, h⟩ := h
  obtain ⟨a18, ha18, h⟩ := h
  obtain ⟨hr19, h⟩ := h
  obtain ⟨hg20, h⟩ := h
  obtain ⟨hg21, h⟩ := h
  refine wp_copyI0 dX0_copy_35 w_5_204 w_3_134 w_3_133 w_1_19 ha16 hr17 ha18 hr19 (by decide) (by decide) (by decide) hg20 hg21 (by decide) (by omega) ?_
  refine wp_aload_n 1 dX0_copy_38 rfl ?_
  refine wp_getC (ci := 0) (j := 2) dX0_copy_39 fi_X0_18r rfl ha1 ht12 ?_
  change WP _ _ _ _ _ _ (rv (hC (fI H10 (tg H10 a18) a18 (va_cpy (hI H10 (tg H10 a16) a16) (hI H10 (tg H10 a18) a18) (0 : Int32).toNatClampNeg (0 : Int32).toNatClampNeg (16 : Int32).toNatClampNeg)) 102 a1) :: _) _ _
  refine wp_iconst (v := (0 : Int32)) dX0_copy_42 (by decide) ?_
  refine wp_aload_n 0 dX0_copy_43 rfl ?_
  refine wp_getC (ci := 0) (j := 2) dX0_copy_44 fi_X0_18r rfl rfl ht13 ?_
  change WP _ _ _ _ _ _ (rv (hC (fI H10 (tg H10 a18) a18 (va_cpy (hI H10 (tg H10 a16) a16) (hI H10 (tg H10 a18) a18) (0 : Int32).toNatClampNeg (0 : Int32).toNatClampNeg (16 : Int32).toNatClampNeg)) 102 a0) :: _) _ _
  refine wp_iconst (v := (0 : Int32)) dX0_copy_47 (by decide) ?_
  refine wp_bipush (v := (16 : Int32)) dX0_copy_48 (by decide) ?_
  obtain ⟨a22, ha22, h⟩ := h
  obtain ⟨hr23, h⟩ := h
  obtain ⟨a24, ha24, h⟩ := h
  obtain ⟨hr25, h⟩ := h
  obtain ⟨hg26, h⟩ := h
  obtain ⟨hg27, h⟩ := h
  refine wp_copyI0 dX0_copy_50 w_5_204 w_3_134 w_3_133 w_1_19 ha22 hr23 ha24 hr25 (by decide) (by decide) (by decide) hg26 hg27 (by decide) (by omega) ?_
  replace h := h _ rfl
  generalize e29 : (fI (fI H10 (tg H10 a18) a18 (va_cpy (hI H10 (tg H10 a16) a16) (hI H10 (tg H10 a18) a18) (0 : Int32).toNatClampNeg (0 : Int32).toNatClampNeg (16 : Int32).toNatClampNeg)) (tg (fI H10 (tg H10 a18) a18 (va_cpy (hI H10 (tg H10 a16) a16) (hI H10 (tg H10 a18) a18) (0 : Int32).toNatClampNeg (0 : Int32).toNatClampNeg (16 : Int32).toNatClampNeg)) a24) a24 (va_cpy (hI (fI H10 (tg H10 a18) a18 (va_cpy (hI H10 (tg H10 a16) a16) (hI H10 (tg H10 a18) a18) (0 : Int32).toNatClampNeg (0 : Int32).toNatClampNeg (16 : Int32).toNatClampNeg)) (tg (fI H10 (tg H10 a18) a18 (va_cpy (hI H10 (tg H10 a16) a16) (hI H10 (tg H10 a18) a18) (0 : Int32).toNatClampNeg (0 : Int32).toNatClampNeg (16 : Int32).toNatClampNeg)) a22) a22) (hI (fI H10 (tg H10 a18) a18 (va_cpy (hI H10 (tg H10 a16) a16) (hI H10 (tg H10 a18) a18) (0 : Int32).toNatClampNeg (0 : Int32).toNatClampNeg (16 : Int32).toNatClampNeg)) (tg (fI H10 (tg H10 a18) a18 (va_cpy (hI H10 (tg H10 a16) a16) (hI H10 (tg H10 a18) a18) (0 : Int32).toNatClampNeg (0 : Int32).toNatClampNeg (16 : Int32).toNatClampNeg)) a24) a24) (0 : Int32).toNatClampNeg (0 : Int32).toNatClampNeg (16 : Int32).toNatClampNeg)) = H28 at h ⊢
  have ht30 : tg H28 a1 = 1 := by rw [← e29]; exact ht12
  have ht31 : tg H28 a0 = 1 := by rw [← e29]; exact ht13
  have hr32 : isA H28 a4 0 := by rw [← e29]; exact hr14
  have hr33 : isA H28 a6 0 := by rw [← e29]; exact hr15
  have hr34 : isA H28 a16 0 := by rw [← e29]; exact hr17
  have hr35 : isA H28 a18 0 := by rw [← e29]; exact hr19
  have hr36 : isA H28 a22 0 := by rw [← e29]; exact hr23
  have hr37 : isA H28 a24 0 := by rw [← e29]; exact hr25
  refine wp_aload_n 1 dX0_copy_53 rfl ?_
  refine wp_getC (ci := 0) (j := 3) dX0_copy_54 fi_X0_21r rfl ha1 ht30 ?_
  change WP _ _ _ _ _ _ (rv (hC H28 103 a1) :: _) _ _
  refine wp_iconst (v := (0 : Int32)) dX0_copy_57 (by decide) ?_
  refine wp_aload_n 0 dX0_copy_58 rfl ?_
  refine wp_getC (ci := 0) (j := 3) dX0_copy_59 fi_X0_21r rfl rfl ht31 ?_
  change WP _ _ _ _ _ _ (rv (hC H28 103 a0) :: _) _ _
  refine wp_iconst (v := (0 : Int32)) dX0_copy_62 (by decide) ?_
  refine wp_bipush (v := (16 : Int32)) dX0_copy_63 (by decide) ?_
  obtain ⟨a38, ha38, h⟩ := h
  obtain ⟨hr39, h⟩ := h
  obtain ⟨a40, ha40, h⟩ := h
  obtain ⟨hr41, h⟩ := h
  obtain ⟨hg42, h⟩ := h
  obtain ⟨hg43, h⟩ := h
  refine wp_copyI0 dX0_copy_65 w_5_204 w_3_134 w_3_133 w_1_19 ha38 hr39 ha40 hr41 (by decide) (by decide) (by decide) hg42 hg43 (by decide) (by omega) ?_
  refine wp_aload_n 0 dX0_copy_68 rfl ?_
  refine wp_callV (ci := 0) (As := []) (rest := []) (mc := 0) (ms := 0) dX0_copy_69 lk_X0_51 rfl rfl (by decide) rfl rfl rfl ht31 rfl rfl rfl w_3_163 (Call.weaken h ?_)
  rintro H44 _ ⟨rfl, h⟩
  change WP _ _ _ _ _ _ [] H44 _
  exact wp_return dX0_copy_72 rfl ⟨rfl, h⟩
theorem C_X0_copy {d : Nat} {q : HP → Prop} {a0 : Nat} {o1 : Option Nat} {H : HP} (h : wb_X0_copy_0 d q a0 o1 H) : CV (d + 1) 0 0 mX0_copy [rv (some a0), rv o1] H q := by
  refine call_of (by decide +kernel) (by simp [lg_sl, rv_cat, vc_int, vc_long, vc_float, vc_double]) ?_
  have e : lv_args 0 [rv (some a0), rv o1] = [(0, rv (some a0)), (1, rv o1)] := by simp [lv_args, rv_cat, vc_int, vc_long, vc_float, vc_double]
  rw [e]
  exact T_X0_copy_0 h
/-- UnitProver$Claims.goFrom(II)I: the loop at 37 -/
def L_X0_goFrom_37 (d : Nat) (q : HP → Int32 → Prop) (a0 : Nat) (x2 : Int32) (x3 : Int32) (x4 : Int32) (H : HP) : Prop := WP (d + 1) mX0_goFrom 0 0 37 [(0, rv (some a0)), (2, .int x2), (3, .int x3), (4, .int x4)] [] H (qI q)
def wb_X0_goFrom_0 (d : Nat) (q : HP → Int32 → Prop) (a0 : Nat) (x1 : Int32) (x2 : Int32) (H : HP) : Prop :=
  tg H a0 = 1 ∧ (∃ a3, (hC H 109 a0) = some a3 ∧ (tg H a3 = 4 ∧ (CV d 0 0 mX3_set [rv (hC H 109 a0), .long (1 : Int64), .long (1 : Int64)] H (fun H2 => tg H2 a0 = 1 ∧ (∃ a6, (hC H2 107 a0) = some a6 ∧ (isA H2 a6 0 ∧ (vp_in x1 (ln H2 a6) ∧ (vp_in x2 (ln H2 a6) ∧ (((hI H2 (tg H2 a6) a6 x1.toNatClampNeg) = (hI H2 (tg H2 a6) a6 x2.toNatClampNeg) → CV d 0 0 mX0_spreadFrom [rv (some a0), .int x2] H2 (fun H10 => L_X0_goFrom_37 d q a0 x2 x1 (0 : Int32) H10)) ∧ (¬ ((hI H2 (tg H2 a6) a6 x1.toNatClampNeg) = (hI H2 (tg H2 a6) a6 x2.toNatClampNeg)) → q H2 (-5 : Int32)))))))))))
set_option maxRecDepth 40000 in
set_option maxHeartbeats 4000000 in
theorem T_X0_goFrom_0 {d : Nat} {q : HP → Int32 → Prop} {a0 : Nat} {x1 : Int32} {x2 : Int32} {H : HP} (h : wb_X0_goFrom_0 d q a0 x1 x2 H) : WP (d + 1) mX0_goFrom 0 0 0 [(0, rv (some a0)), (1, .int x1), (2, .int x2)] [] H (qI q) := by
  unfold wb_X0_goFrom_0 at h
  refine wp_aload_n 0 dX0_goFrom_0 rfl ?_
  obtain ⟨ht1, h⟩ := h
  refine wp_getC (ci := 0) (j := 9) dX0_goFrom_1 fi_X0_44r rfl rfl ht1 ?_
  change WP _ _ _ _ _ _ (rv (hC H 109 a0) :: _) _ _
  refine wp_lconst (v := (1 : Int64)) dX0_goFrom_4 (by decide) ?_
  refine wp_lconst (v := (1 : Int64)) dX0_goFrom_5 (by decide) ?_
  obtain ⟨a3, ha3, h⟩ := h
  obtain ⟨ht4, h⟩ := h
  refine wp_callV (ci := 3) (As := [.long (1 : Int64), .long (1 : Int64)]) (rest := []) (mc := 0) (ms := 0) dX0_goFrom_6 lk_X0_76 rfl rfl (by decide) ha3 rfl rfl ht4 rfl rfl rfl w_3_179 (Call.weaken h ?_)
  rintro H2 _ ⟨rfl, h⟩
  change WP _ _ _ _ _ _ [] H2 _
  refine wp_aload_n 0 dX0_goFrom_9 rfl ?_
  obtain ⟨ht5, h⟩ := h
  refine wp_getC (ci := 0) (j := 7) dX0_goFrom_10 fi_X0_35r rfl rfl ht5 ?_
  change WP _ _ _ _ _ _ (rv (hC H2 107 a0) :: _) _ _
  refine wp_iload_n 1 dX0_goFrom_13 rfl ?_
  obtain ⟨a6, ha6, h⟩ := h
  obtain ⟨hr7, h⟩ := h
  obtain ⟨hg8, h⟩ := h
  refine wp_iaload dX0_goFrom_14 ha6 hr7 hg8 ?_
  refine wp_aload_n 0 dX0_goFrom_15 rfl ?_
  refine wp_getC (ci := 0) (j := 7) dX0_goFrom_16 fi_X0_35r rfl rfl ht5 ?_
  change WP _ _ _ _ _ _ (rv (hC H2 107 a0) :: _) _ _
  refine wp_iload_n 2 dX0_goFrom_19 rfl ?_
  obtain ⟨hg9, h⟩ := h
  refine wp_iaload dX0_goFrom_20 ha6 hr7 hg9 ?_
  refine wp_icmp_eq (tgt := 27) dX0_goFrom_21 rfl (fun c => ?_) (fun c => ?_)
  · replace h := h.1 c
    refine wp_aload_n 0 dX0_goFrom_27 rfl ?_
    refine wp_iload_n 2 dX0_goFrom_28 rfl ?_
    refine wp_callV (ci := 0) (As := [.int x2]) (rest := []) (mc := 0) (ms := 0) dX0_goFrom_29 lk_X0_84 rfl rfl (by decide) rfl rfl rfl ht5 rfl rfl rfl w_3_180 (Call.weaken h ?_)
    rintro H10 _ ⟨rfl, h⟩
    change WP _ _ _ _ _ _ [] H10 _
    refine wp_iload_n 1 dX0_goFrom_32 rfl ?_
    refine wp_istore_n (ls' := [(3, .int x1), (0, rv (some a0)), (1, .int x1), (2, .int x2)]) dX0_goFrom_33 (by decide) rfl ?_
    refine wp_iconst (v := (0 : Int32)) dX0_goFrom_34 (by decide) ?_
    refine wp_istore (ls' := [(4, .int (0 : Int32)), (3, .int x1), (0, rv (some a0)), (1, .int x1), (2, .int x2)]) dX0_goFrom_35 (by decide) rfl ?_
    refine wp_sub (ls' := [(0, rv (some a0)), (2, .int x2), (3, .int x1), (4, .int (0 : Int32))]) [2, 4, 1, 0] rfl ?_
    exact h
  · replace h := h.2 c
    refine wp_bipush (v := (-5 : Int32)) dX0_goFrom_24 (by decide) ?_
    exact wp_ireturn (ty := .int) dX0_goFrom_26 rfl rfl ⟨_, rfl, h⟩
def wb_X0_goFrom_120 (d : Nat) (q : HP → Int32 → Prop) (a0 : Nat) (x2 : Int32) (x4 : Int32) (x5 : Int32) (x6 : Int32) (s0 : Option Nat) (s1 : Int64) (H : HP) : Prop :=
  (x6 = 0 → tg H a0 = 1 ∧ (∃ a2, (hC H 102 a0) = some a2 ∧ (isA H a2 0 ∧ (vp_in x5 (ln H a2) ∧ (∃ a6, s0 = some a6 ∧ (tg H a6 = 4 ∧ (CV d 0 0 mX3_set [rv s0, .long s1, .long ((hI H (tg H a2) a2 x5.toNatClampNeg).toInt64)] H (fun H5 => tg H5 a0 = 1 ∧ (∃ a9, (hC H5 110 a0) = some a9 ∧ (tg H5 a9 = 4 ∧ (∃ a12, (hC H5 109 a0) = some a12 ∧ (tg H5 a12 = 4 ∧ (CZ d 0 0 mX3_multiplyBy [rv (hC H5 109 a0), .long (hL H5 400 a9 0), .long (hL H5 401 a9 0)] H5 (fun H11 b14 => (b14 = true → (x6 = 0 → tg H11 a0 = 1 ∧ (∃ a16, (hC H11 100 a0) = some a16 ∧ (isA H11 a16 0 ∧ (vp_in x5 (ln H11 a16) ∧ (L_X0_goFrom_37 d q a0 x2 (hI H11 (tg H11 a16) a16 x5.toNatClampNeg) (x4 + 1) H11))))) ∧ (¬ (x6 = 0) → tg H11 a0 = 1 ∧ (∃ a20, (hC H11 101 a0) = some a20 ∧ (isA H11 a20 0 ∧ (vp_in x5 (ln H11 a20) ∧ (L_X0_goFrom_37 d q a0 x2 (hI H11 (tg H11 a20) a20 x5.toNatClampNeg) (x4 + 1) H11)))))) ∧ (b14 = false → q H11 (-15 : Int32)))))))))))))))) ∧ (¬ (x6 = 0) → tg H a0 = 1 ∧ (∃ a24, (hC H 103 a0) = some a24 ∧ (isA H a24 0 ∧ (vp_in x5 (ln H a24) ∧ (∃ a28, s0 = some a28 ∧ (tg H a28 = 4 ∧ (CV d 0 0 mX3_set [rv s0, .long s1, .long ((hI H (tg H a24) a24 x5.toNatClampNeg).toInt64)] H (fun H27 => tg H27 a0 = 1 ∧ (∃ a31, (hC H27 110 a0) = some a31 ∧ (tg H27 a31 = 4 ∧ (∃ a34, (hC H27 109 a0) = some a34 ∧ (tg H27 a34 = 4 ∧ (CZ d 0 0 mX3_multiplyBy [rv (hC H27 109 a0), .long (hL H27 400 a31 0), .long (hL H27 401 a31 0)] H27 (fun H33 b36 => (b36 = true → (x6 = 0 → tg H33 a0 = 1 ∧ (∃ a38, (hC H33 100 a0) = some a38 ∧ (isA H33 a38 0 ∧ (vp_in x5 (ln H33 a38) ∧ (L_X0_goFrom_37 d q a0 x2 (hI H33 (tg H33 a38) a38 x5.toNatClampNeg) (x4 + 1) H33))))) ∧ (¬ (x6 = 0) → tg H33 a0 = 1 ∧ (∃ a42, (hC H33 101 a0) = some a42 ∧ (isA H33 a42 0 ∧ (vp_in x5 (ln H33 a42) ∧ (L_X0_goFrom_37 d q a0 x2 (hI H33 (tg H33 a42) a42 x5.toNatClampNeg) (x4 + 1) H33)))))) ∧ (b36 = false → q H33 (-15 : Int32))))))))))))))))
set_option maxRecDepth 40000 in
set_option maxHeartbeats 4000000 in
theorem T_X0_goFrom_120 {d : Nat} {q : HP → Int32 → Prop} {a0 : Nat} {x2 : Int32} {x4 : Int32} {x5 : Int32} {x6 : Int32} {s0 : Option Nat} {s1 : Int64} {H : HP} (h : wb_X0_goFrom_120 d q a0 x2 x4 x5 x6 s0 s1 H) : WP (d + 1) mX0_goFrom 0 0 120 [(0, rv (some a0)), (2, .int x2), (4, .int x4), (5, .int x5), (6, .int x6)] [.long s1, rv s0] H (qI q) := by
  unfold wb_X0_goFrom_120 at h
  refine wp_iload 4 dX0_goFrom_120 rfl ?_
  refine wp_if_eq (tgt := 136) dX0_goFrom_122 rfl (fun c => ?_) (fun c => ?_)
  · replace h := h.1 c
    refine wp_aload_n 0 dX0_goFrom_136 rfl ?_
    obtain ⟨ht1, h⟩ := h
    refine wp_getC (ci := 0) (j := 2) dX0_goFrom_137 fi_X0_18r rfl rfl ht1 ?_
    change WP _ _ _ _ _ _ (rv (hC H 102 a0) :: _) _ _
    refine wp_iload 3 dX0_goFrom_140 rfl ?_
    obtain ⟨a2, ha2, h⟩ := h
    obtain ⟨hr3, h⟩ := h
    obtain ⟨hg4, h⟩ := h
    refine wp_iaload dX0_goFrom_142 ha2 hr3 hg4 ?_
    refine wp_i2l dX0_goFrom_143 ?_
    obtain ⟨a6, ha6, h⟩ := h
    obtain ⟨ht7, h⟩ := h
    refine wp_callV (ci := 3) (As := [.long s1, .long ((hI H (tg H a2) a2 x5.toNatClampNeg).toInt64)]) (rest := []) (mc := 0) (ms := 0) dX0_goFrom_144 lk_X0_76 rfl rfl (by decide) ha6 rfl rfl ht7 rfl rfl rfl w_3_179 (Call.weaken h ?_)
    rintro H5 _ ⟨rfl, h⟩
    change WP _ _ _ _ _ _ [] H5 _
    refine wp_aload_n 0 dX0_goFrom_147 rfl ?_
    obtain ⟨ht8, h⟩ := h
    refine wp_getC (ci := 0) (j := 9) dX0_goFrom_148 fi_X0_44r rfl rfl ht8 ?_
    change WP _ _ _ _ _ _ (rv (hC H5 109 a0) :: _) _ _
    refine wp_aload_n 0 dX0_goFrom_151 rfl ?_
    refine wp_getC (ci := 0) (j := 10) dX0_goFrom_152 fi_X0_48r rfl rfl ht8 ?_
    change WP _ _ _ _ _ _ (rv (hC H5 110 a0) :: _) _ _
    obtain ⟨a9, ha9, h⟩ := h
    obtain ⟨ht10, h⟩ := h
    refine wp_getL (ci := 3) (j := 0) dX0_goFrom_155 fi_X0_87r rfl ha9 ht10 ?_
    change WP _ _ _ _ _ _ (.long (hL H5 400 a9 0) :: _) _ _
    refine wp_aload_n 0 dX0_goFrom_158 rfl ?_
    refine wp_getC (ci := 0) (j := 10) dX0_goFrom_159 fi_X0_48r rfl rfl ht8 ?_
    change WP _ _ _ _ _ _ (rv (hC H5 110 a0) :: _) _ _
    refine wp_getL (ci := 3) (j := 1) dX0_goFrom_162 fi_X0_91r rfl ha9 ht10 ?_
    change WP _ _ _ _ _ _ (.long (hL H5 401 a9 0) :: _) _ _
    obtain ⟨a12, ha12, h⟩ := h
    obtain ⟨ht13, h⟩ := h
    refine wp_callV (ci := 3) (As := [.long (hL H5 400 a9 0), .long (hL H5 401 a9 0)]) (rest := []) (mc := 0) (ms := 0) dX0_goFrom_165 lk_X0_94 rfl rfl (by decide) ha12 rfl rfl ht13 rfl rfl rfl w_3_184 (Call.weaken h ?_)
    rintro H11 _ ⟨b14, rfl, h⟩
    change WP _ _ _ _ _ _ [.int (bI b14)] H11 _
    refine wp_if_ne (tgt := 174) dX0_goFrom_168 rfl (fun c => ?_) (fun c => ?_)
    · replace h := h.1 (bI_1.mp c)
      refine wp_iload 4 dX0_goFrom_174 rfl ?_
      refine wp_if_eq (tgt := 189) dX0_goFrom_176 rfl (fun c => ?_) (fun c => ?_)
      · replace h := h.1 c
        refine wp_aload_n 0 dX0_goFrom_189 rfl ?_
        obtain ⟨ht15, h⟩ := h
        refine wp_getC (ci := 0) (j := 0) dX0_goFrom_190 fi_X0_9r rfl rfl ht15 ?_
        change WP _ _ _ _ _ _ (rv (hC H11 100 a0) :: _) _ _
        refine wp_iload 3 dX0_goFrom_193 rfl ?_
        obtain ⟨a16, ha16, h⟩ := h
        obtain ⟨hr17, h⟩ := h
        obtain ⟨hg18, h⟩ := h
        refine wp_iaload dX0_goFrom_195 ha16 hr17 hg18 ?_
        refine wp_istore_n (ls' := [(3, .int (hI H11 (tg H11 a16) a16 x5.toNatClampNeg)), (0, rv (some a0)), (2, .int x2), (4, .int x4), (5, .int x5), (6, .int x6)]) dX0_goFrom_196 (by decide) rfl ?_
        refine wp_iinc (v := (x4 + 1)) (ls' := [(4, .int (x4 + 1)), (3, .int (hI H11 (tg H11 a16) a16 x5.toNatClampNeg)), (0, rv (some a0)), (2, .int x2), (5, .int x5), (6, .int x6)]) 3 dX0_goFrom_197 rfl rfl (by decide) rfl ?_
        refine wp_goto (tgt := 37) dX0_goFrom_200 rfl ?_
        refine wp_sub (ls' := [(0, rv (some a0)), (2, .int x2), (3, .int (hI H11 (tg H11 a16) a16 x5.toNatClampNeg)), (4, .int (x4 + 1))]) [2, 3, 1, 0] rfl ?_
        exact h
      · replace h := h.2 c
        refine wp_aload_n 0 dX0_goFrom_179 rfl ?_
        obtain ⟨ht19, h⟩ := h
        refine wp_getC (ci := 0) (j := 1) dX0_goFrom_180 fi_X0_15r rfl rfl ht19 ?_
        change WP _ _ _ _ _ _ (rv (hC H11 101 a0) :: _) _ _
        refine wp_iload 3 dX0_goFrom_183 rfl ?_
        obtain ⟨a20, ha20, h⟩ := h
        obtain ⟨hr21, h⟩ := h
        obtain ⟨hg22, h⟩ := h
        refine wp_iaload dX0_goFrom_185 ha20 hr21 hg22 ?_
        refine wp_goto (tgt := 196) dX0_goFrom_186 rfl ?_
        refine wp_istore_n (ls' := [(3, .int (hI H11 (tg H11 a20) a20 x5.toNatClampNeg)), (0, rv (some a0)), (2, .int x2), (4, .int x4), (5, .int x5), (6, .int x6)]) dX0_goFrom_196 (by decide) rfl ?_
        refine wp_iinc (v := (x4 + 1)) (ls' := [(4, .int (x4 + 1)), (3, .int (hI H11 (tg H11 a20) a20 x5.toNatClampNeg)), (0, rv (some a0)), (2, .int x2), (5, .int x5), (6, .int x6)]) 3 dX0_goFrom_197 rfl rfl (by decide) rfl ?_
        refine wp_goto (tgt := 37) dX0_goFrom_200 rfl ?_
        refine wp_sub (ls' := [(0, rv (some a0)), (2, .int x2), (3, .int (hI H11 (tg H11 a20) a20 x5.toNatClampNeg)), (4, .int (x4 + 1))]) [2, 3, 1, 0] rfl ?_
        exact h
    · replace h := h.2 (bI_0.mp c)
      refine wp_bipush (v := (-15 : Int32)) dX0_goFrom_171 (by decide) ?_
      exact wp_ireturn (ty := .int) dX0_goFrom_173 rfl rfl ⟨_, rfl, h⟩
  · replace h := h.2 c
    refine wp_aload_n 0 dX0_goFrom_125 rfl ?_
    obtain ⟨ht23, h⟩ := h
    refine wp_getC (ci := 0) (j := 3) dX0_goFrom_126 fi_X0_21r rfl rfl ht23 ?_
    change WP _ _ _ _ _ _ (rv (hC H 103 a0) :: _) _ _
    refine wp_iload 3 dX0_goFrom_129 rfl ?_
    obtain ⟨a24, ha24, h⟩ := h
    obtain ⟨hr25, h⟩ := h
    obtain ⟨hg26, h⟩ := h
    refine wp_iaload dX0_goFrom_131 ha24 hr25 hg26 ?_
    refine wp_i2l dX0_goFrom_132 ?_
    refine wp_goto (tgt := 144) dX0_goFrom_133 rfl ?_
    obtain ⟨a28, ha28, h⟩ := h
    obtain ⟨ht29, h⟩ := h
    refine wp_callV (ci := 3) (As := [.long s1, .long ((hI H (tg H a24) a24 x5.toNatClampNeg).toInt64)]) (rest := []) (mc := 0) (ms := 0) dX0_goFrom_144 lk_X0_76 rfl rfl (by decide) ha28 rfl rfl ht29 rfl rfl rfl w_3_179 (Call.weaken h ?_)
    rintro H27 _ ⟨rfl, h⟩
    change WP _ _ _ _ _ _ [] H27 _
    refine wp_aload_n 0 dX0_goFrom_147 rfl ?_
    obtain ⟨ht30, h⟩ := h
    refine wp_getC (ci := 0) (j := 9) dX0_goFrom_148 fi_X0_44r rfl rfl ht30 ?_
    change WP _ _ _ _ _ _ (rv (hC H27 109 a0) :: _) _ _
    refine wp_aload_n 0 dX0_goFrom_151 rfl ?_
    refine wp_getC (ci := 0) (j := 10) dX0_goFrom_152 fi_X0_48r rfl rfl ht30 ?_
    change WP _ _ _ _ _ _ (rv (hC H27 110 a0) :: _) _ _
    obtain ⟨a31, ha31, h⟩ := h
    obtain ⟨ht32, h⟩ := h
    refine wp_getL (ci := 3) (j := 0) dX0_goFrom_155 fi_X0_87r rfl ha31 ht32 ?_
    change WP _ _ _ _ _ _ (.long (hL H27 400 a31 0) :: _) _ _
    refine wp_aload_n 0 dX0_goFrom_158 rfl ?_
    refine wp_getC (ci := 0) (j := 10) dX0_goFrom_159 fi_X0_48r rfl rfl ht30 ?_
    change WP _ _ _ _ _ _ (rv (hC H27 110 a0) :: _) _ _
    refine wp_getL (ci := 3) (j := 1) dX0_goFrom_162 fi_X0_91r rfl ha31 ht32 ?_
    change WP _ _ _ _ _ _ (.long (hL H27 401 a31 0) :: _) _ _
    obtain ⟨a34, ha34, h⟩ := h
    obtain ⟨ht35, h⟩ := h
    refine wp_callV (ci := 3) (As := [.long (hL H27 400 a31 0), .long (hL H27 401 a31 0)]) (rest := []) (mc := 0) (ms := 0) dX0_goFrom_165 lk_X0_94 rfl rfl (by decide) ha34 rfl rfl ht35 rfl rfl rfl w_3_184 (Call.weaken h ?_)
    rintro H33 _ ⟨b36, rfl, h⟩
    change WP _ _ _ _ _ _ [.int (bI b36)] H33 _
    refine wp_if_ne (tgt := 174) dX0_goFrom_168 rfl (fun c => ?_) (fun c => ?_)
    · replace h := h.1 (bI_1.mp c)
      refine wp_iload 4 dX0_goFrom_174 rfl ?_
      refine wp_if_eq (tgt := 189) dX0_goFrom_176 rfl (fun c => ?_) (fun c => ?_)
      · replace h := h.1 c
        refine wp_aload_n 0 dX0_goFrom_189 rfl ?_
        obtain ⟨ht37, h⟩ := h
        refine wp_getC (ci := 0) (j := 0) dX0_goFrom_190 fi_X0_9r rfl rfl ht37 ?_
        change WP _ _ _ _ _ _ (rv (hC H33 100 a0) :: _) _ _
        refine wp_iload 3 dX0_goFrom_193 rfl ?_
        obtain ⟨a38, ha38, h⟩ := h
        obtain ⟨hr39, h⟩ := h
        obtain ⟨hg40, h⟩ := h
        refine wp_iaload dX0_goFrom_195 ha38 hr39 hg40 ?_
        refine wp_istore_n (ls' := [(3, .int (hI H33 (tg H33 a38) a38 x5.toNatClampNeg)), (0, rv (some a0)), (2, .int x2), (4, .int x4), (5, .int x5), (6, .int x6)]) dX0_goFrom_196 (by decide) rfl ?_
        refine wp_iinc (v := (x4 + 1)) (ls' := [(4, .int (x4 + 1)), (3, .int (hI H33 (tg H33 a38) a38 x5.toNatClampNeg)), (0, rv (some a0)), (2, .int x2), (5, .int x5), (6, .int x6)]) 3 dX0_goFrom_197 rfl rfl (by decide) rfl ?_
        refine wp_goto (tgt := 37) dX0_goFrom_200 rfl ?_
        refine wp_sub (ls' := [(0, rv (some a0)), (2, .int x2), (3, .int (hI H33 (tg H33 a38) a38 x5.toNatClampNeg)), (4, .int (x4 + 1))]) [2, 3, 1, 0] rfl ?_
        exact h
      · replace h := h.2 c
        refine wp_aload_n 0 dX0_goFrom_179 rfl ?_
        obtain ⟨ht41, h⟩ := h
        refine wp_getC (ci := 0) (j := 1) dX0_goFrom_180 fi_X0_15r rfl rfl ht41 ?_
        change WP _ _ _ _ _ _ (rv (hC H33 101 a0) :: _) _ _
        refine wp_iload 3 dX0_goFrom_183 rfl ?_
        obtain ⟨a42, ha42, h⟩ := h
        obtain ⟨hr43, h⟩ := h
        obtain ⟨hg44, h⟩ := h
        refine wp_iaload dX0_goFrom_185 ha42 hr43 hg44 ?_
        refine wp_goto (tgt := 196) dX0_goFrom_186 rfl ?_
        refine wp_istore_n (ls' := [(3, .int (hI H33 (tg H33 a42) a42 x5.toNatClampNeg)), (0, rv (some a0)), (2, .int x2), (4, .int x4), (5, .int x5), (6, .int x6)]) dX0_goFrom_196 (by decide) rfl ?_
        refine wp_iinc (v := (x4 + 1)) (ls' := [(4, .int (x4 + 1)), (3, .int (hI H33 (tg H33 a42) a42 x5.toNatClampNeg)), (0, rv (some a0)), (2, .int x2), (5, .int x5), (6, .int x6)]) 3 dX0_goFrom_197 rfl rfl (by decide) rfl ?_
        refine wp_goto (tgt := 37) dX0_goFrom_200 rfl ?_
        refine wp_sub (ls' := [(0, rv (some a0)), (2, .int x2), (3, .int (hI H33 (tg H33 a42) a42 x5.toNatClampNeg)), (4, .int (x4 + 1))]) [2, 3, 1, 0] rfl ?_
        exact h
    · replace h := h.2 (bI_0.mp c)
      refine wp_bipush (v := (-15 : Int32)) dX0_goFrom_171 (by decide) ?_
      exact wp_ireturn (ty := .int) dX0_goFrom_173 rfl rfl ⟨_, rfl, h⟩
def wb_X0_goFrom_37 (d : Nat) (q : HP → Int32 → Prop) (a0 : Nat) (x2 : Int32) (x3 : Int32) (x4 : Int32) (H : HP) : Prop :=
  ((20 : Int32) ≤ x4 → q H (0 : Int32)) ∧ (¬ ((20 : Int32) ≤ x4) → (x3 = x2 → q H (0 : Int32)) ∧ (¬ (x3 = x2) → tg H a0 = 1 ∧ (∃ a2, (hC H 108 a0) = some a2 ∧ (isA H a2 0 ∧ (vp_in x3 (ln H a2) ∧ (((hI H (tg H a2) a2 x3.toNatClampNeg) < 0 → q H (-5 : Int32)) ∧ (¬ ((hI H (tg H a2) a2 x3.toNatClampNeg) < 0) → ((hI H (tg H a2) a2 x3.toNatClampNeg) < (hI H 104 a0 0) → ∃ a5, (hC H 100 a0) = some a5 ∧ (isA H a5 0 ∧ (vp_in (hI H (tg H a2) a2 x3.toNatClampNeg) (ln H a5) ∧ ((¬ (hI H (tg H a5) a5 (hI H (tg H a2) a2 x3.toNatClampNeg).toNatClampNeg) = x3 → ((0 : Int32) = 0 → ∃ a8, (hC H 103 a0) = some a8 ∧ (isA H a8 0 ∧ (vp_in (hI H (tg H a2) a2 x3.toNatClampNeg) (ln H a8) ∧ (wb_X0_goFrom_120 d q a0 x2 x4 (hI H (tg H a2) a2 x3.toNatClampNeg) (0 : Int32) (hC H 110 a0) ((hI H (tg H a8) a8 (hI H (tg H a2) a2 x3.toNatClampNeg).toNatClampNeg).toInt64) H)))) ∧ (¬ ((0 : Int32) = 0) → ∃ a11, (hC H 102 a0) = some a11 ∧ (isA H a11 0 ∧ (vp_in (hI H (tg H a2) a2 x3.toNatClampNeg) (ln H a11) ∧ (wb_X0_goFrom_120 d q a0 x2 x4 (hI H (tg H a2) a2 x3.toNatClampNeg) (0 : Int32) (hC H 110 a0) ((hI H (tg H a11) a11 (hI H (tg H a2) a2 x3.toNatClampNeg).toNatClampNeg).toInt64) H))))) ∧ ((hI H (tg H a5) a5 (hI H (tg H a2) a2 x3.toNatClampNeg).toNatClampNeg) = x3 → ((1 : Int32) = 0 → ∃ a14, (hC H 103 a0) = some a14 ∧ (isA H a14 0 ∧ (vp_in (hI H (tg H a2) a2 x3.toNatClampNeg) (ln H a14) ∧ (wb_X0_goFrom_120 d q a0 x2 x4 (hI H (tg H a2) a2 x3.toNatClampNeg) (1 : Int32) (hC H 110 a0) ((hI H (tg H a14) a14 (hI H (tg H a2) a2 x3.toNatClampNeg).toNatClampNeg).toInt64) H)))) ∧ (¬ ((1 : Int32) = 0) → ∃ a17, (hC H 102 a0) = some a17 ∧ (isA H a17 0 ∧ (vp_in (hI H (tg H a2) a2 x3.toNatClampNeg) (ln H a17) ∧ (wb_X0_goFrom_120 d q a0 x2 x4 (hI H (tg H a2) a2 x3.toNatClampNeg) (1 : Int32) (hC H 110 a0) ((hI H (tg H a17) a17 (hI H (tg H a2) a2 x3.toNatClampNeg).toNatClampNeg).toInt64) H))))))))) ∧ (¬ ((hI H (tg H a2) a2 x3.toNatClampNeg) < (hI H 104 a0 0)) → q H (-5 : Int32)))))))))
set_option maxRecDepth 40000 in
set_option maxHeartbeats 4000000 in
theorem T_X0_goFrom_37 {d : Nat} {q : HP → Int32 → Prop} {a0 : Nat} {x2 : Int32} {x3 : Int32} {x4 : Int32} {H : HP} (h : wb_X0_goFrom_37 d q a0 x2 x3 x4 H) : L_X0_goFrom_37 d q a0 x2 x3 x4 H := by
  unfold wb_X0_goFrom_37 at h
  unfold L_X0_goFrom_37
  refine wp_iload 3 dX0_goFrom_37 rfl ?_
  refine wp_bipush (v := (20 : Int32)) dX0_goFrom_39 (by decide) ?_
  refine wp_icmp_ge (tgt := 203) dX0_goFrom_41 rfl (fun c => ?_) (fun c => ?_)
  · replace h := h.1 c
    refine wp_iconst (v := (0 : Int32)) dX0_goFrom_203 (by decide) ?_
    exact wp_ireturn (ty := .int) dX0_goFrom_204 rfl rfl ⟨_, rfl, h⟩
  · replace h := h.2 c
    refine wp_iload_n 2 dX0_goFrom_44 rfl ?_
    refine wp_iload_n 1 dX0_goFrom_45 rfl ?_
    refine wp_icmp_eq (tgt := 203) dX0_goFrom_46 rfl (fun c => ?_) (fun c => ?_)
    · replace h := h.1 c
      refine wp_iconst (v := (0 : Int32)) dX0_goFrom_203 (by decide) ?_
      exact wp_ireturn (ty := .int) dX0_goFrom_204 rfl rfl ⟨_, rfl, h⟩
    · replace h := h.2 c
      refine wp_aload_n 0 dX0_goFrom_49 rfl ?_
      obtain ⟨ht1, h⟩ := h
      refine wp_getC (ci := 0) (j := 8) dX0_goFrom_50 fi_X0_38r rfl rfl ht1 ?_
      change WP _ _ _ _ _ _ (rv (hC H 108 a0) :: _) _ _
      refine wp_iload_n 2 dX0_goFrom_53 rfl ?_
      obtain ⟨a2, ha2, h⟩ := h
      obtain ⟨hr3, h⟩ := h
      obtain ⟨hg4, h⟩ := h
      refine wp_iaload dX0_goFrom_54 ha2 hr3 hg4 ?_
      refine wp_istore (ls' := [(5, .int (hI H (tg H a2) a2 x3.toNatClampNeg)), (0, rv (some a0)), (2, .int x2), (3, .int x3), (4, .int x4)]) dX0_goFrom_55 (by decide) rfl ?_
      refine wp_iload 0 dX0_goFrom_57 rfl ?_
      refine wp_if_lt (tgt := 71) dX0_goFrom_59 rfl (fun c => ?_) (fun c => ?_)
      · replace h := h.1 c
        refine wp_bipush (v := (-5 : Int32)) dX0_goFrom_71 (by decide) ?_
        exact wp_ireturn (ty := .int) dX0_goFrom_73 rfl rfl ⟨_, rfl, h⟩
      · replace h := h.2 c
        refine wp_iload 0 dX0_goFrom_62 rfl ?_
        refine wp_aload_n 1 dX0_goFrom_64 rfl ?_
        refine wp_getI (ci := 0) (j := 4) dX0_goFrom_65 fi_X0_24r rfl rfl ht1 ?_
        change WP _ _ _ _ _ _ (.int (hI H 104 a0 0) :: _) _ _
        refine wp_icmp_lt (tgt := 74) dX0_goFrom_68 rfl (fun c => ?_) (fun c => ?_)
        · replace h := h.1 c
          refine wp_aload_n 1 dX0_goFrom_74 rfl ?_
          refine wp_getC (ci := 0) (j := 0) dX0_goFrom_75 fi_X0_9r rfl rfl ht1 ?_
          change WP _ _ _ _ _ _ (rv (hC H 100 a0) :: _) _ _
          refine wp_iload 0 dX0_goFrom_78 rfl ?_
          obtain ⟨a5, ha5, h⟩ := h
          obtain ⟨hr6, h⟩ := h
          obtain ⟨hg7, h⟩ := h
          refine wp_iaload dX0_goFrom_80 ha5 hr6 hg7 ?_
          refine wp_iload_n 3 dX0_goFrom_81 rfl ?_
          refine wp_icmp_ne (tgt := 89) dX0_goFrom_82 rfl (fun c => ?_) (fun c => ?_)
          · replace h := h.1 c
            refine wp_iconst (v := (0 : Int32)) dX0_goFrom_89 (by decide) ?_
            refine wp_istore (ls' := [(6, .int (0 : Int32)), (5, .int (hI H (tg H a2) a2 x3.toNatClampNeg)), (0, rv (some a0)), (2, .int x2), (3, .int x3), (4, .int x4)]) dX0_goFrom_90 (by decide) rfl ?_
            refine wp_aload_n 2 dX0_goFrom_92 rfl ?_
            refine wp_getC (ci := 0) (j := 10) dX0_goFrom_93 fi_X0_48r rfl rfl ht1 ?_
            change WP _ _ _ _ _ _ (rv (hC H 110 a0) :: _) _ _
            refine wp_iload 0 dX0_goFrom_96 rfl ?_
            refine wp_if_eq (tgt := 112) dX0_goFrom_98 rfl (fun c => ?_) (fun c => ?_)
            · replace h := h.1 c
              refine wp_aload_n 2 dX0_goFrom_112 rfl ?_
              refine wp_getC (ci := 0) (j := 3) dX0_goFrom_113 fi_X0_21r rfl rfl ht1 ?_
              change WP _ _ _ _ _ _ (rv (hC H 103 a0) :: _) _ _
              refine wp_iload 1 dX0_goFrom_116 rfl ?_
              obtain ⟨a8, ha8, h⟩ := h
              obtain ⟨hr9, h⟩ := h
              obtain ⟨hg10, h⟩ := h
              refine wp_iaload dX0_goFrom_118 ha8 hr9 hg10 ?_
              refine wp_i2l dX0_goFrom_119 ?_
              refine wp_sub (ls' := [(0, rv (some a0)), (2, .int x2), (4, .int x4), (5, .int (hI H (tg H a2) a2 x3.toNatClampNeg)), (6, .int (0 : Int32))]) [2, 3, 5, 1, 0] rfl ?_
              exact T_X0_goFrom_120 h
            · replace h := h.2 c
              refine wp_aload_n 2 dX0_goFrom_101 rfl ?_
              refine wp_getC (ci := 0) (j := 2) dX0_goFrom_102 fi_X0_18r rfl rfl ht1 ?_
              change WP _ _ _ _ _ _ (rv (hC H 102 a0) :: _) _ _
              refine wp_iload 1 dX0_goFrom_105 rfl ?_
              obtain ⟨a11, ha11, h⟩ := h
              obtain ⟨hr12, h⟩ := h
              obtain ⟨hg13, h⟩ := h
              refine wp_iaload dX0_goFrom_107 ha11 hr12 hg13 ?_
              refine wp_i2l dX0_goFrom_108 ?_
              refine wp_goto (tgt := 120) dX0_goFrom_109 rfl ?_
              refine wp_sub (ls' := [(0, rv (some a0)), (2, .int x2), (4, .int x4), (5, .int (hI H (tg H a2) a2 x3.toNatClampNeg)), (6, .int (0 : Int32))]) [2, 3, 5, 1, 0] rfl ?_
              exact T_X0_goFrom_120 h
          · replace h := h.2 c
            refine wp_iconst (v := (1 : Int32)) dX0_goFrom_85 (by decide) ?_
            refine wp_goto (tgt := 90) dX0_goFrom_86 rfl ?_
            refine wp_istore (ls' := [(6, .int (1 : Int32)), (5, .int (hI H (tg H a2) a2 x3.toNatClampNeg)), (0, rv (some a0)), (2, .int x2), (3, .int x3), (4, .int x4)]) dX0_goFrom_90 (by decide) rfl ?_
            refine wp_aload_n 2 dX0_goFrom_92 rfl ?_
            refine wp_getC (ci := 0) (j := 10) dX0_goFrom_93 fi_X0_48r rfl rfl ht1 ?_
            change WP _ _ _ _ _ _ (rv (hC H 110 a0) :: _) _ _
            refine wp_iload 0 dX0_goFrom_96 rfl ?_
            refine wp_if_eq (tgt := 112) dX0_goFrom_98 rfl (fun c => ?_) (fun c => ?_)
            · replace h := h.1 c
              refine wp_aload_n 2 dX0_goFrom_112 rfl ?_
              refine wp_getC (ci := 0) (j := 3) dX0_goFrom_113 fi_X0_21r rfl rfl ht1 ?_
              change WP _ _ _ _ _ _ (rv (hC H 103 a0) :: _) _ _
              refine wp_iload 1 dX0_goFrom_116 rfl ?_
              obtain ⟨a14, ha14, h⟩ := h
              obtain ⟨hr15, h⟩ := h
              obtain ⟨hg16, h⟩ := h
              refine wp_iaload dX0_goFrom_118 ha14 hr15 hg16 ?_
              refine wp_i2l dX0_goFrom_119 ?_
              refine wp_sub (ls' := [(0, rv (some a0)), (2, .int x2), (4, .int x4), (5, .int (hI H (tg H a2) a2 x3.toNatClampNeg)), (6, .int (1 : Int32))]) [2, 3, 5, 1, 0] rfl ?_
              exact T_X0_goFrom_120 h
            · replace h := h.2 c
              refine wp_aload_n 2 dX0_goFrom_101 rfl ?_
              refine wp_getC (ci := 0) (j := 2) dX0_goFrom_102 fi_X0_18r rfl rfl ht1 ?_
              change WP _ _ _ _ _ _ (rv (hC H 102 a0) :: _) _ _
              refine wp_iload 1 dX0_goFrom_105 rfl ?_
              obtain ⟨a17, ha17, h⟩ := h
              obtain ⟨hr18, h⟩ := h
              obtain ⟨hg19, h⟩ := h
              refine wp_iaload dX0_goFrom_107 ha17 hr18 hg19 ?_
              refine wp_i2l dX0_goFrom_108 ?_
              refine wp_goto (tgt := 120) dX0_goFrom_109 rfl ?_
              refine wp_sub (ls' := [(0, rv (some a0)), (2, .int x2), (4, .int x4), (5, .int (hI H (tg H a2) a2 x3.toNatClampNeg)), (6, .int (1 : Int32))]) [2, 3, 5, 1, 0] rfl ?_
              exact T_X0_goFrom_120 h
        · replace h := h.2 c
          refine wp_bipush (v := (-5 : Int32)) dX0_goFrom_71 (by decide) ?_
          exact wp_ireturn (ty := .int) dX0_goFrom_73 rfl rfl ⟨_, rfl, h⟩
theorem C_X0_goFrom {d : Nat} {q : HP → Int32 → Prop} {a0 : Nat} {x1 : Int32} {x2 : Int32} {H : HP} (h : wb_X0_goFrom_0 d q a0 x1 x2 H) : CI (d + 1) 0 0 mX0_goFrom [rv (some a0), .int x1, .int x2] H q := by
  refine call_of (by decide +kernel) (by simp [lg_sl, rv_cat, vc_int, vc_long, vc_float, vc_double]) ?_
  have e : lv_args 0 [rv (some a0), .int x1, .int x2] = [(0, rv (some a0)), (1, .int x1), (2, .int x2)] := by simp [lv_args, rv_cat, vc_int, vc_long, vc_float, vc_double]
  rw [e]
  exact T_X0_goFrom_0 h
def wb_X0_init_0 (d : Nat) (ca sa : Nat) (q : HP → Prop) (a0 : Nat) (H : HP) : Prop :=
  hN H < scrA ∧ (1 ≤ ca ∧ (16 ≤ sa ∧ (tg (nw H 4224 16) a0 = 1 ∧ (hN (sC (nw H 4224 16) 100 a0 (some (hN H))) < scrA ∧ (1 ≤ (ca - 1) ∧ (16 ≤ (sa - 16) ∧ (tg (nw (sC (nw H 4224 16) 100 a0 (some (hN H))) 4240 16) a0 = 1 ∧ (hN (sC (nw (sC (nw H 4224 16) 100 a0 (some (hN H))) 4240 16) 101 a0 (some (hN (sC (nw H 4224 16) 100 a0 (some (hN H)))))) < scrA ∧ (1 ≤ ((ca - 1) - 1) ∧ (16 ≤ ((sa - 16) - 16) ∧ (tg (nw (sC (nw (sC (nw H 4224 16) 100 a0 (some (hN H))) 4240 16) 101 a0 (some (hN (sC (nw H 4224 16) 100 a0 (some (hN H)))))) 4256 16) a0 = 1 ∧ (∀ H13, (sC (nw (sC (nw (sC (nw H 4224 16) 100 a0 (some (hN H))) 4240 16) 101 a0 (some (hN (sC (nw H 4224 16) 100 a0 (some (hN H)))))) 4256 16) 102 a0 (some (hN (sC (nw (sC (nw H 4224 16) 100 a0 (some (hN H))) 4240 16) 101 a0 (some (hN (sC (nw H 4224 16) 100 a0 (some (hN H))))))))) = H13 → (hN H13 < scrA ∧ (1 ≤ (((ca - 1) - 1) - 1) ∧ (16 ≤ (((sa - 16) - 16) - 16) ∧ (tg (nw H13 4272 16) a0 = 1 ∧ (hN (sI (sC (nw H13 4272 16) 103 a0 (some (hN H13))) 104 a0 0 (0 : Int32)) < scrA ∧ (1 ≤ ((((ca - 1) - 1) - 1) - 1) ∧ (16 ≤ ((((sa - 16) - 16) - 16) - 16) ∧ (tg (nw (sI (sC (nw H13 4272 16) 103 a0 (some (hN H13))) 104 a0 0 (0 : Int32)) 4290 16) a0 = 1 ∧ (∀ H24, (sC (nw (sI (sC (nw H13 4272 16) 103 a0 (some (hN H13))) 104 a0 0 (0 : Int32)) 4290 16) 105 a0 (some (hN (sI (sC (nw H13 4272 16) 103 a0 (some (hN H13))) 104 a0 0 (0 : Int32))))) = H24 → (hN H24 < scrA ∧ (1 ≤ (((((ca - 1) - 1) - 1) - 1) - 1) ∧ (16 ≤ (((((sa - 16) - 16) - 16) - 16) - 16) ∧ (tg (nw H24 4304 16) a0 = 1 ∧ (hN (sC (nw H24 4304 16) 106 a0 (some (hN H24))) < scrA ∧ (1 ≤ ((((((ca - 1) - 1) - 1) - 1) - 1) - 1) ∧ (20 ≤ ((((((sa - 16) - 16) - 16) - 16) - 16) - 16) ∧ (tg (nw (sC (nw H24 4304 16) 106 a0 (some (hN H24))) 4320 20) a0 = 1 ∧ (hN (sC (nw (sC (nw H24 4304 16) 106 a0 (some (hN H24))) 4320 20) 107 a0 (some (hN (sC (nw H24 4304 16) 106 a0 (some (hN H24)))))) < scrA ∧ (1 ≤ (((((((ca - 1) - 1) - 1) - 1) - 1) - 1) - 1) ∧ (20 ≤ (((((((sa - 16) - 16) - 16) - 16) - 16) - 16) - 20) ∧ (tg (nw (sC (nw (sC (nw H24 4304 16) 106 a0 (some (hN H24))) 4320 20) 107 a0 (some (hN (sC (nw H24 4304 16) 106 a0 (some (hN H24)))))) 4336 20) a0 = 1 ∧ (∀ H39, (sC (nw (sC (nw (sC (nw H24 4304 16) 106 a0 (some (hN H24))) 4320 20) 107 a0 (some (hN (sC (nw H24 4304 16) 106 a0 (some (hN H24)))))) 4336 20) 108 a0 (some (hN (sC (nw (sC (nw H24 4304 16) 106 a0 (some (hN H24))) 4320 20) 107 a0 (some (hN (sC (nw H24 4304 16) 106 a0 (some (hN H24))))))))) = H39 → (hN H39 < scrA ∧ (1 ≤ ((((((((ca - 1) - 1) - 1) - 1) - 1) - 1) - 1) - 1) ∧ (2 ≤ ((((((((sa - 16) - 16) - 16) - 16) - 16) - 16) - 20) - 20) ∧ (CV d 0 0 mX3_init [rv (some (hN H39))] (nw H39 4 0) (fun H45 => tg H45 a0 = 1 ∧ (hN (sC H45 109 a0 (some (hN H39))) < scrA ∧ (1 ≤ (((((((((ca - 1) - 1) - 1) - 1) - 1) - 1) - 1) - 1) - 1) ∧ (2 ≤ (((((((((sa - 16) - 16) - 16) - 16) - 16) - 16) - 20) - 20) - 2) ∧ (CV d 0 0 mX3_init [rv (some (hN (sC H45 109 a0 (some (hN H39)))))] (nw (sC H45 109 a0 (some (hN H39))) 4 0) (fun H50 => tg H50 a0 = 1 ∧ (q (sC H50 110 a0 (some (hN (sC H45 109 a0 (some (hN H39)))))))))))))))))))))))))))))))))))))))))))))))))))
set_option maxRecDepth 40000 in
set_option maxHeartbeats 4000000 in
theorem T_X0_init_0 {d : Nat} {ca sa : Nat} {q : HP → Prop} {a0 : Nat} {H : HP} (h : wb_X0_init_0 d ca sa q a0 H) : WP (d + 1) mX0_init ca sa 0 [(0, rv (some a0))] [] H (qV q) := by
  unfold wb_X0_init_0 at h
  refine wp_aload_n 0 dX0_init_0 rfl ?_
  refine wp_objInit dX0_init_1 w_1_135 w_1_29 w_1_30 rfl (by decide) (by omega) ?_
  refine wp_aload_n 0 dX0_init_4 rfl ?_
  refine wp_bipush (v := (16 : Int32)) dX0_init_5 (by decide) ?_
  obtain ⟨hg1, h⟩ := h
  obtain ⟨hg2, h⟩ := h
  obtain ⟨hg3, h⟩ := h
  refine wp_newarray (t := 4224) (N := 16) (ca' := ca - 1) (sa' := sa - 16) dX0_init_7 w_1_88 (by decide) rfl (by decide) (by decide) (by decide +kernel) hg1 (by omega) (by omega) ?_
  obtain ⟨ht4, h⟩ := h
  refine wp_putC (ci := 0) (j := 0) dX0_init_9 fi_X0_9 rfl (fun _ => rfl) rfl ht4 (Or.inr ⟨_, rfl⟩) ?_
  change WP _ _ _ _ _ _ _ (sC (nw H 4224 16) 100 a0 (some (hN H))) _
  refine wp_aload_n 0 dX0_init_12 rfl ?_
  refine wp_bipush (v := (16 : Int32)) dX0_init_13 (by decide) ?_
  obtain ⟨hg5, h⟩ := h
  obtain ⟨hg6, h⟩ := h
  obtain ⟨hg7, h⟩ := h
  refine wp_newarray (t := 4240) (N := 16) (ca' := (ca - 1) - 1) (sa' := (sa - 16) - 16) dX0_init_15 w_1_88 (by decide) rfl (by decide) (by decide) (by decide +kernel) hg5 (by omega) (by omega) ?_
  obtain ⟨ht8, h⟩ := h
  refine wp_putC (ci := 0) (j := 1) dX0_init_17 fi_X0_15 rfl (fun _ => rfl) rfl ht8 (Or.inr ⟨_, rfl⟩) ?_
  change WP _ _ _ _ _ _ _ (sC (nw (sC (nw H 4224 16) 100 a0 (some (hN H))) 4240 16) 101 a0 (some (hN (sC (nw H 4224 16) 100 a0 (some (hN H)))))) _
  refine wp_aload_n 0 dX0_init_20 rfl ?_
  refine wp_bipush (v := (16 : Int32)) dX0_init_21 (by decide) ?_
  obtain ⟨hg9, h⟩ := h
  obtain ⟨hg10, h⟩ := h
  obtain ⟨hg11, h⟩ := h
  refine wp_newarray (t := 4256) (N := 16) (ca' := ((ca - 1) - 1) - 1) (sa' := ((sa - 16) - 16) - 16) dX0_init_23 w_1_88 (by decide) rfl (by decide) (by decide) (by decide +kernel) hg9 (by omega) (by omega) ?_
  obtain ⟨ht12, h⟩ := h
  refine wp_putC (ci := 0) (j := 2) dX0_init_25 fi_X0_18 rfl (fun _ => rfl) rfl ht12 (Or.inr ⟨_, rfl⟩) ?_
  change WP _ _ _ _ _ _ _ (sC (nw (sC (nw (sC (nw H 4224 16) 100 a0 (some (hN H))) 4240 16) 101 a0 (some (hN (sC (nw H 4224 16) 100 a0 (some (hN H)))))) 4256 16) 102 a0 (some (hN (sC (nw (sC (nw H 4224 16) 100 a0 (some (hN H))) 4240 16) 101 a0 (some (hN (sC (nw H 4224 16) 100 a0 (some (hN H))))))))) _
  replace h := h _ rfl
  generalize e14 : (sC (nw (sC (nw (sC (nw H 4224 16) 100 a0 (some (hN H))) 4240 16) 101 a0 (some (hN (sC (nw H 4224 16) 100 a0 (some (hN H)))))) 4256 16) 102 a0 (some (hN (sC (nw (sC (nw H 4224 16) 100 a0 (some (hN H))) 4240 16) 101 a0 (some (hN (sC (nw H 4224 16) 100 a0 (some (hN H))))))))) = H13 at h ⊢
  have ht15 : tg H13 a0 = 1 := by rw [← e14]; exact ht12
  refine wp_aload_n 0 dX0_init_28 rfl ?_
  refine wp_bipush (v := (16 : Int32)) dX0_init_29 (by decide) ?_
  obtain ⟨hg16, h⟩ := h
  obtain ⟨hg17, h⟩ := h
  obtain ⟨hg18, h⟩ := h
  refine wp_newarray (t := 4272) (N := 16) (ca' := (((ca - 1) - 1) - 1) - 1) (sa' := (((sa - 16) - 16) - 16) - 16) dX0_init_31 w_1_88 (by decide) rfl (by decide) (by decide) (by decide +kernel) hg16 (by omega) (by omega) ?_
  obtain ⟨ht19, h⟩ := h
  refine wp_putC (ci := 0) (j := 3) dX0_init_33 fi_X0_21 rfl (fun _ => rfl) rfl ht19 (Or.inr ⟨_, rfl⟩) ?_
  change WP _ _ _ _ _ _ _ (sC (nw H13 4272 16) 103 a0 (some (hN H13))) _
  refine wp_aload_n 0 dX0_init_36 rfl ?_
  refine wp_iconst (v := (0 : Int32)) dX0_init_37 (by decide) ?_
  refine wp_putI (ci := 0) (j := 4) dX0_init_38 fi_X0_24 rfl (fun z => by cases z) rfl ht19 rfl rfl ?_
  change WP _ _ _ _ _ _ _ (sI (sC (nw H13 4272 16) 103 a0 (some (hN H13))) 104 a0 0 (0 : Int32)) _
  refine wp_aload_n 0 dX0_init_41 rfl ?_
  refine wp_bipush (v := (16 : Int32)) dX0_init_42 (by decide) ?_
  obtain ⟨hg20, h⟩ := h
  obtain ⟨hg21, h⟩ := h
  obtain ⟨hg22, h⟩ := h
  refine wp_newarray (t := 4290) (N := 16) (ca' := ((((ca - 1) - 1) - 1) - 1) - 1) (sa' := ((((sa - 16) - 16) - 16) - 16) - 16) dX0_init_44 w_1_179 (by decide) rfl (by decide) (by decide) (by decide +kernel) hg20 (by omega) (by omega) ?_
  obtain ⟨ht23, h⟩ := h
  refine wp_putC (ci := 0) (j := 5) dX0_init_46 fi_X0_28 rfl (fun _ => rfl) rfl ht23 (Or.inr ⟨_, rfl⟩) ?_
  change WP _ _ _ _ _ _ _ (sC (nw (sI (sC (nw H13 4272 16) 103 a0 (some (hN H13))) 104 a0 0 (0 : Int32)) 4290 16) 105 a0 (some (hN (sI (sC (nw H13 4272 16) 103 a0 (some (hN H13))) 104 a0 0 (0 : Int32))))) _
  replace h := h _ rfl
  generalize e25 : (sC (nw (sI (sC (nw H13 4272 16) 103 a0 (some (hN H13))) 104 a0 0 (0 : Int32)) 4290 16) 105 a0 (some (hN (sI (sC (nw H13 4272 16) 103 a0 (some (hN H13))) 104 a0 0 (0 : Int32))))) = H24 at h ⊢
  have ht26 : tg H24 a0 = 1 := by rw [← e25]; exact ht23
  refine wp_aload_n 0 dX0_init_49 rfl ?_
  refine wp_bipush (v := (16 : Int32)) dX0_init_50 (by decide) ?_
  obtain ⟨hg27, h⟩ := h
  obtain ⟨hg28, h⟩ := h
  obtain ⟨hg29, h⟩ := h
  refine wp_newarray (t := 4304) (N := 16) (ca' := (((((ca - 1) - 1) - 1) - 1) - 1) - 1) (sa' := (((((sa - 16) - 16) - 16) - 16) - 16) - 16) dX0_init_52 w_1_88 (by decide) rfl (by decide) (by decide) (by decide +kernel) hg27 (by omega) (by omega) ?_
  obtain ⟨ht30, h⟩ := h
  refine wp_putC (ci := 0) (j := 6) dX0_init_54 fi_X0_32 rfl (fun _ => rfl) rfl ht30 (Or.inr ⟨_, rfl⟩) ?_
  change WP _ _ _ _ _ _ _ (sC (nw H24 4304 16) 106 a0 (some (hN H24))) _
  refine wp_aload_n 0 dX0_init_57 rfl ?_
  refine wp_bipush (v := (20 : Int32)) dX0_init_58 (by decide) ?_
  obtain ⟨hg31, h⟩ := h
  obtain ⟨hg32, h⟩ := h
  obtain ⟨hg33, h⟩ := h
  refine wp_newarray (t := 4320) (N := 20) (ca' := ((((((ca - 1) - 1) - 1) - 1) - 1) - 1) - 1) (sa' := ((((((sa - 16) - 16) - 16) - 16) - 16) - 16) - 20) dX0_init_60 w_1_88 (by decide) rfl (by decide) (by decide) (by decide +kernel) hg31 (by omega) (by omega) ?_
  obtain ⟨ht34, h⟩ := h
  refine wp_putC (ci := 0) (j := 7) dX0_init_62 fi_X0_35 rfl (fun _ => rfl) rfl ht34 (Or.inr ⟨_, rfl⟩) ?_
  change WP _ _ _ _ _ _ _ (sC (nw (sC (nw H24 4304 16) 106 a0 (some (hN H24))) 4320 20) 107 a0 (some (hN (sC (nw H24 4304 16) 106 a0 (some (hN H24)))))) _
  refine wp_aload_n 0 dX0_init_65 rfl ?_
  refine wp_bipush (v := (20 : Int32)) dX0_init_66 (by decide) ?_
  obtain ⟨hg35, h⟩ := h
  obtain ⟨hg36, h⟩ := h
  obtain ⟨hg37, h⟩ := h
  refine wp_newarray (t := 4336) (N := 20) (ca' := (((((((ca - 1) - 1) - 1) - 1) - 1) - 1) - 1) - 1) (sa' := (((((((sa - 16) - 16) - 16) - 16) - 16) - 16) - 20) - 20) dX0_init_68 w_1_88 (by decide) rfl (by decide) (by decide) (by decide +kernel) hg35 (by omega) (by omega) ?_
  obtain ⟨ht38, h⟩ := h
  refine wp_putC (ci := 0) (j := 8) dX0_init_70 fi_X0_38 rfl (fun _ => rfl) rfl ht38 (Or.inr ⟨_, rfl⟩) ?_
  change WP _ _ _ _ _ _ _ (sC (nw (sC (nw (sC (nw H24 4304 16) 106 a0 (some (hN H24))) 4320 20) 107 a0 (some (hN (sC (nw H24 4304 16) 106 a0 (some (hN H24)))))) 4336 20) 108 a0 (some (hN (sC (nw (sC (nw H24 4304 16) 106 a0 (some (hN H24))) 4320 20) 107 a0 (some (hN (sC (nw H24 4304 16) 106 a0 (some (hN H24))))))))) _
  replace h := h _ rfl
  generalize e40 : (sC (nw (sC (nw (sC (nw H24 4304 16) 106 a0 (some (hN H24))) 4320 20) 107 a0 (some (hN (sC (nw H24 4304 16) 106 a0 (some (hN H24)))))) 4336 20) 108 a0 (some (hN (sC (nw (sC (nw H24 4304 16) 106 a0 (some (hN H24))) 4320 20) 107 a0 (some (hN (sC (nw H24 4304 16) 106 a0 (some (hN H24))))))))) = H39 at h ⊢
  have ht41 : tg H39 a0 = 1 := by rw [← e40]; exact ht38
  refine wp_aload_n 0 dX0_init_73 rfl ?_
  obtain ⟨hg42, h⟩ := h
  obtain ⟨hg43, h⟩ := h
  obtain ⟨hg44, h⟩ := h
  refine wp_new (ca' := ((((((((ca - 1) - 1) - 1) - 1) - 1) - 1) - 1) - 1) - 1) (sa' := ((((((((sa - 16) - 16) - 16) - 16) - 16) - 16) - 20) - 20) - 2) dX0_init_74 (ci := 3) (N := 2) rfl w_1_136 w_1_68 w_1_5 inG3 tyX3_ok (by decide) hg42 (by omega) (by omega) ?_
  refine wp_dup dX0_init_77 (rv_cat _) ?_
  refine wp_callI (As := []) (rest := [rv (some (hN H39)), rv (some a0)]) (mc := 0) (ms := 0) (ca' := (((((((((ca - 1) - 1) - 1) - 1) - 1) - 1) - 1) - 1) - 1)) (sa' := (((((((((sa - 16) - 16) - 16) - 16) - 16) - 16) - 20) - 20) - 2)) dX0_init_78 lk_X0_43 rfl rfl (by simp [rv_cat, vc_int, vc_long, vc_float, vc_double]) rfl rfl rfl rfl (Call.weaken h ?_)
  rintro H45 _ ⟨rfl, h⟩
  change WP _ _ _ _ _ _ [rv (some (hN H39)), rv (some a0)] H45 _
  obtain ⟨ht46, h⟩ := h
  refine wp_putC (ci := 0) (j := 9) dX0_init_81 fi_X0_44 rfl (fun _ => rfl) rfl ht46 (Or.inl ⟨_, rfl⟩) ?_
  change WP _ _ _ _ _ _ _ (sC H45 109 a0 (some (hN H39))) _
  refine wp_aload_n 0 dX0_init_84 rfl ?_
  obtain ⟨hg47, h⟩ := h
  obtain ⟨hg48, h⟩ := h
  obtain ⟨hg49, h⟩ := h
  refine wp_new (ca' := (((((((((ca - 1) - 1) - 1) - 1) - 1) - 1) - 1) - 1) - 1) - 1) (sa' := (((((((((sa - 16) - 16) - 16) - 16) - 16) - 16) - 20) - 20) - 2) - 2) dX0_init_85 (ci := 3) (N := 2) rfl w_1_136 w_1_68 w_1_5 inG3 tyX3_ok (by decide) hg47 (by omega) (by omega) ?_
  refine wp_dup dX0_init_88 (rv_cat _) ?_
  refine wp_callI (As := []) (rest := [rv (some (hN (sC H45 109 a0 (some (hN H39))))), rv (some a0)]) (mc := 0) (ms := 0) (ca' := ((((((((((ca - 1) - 1) - 1) - 1) - 1) - 1) - 1) - 1) - 1) - 1)) (sa' := ((((((((((sa - 16) - 16) - 16) - 16) - 16) - 16) - 20) - 20) - 2) - 2)) dX0_init_89 lk_X0_43 rfl rfl (by simp [rv_cat, vc_int, vc_long, vc_float, vc_double]) rfl rfl rfl rfl (Call.weaken h ?_)
  rintro H50 _ ⟨rfl, h⟩
  change WP _ _ _ _ _ _ [rv (some (hN (sC H45 109 a0 (some (hN H39))))), rv (some a0)] H50 _
  obtain ⟨ht51, h⟩ := h
  refine wp_putC (ci := 0) (j := 10) dX0_init_92 fi_X0_48 rfl (fun _ => rfl) rfl ht51 (Or.inl ⟨_, rfl⟩) ?_
  change WP _ _ _ _ _ _ _ (sC H50 110 a0 (some (hN (sC H45 109 a0 (some (hN H39)))))) _
  exact wp_return dX0_init_95 rfl ⟨rfl, h⟩
theorem C_X0_init {d : Nat} {ca sa : Nat} {q : HP → Prop} {a0 : Nat} {H : HP} (h : wb_X0_init_0 d ca sa q a0 H) : CV (d + 1) ca sa mX0_init [rv (some a0)] H q := by
  refine call_of (by decide +kernel) (by simp [lg_sl, rv_cat, vc_int, vc_long, vc_float, vc_double]) ?_
  have e : lv_args 0 [rv (some a0)] = [(0, rv (some a0))] := by simp [lv_args, rv_cat, vc_int, vc_long, vc_float, vc_double]
  rw [e]
  exact T_X0_init_0 h
/-- UnitProver$Claims.isOver()Z: the loop at 2 -/
def L_X0_isOver_2 (d : Nat) (q : HP → Bool → Prop) (a0 : Nat) (x1 : Int32) (H : HP) : Prop := WP (d + 1) mX0_isOver 0 0 2 [(0, rv (some a0)), (1, .int x1)] [] H (qZ q)
def wb_X0_isOver_0 (d : Nat) (q : HP → Bool → Prop) (a0 : Nat) (H : HP) : Prop :=
  L_X0_isOver_2 d q a0 (0 : Int32) H
set_option maxRecDepth 40000 in
set_option maxHeartbeats 4000000 in
theorem T_X0_isOver_0 {d : Nat} {q : HP → Bool → Prop} {a0 : Nat} {H : HP} (h : wb_X0_isOver_0 d q a0 H) : WP (d + 1) mX0_isOver 0 0 0 [(0, rv (some a0))] [] H (qZ q) := by
  unfold wb_X0_isOver_0 at h
  refine wp_iconst (v := (0 : Int32)) dX0_isOver_0 (by decide) ?_
  refine wp_istore_n (ls' := [(1, .int (0 : Int32)), (0, rv (some a0))]) dX0_isOver_1 (by decide) rfl ?_
  refine wp_sub (ls' := [(0, rv (some a0)), (1, .int (0 : Int32))]) [1, 0] rfl ?_
  exact h
def wb_X0_isOver_2 (d : Nat) (q : HP → Bool → Prop) (a0 : Nat) (x1 : Int32) (H : HP) : Prop :=
  tg H a0 = 1 ∧ (((hI H 104 a0 0) ≤ x1 → q H false) ∧ (¬ ((hI H 104 a0 0) ≤ x1) → ∃ a2, (hC H 106 a0) = some a2 ∧ (isA H a2 0 ∧ (vp_in x1 (ln H a2) ∧ ((¬ (hI H (tg H a2) a2 x1.toNatClampNeg) = (-15 : Int32) → L_X0_isOver_2 d q a0 (x1 + 1) H) ∧ ((hI H (tg H a2) a2 x1.toNatClampNeg) = (-15 : Int32) → q H true))))))
set_option maxRecDepth 40000 in
set_option maxHeartbeats 4000000 in
theorem T_X0_isOver_2 {d : Nat} {q : HP → Bool → Prop} {a0 : Nat} {x1 : Int32} {H : HP} (h : wb_X0_isOver_2 d q a0 x1 H) : L_X0_isOver_2 d q a0 x1 H := by
  unfold wb_X0_isOver_2 at h
  unfold L_X0_isOver_2
  refine wp_iload_n 1 dX0_isOver_2 rfl ?_
  refine wp_aload_n 0 dX0_isOver_3 rfl ?_
  obtain ⟨ht1, h⟩ := h
  refine wp_getI (ci := 0) (j := 4) dX0_isOver_4 fi_X0_24r rfl rfl ht1 ?_
  change WP _ _ _ _ _ _ (.int (hI H 104 a0 0) :: _) _ _
  refine wp_icmp_ge (tgt := 29) dX0_isOver_7 rfl (fun c => ?_) (fun c => ?_)
  · replace h := h.1 c
    refine wp_iconst (v := (0 : Int32)) dX0_isOver_29 (by decide) ?_
    exact wp_ireturn (ty := .boolean) dX0_isOver_30 rfl rfl ⟨false, rfl, h⟩
  · replace h := h.2 c
    refine wp_aload_n 0 dX0_isOver_10 rfl ?_
    refine wp_getC (ci := 0) (j := 6) dX0_isOver_11 fi_X0_32r rfl rfl ht1 ?_
    change WP _ _ _ _ _ _ (rv (hC H 106 a0) :: _) _ _
    refine wp_iload_n 1 dX0_isOver_14 rfl ?_
    obtain ⟨a2, ha2, h⟩ := h
    obtain ⟨hr3, h⟩ := h
    obtain ⟨hg4, h⟩ := h
    refine wp_iaload dX0_isOver_15 ha2 hr3 hg4 ?_
    refine wp_bipush (v := (-15 : Int32)) dX0_isOver_16 (by decide) ?_
    refine wp_icmp_ne (tgt := 23) dX0_isOver_18 rfl (fun c => ?_) (fun c => ?_)
    · replace h := h.1 c
      refine wp_iinc (v := (x1 + 1)) (ls' := [(1, .int (x1 + 1)), (0, rv (some a0))]) 1 dX0_isOver_23 rfl rfl (by decide) rfl ?_
      refine wp_goto (tgt := 2) dX0_isOver_26 rfl ?_
      refine wp_sub (ls' := [(0, rv (some a0)), (1, .int (x1 + 1))]) [1, 0] rfl ?_
      exact h
    · replace h := h.2 c
      refine wp_iconst (v := (1 : Int32)) dX0_isOver_21 (by decide) ?_
      exact wp_ireturn (ty := .boolean) dX0_isOver_22 rfl rfl ⟨true, rfl, h⟩
theorem C_X0_isOver {d : Nat} {q : HP → Bool → Prop} {a0 : Nat} {H : HP} (h : wb_X0_isOver_0 d q a0 H) : CZ (d + 1) 0 0 mX0_isOver [rv (some a0)] H q := by
  refine call_of (by decide +kernel) (by simp [lg_sl, rv_cat, vc_int, vc_long, vc_float, vc_double]) ?_
  have e : lv_args 0 [rv (some a0)] = [(0, rv (some a0))] := by simp [lv_args, rv_cat, vc_int, vc_long, vc_float, vc_double]
  rw [e]
  exact T_X0_isOver_0 h
/-- UnitProver$Claims.joining()I: the loop at 4 -/
def L_X0_joining_4 (d : Nat) (q : HP → Int32 → Prop) (a0 : Nat) (x1 : Int32) (x2 : Int32) (H : HP) : Prop := WP (d + 1) mX0_joining 0 0 4 [(0, rv (some a0)), (1, .int x1), (2, .int x2)] [] H (qI q)
def wb_X0_joining_0 (d : Nat) (q : HP → Int32 → Prop) (a0 : Nat) (H : HP) : Prop :=
  L_X0_joining_4 d q a0 (0 : Int32) (0 : Int32) H
set_option maxRecDepth 40000 in
set_option maxHeartbeats 4000000 in
theorem T_X0_joining_0 {d : Nat} {q : HP → Int32 → Prop} {a0 : Nat} {H : HP} (h : wb_X0_joining_0 d q a0 H) : WP (d + 1) mX0_joining 0 0 0 [(0, rv (some a0))] [] H (qI q) := by
  unfold wb_X0_joining_0 at h
  refine wp_iconst (v := (0 : Int32)) dX0_joining_0 (by decide) ?_
  refine wp_istore_n (ls' := [(1, .int (0 : Int32)), (0, rv (some a0))]) dX0_joining_1 (by decide) rfl ?_
  refine wp_iconst (v := (0 : Int32)) dX0_joining_2 (by decide) ?_
  refine wp_istore_n (ls' := [(2, .int (0 : Int32)), (1, .int (0 : Int32)), (0, rv (some a0))]) dX0_joining_3 (by decide) rfl ?_
  refine wp_sub (ls' := [(0, rv (some a0)), (1, .int (0 : Int32)), (2, .int (0 : Int32))]) [2, 1, 0] rfl ?_
  exact h
def wb_X0_joining_4 (d : Nat) (q : HP → Int32 → Prop) (a0 : Nat) (x1 : Int32) (x2 : Int32) (H : HP) : Prop :=
  tg H a0 = 1 ∧ (((hI H 104 a0 0) ≤ x2 → q H x1) ∧ (¬ ((hI H 104 a0 0) ≤ x2) → ∃ a2, (hC H 105 a0) = some a2 ∧ (isA H a2 2 ∧ (vp_in x2 (ln H a2) ∧ (((hI H (tg H a2) a2 x2.toNatClampNeg) = 0 → L_X0_joining_4 d q a0 (x1 + (0 : Int32)) (x2 + 1) H) ∧ (¬ ((hI H (tg H a2) a2 x2.toNatClampNeg) = 0) → L_X0_joining_4 d q a0 (x1 + (1 : Int32)) (x2 + 1) H))))))
set_option maxRecDepth 40000 in
set_option maxHeartbeats 4000000 in
theorem T_X0_joining_4 {d : Nat} {q : HP → Int32 → Prop} {a0 : Nat} {x1 : Int32} {x2 : Int32} {H : HP} (h : wb_X0_joining_4 d q a0 x1 x2 H) : L_X0_joining_4 d q a0 x1 x2 H := by
  unfold wb_X0_joining_4 at h
  unfold L_X0_joining_4
  refine wp_iload_n 2 dX0_joining_4 rfl ?_
  refine wp_aload_n 0 dX0_joining_5 rfl ?_
  obtain ⟨ht1, h⟩ := h
  refine wp_getI (ci := 0) (j := 4) dX0_joining_6 fi_X0_24r rfl rfl ht1 ?_
  change WP _ _ _ _ _ _ (.int (hI H 104 a0 0) :: _) _ _
  refine wp_icmp_ge (tgt := 35) dX0_joining_9 rfl (fun c => ?_) (fun c => ?_)
  · replace h := h.1 c
    refine wp_iload_n 1 dX0_joining_35 rfl ?_
    exact wp_ireturn (ty := .int) dX0_joining_36 rfl rfl ⟨_, rfl, h⟩
  · replace h := h.2 c
    refine wp_iload_n 1 dX0_joining_12 rfl ?_
    refine wp_aload_n 0 dX0_joining_13 rfl ?_
    refine wp_getC (ci := 0) (j := 5) dX0_joining_14 fi_X0_28r rfl rfl ht1 ?_
    change WP _ _ _ _ _ _ (rv (hC H 105 a0) :: _) _ _
    refine wp_iload_n 2 dX0_joining_17 rfl ?_
    obtain ⟨a2, ha2, h⟩ := h
    obtain ⟨hr3, h⟩ := h
    obtain ⟨hg4, h⟩ := h
    refine wp_zaload dX0_joining_18 ha2 hr3 hg4 ?_
    refine wp_if_eq (tgt := 26) dX0_joining_19 rfl (fun c => ?_) (fun c => ?_)
    · replace h := h.1 c
      refine wp_iconst (v := (0 : Int32)) dX0_joining_26 (by decide) ?_
      refine wp_iadd dX0_joining_27 ?_
      refine wp_istore_n (ls' := [(1, .int (x1 + (0 : Int32))), (0, rv (some a0)), (2, .int x2)]) dX0_joining_28 (by decide) rfl ?_
      refine wp_iinc (v := (x2 + 1)) (ls' := [(2, .int (x2 + 1)), (1, .int (x1 + (0 : Int32))), (0, rv (some a0))]) 2 dX0_joining_29 rfl rfl (by decide) rfl ?_
      refine wp_goto (tgt := 4) dX0_joining_32 rfl ?_
      refine wp_sub (ls' := [(0, rv (some a0)), (1, .int (x1 + (0 : Int32))), (2, .int (x2 + 1))]) [2, 1, 0] rfl ?_
      exact h
    · replace h := h.2 c
      refine wp_iconst (v := (1 : Int32)) dX0_joining_22 (by decide) ?_
      refine wp_goto (tgt := 27) dX0_joining_23 rfl ?_
      refine wp_iadd dX0_joining_27 ?_
      refine wp_istore_n (ls' := [(1, .int (x1 + (1 : Int32))), (0, rv (some a0)), (2, .int x2)]) dX0_joining_28 (by decide) rfl ?_
      refine wp_iinc (v := (x2 + 1)) (ls' := [(2, .int (x2 + 1)), (1, .int (x1 + (1 : Int32))), (0, rv (some a0))]) 2 dX0_joining_29 rfl rfl (by decide) rfl ?_
      refine wp_goto (tgt := 4) dX0_joining_32 rfl ?_
      refine wp_sub (ls' := [(0, rv (some a0)), (1, .int (x1 + (1 : Int32))), (2, .int (x2 + 1))]) [2, 1, 0] rfl ?_
      exact h
theorem C_X0_joining {d : Nat} {q : HP → Int32 → Prop} {a0 : Nat} {H : HP} (h : wb_X0_joining_0 d q a0 H) : CI (d + 1) 0 0 mX0_joining [rv (some a0)] H q := by
  refine call_of (by decide +kernel) (by simp [lg_sl, rv_cat, vc_int, vc_long, vc_float, vc_double]) ?_
  have e : lv_args 0 [rv (some a0)] = [(0, rv (some a0))] := by simp [lv_args, rv_cat, vc_int, vc_long, vc_float, vc_double]
  rw [e]
  exact T_X0_joining_0 h
/-- UnitProver$Claims.judgeAll()V: the loop at 2 -/
def L_X0_judgeAll_2 (d : Nat) (q : HP → Prop) (a0 : Nat) (x1 : Int32) (H : HP) : Prop := WP (d + 1) mX0_judgeAll 0 0 2 [(0, rv (some a0)), (1, .int x1)] [] H (qV q)
/-- UnitProver$Claims.judgeAll()V: the loop at 23 -/
def L_X0_judgeAll_23 (d : Nat) (q : HP → Prop) (a0 : Nat) (x1 : Int32) (H : HP) : Prop := WP (d + 1) mX0_judgeAll 0 0 23 [(0, rv (some a0)), (1, .int x1)] [] H (qV q)
/-- UnitProver$Claims.judgeAll()V: the loop at 110 -/
def L_X0_judgeAll_110 (d : Nat) (q : HP → Prop) (a0 : Nat) (x1 : Int32) (H : HP) : Prop := WP (d + 1) mX0_judgeAll 0 0 110 [(0, rv (some a0)), (1, .int x1)] [] H (qV q)
def wb_X0_judgeAll_0 (d : Nat) (q : HP → Prop) (a0 : Nat) (H : HP) : Prop :=
  L_X0_judgeAll_2 d q a0 (0 : Int32) H
set_option maxRecDepth 40000 in
set_option maxHeartbeats 4000000 in
theorem T_X0_judgeAll_0 {d : Nat} {q : HP → Prop} {a0 : Nat} {H : HP} (h : wb_X0_judgeAll_0 d q a0 H) : WP (d + 1) mX0_judgeAll 0 0 0 [(0, rv (some a0))] [] H (qV q) := by
  unfold wb_X0_judgeAll_0 at h
  refine wp_iconst (v := (0 : Int32)) dX0_judgeAll_0 (by decide) ?_
  refine wp_istore_n (ls' := [(1, .int (0 : Int32)), (0, rv (some a0))]) dX0_judgeAll_1 (by decide) rfl ?_
  refine wp_sub (ls' := [(0, rv (some a0)), (1, .int (0 : Int32))]) [1, 0] rfl ?_
  exact h
def wb_X0_judgeAll_2 (d : Nat) (q : HP → Prop) (a0 : Nat) (x1 : Int32) (H : HP) : Prop :=
  ((20 : Int32) ≤ x1 → L_X0_judgeAll_23 d q a0 (0 : Int32) H) ∧ (¬ ((20 : Int32) ≤ x1) → tg H a0 = 1 ∧ (∃ a2, (hC H 107 a0) = some a2 ∧ (isA H a2 0 ∧ (vp_in x1 (ln H a2) ∧ (L_X0_judgeAll_2 d q a0 (x1 + 1) (sI H (tg H a2) a2 x1.toNatClampNeg x1))))))
set_option maxRecDepth 40000 in
set_option maxHeartbeats 4000000 in
theorem T_X0_judgeAll_2 {d : Nat} {q : HP → Prop} {a0 : Nat} {x1 : Int32} {H : HP} (h : wb_X0_judgeAll_2 d q a0 x1 H) : L_X0_judgeAll_2 d q a0 x1 H := by
  unfold wb_X0_judgeAll_2 at h
  unfold L_X0_judgeAll_2
  refine wp_iload_n 1 dX0_judgeAll_2 rfl ?_
  refine wp_bipush (v := (20 : Int32)) dX0_judgeAll_3 (by decide) ?_
  refine wp_icmp_ge (tgt := 21) dX0_judgeAll_5 rfl (fun c => ?_) (fun c => ?_)
  · replace h := h.1 c
    refine wp_iconst (v := (0 : Int32)) dX0_judgeAll_21 (by decide) ?_
    refine wp_istore_n (ls' := [(1, .int (0 : Int32)), (0, rv (some a0))]) dX0_judgeAll_22 (by decide) rfl ?_
    refine wp_sub (ls' := [(0, rv (some a0)), (1, .int (0 : Int32))]) [1, 0] rfl ?_
    exact h
  · replace h := h.2 c
    refine wp_aload_n 0 dX0_judgeAll_8 rfl ?_
    obtain ⟨ht1, h⟩ := h
    refine wp_getC (ci := 0) (j := 7) dX0_judgeAll_9 fi_X0_35r rfl rfl ht1 ?_
    change WP _ _ _ _ _ _ (rv (hC H 107 a0) :: _) _ _
    refine wp_iload_n 1 dX0_judgeAll_12 rfl ?_
    refine wp_iload_n 1 dX0_judgeAll_13 rfl ?_
    obtain ⟨a2, ha2, h⟩ := h
    obtain ⟨hr3, h⟩ := h
    obtain ⟨hg4, h⟩ := h
    refine wp_iastore dX0_judgeAll_14 ha2 hr3 hg4 ?_
    change WP _ _ _ _ _ _ _ (sI H (tg H a2) a2 x1.toNatClampNeg x1) _
    refine wp_iinc (v := (x1 + 1)) (ls' := [(1, .int (x1 + 1)), (0, rv (some a0))]) 1 dX0_judgeAll_15 rfl rfl (by decide) rfl ?_
    refine wp_goto (tgt := 2) dX0_judgeAll_18 rfl ?_
    refine wp_sub (ls' := [(0, rv (some a0)), (1, .int (x1 + 1))]) [1, 0] rfl ?_
    exact h
def wb_X0_judgeAll_23 (d : Nat) (q : HP → Prop) (a0 : Nat) (x1 : Int32) (H : HP) : Prop :=
  tg H a0 = 1 ∧ (((hI H 104 a0 0) ≤ x1 → L_X0_judgeAll_110 d q a0 (0 : Int32) H) ∧ (¬ ((hI H 104 a0 0) ≤ x1) → ∃ a2, (hC H 100 a0) = some a2 ∧ (isA H a2 0 ∧ (vp_in x1 (ln H a2) ∧ (∃ a5, (hC H 107 a0) = some a5 ∧ (isA H a5 0 ∧ (vp_in (hI H (tg H a2) a2 x1.toNatClampNeg) (ln H a5) ∧ (∃ a8, (hC H 101 a0) = some a8 ∧ (isA H a8 0 ∧ (vp_in x1 (ln H a8) ∧ (vp_in (hI H (tg H a8) a8 x1.toNatClampNeg) (ln H a5) ∧ (((hI H (tg H a5) a5 (hI H (tg H a2) a2 x1.toNatClampNeg).toNatClampNeg) = (hI H (tg H a5) a5 (hI H (tg H a8) a8 x1.toNatClampNeg).toNatClampNeg) → ∃ a12, (hC H 105 a0) = some a12 ∧ (isA H a12 2 ∧ (vp_in x1 (ln H a12) ∧ (∃ a15, (hC (sI H (tg H a12) a12 x1.toNatClampNeg (vp_nar .boolean (0 : Int32))) 105 a0) = some a15 ∧ (isA (sI H (tg H a12) a12 x1.toNatClampNeg (vp_nar .boolean (0 : Int32))) a15 2 ∧ (vp_in x1 (ln (sI H (tg H a12) a12 x1.toNatClampNeg (vp_nar .boolean (0 : Int32))) a15) ∧ (((hI (sI H (tg H a12) a12 x1.toNatClampNeg (vp_nar .boolean (0 : Int32))) (tg (sI H (tg H a12) a12 x1.toNatClampNeg (vp_nar .boolean (0 : Int32))) a15) a15 x1.toNatClampNeg) = 0 → L_X0_judgeAll_23 d q a0 (x1 + 1) (sI H (tg H a12) a12 x1.toNatClampNeg (vp_nar .boolean (0 : Int32)))) ∧ (¬ ((hI (sI H (tg H a12) a12 x1.toNatClampNeg (vp_nar .boolean (0 : Int32))) (tg (sI H (tg H a12) a12 x1.toNatClampNeg (vp_nar .boolean (0 : Int32))) a15) a15 x1.toNatClampNeg) = 0) → ∃ a18, (hC (sI H (tg H a12) a12 x1.toNatClampNeg (vp_nar .boolean (0 : Int32))) 100 a0) = some a18 ∧ (isA (sI H (tg H a12) a12 x1.toNatClampNeg (vp_nar .boolean (0 : Int32))) a18 0 ∧ (vp_in x1 (ln (sI H (tg H a12) a12 x1.toNatClampNeg (vp_nar .boolean (0 : Int32))) a18) ∧ (∃ a21, (hC (sI H (tg H a12) a12 x1.toNatClampNeg (vp_nar .boolean (0 : Int32))) 107 a0) = some a21 ∧ (isA (sI H (tg H a12) a12 x1.toNatClampNeg (vp_nar .boolean (0 : Int32))) a21 0 ∧ (vp_in (hI (sI H (tg H a12) a12 x1.toNatClampNeg (vp_nar .boolean (0 : Int32))) (tg (sI H (tg H a12) a12 x1.toNatClampNeg (vp_nar .boolean (0 : Int32))) a18) a18 x1.toNatClampNeg) (ln (sI H (tg H a12) a12 x1.toNatClampNeg (vp_nar .boolean (0 : Int32))) a21) ∧ (∃ a24, (hC (sI H (tg H a12) a12 x1.toNatClampNeg (vp_nar .boolean (0 : Int32))) 101 a0) = some a24 ∧ (isA (sI H (tg H a12) a12 x1.toNatClampNeg (vp_nar .boolean (0 : Int32))) a24 0 ∧ (vp_in x1 (ln (sI H (tg H a12) a12 x1.toNatClampNeg (vp_nar .boolean (0 : Int32))) a24) ∧ (vp_in (hI (sI H (tg H a12) a12 x1.toNatClampNeg (vp_nar .boolean (0 : Int32))) (tg (sI H (tg H a12) a12 x1.toNatClampNeg (vp_nar .boolean (0 : Int32))) a24) a24 x1.toNatClampNeg) (ln (sI H (tg H a12) a12 x1.toNatClampNeg (vp_nar .boolean (0 : Int32))) a21) ∧ (CV d 0 0 mX0_mergeBunches [rv (some a0), .int (hI (sI H (tg H a12) a12 x1.toNatClampNeg (vp_nar .boolean (0 : Int32))) (tg (sI H (tg H a12) a12 x1.toNatClampNeg (vp_nar .boolean (0 : Int32))) a21) a21 (hI (sI H (tg H a12) a12 x1.toNatClampNeg (vp_nar .boolean (0 : Int32))) (tg (sI H (tg H a12) a12 x1.toNatClampNeg (vp_nar .boolean (0 : Int32))) a18) a18 x1.toNatClampNeg).toNatClampNeg), .int (hI (sI H (tg H a12) a12 x1.toNatClampNeg (vp_nar .boolean (0 : Int32))) (tg (sI H (tg H a12) a12 x1.toNatClampNeg (vp_nar .boolean (0 : Int32))) a21) a21 (hI (sI H (tg H a12) a12 x1.toNatClampNeg (vp_nar .boolean (0 : Int32))) (tg (sI H (tg H a12) a12 x1.toNatClampNeg (vp_nar .boolean (0 : Int32))) a24) a24 x1.toNatClampNeg).toNatClampNeg)] (sI H (tg H a12) a12 x1.toNatClampNeg (vp_nar .boolean (0 : Int32))) (fun H28 => L_X0_judgeAll_23 d q a0 (x1 + 1) H28))))))))))))))))))) ∧ (¬ ((hI H (tg H a5) a5 (hI H (tg H a2) a2 x1.toNatClampNeg).toNatClampNeg) = (hI H (tg H a5) a5 (hI H (tg H a8) a8 x1.toNatClampNeg).toNatClampNeg)) → ∃ a29, (hC H 105 a0) = some a29 ∧ (isA H a29 2 ∧ (vp_in x1 (ln H a29) ∧ (∃ a32, (hC (sI H (tg H a29) a29 x1.toNatClampNeg (vp_nar .boolean (1 : Int32))) 105 a0) = some a32 ∧ (isA (sI H (tg H a29) a29 x1.toNatClampNeg (vp_nar .boolean (1 : Int32))) a32 2 ∧ (vp_in x1 (ln (sI H (tg H a29) a29 x1.toNatClampNeg (vp_nar .boolean (1 : Int32))) a32) ∧ (((hI (sI H (tg H a29) a29 x1.toNatClampNeg (vp_nar .boolean (1 : Int32))) (tg (sI H (tg H a29) a29 x1.toNatClampNeg (vp_nar .boolean (1 : Int32))) a32) a32 x1.toNatClampNeg) = 0 → L_X0_judgeAll_23 d q a0 (x1 + 1) (sI H (tg H a29) a29 x1.toNatClampNeg (vp_nar .boolean (1 : Int32)))) ∧ (¬ ((hI (sI H (tg H a29) a29 x1.toNatClampNeg (vp_nar .boolean (1 : Int32))) (tg (sI H (tg H a29) a29 x1.toNatClampNeg (vp_nar .boolean (1 : Int32))) a32) a32 x1.toNatClampNeg) = 0) → ∃ a35, (hC (sI H (tg H a29) a29 x1.toNatClampNeg (vp_nar .boolean (1 : Int32))) 100 a0) = some a35 ∧ (isA (sI H (tg H a29) a29 x1.toNatClampNeg (vp_nar .boolean (1 : Int32))) a35 0 ∧ (vp_in x1 (ln (sI H (tg H a29) a29 x1.toNatClampNeg (vp_nar .boolean (1 : Int32))) a35) ∧ (∃ a38, (hC (sI H (tg H a29) a29 x1.toNatClampNeg (vp_nar .boolean (1 : Int32))) 107 a0) = some a38 ∧ (isA (sI H (tg H a29) a29 x1.toNatClampNeg (vp_nar .boolean (1 : Int32))) a38 0 ∧ (vp_in (hI (sI H (tg H a29) a29 x1.toNatClampNeg (vp_nar .boolean (1 : Int32))) (tg (sI H (tg H a29) a29 x1.toNatClampNeg (vp_nar .boolean (1 : Int32))) a35) a35 x1.toNatClampNeg) (ln (sI H (tg H a29) a29 x1.toNatClampNeg (vp_nar .boolean (1 : Int32))) a38) ∧ (∃ a41, (hC (sI H (tg H a29) a29 x1.toNatClampNeg (vp_nar .boolean (1 : Int32))) 101 a0) = some a41 ∧ (isA (sI H (tg H a29) a29 x1.toNatClampNeg (vp_nar .boolean (1 : Int32))) a41 0 ∧ (vp_in x1 (ln (sI H (tg H a29) a29 x1.toNatClampNeg (vp_nar .boolean (1 : Int32))) a41) ∧ (vp_in (hI (sI H (tg H a29) a29 x1.toNatClampNeg (vp_nar .boolean (1 : Int32))) (tg (sI H (tg H a29) a29 x1.toNatClampNeg (vp_nar .boolean (1 : Int32))) a41) a41 x1.toNatClampNeg) (ln (sI H (tg H a29) a29 x1.toNatClampNeg (vp_nar .boolean (1 : Int32))) a38) ∧ (CV d 0 0 mX0_mergeBunches [rv (some a0), .int (hI (sI H (tg H a29) a29 x1.toNatClampNeg (vp_nar .boolean (1 : Int32))) (tg (sI H (tg H a29) a29 x1.toNatClampNeg (vp_nar .boolean (1 : Int32))) a38) a38 (hI (sI H (tg H a29) a29 x1.toNatClampNeg (vp_nar .boolean (1 : Int32))) (tg (sI H (tg H a29) a29 x1.toNatClampNeg (vp_nar .boolean (1 : Int32))) a35) a35 x1.toNatClampNeg).toNatClampNeg), .int (hI (sI H (tg H a29) a29 x1.toNatClampNeg (vp_nar .boolean (1 : Int32))) (tg (sI H (tg H a29) a29 x1.toNatClampNeg (vp_nar .boolean (1 : Int32))) a38) a38 (hI (sI H (tg H a29) a29 x1.toNatClampNeg (vp_nar .boolean (1 : Int32))) (tg (sI H (tg H a29) a29 x1.toNatClampNeg (vp_nar .boolean (1 : Int32))) a41) a41 x1.toNatClampNeg).toNatClampNeg)] (sI H (tg H a29) a29 x1.toNatClampNeg (vp_nar .boolean (1 : Int32))) (fun H45 => L_X0_judgeAll_23 d q a0 (x1 + 1) H45)))))))))))))))))))))))))))))))
set_option maxRecDepth 40000 in
set_option maxHeartbeats 4000000 in
theorem T_X0_judgeAll_23 {d : Nat} {q : HP → Prop} {a0 : Nat} {x1 : Int32} {H : HP} (h : wb_X0_judgeAll_23 d q a0 x1 H) : L_X0_judgeAll_23 d q a0 x1 H := by
  unfold wb_X0_judgeAll_23 at h
  unfold L_X0_judgeAll_23
  refine wp_iload_n 1 dX0_judgeAll_23 rfl ?_
  refine wp_aload_n 0 dX0_judgeAll_24 rfl ?_
  obtain ⟨ht1, h⟩ := h
  refine wp_getI (ci := 0) (j := 4) dX0_judgeAll_25 fi_X0_24r rfl rfl ht1 ?_
  change WP _ _ _ _ _ _ (.int (hI H 104 a0 0) :: _) _ _
  refine wp_icmp_ge (tgt := 108) dX0_judgeAll_28 rfl (fun c => ?_) (fun c => ?_)
  · replace h := h.1 c
    refine wp_iconst (v := (0 : Int32)) dX0_judgeAll_108 (by decide) ?_
    refine wp_istore_n (ls' := [(1, .int (0 : Int32)), (0, rv (some a0))]) dX0_judgeAll_109 (by decide) rfl ?_
    refine wp_sub (ls' := [(0, rv (some a0)), (1, .int (0 : Int32))]) [1, 0] rfl ?_
    exact h
  · replace h := h.2 c
    refine wp_aload_n 0 dX0_judgeAll_31 rfl ?_
    refine wp_getC (ci := 0) (j := 5) dX0_judgeAll_32 fi_X0_28r rfl rfl ht1 ?_
    change WP _ _ _ _ _ _ (rv (hC H 105 a0) :: _) _ _
    refine wp_iload_n 1 dX0_judgeAll_35 rfl ?_
    refine wp_aload_n 0 dX0_judgeAll_36 rfl ?_
    refine wp_getC (ci := 0) (j := 7) dX0_judgeAll_37 fi_X0_35r rfl rfl ht1 ?_
    change WP _ _ _ _ _ _ (rv (hC H 107 a0) :: _) _ _
    refine wp_aload_n 0 dX0_judgeAll_40 rfl ?_
    refine wp_getC (ci := 0) (j := 0) dX0_judgeAll_41 fi_X0_9r rfl rfl ht1 ?_
    change WP _ _ _ _ _ _ (rv (hC H 100 a0) :: _) _ _
    refine wp_iload_n 1 dX0_judgeAll_44 rfl ?_
    obtain ⟨a2, ha2, h⟩ := h
    obtain ⟨hr3, h⟩ := h
    obtain ⟨hg4, h⟩ := h
    refine wp_iaload dX0_judgeAll_45 ha2 hr3 hg4 ?_
    obtain ⟨a5, ha5, h⟩ := h
    obtain ⟨hr6, h⟩ := h
    obtain ⟨hg7, h⟩ := h
    refine wp_iaload dX0_judgeAll_46 ha5 hr6 hg7 ?_
    refine wp_aload_n 0 dX0_judgeAll_47 rfl ?_
    refine wp_getC (ci := 0) (j := 7) dX0_judgeAll_48 fi_X0_35r rfl rfl ht1 ?_
    change WP _ _ _ _ _ _ (rv (hC H 107 a0) :: _) _ _
    refine wp_aload_n 0 dX0_judgeAll_51 rfl ?_
    refine wp_getC (ci := 0) (j := 1) dX0_judgeAll_52 fi_X0_15r rfl rfl ht1 ?_
    change WP _ _ _ _ _ _ (rv (hC H 101 a0) :: _) _ _
    refine wp_iload_n 1 dX0_judgeAll_55 rfl ?_
    obtain ⟨a8, ha8, h⟩ := h
    obtain ⟨hr9, h⟩ := h
    obtain ⟨hg10, h⟩ := h
    refine wp_iaload dX0_judgeAll_56 ha8 hr9 hg10 ?_
    obtain ⟨hg11, h⟩ := h
    refine wp_iaload dX0_judgeAll_57 ha5 hr6 hg11 ?_
    refine wp_icmp_eq (tgt := 65) dX0_judgeAll_58 rfl (fun c => ?_) (fun c => ?_)
    · replace h := h.1 c
      refine wp_iconst (v := (0 : Int32)) dX0_judgeAll_65 (by decide) ?_
      obtain ⟨a12, ha12, h⟩ := h
      obtain ⟨hr13, h⟩ := h
      obtain ⟨hg14, h⟩ := h
      refine wp_zastore dX0_judgeAll_66 ha12 hr13 hg14 ?_
      change WP _ _ _ _ _ _ _ (sI H (tg H a12) a12 x1.toNatClampNeg (vp_nar .boolean (0 : Int32))) _
      refine wp_aload_n 0 dX0_judgeAll_67 rfl ?_
      refine wp_getC (ci := 0) (j := 5) dX0_judgeAll_68 fi_X0_28r rfl rfl ht1 ?_
      change WP _ _ _ _ _ _ (rv (hC (sI H (tg H a12) a12 x1.toNatClampNeg (vp_nar .boolean (0 : Int32))) 105 a0) :: _) _ _
      refine wp_iload_n 1 dX0_judgeAll_71 rfl ?_
      obtain ⟨a15, ha15, h⟩ := h
      obtain ⟨hr16, h⟩ := h
      obtain ⟨hg17, h⟩ := h
      refine wp_zaload dX0_judgeAll_72 ha15 hr16 hg17 ?_
      refine wp_if_eq (tgt := 102) dX0_judgeAll_73 rfl (fun c => ?_) (fun c => ?_)
      · replace h := h.1 c
        refine wp_iinc (v := (x1 + 1)) (ls' := [(1, .int (x1 + 1)), (0, rv (some a0))]) 1 dX0_judgeAll_102 rfl rfl (by decide) rfl ?_
        refine wp_goto (tgt := 23) dX0_judgeAll_105 rfl ?_
        refine wp_sub (ls' := [(0, rv (some a0)), (1, .int (x1 + 1))]) [1, 0] rfl ?_
        exact h
      · replace h := h.2 c
        refine wp_aload_n 0 dX0_judgeAll_76 rfl ?_
        refine wp_aload_n 0 dX0_judgeAll_77 rfl ?_
        refine wp_getC (ci := 0) (j := 7) dX0_judgeAll_78 fi_X0_35r rfl rfl ht1 ?_
        change WP _ _ _ _ _ _ (rv (hC (sI H (tg H a12) a12 x1.toNatClampNeg (vp_nar .boolean (0 : Int32))) 107 a0) :: _) _ _
        refine wp_aload_n 0 dX0_judgeAll_81 rfl ?_
        refine wp_getC (ci := 0) (j := 0) dX0_judgeAll_82 fi_X0_9r rfl rfl ht1 ?_
        change WP _ _ _ _ _ _ (rv (hC (sI H (tg H a12) a12 x1.toNatClampNeg (vp_nar .boolean (0 : Int32))) 100 a0) :: _) _ _
        refine wp_iload_n 1 dX0_judgeAll_85 rfl ?_
        obtain ⟨a18, ha18, h⟩ := h
        obtain ⟨hr19, h⟩ := h
        obtain ⟨hg20, h⟩ := h
        refine wp_iaload dX0_judgeAll_86 ha18 hr19 hg20 ?_
        obtain ⟨a21, ha21, h⟩ := h
        obtain ⟨hr22, h⟩ := h
        obtain ⟨hg23, h⟩ := h
        refine wp_iaload dX0_judgeAll_87 ha21 hr22 hg23 ?_
        refine wp_aload_n 0 dX0_judgeAll_88 rfl ?_
        refine wp_getC (ci := 0) (j := 7) dX0_judgeAll_89 fi_X0_35r rfl rfl ht1 ?_
        change WP _ _ _ _ _ _ (rv (hC (sI H (tg H a12) a12 x1.toNatClampNeg (vp_nar .boolean (0 : Int32))) 107 a0) :: _) _ _
        refine wp_aload_n 0 dX0_judgeAll_92 rfl ?_
        refine wp_getC (ci := 0) (j := 1) dX0_judgeAll_93 fi_X0_15r rfl rfl ht1 ?_
        change WP _ _ _ _ _ _ (rv (hC (sI H (tg H a12) a12 x1.toNatClampNeg (vp_nar .boolean (0 : Int32))) 101 a0) :: _) _ _
        refine wp_iload_n 1 dX0_judgeAll_96 rfl ?_
        obtain ⟨a24, ha24, h⟩ := h
        obtain ⟨hr25, h⟩ := h
        obtain ⟨hg26, h⟩ := h
        refine wp_iaload dX0_judgeAll_97 ha24 hr25 hg26 ?_
        obtain ⟨hg27, h⟩ := h
        refine wp_iaload dX0_judgeAll_98 ha21 hr22 hg27 ?_
        refine wp_callV (ci := 0) (As := [.int (hI (sI H (tg H a12) a12 x1.toNatClampNeg (vp_nar .boolean (0 : Int32))) (tg (sI H (tg H a12) a12 x1.toNatClampNeg (vp_nar .boolean (0 : Int32))) a21) a21 (hI (sI H (tg H a12) a12 x1.toNatClampNeg (vp_nar .boolean (0 : Int32))) (tg (sI H (tg H a12) a12 x1.toNatClampNeg (vp_nar .boolean (0 : Int32))) a18) a18 x1.toNatClampNeg).toNatClampNeg), .int (hI (sI H (tg H a12) a12 x1.toNatClampNeg (vp_nar .boolean (0 : Int32))) (tg (sI H (tg H a12) a12 x1.toNatClampNeg (vp_nar .boolean (0 : Int32))) a21) a21 (hI (sI H (tg H a12) a12 x1.toNatClampNeg (vp_nar .boolean (0 : Int32))) (tg (sI H (tg H a12) a12 x1.toNatClampNeg (vp_nar .boolean (0 : Int32))) a24) a24 x1.toNatClampNeg).toNatClampNeg)]) (rest := []) (mc := 0) (ms := 0) dX0_judgeAll_99 lk_X0_64 rfl rfl (by decide) rfl rfl rfl ht1 rfl rfl rfl w_3_167 (Call.weaken h ?_)
        rintro H28 _ ⟨rfl, h⟩
        change WP _ _ _ _ _ _ [] H28 _
        refine wp_iinc (v := (x1 + 1)) (ls' := [(1, .int (x1 + 1)), (0, rv (some a0))]) 1 dX0_judgeAll_102 rfl rfl (by decide) rfl ?_
        refine wp_goto (tgt := 23) dX0_judgeAll_105 rfl ?_
        refine wp_sub (ls' := [(0, rv (some a0)), (1, .int (x1 + 1))]) [1, 0] rfl ?_
        exact h
    · replace h := h.2 c
      refine wp_iconst (v := (1 : Int32)) dX0_judgeAll_61 (by decide) ?_
      refine wp_goto (tgt := 66) dX0_judgeAll_62 rfl ?_
      obtain ⟨a29, ha29, h⟩ := h
      obtain ⟨hr30, h⟩ := h
      obtain ⟨hg31, h⟩ := h
      refine wp_zastore dX0_judgeAll_66 ha29 hr30 hg31 ?_
      change WP _ _ _ _ _ _ _ (sI H (tg H a29) a29 x1.toNatClampNeg (vp_nar .boolean (1 : Int32))) _
      refine wp_aload_n 0 dX0_judgeAll_67 rfl ?_
      refine wp_getC (ci := 0) (j := 5) dX0_judgeAll_68 fi_X0_28r rfl rfl ht1 ?_
      change WP _ _ _ _ _ _ (rv (hC (sI H (tg H a29) a29 x1.toNatClampNeg (vp_nar .boolean (1 : Int32))) 105 a0) :: _) _ _
      refine wp_iload_n 1 dX0_judgeAll_71 rfl ?_
      obtain ⟨a32, ha32, h⟩ := h
      obtain ⟨hr33, h⟩ := h
      obtain ⟨hg34, h⟩ := h
      refine wp_zaload dX0_judgeAll_72 ha32 hr33 hg34 ?_
      refine wp_if_eq (tgt := 102) dX0_judgeAll_73 rfl (fun c => ?_) (fun c => ?_)
      · replace h := h.1 c
        refine wp_iinc (v := (x1 + 1)) (ls' := [(1, .int (x1 + 1)), (0, rv (some a0))]) 1 dX0_judgeAll_102 rfl rfl (by decide) rfl ?_
        refine wp_goto (tgt := 23) dX0_judgeAll_105 rfl ?_
        refine wp_sub (ls' := [(0, rv (some a0)), (1, .int (x1 + 1))]) [1, 0] rfl ?_
        exact h
      · replace h := h.2 c
        refine wp_aload_n 0 dX0_judgeAll_76 rfl ?_
        refine wp_aload_n 0 dX0_judgeAll_77 rfl ?_
        refine wp_getC (ci := 0) (j := 7) dX0_judgeAll_78 fi_X0_35r rfl rfl ht1 ?_
        change WP _ _ _ _ _ _ (rv (hC (sI H (tg H a29) a29 x1.toNatClampNeg (vp_nar .boolean (1 : Int32))) 107 a0) :: _) _ _
        refine wp_aload_n 0 dX0_judgeAll_81 rfl ?_
        refine wp_getC (ci := 0) (j := 0) dX0_judgeAll_82 fi_X0_9r rfl rfl ht1 ?_
        change WP _ _ _ _ _ _ (rv (hC (sI H (tg H a29) a29 x1.toNatClampNeg (vp_nar .boolean (1 : Int32))) 100 a0) :: _) _ _
        refine wp_iload_n 1 dX0_judgeAll_85 rfl ?_
        obtain ⟨a35, ha35, h⟩ := h
        obtain ⟨hr36, h⟩ := h
        obtain ⟨hg37, h⟩ := h
        refine wp_iaload dX0_judgeAll_86 ha35 hr36 hg37 ?_
        obtain ⟨a38, ha38, h⟩ := h
        obtain ⟨hr39, h⟩ := h
        obtain ⟨hg40, h⟩ := h
        refine wp_iaload dX0_judgeAll_87 ha38 hr39 hg40 ?_
        refine wp_aload_n 0 dX0_judgeAll_88 rfl ?_
        refine wp_getC (ci := 0) (j := 7) dX0_judgeAll_89 fi_X0_35r rfl rfl ht1 ?_
        change WP _ _ _ _ _ _ (rv (hC (sI H (tg H a29) a29 x1.toNatClampNeg (vp_nar .boolean (1 : Int32))) 107 a0) :: _) _ _
        refine wp_aload_n 0 dX0_judgeAll_92 rfl ?_
        refine wp_getC (ci := 0) (j := 1) dX0_judgeAll_93 fi_X0_15r rfl rfl ht1 ?_
        change WP _ _ _ _ _ _ (rv (hC (sI H (tg H a29) a29 x1.toNatClampNeg (vp_nar .boolean (1 : Int32))) 101 a0) :: _) _ _
        refine wp_iload_n 1 dX0_judgeAll_96 rfl ?_
        obtain ⟨a41, ha41, h⟩ := h
        obtain ⟨hr42, h⟩ := h
        obtain ⟨hg43, h⟩ := h
        refine wp_iaload dX0_judgeAll_97 ha41 hr42 hg43 ?_
        obtain ⟨hg44, h⟩ := h
        refine wp_iaload dX0_judgeAll_98 ha38 hr39 hg44 ?_
        refine wp_callV (ci := 0) (As := [.int (hI (sI H (tg H a29) a29 x1.toNatClampNeg (vp_nar .boolean (1 : Int32))) (tg (sI H (tg H a29) a29 x1.toNatClampNeg (vp_nar .boolean (1 : Int32))) a38) a38 (hI (sI H (tg H a29) a29 x1.toNatClampNeg (vp_nar .boolean (1 : Int32))) (tg (sI H (tg H a29) a29 x1.toNatClampNeg (vp_nar .boolean (1 : Int32))) a35) a35 x1.toNatClampNeg).toNatClampNeg), .int (hI (sI H (tg H a29) a29 x1.toNatClampNeg (vp_nar .boolean (1 : Int32))) (tg (sI H (tg H a29) a29 x1.toNatClampNeg (vp_nar .boolean (1 : Int32))) a38) a38 (hI (sI H (tg H a29) a29 x1.toNatClampNeg (vp_nar .boolean (1 : Int32))) (tg (sI H (tg H a29) a29 x1.toNatClampNeg (vp_nar .boolean (1 : Int32))) a41) a41 x1.toNatClampNeg).toNatClampNeg)]) (rest := []) (mc := 0) (ms := 0) dX0_judgeAll_99 lk_X0_64 rfl rfl (by decide) rfl rfl rfl ht1 rfl rfl rfl w_3_167 (Call.weaken h ?_)
        rintro H45 _ ⟨rfl, h⟩
        change WP _ _ _ _ _ _ [] H45 _
        refine wp_iinc (v := (x1 + 1)) (ls' := [(1, .int (x1 + 1)), (0, rv (some a0))]) 1 dX0_judgeAll_102 rfl rfl (by decide) rfl ?_
        refine wp_goto (tgt := 23) dX0_judgeAll_105 rfl ?_
        refine wp_sub (ls' := [(0, rv (some a0)), (1, .int (x1 + 1))]) [1, 0] rfl ?_
        exact h
def wb_X0_judgeAll_110 (d : Nat) (q : HP → Prop) (a0 : Nat) (x1 : Int32) (H : HP) : Prop :=
  tg H a0 = 1 ∧ (((hI H 104 a0 0) ≤ x1 → q H) ∧ (¬ ((hI H 104 a0 0) ≤ x1) → ∃ a2, (hC H 105 a0) = some a2 ∧ (isA H a2 2 ∧ (vp_in x1 (ln H a2) ∧ (((hI H (tg H a2) a2 x1.toNatClampNeg) = 0 → CI d 0 0 mX0_verdictOn [rv (some a0), .int x1] H (fun H5 r6 => ∃ a7, (hC H 106 a0) = some a7 ∧ (isA H5 a7 0 ∧ (vp_in x1 (ln H5 a7) ∧ (L_X0_judgeAll_110 d q a0 (x1 + 1) (sI H5 (tg H5 a7) a7 x1.toNatClampNeg r6)))))) ∧ (¬ ((hI H (tg H a2) a2 x1.toNatClampNeg) = 0) → ∃ a10, (hC H 106 a0) = some a10 ∧ (isA H a10 0 ∧ (vp_in x1 (ln H a10) ∧ (L_X0_judgeAll_110 d q a0 (x1 + 1) (sI H (tg H a10) a10 x1.toNatClampNeg (0 : Int32)))))))))))
set_option maxRecDepth 40000 in
set_option maxHeartbeats 4000000 in
theorem T_X0_judgeAll_110 {d : Nat} {q : HP → Prop} {a0 : Nat} {x1 : Int32} {H : HP} (h : wb_X0_judgeAll_110 d q a0 x1 H) : L_X0_judgeAll_110 d q a0 x1 H := by
  unfold wb_X0_judgeAll_110 at h
  unfold L_X0_judgeAll_110
  refine wp_iload_n 1 dX0_judgeAll_110 rfl ?_
  refine wp_aload_n 0 dX0_judgeAll_111 rfl ?_
  obtain ⟨ht1, h⟩ := h
  refine wp_getI (ci := 0) (j := 4) dX0_judgeAll_112 fi_X0_24r rfl rfl ht1 ?_
  change WP _ _ _ _ _ _ (.int (hI H 104 a0 0) :: _) _ _
  refine wp_icmp_ge (tgt := 148) dX0_judgeAll_115 rfl (fun c => ?_) (fun c => ?_)
  · replace h := h.1 c
    exact wp_return dX0_judgeAll_148 rfl ⟨rfl, h⟩
  · replace h := h.2 c
    refine wp_aload_n 0 dX0_judgeAll_118 rfl ?_
    refine wp_getC (ci := 0) (j := 6) dX0_judgeAll_119 fi_X0_32r rfl rfl ht1 ?_
    change WP _ _ _ _ _ _ (rv (hC H 106 a0) :: _) _ _
    refine wp_iload_n 1 dX0_judgeAll_122 rfl ?_
    refine wp_aload_n 0 dX0_judgeAll_123 rfl ?_
    refine wp_getC (ci := 0) (j := 5) dX0_judgeAll_124 fi_X0_28r rfl rfl ht1 ?_
    change WP _ _ _ _ _ _ (rv (hC H 105 a0) :: _) _ _
    refine wp_iload_n 1 dX0_judgeAll_127 rfl ?_
    obtain ⟨a2, ha2, h⟩ := h
    obtain ⟨hr3, h⟩ := h
    obtain ⟨hg4, h⟩ := h
    refine wp_zaload dX0_judgeAll_128 ha2 hr3 hg4 ?_
    refine wp_if_eq (tgt := 136) dX0_judgeAll_129 rfl (fun c => ?_) (fun c => ?_)
    · replace h := h.1 c
      refine wp_aload_n 0 dX0_judgeAll_136 rfl ?_
      refine wp_iload_n 1 dX0_judgeAll_137 rfl ?_
      refine wp_callV (ci := 0) (As := [.int x1]) (rest := [.int x1, rv (hC H 106 a0)]) (mc := 0) (ms := 0) dX0_judgeAll_138 lk_X0_68 rfl rfl (by simp [rv_cat, vc_int, vc_long, vc_float, vc_double]) rfl rfl rfl ht1 rfl rfl rfl w_3_171 (Call.weaken h ?_)
      rintro H5 _ ⟨r6, rfl, h⟩
      change WP _ _ _ _ _ _ [.int r6, .int x1, rv (hC H 106 a0)] H5 _
      obtain ⟨a7, ha7, h⟩ := h
      obtain ⟨hr8, h⟩ := h
      obtain ⟨hg9, h⟩ := h
      refine wp_iastore dX0_judgeAll_141 ha7 hr8 hg9 ?_
      change WP _ _ _ _ _ _ _ (sI H5 (tg H5 a7) a7 x1.toNatClampNeg r6) _
      refine wp_iinc (v := (x1 + 1)) (ls' := [(1, .int (x1 + 1)), (0, rv (some a0))]) 1 dX0_judgeAll_142 rfl rfl (by decide) rfl ?_
      refine wp_goto (tgt := 110) dX0_judgeAll_145 rfl ?_
      refine wp_sub (ls' := [(0, rv (some a0)), (1, .int (x1 + 1))]) [1, 0] rfl ?_
      exact h
    · replace h := h.2 c
      refine wp_iconst (v := (0 : Int32)) dX0_judgeAll_132 (by decide) ?_
      refine wp_goto (tgt := 141) dX0_judgeAll_133 rfl ?_
      obtain ⟨a10, ha10, h⟩ := h
      obtain ⟨hr11, h⟩ := h
      obtain ⟨hg12, h⟩ := h
      refine wp_iastore dX0_judgeAll_141 ha10 hr11 hg12 ?_
      change WP _ _ _ _ _ _ _ (sI H (tg H a10) a10 x1.toNatClampNeg (0 : Int32)) _
      refine wp_iinc (v := (x1 + 1)) (ls' := [(1, .int (x1 + 1)), (0, rv (some a0))]) 1 dX0_judgeAll_142 rfl rfl (by decide) rfl ?_
      refine wp_goto (tgt := 110) dX0_judgeAll_145 rfl ?_
      refine wp_sub (ls' := [(0, rv (some a0)), (1, .int (x1 + 1))]) [1, 0] rfl ?_
      exact h
theorem C_X0_judgeAll {d : Nat} {q : HP → Prop} {a0 : Nat} {H : HP} (h : wb_X0_judgeAll_0 d q a0 H) : CV (d + 1) 0 0 mX0_judgeAll [rv (some a0)] H q := by
  refine call_of (by decide +kernel) (by simp [lg_sl, rv_cat, vc_int, vc_long, vc_float, vc_double]) ?_
  have e : lv_args 0 [rv (some a0)] = [(0, rv (some a0))] := by simp [lv_args, rv_cat, vc_int, vc_long, vc_float, vc_double]
  rw [e]
  exact T_X0_judgeAll_0 h
/-- UnitProver$Claims.mergeBunches(II)V: the loop at 2 -/
def L_X0_mergeBunches_2 (d : Nat) (q : HP → Prop) (a0 : Nat) (x1 : Int32) (x2 : Int32) (x3 : Int32) (H : HP) : Prop := WP (d + 1) mX0_mergeBunches 0 0 2 [(0, rv (some a0)), (1, .int x1), (2, .int x2), (3, .int x3)] [] H (qV q)
def wb_X0_mergeBunches_0 (d : Nat) (q : HP → Prop) (a0 : Nat) (x1 : Int32) (x2 : Int32) (H : HP) : Prop :=
  L_X0_mergeBunches_2 d q a0 x1 x2 (0 : Int32) H
set_option maxRecDepth 40000 in
set_option maxHeartbeats 4000000 in
theorem T_X0_mergeBunches_0 {d : Nat} {q : HP → Prop} {a0 : Nat} {x1 : Int32} {x2 : Int32} {H : HP} (h : wb_X0_mergeBunches_0 d q a0 x1 x2 H) : WP (d + 1) mX0_mergeBunches 0 0 0 [(0, rv (some a0)), (1, .int x1), (2, .int x2)] [] H (qV q) := by
  unfold wb_X0_mergeBunches_0 at h
  refine wp_iconst (v := (0 : Int32)) dX0_mergeBunches_0 (by decide) ?_
  refine wp_istore_n (ls' := [(3, .int (0 : Int32)), (0, rv (some a0)), (1, .int x1), (2, .int x2)]) dX0_mergeBunches_1 (by decide) rfl ?_
  refine wp_sub (ls' := [(0, rv (some a0)), (1, .int x1), (2, .int x2), (3, .int (0 : Int32))]) [1, 2, 3, 0] rfl ?_
  exact h
def wb_X0_mergeBunches_2 (d : Nat) (q : HP → Prop) (a0 : Nat) (x1 : Int32) (x2 : Int32) (x3 : Int32) (H : HP) : Prop :=
  ((20 : Int32) ≤ x3 → q H) ∧ (¬ ((20 : Int32) ≤ x3) → tg H a0 = 1 ∧ (∃ a2, (hC H 107 a0) = some a2 ∧ (isA H a2 0 ∧ (vp_in x3 (ln H a2) ∧ ((¬ (hI H (tg H a2) a2 x3.toNatClampNeg) = x2 → L_X0_mergeBunches_2 d q a0 x1 x2 (x3 + 1) H) ∧ ((hI H (tg H a2) a2 x3.toNatClampNeg) = x2 → vp_in x3 (ln H a2) ∧ (L_X0_mergeBunches_2 d q a0 x1 x2 (x3 + 1) (sI H (tg H a2) a2 x3.toNatClampNeg x1))))))))
set_option maxRecDepth 40000 in
set_option maxHeartbeats 4000000 in
theorem T_X0_mergeBunches_2 {d : Nat} {q : HP → Prop} {a0 : Nat} {x1 : Int32} {x2 : Int32} {x3 : Int32} {H : HP} (h : wb_X0_mergeBunches_2 d q a0 x1 x2 x3 H) : L_X0_mergeBunches_2 d q a0 x1 x2 x3 H := by
  unfold wb_X0_mergeBunches_2 at h
  unfold L_X0_mergeBunches_2
  refine wp_iload_n 3 dX0_mergeBunches_2 rfl ?_
  refine wp_bipush (v := (20 : Int32)) dX0_mergeBunches_3 (by decide) ?_
  refine wp_icmp_ge (tgt := 31) dX0_mergeBunches_5 rfl (fun c => ?_) (fun c => ?_)
  · replace h := h.1 c
    exact wp_return dX0_mergeBunches_31 rfl ⟨rfl, h⟩
  · replace h := h.2 c
    refine wp_aload_n 0 dX0_mergeBunches_8 rfl ?_
    obtain ⟨ht1, h⟩ := h
    refine wp_getC (ci := 0) (j := 7) dX0_mergeBunches_9 fi_X0_35r rfl rfl ht1 ?_
    change WP _ _ _ _ _ _ (rv (hC H 107 a0) :: _) _ _
    refine wp_iload_n 3 dX0_mergeBunches_12 rfl ?_
    obtain ⟨a2, ha2, h⟩ := h
    obtain ⟨hr3, h⟩ := h
    obtain ⟨hg4, h⟩ := h
    refine wp_iaload dX0_mergeBunches_13 ha2 hr3 hg4 ?_
    refine wp_iload_n 2 dX0_mergeBunches_14 rfl ?_
    refine wp_icmp_ne (tgt := 25) dX0_mergeBunches_15 rfl (fun c => ?_) (fun c => ?_)
    · replace h := h.1 c
      refine wp_iinc (v := (x3 + 1)) (ls' := [(3, .int (x3 + 1)), (0, rv (some a0)), (1, .int x1), (2, .int x2)]) 3 dX0_mergeBunches_25 rfl rfl (by decide) rfl ?_
      refine wp_goto (tgt := 2) dX0_mergeBunches_28 rfl ?_
      refine wp_sub (ls' := [(0, rv (some a0)), (1, .int x1), (2, .int x2), (3, .int (x3 + 1))]) [1, 2, 3, 0] rfl ?_
      exact h
    · replace h := h.2 c
      refine wp_aload_n 0 dX0_mergeBunches_18 rfl ?_
      refine wp_getC (ci := 0) (j := 7) dX0_mergeBunches_19 fi_X0_35r rfl rfl ht1 ?_
      change WP _ _ _ _ _ _ (rv (hC H 107 a0) :: _) _ _
      refine wp_iload_n 3 dX0_mergeBunches_22 rfl ?_
      refine wp_iload_n 1 dX0_mergeBunches_23 rfl ?_
      obtain ⟨hg5, h⟩ := h
      refine wp_iastore dX0_mergeBunches_24 ha2 hr3 hg5 ?_
      change WP _ _ _ _ _ _ _ (sI H (tg H a2) a2 x3.toNatClampNeg x1) _
      refine wp_iinc (v := (x3 + 1)) (ls' := [(3, .int (x3 + 1)), (0, rv (some a0)), (1, .int x1), (2, .int x2)]) 3 dX0_mergeBunches_25 rfl rfl (by decide) rfl ?_
      refine wp_goto (tgt := 2) dX0_mergeBunches_28 rfl ?_
      refine wp_sub (ls' := [(0, rv (some a0)), (1, .int x1), (2, .int x2), (3, .int (x3 + 1))]) [1, 2, 3, 0] rfl ?_
      exact h
theorem C_X0_mergeBunches {d : Nat} {q : HP → Prop} {a0 : Nat} {x1 : Int32} {x2 : Int32} {H : HP} (h : wb_X0_mergeBunches_0 d q a0 x1 x2 H) : CV (d + 1) 0 0 mX0_mergeBunches [rv (some a0), .int x1, .int x2] H q := by
  refine call_of (by decide +kernel) (by simp [lg_sl, rv_cat, vc_int, vc_long, vc_float, vc_double]) ?_
  have e : lv_args 0 [rv (some a0), .int x1, .int x2] = [(0, rv (some a0)), (1, .int x1), (2, .int x2)] := by simp [lv_args, rv_cat, vc_int, vc_long, vc_float, vc_double]
  rw [e]
  exact T_X0_mergeBunches_0 h
def wb_X0_remove_0 (d : Nat) (q : HP → Prop) (a0 : Nat) (x1 : Int32) (H : HP) : Prop :=
  tg H a0 = 1 ∧ (CV d 0 0 mX0_takeOut [rv (some a0), .int x1] H (fun H1 => tg H1 a0 = 1 ∧ (CV d 0 0 mX0_judgeAll [rv (some a0)] H1 (fun H3 => q H3))))
set_option maxRecDepth 40000 in
set_option maxHeartbeats 4000000 in
theorem T_X0_remove_0 {d : Nat} {q : HP → Prop} {a0 : Nat} {x1 : Int32} {H : HP} (h : wb_X0_remove_0 d q a0 x1 H) : WP (d + 1) mX0_remove 0 0 0 [(0, rv (some a0)), (1, .int x1)] [] H (qV q) := by
  unfold wb_X0_remove_0 at h
  refine wp_aload_n 0 dX0_remove_0 rfl ?_
  refine wp_iload_n 1 dX0_remove_1 rfl ?_
  obtain ⟨ht2, h⟩ := h
  refine wp_callV (ci := 0) (As := [.int x1]) (rest := []) (mc := 0) (ms := 0) dX0_remove_2 lk_X0_54 rfl rfl (by decide) rfl rfl rfl ht2 rfl rfl rfl w_3_159 (Call.weaken h ?_)
  rintro H1 _ ⟨rfl, h⟩
  change WP _ _ _ _ _ _ [] H1 _
  refine wp_aload_n 0 dX0_remove_5 rfl ?_
  obtain ⟨ht4, h⟩ := h
  refine wp_callV (ci := 0) (As := []) (rest := []) (mc := 0) (ms := 0) dX0_remove_6 lk_X0_51 rfl rfl (by decide) rfl rfl rfl ht4 rfl rfl rfl w_3_163 (Call.weaken h ?_)
  rintro H3 _ ⟨rfl, h⟩
  change WP _ _ _ _ _ _ [] H3 _
  exact wp_return dX0_remove_9 rfl ⟨rfl, h⟩
theorem C_X0_remove {d : Nat} {q : HP → Prop} {a0 : Nat} {x1 : Int32} {H : HP} (h : wb_X0_remove_0 d q a0 x1 H) : CV (d + 1) 0 0 mX0_remove [rv (some a0), .int x1] H q := by
  refine call_of (by decide +kernel) (by simp [lg_sl, rv_cat, vc_int, vc_long, vc_float, vc_double]) ?_
  have e : lv_args 0 [rv (some a0), .int x1] = [(0, rv (some a0)), (1, .int x1)] := by simp [lv_args, rv_cat, vc_int, vc_long, vc_float, vc_double]
  rw [e]
  exact T_X0_remove_0 h
/-- UnitProver$Claims.removeOf(I)V: the loop at 7 -/
def L_X0_removeOf_7 (d : Nat) (q : HP → Prop) (a0 : Nat) (x1 : Int32) (x2 : Int32) (H : HP) : Prop := WP (d + 1) mX0_removeOf 0 0 7 [(0, rv (some a0)), (1, .int x1), (2, .int x2)] [] H (qV q)
def wb_X0_removeOf_0 (d : Nat) (q : HP → Prop) (a0 : Nat) (x1 : Int32) (H : HP) : Prop :=
  tg H a0 = 1 ∧ (L_X0_removeOf_7 d q a0 x1 ((hI H 104 a0 0) - (1 : Int32)) H)
set_option maxRecDepth 40000 in
set_option maxHeartbeats 4000000 in
theorem T_X0_removeOf_0 {d : Nat} {q : HP → Prop} {a0 : Nat} {x1 : Int32} {H : HP} (h : wb_X0_removeOf_0 d q a0 x1 H) : WP (d + 1) mX0_removeOf 0 0 0 [(0, rv (some a0)), (1, .int x1)] [] H (qV q) := by
  unfold wb_X0_removeOf_0 at h
  refine wp_aload_n 0 dX0_removeOf_0 rfl ?_
  obtain ⟨ht1, h⟩ := h
  refine wp_getI (ci := 0) (j := 4) dX0_removeOf_1 fi_X0_24r rfl rfl ht1 ?_
  change WP _ _ _ _ _ _ (.int (hI H 104 a0 0) :: _) _ _
  refine wp_iconst (v := (1 : Int32)) dX0_removeOf_4 (by decide) ?_
  refine wp_isub dX0_removeOf_5 ?_
  refine wp_istore_n (ls' := [(2, .int ((hI H 104 a0 0) - (1 : Int32))), (0, rv (some a0)), (1, .int x1)]) dX0_removeOf_6 (by decide) rfl ?_
  refine wp_sub (ls' := [(0, rv (some a0)), (1, .int x1), (2, .int ((hI H 104 a0 0) - (1 : Int32)))]) [1, 2, 0] rfl ?_
  exact h
def wb_X0_removeOf_7 (d : Nat) (q : HP → Prop) (a0 : Nat) (x1 : Int32) (x2 : Int32) (H : HP) : Prop :=
  (x2 < 0 → tg H a0 = 1 ∧ (CV d 0 0 mX0_judgeAll [rv (some a0)] H (fun H1 => q H1))) ∧ (¬ (x2 < 0) → tg H a0 = 1 ∧ (∃ a4, (hC H 100 a0) = some a4 ∧ (isA H a4 0 ∧ (vp_in x2 (ln H a4) ∧ (((hI H (tg H a4) a4 x2.toNatClampNeg) = x1 → CV d 0 0 mX0_takeOut [rv (some a0), .int x2] H (fun H7 => L_X0_removeOf_7 d q a0 x1 (x2 + (-1)) H7)) ∧ (¬ ((hI H (tg H a4) a4 x2.toNatClampNeg) = x1) → ∃ a8, (hC H 101 a0) = some a8 ∧ (isA H a8 0 ∧ (vp_in x2 (ln H a8) ∧ ((¬ (hI H (tg H a8) a8 x2.toNatClampNeg) = x1 → L_X0_removeOf_7 d q a0 x1 (x2 + (-1)) H) ∧ ((hI H (tg H a8) a8 x2.toNatClampNeg) = x1 → CV d 0 0 mX0_takeOut [rv (some a0), .int x2] H (fun H11 => L_X0_removeOf_7 d q a0 x1 (x2 + (-1)) H11)))))))))))
set_option maxRecDepth 40000 in
set_option maxHeartbeats 4000000 in
theorem T_X0_removeOf_7 {d : Nat} {q : HP → Prop} {a0 : Nat} {x1 : Int32} {x2 : Int32} {H : HP} (h : wb_X0_removeOf_7 d q a0 x1 x2 H) : L_X0_removeOf_7 d q a0 x1 x2 H := by
  unfold wb_X0_removeOf_7 at h
  unfold L_X0_removeOf_7
  refine wp_iload_n 2 dX0_removeOf_7 rfl ?_
  refine wp_if_lt (tgt := 42) dX0_removeOf_8 rfl (fun c => ?_) (fun c => ?_)
  · replace h := h.1 c
    refine wp_aload_n 0 dX0_removeOf_42 rfl ?_
    obtain ⟨ht2, h⟩ := h
    refine wp_callV (ci := 0) (As := []) (rest := []) (mc := 0) (ms := 0) dX0_removeOf_43 lk_X0_51 rfl rfl (by decide) rfl rfl rfl ht2 rfl rfl rfl w_3_163 (Call.weaken h ?_)
    rintro H1 _ ⟨rfl, h⟩
    change WP _ _ _ _ _ _ [] H1 _
    exact wp_return dX0_removeOf_46 rfl ⟨rfl, h⟩
  · replace h := h.2 c
    refine wp_aload_n 0 dX0_removeOf_11 rfl ?_
    obtain ⟨ht3, h⟩ := h
    refine wp_getC (ci := 0) (j := 0) dX0_removeOf_12 fi_X0_9r rfl rfl ht3 ?_
    change WP _ _ _ _ _ _ (rv (hC H 100 a0) :: _) _ _
    refine wp_iload_n 2 dX0_removeOf_15 rfl ?_
    obtain ⟨a4, ha4, h⟩ := h
    obtain ⟨hr5, h⟩ := h
    obtain ⟨hg6, h⟩ := h
    refine wp_iaload dX0_removeOf_16 ha4 hr5 hg6 ?_
    refine wp_iload_n 1 dX0_removeOf_17 rfl ?_
    refine wp_icmp_eq (tgt := 31) dX0_removeOf_18 rfl (fun c => ?_) (fun c => ?_)
    · replace h := h.1 c
      refine wp_aload_n 0 dX0_removeOf_31 rfl ?_
      refine wp_iload_n 2 dX0_removeOf_32 rfl ?_
      refine wp_callV (ci := 0) (As := [.int x2]) (rest := []) (mc := 0) (ms := 0) dX0_removeOf_33 lk_X0_54 rfl rfl (by decide) rfl rfl rfl ht3 rfl rfl rfl w_3_159 (Call.weaken h ?_)
      rintro H7 _ ⟨rfl, h⟩
      change WP _ _ _ _ _ _ [] H7 _
      refine wp_iinc (v := (x2 + (-1))) (ls' := [(2, .int (x2 + (-1))), (0, rv (some a0)), (1, .int x1)]) 2 dX0_removeOf_36 rfl rfl (by decide) rfl ?_
      refine wp_goto (tgt := 7) dX0_removeOf_39 rfl ?_
      refine wp_sub (ls' := [(0, rv (some a0)), (1, .int x1), (2, .int (x2 + (-1)))]) [1, 2, 0] rfl ?_
      exact h
    · replace h := h.2 c
      refine wp_aload_n 0 dX0_removeOf_21 rfl ?_
      refine wp_getC (ci := 0) (j := 1) dX0_removeOf_22 fi_X0_15r rfl rfl ht3 ?_
      change WP _ _ _ _ _ _ (rv (hC H 101 a0) :: _) _ _
      refine wp_iload_n 2 dX0_removeOf_25 rfl ?_
      obtain ⟨a8, ha8, h⟩ := h
      obtain ⟨hr9, h⟩ := h
      obtain ⟨hg10, h⟩ := h
      refine wp_iaload dX0_removeOf_26 ha8 hr9 hg10 ?_
      refine wp_iload_n 1 dX0_removeOf_27 rfl ?_
      refine wp_icmp_ne (tgt := 36) dX0_removeOf_28 rfl (fun c => ?_) (fun c => ?_)
      · replace h := h.1 c
        refine wp_iinc (v := (x2 + (-1))) (ls' := [(2, .int (x2 + (-1))), (0, rv (some a0)), (1, .int x1)]) 2 dX0_removeOf_36 rfl rfl (by decide) rfl ?_
        refine wp_goto (tgt := 7) dX0_removeOf_39 rfl ?_
        refine wp_sub (ls' := [(0, rv (some a0)), (1, .int x1), (2, .int (x2 + (-1)))]) [1, 2, 0] rfl ?_
        exact h
      · replace h := h.2 c
        refine wp_aload_n 0 dX0_removeOf_31 rfl ?_
        refine wp_iload_n 2 dX0_removeOf_32 rfl ?_
        refine wp_callV (ci := 0) (As := [.int x2]) (rest := []) (mc := 0) (ms := 0) dX0_removeOf_33 lk_X0_54 rfl rfl (by decide) rfl rfl rfl ht3 rfl rfl rfl w_3_159 (Call.weaken h ?_)
        rintro H11 _ ⟨rfl, h⟩
        change WP _ _ _ _ _ _ [] H11 _
        refine wp_iinc (v := (x2 + (-1))) (ls' := [(2, .int (x2 + (-1))), (0, rv (some a0)), (1, .int x1)]) 2 dX0_removeOf_36 rfl rfl (by decide) rfl ?_
        refine wp_goto (tgt := 7) dX0_removeOf_39 rfl ?_
        refine wp_sub (ls' := [(0, rv (some a0)), (1, .int x1), (2, .int (x2 + (-1)))]) [1, 2, 0] rfl ?_
        exact h
theorem C_X0_removeOf {d : Nat} {q : HP → Prop} {a0 : Nat} {x1 : Int32} {H : HP} (h : wb_X0_removeOf_0 d q a0 x1 H) : CV (d + 1) 0 0 mX0_removeOf [rv (some a0), .int x1] H q := by
  refine call_of (by decide +kernel) (by simp [lg_sl, rv_cat, vc_int, vc_long, vc_float, vc_double]) ?_
  have e : lv_args 0 [rv (some a0), .int x1] = [(0, rv (some a0)), (1, .int x1)] := by simp [lv_args, rv_cat, vc_int, vc_long, vc_float, vc_double]
  rw [e]
  exact T_X0_removeOf_0 h
/-- UnitProver$Claims.spreadFrom(I)V: the loop at 2 -/
def L_X0_spreadFrom_2 (d : Nat) (q : HP → Prop) (a0 : Nat) (x1 : Int32) (x2 : Int32) (H : HP) : Prop := WP (d + 1) mX0_spreadFrom 0 0 2 [(0, rv (some a0)), (1, .int x1), (2, .int x2)] [] H (qV q)
/-- UnitProver$Claims.spreadFrom(I)V: the loop at 33 -/
def L_X0_spreadFrom_33 (d : Nat) (q : HP → Prop) (a0 : Nat) (x2 : Int32) (x3 : Int32) (H : HP) : Prop := WP (d + 1) mX0_spreadFrom 0 0 33 [(0, rv (some a0)), (2, .int x2), (3, .int x3)] [] H (qV q)
/-- UnitProver$Claims.spreadFrom(I)V: the loop at 48 -/
def L_X0_spreadFrom_48 (d : Nat) (q : HP → Prop) (a0 : Nat) (x2 : Int32) (x3 : Int32) (x4 : Int32) (H : HP) : Prop := WP (d + 1) mX0_spreadFrom 0 0 48 [(0, rv (some a0)), (2, .int x2), (3, .int x3), (4, .int x4)] [] H (qV q)
def wb_X0_spreadFrom_0 (d : Nat) (q : HP → Prop) (a0 : Nat) (x1 : Int32) (H : HP) : Prop :=
  L_X0_spreadFrom_2 d q a0 x1 (0 : Int32) H
set_option maxRecDepth 40000 in
set_option maxHeartbeats 4000000 in
theorem T_X0_spreadFrom_0 {d : Nat} {q : HP → Prop} {a0 : Nat} {x1 : Int32} {H : HP} (h : wb_X0_spreadFrom_0 d q a0 x1 H) : WP (d + 1) mX0_spreadFrom 0 0 0 [(0, rv (some a0)), (1, .int x1)] [] H (qV q) := by
  unfold wb_X0_spreadFrom_0 at h
  refine wp_iconst (v := (0 : Int32)) dX0_spreadFrom_0 (by decide) ?_
  refine wp_istore_n (ls' := [(2, .int (0 : Int32)), (0, rv (some a0)), (1, .int x1)]) dX0_spreadFrom_1 (by decide) rfl ?_
  refine wp_sub (ls' := [(0, rv (some a0)), (1, .int x1), (2, .int (0 : Int32))]) [1, 2, 0] rfl ?_
  exact h
def wb_X0_spreadFrom_2 (d : Nat) (q : HP → Prop) (a0 : Nat) (x1 : Int32) (x2 : Int32) (H : HP) : Prop :=
  ((20 : Int32) ≤ x2 → tg H a0 = 1 ∧ (∃ a2, (hC H 108 a0) = some a2 ∧ (isA H a2 0 ∧ (vp_in x1 (ln H a2) ∧ (L_X0_spreadFrom_33 d q a0 (1 : Int32) (0 : Int32) (sI H (tg H a2) a2 x1.toNatClampNeg (16 : Int32))))))) ∧ (¬ ((20 : Int32) ≤ x2) → tg H a0 = 1 ∧ (∃ a6, (hC H 108 a0) = some a6 ∧ (isA H a6 0 ∧ (vp_in x2 (ln H a6) ∧ (L_X0_spreadFrom_2 d q a0 x1 (x2 + 1) (sI H (tg H a6) a6 x2.toNatClampNeg (-1 : Int32)))))))
set_option maxRecDepth 40000 in
set_option maxHeartbeats 4000000 in
theorem T_X0_spreadFrom_2 {d : Nat} {q : HP → Prop} {a0 : Nat} {x1 : Int32} {x2 : Int32} {H : HP} (h : wb_X0_spreadFrom_2 d q a0 x1 x2 H) : L_X0_spreadFrom_2 d q a0 x1 x2 H := by
  unfold wb_X0_spreadFrom_2 at h
  unfold L_X0_spreadFrom_2
  refine wp_iload_n 2 dX0_spreadFrom_2 rfl ?_
  refine wp_bipush (v := (20 : Int32)) dX0_spreadFrom_3 (by decide) ?_
  refine wp_icmp_ge (tgt := 21) dX0_spreadFrom_5 rfl (fun c => ?_) (fun c => ?_)
  · replace h := h.1 c
    refine wp_aload_n 0 dX0_spreadFrom_21 rfl ?_
    obtain ⟨ht1, h⟩ := h
    refine wp_getC (ci := 0) (j := 8) dX0_spreadFrom_22 fi_X0_38r rfl rfl ht1 ?_
    change WP _ _ _ _ _ _ (rv (hC H 108 a0) :: _) _ _
    refine wp_iload_n 1 dX0_spreadFrom_25 rfl ?_
    refine wp_bipush (v := (16 : Int32)) dX0_spreadFrom_26 (by decide) ?_
    obtain ⟨a2, ha2, h⟩ := h
    obtain ⟨hr3, h⟩ := h
    obtain ⟨hg4, h⟩ := h
    refine wp_iastore dX0_spreadFrom_28 ha2 hr3 hg4 ?_
    change WP _ _ _ _ _ _ _ (sI H (tg H a2) a2 x1.toNatClampNeg (16 : Int32)) _
    refine wp_iconst (v := (1 : Int32)) dX0_spreadFrom_29 (by decide) ?_
    refine wp_istore_n (ls' := [(2, .int (1 : Int32)), (0, rv (some a0)), (1, .int x1)]) dX0_spreadFrom_30 (by decide) rfl ?_
    refine wp_iconst (v := (0 : Int32)) dX0_spreadFrom_31 (by decide) ?_
    refine wp_istore_n (ls' := [(3, .int (0 : Int32)), (2, .int (1 : Int32)), (0, rv (some a0)), (1, .int x1)]) dX0_spreadFrom_32 (by decide) rfl ?_
    refine wp_sub (ls' := [(0, rv (some a0)), (2, .int (1 : Int32)), (3, .int (0 : Int32))]) [2, 1, 0] rfl ?_
    exact h
  · replace h := h.2 c
    refine wp_aload_n 0 dX0_spreadFrom_8 rfl ?_
    obtain ⟨ht5, h⟩ := h
    refine wp_getC (ci := 0) (j := 8) dX0_spreadFrom_9 fi_X0_38r rfl rfl ht5 ?_
    change WP _ _ _ _ _ _ (rv (hC H 108 a0) :: _) _ _
    refine wp_iload_n 2 dX0_spreadFrom_12 rfl ?_
    refine wp_iconst (v := (-1 : Int32)) dX0_spreadFrom_13 (by decide) ?_
    obtain ⟨a6, ha6, h⟩ := h
    obtain ⟨hr7, h⟩ := h
    obtain ⟨hg8, h⟩ := h
    refine wp_iastore dX0_spreadFrom_14 ha6 hr7 hg8 ?_
    change WP _ _ _ _ _ _ _ (sI H (tg H a6) a6 x2.toNatClampNeg (-1 : Int32)) _
    refine wp_iinc (v := (x2 + 1)) (ls' := [(2, .int (x2 + 1)), (0, rv (some a0)), (1, .int x1)]) 2 dX0_spreadFrom_15 rfl rfl (by decide) rfl ?_
    refine wp_goto (tgt := 2) dX0_spreadFrom_18 rfl ?_
    refine wp_sub (ls' := [(0, rv (some a0)), (1, .int x1), (2, .int (x2 + 1))]) [1, 2, 0] rfl ?_
    exact h
def wb_X0_spreadFrom_33 (d : Nat) (q : HP → Prop) (a0 : Nat) (x2 : Int32) (x3 : Int32) (H : HP) : Prop :=
  ((16 : Int32) ≤ x3 → q H) ∧ (¬ ((16 : Int32) ≤ x3) → (x2 = 0 → q H) ∧ (¬ (x2 = 0) → L_X0_spreadFrom_48 d q a0 (0 : Int32) x3 (0 : Int32) H))
set_option maxRecDepth 40000 in
set_option maxHeartbeats 4000000 in
theorem T_X0_spreadFrom_33 {d : Nat} {q : HP → Prop} {a0 : Nat} {x2 : Int32} {x3 : Int32} {H : HP} (h : wb_X0_spreadFrom_33 d q a0 x2 x3 H) : L_X0_spreadFrom_33 d q a0 x2 x3 H := by
  unfold wb_X0_spreadFrom_33 at h
  unfold L_X0_spreadFrom_33
  refine wp_iload_n 2 dX0_spreadFrom_33 rfl ?_
  refine wp_bipush (v := (16 : Int32)) dX0_spreadFrom_34 (by decide) ?_
  refine wp_icmp_ge (tgt := 157) dX0_spreadFrom_36 rfl (fun c => ?_) (fun c => ?_)
  · replace h := h.1 c
    exact wp_return dX0_spreadFrom_157 rfl ⟨rfl, h⟩
  · replace h := h.2 c
    refine wp_iload_n 1 dX0_spreadFrom_39 rfl ?_
    refine wp_if_eq (tgt := 157) dX0_spreadFrom_40 rfl (fun c => ?_) (fun c => ?_)
    · replace h := h.1 c
      exact wp_return dX0_spreadFrom_157 rfl ⟨rfl, h⟩
    · replace h := h.2 c
      refine wp_iconst (v := (0 : Int32)) dX0_spreadFrom_43 (by decide) ?_
      refine wp_istore_n (ls' := [(2, .int (0 : Int32)), (0, rv (some a0)), (3, .int x3)]) dX0_spreadFrom_44 (by decide) rfl ?_
      refine wp_iconst (v := (0 : Int32)) dX0_spreadFrom_45 (by decide) ?_
      refine wp_istore (ls' := [(4, .int (0 : Int32)), (2, .int (0 : Int32)), (0, rv (some a0)), (3, .int x3)]) dX0_spreadFrom_46 (by decide) rfl ?_
      refine wp_sub (ls' := [(0, rv (some a0)), (2, .int (0 : Int32)), (3, .int x3), (4, .int (0 : Int32))]) [2, 1, 3, 0] rfl ?_
      exact h
def wb_X0_spreadFrom_111 (d : Nat) (q : HP → Prop) (a0 : Nat) (x2 : Int32) (x3 : Int32) (x4 : Int32) (x5 : Int32) (s0 : Int32) (s1 : Int32) (H : HP) : Prop :=
  (s0 = s1 → L_X0_spreadFrom_48 d q a0 x2 x3 (x4 + 1) H) ∧ (¬ (s0 = s1) → tg H a0 = 1 ∧ ((x5 = 0 → ∃ a2, (hC H 100 a0) = some a2 ∧ (isA H a2 0 ∧ (vp_in x4 (ln H a2) ∧ (∃ a5, (hC H 108 a0) = some a5 ∧ (isA H a5 0 ∧ (vp_in (hI H (tg H a2) a2 x4.toNatClampNeg) (ln H a5) ∧ (L_X0_spreadFrom_48 d q a0 (1 : Int32) x3 (x4 + 1) (sI H (tg H a5) a5 (hI H (tg H a2) a2 x4.toNatClampNeg).toNatClampNeg x4)))))))) ∧ (¬ (x5 = 0) → ∃ a8, (hC H 101 a0) = some a8 ∧ (isA H a8 0 ∧ (vp_in x4 (ln H a8) ∧ (∃ a11, (hC H 108 a0) = some a11 ∧ (isA H a11 0 ∧ (vp_in (hI H (tg H a8) a8 x4.toNatClampNeg) (ln H a11) ∧ (L_X0_spreadFrom_48 d q a0 (1 : Int32) x3 (x4 + 1) (sI H (tg H a11) a11 (hI H (tg H a8) a8 x4.toNatClampNeg).toNatClampNeg x4))))))))))
set_option maxRecDepth 40000 in
set_option maxHeartbeats 4000000 in
theorem T_X0_spreadFrom_111 {d : Nat} {q : HP → Prop} {a0 : Nat} {x2 : Int32} {x3 : Int32} {x4 : Int32} {x5 : Int32} {s0 : Int32} {s1 : Int32} {H : HP} (h : wb_X0_spreadFrom_111 d q a0 x2 x3 x4 x5 s0 s1 H) : WP (d + 1) mX0_spreadFrom 0 0 111 [(0, rv (some a0)), (2, .int x2), (3, .int x3), (4, .int x4), (5, .int x5)] [.int s1, .int s0] H (qV q) := by
  unfold wb_X0_spreadFrom_111 at h
  refine wp_icmp_eq (tgt := 145) dX0_spreadFrom_111 rfl (fun c => ?_) (fun c => ?_)
  · replace h := h.1 c
    refine wp_iinc (v := (x4 + 1)) (ls' := [(4, .int (x4 + 1)), (0, rv (some a0)), (2, .int x2), (3, .int x3), (5, .int x5)]) 3 dX0_spreadFrom_145 rfl rfl (by decide) rfl ?_
    refine wp_goto (tgt := 48) dX0_spreadFrom_148 rfl ?_
    refine wp_sub (ls' := [(0, rv (some a0)), (2, .int x2), (3, .int x3), (4, .int (x4 + 1))]) [1, 2, 3, 0] rfl ?_
    exact h
  · replace h := h.2 c
    refine wp_aload_n 0 dX0_spreadFrom_114 rfl ?_
    obtain ⟨ht1, h⟩ := h
    refine wp_getC (ci := 0) (j := 8) dX0_spreadFrom_115 fi_X0_38r rfl rfl ht1 ?_
    change WP _ _ _ _ _ _ (rv (hC H 108 a0) :: _) _ _
    refine wp_iload 4 dX0_spreadFrom_118 rfl ?_
    refine wp_if_eq (tgt := 133) dX0_spreadFrom_120 rfl (fun c => ?_) (fun c => ?_)
    · replace h := h.1 c
      refine wp_aload_n 0 dX0_spreadFrom_133 rfl ?_
      refine wp_getC (ci := 0) (j := 0) dX0_spreadFrom_134 fi_X0_9r rfl rfl ht1 ?_
      change WP _ _ _ _ _ _ (rv (hC H 100 a0) :: _) _ _
      refine wp_iload 3 dX0_spreadFrom_137 rfl ?_
      obtain ⟨a2, ha2, h⟩ := h
      obtain ⟨hr3, h⟩ := h
      obtain ⟨hg4, h⟩ := h
      refine wp_iaload dX0_spreadFrom_139 ha2 hr3 hg4 ?_
      refine wp_iload 3 dX0_spreadFrom_140 rfl ?_
      obtain ⟨a5, ha5, h⟩ := h
      obtain ⟨hr6, h⟩ := h
      obtain ⟨hg7, h⟩ := h
      refine wp_iastore dX0_spreadFrom_142 ha5 hr6 hg7 ?_
      change WP _ _ _ _ _ _ _ (sI H (tg H a5) a5 (hI H (tg H a2) a2 x4.toNatClampNeg).toNatClampNeg x4) _
      refine wp_iconst (v := (1 : Int32)) dX0_spreadFrom_143 (by decide) ?_
      refine wp_istore_n (ls' := [(2, .int (1 : Int32)), (0, rv (some a0)), (3, .int x3), (4, .int x4), (5, .int x5)]) dX0_spreadFrom_144 (by decide) rfl ?_
      refine wp_iinc (v := (x4 + 1)) (ls' := [(4, .int (x4 + 1)), (2, .int (1 : Int32)), (0, rv (some a0)), (3, .int x3), (5, .int x5)]) 3 dX0_spreadFrom_145 rfl rfl (by decide) rfl ?_
      refine wp_goto (tgt := 48) dX0_spreadFrom_148 rfl ?_
      refine wp_sub (ls' := [(0, rv (some a0)), (2, .int (1 : Int32)), (3, .int x3), (4, .int (x4 + 1))]) [2, 1, 3, 0] rfl ?_
      exact h
    · replace h := h.2 c
      refine wp_aload_n 0 dX0_spreadFrom_123 rfl ?_
      refine wp_getC (ci := 0) (j := 1) dX0_spreadFrom_124 fi_X0_15r rfl rfl ht1 ?_
      change WP _ _ _ _ _ _ (rv (hC H 101 a0) :: _) _ _
      refine wp_iload 3 dX0_spreadFrom_127 rfl ?_
      obtain ⟨a8, ha8, h⟩ := h
      obtain ⟨hr9, h⟩ := h
      obtain ⟨hg10, h⟩ := h
      refine wp_iaload dX0_spreadFrom_129 ha8 hr9 hg10 ?_
      refine wp_goto (tgt := 140) dX0_spreadFrom_130 rfl ?_
      refine wp_iload 3 dX0_spreadFrom_140 rfl ?_
      obtain ⟨a11, ha11, h⟩ := h
      obtain ⟨hr12, h⟩ := h
      obtain ⟨hg13, h⟩ := h
      refine wp_iastore dX0_spreadFrom_142 ha11 hr12 hg13 ?_
      change WP _ _ _ _ _ _ _ (sI H (tg H a11) a11 (hI H (tg H a8) a8 x4.toNatClampNeg).toNatClampNeg x4) _
      refine wp_iconst (v := (1 : Int32)) dX0_spreadFrom_143 (by decide) ?_
      refine wp_istore_n (ls' := [(2, .int (1 : Int32)), (0, rv (some a0)), (3, .int x3), (4, .int x4), (5, .int x5)]) dX0_spreadFrom_144 (by decide) rfl ?_
      refine wp_iinc (v := (x4 + 1)) (ls' := [(4, .int (x4 + 1)), (2, .int (1 : Int32)), (0, rv (some a0)), (3, .int x3), (5, .int x5)]) 3 dX0_spreadFrom_145 rfl rfl (by decide) rfl ?_
      refine wp_goto (tgt := 48) dX0_spreadFrom_148 rfl ?_
      refine wp_sub (ls' := [(0, rv (some a0)), (2, .int (1 : Int32)), (3, .int x3), (4, .int (x4 + 1))]) [2, 1, 3, 0] rfl ?_
      exact h
def wb_X0_spreadFrom_48 (d : Nat) (q : HP → Prop) (a0 : Nat) (x2 : Int32) (x3 : Int32) (x4 : Int32) (H : HP) : Prop :=
  tg H a0 = 1 ∧ (((hI H 104 a0 0) ≤ x4 → L_X0_spreadFrom_33 d q a0 x2 (x3 + 1) H) ∧ (¬ ((hI H 104 a0 0) ≤ x4) → ∃ a2, (hC H 100 a0) = some a2 ∧ (isA H a2 0 ∧ (vp_in x4 (ln H a2) ∧ (∃ a5, (hC H 108 a0) = some a5 ∧ (isA H a5 0 ∧ (vp_in (hI H (tg H a2) a2 x4.toNatClampNeg) (ln H a5) ∧ (((hI H (tg H a5) a5 (hI H (tg H a2) a2 x4.toNatClampNeg).toNatClampNeg) < 0 → ∃ a8, (hC H 105 a0) = some a8 ∧ (isA H a8 2 ∧ (vp_in x4 (ln H a8) ∧ (((hI H (tg H a8) a8 x4.toNatClampNeg) = 0 → L_X0_spreadFrom_48 d q a0 x2 x3 (x4 + 1) H) ∧ (¬ ((hI H (tg H a8) a8 x4.toNatClampNeg) = 0) → ∃ a11, (hC H 101 a0) = some a11 ∧ (isA H a11 0 ∧ (vp_in x4 (ln H a11) ∧ (vp_in (hI H (tg H a11) a11 x4.toNatClampNeg) (ln H a5) ∧ (((hI H (tg H a5) a5 (hI H (tg H a11) a11 x4.toNatClampNeg).toNatClampNeg) < 0 → wb_X0_spreadFrom_111 d q a0 x2 x3 x4 (0 : Int32) (0 : Int32) (0 : Int32) H) ∧ (¬ ((hI H (tg H a5) a5 (hI H (tg H a11) a11 x4.toNatClampNeg).toNatClampNeg) < 0) → wb_X0_spreadFrom_111 d q a0 x2 x3 x4 (0 : Int32) (0 : Int32) (1 : Int32) H)))))))))) ∧ (¬ ((hI H (tg H a5) a5 (hI H (tg H a2) a2 x4.toNatClampNeg).toNatClampNeg) < 0) → ∃ a15, (hC H 105 a0) = some a15 ∧ (isA H a15 2 ∧ (vp_in x4 (ln H a15) ∧ (((hI H (tg H a15) a15 x4.toNatClampNeg) = 0 → L_X0_spreadFrom_48 d q a0 x2 x3 (x4 + 1) H) ∧ (¬ ((hI H (tg H a15) a15 x4.toNatClampNeg) = 0) → ∃ a18, (hC H 101 a0) = some a18 ∧ (isA H a18 0 ∧ (vp_in x4 (ln H a18) ∧ (vp_in (hI H (tg H a18) a18 x4.toNatClampNeg) (ln H a5) ∧ (((hI H (tg H a5) a5 (hI H (tg H a18) a18 x4.toNatClampNeg).toNatClampNeg) < 0 → wb_X0_spreadFrom_111 d q a0 x2 x3 x4 (1 : Int32) (1 : Int32) (0 : Int32) H) ∧ (¬ ((hI H (tg H a5) a5 (hI H (tg H a18) a18 x4.toNatClampNeg).toNatClampNeg) < 0) → wb_X0_spreadFrom_111 d q a0 x2 x3 x4 (1 : Int32) (1 : Int32) (1 : Int32) H))))))))))))))))))
set_option maxRecDepth 40000 in
set_option maxHeartbeats 4000000 in
theorem T_X0_spreadFrom_48 {d : Nat} {q : HP → Prop} {a0 : Nat} {x2 : Int32} {x3 : Int32} {x4 : Int32} {H : HP} (h : wb_X0_spreadFrom_48 d q a0 x2 x3 x4 H) : L_X0_spreadFrom_48 d q a0 x2 x3 x4 H := by
  unfold wb_X0_spreadFrom_48 at h
  unfold L_X0_spreadFrom_48
  refine wp_iload 3 dX0_spreadFrom_48 rfl ?_
  refine wp_aload_n 0 dX0_spreadFrom_50 rfl ?_
  obtain ⟨ht1, h⟩ := h
  refine wp_getI (ci := 0) (j := 4) dX0_spreadFrom_51 fi_X0_24r rfl rfl ht1 ?_
  change WP _ _ _ _ _ _ (.int (hI H 104 a0 0) :: _) _ _
  refine wp_icmp_ge (tgt := 151) dX0_spreadFrom_54 rfl (fun c => ?_) (fun c => ?_)
  · replace h := h.1 c
    refine wp_iinc (v := (x3 + 1)) (ls' := [(3, .int (x3 + 1)), (0, rv (some a0)), (2, .int x2), (4, .int x4)]) 2 dX0_spreadFrom_151 rfl rfl (by decide) rfl ?_
    refine wp_goto (tgt := 33) dX0_spreadFrom_154 rfl ?_
    refine wp_sub (ls' := [(0, rv (some a0)), (2, .int x2), (3, .int (x3 + 1))]) [1, 2, 0] rfl ?_
    exact h
  · replace h := h.2 c
    refine wp_aload_n 0 dX0_spreadFrom_57 rfl ?_
    refine wp_getC (ci := 0) (j := 8) dX0_spreadFrom_58 fi_X0_38r rfl rfl ht1 ?_
    change WP _ _ _ _ _ _ (rv (hC H 108 a0) :: _) _ _
    refine wp_aload_n 0 dX0_spreadFrom_61 rfl ?_
    refine wp_getC (ci := 0) (j := 0) dX0_spreadFrom_62 fi_X0_9r rfl rfl ht1 ?_
    change WP _ _ _ _ _ _ (rv (hC H 100 a0) :: _) _ _
    refine wp_iload 3 dX0_spreadFrom_65 rfl ?_
    obtain ⟨a2, ha2, h⟩ := h
    obtain ⟨hr3, h⟩ := h
    obtain ⟨hg4, h⟩ := h
    refine wp_iaload dX0_spreadFrom_67 ha2 hr3 hg4 ?_
    obtain ⟨a5, ha5, h⟩ := h
    obtain ⟨hr6, h⟩ := h
    obtain ⟨hg7, h⟩ := h
    refine wp_iaload dX0_spreadFrom_68 ha5 hr6 hg7 ?_
    refine wp_if_lt (tgt := 76) dX0_spreadFrom_69 rfl (fun c => ?_) (fun c => ?_)
    · replace h := h.1 c
      refine wp_iconst (v := (0 : Int32)) dX0_spreadFrom_76 (by decide) ?_
      refine wp_istore (ls' := [(5, .int (0 : Int32)), (0, rv (some a0)), (2, .int x2), (3, .int x3), (4, .int x4)]) dX0_spreadFrom_77 (by decide) rfl ?_
      refine wp_aload_n 1 dX0_spreadFrom_79 rfl ?_
      refine wp_getC (ci := 0) (j := 5) dX0_spreadFrom_80 fi_X0_28r rfl rfl ht1 ?_
      change WP _ _ _ _ _ _ (rv (hC H 105 a0) :: _) _ _
      refine wp_iload 4 dX0_spreadFrom_83 rfl ?_
      obtain ⟨a8, ha8, h⟩ := h
      obtain ⟨hr9, h⟩ := h
      obtain ⟨hg10, h⟩ := h
      refine wp_zaload dX0_spreadFrom_85 ha8 hr9 hg10 ?_
      refine wp_if_eq (tgt := 145) dX0_spreadFrom_86 rfl (fun c => ?_) (fun c => ?_)
      · replace h := h.1 c
        refine wp_iinc (v := (x4 + 1)) (ls' := [(4, .int (x4 + 1)), (5, .int (0 : Int32)), (0, rv (some a0)), (2, .int x2), (3, .int x3)]) 4 dX0_spreadFrom_145 rfl rfl (by decide) rfl ?_
        refine wp_goto (tgt := 48) dX0_spreadFrom_148 rfl ?_
        refine wp_sub (ls' := [(0, rv (some a0)), (2, .int x2), (3, .int x3), (4, .int (x4 + 1))]) [2, 3, 4, 0] rfl ?_
        exact h
      · replace h := h.2 c
        refine wp_iload 0 dX0_spreadFrom_89 rfl ?_
        refine wp_aload_n 1 dX0_spreadFrom_91 rfl ?_
        refine wp_getC (ci := 0) (j := 8) dX0_spreadFrom_92 fi_X0_38r rfl rfl ht1 ?_
        change WP _ _ _ _ _ _ (rv (hC H 108 a0) :: _) _ _
        refine wp_aload_n 1 dX0_spreadFrom_95 rfl ?_
        refine wp_getC (ci := 0) (j := 1) dX0_spreadFrom_96 fi_X0_15r rfl rfl ht1 ?_
        change WP _ _ _ _ _ _ (rv (hC H 101 a0) :: _) _ _
        refine wp_iload 4 dX0_spreadFrom_99 rfl ?_
        obtain ⟨a11, ha11, h⟩ := h
        obtain ⟨hr12, h⟩ := h
        obtain ⟨hg13, h⟩ := h
        refine wp_iaload dX0_spreadFrom_101 ha11 hr12 hg13 ?_
        obtain ⟨hg14, h⟩ := h
        refine wp_iaload dX0_spreadFrom_102 ha5 hr6 hg14 ?_
        refine wp_if_lt (tgt := 110) dX0_spreadFrom_103 rfl (fun c => ?_) (fun c => ?_)
        · replace h := h.1 c
          refine wp_iconst (v := (0 : Int32)) dX0_spreadFrom_110 (by decide) ?_
          refine wp_sub (ls' := [(0, rv (some a0)), (2, .int x2), (3, .int x3), (4, .int x4), (5, .int (0 : Int32))]) [1, 2, 3, 4, 0] rfl ?_
          exact T_X0_spreadFrom_111 h
        · replace h := h.2 c
          refine wp_iconst (v := (1 : Int32)) dX0_spreadFrom_106 (by decide) ?_
          refine wp_goto (tgt := 111) dX0_spreadFrom_107 rfl ?_
          refine wp_sub (ls' := [(0, rv (some a0)), (2, .int x2), (3, .int x3), (4, .int x4), (5, .int (0 : Int32))]) [1, 2, 3, 4, 0] rfl ?_
          exact T_X0_spreadFrom_111 h
    · replace h := h.2 c
      refine wp_iconst (v := (1 : Int32)) dX0_spreadFrom_72 (by decide) ?_
      refine wp_goto (tgt := 77) dX0_spreadFrom_73 rfl ?_
      refine wp_istore (ls' := [(5, .int (1 : Int32)), (0, rv (some a0)), (2, .int x2), (3, .int x3), (4, .int x4)]) dX0_spreadFrom_77 (by decide) rfl ?_
      refine wp_aload_n 1 dX0_spreadFrom_79 rfl ?_
      refine wp_getC (ci := 0) (j := 5) dX0_spreadFrom_80 fi_X0_28r rfl rfl ht1 ?_
      change WP _ _ _ _ _ _ (rv (hC H 105 a0) :: _) _ _
      refine wp_iload 4 dX0_spreadFrom_83 rfl ?_
      obtain ⟨a15, ha15, h⟩ := h
      obtain ⟨hr16, h⟩ := h
      obtain ⟨hg17, h⟩ := h
      refine wp_zaload dX0_spreadFrom_85 ha15 hr16 hg17 ?_
      refine wp_if_eq (tgt := 145) dX0_spreadFrom_86 rfl (fun c => ?_) (fun c => ?_)
      · replace h := h.1 c
        refine wp_iinc (v := (x4 + 1)) (ls' := [(4, .int (x4 + 1)), (5, .int (1 : Int32)), (0, rv (some a0)), (2, .int x2), (3, .int x3)]) 4 dX0_spreadFrom_145 rfl rfl (by decide) rfl ?_
        refine wp_goto (tgt := 48) dX0_spreadFrom_148 rfl ?_
        refine wp_sub (ls' := [(0, rv (some a0)), (2, .int x2), (3, .int x3), (4, .int (x4 + 1))]) [2, 3, 4, 0] rfl ?_
        exact h
      · replace h := h.2 c
        refine wp_iload 0 dX0_spreadFrom_89 rfl ?_
        refine wp_aload_n 1 dX0_spreadFrom_91 rfl ?_
        refine wp_getC (ci := 0) (j := 8) dX0_spreadFrom_92 fi_X0_38r rfl rfl ht1 ?_
        change WP _ _ _ _ _ _ (rv (hC H 108 a0) :: _) _ _
        refine wp_aload_n 1 dX0_spreadFrom_95 rfl ?_
        refine wp_getC (ci := 0) (j := 1) dX0_spreadFrom_96 fi_X0_15r rfl rfl ht1 ?_
        change WP _ _ _ _ _ _ (rv (hC H 101 a0) :: _) _ _
        refine wp_iload 4 dX0_spreadFrom_99 rfl ?_
        obtain ⟨a18, ha18, h⟩ := h
        obtain ⟨hr19, h⟩ := h
        obtain ⟨hg20, h⟩ := h
        refine wp_iaload dX0_spreadFrom_101 ha18 hr19 hg20 ?_
        obtain ⟨hg21, h⟩ := h
        refine wp_iaload dX0_spreadFrom_102 ha5 hr6 hg21 ?_
        refine wp_if_lt (tgt := 110) dX0_spreadFrom_103 rfl (fun c => ?_) (fun c => ?_)
        · replace h := h.1 c
          refine wp_iconst (v := (0 : Int32)) dX0_spreadFrom_110 (by decide) ?_
          refine wp_sub (ls' := [(0, rv (some a0)), (2, .int x2), (3, .int x3), (4, .int x4), (5, .int (1 : Int32))]) [1, 2, 3, 4, 0] rfl ?_
          exact T_X0_spreadFrom_111 h
        · replace h := h.2 c
          refine wp_iconst (v := (1 : Int32)) dX0_spreadFrom_106 (by decide) ?_
          refine wp_goto (tgt := 111) dX0_spreadFrom_107 rfl ?_
          refine wp_sub (ls' := [(0, rv (some a0)), (2, .int x2), (3, .int x3), (4, .int x4), (5, .int (1 : Int32))]) [1, 2, 3, 4, 0] rfl ?_
          exact T_X0_spreadFrom_111 h
theorem C_X0_spreadFrom {d : Nat} {q : HP → Prop} {a0 : Nat} {x1 : Int32} {H : HP} (h : wb_X0_spreadFrom_0 d q a0 x1 H) : CV (d + 1) 0 0 mX0_spreadFrom [rv (some a0), .int x1] H q := by
  refine call_of (by decide +kernel) (by simp [lg_sl, rv_cat, vc_int, vc_long, vc_float, vc_double]) ?_
  have e : lv_args 0 [rv (some a0), .int x1] = [(0, rv (some a0)), (1, .int x1)] := by simp [lv_args, rv_cat, vc_int, vc_long, vc_float, vc_double]
  rw [e]
  exact T_X0_spreadFrom_0 h
/-- UnitProver$Claims.takeOut(I)V: the loop at 2 -/
def L_X0_takeOut_2 (d : Nat) (q : HP → Prop) (a0 : Nat) (x2 : Int32) (H : HP) : Prop := WP (d + 1) mX0_takeOut 0 0 2 [(0, rv (some a0)), (2, .int x2)] [] H (qV q)
def wb_X0_takeOut_0 (d : Nat) (q : HP → Prop) (a0 : Nat) (x1 : Int32) (H : HP) : Prop :=
  L_X0_takeOut_2 d q a0 x1 H
set_option maxRecDepth 40000 in
set_option maxHeartbeats 4000000 in
theorem T_X0_takeOut_0 {d : Nat} {q : HP → Prop} {a0 : Nat} {x1 : Int32} {H : HP} (h : wb_X0_takeOut_0 d q a0 x1 H) : WP (d + 1) mX0_takeOut 0 0 0 [(0, rv (some a0)), (1, .int x1)] [] H (qV q) := by
  unfold wb_X0_takeOut_0 at h
  refine wp_iload_n 1 dX0_takeOut_0 rfl ?_
  refine wp_istore_n (ls' := [(2, .int x1), (0, rv (some a0)), (1, .int x1)]) dX0_takeOut_1 (by decide) rfl ?_
  refine wp_sub (ls' := [(0, rv (some a0)), (2, .int x1)]) [1, 0] rfl ?_
  exact h
def wb_X0_takeOut_2 (d : Nat) (q : HP → Prop) (a0 : Nat) (x2 : Int32) (H : HP) : Prop :=
  tg H a0 = 1 ∧ ((((hI H 104 a0 0) - (1 : Int32)) ≤ x2 → q (sI H 104 a0 0 ((hI H 104 a0 0) - (1 : Int32)))) ∧ (¬ (((hI H 104 a0 0) - (1 : Int32)) ≤ x2) → ∃ a2, (hC H 100 a0) = some a2 ∧ (isA H a2 0 ∧ (vp_in (x2 + (1 : Int32)) (ln H a2) ∧ (vp_in x2 (ln H a2) ∧ (∃ a6, (hC (sI H (tg H a2) a2 x2.toNatClampNeg (hI H (tg H a2) a2 (x2 + (1 : Int32)).toNatClampNeg)) 101 a0) = some a6 ∧ (isA (sI H (tg H a2) a2 x2.toNatClampNeg (hI H (tg H a2) a2 (x2 + (1 : Int32)).toNatClampNeg)) a6 0 ∧ (vp_in (x2 + (1 : Int32)) (ln (sI H (tg H a2) a2 x2.toNatClampNeg (hI H (tg H a2) a2 (x2 + (1 : Int32)).toNatClampNeg)) a6) ∧ (vp_in x2 (ln (sI H (tg H a2) a2 x2.toNatClampNeg (hI H (tg H a2) a2 (x2 + (1 : Int32)).toNatClampNeg)) a6) ∧ (∀ H10, (sI (sI H (tg H a2) a2 x2.toNatClampNeg (hI H (tg H a2) a2 (x2 + (1 : Int32)).toNatClampNeg)) (tg (sI H (tg H a2) a2 x2.toNatClampNeg (hI H (tg H a2) a2 (x2 + (1 : Int32)).toNatClampNeg)) a6) a6 x2.toNatClampNeg (hI (sI H (tg H a2) a2 x2.toNatClampNeg (hI H (tg H a2) a2 (x2 + (1 : Int32)).toNatClampNeg)) (tg (sI H (tg H a2) a2 x2.toNatClampNeg (hI H (tg H a2) a2 (x2 + (1 : Int32)).toNatClampNeg)) a6) a6 (x2 + (1 : Int32)).toNatClampNeg)) = H10 → (∃ a15, (hC H10 102 a0) = some a15 ∧ (isA H10 a15 0 ∧ (vp_in (x2 + (1 : Int32)) (ln H10 a15) ∧ (vp_in x2 (ln H10 a15) ∧ (∃ a19, (hC (sI H10 (tg H10 a15) a15 x2.toNatClampNeg (hI H10 (tg H10 a15) a15 (x2 + (1 : Int32)).toNatClampNeg)) 103 a0) = some a19 ∧ (isA (sI H10 (tg H10 a15) a15 x2.toNatClampNeg (hI H10 (tg H10 a15) a15 (x2 + (1 : Int32)).toNatClampNeg)) a19 0 ∧ (vp_in (x2 + (1 : Int32)) (ln (sI H10 (tg H10 a15) a15 x2.toNatClampNeg (hI H10 (tg H10 a15) a15 (x2 + (1 : Int32)).toNatClampNeg)) a19) ∧ (vp_in x2 (ln (sI H10 (tg H10 a15) a15 x2.toNatClampNeg (hI H10 (tg H10 a15) a15 (x2 + (1 : Int32)).toNatClampNeg)) a19) ∧ (∀ H23, (sI (sI H10 (tg H10 a15) a15 x2.toNatClampNeg (hI H10 (tg H10 a15) a15 (x2 + (1 : Int32)).toNatClampNeg)) (tg (sI H10 (tg H10 a15) a15 x2.toNatClampNeg (hI H10 (tg H10 a15) a15 (x2 + (1 : Int32)).toNatClampNeg)) a19) a19 x2.toNatClampNeg (hI (sI H10 (tg H10 a15) a15 x2.toNatClampNeg (hI H10 (tg H10 a15) a15 (x2 + (1 : Int32)).toNatClampNeg)) (tg (sI H10 (tg H10 a15) a15 x2.toNatClampNeg (hI H10 (tg H10 a15) a15 (x2 + (1 : Int32)).toNatClampNeg)) a19) a19 (x2 + (1 : Int32)).toNatClampNeg)) = H23 → (L_X0_takeOut_2 d q a0 (x2 + 1) H23))))))))))))))))))))
set_option maxRecDepth 40000 in
set_option maxHeartbeats 4000000 in
theorem T_X0_takeOut_2 {d : Nat} {q : HP → Prop} {a0 : Nat} {x2 : Int32} {H : HP} (h : wb_X0_takeOut_2 d q a0 x2 H) : L_X0_takeOut_2 d q a0 x2 H := by
  unfold wb_X0_takeOut_2 at h
  unfold L_X0_takeOut_2
  refine wp_iload_n 1 dX0_takeOut_2 rfl ?_
  refine wp_aload_n 0 dX0_takeOut_3 rfl ?_
  obtain ⟨ht1, h⟩ := h
  refine wp_getI (ci := 0) (j := 4) dX0_takeOut_4 fi_X0_24r rfl rfl ht1 ?_
  change WP _ _ _ _ _ _ (.int (hI H 104 a0 0) :: _) _ _
  refine wp_iconst (v := (1 : Int32)) dX0_takeOut_7 (by decide) ?_
  refine wp_isub dX0_takeOut_8 ?_
  refine wp_icmp_ge (tgt := 74) dX0_takeOut_9 rfl (fun c => ?_) (fun c => ?_)
  · replace h := h.1 c
    refine wp_aload_n 0 dX0_takeOut_74 rfl ?_
    refine wp_dup dX0_takeOut_75 (rv_cat _) ?_
    refine wp_getI (ci := 0) (j := 4) dX0_takeOut_76 fi_X0_24r rfl rfl ht1 ?_
    change WP _ _ _ _ _ _ (.int (hI H 104 a0 0) :: _) _ _
    refine wp_iconst (v := (1 : Int32)) dX0_takeOut_79 (by decide) ?_
    refine wp_isub dX0_takeOut_80 ?_
    refine wp_putI (ci := 0) (j := 4) dX0_takeOut_81 fi_X0_24 rfl (fun z => by cases z) rfl ht1 rfl rfl ?_
    change WP _ _ _ _ _ _ _ (sI H 104 a0 0 ((hI H 104 a0 0) - (1 : Int32))) _
    exact wp_return dX0_takeOut_84 rfl ⟨rfl, h⟩
  · replace h := h.2 c
    refine wp_aload_n 0 dX0_takeOut_12 rfl ?_
    refine wp_getC (ci := 0) (j := 0) dX0_takeOut_13 fi_X0_9r rfl rfl ht1 ?_
    change WP _ _ _ _ _ _ (rv (hC H 100 a0) :: _) _ _
    refine wp_iload_n 1 dX0_takeOut_16 rfl ?_
    refine wp_aload_n 0 dX0_takeOut_17 rfl ?_
    refine wp_getC (ci := 0) (j := 0) dX0_takeOut_18 fi_X0_9r rfl rfl ht1 ?_
    change WP _ _ _ _ _ _ (rv (hC H 100 a0) :: _) _ _
    refine wp_iload_n 1 dX0_takeOut_21 rfl ?_
    refine wp_iconst (v := (1 : Int32)) dX0_takeOut_22 (by decide) ?_
    refine wp_iadd dX0_takeOut_23 ?_
    obtain ⟨a2, ha2, h⟩ := h
    obtain ⟨hr3, h⟩ := h
    obtain ⟨hg4, h⟩ := h
    refine wp_iaload dX0_takeOut_24 ha2 hr3 hg4 ?_
    obtain ⟨hg5, h⟩ := h
    refine wp_iastore dX0_takeOut_25 ha2 hr3 hg5 ?_
    change WP _ _ _ _ _ _ _ (sI H (tg H a2) a2 x2.toNatClampNeg (hI H (tg H a2) a2 (x2 + (1 : Int32)).toNatClampNeg)) _
    refine wp_aload_n 0 dX0_takeOut_26 rfl ?_
    refine wp_getC (ci := 0) (j := 1) dX0_takeOut_27 fi_X0_15r rfl rfl ht1 ?_
    change WP _ _ _ _ _ _ (rv (hC (sI H (tg H a2) a2 x2.toNatClampNeg (hI H (tg H a2) a2 (x2 + (1 : Int32)).toNatClampNeg)) 101 a0) :: _) _ _
    refine wp_iload_n 1 dX0_takeOut_30 rfl ?_
    refine wp_aload_n 0 dX0_takeOut_31 rfl ?_
    refine wp_getC (ci := 0) (j := 1) dX0_takeOut_32 fi_X0_15r rfl rfl ht1 ?_
    change WP _ _ _ _ _ _ (rv (hC (sI H (tg H a2) a2 x2.toNatClampNeg (hI H (tg H a2) a2 (x2 + (1 : Int32)).toNatClampNeg)) 101 a0) :: _) _ _
    refine wp_iload_n 1 dX0_takeOut_35 rfl ?_
    refine wp_iconst (v := (1 : Int32)) dX0_takeOut_36 (by decide) ?_
    refine wp_iadd dX0_takeOut_37 ?_
    obtain ⟨a6, ha6, h⟩ := h
    obtain ⟨hr7, h⟩ := h
    obtain ⟨hg8, h⟩ := h
    refine wp_iaload dX0_takeOut_38 ha6 hr7 hg8 ?_
    obtain ⟨hg9, h⟩ := h
    refine wp_iastore dX0_takeOut_39 ha6 hr7 hg9 ?_
    change WP _ _ _ _ _ _ _ (sI (sI H (tg H a2) a2 x2.toNatClampNeg (hI H (tg H a2) a2 (x2 + (1 : Int32)).toNatClampNeg)) (tg (sI H (tg H a2) a2 x2.toNatClampNeg (hI H (tg H a2) a2 (x2 + (1 : Int32)).toNatClampNeg)) a6) a6 x2.toNatClampNeg (hI (sI H (tg H a2) a2 x2.toNatClampNeg (hI H (tg H a2) a2 (x2 + (1 : Int32)).toNatClampNeg)) (tg (sI H (tg H a2) a2 x2.toNatClampNeg (hI H (tg H a2) a2 (x2 + (1 : Int32)).toNatClampNeg)) a6) a6 (x2 + (1 : Int32)).toNatClampNeg)) _
    replace h := h _ rfl
    generalize e11 : (sI (sI H (tg H a2) a2 x2.toNatClampNeg (hI H (tg H a2) a2 (x2 + (1 : Int32)).toNatClampNeg)) (tg (sI H (tg H a2) a2 x2.toNatClampNeg (hI H (tg H a2) a2 (x2 + (1 : Int32)).toNatClampNeg)) a6) a6 x2.toNatClampNeg (hI (sI H (tg H a2) a2 x2.toNatClampNeg (hI H (tg H a2) a2 (x2 + (1 : Int32)).toNatClampNeg)) (tg (sI H (tg H a2) a2 x2.toNatClampNeg (hI H (tg H a2) a2 (x2 + (1 : Int32)).toNatClampNeg)) a6) a6 (x2 + (1 : Int32)).toNatClampNeg)) = H10 at h ⊢
    have ht12 : tg H10 a0 = 1 := by rw [← e11]; exact ht1
    have hr13 : isA H10 a2 0 := by rw [← e11]; exact hr3
    have hr14 : isA H10 a6 0 := by rw [← e11]; exact hr7
    refine wp_aload_n 0 dX0_takeOut_40 rfl ?_
    refine wp_getC (ci := 0) (j := 2) dX0_takeOut_41 fi_X0_18r rfl rfl ht12 ?_
    change WP _ _ _ _ _ _ (rv (hC H10 102 a0) :: _) _ _
    refine wp_iload_n 1 dX0_takeOut_44 rfl ?_
    refine wp_aload_n 0 dX0_takeOut_45 rfl ?_
    refine wp_getC (ci := 0) (j := 2) dX0_takeOut_46 fi_X0_18r rfl rfl ht12 ?_
    change WP _ _ _ _ _ _ (rv (hC H10 102 a0) :: _) _ _
    refine wp_iload_n 1 dX0_takeOut_49 rfl ?_
    refine wp_iconst (v := (1 : Int32)) dX0_takeOut_50 (by decide) ?_
    refine wp_iadd dX0_takeOut_51 ?_
    obtain ⟨a15, ha15, h⟩ := h
    obtain ⟨hr16, h⟩ := h
    obtain ⟨hg17, h⟩ := h
    refine wp_iaload dX0_takeOut_52 ha15 hr16 hg17 ?_
    obtain ⟨hg18, h⟩ := h
    refine wp_iastore dX0_takeOut_53 ha15 hr16 hg18 ?_
    change WP _ _ _ _ _ _ _ (sI H10 (tg H10 a15) a15 x2.toNatClampNeg (hI H10 (tg H10 a15) a15 (x2 + (1 : Int32)).toNatClampNeg)) _
    refine wp_aload_n 0 dX0_takeOut_54 rfl ?_
    refine wp_getC (ci := 0) (j := 3) dX0_takeOut_55 fi_X0_21r rfl rfl ht12 ?_
    change WP _ _ _ _ _ _ (rv (hC (sI H10 (tg H10 a15) a15 x2.toNatClampNeg (hI H10 (tg H10 a15) a15 (x2 + (1 : Int32)).toNatClampNeg)) 103 a0) :: _) _ _
    refine wp_iload_n 1 dX0_takeOut_58 rfl ?_
    refine wp_aload_n 0 dX0_takeOut_59 rfl ?_
    refine wp_getC (ci := 0) (j := 3) dX0_takeOut_60 fi_X0_21r rfl rfl ht12 ?_
    change WP _ _ _ _ _ _ (rv (hC (sI H10 (tg H10 a15) a15 x2.toNatClampNeg (hI H10 (tg H10 a15) a15 (x2 + (1 : Int32)).toNatClampNeg)) 103 a0) :: _) _ _
    refine wp_iload_n 1 dX0_takeOut_63 rfl ?_
    refine wp_iconst (v := (1 : Int32)) dX0_takeOut_64 (by decide) ?_
    refine wp_iadd dX0_takeOut_65 ?_
    obtain ⟨a19, ha19, h⟩ := h
    obtain ⟨hr20, h⟩ := h
    obtain ⟨hg21, h⟩ := h
    refine wp_iaload dX0_takeOut_66 ha19 hr20 hg21 ?_
    obtain ⟨hg22, h⟩ := h
    refine wp_iastore dX0_takeOut_67 ha19 hr20 hg22 ?_
    change WP _ _ _ _ _ _ _ (sI (sI H10 (tg H10 a15) a15 x2.toNatClampNeg (hI H10 (tg H10 a15) a15 (x2 + (1 : Int32)).toNatClampNeg)) (tg (sI H10 (tg H10 a15) a15 x2.toNatClampNeg (hI H10 (tg H10 a15) a15 (x2 + (1 : Int32)).toNatClampNeg)) a19) a19 x2.toNatClampNeg (hI (sI H10 (tg H10 a15) a15 x2.toNatClampNeg (hI H10 (tg H10 a15) a15 (x2 + (1 : Int32)).toNatClampNeg)) (tg (sI H10 (tg H10 a15) a15 x2.toNatClampNeg (hI H10 (tg H10 a15) a15 (x2 + (1 : Int32)).toNatClampNeg)) a19) a19 (x2 + (1 : Int32)).toNatClampNeg)) _
    replace h := h _ rfl
    generalize e24 : (sI (sI H10 (tg H10 a15) a15 x2.toNatClampNeg (hI H10 (tg H10 a15) a15 (x2 + (1 : Int32)).toNatClampNeg)) (tg (sI H10 (tg H10 a15) a15 x2.toNatClampNeg (hI H10 (tg H10 a15) a15 (x2 + (1 : Int32)).toNatClampNeg)) a19) a19 x2.toNatClampNeg (hI (sI H10 (tg H10 a15) a15 x2.toNatClampNeg (hI H10 (tg H10 a15) a15 (x2 + (1 : Int32)).toNatClampNeg)) (tg (sI H10 (tg H10 a15) a15 x2.toNatClampNeg (hI H10 (tg H10 a15) a15 (x2 + (1 : Int32)).toNatClampNeg)) a19) a19 (x2 + (1 : Int32)).toNatClampNeg)) = H23 at h ⊢
    have ht25 : tg H23 a0 = 1 := by rw [← e24]; exact ht12
    have hr26 : isA H23 a2 0 := by rw [← e24]; exact hr13
    have hr27 : isA H23 a6 0 := by rw [← e24]; exact hr14
    have hr28 : isA H23 a15 0 := by rw [← e24]; exact hr16
    have hr29 : isA H23 a19 0 := by rw [← e24]; exact hr20
    refine wp_iinc (v := (x2 + 1)) (ls' := [(2, .int (x2 + 1)), (0, rv (some a0))]) 1 dX0_takeOut_68 rfl rfl (by decide) rfl ?_
    refine wp_goto (tgt := 2) dX0_takeOut_71 rfl ?_
    refine wp_sub (ls' := [(0, rv (some a0)), (2, .int (x2 + 1))]) [1, 0] rfl ?_
    exact h
theorem C_X0_takeOut {d : Nat} {q : HP → Prop} {a0 : Nat} {x1 : Int32} {H : HP} (h : wb_X0_takeOut_0 d q a0 x1 H) : CV (d + 1) 0 0 mX0_takeOut [rv (some a0), .int x1] H q := by
  refine call_of (by decide +kernel) (by simp [lg_sl, rv_cat, vc_int, vc_long, vc_float, vc_double]) ?_
  have e : lv_args 0 [rv (some a0), .int x1] = [(0, rv (some a0)), (1, .int x1)] := by simp [lv_args, rv_cat, vc_int, vc_long, vc_float, vc_double]
  rw [e]
  exact T_X0_takeOut_0 h
def wb_X0_verdictOn_0 (d : Nat) (q : HP → Int32 → Prop) (a0 : Nat) (x1 : Int32) (H : HP) : Prop :=
  tg H a0 = 1 ∧ (∃ a2, (hC H 100 a0) = some a2 ∧ (isA H a2 0 ∧ (vp_in x1 (ln H a2) ∧ (∃ a5, (hC H 101 a0) = some a5 ∧ (isA H a5 0 ∧ (vp_in x1 (ln H a5) ∧ (CI d 0 0 mX0_goFrom [rv (some a0), .int (hI H (tg H a2) a2 x1.toNatClampNeg), .int (hI H (tg H a5) a5 x1.toNatClampNeg)] H (fun H8 r9 => (¬ r9 = (-15 : Int32) → tg H8 a0 = 1 ∧ (∃ a11, (hC H8 102 a0) = some a11 ∧ (isA H8 a11 0 ∧ (vp_in x1 (ln H8 a11) ∧ (∃ a14, (hC H8 103 a0) = some a14 ∧ (isA H8 a14 0 ∧ (vp_in x1 (ln H8 a14) ∧ (∃ a18, (hC H8 110 a0) = some a18 ∧ (tg H8 a18 = 4 ∧ (CV d 0 0 mX3_set [rv (hC H8 110 a0), .long ((hI H8 (tg H8 a11) a11 x1.toNatClampNeg).toInt64), .long ((hI H8 (tg H8 a14) a14 x1.toNatClampNeg).toInt64)] H8 (fun H17 => tg H17 a0 = 1 ∧ (∃ a22, (hC H17 109 a0) = some a22 ∧ (tg H17 a22 = 4 ∧ (CI d 0 0 mX3_compareWith [rv (hC H17 109 a0), rv (hC H17 110 a0)] H17 (fun H21 r24 => (¬ r24 = 0 → q H21 (1 : Int32)) ∧ (r24 = 0 → q H21 (0 : Int32))))))))))))))))) ∧ (r9 = (-15 : Int32) → q H8 (-15 : Int32))))))))))
set_option maxRecDepth 40000 in
set_option maxHeartbeats 4000000 in
theorem T_X0_verdictOn_0 {d : Nat} {q : HP → Int32 → Prop} {a0 : Nat} {x1 : Int32} {H : HP} (h : wb_X0_verdictOn_0 d q a0 x1 H) : WP (d + 1) mX0_verdictOn 0 0 0 [(0, rv (some a0)), (1, .int x1)] [] H (qI q) := by
  unfold wb_X0_verdictOn_0 at h
  refine wp_aload_n 0 dX0_verdictOn_0 rfl ?_
  refine wp_aload_n 0 dX0_verdictOn_1 rfl ?_
  obtain ⟨ht1, h⟩ := h
  refine wp_getC (ci := 0) (j := 0) dX0_verdictOn_2 fi_X0_9r rfl rfl ht1 ?_
  change WP _ _ _ _ _ _ (rv (hC H 100 a0) :: _) _ _
  refine wp_iload_n 1 dX0_verdictOn_5 rfl ?_
  obtain ⟨a2, ha2, h⟩ := h
  obtain ⟨hr3, h⟩ := h
  obtain ⟨hg4, h⟩ := h
  refine wp_iaload dX0_verdictOn_6 ha2 hr3 hg4 ?_
  refine wp_aload_n 0 dX0_verdictOn_7 rfl ?_
  refine wp_getC (ci := 0) (j := 1) dX0_verdictOn_8 fi_X0_15r rfl rfl ht1 ?_
  change WP _ _ _ _ _ _ (rv (hC H 101 a0) :: _) _ _
  refine wp_iload_n 1 dX0_verdictOn_11 rfl ?_
  obtain ⟨a5, ha5, h⟩ := h
  obtain ⟨hr6, h⟩ := h
  obtain ⟨hg7, h⟩ := h
  refine wp_iaload dX0_verdictOn_12 ha5 hr6 hg7 ?_
  refine wp_callV (ci := 0) (As := [.int (hI H (tg H a2) a2 x1.toNatClampNeg), .int (hI H (tg H a5) a5 x1.toNatClampNeg)]) (rest := []) (mc := 0) (ms := 0) dX0_verdictOn_13 lk_X0_72 rfl rfl (by decide) rfl rfl rfl ht1 rfl rfl rfl w_3_175 (Call.weaken h ?_)
  rintro H8 _ ⟨r9, rfl, h⟩
  change WP _ _ _ _ _ _ [.int r9] H8 _
  refine wp_bipush (v := (-15 : Int32)) dX0_verdictOn_16 (by decide) ?_
  refine wp_icmp_ne (tgt := 24) dX0_verdictOn_18 rfl (fun c => ?_) (fun c => ?_)
  · replace h := h.1 c
    refine wp_aload_n 0 dX0_verdictOn_24 rfl ?_
    obtain ⟨ht10, h⟩ := h
    refine wp_getC (ci := 0) (j := 10) dX0_verdictOn_25 fi_X0_48r rfl rfl ht10 ?_
    change WP _ _ _ _ _ _ (rv (hC H8 110 a0) :: _) _ _
    refine wp_aload_n 0 dX0_verdictOn_28 rfl ?_
    refine wp_getC (ci := 0) (j := 2) dX0_verdictOn_29 fi_X0_18r rfl rfl ht10 ?_
    change WP _ _ _ _ _ _ (rv (hC H8 102 a0) :: _) _ _
    refine wp_iload_n 1 dX0_verdictOn_32 rfl ?_
    obtain ⟨a11, ha11, h⟩ := h
    obtain ⟨hr12, h⟩ := h
    obtain ⟨hg13, h⟩ := h
    refine wp_iaload dX0_verdictOn_33 ha11 hr12 hg13 ?_
    refine wp_i2l dX0_verdictOn_34 ?_
    refine wp_aload_n 0 dX0_verdictOn_35 rfl ?_
    refine wp_getC (ci := 0) (j := 3) dX0_verdictOn_36 fi_X0_21r rfl rfl ht10 ?_
    change WP _ _ _ _ _ _ (rv (hC H8 103 a0) :: _) _ _
    refine wp_iload_n 1 dX0_verdictOn_39 rfl ?_
    obtain ⟨a14, ha14, h⟩ := h
    obtain ⟨hr15, h⟩ := h
    obtain ⟨hg16, h⟩ := h
    refine wp_iaload dX0_verdictOn_40 ha14 hr15 hg16 ?_
    refine wp_i2l dX0_verdictOn_41 ?_
    obtain ⟨a18, ha18, h⟩ := h
    obtain ⟨ht19, h⟩ := h
    refine wp_callV (ci := 3) (As := [.long ((hI H8 (tg H8 a11) a11 x1.toNatClampNeg).toInt64), .long ((hI H8 (tg H8 a14) a14 x1.toNatClampNeg).toInt64)]) (rest := []) (mc := 0) (ms := 0) dX0_verdictOn_42 lk_X0_76 rfl rfl (by decide) ha18 rfl rfl ht19 rfl rfl rfl w_3_179 (Call.weaken h ?_)
    rintro H17 _ ⟨rfl, h⟩
    change WP _ _ _ _ _ _ [] H17 _
    refine wp_aload_n 0 dX0_verdictOn_45 rfl ?_
    obtain ⟨ht20, h⟩ := h
    refine wp_getC (ci := 0) (j := 9) dX0_verdictOn_46 fi_X0_44r rfl rfl ht20 ?_
    change WP _ _ _ _ _ _ (rv (hC H17 109 a0) :: _) _ _
    refine wp_aload_n 0 dX0_verdictOn_49 rfl ?_
    refine wp_getC (ci := 0) (j := 10) dX0_verdictOn_50 fi_X0_48r rfl rfl ht20 ?_
    change WP _ _ _ _ _ _ (rv (hC H17 110 a0) :: _) _ _
    obtain ⟨a22, ha22, h⟩ := h
    obtain ⟨ht23, h⟩ := h
    refine wp_callV (ci := 3) (As := [rv (hC H17 110 a0)]) (rest := []) (mc := 0) (ms := 0) dX0_verdictOn_53 lk_X0_80 rfl rfl (by decide) ha22 rfl rfl ht23 rfl rfl rfl w_3_185 (Call.weaken h ?_)
    rintro H21 _ ⟨r24, rfl, h⟩
    change WP _ _ _ _ _ _ [.int r24] H21 _
    refine wp_if_ne (tgt := 63) dX0_verdictOn_56 rfl (fun c => ?_) (fun c => ?_)
    · replace h := h.1 c
      refine wp_iconst (v := (1 : Int32)) dX0_verdictOn_63 (by decide) ?_
      exact wp_ireturn (ty := .int) dX0_verdictOn_64 rfl rfl ⟨_, rfl, h⟩
    · replace h := h.2 c
      refine wp_iconst (v := (0 : Int32)) dX0_verdictOn_59 (by decide) ?_
      refine wp_goto (tgt := 64) dX0_verdictOn_60 rfl ?_
      exact wp_ireturn (ty := .int) dX0_verdictOn_64 rfl rfl ⟨_, rfl, h⟩
  · replace h := h.2 c
    refine wp_bipush (v := (-15 : Int32)) dX0_verdictOn_21 (by decide) ?_
    exact wp_ireturn (ty := .int) dX0_verdictOn_23 rfl rfl ⟨_, rfl, h⟩
theorem C_X0_verdictOn {d : Nat} {q : HP → Int32 → Prop} {a0 : Nat} {x1 : Int32} {H : HP} (h : wb_X0_verdictOn_0 d q a0 x1 H) : CI (d + 1) 0 0 mX0_verdictOn [rv (some a0), .int x1] H q := by
  refine call_of (by decide +kernel) (by simp [lg_sl, rv_cat, vc_int, vc_long, vc_float, vc_double]) ?_
  have e : lv_args 0 [rv (some a0), .int x1] = [(0, rv (some a0)), (1, .int x1)] := by simp [lv_args, rv_cat, vc_int, vc_long, vc_float, vc_double]
  rw [e]
  exact T_X0_verdictOn_0 h
/-- UnitProver$Units.addBases()V: the loop at 2 -/
def L_X10_addBases_2 (d : Nat) (q : HP → Prop) (a0 : Nat) (x1 : Int32) (H : HP) : Prop := WP (d + 1) mX10_addBases 0 0 2 [(0, rv (some a0)), (1, .int x1)] [] H (qV q)
def wb_X10_addBases_0 (d : Nat) (q : HP → Prop) (a0 : Nat) (H : HP) : Prop :=
  L_X10_addBases_2 d q a0 (0 : Int32) H
set_option maxRecDepth 40000 in
set_option maxHeartbeats 4000000 in
theorem T_X10_addBases_0 {d : Nat} {q : HP → Prop} {a0 : Nat} {H : HP} (h : wb_X10_addBases_0 d q a0 H) : WP (d + 1) mX10_addBases 0 0 0 [(0, rv (some a0))] [] H (qV q) := by
  unfold wb_X10_addBases_0 at h
  refine wp_iconst (v := (0 : Int32)) dX10_addBases_0 (by decide) ?_
  refine wp_istore_n (ls' := [(1, .int (0 : Int32)), (0, rv (some a0))]) dX10_addBases_1 (by decide) rfl ?_
  refine wp_sub (ls' := [(0, rv (some a0)), (1, .int (0 : Int32))]) [1, 0] rfl ?_
  exact h
def wb_X10_addBases_2 (d : Nat) (q : HP → Prop) (a0 : Nat) (x1 : Int32) (H : HP) : Prop :=
  ((5 : Int32) ≤ x1 → tg H a0 = 11 ∧ (q (sI H 1101 a0 0 (5 : Int32)))) ∧ (¬ ((5 : Int32) ≤ x1) → tg H a0 = 11 ∧ (∃ a3, (hC H 1100 a0) = some a3 ∧ (isA H a3 6 ∧ (vp_in x1 (ln H a3) ∧ (∃ a6, (hR H (tg H a3) a3 x1.toNatClampNeg) = some a6 ∧ (tg H a6 = 10 ∧ (CI d 0 0 mJ0_charAt_5068e [rv (some strA), .int x1] H (fun H8 r9 => ∃ a10, (hC H 1000 a6) = some a10 ∧ (isA H8 a10 1 ∧ (vp_in (0 : Int32) (ln H8 a10) ∧ (tg (sI H8 (tg H8 a10) a10 (0 : Int32).toNatClampNeg ((r9.toInt8.toInt32).toInt8.toInt32)) a6 = 10 ∧ (∃ a14, (hC (sI (sI H8 (tg H8 a10) a10 (0 : Int32).toNatClampNeg ((r9.toInt8.toInt32).toInt8.toInt32)) 1001 a6 0 (1 : Int32)) 1002 a6) = some a14 ∧ (isA (sI (sI H8 (tg H8 a10) a10 (0 : Int32).toNatClampNeg ((r9.toInt8.toInt32).toInt8.toInt32)) 1001 a6 0 (1 : Int32)) a14 0 ∧ (vp_in x1 (ln (sI (sI H8 (tg H8 a10) a10 (0 : Int32).toNatClampNeg ((r9.toInt8.toInt32).toInt8.toInt32)) 1001 a6 0 (1 : Int32)) a14) ∧ (∀ H17, (sI (sI (sI H8 (tg H8 a10) a10 (0 : Int32).toNatClampNeg ((r9.toInt8.toInt32).toInt8.toInt32)) 1001 a6 0 (1 : Int32)) (tg (sI (sI H8 (tg H8 a10) a10 (0 : Int32).toNatClampNeg ((r9.toInt8.toInt32).toInt8.toInt32)) 1001 a6 0 (1 : Int32)) a14) a14 x1.toNatClampNeg (1 : Int32)) = H17 → (∃ a23, (hC H17 1003 a6) = some a23 ∧ (tg H17 a23 = 4 ∧ (CV d 0 0 mX3_set [rv (hC H17 1003 a6), .long (1 : Int64), .long (1 : Int64)] H17 (fun H22 => L_X10_addBases_2 d q a0 (x1 + 1) H22)))))))))))))))))))
set_option maxRecDepth 40000 in
set_option maxHeartbeats 4000000 in
theorem T_X10_addBases_2 {d : Nat} {q : HP → Prop} {a0 : Nat} {x1 : Int32} {H : HP} (h : wb_X10_addBases_2 d q a0 x1 H) : L_X10_addBases_2 d q a0 x1 H := by
  unfold wb_X10_addBases_2 at h
  unfold L_X10_addBases_2
  refine wp_iload_n 1 dX10_addBases_2 rfl ?_
  refine wp_iconst (v := (5 : Int32)) dX10_addBases_3 (by decide) ?_
  refine wp_icmp_ge (tgt := 54) dX10_addBases_4 rfl (fun c => ?_) (fun c => ?_)
  · replace h := h.1 c
    refine wp_aload_n 0 dX10_addBases_54 rfl ?_
    refine wp_iconst (v := (5 : Int32)) dX10_addBases_55 (by decide) ?_
    obtain ⟨ht1, h⟩ := h
    refine wp_putI (ci := 10) (j := 1) dX10_addBases_56 fi_X10_17 rfl (fun z => by cases z) rfl ht1 rfl rfl ?_
    change WP _ _ _ _ _ _ _ (sI H 1101 a0 0 (5 : Int32)) _
    exact wp_return dX10_addBases_59 rfl ⟨rfl, h⟩
  · replace h := h.2 c
    refine wp_aload_n 0 dX10_addBases_7 rfl ?_
    obtain ⟨ht2, h⟩ := h
    refine wp_getC (ci := 10) (j := 0) dX10_addBases_8 fi_X10_11r rfl rfl ht2 ?_
    change WP _ _ _ _ _ _ (rv (hC H 1100 a0) :: _) _ _
    refine wp_iload_n 1 dX10_addBases_11 rfl ?_
    obtain ⟨a3, ha3, h⟩ := h
    obtain ⟨hr4, h⟩ := h
    obtain ⟨hg5, h⟩ := h
    refine wp_aaload (e := 6) dX10_addBases_12 ha3 hr4 (by decide) hg5 ?_
    refine wp_astore_n (ls' := [(2, rv (hR H (tg H a3) a3 x1.toNatClampNeg)), (0, rv (some a0)), (1, .int x1)]) dX10_addBases_13 (by decide) rfl ?_
    refine wp_aload_n 0 dX10_addBases_14 rfl ?_
    obtain ⟨a6, ha6, h⟩ := h
    obtain ⟨ht7, h⟩ := h
    refine wp_getC (ci := 9) (j := 0) dX10_addBases_15 fi_X10_22 rfl ha6 ht7 ?_
    change WP _ _ _ _ _ _ (rv (hC H 1000 a6) :: _) _ _
    refine wp_iconst (v := (0 : Int32)) dX10_addBases_18 (by decide) ?_
    refine wp_ldcs dX10_addBases_19 rfl ?_
    refine wp_iload_n 2 dX10_addBases_21 rfl ?_
    refine wp_callStr (As := [.int x1]) (rest := [.int (0 : Int32), rv (hC H 1000 a6)]) dX10_addBases_22 lk_X10_28 rfl rfl (by simp [rv_cat, vc_int, vc_long, vc_float, vc_double]) rfl rfl w_2_106 (Call.weaken h ?_)
    rintro H8 _ ⟨r9, rfl, h⟩
    change WP _ _ _ _ _ _ [.int r9, .int (0 : Int32), rv (hC H 1000 a6)] H8 _
    refine wp_i2b dX10_addBases_25 ?_
    obtain ⟨a10, ha10, h⟩ := h
    obtain ⟨hr11, h⟩ := h
    obtain ⟨hg12, h⟩ := h
    refine wp_bastore dX10_addBases_26 ha10 hr11 hg12 ?_
    change WP _ _ _ _ _ _ _ (sI H8 (tg H8 a10) a10 (0 : Int32).toNatClampNeg ((r9.toInt8.toInt32).toInt8.toInt32)) _
    refine wp_aload_n 0 dX10_addBases_27 rfl ?_
    refine wp_iconst (v := (1 : Int32)) dX10_addBases_28 (by decide) ?_
    obtain ⟨ht13, h⟩ := h
    refine wp_putI (ci := 9) (j := 1) dX10_addBases_29 fi_X10_34 rfl (fun z => by cases z) ha6 ht13 rfl rfl ?_
    change WP _ _ _ _ _ _ _ (sI (sI H8 (tg H8 a10) a10 (0 : Int32).toNatClampNeg ((r9.toInt8.toInt32).toInt8.toInt32)) 1001 a6 0 (1 : Int32)) _
    refine wp_aload_n 0 dX10_addBases_32 rfl ?_
    refine wp_getC (ci := 9) (j := 2) dX10_addBases_33 fi_X10_37 rfl ha6 ht13 ?_
    change WP _ _ _ _ _ _ (rv (hC (sI (sI H8 (tg H8 a10) a10 (0 : Int32).toNatClampNeg ((r9.toInt8.toInt32).toInt8.toInt32)) 1001 a6 0 (1 : Int32)) 1002 a6) :: _) _ _
    refine wp_iload_n 2 dX10_addBases_36 rfl ?_
    refine wp_iconst (v := (1 : Int32)) dX10_addBases_37 (by decide) ?_
    obtain ⟨a14, ha14, h⟩ := h
    obtain ⟨hr15, h⟩ := h
    obtain ⟨hg16, h⟩ := h
    refine wp_iastore dX10_addBases_38 ha14 hr15 hg16 ?_
    change WP _ _ _ _ _ _ _ (sI (sI (sI H8 (tg H8 a10) a10 (0 : Int32).toNatClampNeg ((r9.toInt8.toInt32).toInt8.toInt32)) 1001 a6 0 (1 : Int32)) (tg (sI (sI H8 (tg H8 a10) a10 (0 : Int32).toNatClampNeg ((r9.toInt8.toInt32).toInt8.toInt32)) 1001 a6 0 (1 : Int32)) a14) a14 x1.toNatClampNeg (1 : Int32)) _
    replace h := h _ rfl
    generalize e18 : (sI (sI (sI H8 (tg H8 a10) a10 (0 : Int32).toNatClampNeg ((r9.toInt8.toInt32).toInt8.toInt32)) 1001 a6 0 (1 : Int32)) (tg (sI (sI H8 (tg H8 a10) a10 (0 : Int32).toNatClampNeg ((r9.toInt8.toInt32).toInt8.toInt32)) 1001 a6 0 (1 : Int32)) a14) a14 x1.toNatClampNeg (1 : Int32)) = H17 at h ⊢
    have ht19 : tg H17 a6 = 10 := by rw [← e18]; exact ht13
    have hr20 : isA H17 a10 1 := by rw [← e18]; exact hr11
    have hr21 : isA H17 a14 0 := by rw [← e18]; exact hr15
    refine wp_aload_n 0 dX10_addBases_39 rfl ?_
    refine wp_getC (ci := 9) (j := 3) dX10_addBases_40 fi_X10_41 rfl ha6 ht19 ?_
    change WP _ _ _ _ _ _ (rv (hC H17 1003 a6) :: _) _ _
    refine wp_lconst (v := (1 : Int64)) dX10_addBases_43 (by decide) ?_
    refine wp_lconst (v := (1 : Int64)) dX10_addBases_44 (by decide) ?_
    obtain ⟨a23, ha23, h⟩ := h
    obtain ⟨ht24, h⟩ := h
    refine wp_callV (ci := 3) (As := [.long (1 : Int64), .long (1 : Int64)]) (rest := []) (mc := 0) (ms := 0) dX10_addBases_45 lk_X10_45 rfl rfl (by decide) ha23 rfl rfl ht24 rfl rfl rfl w_2_146 (Call.weaken h ?_)
    rintro H22 _ ⟨rfl, h⟩
    change WP _ _ _ _ _ _ [] H22 _
    refine wp_iinc (v := (x1 + 1)) (ls' := [(1, .int (x1 + 1)), (2, rv (hR H (tg H a3) a3 x1.toNatClampNeg)), (0, rv (some a0))]) 2 dX10_addBases_48 rfl rfl (by decide) rfl ?_
    refine wp_goto (tgt := 2) dX10_addBases_51 rfl ?_
    refine wp_sub (ls' := [(0, rv (some a0)), (1, .int (x1 + 1))]) [2, 0] rfl ?_
    exact h
theorem C_X10_addBases {d : Nat} {q : HP → Prop} {a0 : Nat} {H : HP} (h : wb_X10_addBases_0 d q a0 H) : CV (d + 1) 0 0 mX10_addBases [rv (some a0)] H q := by
  refine call_of (by decide +kernel) (by simp [lg_sl, rv_cat, vc_int, vc_long, vc_float, vc_double]) ?_
  have e : lv_args 0 [rv (some a0)] = [(0, rv (some a0))] := by simp [lv_args, rv_cat, vc_int, vc_long, vc_float, vc_double]
  rw [e]
  exact T_X10_addBases_0 h
def wb_X10_append_0 (d : Nat) (q : HP → Int32 → Prop) (a0 : Nat) (o1 : Option Nat) (H : HP) : Prop :=
  tg H a0 = 11 ∧ (((hI H 1101 a0 0) < (20 : Int32) → ∃ a2, (hC H 1100 a0) = some a2 ∧ (isA H a2 6 ∧ (vp_in (hI H 1101 a0 0) (ln H a2) ∧ (∃ a6, (hR H (tg H a2) a2 (hI H 1101 a0 0).toNatClampNeg) = some a6 ∧ (tg H a6 = 10 ∧ (CV d 0 0 mX9_copy [rv (hR H (tg H a2) a2 (hI H 1101 a0 0).toNatClampNeg), rv o1] H (fun H5 => tg H5 a0 = 11 ∧ (q (sI H5 1101 a0 0 ((hI H5 1101 a0 0) + (1 : Int32))) ((hI (sI H5 1101 a0 0 ((hI H5 1101 a0 0) + (1 : Int32))) 1101 a0 0) - (1 : Int32)))))))))) ∧ (¬ ((hI H 1101 a0 0) < (20 : Int32)) → q H (-4 : Int32)))
set_option maxRecDepth 40000 in
set_option maxHeartbeats 4000000 in
theorem T_X10_append_0 {d : Nat} {q : HP → Int32 → Prop} {a0 : Nat} {o1 : Option Nat} {H : HP} (h : wb_X10_append_0 d q a0 o1 H) : WP (d + 1) mX10_append 0 0 0 [(0, rv (some a0)), (1, rv o1)] [] H (qI q) := by
  unfold wb_X10_append_0 at h
  refine wp_aload_n 0 dX10_append_0 rfl ?_
  obtain ⟨ht1, h⟩ := h
  refine wp_getI (ci := 10) (j := 1) dX10_append_1 fi_X10_17r rfl rfl ht1 ?_
  change WP _ _ _ _ _ _ (.int (hI H 1101 a0 0) :: _) _ _
  refine wp_bipush (v := (20 : Int32)) dX10_append_4 (by decide) ?_
  refine wp_icmp_lt (tgt := 12) dX10_append_6 rfl (fun c => ?_) (fun c => ?_)
  · replace h := h.1 c
    refine wp_aload_n 0 dX10_append_12 rfl ?_
    refine wp_getC (ci := 10) (j := 0) dX10_append_13 fi_X10_11r rfl rfl ht1 ?_
    change WP _ _ _ _ _ _ (rv (hC H 1100 a0) :: _) _ _
    refine wp_aload_n 0 dX10_append_16 rfl ?_
    refine wp_getI (ci := 10) (j := 1) dX10_append_17 fi_X10_17r rfl rfl ht1 ?_
    change WP _ _ _ _ _ _ (.int (hI H 1101 a0 0) :: _) _ _
    obtain ⟨a2, ha2, h⟩ := h
    obtain ⟨hr3, h⟩ := h
    obtain ⟨hg4, h⟩ := h
    refine wp_aaload (e := 6) dX10_append_20 ha2 hr3 (by decide) hg4 ?_
    refine wp_aload_n 1 dX10_append_21 rfl ?_
    obtain ⟨a6, ha6, h⟩ := h
    obtain ⟨ht7, h⟩ := h
    refine wp_callV (ci := 9) (As := [rv o1]) (rest := []) (mc := 0) (ms := 0) dX10_append_22 lk_X10_55 rfl rfl (by decide) ha6 rfl rfl ht7 rfl rfl rfl w_3_139 (Call.weaken h ?_)
    rintro H5 _ ⟨rfl, h⟩
    change WP _ _ _ _ _ _ [] H5 _
    refine wp_aload_n 0 dX10_append_25 rfl ?_
    refine wp_dup dX10_append_26 (rv_cat _) ?_
    obtain ⟨ht8, h⟩ := h
    refine wp_getI (ci := 10) (j := 1) dX10_append_27 fi_X10_17r rfl rfl ht8 ?_
    change WP _ _ _ _ _ _ (.int (hI H5 1101 a0 0) :: _) _ _
    refine wp_iconst (v := (1 : Int32)) dX10_append_30 (by decide) ?_
    refine wp_iadd dX10_append_31 ?_
    refine wp_putI (ci := 10) (j := 1) dX10_append_32 fi_X10_17 rfl (fun z => by cases z) rfl ht8 rfl rfl ?_
    change WP _ _ _ _ _ _ _ (sI H5 1101 a0 0 ((hI H5 1101 a0 0) + (1 : Int32))) _
    refine wp_aload_n 0 dX10_append_35 rfl ?_
    refine wp_getI (ci := 10) (j := 1) dX10_append_36 fi_X10_17r rfl rfl ht8 ?_
    change WP _ _ _ _ _ _ (.int (hI (sI H5 1101 a0 0 ((hI H5 1101 a0 0) + (1 : Int32))) 1101 a0 0) :: _) _ _
    refine wp_iconst (v := (1 : Int32)) dX10_append_39 (by decide) ?_
    refine wp_isub dX10_append_40 ?_
    exact wp_ireturn (ty := .int) dX10_append_41 rfl rfl ⟨_, rfl, h⟩
  · replace h := h.2 c
    refine wp_bipush (v := (-4 : Int32)) dX10_append_9 (by decide) ?_
    exact wp_ireturn (ty := .int) dX10_append_11 rfl rfl ⟨_, rfl, h⟩
theorem C_X10_append {d : Nat} {q : HP → Int32 → Prop} {a0 : Nat} {o1 : Option Nat} {H : HP} (h : wb_X10_append_0 d q a0 o1 H) : CI (d + 1) 0 0 mX10_append [rv (some a0), rv o1] H q := by
  refine call_of (by decide +kernel) (by simp [lg_sl, rv_cat, vc_int, vc_long, vc_float, vc_double]) ?_
  have e : lv_args 0 [rv (some a0), rv o1] = [(0, rv (some a0)), (1, rv o1)] := by simp [lv_args, rv_cat, vc_int, vc_long, vc_float, vc_double]
  rw [e]
  exact T_X10_append_0 h
def wb_X10_at_0 (d : Nat) (q : HP → Option Nat → Prop) (a0 : Nat) (x1 : Int32) (H : HP) : Prop :=
  (x1 < 0 → q H none) ∧ (¬ (x1 < 0) → tg H a0 = 11 ∧ (((hI H 1101 a0 0) ≤ x1 → q H none) ∧ (¬ ((hI H 1101 a0 0) ≤ x1) → (x1 < (20 : Int32) → ∃ a2, (hC H 1100 a0) = some a2 ∧ (isA H a2 6 ∧ (vp_in x1 (ln H a2) ∧ (q H (hR H (tg H a2) a2 x1.toNatClampNeg))))) ∧ (¬ (x1 < (20 : Int32)) → q H none))))
set_option maxRecDepth 40000 in
set_option maxHeartbeats 4000000 in
theorem T_X10_at_0 {d : Nat} {q : HP → Option Nat → Prop} {a0 : Nat} {x1 : Int32} {H : HP} (h : wb_X10_at_0 d q a0 x1 H) : WP (d + 1) mX10_at 0 0 0 [(0, rv (some a0)), (1, .int x1)] [] H (qR q) := by
  unfold wb_X10_at_0 at h
  refine wp_iload_n 1 dX10_at_0 rfl ?_
  refine wp_if_lt (tgt := 18) dX10_at_1 rfl (fun c => ?_) (fun c => ?_)
  · replace h := h.1 c
    refine wp_null dX10_at_18 ?_
    refine wp_goto (tgt := 28) dX10_at_19 rfl ?_
    exact wp_areturn dX10_at_28 rfl ⟨_, rfl, h⟩
  · replace h := h.2 c
    refine wp_iload_n 1 dX10_at_4 rfl ?_
    refine wp_aload_n 0 dX10_at_5 rfl ?_
    obtain ⟨ht1, h⟩ := h
    refine wp_getI (ci := 10) (j := 1) dX10_at_6 fi_X10_17r rfl rfl ht1 ?_
    change WP _ _ _ _ _ _ (.int (hI H 1101 a0 0) :: _) _ _
    refine wp_icmp_ge (tgt := 18) dX10_at_9 rfl (fun c => ?_) (fun c => ?_)
    · replace h := h.1 c
      refine wp_null dX10_at_18 ?_
      refine wp_goto (tgt := 28) dX10_at_19 rfl ?_
      exact wp_areturn dX10_at_28 rfl ⟨_, rfl, h⟩
    · replace h := h.2 c
      refine wp_iload_n 1 dX10_at_12 rfl ?_
      refine wp_bipush (v := (20 : Int32)) dX10_at_13 (by decide) ?_
      refine wp_icmp_lt (tgt := 22) dX10_at_15 rfl (fun c => ?_) (fun c => ?_)
      · replace h := h.1 c
        refine wp_aload_n 0 dX10_at_22 rfl ?_
        refine wp_getC (ci := 10) (j := 0) dX10_at_23 fi_X10_11r rfl rfl ht1 ?_
        change WP _ _ _ _ _ _ (rv (hC H 1100 a0) :: _) _ _
        refine wp_iload_n 1 dX10_at_26 rfl ?_
        obtain ⟨a2, ha2, h⟩ := h
        obtain ⟨hr3, h⟩ := h
        obtain ⟨hg4, h⟩ := h
        refine wp_aaload (e := 6) dX10_at_27 ha2 hr3 (by decide) hg4 ?_
        exact wp_areturn dX10_at_28 rfl ⟨_, rfl, h⟩
      · replace h := h.2 c
        refine wp_null dX10_at_18 ?_
        refine wp_goto (tgt := 28) dX10_at_19 rfl ?_
        exact wp_areturn dX10_at_28 rfl ⟨_, rfl, h⟩
theorem C_X10_at {d : Nat} {q : HP → Option Nat → Prop} {a0 : Nat} {x1 : Int32} {H : HP} (h : wb_X10_at_0 d q a0 x1 H) : CR (d + 1) 0 0 mX10_at [rv (some a0), .int x1] H q := by
  refine call_of (by decide +kernel) (by simp [lg_sl, rv_cat, vc_int, vc_long, vc_float, vc_double]) ?_
  have e : lv_args 0 [rv (some a0), .int x1] = [(0, rv (some a0)), (1, .int x1)] := by simp [lv_args, rv_cat, vc_int, vc_long, vc_float, vc_double]
  rw [e]
  exact T_X10_at_0 h
/-- UnitProver$Units.copy(LUnitProver$Units;)V: the loop at 10 -/
def L_X10_copy_10 (d : Nat) (q : HP → Prop) (a0 : Nat) (o1 : Option Nat) (x2 : Int32) (H : HP) : Prop := WP (d + 1) mX10_copy 0 0 10 [(0, rv (some a0)), (1, rv o1), (2, .int x2)] [] H (qV q)
def wb_X10_copy_0 (d : Nat) (q : HP → Prop) (a0 : Nat) (o1 : Option Nat) (H : HP) : Prop :=
  ∃ a1, o1 = some a1 ∧ (tg H a1 = 11 ∧ (tg H a0 = 11 ∧ (L_X10_copy_10 d q a0 o1 (0 : Int32) (sI H 1101 a0 0 (hI H 1101 a1 0)))))
set_option maxRecDepth 40000 in
set_option maxHeartbeats 4000000 in
theorem T_X10_copy_0 {d : Nat} {q : HP → Prop} {a0 : Nat} {o1 : Option Nat} {H : HP} (h : wb_X10_copy_0 d q a0 o1 H) : WP (d + 1) mX10_copy 0 0 0 [(0, rv (some a0)), (1, rv o1)] [] H (qV q) := by
  unfold wb_X10_copy_0 at h
  refine wp_aload_n 0 dX10_copy_0 rfl ?_
  refine wp_aload_n 1 dX10_copy_1 rfl ?_
  obtain ⟨a1, ha1, h⟩ := h
  obtain ⟨ht2, h⟩ := h
  refine wp_getI (ci := 10) (j := 1) dX10_copy_2 fi_X10_17r rfl ha1 ht2 ?_
  change WP _ _ _ _ _ _ (.int (hI H 1101 a1 0) :: _) _ _
  obtain ⟨ht3, h⟩ := h
  refine wp_putI (ci := 10) (j := 1) dX10_copy_5 fi_X10_17 rfl (fun z => by cases z) rfl ht3 rfl rfl ?_
  change WP _ _ _ _ _ _ _ (sI H 1101 a0 0 (hI H 1101 a1 0)) _
  refine wp_iconst (v := (0 : Int32)) dX10_copy_8 (by decide) ?_
  refine wp_istore_n (ls' := [(2, .int (0 : Int32)), (0, rv (some a0)), (1, rv o1)]) dX10_copy_9 (by decide) (by change st1 _ 2 _ = _; simp [st1, rv_cat, vc_int, vc_long, vc_float, vc_double]) ?_
  refine wp_sub (ls' := [(0, rv (some a0)), (1, rv o1), (2, .int (0 : Int32))]) [1, 2, 0] rfl ?_
  exact h
def wb_X10_copy_10 (d : Nat) (q : HP → Prop) (a0 : Nat) (o1 : Option Nat) (x2 : Int32) (H : HP) : Prop :=
  tg H a0 = 11 ∧ (((hI H 1101 a0 0) ≤ x2 → q H) ∧ (¬ ((hI H 1101 a0 0) ≤ x2) → ((20 : Int32) ≤ x2 → q H) ∧ (¬ ((20 : Int32) ≤ x2) → ∃ a2, (hC H 1100 a0) = some a2 ∧ (isA H a2 6 ∧ (vp_in x2 (ln H a2) ∧ (∃ a5, o1 = some a5 ∧ (tg H a5 = 11 ∧ (∃ a7, (hC H 1100 a5) = some a7 ∧ (isA H a7 6 ∧ (vp_in x2 (ln H a7) ∧ (∃ a11, (hR H (tg H a2) a2 x2.toNatClampNeg) = some a11 ∧ (tg H a11 = 10 ∧ (CV d 0 0 mX9_copy [rv (hR H (tg H a2) a2 x2.toNatClampNeg), rv (hR H (tg H a7) a7 x2.toNatClampNeg)] H (fun H10 => L_X10_copy_10 d q a0 o1 (x2 + 1) H10))))))))))))))
set_option maxRecDepth 40000 in
set_option maxHeartbeats 4000000 in
theorem T_X10_copy_10 {d : Nat} {q : HP → Prop} {a0 : Nat} {o1 : Option Nat} {x2 : Int32} {H : HP} (h : wb_X10_copy_10 d q a0 o1 x2 H) : L_X10_copy_10 d q a0 o1 x2 H := by
  unfold wb_X10_copy_10 at h
  unfold L_X10_copy_10
  refine wp_iload_n 2 dX10_copy_10 rfl ?_
  refine wp_aload_n 0 dX10_copy_11 rfl ?_
  obtain ⟨ht1, h⟩ := h
  refine wp_getI (ci := 10) (j := 1) dX10_copy_12 fi_X10_17r rfl rfl ht1 ?_
  change WP _ _ _ _ _ _ (.int (hI H 1101 a0 0) :: _) _ _
  refine wp_icmp_ge (tgt := 45) dX10_copy_15 rfl (fun c => ?_) (fun c => ?_)
  · replace h := h.1 c
    exact wp_return dX10_copy_45 rfl ⟨rfl, h⟩
  · replace h := h.2 c
    refine wp_iload_n 2 dX10_copy_18 rfl ?_
    refine wp_bipush (v := (20 : Int32)) dX10_copy_19 (by decide) ?_
    refine wp_icmp_ge (tgt := 45) dX10_copy_21 rfl (fun c => ?_) (fun c => ?_)
    · replace h := h.1 c
      exact wp_return dX10_copy_45 rfl ⟨rfl, h⟩
    · replace h := h.2 c
      refine wp_aload_n 0 dX10_copy_24 rfl ?_
      refine wp_getC (ci := 10) (j := 0) dX10_copy_25 fi_X10_11r rfl rfl ht1 ?_
      change WP _ _ _ _ _ _ (rv (hC H 1100 a0) :: _) _ _
      refine wp_iload_n 2 dX10_copy_28 rfl ?_
      obtain ⟨a2, ha2, h⟩ := h
      obtain ⟨hr3, h⟩ := h
      obtain ⟨hg4, h⟩ := h
      refine wp_aaload (e := 6) dX10_copy_29 ha2 hr3 (by decide) hg4 ?_
      refine wp_aload_n 1 dX10_copy_30 rfl ?_
      obtain ⟨a5, ha5, h⟩ := h
      obtain ⟨ht6, h⟩ := h
      refine wp_getC (ci := 10) (j := 0) dX10_copy_31 fi_X10_11r rfl ha5 ht6 ?_
      change WP _ _ _ _ _ _ (rv (hC H 1100 a5) :: _) _ _
      refine wp_iload_n 2 dX10_copy_34 rfl ?_
      obtain ⟨a7, ha7, h⟩ := h
      obtain ⟨hr8, h⟩ := h
      obtain ⟨hg9, h⟩ := h
      refine wp_aaload (e := 6) dX10_copy_35 ha7 hr8 (by decide) hg9 ?_
      obtain ⟨a11, ha11, h⟩ := h
      obtain ⟨ht12, h⟩ := h
      refine wp_callV (ci := 9) (As := [rv (hR H (tg H a7) a7 x2.toNatClampNeg)]) (rest := []) (mc := 0) (ms := 0) dX10_copy_36 lk_X10_55 rfl rfl (by decide) ha11 rfl rfl ht12 rfl rfl rfl w_3_139 (Call.weaken h ?_)
      rintro H10 _ ⟨rfl, h⟩
      change WP _ _ _ _ _ _ [] H10 _
      refine wp_iinc (v := (x2 + 1)) (ls' := [(2, .int (x2 + 1)), (0, rv (some a0)), (1, rv o1)]) 2 dX10_copy_39 rfl rfl (by decide) (by simp [st1, rv_cat, vc_int, vc_long, vc_float, vc_double]) ?_
      refine wp_goto (tgt := 10) dX10_copy_42 rfl ?_
      refine wp_sub (ls' := [(0, rv (some a0)), (1, rv o1), (2, .int (x2 + 1))]) [1, 2, 0] rfl ?_
      exact h
theorem C_X10_copy {d : Nat} {q : HP → Prop} {a0 : Nat} {o1 : Option Nat} {H : HP} (h : wb_X10_copy_0 d q a0 o1 H) : CV (d + 1) 0 0 mX10_copy [rv (some a0), rv o1] H q := by
  refine call_of (by decide +kernel) (by simp [lg_sl, rv_cat, vc_int, vc_long, vc_float, vc_double]) ?_
  have e : lv_args 0 [rv (some a0), rv o1] = [(0, rv (some a0)), (1, rv o1)] := by simp [lv_args, rv_cat, vc_int, vc_long, vc_float, vc_double]
  rw [e]
  exact T_X10_copy_0 h
/-- UnitProver$Units.<init>()V: the loop at 20 -/
def L_X10_init_20 (d : Nat) (ca sa : Nat) (q : HP → Prop) (a0 : Nat) (x1 : Int32) (H : HP) : Prop := WP (d + 1) mX10_init ca sa 20 [(0, rv (some a0)), (1, .int x1)] [] H (qV q)
def wb_X10_init_0 (d : Nat) (ca sa : Nat) (q : HP → Prop) (a0 : Nat) (H : HP) : Prop :=
  hN H < scrA ∧ (1 ≤ ca ∧ (20 ≤ sa ∧ (tg (nw H 4358 20) a0 = 11 ∧ (L_X10_init_20 d (ca - 1) (sa - 20) q a0 (0 : Int32) (sI (sC (nw H 4358 20) 1100 a0 (some (hN H))) 1101 a0 0 (0 : Int32))))))
set_option maxRecDepth 40000 in
set_option maxHeartbeats 4000000 in
theorem T_X10_init_0 {d : Nat} {ca sa : Nat} {q : HP → Prop} {a0 : Nat} {H : HP} (h : wb_X10_init_0 d ca sa q a0 H) : WP (d + 1) mX10_init ca sa 0 [(0, rv (some a0))] [] H (qV q) := by
  unfold wb_X10_init_0 at h
  refine wp_aload_n 0 dX10_init_0 rfl ?_
  refine wp_objInit dX10_init_1 w_1_59 w_1_29 w_1_30 rfl (by decide) (by omega) ?_
  refine wp_aload_n 0 dX10_init_4 rfl ?_
  refine wp_bipush (v := (20 : Int32)) dX10_init_5 (by decide) ?_
  obtain ⟨hg1, h⟩ := h
  obtain ⟨hg2, h⟩ := h
  obtain ⟨hg3, h⟩ := h
  refine wp_anewarray (t := 4358) (N := 20) (ca' := ca - 1) (sa' := sa - 20) dX10_init_7 w_1_60 (by decide) (by decide) rfl (by decide) (by decide) (by decide +kernel) hg1 (by omega) (by omega) ?_
  obtain ⟨ht4, h⟩ := h
  refine wp_putC (ci := 10) (j := 0) dX10_init_10 fi_X10_11 rfl (fun _ => rfl) rfl ht4 (Or.inr ⟨_, rfl⟩) ?_
  change WP _ _ _ _ _ _ _ (sC (nw H 4358 20) 1100 a0 (some (hN H))) _
  refine wp_aload_n 0 dX10_init_13 rfl ?_
  refine wp_iconst (v := (0 : Int32)) dX10_init_14 (by decide) ?_
  refine wp_putI (ci := 10) (j := 1) dX10_init_15 fi_X10_17 rfl (fun z => by cases z) rfl ht4 rfl rfl ?_
  change WP _ _ _ _ _ _ _ (sI (sC (nw H 4358 20) 1100 a0 (some (hN H))) 1101 a0 0 (0 : Int32)) _
  refine wp_iconst (v := (0 : Int32)) dX10_init_18 (by decide) ?_
  refine wp_istore_n (ls' := [(1, .int (0 : Int32)), (0, rv (some a0))]) dX10_init_19 (by decide) rfl ?_
  refine wp_sub (ls' := [(0, rv (some a0)), (1, .int (0 : Int32))]) [1, 0] rfl ?_
  exact h
def wb_X10_init_20 (d : Nat) (ca sa : Nat) (q : HP → Prop) (a0 : Nat) (x1 : Int32) (H : HP) : Prop :=
  ((20 : Int32) ≤ x1 → q H) ∧ (¬ ((20 : Int32) ≤ x1) → tg H a0 = 11 ∧ (hN H < scrA ∧ (1 ≤ ca ∧ (5 ≤ sa ∧ (4 ≤ (ca - 1) ∧ (13 ≤ (sa - 5) ∧ (CV d 4 13 mX9_init [rv (some (hN H))] (nw H 10 0) (fun H7 => ∃ a8, (hC H 1100 a0) = some a8 ∧ (isA H7 a8 6 ∧ (vp_in x1 (ln H7 a8) ∧ (tg H7 (hN H) = 10 ∧ (L_X10_init_20 d ((ca - 1) - 4) ((sa - 5) - 13) q a0 (x1 + 1) (sR H7 (tg H7 a8) a8 x1.toNatClampNeg (some (hN H)))))))))))))))
set_option maxRecDepth 40000 in
set_option maxHeartbeats 4000000 in
theorem T_X10_init_20 {d : Nat} {ca sa : Nat} {q : HP → Prop} {a0 : Nat} {x1 : Int32} {H : HP} (h : wb_X10_init_20 d ca sa q a0 x1 H) : L_X10_init_20 d ca sa q a0 x1 H := by
  unfold wb_X10_init_20 at h
  unfold L_X10_init_20
  refine wp_iload_n 1 dX10_init_20 rfl ?_
  refine wp_bipush (v := (20 : Int32)) dX10_init_21 (by decide) ?_
  refine wp_icmp_ge (tgt := 45) dX10_init_23 rfl (fun c => ?_) (fun c => ?_)
  · replace h := h.1 c
    exact wp_return dX10_init_45 rfl ⟨rfl, h⟩
  · replace h := h.2 c
    refine wp_aload_n 0 dX10_init_26 rfl ?_
    obtain ⟨ht1, h⟩ := h
    refine wp_getC (ci := 10) (j := 0) dX10_init_27 fi_X10_11r rfl rfl ht1 ?_
    change WP _ _ _ _ _ _ (rv (hC H 1100 a0) :: _) _ _
    refine wp_iload_n 1 dX10_init_30 rfl ?_
    obtain ⟨hg2, h⟩ := h
    obtain ⟨hg3, h⟩ := h
    obtain ⟨hg4, h⟩ := h
    refine wp_new (ca' := ca - 1) (sa' := sa - 5) dX10_init_31 (ci := 9) (N := 5) rfl w_1_60 w_1_62 w_1_4 inG9 tyX9_ok (by decide) hg2 (by omega) (by omega) ?_
    refine wp_dup dX10_init_34 (rv_cat _) ?_
    obtain ⟨hg5, h⟩ := h
    obtain ⟨hg6, h⟩ := h
    refine wp_callI (As := []) (rest := [rv (some (hN H)), .int x1, rv (hC H 1100 a0)]) (mc := 4) (ms := 13) (ca' := ((ca - 1) - 4)) (sa' := ((sa - 5) - 13)) dX10_init_35 lk_X10_21 rfl rfl (by simp [rv_cat, vc_int, vc_long, vc_float, vc_double]) rfl rfl (by omega) (by omega) (Call.weaken h ?_)
    rintro H7 _ ⟨rfl, h⟩
    change WP _ _ _ _ _ _ [rv (some (hN H)), .int x1, rv (hC H 1100 a0)] H7 _
    obtain ⟨a8, ha8, h⟩ := h
    obtain ⟨hr9, h⟩ := h
    obtain ⟨hg10, h⟩ := h
    obtain ⟨ht11, h⟩ := h
    refine wp_aastore (e := 6) (ci := 9) dX10_init_38 ha8 hr9 (by decide) hg10 rfl el_6 (fun x z => by cases z; exact ht11) ?_
    change WP _ _ _ _ _ _ _ (sR H7 (tg H7 a8) a8 x1.toNatClampNeg (some (hN H))) _
    refine wp_iinc (v := (x1 + 1)) (ls' := [(1, .int (x1 + 1)), (0, rv (some a0))]) 1 dX10_init_39 rfl rfl (by decide) rfl ?_
    refine wp_goto (tgt := 20) dX10_init_42 rfl ?_
    refine wp_sub (ls' := [(0, rv (some a0)), (1, .int (x1 + 1))]) [1, 0] rfl ?_
    exact h
theorem C_X10_init {d : Nat} {ca sa : Nat} {q : HP → Prop} {a0 : Nat} {H : HP} (h : wb_X10_init_0 d ca sa q a0 H) : CV (d + 1) ca sa mX10_init [rv (some a0)] H q := by
  refine call_of (by decide +kernel) (by simp [lg_sl, rv_cat, vc_int, vc_long, vc_float, vc_double]) ?_
  have e : lv_args 0 [rv (some a0)] = [(0, rv (some a0))] := by simp [lv_args, rv_cat, vc_int, vc_long, vc_float, vc_double]
  rw [e]
  exact T_X10_init_0 h
/-- UnitProver$Units.nearestBelow(LUnitProver$Unit;LUnitProver$Fraction;)I: the loop at 6 -/
def L_X10_nearestBelow_6 (d : Nat) (q : HP → Int32 → Prop) (a0 : Nat) (o1 : Option Nat) (o2 : Option Nat) (x3 : Int32) (x4 : Int32) (H : HP) : Prop := WP (d + 1) mX10_nearestBelow 0 0 6 [(0, rv (some a0)), (1, rv o1), (2, rv o2), (3, .int x3), (4, .int x4)] [] H (qI q)
def wb_X10_nearestBelow_0 (d : Nat) (q : HP → Int32 → Prop) (a0 : Nat) (o1 : Option Nat) (o2 : Option Nat) (H : HP) : Prop :=
  L_X10_nearestBelow_6 d q a0 o1 o2 (-5 : Int32) (0 : Int32) H
set_option maxRecDepth 40000 in
set_option maxHeartbeats 4000000 in
theorem T_X10_nearestBelow_0 {d : Nat} {q : HP → Int32 → Prop} {a0 : Nat} {o1 : Option Nat} {o2 : Option Nat} {H : HP} (h : wb_X10_nearestBelow_0 d q a0 o1 o2 H) : WP (d + 1) mX10_nearestBelow 0 0 0 [(0, rv (some a0)), (1, rv o1), (2, rv o2)] [] H (qI q) := by
  unfold wb_X10_nearestBelow_0 at h
  refine wp_bipush (v := (-5 : Int32)) dX10_nearestBelow_0 (by decide) ?_
  refine wp_istore_n (ls' := [(3, .int (-5 : Int32)), (0, rv (some a0)), (1, rv o1), (2, rv o2)]) dX10_nearestBelow_2 (by decide) (by change st1 _ 3 _ = _; simp [st1, rv_cat, vc_int, vc_long, vc_float, vc_double]) ?_
  refine wp_iconst (v := (0 : Int32)) dX10_nearestBelow_3 (by decide) ?_
  refine wp_istore (ls' := [(4, .int (0 : Int32)), (3, .int (-5 : Int32)), (0, rv (some a0)), (1, rv o1), (2, rv o2)]) dX10_nearestBelow_4 (by decide) rfl ?_
  refine wp_sub (ls' := [(0, rv (some a0)), (1, rv o1), (2, rv o2), (3, .int (-5 : Int32)), (4, .int (0 : Int32))]) [2, 3, 4, 1, 0] rfl ?_
  exact h
def wb_X10_nearestBelow_6 (d : Nat) (q : HP → Int32 → Prop) (a0 : Nat) (o1 : Option Nat) (o2 : Option Nat) (x3 : Int32) (x4 : Int32) (H : HP) : Prop :=
  tg H a0 = 11 ∧ (((hI H 1101 a0 0) ≤ x4 → q H x3) ∧ (¬ ((hI H 1101 a0 0) ≤ x4) → ((20 : Int32) ≤ x4 → q H x3) ∧ (¬ ((20 : Int32) ≤ x4) → ∃ a2, (hC H 1100 a0) = some a2 ∧ (isA H a2 6 ∧ (vp_in x4 (ln H a2) ∧ (∃ a6, (hR H (tg H a2) a2 x4.toNatClampNeg) = some a6 ∧ (tg H a6 = 10 ∧ (CZ d 0 0 mX9_isLike [rv (hR H (tg H a2) a2 x4.toNatClampNeg), rv o1] H (fun H5 b8 => (b8 = false → L_X10_nearestBelow_6 d q a0 o1 o2 x3 (x4 + 1) H5) ∧ (b8 = true → tg H5 a6 = 10 ∧ (∃ a11, (hC H5 1003 a6) = some a11 ∧ (tg H5 a11 = 4 ∧ (CI d 0 0 mX3_compareWith [rv (hC H5 1003 a6), rv o2] H5 (fun H10 r13 => (0 < r13 → L_X10_nearestBelow_6 d q a0 o1 o2 x3 (x4 + 1) H10) ∧ (¬ (0 < r13) → (x3 < 0 → L_X10_nearestBelow_6 d q a0 o1 o2 x4 (x4 + 1) H10) ∧ (¬ (x3 < 0) → tg H10 a6 = 10 ∧ (tg H10 a0 = 11 ∧ (∃ a16, (hC H10 1100 a0) = some a16 ∧ (isA H10 a16 6 ∧ (vp_in x3 (ln H10 a16) ∧ (∃ a19, (hR H10 (tg H10 a16) a16 x3.toNatClampNeg) = some a19 ∧ (tg H10 a19 = 10 ∧ (∃ a22, (hC H10 1003 a6) = some a22 ∧ (tg H10 a22 = 4 ∧ (CI d 0 0 mX3_compareWith [rv (hC H10 1003 a6), rv (hC H10 1003 a19)] H10 (fun H21 r24 => (r24 ≤ 0 → L_X10_nearestBelow_6 d q a0 o1 o2 x3 (x4 + 1) H21) ∧ (¬ (r24 ≤ 0) → L_X10_nearestBelow_6 d q a0 o1 o2 x4 (x4 + 1) H21)))))))))))))))))))))))))))
set_option maxRecDepth 40000 in
set_option maxHeartbeats 4000000 in
theorem T_X10_nearestBelow_6 {d : Nat} {q : HP → Int32 → Prop} {a0 : Nat} {o1 : Option Nat} {o2 : Option Nat} {x3 : Int32} {x4 : Int32} {H : HP} (h : wb_X10_nearestBelow_6 d q a0 o1 o2 x3 x4 H) : L_X10_nearestBelow_6 d q a0 o1 o2 x3 x4 H := by
  unfold wb_X10_nearestBelow_6 at h
  unfold L_X10_nearestBelow_6
  refine wp_iload 4 dX10_nearestBelow_6 rfl ?_
  refine wp_aload_n 0 dX10_nearestBelow_8 rfl ?_
  obtain ⟨ht1, h⟩ := h
  refine wp_getI (ci := 10) (j := 1) dX10_nearestBelow_9 fi_X10_17r rfl rfl ht1 ?_
  change WP _ _ _ _ _ _ (.int (hI H 1101 a0 0) :: _) _ _
  refine wp_icmp_ge (tgt := 85) dX10_nearestBelow_12 rfl (fun c => ?_) (fun c => ?_)
  · replace h := h.1 c
    refine wp_iload_n 3 dX10_nearestBelow_85 rfl ?_
    exact wp_ireturn (ty := .int) dX10_nearestBelow_86 rfl rfl ⟨_, rfl, h⟩
  · replace h := h.2 c
    refine wp_iload 4 dX10_nearestBelow_15 rfl ?_
    refine wp_bipush (v := (20 : Int32)) dX10_nearestBelow_17 (by decide) ?_
    refine wp_icmp_ge (tgt := 85) dX10_nearestBelow_19 rfl (fun c => ?_) (fun c => ?_)
    · replace h := h.1 c
      refine wp_iload_n 3 dX10_nearestBelow_85 rfl ?_
      exact wp_ireturn (ty := .int) dX10_nearestBelow_86 rfl rfl ⟨_, rfl, h⟩
    · replace h := h.2 c
      refine wp_aload_n 0 dX10_nearestBelow_22 rfl ?_
      refine wp_getC (ci := 10) (j := 0) dX10_nearestBelow_23 fi_X10_11r rfl rfl ht1 ?_
      change WP _ _ _ _ _ _ (rv (hC H 1100 a0) :: _) _ _
      refine wp_iload 4 dX10_nearestBelow_26 rfl ?_
      obtain ⟨a2, ha2, h⟩ := h
      obtain ⟨hr3, h⟩ := h
      obtain ⟨hg4, h⟩ := h
      refine wp_aaload (e := 6) dX10_nearestBelow_28 ha2 hr3 (by decide) hg4 ?_
      refine wp_astore (ls' := [(5, rv (hR H (tg H a2) a2 x4.toNatClampNeg)), (0, rv (some a0)), (1, rv o1), (2, rv o2), (3, .int x3), (4, .int x4)]) dX10_nearestBelow_29 (by decide) rfl ?_
      refine wp_aload 0 dX10_nearestBelow_31 rfl ?_
      refine wp_aload_n 2 dX10_nearestBelow_33 rfl ?_
      obtain ⟨a6, ha6, h⟩ := h
      obtain ⟨ht7, h⟩ := h
      refine wp_callV (ci := 9) (As := [rv o1]) (rest := []) (mc := 0) (ms := 0) dX10_nearestBelow_34 lk_X10_59 rfl rfl (by decide) ha6 rfl rfl ht7 rfl rfl rfl w_4_3 (Call.weaken h ?_)
      rintro H5 _ ⟨b8, rfl, h⟩
      change WP _ _ _ _ _ _ [.int (bI b8)] H5 _
      refine wp_if_eq (tgt := 79) dX10_nearestBelow_37 rfl (fun c => ?_) (fun c => ?_)
      · replace h := h.1 (bI_0.mp c)
        refine wp_iinc (v := (x4 + 1)) (ls' := [(4, .int (x4 + 1)), (5, rv (hR H (tg H a2) a2 x4.toNatClampNeg)), (0, rv (some a0)), (1, rv o1), (2, rv o2), (3, .int x3)]) 5 dX10_nearestBelow_79 rfl rfl (by decide) rfl ?_
        refine wp_goto (tgt := 6) dX10_nearestBelow_82 rfl ?_
        refine wp_sub (ls' := [(0, rv (some a0)), (1, rv o1), (2, rv o2), (3, .int x3), (4, .int (x4 + 1))]) [2, 3, 4, 5, 0] rfl ?_
        exact h
      · replace h := h.2 (bI_1.mp c)
        refine wp_aload 0 dX10_nearestBelow_40 rfl ?_
        obtain ⟨ht9, h⟩ := h
        refine wp_getC (ci := 9) (j := 3) dX10_nearestBelow_42 fi_X10_41 rfl ha6 ht9 ?_
        change WP _ _ _ _ _ _ (rv (hC H5 1003 a6) :: _) _ _
        refine wp_aload_n 3 dX10_nearestBelow_45 rfl ?_
        obtain ⟨a11, ha11, h⟩ := h
        obtain ⟨ht12, h⟩ := h
        refine wp_callV (ci := 3) (As := [rv o2]) (rest := []) (mc := 0) (ms := 0) dX10_nearestBelow_46 lk_X10_63 rfl rfl (by decide) ha11 rfl rfl ht12 rfl rfl rfl w_4_4 (Call.weaken h ?_)
        rintro H10 _ ⟨r13, rfl, h⟩
        change WP _ _ _ _ _ _ [.int r13] H10 _
        refine wp_if_gt (tgt := 79) dX10_nearestBelow_49 rfl (fun c => ?_) (fun c => ?_)
        · replace h := h.1 c
          refine wp_iinc (v := (x4 + 1)) (ls' := [(4, .int (x4 + 1)), (5, rv (hR H (tg H a2) a2 x4.toNatClampNeg)), (0, rv (some a0)), (1, rv o1), (2, rv o2), (3, .int x3)]) 5 dX10_nearestBelow_79 rfl rfl (by decide) rfl ?_
          refine wp_goto (tgt := 6) dX10_nearestBelow_82 rfl ?_
          refine wp_sub (ls' := [(0, rv (some a0)), (1, rv o1), (2, rv o2), (3, .int x3), (4, .int (x4 + 1))]) [2, 3, 4, 5, 0] rfl ?_
          exact h
        · replace h := h.2 c
          refine wp_iload_n 4 dX10_nearestBelow_52 rfl ?_
          refine wp_if_lt (tgt := 76) dX10_nearestBelow_53 rfl (fun c => ?_) (fun c => ?_)
          · replace h := h.1 c
            refine wp_iload 5 dX10_nearestBelow_76 rfl ?_
            refine wp_istore_n (ls' := [(3, .int x4), (5, rv (hR H (tg H a2) a2 x4.toNatClampNeg)), (0, rv (some a0)), (1, rv o1), (2, rv o2), (4, .int x4)]) dX10_nearestBelow_78 (by decide) (by change st1 _ 3 _ = _; simp [st1, rv_cat, vc_int, vc_long, vc_float, vc_double]) ?_
            refine wp_iinc (v := (x4 + 1)) (ls' := [(4, .int (x4 + 1)), (3, .int x4), (5, rv (hR H (tg H a2) a2 x4.toNatClampNeg)), (0, rv (some a0)), (1, rv o1), (2, rv o2)]) 5 dX10_nearestBelow_79 rfl rfl (by decide) rfl ?_
            refine wp_goto (tgt := 6) dX10_nearestBelow_82 rfl ?_
            refine wp_sub (ls' := [(0, rv (some a0)), (1, rv o1), (2, rv o2), (3, .int x4), (4, .int (x4 + 1))]) [3, 4, 5, 1, 0] rfl ?_
            exact h
          · replace h := h.2 c
            refine wp_aload 0 dX10_nearestBelow_56 rfl ?_
            obtain ⟨ht14, h⟩ := h
            refine wp_getC (ci := 9) (j := 3) dX10_nearestBelow_58 fi_X10_41 rfl ha6 ht14 ?_
            change WP _ _ _ _ _ _ (rv (hC H10 1003 a6) :: _) _ _
            refine wp_aload_n 1 dX10_nearestBelow_61 rfl ?_
            obtain ⟨ht15, h⟩ := h
            refine wp_getC (ci := 10) (j := 0) dX10_nearestBelow_62 fi_X10_11r rfl rfl ht15 ?_
            change WP _ _ _ _ _ _ (rv (hC H10 1100 a0) :: _) _ _
            refine wp_iload_n 4 dX10_nearestBelow_65 rfl ?_
            obtain ⟨a16, ha16, h⟩ := h
            obtain ⟨hr17, h⟩ := h
            obtain ⟨hg18, h⟩ := h
            refine wp_aaload (e := 6) dX10_nearestBelow_66 ha16 hr17 (by decide) hg18 ?_
            obtain ⟨a19, ha19, h⟩ := h
            obtain ⟨ht20, h⟩ := h
            refine wp_getC (ci := 9) (j := 3) dX10_nearestBelow_67 fi_X10_41 rfl ha19 ht20 ?_
            change WP _ _ _ _ _ _ (rv (hC H10 1003 a19) :: _) _ _
            obtain ⟨a22, ha22, h⟩ := h
            obtain ⟨ht23, h⟩ := h
            refine wp_callV (ci := 3) (As := [rv (hC H10 1003 a19)]) (rest := []) (mc := 0) (ms := 0) dX10_nearestBelow_70 lk_X10_63 rfl rfl (by decide) ha22 rfl rfl ht23 rfl rfl rfl w_4_4 (Call.weaken h ?_)
            rintro H21 _ ⟨r24, rfl, h⟩
            change WP _ _ _ _ _ _ [.int r24] H21 _
            refine wp_if_le (tgt := 79) dX10_nearestBelow_73 rfl (fun c => ?_) (fun c => ?_)
            · replace h := h.1 c
              refine wp_iinc (v := (x4 + 1)) (ls' := [(4, .int (x4 + 1)), (5, rv (hR H (tg H a2) a2 x4.toNatClampNeg)), (0, rv (some a0)), (1, rv o1), (2, rv o2), (3, .int x3)]) 5 dX10_nearestBelow_79 rfl rfl (by decide) rfl ?_
              refine wp_goto (tgt := 6) dX10_nearestBelow_82 rfl ?_
              refine wp_sub (ls' := [(0, rv (some a0)), (1, rv o1), (2, rv o2), (3, .int x3), (4, .int (x4 + 1))]) [2, 3, 4, 5, 0] rfl ?_
              exact h
            · replace h := h.2 c
              refine wp_iload 5 dX10_nearestBelow_76 rfl ?_
              refine wp_istore_n (ls' := [(3, .int x4), (5, rv (hR H (tg H a2) a2 x4.toNatClampNeg)), (0, rv (some a0)), (1, rv o1), (2, rv o2), (4, .int x4)]) dX10_nearestBelow_78 (by decide) (by change st1 _ 3 _ = _; simp [st1, rv_cat, vc_int, vc_long, vc_float, vc_double]) ?_
              refine wp_iinc (v := (x4 + 1)) (ls' := [(4, .int (x4 + 1)), (3, .int x4), (5, rv (hR H (tg H a2) a2 x4.toNatClampNeg)), (0, rv (some a0)), (1, rv o1), (2, rv o2)]) 5 dX10_nearestBelow_79 rfl rfl (by decide) rfl ?_
              refine wp_goto (tgt := 6) dX10_nearestBelow_82 rfl ?_
              refine wp_sub (ls' := [(0, rv (some a0)), (1, rv o1), (2, rv o2), (3, .int x4), (4, .int (x4 + 1))]) [3, 4, 5, 1, 0] rfl ?_
              exact h
theorem C_X10_nearestBelow {d : Nat} {q : HP → Int32 → Prop} {a0 : Nat} {o1 : Option Nat} {o2 : Option Nat} {H : HP} (h : wb_X10_nearestBelow_0 d q a0 o1 o2 H) : CI (d + 1) 0 0 mX10_nearestBelow [rv (some a0), rv o1, rv o2] H q := by
  refine call_of (by decide +kernel) (by simp [lg_sl, rv_cat, vc_int, vc_long, vc_float, vc_double]) ?_
  have e : lv_args 0 [rv (some a0), rv o1, rv o2] = [(0, rv (some a0)), (1, rv o1), (2, rv o2)] := by simp [lv_args, rv_cat, vc_int, vc_long, vc_float, vc_double]
  rw [e]
  exact T_X10_nearestBelow_0 h
/-- UnitProver$Units.numberOf(LUnitProver$Tape;II)I: the loop at 3 -/
def L_X10_numberOf_3 (d : Nat) (q : HP → Int32 → Prop) (a0 : Nat) (o1 : Option Nat) (x2 : Int32) (x3 : Int32) (x4 : Int32) (H : HP) : Prop := WP (d + 1) mX10_numberOf 0 0 3 [(0, rv (some a0)), (1, rv o1), (2, .int x2), (3, .int x3), (4, .int x4)] [] H (qI q)
def wb_X10_numberOf_0 (d : Nat) (q : HP → Int32 → Prop) (a0 : Nat) (o1 : Option Nat) (x2 : Int32) (x3 : Int32) (H : HP) : Prop :=
  L_X10_numberOf_3 d q a0 o1 x2 x3 (0 : Int32) H
set_option maxRecDepth 40000 in
set_option maxHeartbeats 4000000 in
theorem T_X10_numberOf_0 {d : Nat} {q : HP → Int32 → Prop} {a0 : Nat} {o1 : Option Nat} {x2 : Int32} {x3 : Int32} {H : HP} (h : wb_X10_numberOf_0 d q a0 o1 x2 x3 H) : WP (d + 1) mX10_numberOf 0 0 0 [(0, rv (some a0)), (1, rv o1), (2, .int x2), (3, .int x3)] [] H (qI q) := by
  unfold wb_X10_numberOf_0 at h
  refine wp_iconst (v := (0 : Int32)) dX10_numberOf_0 (by decide) ?_
  refine wp_istore (ls' := [(4, .int (0 : Int32)), (0, rv (some a0)), (1, rv o1), (2, .int x2), (3, .int x3)]) dX10_numberOf_1 (by decide) rfl ?_
  refine wp_sub (ls' := [(0, rv (some a0)), (1, rv o1), (2, .int x2), (3, .int x3), (4, .int (0 : Int32))]) [1, 2, 3, 4, 0] rfl ?_
  exact h
def wb_X10_numberOf_3 (d : Nat) (q : HP → Int32 → Prop) (a0 : Nat) (o1 : Option Nat) (x2 : Int32) (x3 : Int32) (x4 : Int32) (H : HP) : Prop :=
  tg H a0 = 11 ∧ (((hI H 1101 a0 0) ≤ x4 → q H (-1 : Int32)) ∧ (¬ ((hI H 1101 a0 0) ≤ x4) → ((20 : Int32) ≤ x4 → q H (-1 : Int32)) ∧ (¬ ((20 : Int32) ≤ x4) → ∃ a2, (hC H 1100 a0) = some a2 ∧ (isA H a2 6 ∧ (vp_in x4 (ln H a2) ∧ (∃ a6, (hR H (tg H a2) a2 x4.toNatClampNeg) = some a6 ∧ (tg H a6 = 10 ∧ (CZ d 0 0 mX9_isNamed [rv (hR H (tg H a2) a2 x4.toNatClampNeg), rv o1, .int x2, .int x3] H (fun H5 b8 => (b8 = false → L_X10_numberOf_3 d q a0 o1 x2 x3 (x4 + 1) H5) ∧ (b8 = true → q H5 x4))))))))))
set_option maxRecDepth 40000 in
set_option maxHeartbeats 4000000 in
theorem T_X10_numberOf_3 {d : Nat} {q : HP → Int32 → Prop} {a0 : Nat} {o1 : Option Nat} {x2 : Int32} {x3 : Int32} {x4 : Int32} {H : HP} (h : wb_X10_numberOf_3 d q a0 o1 x2 x3 x4 H) : L_X10_numberOf_3 d q a0 o1 x2 x3 x4 H := by
  unfold wb_X10_numberOf_3 at h
  unfold L_X10_numberOf_3
  refine wp_iload 4 dX10_numberOf_3 rfl ?_
  refine wp_aload_n 0 dX10_numberOf_5 rfl ?_
  obtain ⟨ht1, h⟩ := h
  refine wp_getI (ci := 10) (j := 1) dX10_numberOf_6 fi_X10_17r rfl rfl ht1 ?_
  change WP _ _ _ _ _ _ (.int (hI H 1101 a0 0) :: _) _ _
  refine wp_icmp_ge (tgt := 44) dX10_numberOf_9 rfl (fun c => ?_) (fun c => ?_)
  · replace h := h.1 c
    refine wp_iconst (v := (-1 : Int32)) dX10_numberOf_44 (by decide) ?_
    exact wp_ireturn (ty := .int) dX10_numberOf_45 rfl rfl ⟨_, rfl, h⟩
  · replace h := h.2 c
    refine wp_iload 4 dX10_numberOf_12 rfl ?_
    refine wp_bipush (v := (20 : Int32)) dX10_numberOf_14 (by decide) ?_
    refine wp_icmp_ge (tgt := 44) dX10_numberOf_16 rfl (fun c => ?_) (fun c => ?_)
    · replace h := h.1 c
      refine wp_iconst (v := (-1 : Int32)) dX10_numberOf_44 (by decide) ?_
      exact wp_ireturn (ty := .int) dX10_numberOf_45 rfl rfl ⟨_, rfl, h⟩
    · replace h := h.2 c
      refine wp_aload_n 0 dX10_numberOf_19 rfl ?_
      refine wp_getC (ci := 10) (j := 0) dX10_numberOf_20 fi_X10_11r rfl rfl ht1 ?_
      change WP _ _ _ _ _ _ (rv (hC H 1100 a0) :: _) _ _
      refine wp_iload 4 dX10_numberOf_23 rfl ?_
      obtain ⟨a2, ha2, h⟩ := h
      obtain ⟨hr3, h⟩ := h
      obtain ⟨hg4, h⟩ := h
      refine wp_aaload (e := 6) dX10_numberOf_25 ha2 hr3 (by decide) hg4 ?_
      refine wp_aload_n 1 dX10_numberOf_26 rfl ?_
      refine wp_iload_n 2 dX10_numberOf_27 rfl ?_
      refine wp_iload_n 3 dX10_numberOf_28 rfl ?_
      obtain ⟨a6, ha6, h⟩ := h
      obtain ⟨ht7, h⟩ := h
      refine wp_callV (ci := 9) (As := [rv o1, .int x2, .int x3]) (rest := []) (mc := 0) (ms := 0) dX10_numberOf_29 lk_X10_51 rfl rfl (by decide) ha6 rfl rfl ht7 rfl rfl rfl w_3_78 (Call.weaken h ?_)
      rintro H5 _ ⟨b8, rfl, h⟩
      change WP _ _ _ _ _ _ [.int (bI b8)] H5 _
      refine wp_if_eq (tgt := 38) dX10_numberOf_32 rfl (fun c => ?_) (fun c => ?_)
      · replace h := h.1 (bI_0.mp c)
        refine wp_iinc (v := (x4 + 1)) (ls' := [(4, .int (x4 + 1)), (0, rv (some a0)), (1, rv o1), (2, .int x2), (3, .int x3)]) 4 dX10_numberOf_38 rfl rfl (by decide) rfl ?_
        refine wp_goto (tgt := 3) dX10_numberOf_41 rfl ?_
        refine wp_sub (ls' := [(0, rv (some a0)), (1, rv o1), (2, .int x2), (3, .int x3), (4, .int (x4 + 1))]) [1, 2, 3, 4, 0] rfl ?_
        exact h
      · replace h := h.2 (bI_1.mp c)
        refine wp_iload 4 dX10_numberOf_35 rfl ?_
        exact wp_ireturn (ty := .int) dX10_numberOf_37 rfl rfl ⟨_, rfl, h⟩
theorem C_X10_numberOf {d : Nat} {q : HP → Int32 → Prop} {a0 : Nat} {o1 : Option Nat} {x2 : Int32} {x3 : Int32} {H : HP} (h : wb_X10_numberOf_0 d q a0 o1 x2 x3 H) : CI (d + 1) 0 0 mX10_numberOf [rv (some a0), rv o1, .int x2, .int x3] H q := by
  refine call_of (by decide +kernel) (by simp [lg_sl, rv_cat, vc_int, vc_long, vc_float, vc_double]) ?_
  have e : lv_args 0 [rv (some a0), rv o1, .int x2, .int x3] = [(0, rv (some a0)), (1, rv o1), (2, .int x2), (3, .int x3)] := by simp [lv_args, rv_cat, vc_int, vc_long, vc_float, vc_double]
  rw [e]
  exact T_X10_numberOf_0 h
def wb_X1_addTo_57 (d : Nat) (q : HP → Int32 → Prop) (a0 : Nat) (o1 : Option Nat) (o2 : Option Nat) (H : HP) : Prop :=
  tg H a0 = 2 ∧ (CV d 0 0 mX1_makeDimension [rv (some a0)] H (fun H1 => tg H1 a0 = 2 ∧ (∃ a4, (hC H1 211 a0) = some a4 ∧ (tg H1 a4 = 10 ∧ (CZ d 0 0 mX11_goesBeyond [rv (hC H1 1002 a4), .int (9 : Int32)] H1 (fun H6 b7 => (b7 = false → tg H6 a0 = 2 ∧ (CZ d 0 0 mX1_makeFactor [rv (some a0)] H6 (fun H8 b10 => (b10 = true → tg H8 a0 = 2 ∧ (∃ a13, (hC H8 211 a0) = some a13 ∧ (tg H8 a13 = 10 ∧ (CV d 0 0 mX9_takeName [rv (hC H8 211 a0), rv o2, .int (hI H8 204 a0 0)] H8 (fun H12 => tg H12 a0 = 2 ∧ (∃ a16, (hC H12 211 a0) = some a16 ∧ (tg H12 a16 = 10 ∧ (((hI H12 202 a0 0) = 0 → ((hI H12 202 a0 0) = 0 → ∃ a19, (hC H12 1004 a16) = some a19 ∧ (tg H12 a19 = 4 ∧ (CV d 0 0 mX3_set [rv (hC H12 1004 a16), .long (0 : Int64), .long (1 : Int64)] H12 (fun H18 => tg H18 a0 = 2 ∧ (∃ a23, o1 = some a23 ∧ (tg H18 a23 = 11 ∧ (CI d 0 0 mX10_append [rv o1, rv (hC H18 211 a0)] H18 (fun H22 r25 => q H22 r25)))))))) ∧ (¬ ((hI H12 202 a0 0) = 0) → ∃ a26, (hC H12 201 a0) = some a26 ∧ (isA H12 a26 0 ∧ (vp_in (1 : Int32) (ln H12 a26) ∧ (∃ a30, (hC H12 1004 a16) = some a30 ∧ (tg H12 a30 = 4 ∧ (CV d 0 0 mX3_set [rv (hC H12 1004 a16), .long (0 : Int64), .long ((hI H12 (tg H12 a26) a26 (1 : Int32).toNatClampNeg).toInt64)] H12 (fun H29 => tg H29 a0 = 2 ∧ (∃ a34, o1 = some a34 ∧ (tg H29 a34 = 11 ∧ (CI d 0 0 mX10_append [rv o1, rv (hC H29 211 a0)] H29 (fun H33 r36 => q H33 r36)))))))))))) ∧ (¬ ((hI H12 202 a0 0) = 0) → ∃ a37, (hC H12 201 a0) = some a37 ∧ (isA H12 a37 0 ∧ (vp_in (0 : Int32) (ln H12 a37) ∧ (((hI H12 202 a0 0) = 0 → ∃ a41, (hC H12 1004 a16) = some a41 ∧ (tg H12 a41 = 4 ∧ (CV d 0 0 mX3_set [rv (hC H12 1004 a16), .long (((hI H12 203 a0 0).toInt64) * ((hI H12 (tg H12 a37) a37 (0 : Int32).toNatClampNeg).toInt64)), .long (1 : Int64)] H12 (fun H40 => tg H40 a0 = 2 ∧ (∃ a45, o1 = some a45 ∧ (tg H40 a45 = 11 ∧ (CI d 0 0 mX10_append [rv o1, rv (hC H40 211 a0)] H40 (fun H44 r47 => q H44 r47)))))))) ∧ (¬ ((hI H12 202 a0 0) = 0) → vp_in (1 : Int32) (ln H12 a37) ∧ (∃ a50, (hC H12 1004 a16) = some a50 ∧ (tg H12 a50 = 4 ∧ (CV d 0 0 mX3_set [rv (hC H12 1004 a16), .long (((hI H12 203 a0 0).toInt64) * ((hI H12 (tg H12 a37) a37 (0 : Int32).toNatClampNeg).toInt64)), .long ((hI H12 (tg H12 a37) a37 (1 : Int32).toNatClampNeg).toInt64)] H12 (fun H49 => tg H49 a0 = 2 ∧ (∃ a54, o1 = some a54 ∧ (tg H49 a54 = 11 ∧ (CI d 0 0 mX10_append [rv o1, rv (hC H49 211 a0)] H49 (fun H53 r56 => q H53 r56))))))))))))))))))))) ∧ (b10 = false → q H8 (-15 : Int32))))) ∧ (b7 = true → q H6 (-12 : Int32))))))))
set_option maxRecDepth 40000 in
set_option maxHeartbeats 4000000 in
theorem T_X1_addTo_57 {d : Nat} {q : HP → Int32 → Prop} {a0 : Nat} {o1 : Option Nat} {o2 : Option Nat} {H : HP} (h : wb_X1_addTo_57 d q a0 o1 o2 H) : WP (d + 1) mX1_addTo 0 0 57 [(0, rv (some a0)), (1, rv o1), (2, rv o2)] [] H (qI q) := by
  unfold wb_X1_addTo_57 at h
  refine wp_aload_n 0 dX1_addTo_57 rfl ?_
  obtain ⟨ht2, h⟩ := h
  refine wp_callV (ci := 1) (As := []) (rest := []) (mc := 0) (ms := 0) dX1_addTo_58 lk_X1_101 rfl rfl (by decide) rfl rfl rfl ht2 rfl rfl rfl w_3_94 (Call.weaken h ?_)
  rintro H1 _ ⟨rfl, h⟩
  change WP _ _ _ _ _ _ [] H1 _
  refine wp_aload_n 0 dX1_addTo_61 rfl ?_
  obtain ⟨ht3, h⟩ := h
  refine wp_getC (ci := 1) (j := 11) dX1_addTo_62 fi_X1_38r rfl rfl ht3 ?_
  change WP _ _ _ _ _ _ (rv (hC H1 211 a0) :: _) _ _
  obtain ⟨a4, ha4, h⟩ := h
  obtain ⟨ht5, h⟩ := h
  refine wp_getC (ci := 9) (j := 2) dX1_addTo_65 fi_X1_104 rfl ha4 ht5 ?_
  change WP _ _ _ _ _ _ (rv (hC H1 1002 a4) :: _) _ _
  refine wp_bipush (v := (9 : Int32)) dX1_addTo_68 (by decide) ?_
  refine wp_callS (As := [rv (hC H1 1002 a4), .int (9 : Int32)]) (rest := []) (mc := 0) (ms := 0) dX1_addTo_70 lk_X1_107 rfl rfl (by decide) rfl rfl rfl (Call.weaken h ?_)
  rintro H6 _ ⟨b7, rfl, h⟩
  change WP _ _ _ _ _ _ [.int (bI b7)] H6 _
  refine wp_if_eq (tgt := 79) dX1_addTo_73 rfl (fun c => ?_) (fun c => ?_)
  · replace h := h.1 (bI_0.mp c)
    refine wp_aload_n 0 dX1_addTo_79 rfl ?_
    obtain ⟨ht9, h⟩ := h
    refine wp_callV (ci := 1) (As := []) (rest := []) (mc := 0) (ms := 0) dX1_addTo_80 lk_X1_111 rfl rfl (by decide) rfl rfl rfl ht9 rfl rfl rfl w_3_104 (Call.weaken h ?_)
    rintro H8 _ ⟨b10, rfl, h⟩
    change WP _ _ _ _ _ _ [.int (bI b10)] H8 _
    refine wp_if_ne (tgt := 89) dX1_addTo_83 rfl (fun c => ?_) (fun c => ?_)
    · replace h := h.1 (bI_1.mp c)
      refine wp_aload_n 0 dX1_addTo_89 rfl ?_
      obtain ⟨ht11, h⟩ := h
      refine wp_getC (ci := 1) (j := 11) dX1_addTo_90 fi_X1_38r rfl rfl ht11 ?_
      change WP _ _ _ _ _ _ (rv (hC H8 211 a0) :: _) _ _
      refine wp_aload_n 2 dX1_addTo_93 rfl ?_
      refine wp_aload_n 0 dX1_addTo_94 rfl ?_
      refine wp_getI (ci := 1) (j := 4) dX1_addTo_95 fi_X1_56r rfl rfl ht11 ?_
      change WP _ _ _ _ _ _ (.int (hI H8 204 a0 0) :: _) _ _
      obtain ⟨a13, ha13, h⟩ := h
      obtain ⟨ht14, h⟩ := h
      refine wp_callV (ci := 9) (As := [rv o2, .int (hI H8 204 a0 0)]) (rest := []) (mc := 0) (ms := 0) dX1_addTo_98 lk_X1_114 rfl rfl (by decide) ha13 rfl rfl ht14 rfl rfl rfl w_3_125 (Call.weaken h ?_)
      rintro H12 _ ⟨rfl, h⟩
      change WP _ _ _ _ _ _ [] H12 _
      refine wp_aload_n 0 dX1_addTo_101 rfl ?_
      obtain ⟨ht15, h⟩ := h
      refine wp_getC (ci := 1) (j := 11) dX1_addTo_102 fi_X1_38r rfl rfl ht15 ?_
      change WP _ _ _ _ _ _ (rv (hC H12 211 a0) :: _) _ _
      obtain ⟨a16, ha16, h⟩ := h
      obtain ⟨ht17, h⟩ := h
      refine wp_getC (ci := 9) (j := 4) dX1_addTo_105 fi_X1_117 rfl ha16 ht17 ?_
      change WP _ _ _ _ _ _ (rv (hC H12 1004 a16) :: _) _ _
      refine wp_aload_n 0 dX1_addTo_108 rfl ?_
      refine wp_getI (ci := 1) (j := 2) dX1_addTo_109 fi_X1_48r rfl rfl ht15 ?_
      change WP _ _ _ _ _ _ (.int (hI H12 202 a0 0) :: _) _ _
      refine wp_if_eq (tgt := 131) dX1_addTo_112 rfl (fun c => ?_) (fun c => ?_)
      · replace h := h.1 c
        refine wp_lconst (v := (0 : Int64)) dX1_addTo_131 (by decide) ?_
        refine wp_aload_n 0 dX1_addTo_132 rfl ?_
        refine wp_getI (ci := 1) (j := 2) dX1_addTo_133 fi_X1_48r rfl rfl ht15 ?_
        change WP _ _ _ _ _ _ (.int (hI H12 202 a0 0) :: _) _ _
        refine wp_if_eq (tgt := 149) dX1_addTo_136 rfl (fun c => ?_) (fun c => ?_)
        · replace h := h.1 c
          refine wp_lconst (v := (1 : Int64)) dX1_addTo_149 (by decide) ?_
          obtain ⟨a19, ha19, h⟩ := h
          obtain ⟨ht20, h⟩ := h
          refine wp_callV (ci := 3) (As := [.long (0 : Int64), .long (1 : Int64)]) (rest := []) (mc := 0) (ms := 0) dX1_addTo_150 lk_X1_120 rfl rfl (by decide) ha19 rfl rfl ht20 rfl rfl rfl w_3_108 (Call.weaken h ?_)
          rintro H18 _ ⟨rfl, h⟩
          change WP _ _ _ _ _ _ [] H18 _
          refine wp_aload_n 1 dX1_addTo_153 rfl ?_
          refine wp_aload_n 0 dX1_addTo_154 rfl ?_
          obtain ⟨ht21, h⟩ := h
          refine wp_getC (ci := 1) (j := 11) dX1_addTo_155 fi_X1_38r rfl rfl ht21 ?_
          change WP _ _ _ _ _ _ (rv (hC H18 211 a0) :: _) _ _
          obtain ⟨a23, ha23, h⟩ := h
          obtain ⟨ht24, h⟩ := h
          refine wp_callV (ci := 10) (As := [rv (hC H18 211 a0)]) (rest := []) (mc := 0) (ms := 0) dX1_addTo_158 lk_X1_126 rfl rfl (by decide) ha23 rfl rfl ht24 rfl rfl rfl w_3_135 (Call.weaken h ?_)
          rintro H22 _ ⟨r25, rfl, h⟩
          change WP _ _ _ _ _ _ [.int r25] H22 _
          exact wp_ireturn (ty := .int) dX1_addTo_161 rfl rfl ⟨_, rfl, h⟩
        · replace h := h.2 c
          refine wp_aload_n 0 dX1_addTo_139 rfl ?_
          refine wp_getC (ci := 1) (j := 1) dX1_addTo_140 fi_X1_15r rfl rfl ht15 ?_
          change WP _ _ _ _ _ _ (rv (hC H12 201 a0) :: _) _ _
          refine wp_iconst (v := (1 : Int32)) dX1_addTo_143 (by decide) ?_
          obtain ⟨a26, ha26, h⟩ := h
          obtain ⟨hr27, h⟩ := h
          obtain ⟨hg28, h⟩ := h
          refine wp_iaload dX1_addTo_144 ha26 hr27 hg28 ?_
          refine wp_i2l dX1_addTo_145 ?_
          refine wp_goto (tgt := 150) dX1_addTo_146 rfl ?_
          obtain ⟨a30, ha30, h⟩ := h
          obtain ⟨ht31, h⟩ := h
          refine wp_callV (ci := 3) (As := [.long (0 : Int64), .long ((hI H12 (tg H12 a26) a26 (1 : Int32).toNatClampNeg).toInt64)]) (rest := []) (mc := 0) (ms := 0) dX1_addTo_150 lk_X1_120 rfl rfl (by decide) ha30 rfl rfl ht31 rfl rfl rfl w_3_108 (Call.weaken h ?_)
          rintro H29 _ ⟨rfl, h⟩
          change WP _ _ _ _ _ _ [] H29 _
          refine wp_aload_n 1 dX1_addTo_153 rfl ?_
          refine wp_aload_n 0 dX1_addTo_154 rfl ?_
          obtain ⟨ht32, h⟩ := h
          refine wp_getC (ci := 1) (j := 11) dX1_addTo_155 fi_X1_38r rfl rfl ht32 ?_
          change WP _ _ _ _ _ _ (rv (hC H29 211 a0) :: _) _ _
          obtain ⟨a34, ha34, h⟩ := h
          obtain ⟨ht35, h⟩ := h
          refine wp_callV (ci := 10) (As := [rv (hC H29 211 a0)]) (rest := []) (mc := 0) (ms := 0) dX1_addTo_158 lk_X1_126 rfl rfl (by decide) ha34 rfl rfl ht35 rfl rfl rfl w_3_135 (Call.weaken h ?_)
          rintro H33 _ ⟨r36, rfl, h⟩
          change WP _ _ _ _ _ _ [.int r36] H33 _
          exact wp_ireturn (ty := .int) dX1_addTo_161 rfl rfl ⟨_, rfl, h⟩
      · replace h := h.2 c
        refine wp_aload_n 0 dX1_addTo_115 rfl ?_
        refine wp_getI (ci := 1) (j := 3) dX1_addTo_116 fi_X1_75r rfl rfl ht15 ?_
        change WP _ _ _ _ _ _ (.int (hI H12 203 a0 0) :: _) _ _
        refine wp_i2l dX1_addTo_119 ?_
        refine wp_aload_n 0 dX1_addTo_120 rfl ?_
        refine wp_getC (ci := 1) (j := 1) dX1_addTo_121 fi_X1_15r rfl rfl ht15 ?_
        change WP _ _ _ _ _ _ (rv (hC H12 201 a0) :: _) _ _
        refine wp_iconst (v := (0 : Int32)) dX1_addTo_124 (by decide) ?_
        obtain ⟨a37, ha37, h⟩ := h
        obtain ⟨hr38, h⟩ := h
        obtain ⟨hg39, h⟩ := h
        refine wp_iaload dX1_addTo_125 ha37 hr38 hg39 ?_
        refine wp_i2l dX1_addTo_126 ?_
        refine wp_lmul dX1_addTo_127 ?_
        refine wp_goto (tgt := 132) dX1_addTo_128 rfl ?_
        refine wp_aload_n 0 dX1_addTo_132 rfl ?_
        refine wp_getI (ci := 1) (j := 2) dX1_addTo_133 fi_X1_48r rfl rfl ht15 ?_
        change WP _ _ _ _ _ _ (.int (hI H12 202 a0 0) :: _) _ _
        refine wp_if_eq (tgt := 149) dX1_addTo_136 rfl (fun c => ?_) (fun c => ?_)
        · replace h := h.1 c
          refine wp_lconst (v := (1 : Int64)) dX1_addTo_149 (by decide) ?_
          obtain ⟨a41, ha41, h⟩ := h
          obtain ⟨ht42, h⟩ := h
          refine wp_callV (ci := 3) (As := [.long (((hI H12 203 a0 0).toInt64) * ((hI H12 (tg H12 a37) a37 (0 : Int32).toNatClampNeg).toInt64)), .long (1 : Int64)]) (rest := []) (mc := 0) (ms := 0) dX1_addTo_150 lk_X1_120 rfl rfl (by decide) ha41 rfl rfl ht42 rfl rfl rfl w_3_108 (Call.weaken h ?_)
          rintro H40 _ ⟨rfl, h⟩
          change WP _ _ _ _ _ _ [] H40 _
          refine wp_aload_n 1 dX1_addTo_153 rfl ?_
          refine wp_aload_n 0 dX1_addTo_154 rfl ?_
          obtain ⟨ht43, h⟩ := h
          refine wp_getC (ci := 1) (j := 11) dX1_addTo_155 fi_X1_38r rfl rfl ht43 ?_
          change WP _ _ _ _ _ _ (rv (hC H40 211 a0) :: _) _ _
          obtain ⟨a45, ha45, h⟩ := h
          obtain ⟨ht46, h⟩ := h
          refine wp_callV (ci := 10) (As := [rv (hC H40 211 a0)]) (rest := []) (mc := 0) (ms := 0) dX1_addTo_158 lk_X1_126 rfl rfl (by decide) ha45 rfl rfl ht46 rfl rfl rfl w_3_135 (Call.weaken h ?_)
          rintro H44 _ ⟨r47, rfl, h⟩
          change WP _ _ _ _ _ _ [.int r47] H44 _
          exact wp_ireturn (ty := .int) dX1_addTo_161 rfl rfl ⟨_, rfl, h⟩
        · replace h := h.2 c
          refine wp_aload_n 0 dX1_addTo_139 rfl ?_
          refine wp_getC (ci := 1) (j := 1) dX1_addTo_140 fi_X1_15r rfl rfl ht15 ?_
          change WP _ _ _ _ _ _ (rv (hC H12 201 a0) :: _) _ _
          refine wp_iconst (v := (1 : Int32)) dX1_addTo_143 (by decide) ?_
          obtain ⟨hg48, h⟩ := h
          refine wp_iaload dX1_addTo_144 ha37 hr38 hg48 ?_
          refine wp_i2l dX1_addTo_145 ?_
          refine wp_goto (tgt := 150) dX1_addTo_146 rfl ?_
          obtain ⟨a50, ha50, h⟩ := h
          obtain ⟨ht51, h⟩ := h
          refine wp_callV (ci := 3) (As := [.long (((hI H12 203 a0 0).toInt64) * ((hI H12 (tg H12 a37) a37 (0 : Int32).toNatClampNeg).toInt64)), .long ((hI H12 (tg H12 a37) a37 (1 : Int32).toNatClampNeg).toInt64)]) (rest := []) (mc := 0) (ms := 0) dX1_addTo_150 lk_X1_120 rfl rfl (by decide) ha50 rfl rfl ht51 rfl rfl rfl w_3_108 (Call.weaken h ?_)
          rintro H49 _ ⟨rfl, h⟩
          change WP _ _ _ _ _ _ [] H49 _
          refine wp_aload_n 1 dX1_addTo_153 rfl ?_
          refine wp_aload_n 0 dX1_addTo_154 rfl ?_
          obtain ⟨ht52, h⟩ := h
          refine wp_getC (ci := 1) (j := 11) dX1_addTo_155 fi_X1_38r rfl rfl ht52 ?_
          change WP _ _ _ _ _ _ (rv (hC H49 211 a0) :: _) _ _
          obtain ⟨a54, ha54, h⟩ := h
          obtain ⟨ht55, h⟩ := h
          refine wp_callV (ci := 10) (As := [rv (hC H49 211 a0)]) (rest := []) (mc := 0) (ms := 0) dX1_addTo_158 lk_X1_126 rfl rfl (by decide) ha54 rfl rfl ht55 rfl rfl rfl w_3_135 (Call.weaken h ?_)
          rintro H53 _ ⟨r56, rfl, h⟩
          change WP _ _ _ _ _ _ [.int r56] H53 _
          exact wp_ireturn (ty := .int) dX1_addTo_161 rfl rfl ⟨_, rfl, h⟩
    · replace h := h.2 (bI_0.mp c)
      refine wp_bipush (v := (-15 : Int32)) dX1_addTo_86 (by decide) ?_
      exact wp_ireturn (ty := .int) dX1_addTo_88 rfl rfl ⟨_, rfl, h⟩
  · replace h := h.2 (bI_1.mp c)
    refine wp_bipush (v := (-12 : Int32)) dX1_addTo_76 (by decide) ?_
    exact wp_ireturn (ty := .int) dX1_addTo_78 rfl rfl ⟨_, rfl, h⟩
def wb_X1_addTo_0 (d : Nat) (q : HP → Int32 → Prop) (a0 : Nat) (o1 : Option Nat) (o2 : Option Nat) (H : HP) : Prop :=
  tg H a0 = 2 ∧ (CI d 0 0 mX1_partsRefusal [rv (some a0), rv o1, rv o2] H (fun H1 r3 => (r3 = 0 → tg H1 a0 = 2 ∧ (∃ a6, o1 = some a6 ∧ (tg H1 a6 = 11 ∧ (CI d 0 0 mX10_numberOf [rv o1, rv o2, .int (0 : Int32), .int (hI H1 204 a0 0)] H1 (fun H5 r8 => (r8 < 0 → tg H5 a0 = 2 ∧ (((hI H5 202 a0 0) = 0 → wb_X1_addTo_57 d q a0 o1 o2 H5) ∧ (¬ ((hI H5 202 a0 0) = 0) → (¬ (hI H5 205 a0 0) = (1 : Int32) → q H5 (-2 : Int32)) ∧ ((hI H5 205 a0 0) = (1 : Int32) → ∃ a10, (hC H5 208 a0) = some a10 ∧ (isA H5 a10 0 ∧ (vp_in (0 : Int32) (ln H5 a10) ∧ (((hI H5 (tg H5 a10) a10 (0 : Int32).toNatClampNeg) = (1 : Int32) → wb_X1_addTo_57 d q a0 o1 o2 H5) ∧ (¬ ((hI H5 (tg H5 a10) a10 (0 : Int32).toNatClampNeg) = (1 : Int32)) → q H5 (-2 : Int32))))))))) ∧ (¬ (r8 < 0) → q H5 (-11 : Int32))))))) ∧ (¬ (r3 = 0) → q H1 r3)))
set_option maxRecDepth 40000 in
set_option maxHeartbeats 4000000 in
theorem T_X1_addTo_0 {d : Nat} {q : HP → Int32 → Prop} {a0 : Nat} {o1 : Option Nat} {o2 : Option Nat} {H : HP} (h : wb_X1_addTo_0 d q a0 o1 o2 H) : WP (d + 1) mX1_addTo 0 0 0 [(0, rv (some a0)), (1, rv o1), (2, rv o2)] [] H (qI q) := by
  unfold wb_X1_addTo_0 at h
  refine wp_aload_n 0 dX1_addTo_0 rfl ?_
  refine wp_aload_n 1 dX1_addTo_1 rfl ?_
  refine wp_aload_n 2 dX1_addTo_2 rfl ?_
  obtain ⟨ht2, h⟩ := h
  refine wp_callV (ci := 1) (As := [rv o1, rv o2]) (rest := []) (mc := 0) (ms := 0) dX1_addTo_3 lk_X1_91 rfl rfl (by decide) rfl rfl rfl ht2 rfl rfl rfl w_3_70 (Call.weaken h ?_)
  rintro H1 _ ⟨r3, rfl, h⟩
  change WP _ _ _ _ _ _ [.int r3] H1 _
  refine wp_istore_n (ls' := [(3, .int r3), (0, rv (some a0)), (1, rv o1), (2, rv o2)]) dX1_addTo_6 (by decide) (by change st1 _ 3 _ = _; simp [st1, rv_cat, vc_int, vc_long, vc_float, vc_double]) ?_
  refine wp_iload_n 0 dX1_addTo_7 rfl ?_
  refine wp_if_eq (tgt := 13) dX1_addTo_8 rfl (fun c => ?_) (fun c => ?_)
  · replace h := h.1 c
    refine wp_aload_n 2 dX1_addTo_13 rfl ?_
    refine wp_aload_n 3 dX1_addTo_14 rfl ?_
    refine wp_iconst (v := (0 : Int32)) dX1_addTo_15 (by decide) ?_
    refine wp_aload_n 1 dX1_addTo_16 rfl ?_
    obtain ⟨ht4, h⟩ := h
    refine wp_getI (ci := 1) (j := 4) dX1_addTo_17 fi_X1_56r rfl rfl ht4 ?_
    change WP _ _ _ _ _ _ (.int (hI H1 204 a0 0) :: _) _ _
    obtain ⟨a6, ha6, h⟩ := h
    obtain ⟨ht7, h⟩ := h
    refine wp_callV (ci := 10) (As := [rv o2, .int (0 : Int32), .int (hI H1 204 a0 0)]) (rest := []) (mc := 0) (ms := 0) dX1_addTo_20 lk_X1_95 rfl rfl (by decide) ha6 rfl rfl ht7 rfl rfl rfl w_3_74 (Call.weaken h ?_)
    rintro H5 _ ⟨r8, rfl, h⟩
    change WP _ _ _ _ _ _ [.int r8] H5 _
    refine wp_if_lt (tgt := 29) dX1_addTo_23 rfl (fun c => ?_) (fun c => ?_)
    · replace h := h.1 c
      refine wp_aload_n 1 dX1_addTo_29 rfl ?_
      obtain ⟨ht9, h⟩ := h
      refine wp_getI (ci := 1) (j := 2) dX1_addTo_30 fi_X1_48r rfl rfl ht9 ?_
      change WP _ _ _ _ _ _ (.int (hI H5 202 a0 0) :: _) _ _
      refine wp_if_eq (tgt := 57) dX1_addTo_33 rfl (fun c => ?_) (fun c => ?_)
      · replace h := h.1 c
        refine wp_sub (ls' := [(0, rv (some a0)), (1, rv o1), (2, rv o2)]) [1, 2, 3] rfl ?_
        exact T_X1_addTo_57 h
      · replace h := h.2 c
        refine wp_aload_n 1 dX1_addTo_36 rfl ?_
        refine wp_getI (ci := 1) (j := 5) dX1_addTo_37 fi_X1_88r rfl rfl ht9 ?_
        change WP _ _ _ _ _ _ (.int (hI H5 205 a0 0) :: _) _ _
        refine wp_iconst (v := (1 : Int32)) dX1_addTo_40 (by decide) ?_
        refine wp_icmp_ne (tgt := 54) dX1_addTo_41 rfl (fun c => ?_) (fun c => ?_)
        · replace h := h.1 c
          refine wp_bipush (v := (-2 : Int32)) dX1_addTo_54 (by decide) ?_
          exact wp_ireturn (ty := .int) dX1_addTo_56 rfl rfl ⟨_, rfl, h⟩
        · replace h := h.2 c
          refine wp_aload_n 1 dX1_addTo_44 rfl ?_
          refine wp_getC (ci := 1) (j := 8) dX1_addTo_45 fi_X1_24r rfl rfl ht9 ?_
          change WP _ _ _ _ _ _ (rv (hC H5 208 a0) :: _) _ _
          refine wp_iconst (v := (0 : Int32)) dX1_addTo_48 (by decide) ?_
          obtain ⟨a10, ha10, h⟩ := h
          obtain ⟨hr11, h⟩ := h
          obtain ⟨hg12, h⟩ := h
          refine wp_iaload dX1_addTo_49 ha10 hr11 hg12 ?_
          refine wp_iconst (v := (1 : Int32)) dX1_addTo_50 (by decide) ?_
          refine wp_icmp_eq (tgt := 57) dX1_addTo_51 rfl (fun c => ?_) (fun c => ?_)
          · replace h := h.1 c
            refine wp_sub (ls' := [(0, rv (some a0)), (1, rv o1), (2, rv o2)]) [1, 2, 3] rfl ?_
            exact T_X1_addTo_57 h
          · replace h := h.2 c
            refine wp_bipush (v := (-2 : Int32)) dX1_addTo_54 (by decide) ?_
            exact wp_ireturn (ty := .int) dX1_addTo_56 rfl rfl ⟨_, rfl, h⟩
    · replace h := h.2 c
      refine wp_bipush (v := (-11 : Int32)) dX1_addTo_26 (by decide) ?_
      exact wp_ireturn (ty := .int) dX1_addTo_28 rfl rfl ⟨_, rfl, h⟩
  · replace h := h.2 c
    refine wp_iload_n 0 dX1_addTo_11 rfl ?_
    exact wp_ireturn (ty := .int) dX1_addTo_12 rfl rfl ⟨_, rfl, h⟩
theorem C_X1_addTo {d : Nat} {q : HP → Int32 → Prop} {a0 : Nat} {o1 : Option Nat} {o2 : Option Nat} {H : HP} (h : wb_X1_addTo_0 d q a0 o1 o2 H) : CI (d + 1) 0 0 mX1_addTo [rv (some a0), rv o1, rv o2] H q := by
  refine call_of (by decide +kernel) (by simp [lg_sl, rv_cat, vc_int, vc_long, vc_float, vc_double]) ?_
  have e : lv_args 0 [rv (some a0), rv o1, rv o2] = [(0, rv (some a0)), (1, rv o1), (2, rv o2)] := by simp [lv_args, rv_cat, vc_int, vc_long, vc_float, vc_double]
  rw [e]
  exact T_X1_addTo_0 h
def wb_X1_init_0 (d : Nat) (ca sa : Nat) (q : HP → Prop) (a0 : Nat) (H : HP) : Prop :=
  hN H < scrA ∧ (1 ≤ ca ∧ (2 ≤ sa ∧ (tg (nw H 4368 2) a0 = 2 ∧ (hN (sC (nw H 4368 2) 200 a0 (some (hN H))) < scrA ∧ (1 ≤ (ca - 1) ∧ (2 ≤ (sa - 2) ∧ (tg (nw (sC (nw H 4368 2) 200 a0 (some (hN H))) 4384 2) a0 = 2 ∧ (hN (sC (nw (sC (nw H 4368 2) 200 a0 (some (hN H))) 4384 2) 201 a0 (some (hN (sC (nw H 4368 2) 200 a0 (some (hN H)))))) < scrA ∧ (1 ≤ ((ca - 1) - 1) ∧ (30 ≤ ((sa - 2) - 2) ∧ (tg (nw (sC (nw (sC (nw H 4368 2) 200 a0 (some (hN H))) 4384 2) 201 a0 (some (hN (sC (nw H 4368 2) 200 a0 (some (hN H)))))) 4400 30) a0 = 2 ∧ (∀ H13, (sC (nw (sC (nw (sC (nw H 4368 2) 200 a0 (some (hN H))) 4384 2) 201 a0 (some (hN (sC (nw H 4368 2) 200 a0 (some (hN H)))))) 4400 30) 206 a0 (some (hN (sC (nw (sC (nw H 4368 2) 200 a0 (some (hN H))) 4384 2) 201 a0 (some (hN (sC (nw H 4368 2) 200 a0 (some (hN H))))))))) = H13 → (hN H13 < scrA ∧ (1 ≤ (((ca - 1) - 1) - 1) ∧ (30 ≤ (((sa - 2) - 2) - 30) ∧ (tg (nw H13 4416 30) a0 = 2 ∧ (hN (sC (nw H13 4416 30) 207 a0 (some (hN H13))) < scrA ∧ (1 ≤ ((((ca - 1) - 1) - 1) - 1) ∧ (30 ≤ ((((sa - 2) - 2) - 30) - 30) ∧ (tg (nw (sC (nw H13 4416 30) 207 a0 (some (hN H13))) 4432 30) a0 = 2 ∧ (hN (sC (nw (sC (nw H13 4416 30) 207 a0 (some (hN H13))) 4432 30) 208 a0 (some (hN (sC (nw H13 4416 30) 207 a0 (some (hN H13)))))) < scrA ∧ (1 ≤ (((((ca - 1) - 1) - 1) - 1) - 1) ∧ (30 ≤ (((((sa - 2) - 2) - 30) - 30) - 30) ∧ (tg (nw (sC (nw (sC (nw H13 4416 30) 207 a0 (some (hN H13))) 4432 30) 208 a0 (some (hN (sC (nw H13 4416 30) 207 a0 (some (hN H13)))))) 4450 30) a0 = 2 ∧ (∀ H28, (sC (nw (sC (nw (sC (nw H13 4416 30) 207 a0 (some (hN H13))) 4432 30) 208 a0 (some (hN (sC (nw H13 4416 30) 207 a0 (some (hN H13)))))) 4450 30) 209 a0 (some (hN (sC (nw (sC (nw H13 4416 30) 207 a0 (some (hN H13))) 4432 30) 208 a0 (some (hN (sC (nw H13 4416 30) 207 a0 (some (hN H13))))))))) = H28 → (hN H28 < scrA ∧ (1 ≤ ((((((ca - 1) - 1) - 1) - 1) - 1) - 1) ∧ (30 ≤ ((((((sa - 2) - 2) - 30) - 30) - 30) - 30) ∧ (tg (nw H28 4470 30) a0 = 2 ∧ (hN (sC (nw H28 4470 30) 210 a0 (some (hN H28))) < scrA ∧ (1 ≤ (((((((ca - 1) - 1) - 1) - 1) - 1) - 1) - 1) ∧ (5 ≤ (((((((sa - 2) - 2) - 30) - 30) - 30) - 30) - 30) ∧ (4 ≤ ((((((((ca - 1) - 1) - 1) - 1) - 1) - 1) - 1) - 1) ∧ (13 ≤ ((((((((sa - 2) - 2) - 30) - 30) - 30) - 30) - 30) - 5) ∧ (CV d 4 13 mX9_init [rv (some (hN (sC (nw H28 4470 30) 210 a0 (some (hN H28)))))] (nw (sC (nw H28 4470 30) 210 a0 (some (hN H28))) 10 0) (fun H40 => tg H40 a0 = 2 ∧ (q (sC H40 211 a0 (some (hN (sC (nw H28 4470 30) 210 a0 (some (hN H28)))))))))))))))))))))))))))))))))))))))))))
set_option maxRecDepth 40000 in
set_option maxHeartbeats 4000000 in
theorem T_X1_init_0 {d : Nat} {ca sa : Nat} {q : HP → Prop} {a0 : Nat} {H : HP} (h : wb_X1_init_0 d ca sa q a0 H) : WP (d + 1) mX1_init ca sa 0 [(0, rv (some a0))] [] H (qV q) := by
  unfold wb_X1_init_0 at h
  refine wp_aload_n 0 dX1_init_0 rfl ?_
  refine wp_objInit dX1_init_1 w_1_185 w_1_29 w_1_30 rfl (by decide) (by omega) ?_
  refine wp_aload_n 0 dX1_init_4 rfl ?_
  refine wp_iconst (v := (2 : Int32)) dX1_init_5 (by decide) ?_
  obtain ⟨hg1, h⟩ := h
  obtain ⟨hg2, h⟩ := h
  obtain ⟨hg3, h⟩ := h
  refine wp_newarray (t := 4368) (N := 2) (ca' := ca - 1) (sa' := sa - 2) dX1_init_6 w_1_88 (by decide) rfl (by decide) (by decide) (by decide +kernel) hg1 (by omega) (by omega) ?_
  obtain ⟨ht4, h⟩ := h
  refine wp_putC (ci := 1) (j := 0) dX1_init_8 fi_X1_9 rfl (fun _ => rfl) rfl ht4 (Or.inr ⟨_, rfl⟩) ?_
  change WP _ _ _ _ _ _ _ (sC (nw H 4368 2) 200 a0 (some (hN H))) _
  refine wp_aload_n 0 dX1_init_11 rfl ?_
  refine wp_iconst (v := (2 : Int32)) dX1_init_12 (by decide) ?_
  obtain ⟨hg5, h⟩ := h
  obtain ⟨hg6, h⟩ := h
  obtain ⟨hg7, h⟩ := h
  refine wp_newarray (t := 4384) (N := 2) (ca' := (ca - 1) - 1) (sa' := (sa - 2) - 2) dX1_init_13 w_1_88 (by decide) rfl (by decide) (by decide) (by decide +kernel) hg5 (by omega) (by omega) ?_
  obtain ⟨ht8, h⟩ := h
  refine wp_putC (ci := 1) (j := 1) dX1_init_15 fi_X1_15 rfl (fun _ => rfl) rfl ht8 (Or.inr ⟨_, rfl⟩) ?_
  change WP _ _ _ _ _ _ _ (sC (nw (sC (nw H 4368 2) 200 a0 (some (hN H))) 4384 2) 201 a0 (some (hN (sC (nw H 4368 2) 200 a0 (some (hN H)))))) _
  refine wp_aload_n 0 dX1_init_18 rfl ?_
  refine wp_bipush (v := (30 : Int32)) dX1_init_19 (by decide) ?_
  obtain ⟨hg9, h⟩ := h
  obtain ⟨hg10, h⟩ := h
  obtain ⟨hg11, h⟩ := h
  refine wp_newarray (t := 4400) (N := 30) (ca' := ((ca - 1) - 1) - 1) (sa' := ((sa - 2) - 2) - 30) dX1_init_21 w_1_88 (by decide) rfl (by decide) (by decide) (by decide +kernel) hg9 (by omega) (by omega) ?_
  obtain ⟨ht12, h⟩ := h
  refine wp_putC (ci := 1) (j := 6) dX1_init_23 fi_X1_18 rfl (fun _ => rfl) rfl ht12 (Or.inr ⟨_, rfl⟩) ?_
  change WP _ _ _ _ _ _ _ (sC (nw (sC (nw (sC (nw H 4368 2) 200 a0 (some (hN H))) 4384 2) 201 a0 (some (hN (sC (nw H 4368 2) 200 a0 (some (hN H)))))) 4400 30) 206 a0 (some (hN (sC (nw (sC (nw H 4368 2) 200 a0 (some (hN H))) 4384 2) 201 a0 (some (hN (sC (nw H 4368 2) 200 a0 (some (hN H))))))))) _
  replace h := h _ rfl
  generalize e14 : (sC (nw (sC (nw (sC (nw H 4368 2) 200 a0 (some (hN H))) 4384 2) 201 a0 (some (hN (sC (nw H 4368 2) 200 a0 (some (hN H)))))) 4400 30) 206 a0 (some (hN (sC (nw (sC (nw H 4368 2) 200 a0 (some (hN H))) 4384 2) 201 a0 (some (hN (sC (nw H 4368 2) 200 a0 (some (hN H))))))))) = H13 at h ⊢
  have ht15 : tg H13 a0 = 2 := by rw [← e14]; exact ht12
  refine wp_aload_n 0 dX1_init_26 rfl ?_
  refine wp_bipush (v := (30 : Int32)) dX1_init_27 (by decide) ?_
  obtain ⟨hg16, h⟩ := h
  obtain ⟨hg17, h⟩ := h
  obtain ⟨hg18, h⟩ := h
  refine wp_newarray (t := 4416) (N := 30) (ca' := (((ca - 1) - 1) - 1) - 1) (sa' := (((sa - 2) - 2) - 30) - 30) dX1_init_29 w_1_88 (by decide) rfl (by decide) (by decide) (by decide +kernel) hg16 (by omega) (by omega) ?_
  obtain ⟨ht19, h⟩ := h
  refine wp_putC (ci := 1) (j := 7) dX1_init_31 fi_X1_21 rfl (fun _ => rfl) rfl ht19 (Or.inr ⟨_, rfl⟩) ?_
  change WP _ _ _ _ _ _ _ (sC (nw H13 4416 30) 207 a0 (some (hN H13))) _
  refine wp_aload_n 0 dX1_init_34 rfl ?_
  refine wp_bipush (v := (30 : Int32)) dX1_init_35 (by decide) ?_
  obtain ⟨hg20, h⟩ := h
  obtain ⟨hg21, h⟩ := h
  obtain ⟨hg22, h⟩ := h
  refine wp_newarray (t := 4432) (N := 30) (ca' := ((((ca - 1) - 1) - 1) - 1) - 1) (sa' := ((((sa - 2) - 2) - 30) - 30) - 30) dX1_init_37 w_1_88 (by decide) rfl (by decide) (by decide) (by decide +kernel) hg20 (by omega) (by omega) ?_
  obtain ⟨ht23, h⟩ := h
  refine wp_putC (ci := 1) (j := 8) dX1_init_39 fi_X1_24 rfl (fun _ => rfl) rfl ht23 (Or.inr ⟨_, rfl⟩) ?_
  change WP _ _ _ _ _ _ _ (sC (nw (sC (nw H13 4416 30) 207 a0 (some (hN H13))) 4432 30) 208 a0 (some (hN (sC (nw H13 4416 30) 207 a0 (some (hN H13)))))) _
  refine wp_aload_n 0 dX1_init_42 rfl ?_
  refine wp_bipush (v := (30 : Int32)) dX1_init_43 (by decide) ?_
  obtain ⟨hg24, h⟩ := h
  obtain ⟨hg25, h⟩ := h
  obtain ⟨hg26, h⟩ := h
  refine wp_newarray (t := 4450) (N := 30) (ca' := (((((ca - 1) - 1) - 1) - 1) - 1) - 1) (sa' := (((((sa - 2) - 2) - 30) - 30) - 30) - 30) dX1_init_45 w_1_179 (by decide) rfl (by decide) (by decide) (by decide +kernel) hg24 (by omega) (by omega) ?_
  obtain ⟨ht27, h⟩ := h
  refine wp_putC (ci := 1) (j := 9) dX1_init_47 fi_X1_27 rfl (fun _ => rfl) rfl ht27 (Or.inr ⟨_, rfl⟩) ?_
  change WP _ _ _ _ _ _ _ (sC (nw (sC (nw (sC (nw H13 4416 30) 207 a0 (some (hN H13))) 4432 30) 208 a0 (some (hN (sC (nw H13 4416 30) 207 a0 (some (hN H13)))))) 4450 30) 209 a0 (some (hN (sC (nw (sC (nw H13 4416 30) 207 a0 (some (hN H13))) 4432 30) 208 a0 (some (hN (sC (nw H13 4416 30) 207 a0 (some (hN H13))))))))) _
  replace h := h _ rfl
  generalize e29 : (sC (nw (sC (nw (sC (nw H13 4416 30) 207 a0 (some (hN H13))) 4432 30) 208 a0 (some (hN (sC (nw H13 4416 30) 207 a0 (some (hN H13)))))) 4450 30) 209 a0 (some (hN (sC (nw (sC (nw H13 4416 30) 207 a0 (some (hN H13))) 4432 30) 208 a0 (some (hN (sC (nw H13 4416 30) 207 a0 (some (hN H13))))))))) = H28 at h ⊢
  have ht30 : tg H28 a0 = 2 := by rw [← e29]; exact ht27
  refine wp_aload_n 0 dX1_init_50 rfl ?_
  refine wp_bipush (v := (30 : Int32)) dX1_init_51 (by decide) ?_
  obtain ⟨hg31, h⟩ := h
  obtain ⟨hg32, h⟩ := h
  obtain ⟨hg33, h⟩ := h
  refine wp_anewarray (t := 4470) (N := 30) (ca' := ((((((ca - 1) - 1) - 1) - 1) - 1) - 1) - 1) (sa' := ((((((sa - 2) - 2) - 30) - 30) - 30) - 30) - 30) dX1_init_53 w_1_186 (by decide) (by decide) rfl (by decide) (by decide) (by decide +kernel) hg31 (by omega) (by omega) ?_
  obtain ⟨ht34, h⟩ := h
  refine wp_putC (ci := 1) (j := 10) dX1_init_56 fi_X1_33 rfl (fun _ => rfl) rfl ht34 (Or.inr ⟨_, rfl⟩) ?_
  change WP _ _ _ _ _ _ _ (sC (nw H28 4470 30) 210 a0 (some (hN H28))) _
  refine wp_aload_n 0 dX1_init_59 rfl ?_
  obtain ⟨hg35, h⟩ := h
  obtain ⟨hg36, h⟩ := h
  obtain ⟨hg37, h⟩ := h
  refine wp_new (ca' := (((((((ca - 1) - 1) - 1) - 1) - 1) - 1) - 1) - 1) (sa' := (((((((sa - 2) - 2) - 30) - 30) - 30) - 30) - 30) - 5) dX1_init_60 (ci := 9) (N := 5) rfl w_1_186 w_1_62 w_1_4 inG9 tyX9_ok (by decide) hg35 (by omega) (by omega) ?_
  refine wp_dup dX1_init_63 (rv_cat _) ?_
  obtain ⟨hg38, h⟩ := h
  obtain ⟨hg39, h⟩ := h
  refine wp_callI (As := []) (rest := [rv (some (hN (sC (nw H28 4470 30) 210 a0 (some (hN H28))))), rv (some a0)]) (mc := 4) (ms := 13) (ca' := (((((((((ca - 1) - 1) - 1) - 1) - 1) - 1) - 1) - 1) - 4)) (sa' := (((((((((sa - 2) - 2) - 30) - 30) - 30) - 30) - 30) - 5) - 13)) dX1_init_64 lk_X1_37 rfl rfl (by simp [rv_cat, vc_int, vc_long, vc_float, vc_double]) rfl rfl (by omega) (by omega) (Call.weaken h ?_)
  rintro H40 _ ⟨rfl, h⟩
  change WP _ _ _ _ _ _ [rv (some (hN (sC (nw H28 4470 30) 210 a0 (some (hN H28))))), rv (some a0)] H40 _
  obtain ⟨ht41, h⟩ := h
  refine wp_putC (ci := 1) (j := 11) dX1_init_67 fi_X1_38 rfl (fun _ => rfl) rfl ht41 (Or.inl ⟨_, rfl⟩) ?_
  change WP _ _ _ _ _ _ _ (sC H40 211 a0 (some (hN (sC (nw H28 4470 30) 210 a0 (some (hN H28)))))) _
  exact wp_return dX1_init_70 rfl ⟨rfl, h⟩
theorem C_X1_init {d : Nat} {ca sa : Nat} {q : HP → Prop} {a0 : Nat} {H : HP} (h : wb_X1_init_0 d ca sa q a0 H) : CV (d + 1) ca sa mX1_init [rv (some a0)] H q := by
  refine call_of (by decide +kernel) (by simp [lg_sl, rv_cat, vc_int, vc_long, vc_float, vc_double]) ?_
  have e : lv_args 0 [rv (some a0)] = [(0, rv (some a0))] := by simp [lv_args, rv_cat, vc_int, vc_long, vc_float, vc_double]
  rw [e]
  exact T_X1_init_0 h
/-- UnitProver$Definition.makeDimension()V: the loop at 2 -/
def L_X1_makeDimension_2 (d : Nat) (q : HP → Prop) (a0 : Nat) (x1 : Int32) (H : HP) : Prop := WP (d + 1) mX1_makeDimension 0 0 2 [(0, rv (some a0)), (1, .int x1)] [] H (qV q)
/-- UnitProver$Definition.makeDimension()V: the loop at 11 -/
def L_X1_makeDimension_11 (d : Nat) (q : HP → Prop) (a0 : Nat) (x1 : Int32) (x2 : Int32) (x3 : Int32) (H : HP) : Prop := WP (d + 1) mX1_makeDimension 0 0 11 [(0, rv (some a0)), (1, .int x1), (2, .int x2), (3, .int x3)] [] H (qV q)
def wb_X1_makeDimension_0 (d : Nat) (q : HP → Prop) (a0 : Nat) (H : HP) : Prop :=
  L_X1_makeDimension_2 d q a0 (0 : Int32) H
set_option maxRecDepth 40000 in
set_option maxHeartbeats 4000000 in
theorem T_X1_makeDimension_0 {d : Nat} {q : HP → Prop} {a0 : Nat} {H : HP} (h : wb_X1_makeDimension_0 d q a0 H) : WP (d + 1) mX1_makeDimension 0 0 0 [(0, rv (some a0))] [] H (qV q) := by
  unfold wb_X1_makeDimension_0 at h
  refine wp_iconst (v := (0 : Int32)) dX1_makeDimension_0 (by decide) ?_
  refine wp_istore_n (ls' := [(1, .int (0 : Int32)), (0, rv (some a0))]) dX1_makeDimension_1 (by decide) rfl ?_
  refine wp_sub (ls' := [(0, rv (some a0)), (1, .int (0 : Int32))]) [1, 0] rfl ?_
  exact h
def wb_X1_makeDimension_2 (d : Nat) (q : HP → Prop) (a0 : Nat) (x1 : Int32) (H : HP) : Prop :=
  ((5 : Int32) ≤ x1 → q H) ∧ (¬ ((5 : Int32) ≤ x1) → L_X1_makeDimension_11 d q a0 x1 (0 : Int32) (0 : Int32) H)
set_option maxRecDepth 40000 in
set_option maxHeartbeats 4000000 in
theorem T_X1_makeDimension_2 {d : Nat} {q : HP → Prop} {a0 : Nat} {x1 : Int32} {H : HP} (h : wb_X1_makeDimension_2 d q a0 x1 H) : L_X1_makeDimension_2 d q a0 x1 H := by
  unfold wb_X1_makeDimension_2 at h
  unfold L_X1_makeDimension_2
  refine wp_iload_n 1 dX1_makeDimension_2 rfl ?_
  refine wp_iconst (v := (5 : Int32)) dX1_makeDimension_3 (by decide) ?_
  refine wp_icmp_ge (tgt := 87) dX1_makeDimension_4 rfl (fun c => ?_) (fun c => ?_)
  · replace h := h.1 c
    exact wp_return dX1_makeDimension_87 rfl ⟨rfl, h⟩
  · replace h := h.2 c
    refine wp_iconst (v := (0 : Int32)) dX1_makeDimension_7 (by decide) ?_
    refine wp_istore_n (ls' := [(2, .int (0 : Int32)), (0, rv (some a0)), (1, .int x1)]) dX1_makeDimension_8 (by decide) rfl ?_
    refine wp_iconst (v := (0 : Int32)) dX1_makeDimension_9 (by decide) ?_
    refine wp_istore_n (ls' := [(3, .int (0 : Int32)), (2, .int (0 : Int32)), (0, rv (some a0)), (1, .int x1)]) dX1_makeDimension_10 (by decide) rfl ?_
    refine wp_sub (ls' := [(0, rv (some a0)), (1, .int x1), (2, .int (0 : Int32)), (3, .int (0 : Int32))]) [2, 3, 1, 0] rfl ?_
    exact h
def wb_X1_makeDimension_11 (d : Nat) (q : HP → Prop) (a0 : Nat) (x1 : Int32) (x2 : Int32) (x3 : Int32) (H : HP) : Prop :=
  tg H a0 = 2 ∧ (((hI H 205 a0 0) ≤ x3 → ∃ a2, (hC H 211 a0) = some a2 ∧ (tg H a2 = 10 ∧ (∃ a4, (hC H 1002 a2) = some a4 ∧ (isA H a4 0 ∧ (vp_in x1 (ln H a4) ∧ (L_X1_makeDimension_2 d q a0 (x1 + 1) (sI H (tg H a4) a4 x1.toNatClampNeg x2))))))) ∧ (¬ ((hI H 205 a0 0) ≤ x3) → ((30 : Int32) ≤ x3 → ∃ a7, (hC H 211 a0) = some a7 ∧ (tg H a7 = 10 ∧ (∃ a9, (hC H 1002 a7) = some a9 ∧ (isA H a9 0 ∧ (vp_in x1 (ln H a9) ∧ (L_X1_makeDimension_2 d q a0 (x1 + 1) (sI H (tg H a9) a9 x1.toNatClampNeg x2))))))) ∧ (¬ ((30 : Int32) ≤ x3) → ∃ a12, (hC H 210 a0) = some a12 ∧ (isA H a12 6 ∧ (vp_in x3 (ln H a12) ∧ (∃ a15, (hR H (tg H a12) a12 x3.toNatClampNeg) = some a15 ∧ (tg H a15 = 10 ∧ (∃ a17, (hC H 1002 a15) = some a17 ∧ (isA H a17 0 ∧ (vp_in x1 (ln H a17) ∧ (∃ a20, (hC H 208 a0) = some a20 ∧ (isA H a20 0 ∧ (vp_in x3 (ln H a20) ∧ (∃ a23, (hC H 209 a0) = some a23 ∧ (isA H a23 2 ∧ (vp_in x3 (ln H a23) ∧ (((hI H (tg H a23) a23 x3.toNatClampNeg) = 0 → L_X1_makeDimension_11 d q a0 x1 (x2 + ((hI H (tg H a17) a17 x1.toNatClampNeg) * (hI H (tg H a20) a20 x3.toNatClampNeg))) (x3 + 1) H) ∧ (¬ ((hI H (tg H a23) a23 x3.toNatClampNeg) = 0) → L_X1_makeDimension_11 d q a0 x1 (x2 + (-((hI H (tg H a17) a17 x1.toNatClampNeg) * (hI H (tg H a20) a20 x3.toNatClampNeg)))) (x3 + 1) H))))))))))))))))))
set_option maxRecDepth 40000 in
set_option maxHeartbeats 4000000 in
theorem T_X1_makeDimension_11 {d : Nat} {q : HP → Prop} {a0 : Nat} {x1 : Int32} {x2 : Int32} {x3 : Int32} {H : HP} (h : wb_X1_makeDimension_11 d q a0 x1 x2 x3 H) : L_X1_makeDimension_11 d q a0 x1 x2 x3 H := by
  unfold wb_X1_makeDimension_11 at h
  unfold L_X1_makeDimension_11
  refine wp_iload_n 3 dX1_makeDimension_11 rfl ?_
  refine wp_aload_n 0 dX1_makeDimension_12 rfl ?_
  obtain ⟨ht1, h⟩ := h
  refine wp_getI (ci := 1) (j := 5) dX1_makeDimension_13 fi_X1_88r rfl rfl ht1 ?_
  change WP _ _ _ _ _ _ (.int (hI H 205 a0 0) :: _) _ _
  refine wp_icmp_ge (tgt := 71) dX1_makeDimension_16 rfl (fun c => ?_) (fun c => ?_)
  · replace h := h.1 c
    refine wp_aload_n 0 dX1_makeDimension_71 rfl ?_
    refine wp_getC (ci := 1) (j := 11) dX1_makeDimension_72 fi_X1_38r rfl rfl ht1 ?_
    change WP _ _ _ _ _ _ (rv (hC H 211 a0) :: _) _ _
    obtain ⟨a2, ha2, h⟩ := h
    obtain ⟨ht3, h⟩ := h
    refine wp_getC (ci := 9) (j := 2) dX1_makeDimension_75 fi_X1_104 rfl ha2 ht3 ?_
    change WP _ _ _ _ _ _ (rv (hC H 1002 a2) :: _) _ _
    refine wp_iload_n 1 dX1_makeDimension_78 rfl ?_
    refine wp_iload_n 2 dX1_makeDimension_79 rfl ?_
    obtain ⟨a4, ha4, h⟩ := h
    obtain ⟨hr5, h⟩ := h
    obtain ⟨hg6, h⟩ := h
    refine wp_iastore dX1_makeDimension_80 ha4 hr5 hg6 ?_
    change WP _ _ _ _ _ _ _ (sI H (tg H a4) a4 x1.toNatClampNeg x2) _
    refine wp_iinc (v := (x1 + 1)) (ls' := [(1, .int (x1 + 1)), (0, rv (some a0)), (2, .int x2), (3, .int x3)]) 1 dX1_makeDimension_81 rfl rfl (by decide) rfl ?_
    refine wp_goto (tgt := 2) dX1_makeDimension_84 rfl ?_
    refine wp_sub (ls' := [(0, rv (some a0)), (1, .int (x1 + 1))]) [1, 0] rfl ?_
    exact h
  · replace h := h.2 c
    refine wp_iload_n 3 dX1_makeDimension_19 rfl ?_
    refine wp_bipush (v := (30 : Int32)) dX1_makeDimension_20 (by decide) ?_
    refine wp_icmp_ge (tgt := 71) dX1_makeDimension_22 rfl (fun c => ?_) (fun c => ?_)
    · replace h := h.1 c
      refine wp_aload_n 0 dX1_makeDimension_71 rfl ?_
      refine wp_getC (ci := 1) (j := 11) dX1_makeDimension_72 fi_X1_38r rfl rfl ht1 ?_
      change WP _ _ _ _ _ _ (rv (hC H 211 a0) :: _) _ _
      obtain ⟨a7, ha7, h⟩ := h
      obtain ⟨ht8, h⟩ := h
      refine wp_getC (ci := 9) (j := 2) dX1_makeDimension_75 fi_X1_104 rfl ha7 ht8 ?_
      change WP _ _ _ _ _ _ (rv (hC H 1002 a7) :: _) _ _
      refine wp_iload_n 1 dX1_makeDimension_78 rfl ?_
      refine wp_iload_n 2 dX1_makeDimension_79 rfl ?_
      obtain ⟨a9, ha9, h⟩ := h
      obtain ⟨hr10, h⟩ := h
      obtain ⟨hg11, h⟩ := h
      refine wp_iastore dX1_makeDimension_80 ha9 hr10 hg11 ?_
      change WP _ _ _ _ _ _ _ (sI H (tg H a9) a9 x1.toNatClampNeg x2) _
      refine wp_iinc (v := (x1 + 1)) (ls' := [(1, .int (x1 + 1)), (0, rv (some a0)), (2, .int x2), (3, .int x3)]) 1 dX1_makeDimension_81 rfl rfl (by decide) rfl ?_
      refine wp_goto (tgt := 2) dX1_makeDimension_84 rfl ?_
      refine wp_sub (ls' := [(0, rv (some a0)), (1, .int (x1 + 1))]) [1, 0] rfl ?_
      exact h
    · replace h := h.2 c
      refine wp_aload_n 0 dX1_makeDimension_25 rfl ?_
      refine wp_getC (ci := 1) (j := 10) dX1_makeDimension_26 fi_X1_33r rfl rfl ht1 ?_
      change WP _ _ _ _ _ _ (rv (hC H 210 a0) :: _) _ _
      refine wp_iload_n 3 dX1_makeDimension_29 rfl ?_
      obtain ⟨a12, ha12, h⟩ := h
      obtain ⟨hr13, h⟩ := h
      obtain ⟨hg14, h⟩ := h
      refine wp_aaload (e := 6) dX1_makeDimension_30 ha12 hr13 (by decide) hg14 ?_
      obtain ⟨a15, ha15, h⟩ := h
      obtain ⟨ht16, h⟩ := h
      refine wp_getC (ci := 9) (j := 2) dX1_makeDimension_31 fi_X1_104 rfl ha15 ht16 ?_
      change WP _ _ _ _ _ _ (rv (hC H 1002 a15) :: _) _ _
      refine wp_iload_n 1 dX1_makeDimension_34 rfl ?_
      obtain ⟨a17, ha17, h⟩ := h
      obtain ⟨hr18, h⟩ := h
      obtain ⟨hg19, h⟩ := h
      refine wp_iaload dX1_makeDimension_35 ha17 hr18 hg19 ?_
      refine wp_aload_n 0 dX1_makeDimension_36 rfl ?_
      refine wp_getC (ci := 1) (j := 8) dX1_makeDimension_37 fi_X1_24r rfl rfl ht1 ?_
      change WP _ _ _ _ _ _ (rv (hC H 208 a0) :: _) _ _
      refine wp_iload_n 3 dX1_makeDimension_40 rfl ?_
      obtain ⟨a20, ha20, h⟩ := h
      obtain ⟨hr21, h⟩ := h
      obtain ⟨hg22, h⟩ := h
      refine wp_iaload dX1_makeDimension_41 ha20 hr21 hg22 ?_
      refine wp_imul dX1_makeDimension_42 ?_
      refine wp_istore (ls' := [(4, .int ((hI H (tg H a17) a17 x1.toNatClampNeg) * (hI H (tg H a20) a20 x3.toNatClampNeg))), (0, rv (some a0)), (1, .int x1), (2, .int x2), (3, .int x3)]) dX1_makeDimension_43 (by decide) rfl ?_
      refine wp_iload_n 3 dX1_makeDimension_45 rfl ?_
      refine wp_aload_n 1 dX1_makeDimension_46 rfl ?_
      refine wp_getC (ci := 1) (j := 9) dX1_makeDimension_47 fi_X1_27r rfl rfl ht1 ?_
      change WP _ _ _ _ _ _ (rv (hC H 209 a0) :: _) _ _
      refine wp_iload_n 4 dX1_makeDimension_50 rfl ?_
      obtain ⟨a23, ha23, h⟩ := h
      obtain ⟨hr24, h⟩ := h
      obtain ⟨hg25, h⟩ := h
      refine wp_zaload dX1_makeDimension_51 ha23 hr24 hg25 ?_
      refine wp_if_eq (tgt := 61) dX1_makeDimension_52 rfl (fun c => ?_) (fun c => ?_)
      · replace h := h.1 c
        refine wp_iload 0 dX1_makeDimension_61 rfl ?_
        refine wp_iadd dX1_makeDimension_63 ?_
        refine wp_istore_n (ls' := [(2, .int (x2 + ((hI H (tg H a17) a17 x1.toNatClampNeg) * (hI H (tg H a20) a20 x3.toNatClampNeg)))), (4, .int ((hI H (tg H a17) a17 x1.toNatClampNeg) * (hI H (tg H a20) a20 x3.toNatClampNeg))), (0, rv (some a0)), (1, .int x1), (3, .int x3)]) dX1_makeDimension_64 (by decide) rfl ?_
        refine wp_iinc (v := (x3 + 1)) (ls' := [(3, .int (x3 + 1)), (2, .int (x2 + ((hI H (tg H a17) a17 x1.toNatClampNeg) * (hI H (tg H a20) a20 x3.toNatClampNeg)))), (4, .int ((hI H (tg H a17) a17 x1.toNatClampNeg) * (hI H (tg H a20) a20 x3.toNatClampNeg))), (0, rv (some a0)), (1, .int x1)]) 4 dX1_makeDimension_65 rfl rfl (by decide) rfl ?_
        refine wp_goto (tgt := 11) dX1_makeDimension_68 rfl ?_
        refine wp_sub (ls' := [(0, rv (some a0)), (1, .int x1), (2, .int (x2 + ((hI H (tg H a17) a17 x1.toNatClampNeg) * (hI H (tg H a20) a20 x3.toNatClampNeg)))), (3, .int (x3 + 1))]) [3, 4, 1, 0] rfl ?_
        exact h
      · replace h := h.2 c
        refine wp_iload 0 dX1_makeDimension_55 rfl ?_
        refine wp_ineg dX1_makeDimension_57 ?_
        refine wp_goto (tgt := 63) dX1_makeDimension_58 rfl ?_
        refine wp_iadd dX1_makeDimension_63 ?_
        refine wp_istore_n (ls' := [(2, .int (x2 + (-((hI H (tg H a17) a17 x1.toNatClampNeg) * (hI H (tg H a20) a20 x3.toNatClampNeg))))), (4, .int ((hI H (tg H a17) a17 x1.toNatClampNeg) * (hI H (tg H a20) a20 x3.toNatClampNeg))), (0, rv (some a0)), (1, .int x1), (3, .int x3)]) dX1_makeDimension_64 (by decide) rfl ?_
        refine wp_iinc (v := (x3 + 1)) (ls' := [(3, .int (x3 + 1)), (2, .int (x2 + (-((hI H (tg H a17) a17 x1.toNatClampNeg) * (hI H (tg H a20) a20 x3.toNatClampNeg))))), (4, .int ((hI H (tg H a17) a17 x1.toNatClampNeg) * (hI H (tg H a20) a20 x3.toNatClampNeg))), (0, rv (some a0)), (1, .int x1)]) 4 dX1_makeDimension_65 rfl rfl (by decide) rfl ?_
        refine wp_goto (tgt := 11) dX1_makeDimension_68 rfl ?_
        refine wp_sub (ls' := [(0, rv (some a0)), (1, .int x1), (2, .int (x2 + (-((hI H (tg H a17) a17 x1.toNatClampNeg) * (hI H (tg H a20) a20 x3.toNatClampNeg))))), (3, .int (x3 + 1))]) [3, 4, 1, 0] rfl ?_
        exact h
theorem C_X1_makeDimension {d : Nat} {q : HP → Prop} {a0 : Nat} {H : HP} (h : wb_X1_makeDimension_0 d q a0 H) : CV (d + 1) 0 0 mX1_makeDimension [rv (some a0)] H q := by
  refine call_of (by decide +kernel) (by simp [lg_sl, rv_cat, vc_int, vc_long, vc_float, vc_double]) ?_
  have e : lv_args 0 [rv (some a0)] = [(0, rv (some a0))] := by simp [lv_args, rv_cat, vc_int, vc_long, vc_float, vc_double]
  rw [e]
  exact T_X1_makeDimension_0 h
/-- UnitProver$Definition.makeFactor()Z: the loop at 26 -/
def L_X1_makeFactor_26 (d : Nat) (q : HP → Bool → Prop) (a0 : Nat) (x1 : Int32) (H : HP) : Prop := WP (d + 1) mX1_makeFactor 0 0 26 [(0, rv (some a0)), (1, .int x1)] [] H (qZ q)
/-- UnitProver$Definition.makeFactor()Z: the loop at 52 -/
def L_X1_makeFactor_52 (d : Nat) (q : HP → Bool → Prop) (a0 : Nat) (x1 : Int32) (o2 : Option Nat) (x3 : Int32) (H : HP) : Prop := WP (d + 1) mX1_makeFactor 0 0 52 [(0, rv (some a0)), (1, .int x1), (2, rv o2), (3, .int x3)] [] H (qZ q)
def wb_X1_makeFactor_0 (d : Nat) (q : HP → Bool → Prop) (a0 : Nat) (H : HP) : Prop :=
  tg H a0 = 2 ∧ (∃ a2, (hC H 211 a0) = some a2 ∧ (tg H a2 = 10 ∧ (∃ a4, (hC H 200 a0) = some a4 ∧ (isA H a4 0 ∧ (vp_in (0 : Int32) (ln H a4) ∧ (vp_in (1 : Int32) (ln H a4) ∧ (∃ a9, (hC H 1003 a2) = some a9 ∧ (tg H a9 = 4 ∧ (CV d 0 0 mX3_set [rv (hC H 1003 a2), .long ((hI H (tg H a4) a4 (0 : Int32).toNatClampNeg).toInt64), .long ((hI H (tg H a4) a4 (1 : Int32).toNatClampNeg).toInt64)] H (fun H8 => L_X1_makeFactor_26 d q a0 (0 : Int32) H8))))))))))
set_option maxRecDepth 40000 in
set_option maxHeartbeats 4000000 in
theorem T_X1_makeFactor_0 {d : Nat} {q : HP → Bool → Prop} {a0 : Nat} {H : HP} (h : wb_X1_makeFactor_0 d q a0 H) : WP (d + 1) mX1_makeFactor 0 0 0 [(0, rv (some a0))] [] H (qZ q) := by
  unfold wb_X1_makeFactor_0 at h
  refine wp_aload_n 0 dX1_makeFactor_0 rfl ?_
  obtain ⟨ht1, h⟩ := h
  refine wp_getC (ci := 1) (j := 11) dX1_makeFactor_1 fi_X1_38r rfl rfl ht1 ?_
  change WP _ _ _ _ _ _ (rv (hC H 211 a0) :: _) _ _
  obtain ⟨a2, ha2, h⟩ := h
  obtain ⟨ht3, h⟩ := h
  refine wp_getC (ci := 9) (j := 3) dX1_makeFactor_4 fi_X1_135 rfl ha2 ht3 ?_
  change WP _ _ _ _ _ _ (rv (hC H 1003 a2) :: _) _ _
  refine wp_aload_n 0 dX1_makeFactor_7 rfl ?_
  refine wp_getC (ci := 1) (j := 0) dX1_makeFactor_8 fi_X1_9r rfl rfl ht1 ?_
  change WP _ _ _ _ _ _ (rv (hC H 200 a0) :: _) _ _
  refine wp_iconst (v := (0 : Int32)) dX1_makeFactor_11 (by decide) ?_
  obtain ⟨a4, ha4, h⟩ := h
  obtain ⟨hr5, h⟩ := h
  obtain ⟨hg6, h⟩ := h
  refine wp_iaload dX1_makeFactor_12 ha4 hr5 hg6 ?_
  refine wp_i2l dX1_makeFactor_13 ?_
  refine wp_aload_n 0 dX1_makeFactor_14 rfl ?_
  refine wp_getC (ci := 1) (j := 0) dX1_makeFactor_15 fi_X1_9r rfl rfl ht1 ?_
  change WP _ _ _ _ _ _ (rv (hC H 200 a0) :: _) _ _
  refine wp_iconst (v := (1 : Int32)) dX1_makeFactor_18 (by decide) ?_
  obtain ⟨hg7, h⟩ := h
  refine wp_iaload dX1_makeFactor_19 ha4 hr5 hg7 ?_
  refine wp_i2l dX1_makeFactor_20 ?_
  obtain ⟨a9, ha9, h⟩ := h
  obtain ⟨ht10, h⟩ := h
  refine wp_callV (ci := 3) (As := [.long ((hI H (tg H a4) a4 (0 : Int32).toNatClampNeg).toInt64), .long ((hI H (tg H a4) a4 (1 : Int32).toNatClampNeg).toInt64)]) (rest := []) (mc := 0) (ms := 0) dX1_makeFactor_21 lk_X1_120 rfl rfl (by decide) ha9 rfl rfl ht10 rfl rfl rfl w_3_108 (Call.weaken h ?_)
  rintro H8 _ ⟨rfl, h⟩
  change WP _ _ _ _ _ _ [] H8 _
  refine wp_iconst (v := (0 : Int32)) dX1_makeFactor_24 (by decide) ?_
  refine wp_istore_n (ls' := [(1, .int (0 : Int32)), (0, rv (some a0))]) dX1_makeFactor_25 (by decide) rfl ?_
  refine wp_sub (ls' := [(0, rv (some a0)), (1, .int (0 : Int32))]) [1, 0] rfl ?_
  exact h
def wb_X1_makeFactor_26 (d : Nat) (q : HP → Bool → Prop) (a0 : Nat) (x1 : Int32) (H : HP) : Prop :=
  tg H a0 = 2 ∧ (((hI H 205 a0 0) ≤ x1 → q H true) ∧ (¬ ((hI H 205 a0 0) ≤ x1) → ((30 : Int32) ≤ x1 → q H true) ∧ (¬ ((30 : Int32) ≤ x1) → ∃ a2, (hC H 210 a0) = some a2 ∧ (isA H a2 6 ∧ (vp_in x1 (ln H a2) ∧ (∃ a5, (hR H (tg H a2) a2 x1.toNatClampNeg) = some a5 ∧ (tg H a5 = 10 ∧ (L_X1_makeFactor_52 d q a0 x1 (hC H 1003 a5) (0 : Int32) H))))))))
set_option maxRecDepth 40000 in
set_option maxHeartbeats 4000000 in
theorem T_X1_makeFactor_26 {d : Nat} {q : HP → Bool → Prop} {a0 : Nat} {x1 : Int32} {H : HP} (h : wb_X1_makeFactor_26 d q a0 x1 H) : L_X1_makeFactor_26 d q a0 x1 H := by
  unfold wb_X1_makeFactor_26 at h
  unfold L_X1_makeFactor_26
  refine wp_iload_n 1 dX1_makeFactor_26 rfl ?_
  refine wp_aload_n 0 dX1_makeFactor_27 rfl ?_
  obtain ⟨ht1, h⟩ := h
  refine wp_getI (ci := 1) (j := 5) dX1_makeFactor_28 fi_X1_88r rfl rfl ht1 ?_
  change WP _ _ _ _ _ _ (.int (hI H 205 a0 0) :: _) _ _
  refine wp_icmp_ge (tgt := 116) dX1_makeFactor_31 rfl (fun c => ?_) (fun c => ?_)
  · replace h := h.1 c
    refine wp_iconst (v := (1 : Int32)) dX1_makeFactor_116 (by decide) ?_
    exact wp_ireturn (ty := .boolean) dX1_makeFactor_117 rfl rfl ⟨true, rfl, h⟩
  · replace h := h.2 c
    refine wp_iload_n 1 dX1_makeFactor_34 rfl ?_
    refine wp_bipush (v := (30 : Int32)) dX1_makeFactor_35 (by decide) ?_
    refine wp_icmp_ge (tgt := 116) dX1_makeFactor_37 rfl (fun c => ?_) (fun c => ?_)
    · replace h := h.1 c
      refine wp_iconst (v := (1 : Int32)) dX1_makeFactor_116 (by decide) ?_
      exact wp_ireturn (ty := .boolean) dX1_makeFactor_117 rfl rfl ⟨true, rfl, h⟩
    · replace h := h.2 c
      refine wp_aload_n 0 dX1_makeFactor_40 rfl ?_
      refine wp_getC (ci := 1) (j := 10) dX1_makeFactor_41 fi_X1_33r rfl rfl ht1 ?_
      change WP _ _ _ _ _ _ (rv (hC H 210 a0) :: _) _ _
      refine wp_iload_n 1 dX1_makeFactor_44 rfl ?_
      obtain ⟨a2, ha2, h⟩ := h
      obtain ⟨hr3, h⟩ := h
      obtain ⟨hg4, h⟩ := h
      refine wp_aaload (e := 6) dX1_makeFactor_45 ha2 hr3 (by decide) hg4 ?_
      obtain ⟨a5, ha5, h⟩ := h
      obtain ⟨ht6, h⟩ := h
      refine wp_getC (ci := 9) (j := 3) dX1_makeFactor_46 fi_X1_135 rfl ha5 ht6 ?_
      change WP _ _ _ _ _ _ (rv (hC H 1003 a5) :: _) _ _
      refine wp_astore_n (ls' := [(2, rv (hC H 1003 a5)), (0, rv (some a0)), (1, .int x1)]) dX1_makeFactor_49 (by decide) rfl ?_
      refine wp_iconst (v := (0 : Int32)) dX1_makeFactor_50 (by decide) ?_
      refine wp_istore_n (ls' := [(3, .int (0 : Int32)), (2, rv (hC H 1003 a5)), (0, rv (some a0)), (1, .int x1)]) dX1_makeFactor_51 (by decide) (by change st1 _ 3 _ = _; simp [st1, rv_cat, vc_int, vc_long, vc_float, vc_double]) ?_
      refine wp_sub (ls' := [(0, rv (some a0)), (1, .int x1), (2, rv (hC H 1003 a5)), (3, .int (0 : Int32))]) [2, 3, 1, 0] rfl ?_
      exact h
def wb_X1_makeFactor_52 (d : Nat) (q : HP → Bool → Prop) (a0 : Nat) (x1 : Int32) (o2 : Option Nat) (x3 : Int32) (H : HP) : Prop :=
  tg H a0 = 2 ∧ (∃ a2, (hC H 208 a0) = some a2 ∧ (isA H a2 0 ∧ (vp_in x1 (ln H a2) ∧ (((hI H (tg H a2) a2 x1.toNatClampNeg) ≤ x3 → L_X1_makeFactor_26 d q a0 (x1 + 1) H) ∧ (¬ ((hI H (tg H a2) a2 x1.toNatClampNeg) ≤ x3) → ∃ a5, (hC H 209 a0) = some a5 ∧ (isA H a5 2 ∧ (vp_in x1 (ln H a5) ∧ (((hI H (tg H a5) a5 x1.toNatClampNeg) = 0 → ∃ a8, (hC H 211 a0) = some a8 ∧ (tg H a8 = 10 ∧ (∃ a11, (hC H 1003 a8) = some a11 ∧ (tg H a11 = 4 ∧ (CZ d 0 0 mX3_multiply [rv (hC H 1003 a8), rv o2] H (fun H10 b13 => (b13 = true → L_X1_makeFactor_52 d q a0 x1 o2 (x3 + 1) H10) ∧ (b13 = false → q H10 false))))))) ∧ (¬ ((hI H (tg H a5) a5 x1.toNatClampNeg) = 0) → ∃ a14, (hC H 211 a0) = some a14 ∧ (tg H a14 = 10 ∧ (∃ a17, (hC H 1003 a14) = some a17 ∧ (tg H a17 = 4 ∧ (CZ d 0 0 mX3_divide [rv (hC H 1003 a14), rv o2] H (fun H16 b19 => (b19 = false → q H16 false) ∧ (b19 = true → L_X1_makeFactor_52 d q a0 x1 o2 (x3 + 1) H16)))))))))))))))
set_option maxRecDepth 40000 in
set_option maxHeartbeats 4000000 in
theorem T_X1_makeFactor_52 {d : Nat} {q : HP → Bool → Prop} {a0 : Nat} {x1 : Int32} {o2 : Option Nat} {x3 : Int32} {H : HP} (h : wb_X1_makeFactor_52 d q a0 x1 o2 x3 H) : L_X1_makeFactor_52 d q a0 x1 o2 x3 H := by
  unfold wb_X1_makeFactor_52 at h
  unfold L_X1_makeFactor_52
  refine wp_iload_n 3 dX1_makeFactor_52 rfl ?_
  refine wp_aload_n 0 dX1_makeFactor_53 rfl ?_
  obtain ⟨ht1, h⟩ := h
  refine wp_getC (ci := 1) (j := 8) dX1_makeFactor_54 fi_X1_24r rfl rfl ht1 ?_
  change WP _ _ _ _ _ _ (rv (hC H 208 a0) :: _) _ _
  refine wp_iload_n 1 dX1_makeFactor_57 rfl ?_
  obtain ⟨a2, ha2, h⟩ := h
  obtain ⟨hr3, h⟩ := h
  obtain ⟨hg4, h⟩ := h
  refine wp_iaload dX1_makeFactor_58 ha2 hr3 hg4 ?_
  refine wp_icmp_ge (tgt := 110) dX1_makeFactor_59 rfl (fun c => ?_) (fun c => ?_)
  · replace h := h.1 c
    refine wp_iinc (v := (x1 + 1)) (ls' := [(1, .int (x1 + 1)), (0, rv (some a0)), (2, rv o2), (3, .int x3)]) 1 dX1_makeFactor_110 rfl rfl (by decide) rfl ?_
    refine wp_goto (tgt := 26) dX1_makeFactor_113 rfl ?_
    refine wp_sub (ls' := [(0, rv (some a0)), (1, .int (x1 + 1))]) [1, 0] rfl ?_
    exact h
  · replace h := h.2 c
    refine wp_aload_n 0 dX1_makeFactor_62 rfl ?_
    refine wp_getC (ci := 1) (j := 9) dX1_makeFactor_63 fi_X1_27r rfl rfl ht1 ?_
    change WP _ _ _ _ _ _ (rv (hC H 209 a0) :: _) _ _
    refine wp_iload_n 1 dX1_makeFactor_66 rfl ?_
    obtain ⟨a5, ha5, h⟩ := h
    obtain ⟨hr6, h⟩ := h
    obtain ⟨hg7, h⟩ := h
    refine wp_zaload dX1_makeFactor_67 ha5 hr6 hg7 ?_
    refine wp_if_eq (tgt := 88) dX1_makeFactor_68 rfl (fun c => ?_) (fun c => ?_)
    · replace h := h.1 c
      refine wp_aload_n 0 dX1_makeFactor_88 rfl ?_
      refine wp_getC (ci := 1) (j := 11) dX1_makeFactor_89 fi_X1_38r rfl rfl ht1 ?_
      change WP _ _ _ _ _ _ (rv (hC H 211 a0) :: _) _ _
      obtain ⟨a8, ha8, h⟩ := h
      obtain ⟨ht9, h⟩ := h
      refine wp_getC (ci := 9) (j := 3) dX1_makeFactor_92 fi_X1_135 rfl ha8 ht9 ?_
      change WP _ _ _ _ _ _ (rv (hC H 1003 a8) :: _) _ _
      refine wp_aload_n 2 dX1_makeFactor_95 rfl ?_
      obtain ⟨a11, ha11, h⟩ := h
      obtain ⟨ht12, h⟩ := h
      refine wp_callV (ci := 3) (As := [rv o2]) (rest := []) (mc := 0) (ms := 0) dX1_makeFactor_96 lk_X1_142 rfl rfl (by decide) ha11 rfl rfl ht12 rfl rfl rfl w_3_121 (Call.weaken h ?_)
      rintro H10 _ ⟨b13, rfl, h⟩
      change WP _ _ _ _ _ _ [.int (bI b13)] H10 _
      refine wp_if_ne (tgt := 104) dX1_makeFactor_99 rfl (fun c => ?_) (fun c => ?_)
      · replace h := h.1 (bI_1.mp c)
        refine wp_iinc (v := (x3 + 1)) (ls' := [(3, .int (x3 + 1)), (0, rv (some a0)), (1, .int x1), (2, rv o2)]) 3 dX1_makeFactor_104 rfl rfl (by decide) (by simp [st1, rv_cat, vc_int, vc_long, vc_float, vc_double]) ?_
        refine wp_goto (tgt := 52) dX1_makeFactor_107 rfl ?_
        refine wp_sub (ls' := [(0, rv (some a0)), (1, .int x1), (2, rv o2), (3, .int (x3 + 1))]) [1, 2, 3, 0] rfl ?_
        exact h
      · replace h := h.2 (bI_0.mp c)
        refine wp_iconst (v := (0 : Int32)) dX1_makeFactor_102 (by decide) ?_
        exact wp_ireturn (ty := .boolean) dX1_makeFactor_103 rfl rfl ⟨false, rfl, h⟩
    · replace h := h.2 c
      refine wp_aload_n 0 dX1_makeFactor_71 rfl ?_
      refine wp_getC (ci := 1) (j := 11) dX1_makeFactor_72 fi_X1_38r rfl rfl ht1 ?_
      change WP _ _ _ _ _ _ (rv (hC H 211 a0) :: _) _ _
      obtain ⟨a14, ha14, h⟩ := h
      obtain ⟨ht15, h⟩ := h
      refine wp_getC (ci := 9) (j := 3) dX1_makeFactor_75 fi_X1_135 rfl ha14 ht15 ?_
      change WP _ _ _ _ _ _ (rv (hC H 1003 a14) :: _) _ _
      refine wp_aload_n 2 dX1_makeFactor_78 rfl ?_
      obtain ⟨a17, ha17, h⟩ := h
      obtain ⟨ht18, h⟩ := h
      refine wp_callV (ci := 3) (As := [rv o2]) (rest := []) (mc := 0) (ms := 0) dX1_makeFactor_79 lk_X1_138 rfl rfl (by decide) ha17 rfl rfl ht18 rfl rfl rfl w_3_109 (Call.weaken h ?_)
      rintro H16 _ ⟨b19, rfl, h⟩
      change WP _ _ _ _ _ _ [.int (bI b19)] H16 _
      refine wp_if_eq (tgt := 102) dX1_makeFactor_82 rfl (fun c => ?_) (fun c => ?_)
      · replace h := h.1 (bI_0.mp c)
        refine wp_iconst (v := (0 : Int32)) dX1_makeFactor_102 (by decide) ?_
        exact wp_ireturn (ty := .boolean) dX1_makeFactor_103 rfl rfl ⟨false, rfl, h⟩
      · replace h := h.2 (bI_1.mp c)
        refine wp_goto (tgt := 104) dX1_makeFactor_85 rfl ?_
        refine wp_iinc (v := (x3 + 1)) (ls' := [(3, .int (x3 + 1)), (0, rv (some a0)), (1, .int x1), (2, rv o2)]) 3 dX1_makeFactor_104 rfl rfl (by decide) (by simp [st1, rv_cat, vc_int, vc_long, vc_float, vc_double]) ?_
        refine wp_goto (tgt := 52) dX1_makeFactor_107 rfl ?_
        refine wp_sub (ls' := [(0, rv (some a0)), (1, .int x1), (2, rv o2), (3, .int (x3 + 1))]) [1, 2, 3, 0] rfl ?_
        exact h
theorem C_X1_makeFactor {d : Nat} {q : HP → Bool → Prop} {a0 : Nat} {H : HP} (h : wb_X1_makeFactor_0 d q a0 H) : CZ (d + 1) 0 0 mX1_makeFactor [rv (some a0)] H q := by
  refine call_of (by decide +kernel) (by simp [lg_sl, rv_cat, vc_int, vc_long, vc_float, vc_double]) ?_
  have e : lv_args 0 [rv (some a0)] = [(0, rv (some a0))] := by simp [lv_args, rv_cat, vc_int, vc_long, vc_float, vc_double]
  rw [e]
  exact T_X1_makeFactor_0 h
/-- UnitProver$Definition.partsRefusal(LUnitProver$Units;LUnitProver$Tape;)I: the loop at 23 -/
def L_X1_partsRefusal_23 (d : Nat) (q : HP → Int32 → Prop) (a0 : Nat) (o1 : Option Nat) (o2 : Option Nat) (x3 : Int32) (H : HP) : Prop := WP (d + 1) mX1_partsRefusal 0 0 23 [(0, rv (some a0)), (1, rv o1), (2, rv o2), (3, .int x3)] [] H (qI q)
def wb_X1_partsRefusal_0 (d : Nat) (q : HP → Int32 → Prop) (a0 : Nat) (o1 : Option Nat) (o2 : Option Nat) (H : HP) : Prop :=
  tg H a0 = 2 ∧ (∃ a2, (hC H 200 a0) = some a2 ∧ (isA H a2 0 ∧ (vp_in (0 : Int32) (ln H a2) ∧ (((hI H (tg H a2) a2 (0 : Int32).toNatClampNeg) = 0 → q H (-9 : Int32)) ∧ (¬ ((hI H (tg H a2) a2 (0 : Int32).toNatClampNeg) = 0) → vp_in (1 : Int32) (ln H a2) ∧ ((¬ (hI H (tg H a2) a2 (1 : Int32).toNatClampNeg) = 0 → L_X1_partsRefusal_23 d q a0 o1 o2 (0 : Int32) H) ∧ ((hI H (tg H a2) a2 (1 : Int32).toNatClampNeg) = 0 → q H (-9 : Int32))))))))
set_option maxRecDepth 40000 in
set_option maxHeartbeats 4000000 in
theorem T_X1_partsRefusal_0 {d : Nat} {q : HP → Int32 → Prop} {a0 : Nat} {o1 : Option Nat} {o2 : Option Nat} {H : HP} (h : wb_X1_partsRefusal_0 d q a0 o1 o2 H) : WP (d + 1) mX1_partsRefusal 0 0 0 [(0, rv (some a0)), (1, rv o1), (2, rv o2)] [] H (qI q) := by
  unfold wb_X1_partsRefusal_0 at h
  refine wp_aload_n 0 dX1_partsRefusal_0 rfl ?_
  obtain ⟨ht1, h⟩ := h
  refine wp_getC (ci := 1) (j := 0) dX1_partsRefusal_1 fi_X1_9r rfl rfl ht1 ?_
  change WP _ _ _ _ _ _ (rv (hC H 200 a0) :: _) _ _
  refine wp_iconst (v := (0 : Int32)) dX1_partsRefusal_4 (by decide) ?_
  obtain ⟨a2, ha2, h⟩ := h
  obtain ⟨hr3, h⟩ := h
  obtain ⟨hg4, h⟩ := h
  refine wp_iaload dX1_partsRefusal_5 ha2 hr3 hg4 ?_
  refine wp_if_eq (tgt := 18) dX1_partsRefusal_6 rfl (fun c => ?_) (fun c => ?_)
  · replace h := h.1 c
    refine wp_bipush (v := (-9 : Int32)) dX1_partsRefusal_18 (by decide) ?_
    exact wp_ireturn (ty := .int) dX1_partsRefusal_20 rfl rfl ⟨_, rfl, h⟩
  · replace h := h.2 c
    refine wp_aload_n 0 dX1_partsRefusal_9 rfl ?_
    refine wp_getC (ci := 1) (j := 0) dX1_partsRefusal_10 fi_X1_9r rfl rfl ht1 ?_
    change WP _ _ _ _ _ _ (rv (hC H 200 a0) :: _) _ _
    refine wp_iconst (v := (1 : Int32)) dX1_partsRefusal_13 (by decide) ?_
    obtain ⟨hg5, h⟩ := h
    refine wp_iaload dX1_partsRefusal_14 ha2 hr3 hg5 ?_
    refine wp_if_ne (tgt := 21) dX1_partsRefusal_15 rfl (fun c => ?_) (fun c => ?_)
    · replace h := h.1 c
      refine wp_iconst (v := (0 : Int32)) dX1_partsRefusal_21 (by decide) ?_
      refine wp_istore_n (ls' := [(3, .int (0 : Int32)), (0, rv (some a0)), (1, rv o1), (2, rv o2)]) dX1_partsRefusal_22 (by decide) (by change st1 _ 3 _ = _; simp [st1, rv_cat, vc_int, vc_long, vc_float, vc_double]) ?_
      refine wp_sub (ls' := [(0, rv (some a0)), (1, rv o1), (2, rv o2), (3, .int (0 : Int32))]) [1, 2, 3, 0] rfl ?_
      exact h
    · replace h := h.2 c
      refine wp_bipush (v := (-9 : Int32)) dX1_partsRefusal_18 (by decide) ?_
      exact wp_ireturn (ty := .int) dX1_partsRefusal_20 rfl rfl ⟨_, rfl, h⟩
def wb_X1_partsRefusal_23 (d : Nat) (q : HP → Int32 → Prop) (a0 : Nat) (o1 : Option Nat) (o2 : Option Nat) (x3 : Int32) (H : HP) : Prop :=
  tg H a0 = 2 ∧ (((hI H 205 a0 0) ≤ x3 → ((hI H 202 a0 0) = 0 → q H (0 : Int32)) ∧ (¬ ((hI H 202 a0 0) = 0) → ∃ a2, (hC H 201 a0) = some a2 ∧ (isA H a2 0 ∧ (vp_in (1 : Int32) (ln H a2) ∧ ((¬ (hI H (tg H a2) a2 (1 : Int32).toNatClampNeg) = 0 → q H (0 : Int32)) ∧ ((hI H (tg H a2) a2 (1 : Int32).toNatClampNeg) = 0 → q H (-9 : Int32))))))) ∧ (¬ ((hI H 205 a0 0) ≤ x3) → ((30 : Int32) ≤ x3 → ((hI H 202 a0 0) = 0 → q H (0 : Int32)) ∧ (¬ ((hI H 202 a0 0) = 0) → ∃ a5, (hC H 201 a0) = some a5 ∧ (isA H a5 0 ∧ (vp_in (1 : Int32) (ln H a5) ∧ ((¬ (hI H (tg H a5) a5 (1 : Int32).toNatClampNeg) = 0 → q H (0 : Int32)) ∧ ((hI H (tg H a5) a5 (1 : Int32).toNatClampNeg) = 0 → q H (-9 : Int32))))))) ∧ (¬ ((30 : Int32) ≤ x3) → ∃ a8, (hC H 206 a0) = some a8 ∧ (isA H a8 0 ∧ (vp_in x3 (ln H a8) ∧ (∃ a11, (hC H 207 a0) = some a11 ∧ (isA H a11 0 ∧ (vp_in x3 (ln H a11) ∧ (∃ a15, o1 = some a15 ∧ (tg H a15 = 11 ∧ (CI d 0 0 mX10_numberOf [rv o1, rv o2, .int (hI H (tg H a8) a8 x3.toNatClampNeg), .int (hI H (tg H a11) a11 x3.toNatClampNeg)] H (fun H14 r17 => tg H14 a15 = 11 ∧ (CR d 0 0 mX10_at [rv o1, .int r17] H14 (fun H18 r20 => ∃ a21, (hC H 210 a0) = some a21 ∧ (isA H18 a21 6 ∧ (vp_in x3 (ln H18 a21) ∧ ((∀ x, r20 = some x → tg H18 x = 10) ∧ (tg (sR H18 (tg H18 a21) a21 x3.toNatClampNeg r20) a0 = 2 ∧ (∃ a26, (hC (sR H18 (tg H18 a21) a21 x3.toNatClampNeg r20) 210 a0) = some a26 ∧ (isA (sR H18 (tg H18 a21) a21 x3.toNatClampNeg r20) a26 6 ∧ (vp_in x3 (ln (sR H18 (tg H18 a21) a21 x3.toNatClampNeg r20) a26) ∧ (((hR (sR H18 (tg H18 a21) a21 x3.toNatClampNeg r20) (tg (sR H18 (tg H18 a21) a21 x3.toNatClampNeg r20) a26) a26 x3.toNatClampNeg) = none → q (sR H18 (tg H18 a21) a21 x3.toNatClampNeg r20) (-8 : Int32)) ∧ (∀ a29, (hR (sR H18 (tg H18 a21) a21 x3.toNatClampNeg r20) (tg (sR H18 (tg H18 a21) a21 x3.toNatClampNeg r20) a26) a26 x3.toNatClampNeg) = some a29 → vp_in x3 (ln (sR H18 (tg H18 a21) a21 x3.toNatClampNeg r20) a26) ∧ (tg (sR H18 (tg H18 a21) a21 x3.toNatClampNeg r20) a29 = 10 ∧ (CZ d 0 0 mX9_hasOffset [rv (hR (sR H18 (tg H18 a21) a21 x3.toNatClampNeg r20) (tg (sR H18 (tg H18 a21) a21 x3.toNatClampNeg r20) a26) a26 x3.toNatClampNeg)] (sR H18 (tg H18 a21) a21 x3.toNatClampNeg r20) (fun H31 b33 => (b33 = false → L_X1_partsRefusal_23 d q a0 o1 o2 (x3 + 1) H31) ∧ (b33 = true → q H31 (-10 : Int32))))))))))))))))))))))))))))
set_option maxRecDepth 40000 in
set_option maxHeartbeats 4000000 in
theorem T_X1_partsRefusal_23 {d : Nat} {q : HP → Int32 → Prop} {a0 : Nat} {o1 : Option Nat} {o2 : Option Nat} {x3 : Int32} {H : HP} (h : wb_X1_partsRefusal_23 d q a0 o1 o2 x3 H) : L_X1_partsRefusal_23 d q a0 o1 o2 x3 H := by
  unfold wb_X1_partsRefusal_23 at h
  unfold L_X1_partsRefusal_23
  refine wp_iload_n 3 dX1_partsRefusal_23 rfl ?_
  refine wp_aload_n 0 dX1_partsRefusal_24 rfl ?_
  obtain ⟨ht1, h⟩ := h
  refine wp_getI (ci := 1) (j := 5) dX1_partsRefusal_25 fi_X1_88r rfl rfl ht1 ?_
  change WP _ _ _ _ _ _ (.int (hI H 205 a0 0) :: _) _ _
  refine wp_icmp_ge (tgt := 97) dX1_partsRefusal_28 rfl (fun c => ?_) (fun c => ?_)
  · replace h := h.1 c
    refine wp_aload_n 0 dX1_partsRefusal_97 rfl ?_
    refine wp_getI (ci := 1) (j := 2) dX1_partsRefusal_98 fi_X1_48r rfl rfl ht1 ?_
    change WP _ _ _ _ _ _ (.int (hI H 202 a0 0) :: _) _ _
    refine wp_if_eq (tgt := 118) dX1_partsRefusal_101 rfl (fun c => ?_) (fun c => ?_)
    · replace h := h.1 c
      refine wp_iconst (v := (0 : Int32)) dX1_partsRefusal_118 (by decide) ?_
      exact wp_ireturn (ty := .int) dX1_partsRefusal_119 rfl rfl ⟨_, rfl, h⟩
    · replace h := h.2 c
      refine wp_aload_n 0 dX1_partsRefusal_104 rfl ?_
      refine wp_getC (ci := 1) (j := 1) dX1_partsRefusal_105 fi_X1_15r rfl rfl ht1 ?_
      change WP _ _ _ _ _ _ (rv (hC H 201 a0) :: _) _ _
      refine wp_iconst (v := (1 : Int32)) dX1_partsRefusal_108 (by decide) ?_
      obtain ⟨a2, ha2, h⟩ := h
      obtain ⟨hr3, h⟩ := h
      obtain ⟨hg4, h⟩ := h
      refine wp_iaload dX1_partsRefusal_109 ha2 hr3 hg4 ?_
      refine wp_if_ne (tgt := 118) dX1_partsRefusal_110 rfl (fun c => ?_) (fun c => ?_)
      · replace h := h.1 c
        refine wp_iconst (v := (0 : Int32)) dX1_partsRefusal_118 (by decide) ?_
        exact wp_ireturn (ty := .int) dX1_partsRefusal_119 rfl rfl ⟨_, rfl, h⟩
      · replace h := h.2 c
        refine wp_bipush (v := (-9 : Int32)) dX1_partsRefusal_113 (by decide) ?_
        refine wp_goto (tgt := 119) dX1_partsRefusal_115 rfl ?_
        exact wp_ireturn (ty := .int) dX1_partsRefusal_119 rfl rfl ⟨_, rfl, h⟩
  · replace h := h.2 c
    refine wp_iload_n 3 dX1_partsRefusal_31 rfl ?_
    refine wp_bipush (v := (30 : Int32)) dX1_partsRefusal_32 (by decide) ?_
    refine wp_icmp_ge (tgt := 97) dX1_partsRefusal_34 rfl (fun c => ?_) (fun c => ?_)
    · replace h := h.1 c
      refine wp_aload_n 0 dX1_partsRefusal_97 rfl ?_
      refine wp_getI (ci := 1) (j := 2) dX1_partsRefusal_98 fi_X1_48r rfl rfl ht1 ?_
      change WP _ _ _ _ _ _ (.int (hI H 202 a0 0) :: _) _ _
      refine wp_if_eq (tgt := 118) dX1_partsRefusal_101 rfl (fun c => ?_) (fun c => ?_)
      · replace h := h.1 c
        refine wp_iconst (v := (0 : Int32)) dX1_partsRefusal_118 (by decide) ?_
        exact wp_ireturn (ty := .int) dX1_partsRefusal_119 rfl rfl ⟨_, rfl, h⟩
      · replace h := h.2 c
        refine wp_aload_n 0 dX1_partsRefusal_104 rfl ?_
        refine wp_getC (ci := 1) (j := 1) dX1_partsRefusal_105 fi_X1_15r rfl rfl ht1 ?_
        change WP _ _ _ _ _ _ (rv (hC H 201 a0) :: _) _ _
        refine wp_iconst (v := (1 : Int32)) dX1_partsRefusal_108 (by decide) ?_
        obtain ⟨a5, ha5, h⟩ := h
        obtain ⟨hr6, h⟩ := h
        obtain ⟨hg7, h⟩ := h
        refine wp_iaload dX1_partsRefusal_109 ha5 hr6 hg7 ?_
        refine wp_if_ne (tgt := 118) dX1_partsRefusal_110 rfl (fun c => ?_) (fun c => ?_)
        · replace h := h.1 c
          refine wp_iconst (v := (0 : Int32)) dX1_partsRefusal_118 (by decide) ?_
          exact wp_ireturn (ty := .int) dX1_partsRefusal_119 rfl rfl ⟨_, rfl, h⟩
        · replace h := h.2 c
          refine wp_bipush (v := (-9 : Int32)) dX1_partsRefusal_113 (by decide) ?_
          refine wp_goto (tgt := 119) dX1_partsRefusal_115 rfl ?_
          exact wp_ireturn (ty := .int) dX1_partsRefusal_119 rfl rfl ⟨_, rfl, h⟩
    · replace h := h.2 c
      refine wp_aload_n 0 dX1_partsRefusal_37 rfl ?_
      refine wp_getC (ci := 1) (j := 10) dX1_partsRefusal_38 fi_X1_33r rfl rfl ht1 ?_
      change WP _ _ _ _ _ _ (rv (hC H 210 a0) :: _) _ _
      refine wp_iload_n 3 dX1_partsRefusal_41 rfl ?_
      refine wp_aload_n 1 dX1_partsRefusal_42 rfl ?_
      refine wp_aload_n 1 dX1_partsRefusal_43 rfl ?_
      refine wp_aload_n 2 dX1_partsRefusal_44 rfl ?_
      refine wp_aload_n 0 dX1_partsRefusal_45 rfl ?_
      refine wp_getC (ci := 1) (j := 6) dX1_partsRefusal_46 fi_X1_18r rfl rfl ht1 ?_
      change WP _ _ _ _ _ _ (rv (hC H 206 a0) :: _) _ _
      refine wp_iload_n 3 dX1_partsRefusal_49 rfl ?_
      obtain ⟨a8, ha8, h⟩ := h
      obtain ⟨hr9, h⟩ := h
      obtain ⟨hg10, h⟩ := h
      refine wp_iaload dX1_partsRefusal_50 ha8 hr9 hg10 ?_
      refine wp_aload_n 0 dX1_partsRefusal_51 rfl ?_
      refine wp_getC (ci := 1) (j := 7) dX1_partsRefusal_52 fi_X1_21r rfl rfl ht1 ?_
      change WP _ _ _ _ _ _ (rv (hC H 207 a0) :: _) _ _
      refine wp_iload_n 3 dX1_partsRefusal_55 rfl ?_
      obtain ⟨a11, ha11, h⟩ := h
      obtain ⟨hr12, h⟩ := h
      obtain ⟨hg13, h⟩ := h
      refine wp_iaload dX1_partsRefusal_56 ha11 hr12 hg13 ?_
      obtain ⟨a15, ha15, h⟩ := h
      obtain ⟨ht16, h⟩ := h
      refine wp_callV (ci := 10) (As := [rv o2, .int (hI H (tg H a8) a8 x3.toNatClampNeg), .int (hI H (tg H a11) a11 x3.toNatClampNeg)]) (rest := [rv o1, .int x3, rv (hC H 210 a0)]) (mc := 0) (ms := 0) dX1_partsRefusal_57 lk_X1_95 rfl rfl (by simp [rv_cat, vc_int, vc_long, vc_float, vc_double]) ha15 rfl rfl ht16 rfl rfl rfl w_3_74 (Call.weaken h ?_)
      rintro H14 _ ⟨r17, rfl, h⟩
      change WP _ _ _ _ _ _ [.int r17, rv o1, .int x3, rv (hC H 210 a0)] H14 _
      obtain ⟨ht19, h⟩ := h
      refine wp_callV (ci := 10) (As := [.int r17]) (rest := [.int x3, rv (hC H 210 a0)]) (mc := 0) (ms := 0) dX1_partsRefusal_60 lk_X1_130 rfl rfl (by simp [rv_cat, vc_int, vc_long, vc_float, vc_double]) ha15 rfl rfl ht19 rfl rfl rfl w_3_86 (Call.weaken h ?_)
      rintro H18 _ ⟨r20, rfl, h⟩
      change WP _ _ _ _ _ _ [rv r20, .int x3, rv (hC H 210 a0)] H18 _
      obtain ⟨a21, ha21, h⟩ := h
      obtain ⟨hr22, h⟩ := h
      obtain ⟨hg23, h⟩ := h
      obtain ⟨hg24, h⟩ := h
      refine wp_aastore (e := 6) (ci := 9) dX1_partsRefusal_63 ha21 hr22 (by decide) hg23 rfl el_6 hg24 ?_
      change WP _ _ _ _ _ _ _ (sR H18 (tg H18 a21) a21 x3.toNatClampNeg r20) _
      refine wp_aload_n 0 dX1_partsRefusal_64 rfl ?_
      obtain ⟨ht25, h⟩ := h
      refine wp_getC (ci := 1) (j := 10) dX1_partsRefusal_65 fi_X1_33r rfl rfl ht25 ?_
      change WP _ _ _ _ _ _ (rv (hC (sR H18 (tg H18 a21) a21 x3.toNatClampNeg r20) 210 a0) :: _) _ _
      refine wp_iload_n 3 dX1_partsRefusal_68 rfl ?_
      obtain ⟨a26, ha26, h⟩ := h
      obtain ⟨hr27, h⟩ := h
      obtain ⟨hg28, h⟩ := h
      refine wp_aaload (e := 6) dX1_partsRefusal_69 ha26 hr27 (by decide) hg28 ?_
      refine wp_ifnonnull (tgt := 76) dX1_partsRefusal_70 rfl (fun a29 ha29 => ?_) (fun c => ?_)
      · replace h := h.2 a29 ha29
        refine wp_aload_n 0 dX1_partsRefusal_76 rfl ?_
        refine wp_getC (ci := 1) (j := 10) dX1_partsRefusal_77 fi_X1_33r rfl rfl ht25 ?_
        change WP _ _ _ _ _ _ (rv (hC (sR H18 (tg H18 a21) a21 x3.toNatClampNeg r20) 210 a0) :: _) _ _
        refine wp_iload_n 3 dX1_partsRefusal_80 rfl ?_
        obtain ⟨hg30, h⟩ := h
        refine wp_aaload (e := 6) dX1_partsRefusal_81 ha26 hr27 (by decide) hg30 ?_
        obtain ⟨ht32, h⟩ := h
        refine wp_callV (ci := 9) (As := []) (rest := []) (mc := 0) (ms := 0) dX1_partsRefusal_82 lk_X1_133 rfl rfl (by decide) ha29 rfl rfl ht32 rfl rfl rfl w_3_90 (Call.weaken h ?_)
        rintro H31 _ ⟨b33, rfl, h⟩
        change WP _ _ _ _ _ _ [.int (bI b33)] H31 _
        refine wp_if_eq (tgt := 91) dX1_partsRefusal_85 rfl (fun c => ?_) (fun c => ?_)
        · replace h := h.1 (bI_0.mp c)
          refine wp_iinc (v := (x3 + 1)) (ls' := [(3, .int (x3 + 1)), (0, rv (some a0)), (1, rv o1), (2, rv o2)]) 3 dX1_partsRefusal_91 rfl rfl (by decide) (by simp [st1, rv_cat, vc_int, vc_long, vc_float, vc_double]) ?_
          refine wp_goto (tgt := 23) dX1_partsRefusal_94 rfl ?_
          refine wp_sub (ls' := [(0, rv (some a0)), (1, rv o1), (2, rv o2), (3, .int (x3 + 1))]) [1, 2, 3, 0] rfl ?_
          exact h
        · replace h := h.2 (bI_1.mp c)
          refine wp_bipush (v := (-10 : Int32)) dX1_partsRefusal_88 (by decide) ?_
          exact wp_ireturn (ty := .int) dX1_partsRefusal_90 rfl rfl ⟨_, rfl, h⟩
      · replace h := h.1 c
        refine wp_bipush (v := (-8 : Int32)) dX1_partsRefusal_73 (by decide) ?_
        exact wp_ireturn (ty := .int) dX1_partsRefusal_75 rfl rfl ⟨_, rfl, h⟩
theorem C_X1_partsRefusal {d : Nat} {q : HP → Int32 → Prop} {a0 : Nat} {o1 : Option Nat} {o2 : Option Nat} {H : HP} (h : wb_X1_partsRefusal_0 d q a0 o1 o2 H) : CI (d + 1) 0 0 mX1_partsRefusal [rv (some a0), rv o1, rv o2] H q := by
  refine call_of (by decide +kernel) (by simp [lg_sl, rv_cat, vc_int, vc_long, vc_float, vc_double]) ?_
  have e : lv_args 0 [rv (some a0), rv o1, rv o2] = [(0, rv (some a0)), (1, rv o1), (2, rv o2)] := by simp [lv_args, rv_cat, vc_int, vc_long, vc_float, vc_double]
  rw [e]
  exact T_X1_partsRefusal_0 h
def wb_X1_read_98 (d : Nat) (q : HP → Bool → Prop) (a0 : Nat) (o1 : Option Nat) (s0 : Option Nat) (s1 : Int32) (H : HP) : Prop :=
  ∃ a1, s0 = some a1 ∧ (tg H a1 = 2 ∧ (okZ s1 ∧ (tg (sI H 202 a1 0 s1) a0 = 2 ∧ (((hI (sI H 202 a1 0 s1) 202 a0 0) = 0 → ∃ a6, o1 = some a6 ∧ (tg (sI H 202 a1 0 s1) a6 = 8 ∧ (CZ d 0 0 mX7_isAtEnd [rv o1] (sI H 202 a1 0 s1) (fun H5 b8 => q H5 b8)))) ∧ (¬ ((hI (sI H 202 a1 0 s1) 202 a0 0) = 0) → CZ d 0 0 mX1_readRatio [rv o1, rv (hC (sI H 202 a1 0 s1) 201 a0)] (sI H 202 a1 0 s1) (fun H9 b10 => (b10 = true → ∃ a12, o1 = some a12 ∧ (tg H9 a12 = 8 ∧ (CZ d 0 0 mX7_isAtEnd [rv o1] H9 (fun H11 b14 => q H11 b14)))) ∧ (b10 = false → q H9 false)))))))
set_option maxRecDepth 40000 in
set_option maxHeartbeats 4000000 in
theorem T_X1_read_98 {d : Nat} {q : HP → Bool → Prop} {a0 : Nat} {o1 : Option Nat} {s0 : Option Nat} {s1 : Int32} {H : HP} (h : wb_X1_read_98 d q a0 o1 s0 s1 H) : WP (d + 1) mX1_read 0 0 98 [(0, rv (some a0)), (1, rv o1)] [.int s1, rv s0] H (qZ q) := by
  unfold wb_X1_read_98 at h
  obtain ⟨a1, ha1, h⟩ := h
  obtain ⟨ht2, h⟩ := h
  obtain ⟨hg3, h⟩ := h
  refine wp_putI (ci := 1) (j := 2) dX1_read_98 fi_X1_48 rfl (fun z => by cases z) ha1 ht2 (nar_Z hg3).1 (nar_Z hg3).2 ?_
  change WP _ _ _ _ _ _ _ (sI H 202 a1 0 s1) _
  refine wp_aload_n 0 dX1_read_101 rfl ?_
  obtain ⟨ht4, h⟩ := h
  refine wp_getI (ci := 1) (j := 2) dX1_read_102 fi_X1_48r rfl rfl ht4 ?_
  change WP _ _ _ _ _ _ (.int (hI (sI H 202 a1 0 s1) 202 a0 0) :: _) _ _
  refine wp_if_eq (tgt := 121) dX1_read_105 rfl (fun c => ?_) (fun c => ?_)
  · replace h := h.1 c
    refine wp_aload_n 1 dX1_read_121 rfl ?_
    obtain ⟨a6, ha6, h⟩ := h
    obtain ⟨ht7, h⟩ := h
    refine wp_callV (ci := 7) (As := []) (rest := []) (mc := 0) (ms := 0) dX1_read_122 lk_X1_78 rfl rfl (by decide) ha6 rfl rfl ht7 rfl rfl rfl w_3_62 (Call.weaken h ?_)
    rintro H5 _ ⟨b8, rfl, h⟩
    change WP _ _ _ _ _ _ [.int (bI b8)] H5 _
    exact wp_ireturn (ty := .boolean) dX1_read_125 rfl (nar_bI _).1 ⟨b8, rfl, h⟩
  · replace h := h.2 c
    refine wp_aload_n 1 dX1_read_108 rfl ?_
    refine wp_aload_n 0 dX1_read_109 rfl ?_
    refine wp_getC (ci := 1) (j := 1) dX1_read_110 fi_X1_15r rfl rfl ht4 ?_
    change WP _ _ _ _ _ _ (rv (hC (sI H 202 a1 0 s1) 201 a0) :: _) _ _
    refine wp_callS (As := [rv o1, rv (hC (sI H 202 a1 0 s1) 201 a0)]) (rest := []) (mc := 0) (ms := 0) dX1_read_113 lk_X1_63 rfl rfl (by decide) rfl rfl rfl (Call.weaken h ?_)
    rintro H9 _ ⟨b10, rfl, h⟩
    change WP _ _ _ _ _ _ [.int (bI b10)] H9 _
    refine wp_if_ne (tgt := 121) dX1_read_116 rfl (fun c => ?_) (fun c => ?_)
    · replace h := h.1 (bI_1.mp c)
      refine wp_aload_n 1 dX1_read_121 rfl ?_
      obtain ⟨a12, ha12, h⟩ := h
      obtain ⟨ht13, h⟩ := h
      refine wp_callV (ci := 7) (As := []) (rest := []) (mc := 0) (ms := 0) dX1_read_122 lk_X1_78 rfl rfl (by decide) ha12 rfl rfl ht13 rfl rfl rfl w_3_62 (Call.weaken h ?_)
      rintro H11 _ ⟨b14, rfl, h⟩
      change WP _ _ _ _ _ _ [.int (bI b14)] H11 _
      exact wp_ireturn (ty := .boolean) dX1_read_125 rfl (nar_bI _).1 ⟨b14, rfl, h⟩
    · replace h := h.2 (bI_0.mp c)
      refine wp_iconst (v := (0 : Int32)) dX1_read_119 (by decide) ?_
      exact wp_ireturn (ty := .boolean) dX1_read_120 rfl rfl ⟨false, rfl, h⟩
def wb_X1_read_0 (d : Nat) (q : HP → Bool → Prop) (a0 : Nat) (o1 : Option Nat) (H : HP) : Prop :=
  ∃ a1, o1 = some a1 ∧ (tg H a1 = 8 ∧ (tg (sI H 802 a1 0 (0 : Int32)) a0 = 2 ∧ (CI d 0 0 mX7_takeName [rv o1] (sI (sI H 802 a1 0 (0 : Int32)) 202 a0 0 (0 : Int32)) (fun H4 r5 => tg H4 a0 = 2 ∧ (((hI (sI H4 204 a0 0 r5) 204 a0 0) = 0 → q (sI H4 204 a0 0 r5) false) ∧ (¬ ((hI (sI H4 204 a0 0 r5) 204 a0 0) = 0) → tg (sI H4 204 a0 0 r5) a1 = 8 ∧ (CZ d 0 0 mX7_takes [rv o1, .int (61 : Int32)] (sI H4 204 a0 0 r5) (fun H7 b9 => (b9 = false → q H7 false) ∧ (b9 = true → tg H7 a0 = 2 ∧ (CZ d 0 0 mX1_readRatio [rv o1, rv (hC H7 200 a0)] H7 (fun H11 b12 => (b12 = false → q H11 false) ∧ (b12 = true → tg H11 a0 = 2 ∧ (CZ d 0 0 mX1_readProduct [rv (some a0), rv o1] H11 (fun H13 b15 => (b15 = true → tg H13 a1 = 8 ∧ (CI d 0 0 mX7_look [rv o1, .int (0 : Int32)] H13 (fun H16 r18 => (¬ r18 = (45 : Int32) → tg H16 a0 = 2 ∧ (tg (sI H16 203 a0 0 (1 : Int32)) a1 = 8 ∧ (CZ d 0 0 mX7_takes [rv o1, .int (43 : Int32)] (sI H16 203 a0 0 (1 : Int32)) (fun H20 b22 => (b22 = true → wb_X1_read_98 d q a0 o1 (some a0) (1 : Int32) H20) ∧ (b22 = false → tg H20 a1 = 8 ∧ (CZ d 0 0 mX7_takes [rv o1, .int (45 : Int32)] H20 (fun H23 b25 => (b25 = false → wb_X1_read_98 d q a0 o1 (some a0) (0 : Int32) H23) ∧ (b25 = true → wb_X1_read_98 d q a0 o1 (some a0) (1 : Int32) H23)))))))) ∧ (r18 = (45 : Int32) → tg H16 a0 = 2 ∧ (tg (sI H16 203 a0 0 (-1 : Int32)) a1 = 8 ∧ (CZ d 0 0 mX7_takes [rv o1, .int (43 : Int32)] (sI H16 203 a0 0 (-1 : Int32)) (fun H27 b29 => (b29 = true → wb_X1_read_98 d q a0 o1 (some a0) (1 : Int32) H27) ∧ (b29 = false → tg H27 a1 = 8 ∧ (CZ d 0 0 mX7_takes [rv o1, .int (45 : Int32)] H27 (fun H30 b32 => (b32 = false → wb_X1_read_98 d q a0 o1 (some a0) (0 : Int32) H30) ∧ (b32 = true → wb_X1_read_98 d q a0 o1 (some a0) (1 : Int32) H30))))))))))) ∧ (b15 = false → q H13 false)))))))))))))))
set_option maxRecDepth 40000 in
set_option maxHeartbeats 4000000 in
theorem T_X1_read_0 {d : Nat} {q : HP → Bool → Prop} {a0 : Nat} {o1 : Option Nat} {H : HP} (h : wb_X1_read_0 d q a0 o1 H) : WP (d + 1) mX1_read 0 0 0 [(0, rv (some a0)), (1, rv o1)] [] H (qZ q) := by
  unfold wb_X1_read_0 at h
  refine wp_aload_n 1 dX1_read_0 rfl ?_
  refine wp_iconst (v := (0 : Int32)) dX1_read_1 (by decide) ?_
  obtain ⟨a1, ha1, h⟩ := h
  obtain ⟨ht2, h⟩ := h
  refine wp_putI (ci := 7) (j := 2) dX1_read_2 fi_X1_42 rfl (fun z => by cases z) ha1 ht2 rfl rfl ?_
  change WP _ _ _ _ _ _ _ (sI H 802 a1 0 (0 : Int32)) _
  refine wp_aload_n 0 dX1_read_5 rfl ?_
  refine wp_iconst (v := (0 : Int32)) dX1_read_6 (by decide) ?_
  obtain ⟨ht3, h⟩ := h
  refine wp_putI (ci := 1) (j := 2) dX1_read_7 fi_X1_48 rfl (fun z => by cases z) rfl ht3 rfl rfl ?_
  change WP _ _ _ _ _ _ _ (sI (sI H 802 a1 0 (0 : Int32)) 202 a0 0 (0 : Int32)) _
  refine wp_aload_n 0 dX1_read_10 rfl ?_
  refine wp_aload_n 1 dX1_read_11 rfl ?_
  refine wp_callV (ci := 7) (As := []) (rest := [rv (some a0)]) (mc := 0) (ms := 0) dX1_read_12 lk_X1_52 rfl rfl (by simp [rv_cat, vc_int, vc_long, vc_float, vc_double]) ha1 rfl rfl ht2 rfl rfl rfl w_3_18 (Call.weaken h ?_)
  rintro H4 _ ⟨r5, rfl, h⟩
  change WP _ _ _ _ _ _ [.int r5, rv (some a0)] H4 _
  obtain ⟨ht6, h⟩ := h
  refine wp_putI (ci := 1) (j := 4) dX1_read_15 fi_X1_56 rfl (fun z => by cases z) rfl ht6 rfl rfl ?_
  change WP _ _ _ _ _ _ _ (sI H4 204 a0 0 r5) _
  refine wp_aload_n 0 dX1_read_18 rfl ?_
  refine wp_getI (ci := 1) (j := 4) dX1_read_19 fi_X1_56r rfl rfl ht6 ?_
  change WP _ _ _ _ _ _ (.int (hI (sI H4 204 a0 0 r5) 204 a0 0) :: _) _ _
  refine wp_if_eq (tgt := 53) dX1_read_22 rfl (fun c => ?_) (fun c => ?_)
  · replace h := h.1 c
    refine wp_iconst (v := (0 : Int32)) dX1_read_53 (by decide) ?_
    exact wp_ireturn (ty := .boolean) dX1_read_54 rfl rfl ⟨false, rfl, h⟩
  · replace h := h.2 c
    refine wp_aload_n 1 dX1_read_25 rfl ?_
    refine wp_bipush (v := (61 : Int32)) dX1_read_26 (by decide) ?_
    obtain ⟨ht8, h⟩ := h
    refine wp_callV (ci := 7) (As := [.int (61 : Int32)]) (rest := []) (mc := 0) (ms := 0) dX1_read_28 lk_X1_59 rfl rfl (by decide) ha1 rfl rfl ht8 rfl rfl rfl w_3_30 (Call.weaken h ?_)
    rintro H7 _ ⟨b9, rfl, h⟩
    change WP _ _ _ _ _ _ [.int (bI b9)] H7 _
    refine wp_if_eq (tgt := 53) dX1_read_31 rfl (fun c => ?_) (fun c => ?_)
    · replace h := h.1 (bI_0.mp c)
      refine wp_iconst (v := (0 : Int32)) dX1_read_53 (by decide) ?_
      exact wp_ireturn (ty := .boolean) dX1_read_54 rfl rfl ⟨false, rfl, h⟩
    · replace h := h.2 (bI_1.mp c)
      refine wp_aload_n 1 dX1_read_34 rfl ?_
      refine wp_aload_n 0 dX1_read_35 rfl ?_
      obtain ⟨ht10, h⟩ := h
      refine wp_getC (ci := 1) (j := 0) dX1_read_36 fi_X1_9r rfl rfl ht10 ?_
      change WP _ _ _ _ _ _ (rv (hC H7 200 a0) :: _) _ _
      refine wp_callS (As := [rv o1, rv (hC H7 200 a0)]) (rest := []) (mc := 0) (ms := 0) dX1_read_39 lk_X1_63 rfl rfl (by decide) rfl rfl rfl (Call.weaken h ?_)
      rintro H11 _ ⟨b12, rfl, h⟩
      change WP _ _ _ _ _ _ [.int (bI b12)] H11 _
      refine wp_if_eq (tgt := 53) dX1_read_42 rfl (fun c => ?_) (fun c => ?_)
      · replace h := h.1 (bI_0.mp c)
        refine wp_iconst (v := (0 : Int32)) dX1_read_53 (by decide) ?_
        exact wp_ireturn (ty := .boolean) dX1_read_54 rfl rfl ⟨false, rfl, h⟩
      · replace h := h.2 (bI_1.mp c)
        refine wp_aload_n 0 dX1_read_45 rfl ?_
        refine wp_aload_n 1 dX1_read_46 rfl ?_
        obtain ⟨ht14, h⟩ := h
        refine wp_callV (ci := 1) (As := [rv o1]) (rest := []) (mc := 0) (ms := 0) dX1_read_47 lk_X1_67 rfl rfl (by decide) rfl rfl rfl ht14 rfl rfl rfl w_3_49 (Call.weaken h ?_)
        rintro H13 _ ⟨b15, rfl, h⟩
        change WP _ _ _ _ _ _ [.int (bI b15)] H13 _
        refine wp_if_ne (tgt := 55) dX1_read_50 rfl (fun c => ?_) (fun c => ?_)
        · replace h := h.1 (bI_1.mp c)
          refine wp_aload_n 0 dX1_read_55 rfl ?_
          refine wp_aload_n 1 dX1_read_56 rfl ?_
          refine wp_iconst (v := (0 : Int32)) dX1_read_57 (by decide) ?_
          obtain ⟨ht17, h⟩ := h
          refine wp_callV (ci := 7) (As := [.int (0 : Int32)]) (rest := [rv (some a0)]) (mc := 0) (ms := 0) dX1_read_58 lk_X1_71 rfl rfl (by simp [rv_cat, vc_int, vc_long, vc_float, vc_double]) ha1 rfl rfl ht17 rfl rfl rfl w_3_61 (Call.weaken h ?_)
          rintro H16 _ ⟨r18, rfl, h⟩
          change WP _ _ _ _ _ _ [.int r18, rv (some a0)] H16 _
          refine wp_bipush (v := (45 : Int32)) dX1_read_61 (by decide) ?_
          refine wp_icmp_ne (tgt := 70) dX1_read_63 rfl (fun c => ?_) (fun c => ?_)
          · replace h := h.1 c
            refine wp_iconst (v := (1 : Int32)) dX1_read_70 (by decide) ?_
            obtain ⟨ht19, h⟩ := h
            refine wp_putI (ci := 1) (j := 3) dX1_read_71 fi_X1_75 rfl (fun z => by cases z) rfl ht19 rfl rfl ?_
            change WP _ _ _ _ _ _ _ (sI H16 203 a0 0 (1 : Int32)) _
            refine wp_aload_n 0 dX1_read_74 rfl ?_
            refine wp_aload_n 1 dX1_read_75 rfl ?_
            refine wp_bipush (v := (43 : Int32)) dX1_read_76 (by decide) ?_
            obtain ⟨ht21, h⟩ := h
            refine wp_callV (ci := 7) (As := [.int (43 : Int32)]) (rest := [rv (some a0)]) (mc := 0) (ms := 0) dX1_read_78 lk_X1_59 rfl rfl (by simp [rv_cat, vc_int, vc_long, vc_float, vc_double]) ha1 rfl rfl ht21 rfl rfl rfl w_3_30 (Call.weaken h ?_)
            rintro H20 _ ⟨b22, rfl, h⟩
            change WP _ _ _ _ _ _ [.int (bI b22), rv (some a0)] H20 _
            refine wp_if_ne (tgt := 93) dX1_read_81 rfl (fun c => ?_) (fun c => ?_)
            · replace h := h.1 (bI_1.mp c)
              refine wp_iconst (v := (1 : Int32)) dX1_read_93 (by decide) ?_
              refine wp_goto (tgt := 98) dX1_read_94 rfl ?_
              exact T_X1_read_98 h
            · replace h := h.2 (bI_0.mp c)
              refine wp_aload_n 1 dX1_read_84 rfl ?_
              refine wp_bipush (v := (45 : Int32)) dX1_read_85 (by decide) ?_
              obtain ⟨ht24, h⟩ := h
              refine wp_callV (ci := 7) (As := [.int (45 : Int32)]) (rest := [rv (some a0)]) (mc := 0) (ms := 0) dX1_read_87 lk_X1_59 rfl rfl (by simp [rv_cat, vc_int, vc_long, vc_float, vc_double]) ha1 rfl rfl ht24 rfl rfl rfl w_3_30 (Call.weaken h ?_)
              rintro H23 _ ⟨b25, rfl, h⟩
              change WP _ _ _ _ _ _ [.int (bI b25), rv (some a0)] H23 _
              refine wp_if_eq (tgt := 97) dX1_read_90 rfl (fun c => ?_) (fun c => ?_)
              · replace h := h.1 (bI_0.mp c)
                refine wp_iconst (v := (0 : Int32)) dX1_read_97 (by decide) ?_
                exact T_X1_read_98 h
              · replace h := h.2 (bI_1.mp c)
                refine wp_iconst (v := (1 : Int32)) dX1_read_93 (by decide) ?_
                refine wp_goto (tgt := 98) dX1_read_94 rfl ?_
                exact T_X1_read_98 h
          · replace h := h.2 c
            refine wp_iconst (v := (-1 : Int32)) dX1_read_66 (by decide) ?_
            refine wp_goto (tgt := 71) dX1_read_67 rfl ?_
            obtain ⟨ht26, h⟩ := h
            refine wp_putI (ci := 1) (j := 3) dX1_read_71 fi_X1_75 rfl (fun z => by cases z) rfl ht26 rfl rfl ?_
            change WP _ _ _ _ _ _ _ (sI H16 203 a0 0 (-1 : Int32)) _
            refine wp_aload_n 0 dX1_read_74 rfl ?_
            refine wp_aload_n 1 dX1_read_75 rfl ?_
            refine wp_bipush (v := (43 : Int32)) dX1_read_76 (by decide) ?_
            obtain ⟨ht28, h⟩ := h
            refine wp_callV (ci := 7) (As := [.int (43 : Int32)]) (rest := [rv (some a0)]) (mc := 0) (ms := 0) dX1_read_78 lk_X1_59 rfl rfl (by simp [rv_cat, vc_int, vc_long, vc_float, vc_double]) ha1 rfl rfl ht28 rfl rfl rfl w_3_30 (Call.weaken h ?_)
            rintro H27 _ ⟨b29, rfl, h⟩
            change WP _ _ _ _ _ _ [.int (bI b29), rv (some a0)] H27 _
            refine wp_if_ne (tgt := 93) dX1_read_81 rfl (fun c => ?_) (fun c => ?_)
            · replace h := h.1 (bI_1.mp c)
              refine wp_iconst (v := (1 : Int32)) dX1_read_93 (by decide) ?_
              refine wp_goto (tgt := 98) dX1_read_94 rfl ?_
              exact T_X1_read_98 h
            · replace h := h.2 (bI_0.mp c)
              refine wp_aload_n 1 dX1_read_84 rfl ?_
              refine wp_bipush (v := (45 : Int32)) dX1_read_85 (by decide) ?_
              obtain ⟨ht31, h⟩ := h
              refine wp_callV (ci := 7) (As := [.int (45 : Int32)]) (rest := [rv (some a0)]) (mc := 0) (ms := 0) dX1_read_87 lk_X1_59 rfl rfl (by simp [rv_cat, vc_int, vc_long, vc_float, vc_double]) ha1 rfl rfl ht31 rfl rfl rfl w_3_30 (Call.weaken h ?_)
              rintro H30 _ ⟨b32, rfl, h⟩
              change WP _ _ _ _ _ _ [.int (bI b32), rv (some a0)] H30 _
              refine wp_if_eq (tgt := 97) dX1_read_90 rfl (fun c => ?_) (fun c => ?_)
              · replace h := h.1 (bI_0.mp c)
                refine wp_iconst (v := (0 : Int32)) dX1_read_97 (by decide) ?_
                exact T_X1_read_98 h
              · replace h := h.2 (bI_1.mp c)
                refine wp_iconst (v := (1 : Int32)) dX1_read_93 (by decide) ?_
                refine wp_goto (tgt := 98) dX1_read_94 rfl ?_
                exact T_X1_read_98 h
        · replace h := h.2 (bI_0.mp c)
          refine wp_iconst (v := (0 : Int32)) dX1_read_53 (by decide) ?_
          exact wp_ireturn (ty := .boolean) dX1_read_54 rfl rfl ⟨false, rfl, h⟩
theorem C_X1_read {d : Nat} {q : HP → Bool → Prop} {a0 : Nat} {o1 : Option Nat} {H : HP} (h : wb_X1_read_0 d q a0 o1 H) : CZ (d + 1) 0 0 mX1_read [rv (some a0), rv o1] H q := by
  refine call_of (by decide +kernel) (by simp [lg_sl, rv_cat, vc_int, vc_long, vc_float, vc_double]) ?_
  have e : lv_args 0 [rv (some a0), rv o1] = [(0, rv (some a0)), (1, rv o1)] := by simp [lv_args, rv_cat, vc_int, vc_long, vc_float, vc_double]
  rw [e]
  exact T_X1_read_0 h
/-- UnitProver$Definition.readProduct(LUnitProver$Tape;)Z: the loop at 4 -/
def L_X1_readProduct_4 (d : Nat) (q : HP → Bool → Prop) (a0 : Nat) (o1 : Option Nat) (x2 : Int32) (x3 : Int32) (H : HP) : Prop := WP (d + 1) mX1_readProduct 0 0 4 [(0, rv (some a0)), (1, rv o1), (2, .int x2), (3, .int x3)] [] H (qZ q)
def wb_X1_readProduct_0 (d : Nat) (q : HP → Bool → Prop) (a0 : Nat) (o1 : Option Nat) (H : HP) : Prop :=
  L_X1_readProduct_4 d q a0 o1 (0 : Int32) (0 : Int32) H
set_option maxRecDepth 40000 in
set_option maxHeartbeats 4000000 in
theorem T_X1_readProduct_0 {d : Nat} {q : HP → Bool → Prop} {a0 : Nat} {o1 : Option Nat} {H : HP} (h : wb_X1_readProduct_0 d q a0 o1 H) : WP (d + 1) mX1_readProduct 0 0 0 [(0, rv (some a0)), (1, rv o1)] [] H (qZ q) := by
  unfold wb_X1_readProduct_0 at h
  refine wp_iconst (v := (0 : Int32)) dX1_readProduct_0 (by decide) ?_
  refine wp_istore_n (ls' := [(2, .int (0 : Int32)), (0, rv (some a0)), (1, rv o1)]) dX1_readProduct_1 (by decide) (by change st1 _ 2 _ = _; simp [st1, rv_cat, vc_int, vc_long, vc_float, vc_double]) ?_
  refine wp_iconst (v := (0 : Int32)) dX1_readProduct_2 (by decide) ?_
  refine wp_istore_n (ls' := [(3, .int (0 : Int32)), (2, .int (0 : Int32)), (0, rv (some a0)), (1, rv o1)]) dX1_readProduct_3 (by decide) rfl ?_
  refine wp_sub (ls' := [(0, rv (some a0)), (1, rv o1), (2, .int (0 : Int32)), (3, .int (0 : Int32))]) [2, 3, 1, 0] rfl ?_
  exact h
def wb_X1_readProduct_4 (d : Nat) (q : HP → Bool → Prop) (a0 : Nat) (o1 : Option Nat) (x2 : Int32) (x3 : Int32) (H : HP) : Prop :=
  ((30 : Int32) ≤ x3 → q H false) ∧ (¬ ((30 : Int32) ≤ x3) → tg H a0 = 2 ∧ (∃ a2, (hC H 209 a0) = some a2 ∧ (isA H a2 2 ∧ (vp_in x3 (ln H a2) ∧ (∃ a5, o1 = some a5 ∧ (tg (sI H (tg H a2) a2 x3.toNatClampNeg (vp_nar .boolean x2)) a5 = 8 ∧ (∃ a7, (hC (sI H (tg H a2) a2 x3.toNatClampNeg (vp_nar .boolean x2)) 206 a0) = some a7 ∧ (isA (sI H (tg H a2) a2 x3.toNatClampNeg (vp_nar .boolean x2)) a7 0 ∧ (vp_in x3 (ln (sI H (tg H a2) a2 x3.toNatClampNeg (vp_nar .boolean x2)) a7) ∧ (∀ H10, (sI (sI H (tg H a2) a2 x3.toNatClampNeg (vp_nar .boolean x2)) (tg (sI H (tg H a2) a2 x3.toNatClampNeg (vp_nar .boolean x2)) a7) a7 x3.toNatClampNeg (hI (sI H (tg H a2) a2 x3.toNatClampNeg (vp_nar .boolean x2)) 802 a5 0)) = H10 → (CI d 0 0 mX7_takeName [rv o1] H10 (fun H16 r17 => ∃ a18, (hC H10 207 a0) = some a18 ∧ (isA H16 a18 0 ∧ (vp_in x3 (ln H16 a18) ∧ (tg (sI H16 (tg H16 a18) a18 x3.toNatClampNeg r17) a0 = 2 ∧ (∃ a22, (hC (sI H16 (tg H16 a18) a18 x3.toNatClampNeg r17) 207 a0) = some a22 ∧ (isA (sI H16 (tg H16 a18) a18 x3.toNatClampNeg r17) a22 0 ∧ (vp_in x3 (ln (sI H16 (tg H16 a18) a18 x3.toNatClampNeg r17) a22) ∧ ((¬ (hI (sI H16 (tg H16 a18) a18 x3.toNatClampNeg r17) (tg (sI H16 (tg H16 a18) a18 x3.toNatClampNeg r17) a22) a22 x3.toNatClampNeg) = 0 → tg (sI H16 (tg H16 a18) a18 x3.toNatClampNeg r17) a5 = 8 ∧ (CI d 0 0 mX7_takePower [rv o1] (sI H16 (tg H16 a18) a18 x3.toNatClampNeg r17) (fun H25 r27 => ∃ a28, (hC (sI H16 (tg H16 a18) a18 x3.toNatClampNeg r17) 208 a0) = some a28 ∧ (isA H25 a28 0 ∧ (vp_in x3 (ln H25 a28) ∧ (tg (sI H25 (tg H25 a28) a28 x3.toNatClampNeg r27) a0 = 2 ∧ (tg (sI (sI H25 (tg H25 a28) a28 x3.toNatClampNeg r27) 205 a0 0 (x3 + (1 : Int32))) a5 = 8 ∧ (CI d 0 0 mX7_look [rv o1, .int (0 : Int32)] (sI (sI H25 (tg H25 a28) a28 x3.toNatClampNeg r27) 205 a0 0 (x3 + (1 : Int32))) (fun H32 r34 => (¬ r34 = (47 : Int32) → tg H32 a5 = 8 ∧ (CZ d 0 0 mX7_takes [rv o1, .int (42 : Int32)] H32 (fun H35 b37 => (b37 = true → L_X1_readProduct_4 d q a0 o1 (0 : Int32) (x3 + 1) H35) ∧ (b37 = false → tg H35 a5 = 8 ∧ (CZ d 0 0 mX7_takes [rv o1, .int (47 : Int32)] H35 (fun H38 b40 => (b40 = true → L_X1_readProduct_4 d q a0 o1 (0 : Int32) (x3 + 1) H38) ∧ (b40 = false → q H38 true))))))) ∧ (r34 = (47 : Int32) → tg H32 a5 = 8 ∧ (CZ d 0 0 mX7_takes [rv o1, .int (42 : Int32)] H32 (fun H41 b43 => (b43 = true → L_X1_readProduct_4 d q a0 o1 (1 : Int32) (x3 + 1) H41) ∧ (b43 = false → tg H41 a5 = 8 ∧ (CZ d 0 0 mX7_takes [rv o1, .int (47 : Int32)] H41 (fun H44 b46 => (b46 = true → L_X1_readProduct_4 d q a0 o1 (1 : Int32) (x3 + 1) H44) ∧ (b46 = false → q H44 true)))))))))))))))) ∧ ((hI (sI H16 (tg H16 a18) a18 x3.toNatClampNeg r17) (tg (sI H16 (tg H16 a18) a18 x3.toNatClampNeg r17) a22) a22 x3.toNatClampNeg) = 0 → q (sI H16 (tg H16 a18) a18 x3.toNatClampNeg r17) false))))))))))))))))))))
set_option maxRecDepth 40000 in
set_option maxHeartbeats 4000000 in
theorem T_X1_readProduct_4 {d : Nat} {q : HP → Bool → Prop} {a0 : Nat} {o1 : Option Nat} {x2 : Int32} {x3 : Int32} {H : HP} (h : wb_X1_readProduct_4 d q a0 o1 x2 x3 H) : L_X1_readProduct_4 d q a0 o1 x2 x3 H := by
  unfold wb_X1_readProduct_4 at h
  unfold L_X1_readProduct_4
  refine wp_iload_n 3 dX1_readProduct_4 rfl ?_
  refine wp_bipush (v := (30 : Int32)) dX1_readProduct_5 (by decide) ?_
  refine wp_icmp_ge (tgt := 107) dX1_readProduct_7 rfl (fun c => ?_) (fun c => ?_)
  · replace h := h.1 c
    refine wp_iconst (v := (0 : Int32)) dX1_readProduct_107 (by decide) ?_
    exact wp_ireturn (ty := .boolean) dX1_readProduct_108 rfl rfl ⟨false, rfl, h⟩
  · replace h := h.2 c
    refine wp_aload_n 0 dX1_readProduct_10 rfl ?_
    obtain ⟨ht1, h⟩ := h
    refine wp_getC (ci := 1) (j := 9) dX1_readProduct_11 fi_X1_27r rfl rfl ht1 ?_
    change WP _ _ _ _ _ _ (rv (hC H 209 a0) :: _) _ _
    refine wp_iload_n 3 dX1_readProduct_14 rfl ?_
    refine wp_iload_n 2 dX1_readProduct_15 rfl ?_
    obtain ⟨a2, ha2, h⟩ := h
    obtain ⟨hr3, h⟩ := h
    obtain ⟨hg4, h⟩ := h
    refine wp_zastore dX1_readProduct_16 ha2 hr3 hg4 ?_
    change WP _ _ _ _ _ _ _ (sI H (tg H a2) a2 x3.toNatClampNeg (vp_nar .boolean x2)) _
    refine wp_aload_n 0 dX1_readProduct_17 rfl ?_
    refine wp_getC (ci := 1) (j := 6) dX1_readProduct_18 fi_X1_18r rfl rfl ht1 ?_
    change WP _ _ _ _ _ _ (rv (hC (sI H (tg H a2) a2 x3.toNatClampNeg (vp_nar .boolean x2)) 206 a0) :: _) _ _
    refine wp_iload_n 3 dX1_readProduct_21 rfl ?_
    refine wp_aload_n 1 dX1_readProduct_22 rfl ?_
    obtain ⟨a5, ha5, h⟩ := h
    obtain ⟨ht6, h⟩ := h
    refine wp_getI (ci := 7) (j := 2) dX1_readProduct_23 fi_X1_42r rfl ha5 ht6 ?_
    change WP _ _ _ _ _ _ (.int (hI (sI H (tg H a2) a2 x3.toNatClampNeg (vp_nar .boolean x2)) 802 a5 0) :: _) _ _
    obtain ⟨a7, ha7, h⟩ := h
    obtain ⟨hr8, h⟩ := h
    obtain ⟨hg9, h⟩ := h
    refine wp_iastore dX1_readProduct_26 ha7 hr8 hg9 ?_
    change WP _ _ _ _ _ _ _ (sI (sI H (tg H a2) a2 x3.toNatClampNeg (vp_nar .boolean x2)) (tg (sI H (tg H a2) a2 x3.toNatClampNeg (vp_nar .boolean x2)) a7) a7 x3.toNatClampNeg (hI (sI H (tg H a2) a2 x3.toNatClampNeg (vp_nar .boolean x2)) 802 a5 0)) _
    replace h := h _ rfl
    generalize e11 : (sI (sI H (tg H a2) a2 x3.toNatClampNeg (vp_nar .boolean x2)) (tg (sI H (tg H a2) a2 x3.toNatClampNeg (vp_nar .boolean x2)) a7) a7 x3.toNatClampNeg (hI (sI H (tg H a2) a2 x3.toNatClampNeg (vp_nar .boolean x2)) 802 a5 0)) = H10 at h ⊢
    have ht12 : tg H10 a0 = 2 := by rw [← e11]; exact ht1
    have ht13 : tg H10 a5 = 8 := by rw [← e11]; exact ht6
    have hr14 : isA H10 a2 2 := by rw [← e11]; exact hr3
    have hr15 : isA H10 a7 0 := by rw [← e11]; exact hr8
    refine wp_aload_n 0 dX1_readProduct_27 rfl ?_
    refine wp_getC (ci := 1) (j := 7) dX1_readProduct_28 fi_X1_21r rfl rfl ht12 ?_
    change WP _ _ _ _ _ _ (rv (hC H10 207 a0) :: _) _ _
    refine wp_iload_n 3 dX1_readProduct_31 rfl ?_
    refine wp_aload_n 1 dX1_readProduct_32 rfl ?_
    refine wp_callV (ci := 7) (As := []) (rest := [.int x3, rv (hC H10 207 a0)]) (mc := 0) (ms := 0) dX1_readProduct_33 lk_X1_52 rfl rfl (by simp [rv_cat, vc_int, vc_long, vc_float, vc_double]) ha5 rfl rfl ht13 rfl rfl rfl w_3_18 (Call.weaken h ?_)
    rintro H16 _ ⟨r17, rfl, h⟩
    change WP _ _ _ _ _ _ [.int r17, .int x3, rv (hC H10 207 a0)] H16 _
    obtain ⟨a18, ha18, h⟩ := h
    obtain ⟨hr19, h⟩ := h
    obtain ⟨hg20, h⟩ := h
    refine wp_iastore dX1_readProduct_36 ha18 hr19 hg20 ?_
    change WP _ _ _ _ _ _ _ (sI H16 (tg H16 a18) a18 x3.toNatClampNeg r17) _
    refine wp_aload_n 0 dX1_readProduct_37 rfl ?_
    obtain ⟨ht21, h⟩ := h
    refine wp_getC (ci := 1) (j := 7) dX1_readProduct_38 fi_X1_21r rfl rfl ht21 ?_
    change WP _ _ _ _ _ _ (rv (hC (sI H16 (tg H16 a18) a18 x3.toNatClampNeg r17) 207 a0) :: _) _ _
    refine wp_iload_n 3 dX1_readProduct_41 rfl ?_
    obtain ⟨a22, ha22, h⟩ := h
    obtain ⟨hr23, h⟩ := h
    obtain ⟨hg24, h⟩ := h
    refine wp_iaload dX1_readProduct_42 ha22 hr23 hg24 ?_
    refine wp_if_ne (tgt := 48) dX1_readProduct_43 rfl (fun c => ?_) (fun c => ?_)
    · replace h := h.1 c
      refine wp_aload_n 0 dX1_readProduct_48 rfl ?_
      refine wp_getC (ci := 1) (j := 8) dX1_readProduct_49 fi_X1_24r rfl rfl ht21 ?_
      change WP _ _ _ _ _ _ (rv (hC (sI H16 (tg H16 a18) a18 x3.toNatClampNeg r17) 208 a0) :: _) _ _
      refine wp_iload_n 3 dX1_readProduct_52 rfl ?_
      refine wp_aload_n 1 dX1_readProduct_53 rfl ?_
      obtain ⟨ht26, h⟩ := h
      refine wp_callV (ci := 7) (As := []) (rest := [.int x3, rv (hC (sI H16 (tg H16 a18) a18 x3.toNatClampNeg r17) 208 a0)]) (mc := 0) (ms := 0) dX1_readProduct_54 lk_X1_85 rfl rfl (by simp [rv_cat, vc_int, vc_long, vc_float, vc_double]) ha5 rfl rfl ht26 rfl rfl rfl w_3_53 (Call.weaken h ?_)
      rintro H25 _ ⟨r27, rfl, h⟩
      change WP _ _ _ _ _ _ [.int r27, .int x3, rv (hC (sI H16 (tg H16 a18) a18 x3.toNatClampNeg r17) 208 a0)] H25 _
      obtain ⟨a28, ha28, h⟩ := h
      obtain ⟨hr29, h⟩ := h
      obtain ⟨hg30, h⟩ := h
      refine wp_iastore dX1_readProduct_57 ha28 hr29 hg30 ?_
      change WP _ _ _ _ _ _ _ (sI H25 (tg H25 a28) a28 x3.toNatClampNeg r27) _
      refine wp_aload_n 0 dX1_readProduct_58 rfl ?_
      refine wp_iload_n 3 dX1_readProduct_59 rfl ?_
      refine wp_iconst (v := (1 : Int32)) dX1_readProduct_60 (by decide) ?_
      refine wp_iadd dX1_readProduct_61 ?_
      obtain ⟨ht31, h⟩ := h
      refine wp_putI (ci := 1) (j := 5) dX1_readProduct_62 fi_X1_88 rfl (fun z => by cases z) rfl ht31 rfl rfl ?_
      change WP _ _ _ _ _ _ _ (sI (sI H25 (tg H25 a28) a28 x3.toNatClampNeg r27) 205 a0 0 (x3 + (1 : Int32))) _
      refine wp_aload_n 1 dX1_readProduct_65 rfl ?_
      refine wp_iconst (v := (0 : Int32)) dX1_readProduct_66 (by decide) ?_
      obtain ⟨ht33, h⟩ := h
      refine wp_callV (ci := 7) (As := [.int (0 : Int32)]) (rest := []) (mc := 0) (ms := 0) dX1_readProduct_67 lk_X1_71 rfl rfl (by decide) ha5 rfl rfl ht33 rfl rfl rfl w_3_61 (Call.weaken h ?_)
      rintro H32 _ ⟨r34, rfl, h⟩
      change WP _ _ _ _ _ _ [.int r34] H32 _
      refine wp_bipush (v := (47 : Int32)) dX1_readProduct_70 (by decide) ?_
      refine wp_icmp_ne (tgt := 79) dX1_readProduct_72 rfl (fun c => ?_) (fun c => ?_)
      · replace h := h.1 c
        refine wp_iconst (v := (0 : Int32)) dX1_readProduct_79 (by decide) ?_
        refine wp_istore_n (ls' := [(2, .int (0 : Int32)), (0, rv (some a0)), (1, rv o1), (3, .int x3)]) dX1_readProduct_80 (by decide) (by change st1 _ 2 _ = _; simp [st1, rv_cat, vc_int, vc_long, vc_float, vc_double]) ?_
        refine wp_aload_n 2 dX1_readProduct_81 rfl ?_
        refine wp_bipush (v := (42 : Int32)) dX1_readProduct_82 (by decide) ?_
        obtain ⟨ht36, h⟩ := h
        refine wp_callV (ci := 7) (As := [.int (42 : Int32)]) (rest := []) (mc := 0) (ms := 0) dX1_readProduct_84 lk_X1_59 rfl rfl (by decide) ha5 rfl rfl ht36 rfl rfl rfl w_3_30 (Call.weaken h ?_)
        rintro H35 _ ⟨b37, rfl, h⟩
        change WP _ _ _ _ _ _ [.int (bI b37)] H35 _
        refine wp_if_ne (tgt := 101) dX1_readProduct_87 rfl (fun c => ?_) (fun c => ?_)
        · replace h := h.1 (bI_1.mp c)
          refine wp_iinc (v := (x3 + 1)) (ls' := [(3, .int (x3 + 1)), (2, .int (0 : Int32)), (0, rv (some a0)), (1, rv o1)]) 3 dX1_readProduct_101 rfl rfl (by decide) rfl ?_
          refine wp_goto (tgt := 4) dX1_readProduct_104 rfl ?_
          refine wp_sub (ls' := [(0, rv (some a0)), (1, rv o1), (2, .int (0 : Int32)), (3, .int (x3 + 1))]) [2, 3, 1, 0] rfl ?_
          exact h
        · replace h := h.2 (bI_0.mp c)
          refine wp_aload_n 2 dX1_readProduct_90 rfl ?_
          refine wp_bipush (v := (47 : Int32)) dX1_readProduct_91 (by decide) ?_
          obtain ⟨ht39, h⟩ := h
          refine wp_callV (ci := 7) (As := [.int (47 : Int32)]) (rest := []) (mc := 0) (ms := 0) dX1_readProduct_93 lk_X1_59 rfl rfl (by decide) ha5 rfl rfl ht39 rfl rfl rfl w_3_30 (Call.weaken h ?_)
          rintro H38 _ ⟨b40, rfl, h⟩
          change WP _ _ _ _ _ _ [.int (bI b40)] H38 _
          refine wp_if_ne (tgt := 101) dX1_readProduct_96 rfl (fun c => ?_) (fun c => ?_)
          · replace h := h.1 (bI_1.mp c)
            refine wp_iinc (v := (x3 + 1)) (ls' := [(3, .int (x3 + 1)), (2, .int (0 : Int32)), (0, rv (some a0)), (1, rv o1)]) 3 dX1_readProduct_101 rfl rfl (by decide) rfl ?_
            refine wp_goto (tgt := 4) dX1_readProduct_104 rfl ?_
            refine wp_sub (ls' := [(0, rv (some a0)), (1, rv o1), (2, .int (0 : Int32)), (3, .int (x3 + 1))]) [2, 3, 1, 0] rfl ?_
            exact h
          · replace h := h.2 (bI_0.mp c)
            refine wp_iconst (v := (1 : Int32)) dX1_readProduct_99 (by decide) ?_
            exact wp_ireturn (ty := .boolean) dX1_readProduct_100 rfl rfl ⟨true, rfl, h⟩
      · replace h := h.2 c
        refine wp_iconst (v := (1 : Int32)) dX1_readProduct_75 (by decide) ?_
        refine wp_goto (tgt := 80) dX1_readProduct_76 rfl ?_
        refine wp_istore_n (ls' := [(2, .int (1 : Int32)), (0, rv (some a0)), (1, rv o1), (3, .int x3)]) dX1_readProduct_80 (by decide) (by change st1 _ 2 _ = _; simp [st1, rv_cat, vc_int, vc_long, vc_float, vc_double]) ?_
        refine wp_aload_n 2 dX1_readProduct_81 rfl ?_
        refine wp_bipush (v := (42 : Int32)) dX1_readProduct_82 (by decide) ?_
        obtain ⟨ht42, h⟩ := h
        refine wp_callV (ci := 7) (As := [.int (42 : Int32)]) (rest := []) (mc := 0) (ms := 0) dX1_readProduct_84 lk_X1_59 rfl rfl (by decide) ha5 rfl rfl ht42 rfl rfl rfl w_3_30 (Call.weaken h ?_)
        rintro H41 _ ⟨b43, rfl, h⟩
        change WP _ _ _ _ _ _ [.int (bI b43)] H41 _
        refine wp_if_ne (tgt := 101) dX1_readProduct_87 rfl (fun c => ?_) (fun c => ?_)
        · replace h := h.1 (bI_1.mp c)
          refine wp_iinc (v := (x3 + 1)) (ls' := [(3, .int (x3 + 1)), (2, .int (1 : Int32)), (0, rv (some a0)), (1, rv o1)]) 3 dX1_readProduct_101 rfl rfl (by decide) rfl ?_
          refine wp_goto (tgt := 4) dX1_readProduct_104 rfl ?_
          refine wp_sub (ls' := [(0, rv (some a0)), (1, rv o1), (2, .int (1 : Int32)), (3, .int (x3 + 1))]) [2, 3, 1, 0] rfl ?_
          exact h
        · replace h := h.2 (bI_0.mp c)
          refine wp_aload_n 2 dX1_readProduct_90 rfl ?_
          refine wp_bipush (v := (47 : Int32)) dX1_readProduct_91 (by decide) ?_
          obtain ⟨ht45, h⟩ := h
          refine wp_callV (ci := 7) (As := [.int (47 : Int32)]) (rest := []) (mc := 0) (ms := 0) dX1_readProduct_93 lk_X1_59 rfl rfl (by decide) ha5 rfl rfl ht45 rfl rfl rfl w_3_30 (Call.weaken h ?_)
          rintro H44 _ ⟨b46, rfl, h⟩
          change WP _ _ _ _ _ _ [.int (bI b46)] H44 _
          refine wp_if_ne (tgt := 101) dX1_readProduct_96 rfl (fun c => ?_) (fun c => ?_)
          · replace h := h.1 (bI_1.mp c)
            refine wp_iinc (v := (x3 + 1)) (ls' := [(3, .int (x3 + 1)), (2, .int (1 : Int32)), (0, rv (some a0)), (1, rv o1)]) 3 dX1_readProduct_101 rfl rfl (by decide) rfl ?_
            refine wp_goto (tgt := 4) dX1_readProduct_104 rfl ?_
            refine wp_sub (ls' := [(0, rv (some a0)), (1, rv o1), (2, .int (1 : Int32)), (3, .int (x3 + 1))]) [2, 3, 1, 0] rfl ?_
            exact h
          · replace h := h.2 (bI_0.mp c)
            refine wp_iconst (v := (1 : Int32)) dX1_readProduct_99 (by decide) ?_
            exact wp_ireturn (ty := .boolean) dX1_readProduct_100 rfl rfl ⟨true, rfl, h⟩
    · replace h := h.2 c
      refine wp_iconst (v := (0 : Int32)) dX1_readProduct_46 (by decide) ?_
      exact wp_ireturn (ty := .boolean) dX1_readProduct_47 rfl rfl ⟨false, rfl, h⟩
theorem C_X1_readProduct {d : Nat} {q : HP → Bool → Prop} {a0 : Nat} {o1 : Option Nat} {H : HP} (h : wb_X1_readProduct_0 d q a0 o1 H) : CZ (d + 1) 0 0 mX1_readProduct [rv (some a0), rv o1] H q := by
  refine call_of (by decide +kernel) (by simp [lg_sl, rv_cat, vc_int, vc_long, vc_float, vc_double]) ?_
  have e : lv_args 0 [rv (some a0), rv o1] = [(0, rv (some a0)), (1, rv o1)] := by simp [lv_args, rv_cat, vc_int, vc_long, vc_float, vc_double]
  rw [e]
  exact T_X1_readProduct_0 h
def wb_X1_readRatio_0 (d : Nat) (q : HP → Bool → Prop) (o0 : Option Nat) (o1 : Option Nat) (H : HP) : Prop :=
  ∃ a2, o0 = some a2 ∧ (tg H a2 = 8 ∧ (CI d 0 0 mX7_takeNumber [rv o0] H (fun H1 r4 => ∃ a5, o1 = some a5 ∧ (isA H1 a5 0 ∧ (vp_in (0 : Int32) (ln H1 a5) ∧ (vp_in (1 : Int32) (ln (sI H1 (tg H1 a5) a5 (0 : Int32).toNatClampNeg r4) a5) ∧ (vp_in (0 : Int32) (ln (sI (sI H1 (tg H1 a5) a5 (0 : Int32).toNatClampNeg r4) (tg (sI H1 (tg H1 a5) a5 (0 : Int32).toNatClampNeg r4) a5) a5 (1 : Int32).toNatClampNeg (1 : Int32)) a5) ∧ (((hI (sI (sI H1 (tg H1 a5) a5 (0 : Int32).toNatClampNeg r4) (tg (sI H1 (tg H1 a5) a5 (0 : Int32).toNatClampNeg r4) a5) a5 (1 : Int32).toNatClampNeg (1 : Int32)) (tg (sI (sI H1 (tg H1 a5) a5 (0 : Int32).toNatClampNeg r4) (tg (sI H1 (tg H1 a5) a5 (0 : Int32).toNatClampNeg r4) a5) a5 (1 : Int32).toNatClampNeg (1 : Int32)) a5) a5 (0 : Int32).toNatClampNeg) < 0 → vp_in (0 : Int32) (ln (sI (sI H1 (tg H1 a5) a5 (0 : Int32).toNatClampNeg r4) (tg (sI H1 (tg H1 a5) a5 (0 : Int32).toNatClampNeg r4) a5) a5 (1 : Int32).toNatClampNeg (1 : Int32)) a5) ∧ (((hI (sI (sI H1 (tg H1 a5) a5 (0 : Int32).toNatClampNeg r4) (tg (sI H1 (tg H1 a5) a5 (0 : Int32).toNatClampNeg r4) a5) a5 (1 : Int32).toNatClampNeg (1 : Int32)) (tg (sI (sI H1 (tg H1 a5) a5 (0 : Int32).toNatClampNeg r4) (tg (sI H1 (tg H1 a5) a5 (0 : Int32).toNatClampNeg r4) a5) a5 (1 : Int32).toNatClampNeg (1 : Int32)) a5) a5 (0 : Int32).toNatClampNeg) < 0 → q (sI (sI H1 (tg H1 a5) a5 (0 : Int32).toNatClampNeg r4) (tg (sI H1 (tg H1 a5) a5 (0 : Int32).toNatClampNeg r4) a5) a5 (1 : Int32).toNatClampNeg (1 : Int32)) false) ∧ (¬ ((hI (sI (sI H1 (tg H1 a5) a5 (0 : Int32).toNatClampNeg r4) (tg (sI H1 (tg H1 a5) a5 (0 : Int32).toNatClampNeg r4) a5) a5 (1 : Int32).toNatClampNeg (1 : Int32)) (tg (sI (sI H1 (tg H1 a5) a5 (0 : Int32).toNatClampNeg r4) (tg (sI H1 (tg H1 a5) a5 (0 : Int32).toNatClampNeg r4) a5) a5 (1 : Int32).toNatClampNeg (1 : Int32)) a5) a5 (0 : Int32).toNatClampNeg) < 0) → vp_in (1 : Int32) (ln (sI (sI H1 (tg H1 a5) a5 (0 : Int32).toNatClampNeg r4) (tg (sI H1 (tg H1 a5) a5 (0 : Int32).toNatClampNeg r4) a5) a5 (1 : Int32).toNatClampNeg (1 : Int32)) a5) ∧ (((hI (sI (sI H1 (tg H1 a5) a5 (0 : Int32).toNatClampNeg r4) (tg (sI H1 (tg H1 a5) a5 (0 : Int32).toNatClampNeg r4) a5) a5 (1 : Int32).toNatClampNeg (1 : Int32)) (tg (sI (sI H1 (tg H1 a5) a5 (0 : Int32).toNatClampNeg r4) (tg (sI H1 (tg H1 a5) a5 (0 : Int32).toNatClampNeg r4) a5) a5 (1 : Int32).toNatClampNeg (1 : Int32)) a5) a5 (1 : Int32).toNatClampNeg) < 0 → q (sI (sI H1 (tg H1 a5) a5 (0 : Int32).toNatClampNeg r4) (tg (sI H1 (tg H1 a5) a5 (0 : Int32).toNatClampNeg r4) a5) a5 (1 : Int32).toNatClampNeg (1 : Int32)) false) ∧ (¬ ((hI (sI (sI H1 (tg H1 a5) a5 (0 : Int32).toNatClampNeg r4) (tg (sI H1 (tg H1 a5) a5 (0 : Int32).toNatClampNeg r4) a5) a5 (1 : Int32).toNatClampNeg (1 : Int32)) (tg (sI (sI H1 (tg H1 a5) a5 (0 : Int32).toNatClampNeg r4) (tg (sI H1 (tg H1 a5) a5 (0 : Int32).toNatClampNeg r4) a5) a5 (1 : Int32).toNatClampNeg (1 : Int32)) a5) a5 (1 : Int32).toNatClampNeg) < 0) → q (sI (sI H1 (tg H1 a5) a5 (0 : Int32).toNatClampNeg r4) (tg (sI H1 (tg H1 a5) a5 (0 : Int32).toNatClampNeg r4) a5) a5 (1 : Int32).toNatClampNeg (1 : Int32)) true))))) ∧ (¬ ((hI (sI (sI H1 (tg H1 a5) a5 (0 : Int32).toNatClampNeg r4) (tg (sI H1 (tg H1 a5) a5 (0 : Int32).toNatClampNeg r4) a5) a5 (1 : Int32).toNatClampNeg (1 : Int32)) (tg (sI (sI H1 (tg H1 a5) a5 (0 : Int32).toNatClampNeg r4) (tg (sI H1 (tg H1 a5) a5 (0 : Int32).toNatClampNeg r4) a5) a5 (1 : Int32).toNatClampNeg (1 : Int32)) a5) a5 (0 : Int32).toNatClampNeg) < 0) → tg (sI (sI H1 (tg H1 a5) a5 (0 : Int32).toNatClampNeg r4) (tg (sI H1 (tg H1 a5) a5 (0 : Int32).toNatClampNeg r4) a5) a5 (1 : Int32).toNatClampNeg (1 : Int32)) a2 = 8 ∧ (CZ d 0 0 mX7_takes [rv o0, .int (47 : Int32)] (sI (sI H1 (tg H1 a5) a5 (0 : Int32).toNatClampNeg r4) (tg (sI H1 (tg H1 a5) a5 (0 : Int32).toNatClampNeg r4) a5) a5 (1 : Int32).toNatClampNeg (1 : Int32)) (fun H12 b14 => (b14 = false → isA H12 a5 0 ∧ (vp_in (0 : Int32) (ln H12 a5) ∧ (((hI H12 (tg H12 a5) a5 (0 : Int32).toNatClampNeg) < 0 → q H12 false) ∧ (¬ ((hI H12 (tg H12 a5) a5 (0 : Int32).toNatClampNeg) < 0) → vp_in (1 : Int32) (ln H12 a5) ∧ (((hI H12 (tg H12 a5) a5 (1 : Int32).toNatClampNeg) < 0 → q H12 false) ∧ (¬ ((hI H12 (tg H12 a5) a5 (1 : Int32).toNatClampNeg) < 0) → q H12 true)))))) ∧ (b14 = true → tg H12 a2 = 8 ∧ (CI d 0 0 mX7_takeNumber [rv o0] H12 (fun H18 r20 => isA H18 a5 0 ∧ (vp_in (1 : Int32) (ln H18 a5) ∧ (vp_in (0 : Int32) (ln (sI H18 (tg H18 a5) a5 (1 : Int32).toNatClampNeg r20) a5) ∧ (((hI (sI H18 (tg H18 a5) a5 (1 : Int32).toNatClampNeg r20) (tg (sI H18 (tg H18 a5) a5 (1 : Int32).toNatClampNeg r20) a5) a5 (0 : Int32).toNatClampNeg) < 0 → q (sI H18 (tg H18 a5) a5 (1 : Int32).toNatClampNeg r20) false) ∧ (¬ ((hI (sI H18 (tg H18 a5) a5 (1 : Int32).toNatClampNeg r20) (tg (sI H18 (tg H18 a5) a5 (1 : Int32).toNatClampNeg r20) a5) a5 (0 : Int32).toNatClampNeg) < 0) → vp_in (1 : Int32) (ln (sI H18 (tg H18 a5) a5 (1 : Int32).toNatClampNeg r20) a5) ∧ (((hI (sI H18 (tg H18 a5) a5 (1 : Int32).toNatClampNeg r20) (tg (sI H18 (tg H18 a5) a5 (1 : Int32).toNatClampNeg r20) a5) a5 (1 : Int32).toNatClampNeg) < 0 → q (sI H18 (tg H18 a5) a5 (1 : Int32).toNatClampNeg r20) false) ∧ (¬ ((hI (sI H18 (tg H18 a5) a5 (1 : Int32).toNatClampNeg r20) (tg (sI H18 (tg H18 a5) a5 (1 : Int32).toNatClampNeg r20) a5) a5 (1 : Int32).toNatClampNeg) < 0) → q (sI H18 (tg H18 a5) a5 (1 : Int32).toNatClampNeg r20) true))))))))))))))))))))
set_option maxRecDepth 40000 in
set_option maxHeartbeats 4000000 in
theorem T_X1_readRatio_0 {d : Nat} {q : HP → Bool → Prop} {o0 : Option Nat} {o1 : Option Nat} {H : HP} (h : wb_X1_readRatio_0 d q o0 o1 H) : WP (d + 1) mX1_readRatio 0 0 0 [(0, rv o0), (1, rv o1)] [] H (qZ q) := by
  unfold wb_X1_readRatio_0 at h
  refine wp_aload_n 1 dX1_readRatio_0 rfl ?_
  refine wp_iconst (v := (0 : Int32)) dX1_readRatio_1 (by decide) ?_
  refine wp_aload_n 0 dX1_readRatio_2 rfl ?_
  obtain ⟨a2, ha2, h⟩ := h
  obtain ⟨ht3, h⟩ := h
  refine wp_callV (ci := 7) (As := []) (rest := [.int (0 : Int32), rv o1]) (mc := 0) (ms := 0) dX1_readRatio_3 lk_X1_82 rfl rfl (by simp [rv_cat, vc_int, vc_long, vc_float, vc_double]) ha2 rfl rfl ht3 rfl rfl rfl w_3_37 (Call.weaken h ?_)
  rintro H1 _ ⟨r4, rfl, h⟩
  change WP _ _ _ _ _ _ [.int r4, .int (0 : Int32), rv o1] H1 _
  obtain ⟨a5, ha5, h⟩ := h
  obtain ⟨hr6, h⟩ := h
  obtain ⟨hg7, h⟩ := h
  refine wp_iastore dX1_readRatio_6 ha5 hr6 hg7 ?_
  change WP _ _ _ _ _ _ _ (sI H1 (tg H1 a5) a5 (0 : Int32).toNatClampNeg r4) _
  refine wp_aload_n 1 dX1_readRatio_7 rfl ?_
  refine wp_iconst (v := (1 : Int32)) dX1_readRatio_8 (by decide) ?_
  refine wp_iconst (v := (1 : Int32)) dX1_readRatio_9 (by decide) ?_
  obtain ⟨hg8, h⟩ := h
  refine wp_iastore dX1_readRatio_10 ha5 hr6 hg8 ?_
  change WP _ _ _ _ _ _ _ (sI (sI H1 (tg H1 a5) a5 (0 : Int32).toNatClampNeg r4) (tg (sI H1 (tg H1 a5) a5 (0 : Int32).toNatClampNeg r4) a5) a5 (1 : Int32).toNatClampNeg (1 : Int32)) _
  refine wp_aload_n 1 dX1_readRatio_11 rfl ?_
  refine wp_iconst (v := (0 : Int32)) dX1_readRatio_12 (by decide) ?_
  obtain ⟨hg9, h⟩ := h
  refine wp_iaload dX1_readRatio_13 ha5 hr6 hg9 ?_
  refine wp_if_lt (tgt := 33) dX1_readRatio_14 rfl (fun c => ?_) (fun c => ?_)
  · replace h := h.1 c
    refine wp_aload_n 1 dX1_readRatio_33 rfl ?_
    refine wp_iconst (v := (0 : Int32)) dX1_readRatio_34 (by decide) ?_
    obtain ⟨hg10, h⟩ := h
    refine wp_iaload dX1_readRatio_35 ha5 hr6 hg10 ?_
    refine wp_if_lt (tgt := 49) dX1_readRatio_36 rfl (fun c => ?_) (fun c => ?_)
    · replace h := h.1 c
      refine wp_iconst (v := (0 : Int32)) dX1_readRatio_49 (by decide) ?_
      exact wp_ireturn (ty := .boolean) dX1_readRatio_50 rfl rfl ⟨false, rfl, h⟩
    · replace h := h.2 c
      refine wp_aload_n 1 dX1_readRatio_39 rfl ?_
      refine wp_iconst (v := (1 : Int32)) dX1_readRatio_40 (by decide) ?_
      obtain ⟨hg11, h⟩ := h
      refine wp_iaload dX1_readRatio_41 ha5 hr6 hg11 ?_
      refine wp_if_lt (tgt := 49) dX1_readRatio_42 rfl (fun c => ?_) (fun c => ?_)
      · replace h := h.1 c
        refine wp_iconst (v := (0 : Int32)) dX1_readRatio_49 (by decide) ?_
        exact wp_ireturn (ty := .boolean) dX1_readRatio_50 rfl rfl ⟨false, rfl, h⟩
      · replace h := h.2 c
        refine wp_iconst (v := (1 : Int32)) dX1_readRatio_45 (by decide) ?_
        refine wp_goto (tgt := 50) dX1_readRatio_46 rfl ?_
        exact wp_ireturn (ty := .boolean) dX1_readRatio_50 rfl rfl ⟨true, rfl, h⟩
  · replace h := h.2 c
    refine wp_aload_n 0 dX1_readRatio_17 rfl ?_
    refine wp_bipush (v := (47 : Int32)) dX1_readRatio_18 (by decide) ?_
    obtain ⟨ht13, h⟩ := h
    refine wp_callV (ci := 7) (As := [.int (47 : Int32)]) (rest := []) (mc := 0) (ms := 0) dX1_readRatio_20 lk_X1_59 rfl rfl (by decide) ha2 rfl rfl ht13 rfl rfl rfl w_3_30 (Call.weaken h ?_)
    rintro H12 _ ⟨b14, rfl, h⟩
    change WP _ _ _ _ _ _ [.int (bI b14)] H12 _
    refine wp_if_eq (tgt := 33) dX1_readRatio_23 rfl (fun c => ?_) (fun c => ?_)
    · replace h := h.1 (bI_0.mp c)
      refine wp_aload_n 1 dX1_readRatio_33 rfl ?_
      refine wp_iconst (v := (0 : Int32)) dX1_readRatio_34 (by decide) ?_
      obtain ⟨hr15, h⟩ := h
      obtain ⟨hg16, h⟩ := h
      refine wp_iaload dX1_readRatio_35 ha5 hr15 hg16 ?_
      refine wp_if_lt (tgt := 49) dX1_readRatio_36 rfl (fun c => ?_) (fun c => ?_)
      · replace h := h.1 c
        refine wp_iconst (v := (0 : Int32)) dX1_readRatio_49 (by decide) ?_
        exact wp_ireturn (ty := .boolean) dX1_readRatio_50 rfl rfl ⟨false, rfl, h⟩
      · replace h := h.2 c
        refine wp_aload_n 1 dX1_readRatio_39 rfl ?_
        refine wp_iconst (v := (1 : Int32)) dX1_readRatio_40 (by decide) ?_
        obtain ⟨hg17, h⟩ := h
        refine wp_iaload dX1_readRatio_41 ha5 hr15 hg17 ?_
        refine wp_if_lt (tgt := 49) dX1_readRatio_42 rfl (fun c => ?_) (fun c => ?_)
        · replace h := h.1 c
          refine wp_iconst (v := (0 : Int32)) dX1_readRatio_49 (by decide) ?_
          exact wp_ireturn (ty := .boolean) dX1_readRatio_50 rfl rfl ⟨false, rfl, h⟩
        · replace h := h.2 c
          refine wp_iconst (v := (1 : Int32)) dX1_readRatio_45 (by decide) ?_
          refine wp_goto (tgt := 50) dX1_readRatio_46 rfl ?_
          exact wp_ireturn (ty := .boolean) dX1_readRatio_50 rfl rfl ⟨true, rfl, h⟩
    · replace h := h.2 (bI_1.mp c)
      refine wp_aload_n 1 dX1_readRatio_26 rfl ?_
      refine wp_iconst (v := (1 : Int32)) dX1_readRatio_27 (by decide) ?_
      refine wp_aload_n 0 dX1_readRatio_28 rfl ?_
      obtain ⟨ht19, h⟩ := h
      refine wp_callV (ci := 7) (As := []) (rest := [.int (1 : Int32), rv o1]) (mc := 0) (ms := 0) dX1_readRatio_29 lk_X1_82 rfl rfl (by simp [rv_cat, vc_int, vc_long, vc_float, vc_double]) ha2 rfl rfl ht19 rfl rfl rfl w_3_37 (Call.weaken h ?_)
      rintro H18 _ ⟨r20, rfl, h⟩
      change WP _ _ _ _ _ _ [.int r20, .int (1 : Int32), rv o1] H18 _
      obtain ⟨hr21, h⟩ := h
      obtain ⟨hg22, h⟩ := h
      refine wp_iastore dX1_readRatio_32 ha5 hr21 hg22 ?_
      change WP _ _ _ _ _ _ _ (sI H18 (tg H18 a5) a5 (1 : Int32).toNatClampNeg r20) _
      refine wp_aload_n 1 dX1_readRatio_33 rfl ?_
      refine wp_iconst (v := (0 : Int32)) dX1_readRatio_34 (by decide) ?_
      obtain ⟨hg23, h⟩ := h
      refine wp_iaload dX1_readRatio_35 ha5 hr21 hg23 ?_
      refine wp_if_lt (tgt := 49) dX1_readRatio_36 rfl (fun c => ?_) (fun c => ?_)
      · replace h := h.1 c
        refine wp_iconst (v := (0 : Int32)) dX1_readRatio_49 (by decide) ?_
        exact wp_ireturn (ty := .boolean) dX1_readRatio_50 rfl rfl ⟨false, rfl, h⟩
      · replace h := h.2 c
        refine wp_aload_n 1 dX1_readRatio_39 rfl ?_
        refine wp_iconst (v := (1 : Int32)) dX1_readRatio_40 (by decide) ?_
        obtain ⟨hg24, h⟩ := h
        refine wp_iaload dX1_readRatio_41 ha5 hr21 hg24 ?_
        refine wp_if_lt (tgt := 49) dX1_readRatio_42 rfl (fun c => ?_) (fun c => ?_)
        · replace h := h.1 c
          refine wp_iconst (v := (0 : Int32)) dX1_readRatio_49 (by decide) ?_
          exact wp_ireturn (ty := .boolean) dX1_readRatio_50 rfl rfl ⟨false, rfl, h⟩
        · replace h := h.2 c
          refine wp_iconst (v := (1 : Int32)) dX1_readRatio_45 (by decide) ?_
          refine wp_goto (tgt := 50) dX1_readRatio_46 rfl ?_
          exact wp_ireturn (ty := .boolean) dX1_readRatio_50 rfl rfl ⟨true, rfl, h⟩
theorem C_X1_readRatio {d : Nat} {q : HP → Bool → Prop} {o0 : Option Nat} {o1 : Option Nat} {H : HP} (h : wb_X1_readRatio_0 d q o0 o1 H) : CZ (d + 1) 0 0 mX1_readRatio [rv o0, rv o1] H q := by
  refine call_of (by decide +kernel) (by simp [lg_sl, rv_cat, vc_int, vc_long, vc_float, vc_double]) ?_
  have e : lv_args 0 [rv o0, rv o1] = [(0, rv o0), (1, rv o1)] := by simp [lv_args, rv_cat, vc_int, vc_long, vc_float, vc_double]
  rw [e]
  exact T_X1_readRatio_0 h
def wb_X6_endsByFigure_0 (d : Nat) (q : HP → Bool → Prop) (o0 : Option Nat) (H : HP) : Prop :=
  ∃ a2, o0 = some a2 ∧ (tg H a2 = 8 ∧ (CZ d 0 0 mX7_isPower [rv o0] H (fun H1 b4 => (b4 = false → q H1 false) ∧ (b4 = true → tg H1 a2 = 8 ∧ (CZ d 0 0 mX7_isFigure [rv o0, .int (1 : Int32)] H1 (fun H5 b7 => (b7 = true → q H5 false) ∧ (b7 = false → tg H5 a2 = 8 ∧ (CZ d 0 0 mX7_isLetter [rv o0, .int (1 : Int32)] H5 (fun H8 b10 => (b10 = true → q H8 false) ∧ (b10 = false → tg H8 a2 = 8 ∧ (CI d 0 0 mX7_look [rv o0, .int (1 : Int32)] H8 (fun H11 r13 => (r13 = (46 : Int32) → q H11 false) ∧ (¬ (r13 = (46 : Int32)) → q H11 true)))))))))))))
set_option maxRecDepth 40000 in
set_option maxHeartbeats 4000000 in
theorem T_X6_endsByFigure_0 {d : Nat} {q : HP → Bool → Prop} {o0 : Option Nat} {H : HP} (h : wb_X6_endsByFigure_0 d q o0 H) : WP (d + 1) mX6_endsByFigure 0 0 0 [(0, rv o0)] [] H (qZ q) := by
  unfold wb_X6_endsByFigure_0 at h
  refine wp_aload_n 0 dX6_endsByFigure_0 rfl ?_
  obtain ⟨a2, ha2, h⟩ := h
  obtain ⟨ht3, h⟩ := h
  refine wp_callV (ci := 7) (As := []) (rest := []) (mc := 0) (ms := 0) dX6_endsByFigure_1 lk_X6_79 rfl rfl (by decide) ha2 rfl rfl ht3 rfl rfl rfl w_4_55 (Call.weaken h ?_)
  rintro H1 _ ⟨b4, rfl, h⟩
  change WP _ _ _ _ _ _ [.int (bI b4)] H1 _
  refine wp_if_eq (tgt := 37) dX6_endsByFigure_4 rfl (fun c => ?_) (fun c => ?_)
  · replace h := h.1 (bI_0.mp c)
    refine wp_iconst (v := (0 : Int32)) dX6_endsByFigure_37 (by decide) ?_
    exact wp_ireturn (ty := .boolean) dX6_endsByFigure_38 rfl rfl ⟨false, rfl, h⟩
  · replace h := h.2 (bI_1.mp c)
    refine wp_aload_n 0 dX6_endsByFigure_7 rfl ?_
    refine wp_iconst (v := (1 : Int32)) dX6_endsByFigure_8 (by decide) ?_
    obtain ⟨ht6, h⟩ := h
    refine wp_callV (ci := 7) (As := [.int (1 : Int32)]) (rest := []) (mc := 0) (ms := 0) dX6_endsByFigure_9 lk_X6_58 rfl rfl (by decide) ha2 rfl rfl ht6 rfl rfl rfl w_4_38 (Call.weaken h ?_)
    rintro H5 _ ⟨b7, rfl, h⟩
    change WP _ _ _ _ _ _ [.int (bI b7)] H5 _
    refine wp_if_ne (tgt := 37) dX6_endsByFigure_12 rfl (fun c => ?_) (fun c => ?_)
    · replace h := h.1 (bI_1.mp c)
      refine wp_iconst (v := (0 : Int32)) dX6_endsByFigure_37 (by decide) ?_
      exact wp_ireturn (ty := .boolean) dX6_endsByFigure_38 rfl rfl ⟨false, rfl, h⟩
    · replace h := h.2 (bI_0.mp c)
      refine wp_aload_n 0 dX6_endsByFigure_15 rfl ?_
      refine wp_iconst (v := (1 : Int32)) dX6_endsByFigure_16 (by decide) ?_
      obtain ⟨ht9, h⟩ := h
      refine wp_callV (ci := 7) (As := [.int (1 : Int32)]) (rest := []) (mc := 0) (ms := 0) dX6_endsByFigure_17 lk_X6_83 rfl rfl (by decide) ha2 rfl rfl ht9 rfl rfl rfl w_4_56 (Call.weaken h ?_)
      rintro H8 _ ⟨b10, rfl, h⟩
      change WP _ _ _ _ _ _ [.int (bI b10)] H8 _
      refine wp_if_ne (tgt := 37) dX6_endsByFigure_20 rfl (fun c => ?_) (fun c => ?_)
      · replace h := h.1 (bI_1.mp c)
        refine wp_iconst (v := (0 : Int32)) dX6_endsByFigure_37 (by decide) ?_
        exact wp_ireturn (ty := .boolean) dX6_endsByFigure_38 rfl rfl ⟨false, rfl, h⟩
      · replace h := h.2 (bI_0.mp c)
        refine wp_aload_n 0 dX6_endsByFigure_23 rfl ?_
        refine wp_iconst (v := (1 : Int32)) dX6_endsByFigure_24 (by decide) ?_
        obtain ⟨ht12, h⟩ := h
        refine wp_callV (ci := 7) (As := [.int (1 : Int32)]) (rest := []) (mc := 0) (ms := 0) dX6_endsByFigure_25 lk_X6_86 rfl rfl (by decide) ha2 rfl rfl ht12 rfl rfl rfl w_4_57 (Call.weaken h ?_)
        rintro H11 _ ⟨r13, rfl, h⟩
        change WP _ _ _ _ _ _ [.int r13] H11 _
        refine wp_bipush (v := (46 : Int32)) dX6_endsByFigure_28 (by decide) ?_
        refine wp_icmp_eq (tgt := 37) dX6_endsByFigure_30 rfl (fun c => ?_) (fun c => ?_)
        · replace h := h.1 c
          refine wp_iconst (v := (0 : Int32)) dX6_endsByFigure_37 (by decide) ?_
          exact wp_ireturn (ty := .boolean) dX6_endsByFigure_38 rfl rfl ⟨false, rfl, h⟩
        · replace h := h.2 c
          refine wp_iconst (v := (1 : Int32)) dX6_endsByFigure_33 (by decide) ?_
          refine wp_goto (tgt := 38) dX6_endsByFigure_34 rfl ?_
          exact wp_ireturn (ty := .boolean) dX6_endsByFigure_38 rfl rfl ⟨true, rfl, h⟩
theorem C_X6_endsByFigure {d : Nat} {q : HP → Bool → Prop} {o0 : Option Nat} {H : HP} (h : wb_X6_endsByFigure_0 d q o0 H) : CZ (d + 1) 0 0 mX6_endsByFigure [rv o0] H q := by
  refine call_of (by decide +kernel) (by simp [lg_sl, rv_cat, vc_int, vc_long, vc_float, vc_double]) ?_
  have e : lv_args 0 [rv o0] = [(0, rv o0)] := by simp [lv_args, rv_cat, vc_int, vc_long, vc_float, vc_double]
  rw [e]
  exact T_X6_endsByFigure_0 h
def wb_X6_init_0 (d : Nat) (ca sa : Nat) (q : HP → Prop) (a0 : Nat) (H : HP) : Prop :=
  hN H < scrA ∧ (1 ≤ ca ∧ (4 ≤ sa ∧ (tg (nw H 4480 4) a0 = 7 ∧ (hN (sC (nw H 4480 4) 707 a0 (some (hN H))) < scrA ∧ (1 ≤ (ca - 1) ∧ (4 ≤ (sa - 4) ∧ (tg (nw (sC (nw H 4480 4) 707 a0 (some (hN H))) 4496 4) a0 = 7 ∧ (hN (sC (nw (sC (nw H 4480 4) 707 a0 (some (hN H))) 4496 4) 708 a0 (some (hN (sC (nw H 4480 4) 707 a0 (some (hN H)))))) < scrA ∧ (1 ≤ ((ca - 1) - 1) ∧ (4 ≤ ((sa - 4) - 4) ∧ (tg (nw (sC (nw (sC (nw H 4480 4) 707 a0 (some (hN H))) 4496 4) 708 a0 (some (hN (sC (nw H 4480 4) 707 a0 (some (hN H)))))) 4512 4) a0 = 7 ∧ (∀ H13, (sC (nw (sC (nw (sC (nw H 4480 4) 707 a0 (some (hN H))) 4496 4) 708 a0 (some (hN (sC (nw H 4480 4) 707 a0 (some (hN H)))))) 4512 4) 709 a0 (some (hN (sC (nw (sC (nw H 4480 4) 707 a0 (some (hN H))) 4496 4) 708 a0 (some (hN (sC (nw H 4480 4) 707 a0 (some (hN H))))))))) = H13 → (hN H13 < scrA ∧ (1 ≤ (((ca - 1) - 1) - 1) ∧ (4 ≤ (((sa - 4) - 4) - 4) ∧ (tg (nw H13 4528 4) a0 = 7 ∧ (hN (sC (nw H13 4528 4) 710 a0 (some (hN H13))) < scrA ∧ (1 ≤ ((((ca - 1) - 1) - 1) - 1) ∧ (5 ≤ ((((sa - 4) - 4) - 4) - 4) ∧ (tg (nw (sC (nw H13 4528 4) 710 a0 (some (hN H13))) 4544 5) a0 = 7 ∧ (hN (sC (nw (sC (nw H13 4528 4) 710 a0 (some (hN H13))) 4544 5) 711 a0 (some (hN (sC (nw H13 4528 4) 710 a0 (some (hN H13)))))) < scrA ∧ (1 ≤ (((((ca - 1) - 1) - 1) - 1) - 1) ∧ (2 ≤ (((((sa - 4) - 4) - 4) - 4) - 5) ∧ (CV d 0 0 mX3_init [rv (some (hN (sC (nw (sC (nw H13 4528 4) 710 a0 (some (hN H13))) 4544 5) 711 a0 (some (hN (sC (nw H13 4528 4) 710 a0 (some (hN H13))))))))] (nw (sC (nw (sC (nw H13 4528 4) 710 a0 (some (hN H13))) 4544 5) 711 a0 (some (hN (sC (nw H13 4528 4) 710 a0 (some (hN H13)))))) 4 0) (fun H27 => tg H27 a0 = 7 ∧ (q (sC H27 712 a0 (some (hN (sC (nw (sC (nw H13 4528 4) 710 a0 (some (hN H13))) 4544 5) 711 a0 (some (hN (sC (nw H13 4528 4) 710 a0 (some (hN H13)))))))))))))))))))))))))))))))))))
set_option maxRecDepth 40000 in
set_option maxHeartbeats 4000000 in
theorem T_X6_init_0 {d : Nat} {ca sa : Nat} {q : HP → Prop} {a0 : Nat} {H : HP} (h : wb_X6_init_0 d ca sa q a0 H) : WP (d + 1) mX6_init ca sa 0 [(0, rv (some a0))] [] H (qV q) := by
  unfold wb_X6_init_0 at h
  refine wp_aload_n 0 dX6_init_0 rfl ?_
  refine wp_objInit dX6_init_1 w_2_0 w_1_29 w_1_30 rfl (by decide) (by omega) ?_
  refine wp_aload_n 0 dX6_init_4 rfl ?_
  refine wp_iconst (v := (4 : Int32)) dX6_init_5 (by decide) ?_
  obtain ⟨hg1, h⟩ := h
  obtain ⟨hg2, h⟩ := h
  obtain ⟨hg3, h⟩ := h
  refine wp_newarray (t := 4480) (N := 4) (ca' := ca - 1) (sa' := sa - 4) dX6_init_6 w_1_88 (by decide) rfl (by decide) (by decide) (by decide +kernel) hg1 (by omega) (by omega) ?_
  obtain ⟨ht4, h⟩ := h
  refine wp_putC (ci := 6) (j := 7) dX6_init_8 fi_X6_11 rfl (fun _ => rfl) rfl ht4 (Or.inr ⟨_, rfl⟩) ?_
  change WP _ _ _ _ _ _ _ (sC (nw H 4480 4) 707 a0 (some (hN H))) _
  refine wp_aload_n 0 dX6_init_11 rfl ?_
  refine wp_iconst (v := (4 : Int32)) dX6_init_12 (by decide) ?_
  obtain ⟨hg5, h⟩ := h
  obtain ⟨hg6, h⟩ := h
  obtain ⟨hg7, h⟩ := h
  refine wp_newarray (t := 4496) (N := 4) (ca' := (ca - 1) - 1) (sa' := (sa - 4) - 4) dX6_init_13 w_1_88 (by decide) rfl (by decide) (by decide) (by decide +kernel) hg5 (by omega) (by omega) ?_
  obtain ⟨ht8, h⟩ := h
  refine wp_putC (ci := 6) (j := 8) dX6_init_15 fi_X6_15 rfl (fun _ => rfl) rfl ht8 (Or.inr ⟨_, rfl⟩) ?_
  change WP _ _ _ _ _ _ _ (sC (nw (sC (nw H 4480 4) 707 a0 (some (hN H))) 4496 4) 708 a0 (some (hN (sC (nw H 4480 4) 707 a0 (some (hN H)))))) _
  refine wp_aload_n 0 dX6_init_18 rfl ?_
  refine wp_iconst (v := (4 : Int32)) dX6_init_19 (by decide) ?_
  obtain ⟨hg9, h⟩ := h
  obtain ⟨hg10, h⟩ := h
  obtain ⟨hg11, h⟩ := h
  refine wp_newarray (t := 4512) (N := 4) (ca' := ((ca - 1) - 1) - 1) (sa' := ((sa - 4) - 4) - 4) dX6_init_20 w_1_88 (by decide) rfl (by decide) (by decide) (by decide +kernel) hg9 (by omega) (by omega) ?_
  obtain ⟨ht12, h⟩ := h
  refine wp_putC (ci := 6) (j := 9) dX6_init_22 fi_X6_18 rfl (fun _ => rfl) rfl ht12 (Or.inr ⟨_, rfl⟩) ?_
  change WP _ _ _ _ _ _ _ (sC (nw (sC (nw (sC (nw H 4480 4) 707 a0 (some (hN H))) 4496 4) 708 a0 (some (hN (sC (nw H 4480 4) 707 a0 (some (hN H)))))) 4512 4) 709 a0 (some (hN (sC (nw (sC (nw H 4480 4) 707 a0 (some (hN H))) 4496 4) 708 a0 (some (hN (sC (nw H 4480 4) 707 a0 (some (hN H))))))))) _
  replace h := h _ rfl
  generalize e14 : (sC (nw (sC (nw (sC (nw H 4480 4) 707 a0 (some (hN H))) 4496 4) 708 a0 (some (hN (sC (nw H 4480 4) 707 a0 (some (hN H)))))) 4512 4) 709 a0 (some (hN (sC (nw (sC (nw H 4480 4) 707 a0 (some (hN H))) 4496 4) 708 a0 (some (hN (sC (nw H 4480 4) 707 a0 (some (hN H))))))))) = H13 at h ⊢
  have ht15 : tg H13 a0 = 7 := by rw [← e14]; exact ht12
  refine wp_aload_n 0 dX6_init_25 rfl ?_
  refine wp_iconst (v := (4 : Int32)) dX6_init_26 (by decide) ?_
  obtain ⟨hg16, h⟩ := h
  obtain ⟨hg17, h⟩ := h
  obtain ⟨hg18, h⟩ := h
  refine wp_newarray (t := 4528) (N := 4) (ca' := (((ca - 1) - 1) - 1) - 1) (sa' := (((sa - 4) - 4) - 4) - 4) dX6_init_27 w_1_88 (by decide) rfl (by decide) (by decide) (by decide +kernel) hg16 (by omega) (by omega) ?_
  obtain ⟨ht19, h⟩ := h
  refine wp_putC (ci := 6) (j := 10) dX6_init_29 fi_X6_21 rfl (fun _ => rfl) rfl ht19 (Or.inr ⟨_, rfl⟩) ?_
  change WP _ _ _ _ _ _ _ (sC (nw H13 4528 4) 710 a0 (some (hN H13))) _
  refine wp_aload_n 0 dX6_init_32 rfl ?_
  refine wp_iconst (v := (5 : Int32)) dX6_init_33 (by decide) ?_
  obtain ⟨hg20, h⟩ := h
  obtain ⟨hg21, h⟩ := h
  obtain ⟨hg22, h⟩ := h
  refine wp_newarray (t := 4544) (N := 5) (ca' := ((((ca - 1) - 1) - 1) - 1) - 1) (sa' := ((((sa - 4) - 4) - 4) - 4) - 5) dX6_init_34 w_1_88 (by decide) rfl (by decide) (by decide) (by decide +kernel) hg20 (by omega) (by omega) ?_
  obtain ⟨ht23, h⟩ := h
  refine wp_putC (ci := 6) (j := 11) dX6_init_36 fi_X6_24 rfl (fun _ => rfl) rfl ht23 (Or.inr ⟨_, rfl⟩) ?_
  change WP _ _ _ _ _ _ _ (sC (nw (sC (nw H13 4528 4) 710 a0 (some (hN H13))) 4544 5) 711 a0 (some (hN (sC (nw H13 4528 4) 710 a0 (some (hN H13)))))) _
  refine wp_aload_n 0 dX6_init_39 rfl ?_
  obtain ⟨hg24, h⟩ := h
  obtain ⟨hg25, h⟩ := h
  obtain ⟨hg26, h⟩ := h
  refine wp_new (ca' := (((((ca - 1) - 1) - 1) - 1) - 1) - 1) (sa' := (((((sa - 4) - 4) - 4) - 4) - 5) - 2) dX6_init_40 (ci := 3) (N := 2) rfl w_2_1 w_1_68 w_1_5 inG3 tyX3_ok (by decide) hg24 (by omega) (by omega) ?_
  refine wp_dup dX6_init_43 (rv_cat _) ?_
  refine wp_callI (As := []) (rest := [rv (some (hN (sC (nw (sC (nw H13 4528 4) 710 a0 (some (hN H13))) 4544 5) 711 a0 (some (hN (sC (nw H13 4528 4) 710 a0 (some (hN H13)))))))), rv (some a0)]) (mc := 0) (ms := 0) (ca' := ((((((ca - 1) - 1) - 1) - 1) - 1) - 1)) (sa' := ((((((sa - 4) - 4) - 4) - 4) - 5) - 2)) dX6_init_44 lk_X6_29 rfl rfl (by simp [rv_cat, vc_int, vc_long, vc_float, vc_double]) rfl rfl rfl rfl (Call.weaken h ?_)
  rintro H27 _ ⟨rfl, h⟩
  change WP _ _ _ _ _ _ [rv (some (hN (sC (nw (sC (nw H13 4528 4) 710 a0 (some (hN H13))) 4544 5) 711 a0 (some (hN (sC (nw H13 4528 4) 710 a0 (some (hN H13)))))))), rv (some a0)] H27 _
  obtain ⟨ht28, h⟩ := h
  refine wp_putC (ci := 6) (j := 12) dX6_init_47 fi_X6_30 rfl (fun _ => rfl) rfl ht28 (Or.inl ⟨_, rfl⟩) ?_
  change WP _ _ _ _ _ _ _ (sC H27 712 a0 (some (hN (sC (nw (sC (nw H13 4528 4) 710 a0 (some (hN H13))) 4544 5) 711 a0 (some (hN (sC (nw H13 4528 4) 710 a0 (some (hN H13))))))))) _
  exact wp_return dX6_init_50 rfl ⟨rfl, h⟩
theorem C_X6_init {d : Nat} {ca sa : Nat} {q : HP → Prop} {a0 : Nat} {H : HP} (h : wb_X6_init_0 d ca sa q a0 H) : CV (d + 1) ca sa mX6_init [rv (some a0)] H q := by
  refine call_of (by decide +kernel) (by simp [lg_sl, rv_cat, vc_int, vc_long, vc_float, vc_double]) ?_
  have e : lv_args 0 [rv (some a0)] = [(0, rv (some a0))] := by simp [lv_args, rv_cat, vc_int, vc_long, vc_float, vc_double]
  rw [e]
  exact T_X6_init_0 h
def wb_X6_isShiftedItself_0 (d : Nat) (q : HP → Bool → Prop) (a0 : Nat) (H : HP) : Prop :=
  tg H a0 = 7 ∧ (((hI H 704 a0 0) = 0 → q H false) ∧ (¬ ((hI H 704 a0 0) = 0) → (¬ (hI H 703 a0 0) = 0 → q H false) ∧ ((hI H 703 a0 0) = 0 → q H true)))
set_option maxRecDepth 40000 in
set_option maxHeartbeats 4000000 in
theorem T_X6_isShiftedItself_0 {d : Nat} {q : HP → Bool → Prop} {a0 : Nat} {H : HP} (h : wb_X6_isShiftedItself_0 d q a0 H) : WP (d + 1) mX6_isShiftedItself 0 0 0 [(0, rv (some a0))] [] H (qZ q) := by
  unfold wb_X6_isShiftedItself_0 at h
  refine wp_aload_n 0 dX6_isShiftedItself_0 rfl ?_
  obtain ⟨ht1, h⟩ := h
  refine wp_getI (ci := 6) (j := 4) dX6_isShiftedItself_1 fi_X6_49r rfl rfl ht1 ?_
  change WP _ _ _ _ _ _ (.int (hI H 704 a0 0) :: _) _ _
  refine wp_if_eq (tgt := 18) dX6_isShiftedItself_4 rfl (fun c => ?_) (fun c => ?_)
  · replace h := h.1 c
    refine wp_iconst (v := (0 : Int32)) dX6_isShiftedItself_18 (by decide) ?_
    exact wp_ireturn (ty := .boolean) dX6_isShiftedItself_19 rfl rfl ⟨false, rfl, h⟩
  · replace h := h.2 c
    refine wp_aload_n 0 dX6_isShiftedItself_7 rfl ?_
    refine wp_getI (ci := 6) (j := 3) dX6_isShiftedItself_8 fi_X6_45r rfl rfl ht1 ?_
    change WP _ _ _ _ _ _ (.int (hI H 703 a0 0) :: _) _ _
    refine wp_if_ne (tgt := 18) dX6_isShiftedItself_11 rfl (fun c => ?_) (fun c => ?_)
    · replace h := h.1 c
      refine wp_iconst (v := (0 : Int32)) dX6_isShiftedItself_18 (by decide) ?_
      exact wp_ireturn (ty := .boolean) dX6_isShiftedItself_19 rfl rfl ⟨false, rfl, h⟩
    · replace h := h.2 c
      refine wp_iconst (v := (1 : Int32)) dX6_isShiftedItself_14 (by decide) ?_
      refine wp_goto (tgt := 19) dX6_isShiftedItself_15 rfl ?_
      exact wp_ireturn (ty := .boolean) dX6_isShiftedItself_19 rfl rfl ⟨true, rfl, h⟩
theorem C_X6_isShiftedItself {d : Nat} {q : HP → Bool → Prop} {a0 : Nat} {H : HP} (h : wb_X6_isShiftedItself_0 d q a0 H) : CZ (d + 1) 0 0 mX6_isShiftedItself [rv (some a0)] H q := by
  refine call_of (by decide +kernel) (by simp [lg_sl, rv_cat, vc_int, vc_long, vc_float, vc_double]) ?_
  have e : lv_args 0 [rv (some a0)] = [(0, rv (some a0))] := by simp [lv_args, rv_cat, vc_int, vc_long, vc_float, vc_double]
  rw [e]
  exact T_X6_isShiftedItself_0 h
def wb_X6_judge_0 (d : Nat) (q : HP → Int32 → Prop) (a0 : Nat) (o1 : Option Nat) (o2 : Option Nat) (H : HP) : Prop :=
  tg H a0 = 7 ∧ (((hR H 701 a0 0) = none → ((hI H 705 a0 0) ≤ (1 : Int32) → ∃ a3, o1 = some a3 ∧ (isA H a3 6 ∧ (vp_in (0 : Int32) (ln H a3) ∧ (CI d 0 0 mX6_judgeSingle [rv (some a0), rv (hR H (tg H a3) a3 (0 : Int32).toNatClampNeg)] H (fun H6 r7 => q H6 r7))))) ∧ (¬ ((hI H 705 a0 0) ≤ (1 : Int32)) → CI d 0 0 mX6_judgeMixed [rv (some a0), rv o1, rv o2] H (fun H8 r9 => q H8 r9))) ∧ (∀ a2, (hR H 701 a0 0) = some a2 → ((hR H 702 a0 0) = none → ((hI H 705 a0 0) ≤ (1 : Int32) → ∃ a11, o1 = some a11 ∧ (isA H a11 6 ∧ (vp_in (0 : Int32) (ln H a11) ∧ (CI d 0 0 mX6_judgeSingle [rv (some a0), rv (hR H (tg H a11) a11 (0 : Int32).toNatClampNeg)] H (fun H14 r15 => q H14 r15))))) ∧ (¬ ((hI H 705 a0 0) ≤ (1 : Int32)) → CI d 0 0 mX6_judgeMixed [rv (some a0), rv o1, rv o2] H (fun H16 r17 => q H16 r17))) ∧ (∀ a10, (hR H 702 a0 0) = some a10 → ((hI H 700 a0 0) = (1 : Int32) → CI d 0 0 mX6_judgeProduct [rv (some a0)] H (fun H18 r19 => q H18 r19)) ∧ (¬ ((hI H 700 a0 0) = (1 : Int32)) → (¬ (hI H 700 a0 0) = (2 : Int32) → CI d 0 0 mX6_judgeSum [rv (some a0)] H (fun H20 r21 => q H20 r21)) ∧ ((hI H 700 a0 0) = (2 : Int32) → CI d 0 0 mX6_judgeProduct [rv (some a0)] H (fun H22 r23 => q H22 r23))))))
set_option maxRecDepth 40000 in
set_option maxHeartbeats 4000000 in
theorem T_X6_judge_0 {d : Nat} {q : HP → Int32 → Prop} {a0 : Nat} {o1 : Option Nat} {o2 : Option Nat} {H : HP} (h : wb_X6_judge_0 d q a0 o1 o2 H) : WP (d + 1) mX6_judge 0 0 0 [(0, rv (some a0)), (1, rv o1), (2, rv o2)] [] H (qI q) := by
  unfold wb_X6_judge_0 at h
  refine wp_aload_n 0 dX6_judge_0 rfl ?_
  obtain ⟨ht1, h⟩ := h
  refine wp_getR (ci := 6) (j := 1) dX6_judge_1 fi_X6_38r rfl rfl ht1 ?_
  change WP _ _ _ _ _ _ (rv (hR H 701 a0 0) :: _) _ _
  refine wp_ifnull (tgt := 14) dX6_judge_4 rfl (fun c => ?_) (fun a2 ha2 => ?_)
  · replace h := h.1 c
    refine wp_aload_n 0 dX6_judge_14 rfl ?_
    refine wp_getI (ci := 6) (j := 5) dX6_judge_15 fi_X6_52r rfl rfl ht1 ?_
    change WP _ _ _ _ _ _ (.int (hI H 705 a0 0) :: _) _ _
    refine wp_iconst (v := (1 : Int32)) dX6_judge_18 (by decide) ?_
    refine wp_icmp_le (tgt := 31) dX6_judge_19 rfl (fun c => ?_) (fun c => ?_)
    · replace h := h.1 c
      refine wp_aload_n 0 dX6_judge_31 rfl ?_
      refine wp_aload_n 1 dX6_judge_32 rfl ?_
      refine wp_iconst (v := (0 : Int32)) dX6_judge_33 (by decide) ?_
      obtain ⟨a3, ha3, h⟩ := h
      obtain ⟨hr4, h⟩ := h
      obtain ⟨hg5, h⟩ := h
      refine wp_aaload (e := 6) dX6_judge_34 ha3 hr4 (by decide) hg5 ?_
      refine wp_callV (ci := 6) (As := [rv (hR H (tg H a3) a3 (0 : Int32).toNatClampNeg)]) (rest := []) (mc := 0) (ms := 0) dX6_judge_35 lk_X6_109 rfl rfl (by decide) rfl rfl rfl ht1 rfl rfl rfl w_4_99 (Call.weaken h ?_)
      rintro H6 _ ⟨r7, rfl, h⟩
      change WP _ _ _ _ _ _ [.int r7] H6 _
      exact wp_ireturn (ty := .int) dX6_judge_38 rfl rfl ⟨_, rfl, h⟩
    · replace h := h.2 c
      refine wp_aload_n 0 dX6_judge_22 rfl ?_
      refine wp_aload_n 1 dX6_judge_23 rfl ?_
      refine wp_aload_n 2 dX6_judge_24 rfl ?_
      refine wp_callV (ci := 6) (As := [rv o1, rv o2]) (rest := []) (mc := 0) (ms := 0) dX6_judge_25 lk_X6_105 rfl rfl (by decide) rfl rfl rfl ht1 rfl rfl rfl w_4_74 (Call.weaken h ?_)
      rintro H8 _ ⟨r9, rfl, h⟩
      change WP _ _ _ _ _ _ [.int r9] H8 _
      refine wp_goto (tgt := 38) dX6_judge_28 rfl ?_
      exact wp_ireturn (ty := .int) dX6_judge_38 rfl rfl ⟨_, rfl, h⟩
  · replace h := h.2 a2 ha2
    refine wp_aload_n 0 dX6_judge_7 rfl ?_
    refine wp_getR (ci := 6) (j := 2) dX6_judge_8 fi_X6_42r rfl rfl ht1 ?_
    change WP _ _ _ _ _ _ (rv (hR H 702 a0 0) :: _) _ _
    refine wp_ifnonnull (tgt := 39) dX6_judge_11 rfl (fun a10 ha10 => ?_) (fun c => ?_)
    · replace h := h.2 a10 ha10
      refine wp_aload_n 0 dX6_judge_39 rfl ?_
      refine wp_getI (ci := 6) (j := 0) dX6_judge_40 fi_X6_34r rfl rfl ht1 ?_
      change WP _ _ _ _ _ _ (.int (hI H 700 a0 0) :: _) _ _
      refine wp_iconst (v := (1 : Int32)) dX6_judge_43 (by decide) ?_
      refine wp_icmp_eq (tgt := 55) dX6_judge_44 rfl (fun c => ?_) (fun c => ?_)
      · replace h := h.1 c
        refine wp_aload_n 0 dX6_judge_55 rfl ?_
        refine wp_callV (ci := 6) (As := []) (rest := []) (mc := 0) (ms := 0) dX6_judge_56 lk_X6_113 rfl rfl (by decide) rfl rfl rfl ht1 rfl rfl rfl w_4_104 (Call.weaken h ?_)
        rintro H18 _ ⟨r19, rfl, h⟩
        change WP _ _ _ _ _ _ [.int r19] H18 _
        refine wp_goto (tgt := 66) dX6_judge_59 rfl ?_
        exact wp_ireturn (ty := .int) dX6_judge_66 rfl rfl ⟨_, rfl, h⟩
      · replace h := h.2 c
        refine wp_aload_n 0 dX6_judge_47 rfl ?_
        refine wp_getI (ci := 6) (j := 0) dX6_judge_48 fi_X6_34r rfl rfl ht1 ?_
        change WP _ _ _ _ _ _ (.int (hI H 700 a0 0) :: _) _ _
        refine wp_iconst (v := (2 : Int32)) dX6_judge_51 (by decide) ?_
        refine wp_icmp_ne (tgt := 62) dX6_judge_52 rfl (fun c => ?_) (fun c => ?_)
        · replace h := h.1 c
          refine wp_aload_n 0 dX6_judge_62 rfl ?_
          refine wp_callV (ci := 6) (As := []) (rest := []) (mc := 0) (ms := 0) dX6_judge_63 lk_X6_116 rfl rfl (by decide) rfl rfl rfl ht1 rfl rfl rfl w_4_114 (Call.weaken h ?_)
          rintro H20 _ ⟨r21, rfl, h⟩
          change WP _ _ _ _ _ _ [.int r21] H20 _
          exact wp_ireturn (ty := .int) dX6_judge_66 rfl rfl ⟨_, rfl, h⟩
        · replace h := h.2 c
          refine wp_aload_n 0 dX6_judge_55 rfl ?_
          refine wp_callV (ci := 6) (As := []) (rest := []) (mc := 0) (ms := 0) dX6_judge_56 lk_X6_113 rfl rfl (by decide) rfl rfl rfl ht1 rfl rfl rfl w_4_104 (Call.weaken h ?_)
          rintro H22 _ ⟨r23, rfl, h⟩
          change WP _ _ _ _ _ _ [.int r23] H22 _
          refine wp_goto (tgt := 66) dX6_judge_59 rfl ?_
          exact wp_ireturn (ty := .int) dX6_judge_66 rfl rfl ⟨_, rfl, h⟩
    · replace h := h.1 c
      refine wp_aload_n 0 dX6_judge_14 rfl ?_
      refine wp_getI (ci := 6) (j := 5) dX6_judge_15 fi_X6_52r rfl rfl ht1 ?_
      change WP _ _ _ _ _ _ (.int (hI H 705 a0 0) :: _) _ _
      refine wp_iconst (v := (1 : Int32)) dX6_judge_18 (by decide) ?_
      refine wp_icmp_le (tgt := 31) dX6_judge_19 rfl (fun c => ?_) (fun c => ?_)
      · replace h := h.1 c
        refine wp_aload_n 0 dX6_judge_31 rfl ?_
        refine wp_aload_n 1 dX6_judge_32 rfl ?_
        refine wp_iconst (v := (0 : Int32)) dX6_judge_33 (by decide) ?_
        obtain ⟨a11, ha11, h⟩ := h
        obtain ⟨hr12, h⟩ := h
        obtain ⟨hg13, h⟩ := h
        refine wp_aaload (e := 6) dX6_judge_34 ha11 hr12 (by decide) hg13 ?_
        refine wp_callV (ci := 6) (As := [rv (hR H (tg H a11) a11 (0 : Int32).toNatClampNeg)]) (rest := []) (mc := 0) (ms := 0) dX6_judge_35 lk_X6_109 rfl rfl (by decide) rfl rfl rfl ht1 rfl rfl rfl w_4_99 (Call.weaken h ?_)
        rintro H14 _ ⟨r15, rfl, h⟩
        change WP _ _ _ _ _ _ [.int r15] H14 _
        exact wp_ireturn (ty := .int) dX6_judge_38 rfl rfl ⟨_, rfl, h⟩
      · replace h := h.2 c
        refine wp_aload_n 0 dX6_judge_22 rfl ?_
        refine wp_aload_n 1 dX6_judge_23 rfl ?_
        refine wp_aload_n 2 dX6_judge_24 rfl ?_
        refine wp_callV (ci := 6) (As := [rv o1, rv o2]) (rest := []) (mc := 0) (ms := 0) dX6_judge_25 lk_X6_105 rfl rfl (by decide) rfl rfl rfl ht1 rfl rfl rfl w_4_74 (Call.weaken h ?_)
        rintro H16 _ ⟨r17, rfl, h⟩
        change WP _ _ _ _ _ _ [.int r17] H16 _
        refine wp_goto (tgt := 38) dX6_judge_28 rfl ?_
        exact wp_ireturn (ty := .int) dX6_judge_38 rfl rfl ⟨_, rfl, h⟩
theorem C_X6_judge {d : Nat} {q : HP → Int32 → Prop} {a0 : Nat} {o1 : Option Nat} {o2 : Option Nat} {H : HP} (h : wb_X6_judge_0 d q a0 o1 o2 H) : CI (d + 1) 0 0 mX6_judge [rv (some a0), rv o1, rv o2] H q := by
  refine call_of (by decide +kernel) (by simp [lg_sl, rv_cat, vc_int, vc_long, vc_float, vc_double]) ?_
  have e : lv_args 0 [rv (some a0), rv o1, rv o2] = [(0, rv (some a0)), (1, rv o1), (2, rv o2)] := by simp [lv_args, rv_cat, vc_int, vc_long, vc_float, vc_double]
  rw [e]
  exact T_X6_judge_0 h
/-- UnitProver$Step.judgeMixed([LUnitProver$Unit;LUnitProver$Fraction;)I: the loop at 40 -/
def L_X6_judgeMixed_40 (d : Nat) (q : HP → Int32 → Prop) (a0 : Nat) (o1 : Option Nat) (o2 : Option Nat) (x4 : Int32) (H : HP) : Prop := WP (d + 1) mX6_judgeMixed 0 0 40 [(0, rv (some a0)), (1, rv o1), (2, rv o2), (4, .int x4)] [] H (qI q)
def wb_X6_judgeMixed_0 (d : Nat) (q : HP → Int32 → Prop) (a0 : Nat) (o1 : Option Nat) (o2 : Option Nat) (H : HP) : Prop :=
  tg H a0 = 7 ∧ (CI d 0 0 mX6_mixedRefusal [rv (some a0), rv o1] H (fun H1 r3 => (r3 = 0 → ∃ a4, o1 = some a4 ∧ (isA H1 a4 6 ∧ (vp_in (0 : Int32) (ln H1 a4) ∧ (∃ a7, (hR H1 (tg H1 a4) a4 (0 : Int32).toNatClampNeg) = some a7 ∧ (tg H1 a7 = 10 ∧ (tg H1 a0 = 7 ∧ (∃ a10, (hC H1 1002 a7) = some a10 ∧ (isA H1 a10 0 ∧ (∃ a12, (hC H1 711 a0) = some a12 ∧ (isA H1 a12 0 ∧ ((0 : Int32).toNatClampNeg + (5 : Int32).toNatClampNeg ≤ ln H1 a10 ∧ ((0 : Int32).toNatClampNeg + (5 : Int32).toNatClampNeg ≤ ln H1 a12 ∧ (∃ a17, (hC (fI H1 (tg H1 a12) a12 (va_cpy (hI H1 (tg H1 a10) a10) (hI H1 (tg H1 a12) a12) (0 : Int32).toNatClampNeg (0 : Int32).toNatClampNeg (5 : Int32).toNatClampNeg)) 712 a0) = some a17 ∧ (tg (fI H1 (tg H1 a12) a12 (va_cpy (hI H1 (tg H1 a10) a10) (hI H1 (tg H1 a12) a12) (0 : Int32).toNatClampNeg (0 : Int32).toNatClampNeg (5 : Int32).toNatClampNeg)) a17 = 4 ∧ (CV d 0 0 mX3_set [rv (hC (fI H1 (tg H1 a12) a12 (va_cpy (hI H1 (tg H1 a10) a10) (hI H1 (tg H1 a12) a12) (0 : Int32).toNatClampNeg (0 : Int32).toNatClampNeg (5 : Int32).toNatClampNeg)) 712 a0), .long (0 : Int64), .long (1 : Int64)] (fI H1 (tg H1 a12) a12 (va_cpy (hI H1 (tg H1 a10) a10) (hI H1 (tg H1 a12) a12) (0 : Int32).toNatClampNeg (0 : Int32).toNatClampNeg (5 : Int32).toNatClampNeg)) (fun H16 => L_X6_judgeMixed_40 d q a0 o1 o2 (0 : Int32) H16)))))))))))))))) ∧ (¬ (r3 = 0) → q H1 r3)))
set_option maxRecDepth 40000 in
set_option maxHeartbeats 4000000 in
theorem T_X6_judgeMixed_0 {d : Nat} {q : HP → Int32 → Prop} {a0 : Nat} {o1 : Option Nat} {o2 : Option Nat} {H : HP} (h : wb_X6_judgeMixed_0 d q a0 o1 o2 H) : WP (d + 1) mX6_judgeMixed 0 0 0 [(0, rv (some a0)), (1, rv o1), (2, rv o2)] [] H (qI q) := by
  unfold wb_X6_judgeMixed_0 at h
  refine wp_aload_n 0 dX6_judgeMixed_0 rfl ?_
  refine wp_aload_n 1 dX6_judgeMixed_1 rfl ?_
  obtain ⟨ht2, h⟩ := h
  refine wp_callV (ci := 6) (As := [rv o1]) (rest := []) (mc := 0) (ms := 0) dX6_judgeMixed_2 lk_X6_148 rfl rfl (by decide) rfl rfl rfl ht2 rfl rfl rfl w_4_78 (Call.weaken h ?_)
  rintro H1 _ ⟨r3, rfl, h⟩
  change WP _ _ _ _ _ _ [.int r3] H1 _
  refine wp_istore_n (ls' := [(3, .int r3), (0, rv (some a0)), (1, rv o1), (2, rv o2)]) dX6_judgeMixed_5 (by decide) (by change st1 _ 3 _ = _; simp [st1, rv_cat, vc_int, vc_long, vc_float, vc_double]) ?_
  refine wp_iload_n 0 dX6_judgeMixed_6 rfl ?_
  refine wp_if_eq (tgt := 12) dX6_judgeMixed_7 rfl (fun c => ?_) (fun c => ?_)
  · replace h := h.1 c
    refine wp_aload_n 2 dX6_judgeMixed_12 rfl ?_
    refine wp_iconst (v := (0 : Int32)) dX6_judgeMixed_13 (by decide) ?_
    obtain ⟨a4, ha4, h⟩ := h
    obtain ⟨hr5, h⟩ := h
    obtain ⟨hg6, h⟩ := h
    refine wp_aaload (e := 6) dX6_judgeMixed_14 ha4 hr5 (by decide) hg6 ?_
    obtain ⟨a7, ha7, h⟩ := h
    obtain ⟨ht8, h⟩ := h
    refine wp_getC (ci := 9) (j := 2) dX6_judgeMixed_15 fi_X6_128 rfl ha7 ht8 ?_
    change WP _ _ _ _ _ _ (rv (hC H1 1002 a7) :: _) _ _
    refine wp_iconst (v := (0 : Int32)) dX6_judgeMixed_18 (by decide) ?_
    refine wp_aload_n 1 dX6_judgeMixed_19 rfl ?_
    obtain ⟨ht9, h⟩ := h
    refine wp_getC (ci := 6) (j := 11) dX6_judgeMixed_20 fi_X6_24r rfl rfl ht9 ?_
    change WP _ _ _ _ _ _ (rv (hC H1 711 a0) :: _) _ _
    refine wp_iconst (v := (0 : Int32)) dX6_judgeMixed_23 (by decide) ?_
    refine wp_iconst (v := (5 : Int32)) dX6_judgeMixed_24 (by decide) ?_
    obtain ⟨a10, ha10, h⟩ := h
    obtain ⟨hr11, h⟩ := h
    obtain ⟨a12, ha12, h⟩ := h
    obtain ⟨hr13, h⟩ := h
    obtain ⟨hg14, h⟩ := h
    obtain ⟨hg15, h⟩ := h
    refine wp_copyI0 dX6_judgeMixed_25 w_4_85 w_3_134 w_3_133 w_1_19 ha10 hr11 ha12 hr13 (by decide) (by decide) (by decide) hg14 hg15 (by decide) (by omega) ?_
    refine wp_aload_n 1 dX6_judgeMixed_28 rfl ?_
    refine wp_getC (ci := 6) (j := 12) dX6_judgeMixed_29 fi_X6_30r rfl rfl ht9 ?_
    change WP _ _ _ _ _ _ (rv (hC (fI H1 (tg H1 a12) a12 (va_cpy (hI H1 (tg H1 a10) a10) (hI H1 (tg H1 a12) a12) (0 : Int32).toNatClampNeg (0 : Int32).toNatClampNeg (5 : Int32).toNatClampNeg)) 712 a0) :: _) _ _
    refine wp_lconst (v := (0 : Int64)) dX6_judgeMixed_32 (by decide) ?_
    refine wp_lconst (v := (1 : Int64)) dX6_judgeMixed_33 (by decide) ?_
    obtain ⟨a17, ha17, h⟩ := h
    obtain ⟨ht18, h⟩ := h
    refine wp_callV (ci := 3) (As := [.long (0 : Int64), .long (1 : Int64)]) (rest := []) (mc := 0) (ms := 0) dX6_judgeMixed_34 lk_X6_119 rfl rfl (by decide) ha17 rfl rfl ht18 rfl rfl rfl w_4_86 (Call.weaken h ?_)
    rintro H16 _ ⟨rfl, h⟩
    change WP _ _ _ _ _ _ [] H16 _
    refine wp_iconst (v := (0 : Int32)) dX6_judgeMixed_37 (by decide) ?_
    refine wp_istore (ls' := [(4, .int (0 : Int32)), (3, .int r3), (0, rv (some a0)), (1, rv o1), (2, rv o2)]) dX6_judgeMixed_38 (by decide) rfl ?_
    refine wp_sub (ls' := [(0, rv (some a0)), (1, rv o1), (2, rv o2), (4, .int (0 : Int32))]) [2, 3, 4, 0] rfl ?_
    exact h
  · replace h := h.2 c
    refine wp_iload_n 0 dX6_judgeMixed_10 rfl ?_
    exact wp_ireturn (ty := .int) dX6_judgeMixed_11 rfl rfl ⟨_, rfl, h⟩
def wb_X6_judgeMixed_40 (d : Nat) (q : HP → Int32 → Prop) (a0 : Nat) (o1 : Option Nat) (o2 : Option Nat) (x4 : Int32) (H : HP) : Prop :=
  tg H a0 = 7 ∧ (((hI H 705 a0 0) ≤ x4 → q H (0 : Int32)) ∧ (¬ ((hI H 705 a0 0) ≤ x4) → ((4 : Int32) ≤ x4 → q H (0 : Int32)) ∧ (¬ ((4 : Int32) ≤ x4) → ∃ a2, (hC H 707 a0) = some a2 ∧ (isA H a2 0 ∧ (vp_in x4 (ln H a2) ∧ (∃ a5, (hC H 708 a0) = some a5 ∧ (isA H a5 0 ∧ (vp_in x4 (ln H a5) ∧ (∃ a9, o2 = some a9 ∧ (tg H a9 = 4 ∧ (CV d 0 0 mX3_set [rv o2, .long ((hI H (tg H a2) a2 x4.toNatClampNeg).toInt64), .long ((hI H (tg H a5) a5 x4.toNatClampNeg).toInt64)] H (fun H8 => ∃ a11, o1 = some a11 ∧ (isA H8 a11 6 ∧ (vp_in x4 (ln H8 a11) ∧ (∃ a14, (hR H8 (tg H8 a11) a11 x4.toNatClampNeg) = some a14 ∧ (tg H8 a14 = 10 ∧ (tg H8 a9 = 4 ∧ (CZ d 0 0 mX3_multiply [rv o2, rv (hC H8 1003 a14)] H8 (fun H16 b18 => (b18 = false → q H16 (-15 : Int32)) ∧ (b18 = true → tg H16 a0 = 7 ∧ (∃ a21, (hC H16 712 a0) = some a21 ∧ (tg H16 a21 = 4 ∧ (CZ d 0 0 mX3_add [rv (hC H16 712 a0), rv o2] H16 (fun H20 b23 => (b23 = true → L_X6_judgeMixed_40 d q a0 o1 o2 (x4 + 1) H20) ∧ (b23 = false → q H20 (-15 : Int32))))))))))))))))))))))))))
set_option maxRecDepth 40000 in
set_option maxHeartbeats 4000000 in
theorem T_X6_judgeMixed_40 {d : Nat} {q : HP → Int32 → Prop} {a0 : Nat} {o1 : Option Nat} {o2 : Option Nat} {x4 : Int32} {H : HP} (h : wb_X6_judgeMixed_40 d q a0 o1 o2 x4 H) : L_X6_judgeMixed_40 d q a0 o1 o2 x4 H := by
  unfold wb_X6_judgeMixed_40 at h
  unfold L_X6_judgeMixed_40
  refine wp_iload 3 dX6_judgeMixed_40 rfl ?_
  refine wp_aload_n 0 dX6_judgeMixed_42 rfl ?_
  obtain ⟨ht1, h⟩ := h
  refine wp_getI (ci := 6) (j := 5) dX6_judgeMixed_43 fi_X6_52r rfl rfl ht1 ?_
  change WP _ _ _ _ _ _ (.int (hI H 705 a0 0) :: _) _ _
  refine wp_icmp_ge (tgt := 109) dX6_judgeMixed_46 rfl (fun c => ?_) (fun c => ?_)
  · replace h := h.1 c
    refine wp_iconst (v := (0 : Int32)) dX6_judgeMixed_109 (by decide) ?_
    exact wp_ireturn (ty := .int) dX6_judgeMixed_110 rfl rfl ⟨_, rfl, h⟩
  · replace h := h.2 c
    refine wp_iload 3 dX6_judgeMixed_49 rfl ?_
    refine wp_iconst (v := (4 : Int32)) dX6_judgeMixed_51 (by decide) ?_
    refine wp_icmp_ge (tgt := 109) dX6_judgeMixed_52 rfl (fun c => ?_) (fun c => ?_)
    · replace h := h.1 c
      refine wp_iconst (v := (0 : Int32)) dX6_judgeMixed_109 (by decide) ?_
      exact wp_ireturn (ty := .int) dX6_judgeMixed_110 rfl rfl ⟨_, rfl, h⟩
    · replace h := h.2 c
      refine wp_aload_n 2 dX6_judgeMixed_55 rfl ?_
      refine wp_aload_n 0 dX6_judgeMixed_56 rfl ?_
      refine wp_getC (ci := 6) (j := 7) dX6_judgeMixed_57 fi_X6_11r rfl rfl ht1 ?_
      change WP _ _ _ _ _ _ (rv (hC H 707 a0) :: _) _ _
      refine wp_iload 3 dX6_judgeMixed_60 rfl ?_
      obtain ⟨a2, ha2, h⟩ := h
      obtain ⟨hr3, h⟩ := h
      obtain ⟨hg4, h⟩ := h
      refine wp_iaload dX6_judgeMixed_62 ha2 hr3 hg4 ?_
      refine wp_i2l dX6_judgeMixed_63 ?_
      refine wp_aload_n 0 dX6_judgeMixed_64 rfl ?_
      refine wp_getC (ci := 6) (j := 8) dX6_judgeMixed_65 fi_X6_15r rfl rfl ht1 ?_
      change WP _ _ _ _ _ _ (rv (hC H 708 a0) :: _) _ _
      refine wp_iload 3 dX6_judgeMixed_68 rfl ?_
      obtain ⟨a5, ha5, h⟩ := h
      obtain ⟨hr6, h⟩ := h
      obtain ⟨hg7, h⟩ := h
      refine wp_iaload dX6_judgeMixed_70 ha5 hr6 hg7 ?_
      refine wp_i2l dX6_judgeMixed_71 ?_
      obtain ⟨a9, ha9, h⟩ := h
      obtain ⟨ht10, h⟩ := h
      refine wp_callV (ci := 3) (As := [.long ((hI H (tg H a2) a2 x4.toNatClampNeg).toInt64), .long ((hI H (tg H a5) a5 x4.toNatClampNeg).toInt64)]) (rest := []) (mc := 0) (ms := 0) dX6_judgeMixed_72 lk_X6_119 rfl rfl (by decide) ha9 rfl rfl ht10 rfl rfl rfl w_4_86 (Call.weaken h ?_)
      rintro H8 _ ⟨rfl, h⟩
      change WP _ _ _ _ _ _ [] H8 _
      refine wp_aload_n 2 dX6_judgeMixed_75 rfl ?_
      refine wp_aload_n 1 dX6_judgeMixed_76 rfl ?_
      refine wp_iload 3 dX6_judgeMixed_77 rfl ?_
      obtain ⟨a11, ha11, h⟩ := h
      obtain ⟨hr12, h⟩ := h
      obtain ⟨hg13, h⟩ := h
      refine wp_aaload (e := 6) dX6_judgeMixed_79 ha11 hr12 (by decide) hg13 ?_
      obtain ⟨a14, ha14, h⟩ := h
      obtain ⟨ht15, h⟩ := h
      refine wp_getC (ci := 9) (j := 3) dX6_judgeMixed_80 fi_X6_135 rfl ha14 ht15 ?_
      change WP _ _ _ _ _ _ (rv (hC H8 1003 a14) :: _) _ _
      obtain ⟨ht17, h⟩ := h
      refine wp_callV (ci := 3) (As := [rv (hC H8 1003 a14)]) (rest := []) (mc := 0) (ms := 0) dX6_judgeMixed_83 lk_X6_138 rfl rfl (by decide) ha9 rfl rfl ht17 rfl rfl rfl w_4_87 (Call.weaken h ?_)
      rintro H16 _ ⟨b18, rfl, h⟩
      change WP _ _ _ _ _ _ [.int (bI b18)] H16 _
      refine wp_if_eq (tgt := 100) dX6_judgeMixed_86 rfl (fun c => ?_) (fun c => ?_)
      · replace h := h.1 (bI_0.mp c)
        refine wp_bipush (v := (-15 : Int32)) dX6_judgeMixed_100 (by decide) ?_
        exact wp_ireturn (ty := .int) dX6_judgeMixed_102 rfl rfl ⟨_, rfl, h⟩
      · replace h := h.2 (bI_1.mp c)
        refine wp_aload_n 0 dX6_judgeMixed_89 rfl ?_
        obtain ⟨ht19, h⟩ := h
        refine wp_getC (ci := 6) (j := 12) dX6_judgeMixed_90 fi_X6_30r rfl rfl ht19 ?_
        change WP _ _ _ _ _ _ (rv (hC H16 712 a0) :: _) _ _
        refine wp_aload_n 2 dX6_judgeMixed_93 rfl ?_
        obtain ⟨a21, ha21, h⟩ := h
        obtain ⟨ht22, h⟩ := h
        refine wp_callV (ci := 3) (As := [rv o2]) (rest := []) (mc := 0) (ms := 0) dX6_judgeMixed_94 lk_X6_145 rfl rfl (by decide) ha21 rfl rfl ht22 rfl rfl rfl w_4_88 (Call.weaken h ?_)
        rintro H20 _ ⟨b23, rfl, h⟩
        change WP _ _ _ _ _ _ [.int (bI b23)] H20 _
        refine wp_if_ne (tgt := 103) dX6_judgeMixed_97 rfl (fun c => ?_) (fun c => ?_)
        · replace h := h.1 (bI_1.mp c)
          refine wp_iinc (v := (x4 + 1)) (ls' := [(4, .int (x4 + 1)), (0, rv (some a0)), (1, rv o1), (2, rv o2)]) 3 dX6_judgeMixed_103 rfl rfl (by decide) rfl ?_
          refine wp_goto (tgt := 40) dX6_judgeMixed_106 rfl ?_
          refine wp_sub (ls' := [(0, rv (some a0)), (1, rv o1), (2, rv o2), (4, .int (x4 + 1))]) [1, 2, 3, 0] rfl ?_
          exact h
        · replace h := h.2 (bI_0.mp c)
          refine wp_bipush (v := (-15 : Int32)) dX6_judgeMixed_100 (by decide) ?_
          exact wp_ireturn (ty := .int) dX6_judgeMixed_102 rfl rfl ⟨_, rfl, h⟩
theorem C_X6_judgeMixed {d : Nat} {q : HP → Int32 → Prop} {a0 : Nat} {o1 : Option Nat} {o2 : Option Nat} {H : HP} (h : wb_X6_judgeMixed_0 d q a0 o1 o2 H) : CI (d + 1) 0 0 mX6_judgeMixed [rv (some a0), rv o1, rv o2] H q := by
  refine call_of (by decide +kernel) (by simp [lg_sl, rv_cat, vc_int, vc_long, vc_float, vc_double]) ?_
  have e : lv_args 0 [rv (some a0), rv o1, rv o2] = [(0, rv (some a0)), (1, rv o1), (2, rv o2)] := by simp [lv_args, rv_cat, vc_int, vc_long, vc_float, vc_double]
  rw [e]
  exact T_X6_judgeMixed_0 h
/-- UnitProver$Step.judgeProduct()I: the loop at 61 -/
def L_X6_judgeProduct_61 (d : Nat) (q : HP → Int32 → Prop) (a0 : Nat) (x1 : Int32) (x2 : Int32) (H : HP) : Prop := WP (d + 1) mX6_judgeProduct 0 0 61 [(0, rv (some a0)), (1, .int x1), (2, .int x2)] [] H (qI q)
def wb_X6_judgeProduct_0 (d : Nat) (q : HP → Int32 → Prop) (a0 : Nat) (H : HP) : Prop :=
  tg H a0 = 7 ∧ ((¬ (hI H 700 a0 0) = (2 : Int32) → ∃ a3, (hR H 701 a0 0) = some a3 ∧ (tg H a3 = 7 ∧ (CZ d 0 0 mX6_isShiftedItself [rv (hR H 701 a0 0)] H (fun H2 b5 => (b5 = true → q H2 (-10 : Int32)) ∧ (b5 = false → tg H2 a0 = 7 ∧ (∃ a8, (hR H2 702 a0 0) = some a8 ∧ (tg H2 a8 = 7 ∧ (CZ d 0 0 mX6_isShiftedItself [rv (hR H2 702 a0 0)] H2 (fun H7 b10 => (b10 = false → ((0 : Int32) = 0 → L_X6_judgeProduct_61 d q a0 (0 : Int32) (0 : Int32) H7) ∧ (¬ ((0 : Int32) = 0) → tg H7 a0 = 7 ∧ (∃ a12, (hR H7 702 a0 0) = some a12 ∧ (tg H7 a12 = 7 ∧ (∃ a14, (hC H7 712 a12) = some a14 ∧ (tg H7 a14 = 4 ∧ ((¬ (hL H7 400 a14 0) = (0 : Int64) → L_X6_judgeProduct_61 d q a0 (0 : Int32) (0 : Int32) H7) ∧ ((hL H7 400 a14 0) = (0 : Int64) → q H7 (-9 : Int32))))))))) ∧ (b10 = true → q H7 (-10 : Int32))))))))))) ∧ ((hI H 700 a0 0) = (2 : Int32) → ∃ a17, (hR H 701 a0 0) = some a17 ∧ (tg H a17 = 7 ∧ (CZ d 0 0 mX6_isShiftedItself [rv (hR H 701 a0 0)] H (fun H16 b19 => (b19 = true → q H16 (-10 : Int32)) ∧ (b19 = false → tg H16 a0 = 7 ∧ (∃ a22, (hR H16 702 a0 0) = some a22 ∧ (tg H16 a22 = 7 ∧ (CZ d 0 0 mX6_isShiftedItself [rv (hR H16 702 a0 0)] H16 (fun H21 b24 => (b24 = false → ((1 : Int32) = 0 → L_X6_judgeProduct_61 d q a0 (1 : Int32) (0 : Int32) H21) ∧ (¬ ((1 : Int32) = 0) → tg H21 a0 = 7 ∧ (∃ a26, (hR H21 702 a0 0) = some a26 ∧ (tg H21 a26 = 7 ∧ (∃ a28, (hC H21 712 a26) = some a28 ∧ (tg H21 a28 = 4 ∧ ((¬ (hL H21 400 a28 0) = (0 : Int64) → L_X6_judgeProduct_61 d q a0 (1 : Int32) (0 : Int32) H21) ∧ ((hL H21 400 a28 0) = (0 : Int64) → q H21 (-9 : Int32))))))))) ∧ (b24 = true → q H21 (-10 : Int32))))))))))))
set_option maxRecDepth 40000 in
set_option maxHeartbeats 4000000 in
theorem T_X6_judgeProduct_0 {d : Nat} {q : HP → Int32 → Prop} {a0 : Nat} {H : HP} (h : wb_X6_judgeProduct_0 d q a0 H) : WP (d + 1) mX6_judgeProduct 0 0 0 [(0, rv (some a0))] [] H (qI q) := by
  unfold wb_X6_judgeProduct_0 at h
  refine wp_aload_n 0 dX6_judgeProduct_0 rfl ?_
  obtain ⟨ht1, h⟩ := h
  refine wp_getI (ci := 6) (j := 0) dX6_judgeProduct_1 fi_X6_34r rfl rfl ht1 ?_
  change WP _ _ _ _ _ _ (.int (hI H 700 a0 0) :: _) _ _
  refine wp_iconst (v := (2 : Int32)) dX6_judgeProduct_4 (by decide) ?_
  refine wp_icmp_ne (tgt := 12) dX6_judgeProduct_5 rfl (fun c => ?_) (fun c => ?_)
  · replace h := h.1 c
    refine wp_iconst (v := (0 : Int32)) dX6_judgeProduct_12 (by decide) ?_
    refine wp_istore_n (ls' := [(1, .int (0 : Int32)), (0, rv (some a0))]) dX6_judgeProduct_13 (by decide) rfl ?_
    refine wp_aload_n 1 dX6_judgeProduct_14 rfl ?_
    refine wp_getR (ci := 6) (j := 1) dX6_judgeProduct_15 fi_X6_38r rfl rfl ht1 ?_
    change WP _ _ _ _ _ _ (rv (hR H 701 a0 0) :: _) _ _
    obtain ⟨a3, ha3, h⟩ := h
    obtain ⟨ht4, h⟩ := h
    refine wp_callV (ci := 6) (As := []) (rest := []) (mc := 0) (ms := 0) dX6_judgeProduct_18 lk_X6_166 rfl rfl (by decide) ha3 rfl rfl ht4 rfl rfl rfl w_4_108 (Call.weaken h ?_)
    rintro H2 _ ⟨b5, rfl, h⟩
    change WP _ _ _ _ _ _ [.int (bI b5)] H2 _
    refine wp_if_ne (tgt := 34) dX6_judgeProduct_21 rfl (fun c => ?_) (fun c => ?_)
    · replace h := h.1 (bI_1.mp c)
      refine wp_bipush (v := (-10 : Int32)) dX6_judgeProduct_34 (by decide) ?_
      exact wp_ireturn (ty := .int) dX6_judgeProduct_36 rfl rfl ⟨_, rfl, h⟩
    · replace h := h.2 (bI_0.mp c)
      refine wp_aload_n 1 dX6_judgeProduct_24 rfl ?_
      obtain ⟨ht6, h⟩ := h
      refine wp_getR (ci := 6) (j := 2) dX6_judgeProduct_25 fi_X6_42r rfl rfl ht6 ?_
      change WP _ _ _ _ _ _ (rv (hR H2 702 a0 0) :: _) _ _
      obtain ⟨a8, ha8, h⟩ := h
      obtain ⟨ht9, h⟩ := h
      refine wp_callV (ci := 6) (As := []) (rest := []) (mc := 0) (ms := 0) dX6_judgeProduct_28 lk_X6_166 rfl rfl (by decide) ha8 rfl rfl ht9 rfl rfl rfl w_4_108 (Call.weaken h ?_)
      rintro H7 _ ⟨b10, rfl, h⟩
      change WP _ _ _ _ _ _ [.int (bI b10)] H7 _
      refine wp_if_eq (tgt := 37) dX6_judgeProduct_31 rfl (fun c => ?_) (fun c => ?_)
      · replace h := h.1 (bI_0.mp c)
        refine wp_iload_n 0 dX6_judgeProduct_37 rfl ?_
        refine wp_if_eq (tgt := 59) dX6_judgeProduct_38 rfl (fun c => ?_) (fun c => ?_)
        · replace h := h.1 c
          refine wp_iconst (v := (0 : Int32)) dX6_judgeProduct_59 (by decide) ?_
          refine wp_istore_n (ls' := [(2, .int (0 : Int32)), (1, .int (0 : Int32)), (0, rv (some a0))]) dX6_judgeProduct_60 (by decide) rfl ?_
          refine wp_sub (ls' := [(0, rv (some a0)), (1, .int (0 : Int32)), (2, .int (0 : Int32))]) [2, 1, 0] rfl ?_
          exact h
        · replace h := h.2 c
          refine wp_aload_n 1 dX6_judgeProduct_41 rfl ?_
          obtain ⟨ht11, h⟩ := h
          refine wp_getR (ci := 6) (j := 2) dX6_judgeProduct_42 fi_X6_42r rfl rfl ht11 ?_
          change WP _ _ _ _ _ _ (rv (hR H7 702 a0 0) :: _) _ _
          obtain ⟨a12, ha12, h⟩ := h
          obtain ⟨ht13, h⟩ := h
          refine wp_getC (ci := 6) (j := 12) dX6_judgeProduct_45 fi_X6_30r rfl ha12 ht13 ?_
          change WP _ _ _ _ _ _ (rv (hC H7 712 a12) :: _) _ _
          obtain ⟨a14, ha14, h⟩ := h
          obtain ⟨ht15, h⟩ := h
          refine wp_getL (ci := 3) (j := 0) dX6_judgeProduct_48 fi_X6_169r rfl ha14 ht15 ?_
          change WP _ _ _ _ _ _ (.long (hL H7 400 a14 0) :: _) _ _
          refine wp_lconst (v := (0 : Int64)) dX6_judgeProduct_51 (by decide) ?_
          refine wp_lcmp dX6_judgeProduct_52 ?_
          refine wp_if_ne (tgt := 59) dX6_judgeProduct_53 rfl (fun c => ?_) (fun c => ?_)
          · replace h := h.1 (fun z => c (lgc_eq.mpr z))
            refine wp_iconst (v := (0 : Int32)) dX6_judgeProduct_59 (by decide) ?_
            refine wp_istore_n (ls' := [(2, .int (0 : Int32)), (1, .int (0 : Int32)), (0, rv (some a0))]) dX6_judgeProduct_60 (by decide) rfl ?_
            refine wp_sub (ls' := [(0, rv (some a0)), (1, .int (0 : Int32)), (2, .int (0 : Int32))]) [2, 1, 0] rfl ?_
            exact h
          · replace h := h.2 (lgc_eq.mp c)
            refine wp_bipush (v := (-9 : Int32)) dX6_judgeProduct_56 (by decide) ?_
            exact wp_ireturn (ty := .int) dX6_judgeProduct_58 rfl rfl ⟨_, rfl, h⟩
      · replace h := h.2 (bI_1.mp c)
        refine wp_bipush (v := (-10 : Int32)) dX6_judgeProduct_34 (by decide) ?_
        exact wp_ireturn (ty := .int) dX6_judgeProduct_36 rfl rfl ⟨_, rfl, h⟩
  · replace h := h.2 c
    refine wp_iconst (v := (1 : Int32)) dX6_judgeProduct_8 (by decide) ?_
    refine wp_goto (tgt := 13) dX6_judgeProduct_9 rfl ?_
    refine wp_istore_n (ls' := [(1, .int (1 : Int32)), (0, rv (some a0))]) dX6_judgeProduct_13 (by decide) rfl ?_
    refine wp_aload_n 1 dX6_judgeProduct_14 rfl ?_
    refine wp_getR (ci := 6) (j := 1) dX6_judgeProduct_15 fi_X6_38r rfl rfl ht1 ?_
    change WP _ _ _ _ _ _ (rv (hR H 701 a0 0) :: _) _ _
    obtain ⟨a17, ha17, h⟩ := h
    obtain ⟨ht18, h⟩ := h
    refine wp_callV (ci := 6) (As := []) (rest := []) (mc := 0) (ms := 0) dX6_judgeProduct_18 lk_X6_166 rfl rfl (by decide) ha17 rfl rfl ht18 rfl rfl rfl w_4_108 (Call.weaken h ?_)
    rintro H16 _ ⟨b19, rfl, h⟩
    change WP _ _ _ _ _ _ [.int (bI b19)] H16 _
    refine wp_if_ne (tgt := 34) dX6_judgeProduct_21 rfl (fun c => ?_) (fun c => ?_)
    · replace h := h.1 (bI_1.mp c)
      refine wp_bipush (v := (-10 : Int32)) dX6_judgeProduct_34 (by decide) ?_
      exact wp_ireturn (ty := .int) dX6_judgeProduct_36 rfl rfl ⟨_, rfl, h⟩
    · replace h := h.2 (bI_0.mp c)
      refine wp_aload_n 1 dX6_judgeProduct_24 rfl ?_
      obtain ⟨ht20, h⟩ := h
      refine wp_getR (ci := 6) (j := 2) dX6_judgeProduct_25 fi_X6_42r rfl rfl ht20 ?_
      change WP _ _ _ _ _ _ (rv (hR H16 702 a0 0) :: _) _ _
      obtain ⟨a22, ha22, h⟩ := h
      obtain ⟨ht23, h⟩ := h
      refine wp_callV (ci := 6) (As := []) (rest := []) (mc := 0) (ms := 0) dX6_judgeProduct_28 lk_X6_166 rfl rfl (by decide) ha22 rfl rfl ht23 rfl rfl rfl w_4_108 (Call.weaken h ?_)
      rintro H21 _ ⟨b24, rfl, h⟩
      change WP _ _ _ _ _ _ [.int (bI b24)] H21 _
      refine wp_if_eq (tgt := 37) dX6_judgeProduct_31 rfl (fun c => ?_) (fun c => ?_)
      · replace h := h.1 (bI_0.mp c)
        refine wp_iload_n 0 dX6_judgeProduct_37 rfl ?_
        refine wp_if_eq (tgt := 59) dX6_judgeProduct_38 rfl (fun c => ?_) (fun c => ?_)
        · replace h := h.1 c
          refine wp_iconst (v := (0 : Int32)) dX6_judgeProduct_59 (by decide) ?_
          refine wp_istore_n (ls' := [(2, .int (0 : Int32)), (1, .int (1 : Int32)), (0, rv (some a0))]) dX6_judgeProduct_60 (by decide) rfl ?_
          refine wp_sub (ls' := [(0, rv (some a0)), (1, .int (1 : Int32)), (2, .int (0 : Int32))]) [2, 1, 0] rfl ?_
          exact h
        · replace h := h.2 c
          refine wp_aload_n 1 dX6_judgeProduct_41 rfl ?_
          obtain ⟨ht25, h⟩ := h
          refine wp_getR (ci := 6) (j := 2) dX6_judgeProduct_42 fi_X6_42r rfl rfl ht25 ?_
          change WP _ _ _ _ _ _ (rv (hR H21 702 a0 0) :: _) _ _
          obtain ⟨a26, ha26, h⟩ := h
          obtain ⟨ht27, h⟩ := h
          refine wp_getC (ci := 6) (j := 12) dX6_judgeProduct_45 fi_X6_30r rfl ha26 ht27 ?_
          change WP _ _ _ _ _ _ (rv (hC H21 712 a26) :: _) _ _
          obtain ⟨a28, ha28, h⟩ := h
          obtain ⟨ht29, h⟩ := h
          refine wp_getL (ci := 3) (j := 0) dX6_judgeProduct_48 fi_X6_169r rfl ha28 ht29 ?_
          change WP _ _ _ _ _ _ (.long (hL H21 400 a28 0) :: _) _ _
          refine wp_lconst (v := (0 : Int64)) dX6_judgeProduct_51 (by decide) ?_
          refine wp_lcmp dX6_judgeProduct_52 ?_
          refine wp_if_ne (tgt := 59) dX6_judgeProduct_53 rfl (fun c => ?_) (fun c => ?_)
          · replace h := h.1 (fun z => c (lgc_eq.mpr z))
            refine wp_iconst (v := (0 : Int32)) dX6_judgeProduct_59 (by decide) ?_
            refine wp_istore_n (ls' := [(2, .int (0 : Int32)), (1, .int (1 : Int32)), (0, rv (some a0))]) dX6_judgeProduct_60 (by decide) rfl ?_
            refine wp_sub (ls' := [(0, rv (some a0)), (1, .int (1 : Int32)), (2, .int (0 : Int32))]) [2, 1, 0] rfl ?_
            exact h
          · replace h := h.2 (lgc_eq.mp c)
            refine wp_bipush (v := (-9 : Int32)) dX6_judgeProduct_56 (by decide) ?_
            exact wp_ireturn (ty := .int) dX6_judgeProduct_58 rfl rfl ⟨_, rfl, h⟩
      · replace h := h.2 (bI_1.mp c)
        refine wp_bipush (v := (-10 : Int32)) dX6_judgeProduct_34 (by decide) ?_
        exact wp_ireturn (ty := .int) dX6_judgeProduct_36 rfl rfl ⟨_, rfl, h⟩
def wb_X6_judgeProduct_61 (d : Nat) (q : HP → Int32 → Prop) (a0 : Nat) (x1 : Int32) (x2 : Int32) (H : HP) : Prop :=
  ((5 : Int32) ≤ x2 → tg H a0 = 7 ∧ (CZ d 0 0 mX11_goesBeyond [rv (hC H 711 a0), .int (18 : Int32)] H (fun H2 b3 => (b3 = false → tg H2 a0 = 7 ∧ (∃ a5, (hR H2 701 a0 0) = some a5 ∧ (tg H2 a5 = 7 ∧ (∃ a8, (hC H2 712 a0) = some a8 ∧ (tg H2 a8 = 4 ∧ (CV d 0 0 mX3_copy [rv (hC H2 712 a0), rv (hC H2 712 a5)] H2 (fun H7 => (x1 = 0 → tg H7 a0 = 7 ∧ (∃ a11, (hR H7 702 a0 0) = some a11 ∧ (tg H7 a11 = 7 ∧ (∃ a14, (hC H7 712 a0) = some a14 ∧ (tg H7 a14 = 4 ∧ (CZ d 0 0 mX3_multiply [rv (hC H7 712 a0), rv (hC H7 712 a11)] H7 (fun H13 b16 => (b16 = false → q H13 (-15 : Int32)) ∧ (b16 = true → q H13 (0 : Int32))))))))) ∧ (¬ (x1 = 0) → tg H7 a0 = 7 ∧ (∃ a18, (hR H7 702 a0 0) = some a18 ∧ (tg H7 a18 = 7 ∧ (∃ a21, (hC H7 712 a0) = some a21 ∧ (tg H7 a21 = 4 ∧ (CZ d 0 0 mX3_divide [rv (hC H7 712 a0), rv (hC H7 712 a18)] H7 (fun H20 b23 => (b23 = false → q H20 (-15 : Int32)) ∧ (b23 = true → q H20 (0 : Int32)))))))))))))))) ∧ (b3 = true → q H2 (-12 : Int32))))) ∧ (¬ ((5 : Int32) ≤ x2) → tg H a0 = 7 ∧ (∃ a25, (hR H 701 a0 0) = some a25 ∧ (tg H a25 = 7 ∧ (∃ a27, (hC H 711 a25) = some a27 ∧ (isA H a27 0 ∧ (vp_in x2 (ln H a27) ∧ ((x1 = 0 → ∃ a30, (hR H 702 a0 0) = some a30 ∧ (tg H a30 = 7 ∧ (∃ a32, (hC H 711 a30) = some a32 ∧ (isA H a32 0 ∧ (vp_in x2 (ln H a32) ∧ (∃ a35, (hC H 711 a0) = some a35 ∧ (isA H a35 0 ∧ (vp_in x2 (ln H a35) ∧ (L_X6_judgeProduct_61 d q a0 x1 (x2 + 1) (sI H (tg H a35) a35 x2.toNatClampNeg ((hI H (tg H a27) a27 x2.toNatClampNeg) + (hI H (tg H a32) a32 x2.toNatClampNeg)))))))))))) ∧ (¬ (x1 = 0) → ∃ a38, (hR H 702 a0 0) = some a38 ∧ (tg H a38 = 7 ∧ (∃ a40, (hC H 711 a38) = some a40 ∧ (isA H a40 0 ∧ (vp_in x2 (ln H a40) ∧ (∃ a43, (hC H 711 a0) = some a43 ∧ (isA H a43 0 ∧ (vp_in x2 (ln H a43) ∧ (L_X6_judgeProduct_61 d q a0 x1 (x2 + 1) (sI H (tg H a43) a43 x2.toNatClampNeg ((hI H (tg H a27) a27 x2.toNatClampNeg) + (-(hI H (tg H a40) a40 x2.toNatClampNeg))))))))))))))))))))
set_option maxRecDepth 40000 in
set_option maxHeartbeats 4000000 in
theorem T_X6_judgeProduct_61 {d : Nat} {q : HP → Int32 → Prop} {a0 : Nat} {x1 : Int32} {x2 : Int32} {H : HP} (h : wb_X6_judgeProduct_61 d q a0 x1 x2 H) : L_X6_judgeProduct_61 d q a0 x1 x2 H := by
  unfold wb_X6_judgeProduct_61 at h
  unfold L_X6_judgeProduct_61
  refine wp_iload_n 2 dX6_judgeProduct_61 rfl ?_
  refine wp_iconst (v := (5 : Int32)) dX6_judgeProduct_62 (by decide) ?_
  refine wp_icmp_ge (tgt := 114) dX6_judgeProduct_63 rfl (fun c => ?_) (fun c => ?_)
  · replace h := h.1 c
    refine wp_aload_n 0 dX6_judgeProduct_114 rfl ?_
    obtain ⟨ht1, h⟩ := h
    refine wp_getC (ci := 6) (j := 11) dX6_judgeProduct_115 fi_X6_24r rfl rfl ht1 ?_
    change WP _ _ _ _ _ _ (rv (hC H 711 a0) :: _) _ _
    refine wp_bipush (v := (18 : Int32)) dX6_judgeProduct_118 (by decide) ?_
    refine wp_callS (As := [rv (hC H 711 a0), .int (18 : Int32)]) (rest := []) (mc := 0) (ms := 0) dX6_judgeProduct_120 lk_X6_131 rfl rfl (by decide) rfl rfl rfl (Call.weaken h ?_)
    rintro H2 _ ⟨b3, rfl, h⟩
    change WP _ _ _ _ _ _ [.int (bI b3)] H2 _
    refine wp_if_eq (tgt := 129) dX6_judgeProduct_123 rfl (fun c => ?_) (fun c => ?_)
    · replace h := h.1 (bI_0.mp c)
      refine wp_aload_n 0 dX6_judgeProduct_129 rfl ?_
      obtain ⟨ht4, h⟩ := h
      refine wp_getC (ci := 6) (j := 12) dX6_judgeProduct_130 fi_X6_30r rfl rfl ht4 ?_
      change WP _ _ _ _ _ _ (rv (hC H2 712 a0) :: _) _ _
      refine wp_aload_n 0 dX6_judgeProduct_133 rfl ?_
      refine wp_getR (ci := 6) (j := 1) dX6_judgeProduct_134 fi_X6_38r rfl rfl ht4 ?_
      change WP _ _ _ _ _ _ (rv (hR H2 701 a0 0) :: _) _ _
      obtain ⟨a5, ha5, h⟩ := h
      obtain ⟨ht6, h⟩ := h
      refine wp_getC (ci := 6) (j := 12) dX6_judgeProduct_137 fi_X6_30r rfl ha5 ht6 ?_
      change WP _ _ _ _ _ _ (rv (hC H2 712 a5) :: _) _ _
      obtain ⟨a8, ha8, h⟩ := h
      obtain ⟨ht9, h⟩ := h
      refine wp_callV (ci := 3) (As := [rv (hC H2 712 a5)]) (rest := []) (mc := 0) (ms := 0) dX6_judgeProduct_140 lk_X6_172 rfl rfl (by decide) ha8 rfl rfl ht9 rfl rfl rfl w_4_112 (Call.weaken h ?_)
      rintro H7 _ ⟨rfl, h⟩
      change WP _ _ _ _ _ _ [] H7 _
      refine wp_iload_n 1 dX6_judgeProduct_143 rfl ?_
      refine wp_if_eq (tgt := 164) dX6_judgeProduct_144 rfl (fun c => ?_) (fun c => ?_)
      · replace h := h.1 c
        refine wp_aload_n 0 dX6_judgeProduct_164 rfl ?_
        obtain ⟨ht10, h⟩ := h
        refine wp_getC (ci := 6) (j := 12) dX6_judgeProduct_165 fi_X6_30r rfl rfl ht10 ?_
        change WP _ _ _ _ _ _ (rv (hC H7 712 a0) :: _) _ _
        refine wp_aload_n 0 dX6_judgeProduct_168 rfl ?_
        refine wp_getR (ci := 6) (j := 2) dX6_judgeProduct_169 fi_X6_42r rfl rfl ht10 ?_
        change WP _ _ _ _ _ _ (rv (hR H7 702 a0 0) :: _) _ _
        obtain ⟨a11, ha11, h⟩ := h
        obtain ⟨ht12, h⟩ := h
        refine wp_getC (ci := 6) (j := 12) dX6_judgeProduct_172 fi_X6_30r rfl ha11 ht12 ?_
        change WP _ _ _ _ _ _ (rv (hC H7 712 a11) :: _) _ _
        obtain ⟨a14, ha14, h⟩ := h
        obtain ⟨ht15, h⟩ := h
        refine wp_callV (ci := 3) (As := [rv (hC H7 712 a11)]) (rest := []) (mc := 0) (ms := 0) dX6_judgeProduct_175 lk_X6_138 rfl rfl (by decide) ha14 rfl rfl ht15 rfl rfl rfl w_4_87 (Call.weaken h ?_)
        rintro H13 _ ⟨b16, rfl, h⟩
        change WP _ _ _ _ _ _ [.int (bI b16)] H13 _
        refine wp_istore_n (ls' := [(2, .int (bI b16)), (0, rv (some a0)), (1, .int x1)]) dX6_judgeProduct_178 (by decide) rfl ?_
        refine wp_iload_n 0 dX6_judgeProduct_179 rfl ?_
        refine wp_if_eq (tgt := 187) dX6_judgeProduct_180 rfl (fun c => ?_) (fun c => ?_)
        · replace h := h.1 (bI_0.mp c)
          refine wp_bipush (v := (-15 : Int32)) dX6_judgeProduct_187 (by decide) ?_
          exact wp_ireturn (ty := .int) dX6_judgeProduct_189 rfl rfl ⟨_, rfl, h⟩
        · replace h := h.2 (bI_1.mp c)
          refine wp_iconst (v := (0 : Int32)) dX6_judgeProduct_183 (by decide) ?_
          refine wp_goto (tgt := 189) dX6_judgeProduct_184 rfl ?_
          exact wp_ireturn (ty := .int) dX6_judgeProduct_189 rfl rfl ⟨_, rfl, h⟩
      · replace h := h.2 c
        refine wp_aload_n 0 dX6_judgeProduct_147 rfl ?_
        obtain ⟨ht17, h⟩ := h
        refine wp_getC (ci := 6) (j := 12) dX6_judgeProduct_148 fi_X6_30r rfl rfl ht17 ?_
        change WP _ _ _ _ _ _ (rv (hC H7 712 a0) :: _) _ _
        refine wp_aload_n 0 dX6_judgeProduct_151 rfl ?_
        refine wp_getR (ci := 6) (j := 2) dX6_judgeProduct_152 fi_X6_42r rfl rfl ht17 ?_
        change WP _ _ _ _ _ _ (rv (hR H7 702 a0 0) :: _) _ _
        obtain ⟨a18, ha18, h⟩ := h
        obtain ⟨ht19, h⟩ := h
        refine wp_getC (ci := 6) (j := 12) dX6_judgeProduct_155 fi_X6_30r rfl ha18 ht19 ?_
        change WP _ _ _ _ _ _ (rv (hC H7 712 a18) :: _) _ _
        obtain ⟨a21, ha21, h⟩ := h
        obtain ⟨ht22, h⟩ := h
        refine wp_callV (ci := 3) (As := [rv (hC H7 712 a18)]) (rest := []) (mc := 0) (ms := 0) dX6_judgeProduct_158 lk_X6_176 rfl rfl (by decide) ha21 rfl rfl ht22 rfl rfl rfl w_4_113 (Call.weaken h ?_)
        rintro H20 _ ⟨b23, rfl, h⟩
        change WP _ _ _ _ _ _ [.int (bI b23)] H20 _
        refine wp_goto (tgt := 178) dX6_judgeProduct_161 rfl ?_
        refine wp_istore_n (ls' := [(2, .int (bI b23)), (0, rv (some a0)), (1, .int x1)]) dX6_judgeProduct_178 (by decide) rfl ?_
        refine wp_iload_n 0 dX6_judgeProduct_179 rfl ?_
        refine wp_if_eq (tgt := 187) dX6_judgeProduct_180 rfl (fun c => ?_) (fun c => ?_)
        · replace h := h.1 (bI_0.mp c)
          refine wp_bipush (v := (-15 : Int32)) dX6_judgeProduct_187 (by decide) ?_
          exact wp_ireturn (ty := .int) dX6_judgeProduct_189 rfl rfl ⟨_, rfl, h⟩
        · replace h := h.2 (bI_1.mp c)
          refine wp_iconst (v := (0 : Int32)) dX6_judgeProduct_183 (by decide) ?_
          refine wp_goto (tgt := 189) dX6_judgeProduct_184 rfl ?_
          exact wp_ireturn (ty := .int) dX6_judgeProduct_189 rfl rfl ⟨_, rfl, h⟩
    · replace h := h.2 (bI_1.mp c)
      refine wp_bipush (v := (-12 : Int32)) dX6_judgeProduct_126 (by decide) ?_
      exact wp_ireturn (ty := .int) dX6_judgeProduct_128 rfl rfl ⟨_, rfl, h⟩
  · replace h := h.2 c
    refine wp_aload_n 0 dX6_judgeProduct_66 rfl ?_
    obtain ⟨ht24, h⟩ := h
    refine wp_getC (ci := 6) (j := 11) dX6_judgeProduct_67 fi_X6_24r rfl rfl ht24 ?_
    change WP _ _ _ _ _ _ (rv (hC H 711 a0) :: _) _ _
    refine wp_iload_n 2 dX6_judgeProduct_70 rfl ?_
    refine wp_aload_n 0 dX6_judgeProduct_71 rfl ?_
    refine wp_getR (ci := 6) (j := 1) dX6_judgeProduct_72 fi_X6_38r rfl rfl ht24 ?_
    change WP _ _ _ _ _ _ (rv (hR H 701 a0 0) :: _) _ _
    obtain ⟨a25, ha25, h⟩ := h
    obtain ⟨ht26, h⟩ := h
    refine wp_getC (ci := 6) (j := 11) dX6_judgeProduct_75 fi_X6_24r rfl ha25 ht26 ?_
    change WP _ _ _ _ _ _ (rv (hC H 711 a25) :: _) _ _
    refine wp_iload_n 2 dX6_judgeProduct_78 rfl ?_
    obtain ⟨a27, ha27, h⟩ := h
    obtain ⟨hr28, h⟩ := h
    obtain ⟨hg29, h⟩ := h
    refine wp_iaload dX6_judgeProduct_79 ha27 hr28 hg29 ?_
    refine wp_iload_n 1 dX6_judgeProduct_80 rfl ?_
    refine wp_if_eq (tgt := 97) dX6_judgeProduct_81 rfl (fun c => ?_) (fun c => ?_)
    · replace h := h.1 c
      refine wp_aload_n 0 dX6_judgeProduct_97 rfl ?_
      refine wp_getR (ci := 6) (j := 2) dX6_judgeProduct_98 fi_X6_42r rfl rfl ht24 ?_
      change WP _ _ _ _ _ _ (rv (hR H 702 a0 0) :: _) _ _
      obtain ⟨a30, ha30, h⟩ := h
      obtain ⟨ht31, h⟩ := h
      refine wp_getC (ci := 6) (j := 11) dX6_judgeProduct_101 fi_X6_24r rfl ha30 ht31 ?_
      change WP _ _ _ _ _ _ (rv (hC H 711 a30) :: _) _ _
      refine wp_iload_n 2 dX6_judgeProduct_104 rfl ?_
      obtain ⟨a32, ha32, h⟩ := h
      obtain ⟨hr33, h⟩ := h
      obtain ⟨hg34, h⟩ := h
      refine wp_iaload dX6_judgeProduct_105 ha32 hr33 hg34 ?_
      refine wp_iadd dX6_judgeProduct_106 ?_
      obtain ⟨a35, ha35, h⟩ := h
      obtain ⟨hr36, h⟩ := h
      obtain ⟨hg37, h⟩ := h
      refine wp_iastore dX6_judgeProduct_107 ha35 hr36 hg37 ?_
      change WP _ _ _ _ _ _ _ (sI H (tg H a35) a35 x2.toNatClampNeg ((hI H (tg H a27) a27 x2.toNatClampNeg) + (hI H (tg H a32) a32 x2.toNatClampNeg))) _
      refine wp_iinc (v := (x2 + 1)) (ls' := [(2, .int (x2 + 1)), (0, rv (some a0)), (1, .int x1)]) 2 dX6_judgeProduct_108 rfl rfl (by decide) rfl ?_
      refine wp_goto (tgt := 61) dX6_judgeProduct_111 rfl ?_
      refine wp_sub (ls' := [(0, rv (some a0)), (1, .int x1), (2, .int (x2 + 1))]) [1, 2, 0] rfl ?_
      exact h
    · replace h := h.2 c
      refine wp_aload_n 0 dX6_judgeProduct_84 rfl ?_
      refine wp_getR (ci := 6) (j := 2) dX6_judgeProduct_85 fi_X6_42r rfl rfl ht24 ?_
      change WP _ _ _ _ _ _ (rv (hR H 702 a0 0) :: _) _ _
      obtain ⟨a38, ha38, h⟩ := h
      obtain ⟨ht39, h⟩ := h
      refine wp_getC (ci := 6) (j := 11) dX6_judgeProduct_88 fi_X6_24r rfl ha38 ht39 ?_
      change WP _ _ _ _ _ _ (rv (hC H 711 a38) :: _) _ _
      refine wp_iload_n 2 dX6_judgeProduct_91 rfl ?_
      obtain ⟨a40, ha40, h⟩ := h
      obtain ⟨hr41, h⟩ := h
      obtain ⟨hg42, h⟩ := h
      refine wp_iaload dX6_judgeProduct_92 ha40 hr41 hg42 ?_
      refine wp_ineg dX6_judgeProduct_93 ?_
      refine wp_goto (tgt := 106) dX6_judgeProduct_94 rfl ?_
      refine wp_iadd dX6_judgeProduct_106 ?_
      obtain ⟨a43, ha43, h⟩ := h
      obtain ⟨hr44, h⟩ := h
      obtain ⟨hg45, h⟩ := h
      refine wp_iastore dX6_judgeProduct_107 ha43 hr44 hg45 ?_
      change WP _ _ _ _ _ _ _ (sI H (tg H a43) a43 x2.toNatClampNeg ((hI H (tg H a27) a27 x2.toNatClampNeg) + (-(hI H (tg H a40) a40 x2.toNatClampNeg)))) _
      refine wp_iinc (v := (x2 + 1)) (ls' := [(2, .int (x2 + 1)), (0, rv (some a0)), (1, .int x1)]) 2 dX6_judgeProduct_108 rfl rfl (by decide) rfl ?_
      refine wp_goto (tgt := 61) dX6_judgeProduct_111 rfl ?_
      refine wp_sub (ls' := [(0, rv (some a0)), (1, .int x1), (2, .int (x2 + 1))]) [1, 2, 0] rfl ?_
      exact h
theorem C_X6_judgeProduct {d : Nat} {q : HP → Int32 → Prop} {a0 : Nat} {H : HP} (h : wb_X6_judgeProduct_0 d q a0 H) : CI (d + 1) 0 0 mX6_judgeProduct [rv (some a0)] H q := by
  refine call_of (by decide +kernel) (by simp [lg_sl, rv_cat, vc_int, vc_long, vc_float, vc_double]) ?_
  have e : lv_args 0 [rv (some a0)] = [(0, rv (some a0))] := by simp [lv_args, rv_cat, vc_int, vc_long, vc_float, vc_double]
  rw [e]
  exact T_X6_judgeProduct_0 h
/-- UnitProver$Step.judgeSingle(LUnitProver$Unit;)I: the loop at 62 -/
def L_X6_judgeSingle_62 (d : Nat) (q : HP → Int32 → Prop) (a0 : Nat) (o1 : Option Nat) (x2 : Int32) (H : HP) : Prop := WP (d + 1) mX6_judgeSingle 0 0 62 [(0, rv (some a0)), (1, rv o1), (2, .int x2)] [] H (qI q)
/-- UnitProver$Step.judgeSingle(LUnitProver$Unit;)I: the loop at 107 -/
def L_X6_judgeSingle_107 (d : Nat) (q : HP → Int32 → Prop) (a0 : Nat) (o1 : Option Nat) (x2 : Int32) (H : HP) : Prop := WP (d + 1) mX6_judgeSingle 0 0 107 [(0, rv (some a0)), (1, rv o1), (2, .int x2)] [] H (qI q)
def wb_X6_judgeSingle_0 (d : Nat) (q : HP → Int32 → Prop) (a0 : Nat) (o1 : Option Nat) (H : HP) : Prop :=
  tg H a0 = 7 ∧ (∃ a2, (hC H 707 a0) = some a2 ∧ (isA H a2 0 ∧ (vp_in (0 : Int32) (ln H a2) ∧ (∃ a5, (hC H 708 a0) = some a5 ∧ (isA H a5 0 ∧ (vp_in (0 : Int32) (ln H a5) ∧ (∃ a9, (hC H 712 a0) = some a9 ∧ (tg H a9 = 4 ∧ (CV d 0 0 mX3_set [rv (hC H 712 a0), .long ((hI H (tg H a2) a2 (0 : Int32).toNatClampNeg).toInt64), .long ((hI H (tg H a5) a5 (0 : Int32).toNatClampNeg).toInt64)] H (fun H8 => tg H8 a0 = 7 ∧ (((hI H8 705 a0 0) = 0 → q H8 (0 : Int32)) ∧ (¬ ((hI H8 705 a0 0) = 0) → (o1 = none → q H8 (0 : Int32)) ∧ (∀ a12, o1 = some a12 → tg H8 a12 = 10 ∧ (CZ d 0 0 mX9_hasOffset [rv o1] H8 (fun H13 b15 => tg H13 a0 = 7 ∧ (((hI (sI H13 704 a0 0 (bI b15)) 704 a0 0) = 0 → L_X6_judgeSingle_62 d q a0 o1 (0 : Int32) (sI H13 704 a0 0 (bI b15))) ∧ (¬ ((hI (sI H13 704 a0 0 (bI b15)) 704 a0 0) = 0) → ((hI (sI H13 704 a0 0 (bI b15)) 706 a0 0) ≤ (1 : Int32) → L_X6_judgeSingle_62 d q a0 o1 (0 : Int32) (sI H13 704 a0 0 (bI b15))) ∧ (¬ ((hI (sI H13 704 a0 0 (bI b15)) 706 a0 0) ≤ (1 : Int32)) → q (sI H13 704 a0 0 (bI b15)) (-10 : Int32)))))))))))))))))))
set_option maxRecDepth 40000 in
set_option maxHeartbeats 4000000 in
theorem T_X6_judgeSingle_0 {d : Nat} {q : HP → Int32 → Prop} {a0 : Nat} {o1 : Option Nat} {H : HP} (h : wb_X6_judgeSingle_0 d q a0 o1 H) : WP (d + 1) mX6_judgeSingle 0 0 0 [(0, rv (some a0)), (1, rv o1)] [] H (qI q) := by
  unfold wb_X6_judgeSingle_0 at h
  refine wp_aload_n 0 dX6_judgeSingle_0 rfl ?_
  obtain ⟨ht1, h⟩ := h
  refine wp_getC (ci := 6) (j := 12) dX6_judgeSingle_1 fi_X6_30r rfl rfl ht1 ?_
  change WP _ _ _ _ _ _ (rv (hC H 712 a0) :: _) _ _
  refine wp_aload_n 0 dX6_judgeSingle_4 rfl ?_
  refine wp_getC (ci := 6) (j := 7) dX6_judgeSingle_5 fi_X6_11r rfl rfl ht1 ?_
  change WP _ _ _ _ _ _ (rv (hC H 707 a0) :: _) _ _
  refine wp_iconst (v := (0 : Int32)) dX6_judgeSingle_8 (by decide) ?_
  obtain ⟨a2, ha2, h⟩ := h
  obtain ⟨hr3, h⟩ := h
  obtain ⟨hg4, h⟩ := h
  refine wp_iaload dX6_judgeSingle_9 ha2 hr3 hg4 ?_
  refine wp_i2l dX6_judgeSingle_10 ?_
  refine wp_aload_n 0 dX6_judgeSingle_11 rfl ?_
  refine wp_getC (ci := 6) (j := 8) dX6_judgeSingle_12 fi_X6_15r rfl rfl ht1 ?_
  change WP _ _ _ _ _ _ (rv (hC H 708 a0) :: _) _ _
  refine wp_iconst (v := (0 : Int32)) dX6_judgeSingle_15 (by decide) ?_
  obtain ⟨a5, ha5, h⟩ := h
  obtain ⟨hr6, h⟩ := h
  obtain ⟨hg7, h⟩ := h
  refine wp_iaload dX6_judgeSingle_16 ha5 hr6 hg7 ?_
  refine wp_i2l dX6_judgeSingle_17 ?_
  obtain ⟨a9, ha9, h⟩ := h
  obtain ⟨ht10, h⟩ := h
  refine wp_callV (ci := 3) (As := [.long ((hI H (tg H a2) a2 (0 : Int32).toNatClampNeg).toInt64), .long ((hI H (tg H a5) a5 (0 : Int32).toNatClampNeg).toInt64)]) (rest := []) (mc := 0) (ms := 0) dX6_judgeSingle_18 lk_X6_119 rfl rfl (by decide) ha9 rfl rfl ht10 rfl rfl rfl w_4_86 (Call.weaken h ?_)
  rintro H8 _ ⟨rfl, h⟩
  change WP _ _ _ _ _ _ [] H8 _
  refine wp_aload_n 0 dX6_judgeSingle_21 rfl ?_
  obtain ⟨ht11, h⟩ := h
  refine wp_getI (ci := 6) (j := 5) dX6_judgeSingle_22 fi_X6_52r rfl rfl ht11 ?_
  change WP _ _ _ _ _ _ (.int (hI H8 705 a0 0) :: _) _ _
  refine wp_if_eq (tgt := 32) dX6_judgeSingle_25 rfl (fun c => ?_) (fun c => ?_)
  · replace h := h.1 c
    refine wp_iconst (v := (0 : Int32)) dX6_judgeSingle_32 (by decide) ?_
    exact wp_ireturn (ty := .int) dX6_judgeSingle_33 rfl rfl ⟨_, rfl, h⟩
  · replace h := h.2 c
    refine wp_aload_n 1 dX6_judgeSingle_28 rfl ?_
    refine wp_ifnonnull (tgt := 34) dX6_judgeSingle_29 rfl (fun a12 ha12 => ?_) (fun c => ?_)
    · replace h := h.2 a12 ha12
      refine wp_aload_n 0 dX6_judgeSingle_34 rfl ?_
      refine wp_aload_n 1 dX6_judgeSingle_35 rfl ?_
      obtain ⟨ht14, h⟩ := h
      refine wp_callV (ci := 9) (As := []) (rest := [rv (some a0)]) (mc := 0) (ms := 0) dX6_judgeSingle_36 lk_X6_123 rfl rfl (by simp [rv_cat, vc_int, vc_long, vc_float, vc_double]) ha12 rfl rfl ht14 rfl rfl rfl w_4_82 (Call.weaken h ?_)
      rintro H13 _ ⟨b15, rfl, h⟩
      change WP _ _ _ _ _ _ [.int (bI b15), rv (some a0)] H13 _
      obtain ⟨ht16, h⟩ := h
      refine wp_putI (ci := 6) (j := 4) dX6_judgeSingle_39 fi_X6_49 rfl (fun z => by cases z) rfl ht16 (nar_bI _).1 (nar_bI _).2 ?_
      change WP _ _ _ _ _ _ _ (sI H13 704 a0 0 (bI b15)) _
      refine wp_aload_n 0 dX6_judgeSingle_42 rfl ?_
      refine wp_getI (ci := 6) (j := 4) dX6_judgeSingle_43 fi_X6_49r rfl rfl ht16 ?_
      change WP _ _ _ _ _ _ (.int (hI (sI H13 704 a0 0 (bI b15)) 704 a0 0) :: _) _ _
      refine wp_if_eq (tgt := 60) dX6_judgeSingle_46 rfl (fun c => ?_) (fun c => ?_)
      · replace h := h.1 c
        refine wp_iconst (v := (0 : Int32)) dX6_judgeSingle_60 (by decide) ?_
        refine wp_istore_n (ls' := [(2, .int (0 : Int32)), (0, rv (some a0)), (1, rv o1)]) dX6_judgeSingle_61 (by decide) (by change st1 _ 2 _ = _; simp [st1, rv_cat, vc_int, vc_long, vc_float, vc_double]) ?_
        refine wp_sub (ls' := [(0, rv (some a0)), (1, rv o1), (2, .int (0 : Int32))]) [1, 2, 0] rfl ?_
        exact h
      · replace h := h.2 c
        refine wp_aload_n 0 dX6_judgeSingle_49 rfl ?_
        refine wp_getI (ci := 6) (j := 6) dX6_judgeSingle_50 fi_X6_55r rfl rfl ht16 ?_
        change WP _ _ _ _ _ _ (.int (hI (sI H13 704 a0 0 (bI b15)) 706 a0 0) :: _) _ _
        refine wp_iconst (v := (1 : Int32)) dX6_judgeSingle_53 (by decide) ?_
        refine wp_icmp_le (tgt := 60) dX6_judgeSingle_54 rfl (fun c => ?_) (fun c => ?_)
        · replace h := h.1 c
          refine wp_iconst (v := (0 : Int32)) dX6_judgeSingle_60 (by decide) ?_
          refine wp_istore_n (ls' := [(2, .int (0 : Int32)), (0, rv (some a0)), (1, rv o1)]) dX6_judgeSingle_61 (by decide) (by change st1 _ 2 _ = _; simp [st1, rv_cat, vc_int, vc_long, vc_float, vc_double]) ?_
          refine wp_sub (ls' := [(0, rv (some a0)), (1, rv o1), (2, .int (0 : Int32))]) [1, 2, 0] rfl ?_
          exact h
        · replace h := h.2 c
          refine wp_bipush (v := (-10 : Int32)) dX6_judgeSingle_57 (by decide) ?_
          exact wp_ireturn (ty := .int) dX6_judgeSingle_59 rfl rfl ⟨_, rfl, h⟩
    · replace h := h.1 c
      refine wp_iconst (v := (0 : Int32)) dX6_judgeSingle_32 (by decide) ?_
      exact wp_ireturn (ty := .int) dX6_judgeSingle_33 rfl rfl ⟨_, rfl, h⟩
def wb_X6_judgeSingle_62 (d : Nat) (q : HP → Int32 → Prop) (a0 : Nat) (o1 : Option Nat) (x2 : Int32) (H : HP) : Prop :=
  ((5 : Int32) ≤ x2 → tg H a0 = 7 ∧ (CZ d 0 0 mX11_goesBeyond [rv (hC H 711 a0), .int (18 : Int32)] H (fun H2 b3 => (b3 = false → L_X6_judgeSingle_107 d q a0 o1 (0 : Int32) H2) ∧ (b3 = true → q H2 (-12 : Int32))))) ∧ (¬ ((5 : Int32) ≤ x2) → tg H a0 = 7 ∧ (∃ a5, o1 = some a5 ∧ (tg H a5 = 10 ∧ (∃ a7, (hC H 1002 a5) = some a7 ∧ (isA H a7 0 ∧ (vp_in x2 (ln H a7) ∧ (∃ a10, (hC H 711 a0) = some a10 ∧ (isA H a10 0 ∧ (vp_in x2 (ln H a10) ∧ (L_X6_judgeSingle_62 d q a0 o1 (x2 + 1) (sI H (tg H a10) a10 x2.toNatClampNeg ((hI H (tg H a7) a7 x2.toNatClampNeg) * (hI H 706 a0 0)))))))))))))
set_option maxRecDepth 40000 in
set_option maxHeartbeats 4000000 in
theorem T_X6_judgeSingle_62 {d : Nat} {q : HP → Int32 → Prop} {a0 : Nat} {o1 : Option Nat} {x2 : Int32} {H : HP} (h : wb_X6_judgeSingle_62 d q a0 o1 x2 H) : L_X6_judgeSingle_62 d q a0 o1 x2 H := by
  unfold wb_X6_judgeSingle_62 at h
  unfold L_X6_judgeSingle_62
  refine wp_iload_n 2 dX6_judgeSingle_62 rfl ?_
  refine wp_iconst (v := (5 : Int32)) dX6_judgeSingle_63 (by decide) ?_
  refine wp_icmp_ge (tgt := 90) dX6_judgeSingle_64 rfl (fun c => ?_) (fun c => ?_)
  · replace h := h.1 c
    refine wp_aload_n 0 dX6_judgeSingle_90 rfl ?_
    obtain ⟨ht1, h⟩ := h
    refine wp_getC (ci := 6) (j := 11) dX6_judgeSingle_91 fi_X6_24r rfl rfl ht1 ?_
    change WP _ _ _ _ _ _ (rv (hC H 711 a0) :: _) _ _
    refine wp_bipush (v := (18 : Int32)) dX6_judgeSingle_94 (by decide) ?_
    refine wp_callS (As := [rv (hC H 711 a0), .int (18 : Int32)]) (rest := []) (mc := 0) (ms := 0) dX6_judgeSingle_96 lk_X6_131 rfl rfl (by decide) rfl rfl rfl (Call.weaken h ?_)
    rintro H2 _ ⟨b3, rfl, h⟩
    change WP _ _ _ _ _ _ [.int (bI b3)] H2 _
    refine wp_if_eq (tgt := 105) dX6_judgeSingle_99 rfl (fun c => ?_) (fun c => ?_)
    · replace h := h.1 (bI_0.mp c)
      refine wp_iconst (v := (0 : Int32)) dX6_judgeSingle_105 (by decide) ?_
      refine wp_istore_n (ls' := [(2, .int (0 : Int32)), (0, rv (some a0)), (1, rv o1)]) dX6_judgeSingle_106 (by decide) (by change st1 _ 2 _ = _; simp [st1, rv_cat, vc_int, vc_long, vc_float, vc_double]) ?_
      refine wp_sub (ls' := [(0, rv (some a0)), (1, rv o1), (2, .int (0 : Int32))]) [1, 2, 0] rfl ?_
      exact h
    · replace h := h.2 (bI_1.mp c)
      refine wp_bipush (v := (-12 : Int32)) dX6_judgeSingle_102 (by decide) ?_
      exact wp_ireturn (ty := .int) dX6_judgeSingle_104 rfl rfl ⟨_, rfl, h⟩
  · replace h := h.2 c
    refine wp_aload_n 0 dX6_judgeSingle_67 rfl ?_
    obtain ⟨ht4, h⟩ := h
    refine wp_getC (ci := 6) (j := 11) dX6_judgeSingle_68 fi_X6_24r rfl rfl ht4 ?_
    change WP _ _ _ _ _ _ (rv (hC H 711 a0) :: _) _ _
    refine wp_iload_n 2 dX6_judgeSingle_71 rfl ?_
    refine wp_aload_n 1 dX6_judgeSingle_72 rfl ?_
    obtain ⟨a5, ha5, h⟩ := h
    obtain ⟨ht6, h⟩ := h
    refine wp_getC (ci := 9) (j := 2) dX6_judgeSingle_73 fi_X6_128 rfl ha5 ht6 ?_
    change WP _ _ _ _ _ _ (rv (hC H 1002 a5) :: _) _ _
    refine wp_iload_n 2 dX6_judgeSingle_76 rfl ?_
    obtain ⟨a7, ha7, h⟩ := h
    obtain ⟨hr8, h⟩ := h
    obtain ⟨hg9, h⟩ := h
    refine wp_iaload dX6_judgeSingle_77 ha7 hr8 hg9 ?_
    refine wp_aload_n 0 dX6_judgeSingle_78 rfl ?_
    refine wp_getI (ci := 6) (j := 6) dX6_judgeSingle_79 fi_X6_55r rfl rfl ht4 ?_
    change WP _ _ _ _ _ _ (.int (hI H 706 a0 0) :: _) _ _
    refine wp_imul dX6_judgeSingle_82 ?_
    obtain ⟨a10, ha10, h⟩ := h
    obtain ⟨hr11, h⟩ := h
    obtain ⟨hg12, h⟩ := h
    refine wp_iastore dX6_judgeSingle_83 ha10 hr11 hg12 ?_
    change WP _ _ _ _ _ _ _ (sI H (tg H a10) a10 x2.toNatClampNeg ((hI H (tg H a7) a7 x2.toNatClampNeg) * (hI H 706 a0 0))) _
    refine wp_iinc (v := (x2 + 1)) (ls' := [(2, .int (x2 + 1)), (0, rv (some a0)), (1, rv o1)]) 2 dX6_judgeSingle_84 rfl rfl (by decide) (by simp [st1, rv_cat, vc_int, vc_long, vc_float, vc_double]) ?_
    refine wp_goto (tgt := 62) dX6_judgeSingle_87 rfl ?_
    refine wp_sub (ls' := [(0, rv (some a0)), (1, rv o1), (2, .int (x2 + 1))]) [1, 2, 0] rfl ?_
    exact h
def wb_X6_judgeSingle_107 (d : Nat) (q : HP → Int32 → Prop) (a0 : Nat) (o1 : Option Nat) (x2 : Int32) (H : HP) : Prop :=
  tg H a0 = 7 ∧ (((hI H 706 a0 0) ≤ x2 → ∃ a2, o1 = some a2 ∧ (tg H a2 = 10 ∧ (∃ a5, (hC H 712 a0) = some a5 ∧ (tg H a5 = 4 ∧ (CZ d 0 0 mX3_add [rv (hC H 712 a0), rv (hC H 1004 a2)] H (fun H4 b7 => (b7 = false → q H4 (-15 : Int32)) ∧ (b7 = true → q H4 (0 : Int32)))))))) ∧ (¬ ((hI H 706 a0 0) ≤ x2) → ∃ a8, o1 = some a8 ∧ (tg H a8 = 10 ∧ (∃ a11, (hC H 712 a0) = some a11 ∧ (tg H a11 = 4 ∧ (CZ d 0 0 mX3_multiply [rv (hC H 712 a0), rv (hC H 1003 a8)] H (fun H10 b13 => (b13 = true → L_X6_judgeSingle_107 d q a0 o1 (x2 + 1) H10) ∧ (b13 = false → q H10 (-15 : Int32)))))))))
set_option maxRecDepth 40000 in
set_option maxHeartbeats 4000000 in
theorem T_X6_judgeSingle_107 {d : Nat} {q : HP → Int32 → Prop} {a0 : Nat} {o1 : Option Nat} {x2 : Int32} {H : HP} (h : wb_X6_judgeSingle_107 d q a0 o1 x2 H) : L_X6_judgeSingle_107 d q a0 o1 x2 H := by
  unfold wb_X6_judgeSingle_107 at h
  unfold L_X6_judgeSingle_107
  refine wp_iload_n 2 dX6_judgeSingle_107 rfl ?_
  refine wp_aload_n 0 dX6_judgeSingle_108 rfl ?_
  obtain ⟨ht1, h⟩ := h
  refine wp_getI (ci := 6) (j := 6) dX6_judgeSingle_109 fi_X6_55r rfl rfl ht1 ?_
  change WP _ _ _ _ _ _ (.int (hI H 706 a0 0) :: _) _ _
  refine wp_icmp_ge (tgt := 138) dX6_judgeSingle_112 rfl (fun c => ?_) (fun c => ?_)
  · replace h := h.1 c
    refine wp_aload_n 0 dX6_judgeSingle_138 rfl ?_
    refine wp_getC (ci := 6) (j := 12) dX6_judgeSingle_139 fi_X6_30r rfl rfl ht1 ?_
    change WP _ _ _ _ _ _ (rv (hC H 712 a0) :: _) _ _
    refine wp_aload_n 1 dX6_judgeSingle_142 rfl ?_
    obtain ⟨a2, ha2, h⟩ := h
    obtain ⟨ht3, h⟩ := h
    refine wp_getC (ci := 9) (j := 4) dX6_judgeSingle_143 fi_X6_142 rfl ha2 ht3 ?_
    change WP _ _ _ _ _ _ (rv (hC H 1004 a2) :: _) _ _
    obtain ⟨a5, ha5, h⟩ := h
    obtain ⟨ht6, h⟩ := h
    refine wp_callV (ci := 3) (As := [rv (hC H 1004 a2)]) (rest := []) (mc := 0) (ms := 0) dX6_judgeSingle_146 lk_X6_145 rfl rfl (by decide) ha5 rfl rfl ht6 rfl rfl rfl w_4_88 (Call.weaken h ?_)
    rintro H4 _ ⟨b7, rfl, h⟩
    change WP _ _ _ _ _ _ [.int (bI b7)] H4 _
    refine wp_if_eq (tgt := 156) dX6_judgeSingle_149 rfl (fun c => ?_) (fun c => ?_)
    · replace h := h.1 (bI_0.mp c)
      refine wp_bipush (v := (-15 : Int32)) dX6_judgeSingle_156 (by decide) ?_
      exact wp_ireturn (ty := .int) dX6_judgeSingle_158 rfl rfl ⟨_, rfl, h⟩
    · replace h := h.2 (bI_1.mp c)
      refine wp_iconst (v := (0 : Int32)) dX6_judgeSingle_152 (by decide) ?_
      refine wp_goto (tgt := 158) dX6_judgeSingle_153 rfl ?_
      exact wp_ireturn (ty := .int) dX6_judgeSingle_158 rfl rfl ⟨_, rfl, h⟩
  · replace h := h.2 c
    refine wp_aload_n 0 dX6_judgeSingle_115 rfl ?_
    refine wp_getC (ci := 6) (j := 12) dX6_judgeSingle_116 fi_X6_30r rfl rfl ht1 ?_
    change WP _ _ _ _ _ _ (rv (hC H 712 a0) :: _) _ _
    refine wp_aload_n 1 dX6_judgeSingle_119 rfl ?_
    obtain ⟨a8, ha8, h⟩ := h
    obtain ⟨ht9, h⟩ := h
    refine wp_getC (ci := 9) (j := 3) dX6_judgeSingle_120 fi_X6_135 rfl ha8 ht9 ?_
    change WP _ _ _ _ _ _ (rv (hC H 1003 a8) :: _) _ _
    obtain ⟨a11, ha11, h⟩ := h
    obtain ⟨ht12, h⟩ := h
    refine wp_callV (ci := 3) (As := [rv (hC H 1003 a8)]) (rest := []) (mc := 0) (ms := 0) dX6_judgeSingle_123 lk_X6_138 rfl rfl (by decide) ha11 rfl rfl ht12 rfl rfl rfl w_4_87 (Call.weaken h ?_)
    rintro H10 _ ⟨b13, rfl, h⟩
    change WP _ _ _ _ _ _ [.int (bI b13)] H10 _
    refine wp_if_ne (tgt := 132) dX6_judgeSingle_126 rfl (fun c => ?_) (fun c => ?_)
    · replace h := h.1 (bI_1.mp c)
      refine wp_iinc (v := (x2 + 1)) (ls' := [(2, .int (x2 + 1)), (0, rv (some a0)), (1, rv o1)]) 2 dX6_judgeSingle_132 rfl rfl (by decide) (by simp [st1, rv_cat, vc_int, vc_long, vc_float, vc_double]) ?_
      refine wp_goto (tgt := 107) dX6_judgeSingle_135 rfl ?_
      refine wp_sub (ls' := [(0, rv (some a0)), (1, rv o1), (2, .int (x2 + 1))]) [1, 2, 0] rfl ?_
      exact h
    · replace h := h.2 (bI_0.mp c)
      refine wp_bipush (v := (-15 : Int32)) dX6_judgeSingle_129 (by decide) ?_
      exact wp_ireturn (ty := .int) dX6_judgeSingle_131 rfl rfl ⟨_, rfl, h⟩
theorem C_X6_judgeSingle {d : Nat} {q : HP → Int32 → Prop} {a0 : Nat} {o1 : Option Nat} {H : HP} (h : wb_X6_judgeSingle_0 d q a0 o1 H) : CI (d + 1) 0 0 mX6_judgeSingle [rv (some a0), rv o1] H q := by
  refine call_of (by decide +kernel) (by simp [lg_sl, rv_cat, vc_int, vc_long, vc_float, vc_double]) ?_
  have e : lv_args 0 [rv (some a0), rv o1] = [(0, rv (some a0)), (1, rv o1)] := by simp [lv_args, rv_cat, vc_int, vc_long, vc_float, vc_double]
  rw [e]
  exact T_X6_judgeSingle_0 h
def wb_X6_judgeSum_0 (d : Nat) (q : HP → Int32 → Prop) (a0 : Nat) (H : HP) : Prop :=
  tg H a0 = 7 ∧ (∃ a2, (hR H 701 a0 0) = some a2 ∧ (tg H a2 = 7 ∧ (∃ a4, (hR H 702 a0 0) = some a4 ∧ (tg H a4 = 7 ∧ (CZ d 0 0 mX11_equalRows [rv (hC H 711 a2), rv (hC H 711 a4)] H (fun H6 b7 => (b7 = true → tg H6 a0 = 7 ∧ (∃ a9, (hR H6 701 a0 0) = some a9 ∧ (tg H6 a9 = 7 ∧ (∃ a11, (hC H6 711 a9) = some a11 ∧ (isA H6 a11 0 ∧ (∃ a13, (hC H6 711 a0) = some a13 ∧ (isA H6 a13 0 ∧ ((0 : Int32).toNatClampNeg + (5 : Int32).toNatClampNeg ≤ ln H6 a11 ∧ ((0 : Int32).toNatClampNeg + (5 : Int32).toNatClampNeg ≤ ln H6 a13 ∧ (∃ a17, (hR (fI H6 (tg H6 a13) a13 (va_cpy (hI H6 (tg H6 a11) a11) (hI H6 (tg H6 a13) a13) (0 : Int32).toNatClampNeg (0 : Int32).toNatClampNeg (5 : Int32).toNatClampNeg)) 701 a0 0) = some a17 ∧ (tg (fI H6 (tg H6 a13) a13 (va_cpy (hI H6 (tg H6 a11) a11) (hI H6 (tg H6 a13) a13) (0 : Int32).toNatClampNeg (0 : Int32).toNatClampNeg (5 : Int32).toNatClampNeg)) a17 = 7 ∧ (∃ a20, (hC (fI H6 (tg H6 a13) a13 (va_cpy (hI H6 (tg H6 a11) a11) (hI H6 (tg H6 a13) a13) (0 : Int32).toNatClampNeg (0 : Int32).toNatClampNeg (5 : Int32).toNatClampNeg)) 712 a0) = some a20 ∧ (tg (fI H6 (tg H6 a13) a13 (va_cpy (hI H6 (tg H6 a11) a11) (hI H6 (tg H6 a13) a13) (0 : Int32).toNatClampNeg (0 : Int32).toNatClampNeg (5 : Int32).toNatClampNeg)) a20 = 4 ∧ (CV d 0 0 mX3_copy [rv (hC (fI H6 (tg H6 a13) a13 (va_cpy (hI H6 (tg H6 a11) a11) (hI H6 (tg H6 a13) a13) (0 : Int32).toNatClampNeg (0 : Int32).toNatClampNeg (5 : Int32).toNatClampNeg)) 712 a0), rv (hC (fI H6 (tg H6 a13) a13 (va_cpy (hI H6 (tg H6 a11) a11) (hI H6 (tg H6 a13) a13) (0 : Int32).toNatClampNeg (0 : Int32).toNatClampNeg (5 : Int32).toNatClampNeg)) 712 a17)] (fI H6 (tg H6 a13) a13 (va_cpy (hI H6 (tg H6 a11) a11) (hI H6 (tg H6 a13) a13) (0 : Int32).toNatClampNeg (0 : Int32).toNatClampNeg (5 : Int32).toNatClampNeg)) (fun H19 => tg H19 a0 = 7 ∧ ((¬ (hI H19 700 a0 0) = (3 : Int32) → ∃ a23, (hR H19 702 a0 0) = some a23 ∧ (tg H19 a23 = 7 ∧ (∃ a26, (hC H19 712 a0) = some a26 ∧ (tg H19 a26 = 4 ∧ (CZ d 0 0 mX3_subtract [rv (hC H19 712 a0), rv (hC H19 712 a23)] H19 (fun H25 b28 => (b28 = false → q H25 (-15 : Int32)) ∧ (b28 = true → q H25 (0 : Int32)))))))) ∧ ((hI H19 700 a0 0) = (3 : Int32) → ∃ a29, (hR H19 702 a0 0) = some a29 ∧ (tg H19 a29 = 7 ∧ (∃ a32, (hC H19 712 a0) = some a32 ∧ (tg H19 a32 = 4 ∧ (CZ d 0 0 mX3_add [rv (hC H19 712 a0), rv (hC H19 712 a29)] H19 (fun H31 b34 => (b34 = false → q H31 (-15 : Int32)) ∧ (b34 = true → q H31 (0 : Int32)))))))))))))))))))))))) ∧ (b7 = false → q H6 (-13 : Int32))))))))
set_option maxRecDepth 40000 in
set_option maxHeartbeats 4000000 in
theorem T_X6_judgeSum_0 {d : Nat} {q : HP → Int32 → Prop} {a0 : Nat} {H : HP} (h : wb_X6_judgeSum_0 d q a0 H) : WP (d + 1) mX6_judgeSum 0 0 0 [(0, rv (some a0))] [] H (qI q) := by
  unfold wb_X6_judgeSum_0 at h
  refine wp_aload_n 0 dX6_judgeSum_0 rfl ?_
  obtain ⟨ht1, h⟩ := h
  refine wp_getR (ci := 6) (j := 1) dX6_judgeSum_1 fi_X6_38r rfl rfl ht1 ?_
  change WP _ _ _ _ _ _ (rv (hR H 701 a0 0) :: _) _ _
  obtain ⟨a2, ha2, h⟩ := h
  obtain ⟨ht3, h⟩ := h
  refine wp_getC (ci := 6) (j := 11) dX6_judgeSum_4 fi_X6_24r rfl ha2 ht3 ?_
  change WP _ _ _ _ _ _ (rv (hC H 711 a2) :: _) _ _
  refine wp_aload_n 0 dX6_judgeSum_7 rfl ?_
  refine wp_getR (ci := 6) (j := 2) dX6_judgeSum_8 fi_X6_42r rfl rfl ht1 ?_
  change WP _ _ _ _ _ _ (rv (hR H 702 a0 0) :: _) _ _
  obtain ⟨a4, ha4, h⟩ := h
  obtain ⟨ht5, h⟩ := h
  refine wp_getC (ci := 6) (j := 11) dX6_judgeSum_11 fi_X6_24r rfl ha4 ht5 ?_
  change WP _ _ _ _ _ _ (rv (hC H 711 a4) :: _) _ _
  refine wp_callS (As := [rv (hC H 711 a2), rv (hC H 711 a4)]) (rest := []) (mc := 0) (ms := 0) dX6_judgeSum_14 lk_X6_179 rfl rfl (by decide) rfl rfl rfl (Call.weaken h ?_)
  rintro H6 _ ⟨b7, rfl, h⟩
  change WP _ _ _ _ _ _ [.int (bI b7)] H6 _
  refine wp_if_ne (tgt := 23) dX6_judgeSum_17 rfl (fun c => ?_) (fun c => ?_)
  · replace h := h.1 (bI_1.mp c)
    refine wp_aload_n 0 dX6_judgeSum_23 rfl ?_
    obtain ⟨ht8, h⟩ := h
    refine wp_getR (ci := 6) (j := 1) dX6_judgeSum_24 fi_X6_38r rfl rfl ht8 ?_
    change WP _ _ _ _ _ _ (rv (hR H6 701 a0 0) :: _) _ _
    obtain ⟨a9, ha9, h⟩ := h
    obtain ⟨ht10, h⟩ := h
    refine wp_getC (ci := 6) (j := 11) dX6_judgeSum_27 fi_X6_24r rfl ha9 ht10 ?_
    change WP _ _ _ _ _ _ (rv (hC H6 711 a9) :: _) _ _
    refine wp_iconst (v := (0 : Int32)) dX6_judgeSum_30 (by decide) ?_
    refine wp_aload_n 0 dX6_judgeSum_31 rfl ?_
    refine wp_getC (ci := 6) (j := 11) dX6_judgeSum_32 fi_X6_24r rfl rfl ht8 ?_
    change WP _ _ _ _ _ _ (rv (hC H6 711 a0) :: _) _ _
    refine wp_iconst (v := (0 : Int32)) dX6_judgeSum_35 (by decide) ?_
    refine wp_iconst (v := (5 : Int32)) dX6_judgeSum_36 (by decide) ?_
    obtain ⟨a11, ha11, h⟩ := h
    obtain ⟨hr12, h⟩ := h
    obtain ⟨a13, ha13, h⟩ := h
    obtain ⟨hr14, h⟩ := h
    obtain ⟨hg15, h⟩ := h
    obtain ⟨hg16, h⟩ := h
    refine wp_copyI0 dX6_judgeSum_37 w_4_85 w_3_134 w_3_133 w_1_19 ha11 hr12 ha13 hr14 (by decide) (by decide) (by decide) hg15 hg16 (by decide) (by omega) ?_
    refine wp_aload_n 0 dX6_judgeSum_40 rfl ?_
    refine wp_getC (ci := 6) (j := 12) dX6_judgeSum_41 fi_X6_30r rfl rfl ht8 ?_
    change WP _ _ _ _ _ _ (rv (hC (fI H6 (tg H6 a13) a13 (va_cpy (hI H6 (tg H6 a11) a11) (hI H6 (tg H6 a13) a13) (0 : Int32).toNatClampNeg (0 : Int32).toNatClampNeg (5 : Int32).toNatClampNeg)) 712 a0) :: _) _ _
    refine wp_aload_n 0 dX6_judgeSum_44 rfl ?_
    refine wp_getR (ci := 6) (j := 1) dX6_judgeSum_45 fi_X6_38r rfl rfl ht8 ?_
    change WP _ _ _ _ _ _ (rv (hR (fI H6 (tg H6 a13) a13 (va_cpy (hI H6 (tg H6 a11) a11) (hI H6 (tg H6 a13) a13) (0 : Int32).toNatClampNeg (0 : Int32).toNatClampNeg (5 : Int32).toNatClampNeg)) 701 a0 0) :: _) _ _
    obtain ⟨a17, ha17, h⟩ := h
    obtain ⟨ht18, h⟩ := h
    refine wp_getC (ci := 6) (j := 12) dX6_judgeSum_48 fi_X6_30r rfl ha17 ht18 ?_
    change WP _ _ _ _ _ _ (rv (hC (fI H6 (tg H6 a13) a13 (va_cpy (hI H6 (tg H6 a11) a11) (hI H6 (tg H6 a13) a13) (0 : Int32).toNatClampNeg (0 : Int32).toNatClampNeg (5 : Int32).toNatClampNeg)) 712 a17) :: _) _ _
    obtain ⟨a20, ha20, h⟩ := h
    obtain ⟨ht21, h⟩ := h
    refine wp_callV (ci := 3) (As := [rv (hC (fI H6 (tg H6 a13) a13 (va_cpy (hI H6 (tg H6 a11) a11) (hI H6 (tg H6 a13) a13) (0 : Int32).toNatClampNeg (0 : Int32).toNatClampNeg (5 : Int32).toNatClampNeg)) 712 a17)]) (rest := []) (mc := 0) (ms := 0) dX6_judgeSum_51 lk_X6_172 rfl rfl (by decide) ha20 rfl rfl ht21 rfl rfl rfl w_4_112 (Call.weaken h ?_)
    rintro H19 _ ⟨rfl, h⟩
    change WP _ _ _ _ _ _ [] H19 _
    refine wp_aload_n 0 dX6_judgeSum_54 rfl ?_
    obtain ⟨ht22, h⟩ := h
    refine wp_getI (ci := 6) (j := 0) dX6_judgeSum_55 fi_X6_34r rfl rfl ht22 ?_
    change WP _ _ _ _ _ _ (.int (hI H19 700 a0 0) :: _) _ _
    refine wp_iconst (v := (3 : Int32)) dX6_judgeSum_58 (by decide) ?_
    refine wp_icmp_ne (tgt := 79) dX6_judgeSum_59 rfl (fun c => ?_) (fun c => ?_)
    · replace h := h.1 c
      refine wp_aload_n 0 dX6_judgeSum_79 rfl ?_
      refine wp_getC (ci := 6) (j := 12) dX6_judgeSum_80 fi_X6_30r rfl rfl ht22 ?_
      change WP _ _ _ _ _ _ (rv (hC H19 712 a0) :: _) _ _
      refine wp_aload_n 0 dX6_judgeSum_83 rfl ?_
      refine wp_getR (ci := 6) (j := 2) dX6_judgeSum_84 fi_X6_42r rfl rfl ht22 ?_
      change WP _ _ _ _ _ _ (rv (hR H19 702 a0 0) :: _) _ _
      obtain ⟨a23, ha23, h⟩ := h
      obtain ⟨ht24, h⟩ := h
      refine wp_getC (ci := 6) (j := 12) dX6_judgeSum_87 fi_X6_30r rfl ha23 ht24 ?_
      change WP _ _ _ _ _ _ (rv (hC H19 712 a23) :: _) _ _
      obtain ⟨a26, ha26, h⟩ := h
      obtain ⟨ht27, h⟩ := h
      refine wp_callV (ci := 3) (As := [rv (hC H19 712 a23)]) (rest := []) (mc := 0) (ms := 0) dX6_judgeSum_90 lk_X6_183 rfl rfl (by decide) ha26 rfl rfl ht27 rfl rfl rfl w_4_119 (Call.weaken h ?_)
      rintro H25 _ ⟨b28, rfl, h⟩
      change WP _ _ _ _ _ _ [.int (bI b28)] H25 _
      refine wp_istore_n (ls' := [(1, .int (bI b28)), (0, rv (some a0))]) dX6_judgeSum_93 (by decide) rfl ?_
      refine wp_iload_n 0 dX6_judgeSum_94 rfl ?_
      refine wp_if_eq (tgt := 102) dX6_judgeSum_95 rfl (fun c => ?_) (fun c => ?_)
      · replace h := h.1 (bI_0.mp c)
        refine wp_bipush (v := (-15 : Int32)) dX6_judgeSum_102 (by decide) ?_
        exact wp_ireturn (ty := .int) dX6_judgeSum_104 rfl rfl ⟨_, rfl, h⟩
      · replace h := h.2 (bI_1.mp c)
        refine wp_iconst (v := (0 : Int32)) dX6_judgeSum_98 (by decide) ?_
        refine wp_goto (tgt := 104) dX6_judgeSum_99 rfl ?_
        exact wp_ireturn (ty := .int) dX6_judgeSum_104 rfl rfl ⟨_, rfl, h⟩
    · replace h := h.2 c
      refine wp_aload_n 0 dX6_judgeSum_62 rfl ?_
      refine wp_getC (ci := 6) (j := 12) dX6_judgeSum_63 fi_X6_30r rfl rfl ht22 ?_
      change WP _ _ _ _ _ _ (rv (hC H19 712 a0) :: _) _ _
      refine wp_aload_n 0 dX6_judgeSum_66 rfl ?_
      refine wp_getR (ci := 6) (j := 2) dX6_judgeSum_67 fi_X6_42r rfl rfl ht22 ?_
      change WP _ _ _ _ _ _ (rv (hR H19 702 a0 0) :: _) _ _
      obtain ⟨a29, ha29, h⟩ := h
      obtain ⟨ht30, h⟩ := h
      refine wp_getC (ci := 6) (j := 12) dX6_judgeSum_70 fi_X6_30r rfl ha29 ht30 ?_
      change WP _ _ _ _ _ _ (rv (hC H19 712 a29) :: _) _ _
      obtain ⟨a32, ha32, h⟩ := h
      obtain ⟨ht33, h⟩ := h
      refine wp_callV (ci := 3) (As := [rv (hC H19 712 a29)]) (rest := []) (mc := 0) (ms := 0) dX6_judgeSum_73 lk_X6_145 rfl rfl (by decide) ha32 rfl rfl ht33 rfl rfl rfl w_4_88 (Call.weaken h ?_)
      rintro H31 _ ⟨b34, rfl, h⟩
      change WP _ _ _ _ _ _ [.int (bI b34)] H31 _
      refine wp_goto (tgt := 93) dX6_judgeSum_76 rfl ?_
      refine wp_istore_n (ls' := [(1, .int (bI b34)), (0, rv (some a0))]) dX6_judgeSum_93 (by decide) rfl ?_
      refine wp_iload_n 0 dX6_judgeSum_94 rfl ?_
      refine wp_if_eq (tgt := 102) dX6_judgeSum_95 rfl (fun c => ?_) (fun c => ?_)
      · replace h := h.1 (bI_0.mp c)
        refine wp_bipush (v := (-15 : Int32)) dX6_judgeSum_102 (by decide) ?_
        exact wp_ireturn (ty := .int) dX6_judgeSum_104 rfl rfl ⟨_, rfl, h⟩
      · replace h := h.2 (bI_1.mp c)
        refine wp_iconst (v := (0 : Int32)) dX6_judgeSum_98 (by decide) ?_
        refine wp_goto (tgt := 104) dX6_judgeSum_99 rfl ?_
        exact wp_ireturn (ty := .int) dX6_judgeSum_104 rfl rfl ⟨_, rfl, h⟩
  · replace h := h.2 (bI_0.mp c)
    refine wp_bipush (v := (-13 : Int32)) dX6_judgeSum_20 (by decide) ?_
    exact wp_ireturn (ty := .int) dX6_judgeSum_22 rfl rfl ⟨_, rfl, h⟩
theorem C_X6_judgeSum {d : Nat} {q : HP → Int32 → Prop} {a0 : Nat} {H : HP} (h : wb_X6_judgeSum_0 d q a0 H) : CI (d + 1) 0 0 mX6_judgeSum [rv (some a0)] H q := by
  refine call_of (by decide +kernel) (by simp [lg_sl, rv_cat, vc_int, vc_long, vc_float, vc_double]) ?_
  have e : lv_args 0 [rv (some a0)] = [(0, rv (some a0))] := by simp [lv_args, rv_cat, vc_int, vc_long, vc_float, vc_double]
  rw [e]
  exact T_X6_judgeSum_0 h
/-- UnitProver$Step.mixedRefusal([LUnitProver$Unit;)I: the loop at 2 -/
def L_X6_mixedRefusal_2 (d : Nat) (q : HP → Int32 → Prop) (a0 : Nat) (o1 : Option Nat) (x2 : Int32) (H : HP) : Prop := WP (d + 1) mX6_mixedRefusal 0 0 2 [(0, rv (some a0)), (1, rv o1), (2, .int x2)] [] H (qI q)
/-- UnitProver$Step.mixedRefusal([LUnitProver$Unit;)I: the loop at 35 -/
def L_X6_mixedRefusal_35 (d : Nat) (q : HP → Int32 → Prop) (a0 : Nat) (o1 : Option Nat) (x2 : Int32) (H : HP) : Prop := WP (d + 1) mX6_mixedRefusal 0 0 35 [(0, rv (some a0)), (1, rv o1), (2, .int x2)] [] H (qI q)
/-- UnitProver$Step.mixedRefusal([LUnitProver$Unit;)I: the loop at 71 -/
def L_X6_mixedRefusal_71 (d : Nat) (q : HP → Int32 → Prop) (a0 : Nat) (o1 : Option Nat) (x2 : Int32) (H : HP) : Prop := WP (d + 1) mX6_mixedRefusal 0 0 71 [(0, rv (some a0)), (1, rv o1), (2, .int x2)] [] H (qI q)
def wb_X6_mixedRefusal_0 (d : Nat) (q : HP → Int32 → Prop) (a0 : Nat) (o1 : Option Nat) (H : HP) : Prop :=
  L_X6_mixedRefusal_2 d q a0 o1 (0 : Int32) H
set_option maxRecDepth 40000 in
set_option maxHeartbeats 4000000 in
theorem T_X6_mixedRefusal_0 {d : Nat} {q : HP → Int32 → Prop} {a0 : Nat} {o1 : Option Nat} {H : HP} (h : wb_X6_mixedRefusal_0 d q a0 o1 H) : WP (d + 1) mX6_mixedRefusal 0 0 0 [(0, rv (some a0)), (1, rv o1)] [] H (qI q) := by
  unfold wb_X6_mixedRefusal_0 at h
  refine wp_iconst (v := (0 : Int32)) dX6_mixedRefusal_0 (by decide) ?_
  refine wp_istore_n (ls' := [(2, .int (0 : Int32)), (0, rv (some a0)), (1, rv o1)]) dX6_mixedRefusal_1 (by decide) (by change st1 _ 2 _ = _; simp [st1, rv_cat, vc_int, vc_long, vc_float, vc_double]) ?_
  refine wp_sub (ls' := [(0, rv (some a0)), (1, rv o1), (2, .int (0 : Int32))]) [1, 2, 0] rfl ?_
  exact h
def wb_X6_mixedRefusal_2 (d : Nat) (q : HP → Int32 → Prop) (a0 : Nat) (o1 : Option Nat) (x2 : Int32) (H : HP) : Prop :=
  tg H a0 = 7 ∧ (((hI H 705 a0 0) ≤ x2 → L_X6_mixedRefusal_35 d q a0 o1 (1 : Int32) H) ∧ (¬ ((hI H 705 a0 0) ≤ x2) → ((4 : Int32) ≤ x2 → L_X6_mixedRefusal_35 d q a0 o1 (1 : Int32) H) ∧ (¬ ((4 : Int32) ≤ x2) → ∃ a2, o1 = some a2 ∧ (isA H a2 6 ∧ (vp_in x2 (ln H a2) ∧ (∃ a6, (hR H (tg H a2) a2 x2.toNatClampNeg) = some a6 ∧ (tg H a6 = 10 ∧ (CZ d 0 0 mX9_hasOffset [rv (hR H (tg H a2) a2 x2.toNatClampNeg)] H (fun H5 b8 => (b8 = false → L_X6_mixedRefusal_2 d q a0 o1 (x2 + 1) H5) ∧ (b8 = true → q H5 (-10 : Int32)))))))))))
set_option maxRecDepth 40000 in
set_option maxHeartbeats 4000000 in
theorem T_X6_mixedRefusal_2 {d : Nat} {q : HP → Int32 → Prop} {a0 : Nat} {o1 : Option Nat} {x2 : Int32} {H : HP} (h : wb_X6_mixedRefusal_2 d q a0 o1 x2 H) : L_X6_mixedRefusal_2 d q a0 o1 x2 H := by
  unfold wb_X6_mixedRefusal_2 at h
  unfold L_X6_mixedRefusal_2
  refine wp_iload_n 2 dX6_mixedRefusal_2 rfl ?_
  refine wp_aload_n 0 dX6_mixedRefusal_3 rfl ?_
  obtain ⟨ht1, h⟩ := h
  refine wp_getI (ci := 6) (j := 5) dX6_mixedRefusal_4 fi_X6_52r rfl rfl ht1 ?_
  change WP _ _ _ _ _ _ (.int (hI H 705 a0 0) :: _) _ _
  refine wp_icmp_ge (tgt := 33) dX6_mixedRefusal_7 rfl (fun c => ?_) (fun c => ?_)
  · replace h := h.1 c
    refine wp_iconst (v := (1 : Int32)) dX6_mixedRefusal_33 (by decide) ?_
    refine wp_istore_n (ls' := [(2, .int (1 : Int32)), (0, rv (some a0)), (1, rv o1)]) dX6_mixedRefusal_34 (by decide) (by change st1 _ 2 _ = _; simp [st1, rv_cat, vc_int, vc_long, vc_float, vc_double]) ?_
    refine wp_sub (ls' := [(0, rv (some a0)), (1, rv o1), (2, .int (1 : Int32))]) [1, 2, 0] rfl ?_
    exact h
  · replace h := h.2 c
    refine wp_iload_n 2 dX6_mixedRefusal_10 rfl ?_
    refine wp_iconst (v := (4 : Int32)) dX6_mixedRefusal_11 (by decide) ?_
    refine wp_icmp_ge (tgt := 33) dX6_mixedRefusal_12 rfl (fun c => ?_) (fun c => ?_)
    · replace h := h.1 c
      refine wp_iconst (v := (1 : Int32)) dX6_mixedRefusal_33 (by decide) ?_
      refine wp_istore_n (ls' := [(2, .int (1 : Int32)), (0, rv (some a0)), (1, rv o1)]) dX6_mixedRefusal_34 (by decide) (by change st1 _ 2 _ = _; simp [st1, rv_cat, vc_int, vc_long, vc_float, vc_double]) ?_
      refine wp_sub (ls' := [(0, rv (some a0)), (1, rv o1), (2, .int (1 : Int32))]) [1, 2, 0] rfl ?_
      exact h
    · replace h := h.2 c
      refine wp_aload_n 1 dX6_mixedRefusal_15 rfl ?_
      refine wp_iload_n 2 dX6_mixedRefusal_16 rfl ?_
      obtain ⟨a2, ha2, h⟩ := h
      obtain ⟨hr3, h⟩ := h
      obtain ⟨hg4, h⟩ := h
      refine wp_aaload (e := 6) dX6_mixedRefusal_17 ha2 hr3 (by decide) hg4 ?_
      obtain ⟨a6, ha6, h⟩ := h
      obtain ⟨ht7, h⟩ := h
      refine wp_callV (ci := 9) (As := []) (rest := []) (mc := 0) (ms := 0) dX6_mixedRefusal_18 lk_X6_123 rfl rfl (by decide) ha6 rfl rfl ht7 rfl rfl rfl w_4_82 (Call.weaken h ?_)
      rintro H5 _ ⟨b8, rfl, h⟩
      change WP _ _ _ _ _ _ [.int (bI b8)] H5 _
      refine wp_if_eq (tgt := 27) dX6_mixedRefusal_21 rfl (fun c => ?_) (fun c => ?_)
      · replace h := h.1 (bI_0.mp c)
        refine wp_iinc (v := (x2 + 1)) (ls' := [(2, .int (x2 + 1)), (0, rv (some a0)), (1, rv o1)]) 2 dX6_mixedRefusal_27 rfl rfl (by decide) (by simp [st1, rv_cat, vc_int, vc_long, vc_float, vc_double]) ?_
        refine wp_goto (tgt := 2) dX6_mixedRefusal_30 rfl ?_
        refine wp_sub (ls' := [(0, rv (some a0)), (1, rv o1), (2, .int (x2 + 1))]) [1, 2, 0] rfl ?_
        exact h
      · replace h := h.2 (bI_1.mp c)
        refine wp_bipush (v := (-10 : Int32)) dX6_mixedRefusal_24 (by decide) ?_
        exact wp_ireturn (ty := .int) dX6_mixedRefusal_26 rfl rfl ⟨_, rfl, h⟩
def wb_X6_mixedRefusal_35 (d : Nat) (q : HP → Int32 → Prop) (a0 : Nat) (o1 : Option Nat) (x2 : Int32) (H : HP) : Prop :=
  tg H a0 = 7 ∧ (((hI H 705 a0 0) ≤ x2 → L_X6_mixedRefusal_71 d q a0 o1 (1 : Int32) H) ∧ (¬ ((hI H 705 a0 0) ≤ x2) → ((4 : Int32) ≤ x2 → L_X6_mixedRefusal_71 d q a0 o1 (1 : Int32) H) ∧ (¬ ((4 : Int32) ≤ x2) → ∃ a2, o1 = some a2 ∧ (isA H a2 6 ∧ (vp_in x2 (ln H a2) ∧ (vp_in (0 : Int32) (ln H a2) ∧ (∃ a7, (hR H (tg H a2) a2 x2.toNatClampNeg) = some a7 ∧ (tg H a7 = 10 ∧ (CZ d 0 0 mX9_isLike [rv (hR H (tg H a2) a2 x2.toNatClampNeg), rv (hR H (tg H a2) a2 (0 : Int32).toNatClampNeg)] H (fun H6 b9 => (b9 = true → L_X6_mixedRefusal_35 d q a0 o1 (x2 + 1) H6) ∧ (b9 = false → q H6 (-13 : Int32))))))))))))
set_option maxRecDepth 40000 in
set_option maxHeartbeats 4000000 in
theorem T_X6_mixedRefusal_35 {d : Nat} {q : HP → Int32 → Prop} {a0 : Nat} {o1 : Option Nat} {x2 : Int32} {H : HP} (h : wb_X6_mixedRefusal_35 d q a0 o1 x2 H) : L_X6_mixedRefusal_35 d q a0 o1 x2 H := by
  unfold wb_X6_mixedRefusal_35 at h
  unfold L_X6_mixedRefusal_35
  refine wp_iload_n 2 dX6_mixedRefusal_35 rfl ?_
  refine wp_aload_n 0 dX6_mixedRefusal_36 rfl ?_
  obtain ⟨ht1, h⟩ := h
  refine wp_getI (ci := 6) (j := 5) dX6_mixedRefusal_37 fi_X6_52r rfl rfl ht1 ?_
  change WP _ _ _ _ _ _ (.int (hI H 705 a0 0) :: _) _ _
  refine wp_icmp_ge (tgt := 69) dX6_mixedRefusal_40 rfl (fun c => ?_) (fun c => ?_)
  · replace h := h.1 c
    refine wp_iconst (v := (1 : Int32)) dX6_mixedRefusal_69 (by decide) ?_
    refine wp_istore_n (ls' := [(2, .int (1 : Int32)), (0, rv (some a0)), (1, rv o1)]) dX6_mixedRefusal_70 (by decide) (by change st1 _ 2 _ = _; simp [st1, rv_cat, vc_int, vc_long, vc_float, vc_double]) ?_
    refine wp_sub (ls' := [(0, rv (some a0)), (1, rv o1), (2, .int (1 : Int32))]) [1, 2, 0] rfl ?_
    exact h
  · replace h := h.2 c
    refine wp_iload_n 2 dX6_mixedRefusal_43 rfl ?_
    refine wp_iconst (v := (4 : Int32)) dX6_mixedRefusal_44 (by decide) ?_
    refine wp_icmp_ge (tgt := 69) dX6_mixedRefusal_45 rfl (fun c => ?_) (fun c => ?_)
    · replace h := h.1 c
      refine wp_iconst (v := (1 : Int32)) dX6_mixedRefusal_69 (by decide) ?_
      refine wp_istore_n (ls' := [(2, .int (1 : Int32)), (0, rv (some a0)), (1, rv o1)]) dX6_mixedRefusal_70 (by decide) (by change st1 _ 2 _ = _; simp [st1, rv_cat, vc_int, vc_long, vc_float, vc_double]) ?_
      refine wp_sub (ls' := [(0, rv (some a0)), (1, rv o1), (2, .int (1 : Int32))]) [1, 2, 0] rfl ?_
      exact h
    · replace h := h.2 c
      refine wp_aload_n 1 dX6_mixedRefusal_48 rfl ?_
      refine wp_iload_n 2 dX6_mixedRefusal_49 rfl ?_
      obtain ⟨a2, ha2, h⟩ := h
      obtain ⟨hr3, h⟩ := h
      obtain ⟨hg4, h⟩ := h
      refine wp_aaload (e := 6) dX6_mixedRefusal_50 ha2 hr3 (by decide) hg4 ?_
      refine wp_aload_n 1 dX6_mixedRefusal_51 rfl ?_
      refine wp_iconst (v := (0 : Int32)) dX6_mixedRefusal_52 (by decide) ?_
      obtain ⟨hg5, h⟩ := h
      refine wp_aaload (e := 6) dX6_mixedRefusal_53 ha2 hr3 (by decide) hg5 ?_
      obtain ⟨a7, ha7, h⟩ := h
      obtain ⟨ht8, h⟩ := h
      refine wp_callV (ci := 9) (As := [rv (hR H (tg H a2) a2 (0 : Int32).toNatClampNeg)]) (rest := []) (mc := 0) (ms := 0) dX6_mixedRefusal_54 lk_X6_158 rfl rfl (by decide) ha7 rfl rfl ht8 rfl rfl rfl w_4_83 (Call.weaken h ?_)
      rintro H6 _ ⟨b9, rfl, h⟩
      change WP _ _ _ _ _ _ [.int (bI b9)] H6 _
      refine wp_if_ne (tgt := 63) dX6_mixedRefusal_57 rfl (fun c => ?_) (fun c => ?_)
      · replace h := h.1 (bI_1.mp c)
        refine wp_iinc (v := (x2 + 1)) (ls' := [(2, .int (x2 + 1)), (0, rv (some a0)), (1, rv o1)]) 2 dX6_mixedRefusal_63 rfl rfl (by decide) (by simp [st1, rv_cat, vc_int, vc_long, vc_float, vc_double]) ?_
        refine wp_goto (tgt := 35) dX6_mixedRefusal_66 rfl ?_
        refine wp_sub (ls' := [(0, rv (some a0)), (1, rv o1), (2, .int (x2 + 1))]) [1, 2, 0] rfl ?_
        exact h
      · replace h := h.2 (bI_0.mp c)
        refine wp_bipush (v := (-13 : Int32)) dX6_mixedRefusal_60 (by decide) ?_
        exact wp_ireturn (ty := .int) dX6_mixedRefusal_62 rfl rfl ⟨_, rfl, h⟩
def wb_X6_mixedRefusal_71 (d : Nat) (q : HP → Int32 → Prop) (a0 : Nat) (o1 : Option Nat) (x2 : Int32) (H : HP) : Prop :=
  tg H a0 = 7 ∧ (((hI H 705 a0 0) ≤ x2 → q H (0 : Int32)) ∧ (¬ ((hI H 705 a0 0) ≤ x2) → ((4 : Int32) ≤ x2 → q H (0 : Int32)) ∧ (¬ ((4 : Int32) ≤ x2) → ∃ a2, o1 = some a2 ∧ (isA H a2 6 ∧ (vp_in x2 (ln H a2) ∧ (∃ a5, (hR H (tg H a2) a2 x2.toNatClampNeg) = some a5 ∧ (tg H a5 = 10 ∧ (vp_in (x2 - (1 : Int32)) (ln H a2) ∧ (∃ a8, (hR H (tg H a2) a2 (x2 - (1 : Int32)).toNatClampNeg) = some a8 ∧ (tg H a8 = 10 ∧ (∃ a11, (hC H 1003 a5) = some a11 ∧ (tg H a11 = 4 ∧ (CI d 0 0 mX3_compareWith [rv (hC H 1003 a5), rv (hC H 1003 a8)] H (fun H10 r13 => (r13 < 0 → L_X6_mixedRefusal_71 d q a0 o1 (x2 + 1) H10) ∧ (¬ (r13 < 0) → q H10 (-14 : Int32))))))))))))))))
set_option maxRecDepth 40000 in
set_option maxHeartbeats 4000000 in
theorem T_X6_mixedRefusal_71 {d : Nat} {q : HP → Int32 → Prop} {a0 : Nat} {o1 : Option Nat} {x2 : Int32} {H : HP} (h : wb_X6_mixedRefusal_71 d q a0 o1 x2 H) : L_X6_mixedRefusal_71 d q a0 o1 x2 H := by
  unfold wb_X6_mixedRefusal_71 at h
  unfold L_X6_mixedRefusal_71
  refine wp_iload_n 2 dX6_mixedRefusal_71 rfl ?_
  refine wp_aload_n 0 dX6_mixedRefusal_72 rfl ?_
  obtain ⟨ht1, h⟩ := h
  refine wp_getI (ci := 6) (j := 5) dX6_mixedRefusal_73 fi_X6_52r rfl rfl ht1 ?_
  change WP _ _ _ _ _ _ (.int (hI H 705 a0 0) :: _) _ _
  refine wp_icmp_ge (tgt := 113) dX6_mixedRefusal_76 rfl (fun c => ?_) (fun c => ?_)
  · replace h := h.1 c
    refine wp_iconst (v := (0 : Int32)) dX6_mixedRefusal_113 (by decide) ?_
    exact wp_ireturn (ty := .int) dX6_mixedRefusal_114 rfl rfl ⟨_, rfl, h⟩
  · replace h := h.2 c
    refine wp_iload_n 2 dX6_mixedRefusal_79 rfl ?_
    refine wp_iconst (v := (4 : Int32)) dX6_mixedRefusal_80 (by decide) ?_
    refine wp_icmp_ge (tgt := 113) dX6_mixedRefusal_81 rfl (fun c => ?_) (fun c => ?_)
    · replace h := h.1 c
      refine wp_iconst (v := (0 : Int32)) dX6_mixedRefusal_113 (by decide) ?_
      exact wp_ireturn (ty := .int) dX6_mixedRefusal_114 rfl rfl ⟨_, rfl, h⟩
    · replace h := h.2 c
      refine wp_aload_n 1 dX6_mixedRefusal_84 rfl ?_
      refine wp_iload_n 2 dX6_mixedRefusal_85 rfl ?_
      obtain ⟨a2, ha2, h⟩ := h
      obtain ⟨hr3, h⟩ := h
      obtain ⟨hg4, h⟩ := h
      refine wp_aaload (e := 6) dX6_mixedRefusal_86 ha2 hr3 (by decide) hg4 ?_
      obtain ⟨a5, ha5, h⟩ := h
      obtain ⟨ht6, h⟩ := h
      refine wp_getC (ci := 9) (j := 3) dX6_mixedRefusal_87 fi_X6_135 rfl ha5 ht6 ?_
      change WP _ _ _ _ _ _ (rv (hC H 1003 a5) :: _) _ _
      refine wp_aload_n 1 dX6_mixedRefusal_90 rfl ?_
      refine wp_iload_n 2 dX6_mixedRefusal_91 rfl ?_
      refine wp_iconst (v := (1 : Int32)) dX6_mixedRefusal_92 (by decide) ?_
      refine wp_isub dX6_mixedRefusal_93 ?_
      obtain ⟨hg7, h⟩ := h
      refine wp_aaload (e := 6) dX6_mixedRefusal_94 ha2 hr3 (by decide) hg7 ?_
      obtain ⟨a8, ha8, h⟩ := h
      obtain ⟨ht9, h⟩ := h
      refine wp_getC (ci := 9) (j := 3) dX6_mixedRefusal_95 fi_X6_135 rfl ha8 ht9 ?_
      change WP _ _ _ _ _ _ (rv (hC H 1003 a8) :: _) _ _
      obtain ⟨a11, ha11, h⟩ := h
      obtain ⟨ht12, h⟩ := h
      refine wp_callV (ci := 3) (As := [rv (hC H 1003 a8)]) (rest := []) (mc := 0) (ms := 0) dX6_mixedRefusal_98 lk_X6_162 rfl rfl (by decide) ha11 rfl rfl ht12 rfl rfl rfl w_4_84 (Call.weaken h ?_)
      rintro H10 _ ⟨r13, rfl, h⟩
      change WP _ _ _ _ _ _ [.int r13] H10 _
      refine wp_if_lt (tgt := 107) dX6_mixedRefusal_101 rfl (fun c => ?_) (fun c => ?_)
      · replace h := h.1 c
        refine wp_iinc (v := (x2 + 1)) (ls' := [(2, .int (x2 + 1)), (0, rv (some a0)), (1, rv o1)]) 2 dX6_mixedRefusal_107 rfl rfl (by decide) (by simp [st1, rv_cat, vc_int, vc_long, vc_float, vc_double]) ?_
        refine wp_goto (tgt := 71) dX6_mixedRefusal_110 rfl ?_
        refine wp_sub (ls' := [(0, rv (some a0)), (1, rv o1), (2, .int (x2 + 1))]) [1, 2, 0] rfl ?_
        exact h
      · replace h := h.2 c
        refine wp_bipush (v := (-14 : Int32)) dX6_mixedRefusal_104 (by decide) ?_
        exact wp_ireturn (ty := .int) dX6_mixedRefusal_106 rfl rfl ⟨_, rfl, h⟩
theorem C_X6_mixedRefusal {d : Nat} {q : HP → Int32 → Prop} {a0 : Nat} {o1 : Option Nat} {H : HP} (h : wb_X6_mixedRefusal_0 d q a0 o1 H) : CI (d + 1) 0 0 mX6_mixedRefusal [rv (some a0), rv o1] H q := by
  refine call_of (by decide +kernel) (by simp [lg_sl, rv_cat, vc_int, vc_long, vc_float, vc_double]) ?_
  have e : lv_args 0 [rv (some a0), rv o1] = [(0, rv (some a0)), (1, rv o1)] := by simp [lv_args, rv_cat, vc_int, vc_long, vc_float, vc_double]
  rw [e]
  exact T_X6_mixedRefusal_0 h
/-- UnitProver$Step.read(LUnitProver$Tape;)Z: the loop at 45 -/
def L_X6_read_45 (d : Nat) (q : HP → Bool → Prop) (a0 : Nat) (o1 : Option Nat) (x2 : Int32) (H : HP) : Prop := WP (d + 1) mX6_read 0 0 45 [(0, rv (some a0)), (1, rv o1), (2, .int x2)] [] H (qZ q)
def wb_X6_read_0 (d : Nat) (q : HP → Bool → Prop) (a0 : Nat) (o1 : Option Nat) (H : HP) : Prop :=
  ∃ a2, o1 = some a2 ∧ (tg H a2 = 8 ∧ (CZ d 0 0 mX7_isFigure [rv o1, .int (0 : Int32)] H (fun H1 b4 => (b4 = true → L_X6_read_45 d q a0 o1 (0 : Int32) H1) ∧ (b4 = false → tg H1 a0 = 7 ∧ (∃ a6, (hC H1 707 a0) = some a6 ∧ (isA H1 a6 0 ∧ (vp_in (0 : Int32) (ln H1 a6) ∧ (∃ a9, (hC (sI H1 (tg H1 a6) a6 (0 : Int32).toNatClampNeg (1 : Int32)) 708 a0) = some a9 ∧ (isA (sI H1 (tg H1 a6) a6 (0 : Int32).toNatClampNeg (1 : Int32)) a9 0 ∧ (vp_in (0 : Int32) (ln (sI H1 (tg H1 a6) a6 (0 : Int32).toNatClampNeg (1 : Int32)) a9) ∧ (∀ H12, (sI (sI H1 (tg H1 a6) a6 (0 : Int32).toNatClampNeg (1 : Int32)) (tg (sI H1 (tg H1 a6) a6 (0 : Int32).toNatClampNeg (1 : Int32)) a9) a9 (0 : Int32).toNatClampNeg (1 : Int32)) = H12 → (CZ d 0 0 mX6_readName [rv (some a0), rv o1, .int (0 : Int32)] H12 (fun H17 b18 => (b18 = true → tg H17 a2 = 8 ∧ (CI d 0 0 mX7_takePower [rv o1] H17 (fun H19 r21 => tg H19 a0 = 7 ∧ (q (sI H19 706 a0 0 r21) true)))) ∧ (b18 = false → q H17 false))))))))))))))
set_option maxRecDepth 40000 in
set_option maxHeartbeats 4000000 in
theorem T_X6_read_0 {d : Nat} {q : HP → Bool → Prop} {a0 : Nat} {o1 : Option Nat} {H : HP} (h : wb_X6_read_0 d q a0 o1 H) : WP (d + 1) mX6_read 0 0 0 [(0, rv (some a0)), (1, rv o1)] [] H (qZ q) := by
  unfold wb_X6_read_0 at h
  refine wp_aload_n 1 dX6_read_0 rfl ?_
  refine wp_iconst (v := (0 : Int32)) dX6_read_1 (by decide) ?_
  obtain ⟨a2, ha2, h⟩ := h
  obtain ⟨ht3, h⟩ := h
  refine wp_callV (ci := 7) (As := [.int (0 : Int32)]) (rest := []) (mc := 0) (ms := 0) dX6_read_2 lk_X6_58 rfl rfl (by decide) ha2 rfl rfl ht3 rfl rfl rfl w_4_38 (Call.weaken h ?_)
  rintro H1 _ ⟨b4, rfl, h⟩
  change WP _ _ _ _ _ _ [.int (bI b4)] H1 _
  refine wp_if_ne (tgt := 43) dX6_read_5 rfl (fun c => ?_) (fun c => ?_)
  · replace h := h.1 (bI_1.mp c)
    refine wp_iconst (v := (0 : Int32)) dX6_read_43 (by decide) ?_
    refine wp_istore_n (ls' := [(2, .int (0 : Int32)), (0, rv (some a0)), (1, rv o1)]) dX6_read_44 (by decide) (by change st1 _ 2 _ = _; simp [st1, rv_cat, vc_int, vc_long, vc_float, vc_double]) ?_
    refine wp_sub (ls' := [(0, rv (some a0)), (1, rv o1), (2, .int (0 : Int32))]) [1, 2, 0] rfl ?_
    exact h
  · replace h := h.2 (bI_0.mp c)
    refine wp_aload_n 0 dX6_read_8 rfl ?_
    obtain ⟨ht5, h⟩ := h
    refine wp_getC (ci := 6) (j := 7) dX6_read_9 fi_X6_11r rfl rfl ht5 ?_
    change WP _ _ _ _ _ _ (rv (hC H1 707 a0) :: _) _ _
    refine wp_iconst (v := (0 : Int32)) dX6_read_12 (by decide) ?_
    refine wp_iconst (v := (1 : Int32)) dX6_read_13 (by decide) ?_
    obtain ⟨a6, ha6, h⟩ := h
    obtain ⟨hr7, h⟩ := h
    obtain ⟨hg8, h⟩ := h
    refine wp_iastore dX6_read_14 ha6 hr7 hg8 ?_
    change WP _ _ _ _ _ _ _ (sI H1 (tg H1 a6) a6 (0 : Int32).toNatClampNeg (1 : Int32)) _
    refine wp_aload_n 0 dX6_read_15 rfl ?_
    refine wp_getC (ci := 6) (j := 8) dX6_read_16 fi_X6_15r rfl rfl ht5 ?_
    change WP _ _ _ _ _ _ (rv (hC (sI H1 (tg H1 a6) a6 (0 : Int32).toNatClampNeg (1 : Int32)) 708 a0) :: _) _ _
    refine wp_iconst (v := (0 : Int32)) dX6_read_19 (by decide) ?_
    refine wp_iconst (v := (1 : Int32)) dX6_read_20 (by decide) ?_
    obtain ⟨a9, ha9, h⟩ := h
    obtain ⟨hr10, h⟩ := h
    obtain ⟨hg11, h⟩ := h
    refine wp_iastore dX6_read_21 ha9 hr10 hg11 ?_
    change WP _ _ _ _ _ _ _ (sI (sI H1 (tg H1 a6) a6 (0 : Int32).toNatClampNeg (1 : Int32)) (tg (sI H1 (tg H1 a6) a6 (0 : Int32).toNatClampNeg (1 : Int32)) a9) a9 (0 : Int32).toNatClampNeg (1 : Int32)) _
    replace h := h _ rfl
    generalize e13 : (sI (sI H1 (tg H1 a6) a6 (0 : Int32).toNatClampNeg (1 : Int32)) (tg (sI H1 (tg H1 a6) a6 (0 : Int32).toNatClampNeg (1 : Int32)) a9) a9 (0 : Int32).toNatClampNeg (1 : Int32)) = H12 at h ⊢
    have ht14 : tg H12 a0 = 7 := by rw [← e13]; exact ht5
    have hr15 : isA H12 a6 0 := by rw [← e13]; exact hr7
    have hr16 : isA H12 a9 0 := by rw [← e13]; exact hr10
    refine wp_aload_n 0 dX6_read_22 rfl ?_
    refine wp_aload_n 1 dX6_read_23 rfl ?_
    refine wp_iconst (v := (0 : Int32)) dX6_read_24 (by decide) ?_
    refine wp_callV (ci := 6) (As := [rv o1, .int (0 : Int32)]) (rest := []) (mc := 0) (ms := 0) dX6_read_25 lk_X6_64 rfl rfl (by decide) rfl rfl rfl ht14 rfl rfl rfl w_4_39 (Call.weaken h ?_)
    rintro H17 _ ⟨b18, rfl, h⟩
    change WP _ _ _ _ _ _ [.int (bI b18)] H17 _
    refine wp_if_ne (tgt := 33) dX6_read_28 rfl (fun c => ?_) (fun c => ?_)
    · replace h := h.1 (bI_1.mp c)
      refine wp_aload_n 0 dX6_read_33 rfl ?_
      refine wp_aload_n 1 dX6_read_34 rfl ?_
      obtain ⟨ht20, h⟩ := h
      refine wp_callV (ci := 7) (As := []) (rest := [rv (some a0)]) (mc := 0) (ms := 0) dX6_read_35 lk_X6_68 rfl rfl (by simp [rv_cat, vc_int, vc_long, vc_float, vc_double]) ha2 rfl rfl ht20 rfl rfl rfl w_4_44 (Call.weaken h ?_)
      rintro H19 _ ⟨r21, rfl, h⟩
      change WP _ _ _ _ _ _ [.int r21, rv (some a0)] H19 _
      obtain ⟨ht22, h⟩ := h
      refine wp_putI (ci := 6) (j := 6) dX6_read_38 fi_X6_55 rfl (fun z => by cases z) rfl ht22 rfl rfl ?_
      change WP _ _ _ _ _ _ _ (sI H19 706 a0 0 r21) _
      refine wp_iconst (v := (1 : Int32)) dX6_read_41 (by decide) ?_
      exact wp_ireturn (ty := .boolean) dX6_read_42 rfl rfl ⟨true, rfl, h⟩
    · replace h := h.2 (bI_0.mp c)
      refine wp_iconst (v := (0 : Int32)) dX6_read_31 (by decide) ?_
      exact wp_ireturn (ty := .boolean) dX6_read_32 rfl rfl ⟨false, rfl, h⟩
def wb_X6_read_45 (d : Nat) (q : HP → Bool → Prop) (a0 : Nat) (o1 : Option Nat) (x2 : Int32) (H : HP) : Prop :=
  ((4 : Int32) ≤ x2 → q H true) ∧ (¬ ((4 : Int32) ≤ x2) → tg H a0 = 7 ∧ (CZ d 0 0 mX6_readNumber [rv (some a0), rv o1, .int x2] H (fun H1 b3 => (b3 = true → tg H1 a0 = 7 ∧ (CZ d 0 0 mX6_readName [rv (some a0), rv o1, .int x2] H1 (fun H4 b6 => (b6 = true → (¬ x2 = 0 → ∃ a8, o1 = some a8 ∧ (tg H4 a8 = 8 ∧ (CZ d 0 0 mX7_isFigure [rv o1, .int (0 : Int32)] H4 (fun H7 b10 => (b10 = true → L_X6_read_45 d q a0 o1 (x2 + 1) H7) ∧ (b10 = false → q H7 true))))) ∧ (x2 = 0 → CZ d 0 0 mX6_endsByFigure [rv o1] H4 (fun H11 b12 => (b12 = false → ∃ a14, o1 = some a14 ∧ (tg H11 a14 = 8 ∧ (CZ d 0 0 mX7_isFigure [rv o1, .int (0 : Int32)] H11 (fun H13 b16 => (b16 = true → L_X6_read_45 d q a0 o1 (x2 + 1) H13) ∧ (b16 = false → q H13 true))))) ∧ (b12 = true → ∃ a18, o1 = some a18 ∧ (tg H11 a18 = 8 ∧ (CI d 0 0 mX7_takePower [rv o1] H11 (fun H17 r20 => tg H17 a0 = 7 ∧ (q (sI H17 706 a0 0 r20) true)))))))) ∧ (b6 = false → (¬ x2 = 0 → q H4 false) ∧ (x2 = 0 → q H4 true))))) ∧ (b3 = false → q H1 false))))
set_option maxRecDepth 40000 in
set_option maxHeartbeats 4000000 in
theorem T_X6_read_45 {d : Nat} {q : HP → Bool → Prop} {a0 : Nat} {o1 : Option Nat} {x2 : Int32} {H : HP} (h : wb_X6_read_45 d q a0 o1 x2 H) : L_X6_read_45 d q a0 o1 x2 H := by
  unfold wb_X6_read_45 at h
  unfold L_X6_read_45
  refine wp_iload_n 2 dX6_read_45 rfl ?_
  refine wp_iconst (v := (4 : Int32)) dX6_read_46 (by decide) ?_
  refine wp_icmp_ge (tgt := 117) dX6_read_47 rfl (fun c => ?_) (fun c => ?_)
  · replace h := h.1 c
    refine wp_iconst (v := (1 : Int32)) dX6_read_117 (by decide) ?_
    exact wp_ireturn (ty := .boolean) dX6_read_118 rfl rfl ⟨true, rfl, h⟩
  · replace h := h.2 c
    refine wp_aload_n 0 dX6_read_50 rfl ?_
    refine wp_aload_n 1 dX6_read_51 rfl ?_
    refine wp_iload_n 2 dX6_read_52 rfl ?_
    obtain ⟨ht2, h⟩ := h
    refine wp_callV (ci := 6) (As := [rv o1, .int x2]) (rest := []) (mc := 0) (ms := 0) dX6_read_53 lk_X6_72 rfl rfl (by decide) rfl rfl rfl ht2 rfl rfl rfl w_4_45 (Call.weaken h ?_)
    rintro H1 _ ⟨b3, rfl, h⟩
    change WP _ _ _ _ _ _ [.int (bI b3)] H1 _
    refine wp_if_ne (tgt := 61) dX6_read_56 rfl (fun c => ?_) (fun c => ?_)
    · replace h := h.1 (bI_1.mp c)
      refine wp_aload_n 0 dX6_read_61 rfl ?_
      refine wp_aload_n 1 dX6_read_62 rfl ?_
      refine wp_iload_n 2 dX6_read_63 rfl ?_
      obtain ⟨ht5, h⟩ := h
      refine wp_callV (ci := 6) (As := [rv o1, .int x2]) (rest := []) (mc := 0) (ms := 0) dX6_read_64 lk_X6_64 rfl rfl (by decide) rfl rfl rfl ht5 rfl rfl rfl w_4_39 (Call.weaken h ?_)
      rintro H4 _ ⟨b6, rfl, h⟩
      change WP _ _ _ _ _ _ [.int (bI b6)] H4 _
      refine wp_if_ne (tgt := 80) dX6_read_67 rfl (fun c => ?_) (fun c => ?_)
      · replace h := h.1 (bI_1.mp c)
        refine wp_iload_n 2 dX6_read_80 rfl ?_
        refine wp_if_ne (tgt := 101) dX6_read_81 rfl (fun c => ?_) (fun c => ?_)
        · replace h := h.1 c
          refine wp_aload_n 1 dX6_read_101 rfl ?_
          refine wp_iconst (v := (0 : Int32)) dX6_read_102 (by decide) ?_
          obtain ⟨a8, ha8, h⟩ := h
          obtain ⟨ht9, h⟩ := h
          refine wp_callV (ci := 7) (As := [.int (0 : Int32)]) (rest := []) (mc := 0) (ms := 0) dX6_read_103 lk_X6_58 rfl rfl (by decide) ha8 rfl rfl ht9 rfl rfl rfl w_4_38 (Call.weaken h ?_)
          rintro H7 _ ⟨b10, rfl, h⟩
          change WP _ _ _ _ _ _ [.int (bI b10)] H7 _
          refine wp_if_ne (tgt := 111) dX6_read_106 rfl (fun c => ?_) (fun c => ?_)
          · replace h := h.1 (bI_1.mp c)
            refine wp_iinc (v := (x2 + 1)) (ls' := [(2, .int (x2 + 1)), (0, rv (some a0)), (1, rv o1)]) 2 dX6_read_111 rfl rfl (by decide) (by simp [st1, rv_cat, vc_int, vc_long, vc_float, vc_double]) ?_
            refine wp_goto (tgt := 45) dX6_read_114 rfl ?_
            refine wp_sub (ls' := [(0, rv (some a0)), (1, rv o1), (2, .int (x2 + 1))]) [1, 2, 0] rfl ?_
            exact h
          · replace h := h.2 (bI_0.mp c)
            refine wp_iconst (v := (1 : Int32)) dX6_read_109 (by decide) ?_
            exact wp_ireturn (ty := .boolean) dX6_read_110 rfl rfl ⟨true, rfl, h⟩
        · replace h := h.2 c
          refine wp_aload_n 1 dX6_read_84 rfl ?_
          refine wp_callS (As := [rv o1]) (rest := []) (mc := 0) (ms := 0) dX6_read_85 lk_X6_75 rfl rfl (by decide) rfl rfl rfl (Call.weaken h ?_)
          rintro H11 _ ⟨b12, rfl, h⟩
          change WP _ _ _ _ _ _ [.int (bI b12)] H11 _
          refine wp_if_eq (tgt := 101) dX6_read_88 rfl (fun c => ?_) (fun c => ?_)
          · replace h := h.1 (bI_0.mp c)
            refine wp_aload_n 1 dX6_read_101 rfl ?_
            refine wp_iconst (v := (0 : Int32)) dX6_read_102 (by decide) ?_
            obtain ⟨a14, ha14, h⟩ := h
            obtain ⟨ht15, h⟩ := h
            refine wp_callV (ci := 7) (As := [.int (0 : Int32)]) (rest := []) (mc := 0) (ms := 0) dX6_read_103 lk_X6_58 rfl rfl (by decide) ha14 rfl rfl ht15 rfl rfl rfl w_4_38 (Call.weaken h ?_)
            rintro H13 _ ⟨b16, rfl, h⟩
            change WP _ _ _ _ _ _ [.int (bI b16)] H13 _
            refine wp_if_ne (tgt := 111) dX6_read_106 rfl (fun c => ?_) (fun c => ?_)
            · replace h := h.1 (bI_1.mp c)
              refine wp_iinc (v := (x2 + 1)) (ls' := [(2, .int (x2 + 1)), (0, rv (some a0)), (1, rv o1)]) 2 dX6_read_111 rfl rfl (by decide) (by simp [st1, rv_cat, vc_int, vc_long, vc_float, vc_double]) ?_
              refine wp_goto (tgt := 45) dX6_read_114 rfl ?_
              refine wp_sub (ls' := [(0, rv (some a0)), (1, rv o1), (2, .int (x2 + 1))]) [1, 2, 0] rfl ?_
              exact h
            · replace h := h.2 (bI_0.mp c)
              refine wp_iconst (v := (1 : Int32)) dX6_read_109 (by decide) ?_
              exact wp_ireturn (ty := .boolean) dX6_read_110 rfl rfl ⟨true, rfl, h⟩
          · replace h := h.2 (bI_1.mp c)
            refine wp_aload_n 0 dX6_read_91 rfl ?_
            refine wp_aload_n 1 dX6_read_92 rfl ?_
            obtain ⟨a18, ha18, h⟩ := h
            obtain ⟨ht19, h⟩ := h
            refine wp_callV (ci := 7) (As := []) (rest := [rv (some a0)]) (mc := 0) (ms := 0) dX6_read_93 lk_X6_68 rfl rfl (by simp [rv_cat, vc_int, vc_long, vc_float, vc_double]) ha18 rfl rfl ht19 rfl rfl rfl w_4_44 (Call.weaken h ?_)
            rintro H17 _ ⟨r20, rfl, h⟩
            change WP _ _ _ _ _ _ [.int r20, rv (some a0)] H17 _
            obtain ⟨ht21, h⟩ := h
            refine wp_putI (ci := 6) (j := 6) dX6_read_96 fi_X6_55 rfl (fun z => by cases z) rfl ht21 rfl rfl ?_
            change WP _ _ _ _ _ _ _ (sI H17 706 a0 0 r20) _
            refine wp_iconst (v := (1 : Int32)) dX6_read_99 (by decide) ?_
            exact wp_ireturn (ty := .boolean) dX6_read_100 rfl rfl ⟨true, rfl, h⟩
      · replace h := h.2 (bI_0.mp c)
        refine wp_iload_n 2 dX6_read_70 rfl ?_
        refine wp_if_ne (tgt := 78) dX6_read_71 rfl (fun c => ?_) (fun c => ?_)
        · replace h := h.1 c
          refine wp_iconst (v := (0 : Int32)) dX6_read_78 (by decide) ?_
          exact wp_ireturn (ty := .boolean) dX6_read_79 rfl rfl ⟨false, rfl, h⟩
        · replace h := h.2 c
          refine wp_iconst (v := (1 : Int32)) dX6_read_74 (by decide) ?_
          refine wp_goto (tgt := 79) dX6_read_75 rfl ?_
          exact wp_ireturn (ty := .boolean) dX6_read_79 rfl rfl ⟨true, rfl, h⟩
    · replace h := h.2 (bI_0.mp c)
      refine wp_iconst (v := (0 : Int32)) dX6_read_59 (by decide) ?_
      exact wp_ireturn (ty := .boolean) dX6_read_60 rfl rfl ⟨false, rfl, h⟩
theorem C_X6_read {d : Nat} {q : HP → Bool → Prop} {a0 : Nat} {o1 : Option Nat} {H : HP} (h : wb_X6_read_0 d q a0 o1 H) : CZ (d + 1) 0 0 mX6_read [rv (some a0), rv o1] H q := by
  refine call_of (by decide +kernel) (by simp [lg_sl, rv_cat, vc_int, vc_long, vc_float, vc_double]) ?_
  have e : lv_args 0 [rv (some a0), rv o1] = [(0, rv (some a0)), (1, rv o1)] := by simp [lv_args, rv_cat, vc_int, vc_long, vc_float, vc_double]
  rw [e]
  exact T_X6_read_0 h
def wb_X6_readName_0 (d : Nat) (q : HP → Bool → Prop) (a0 : Nat) (o1 : Option Nat) (x2 : Int32) (H : HP) : Prop :=
  tg H a0 = 7 ∧ (∃ a2, o1 = some a2 ∧ (tg H a2 = 8 ∧ (∃ a4, (hC H 709 a0) = some a4 ∧ (isA H a4 0 ∧ (vp_in x2 (ln H a4) ∧ (CI d 0 0 mX7_takeName [rv o1] (sI H (tg H a4) a4 x2.toNatClampNeg (hI H 802 a2 0)) (fun H7 r8 => ∃ a9, (hC (sI H (tg H a4) a4 x2.toNatClampNeg (hI H 802 a2 0)) 710 a0) = some a9 ∧ (isA H7 a9 0 ∧ (vp_in x2 (ln H7 a9) ∧ (tg (sI H7 (tg H7 a9) a9 x2.toNatClampNeg r8) a0 = 7 ∧ (∃ a13, (hC (sI H7 (tg H7 a9) a9 x2.toNatClampNeg r8) 710 a0) = some a13 ∧ (isA (sI H7 (tg H7 a9) a9 x2.toNatClampNeg r8) a13 0 ∧ (vp_in x2 (ln (sI H7 (tg H7 a9) a9 x2.toNatClampNeg r8) a13) ∧ ((¬ (hI (sI H7 (tg H7 a9) a9 x2.toNatClampNeg r8) (tg (sI H7 (tg H7 a9) a9 x2.toNatClampNeg r8) a13) a13 x2.toNatClampNeg) = 0 → q (sI (sI H7 (tg H7 a9) a9 x2.toNatClampNeg r8) 705 a0 0 (x2 + (1 : Int32))) true) ∧ ((hI (sI H7 (tg H7 a9) a9 x2.toNatClampNeg r8) (tg (sI H7 (tg H7 a9) a9 x2.toNatClampNeg r8) a13) a13 x2.toNatClampNeg) = 0 → q (sI H7 (tg H7 a9) a9 x2.toNatClampNeg r8) false)))))))))))))))
set_option maxRecDepth 40000 in
set_option maxHeartbeats 4000000 in
theorem T_X6_readName_0 {d : Nat} {q : HP → Bool → Prop} {a0 : Nat} {o1 : Option Nat} {x2 : Int32} {H : HP} (h : wb_X6_readName_0 d q a0 o1 x2 H) : WP (d + 1) mX6_readName 0 0 0 [(0, rv (some a0)), (1, rv o1), (2, .int x2)] [] H (qZ q) := by
  unfold wb_X6_readName_0 at h
  refine wp_aload_n 0 dX6_readName_0 rfl ?_
  obtain ⟨ht1, h⟩ := h
  refine wp_getC (ci := 6) (j := 9) dX6_readName_1 fi_X6_18r rfl rfl ht1 ?_
  change WP _ _ _ _ _ _ (rv (hC H 709 a0) :: _) _ _
  refine wp_iload_n 2 dX6_readName_4 rfl ?_
  refine wp_aload_n 1 dX6_readName_5 rfl ?_
  obtain ⟨a2, ha2, h⟩ := h
  obtain ⟨ht3, h⟩ := h
  refine wp_getI (ci := 7) (j := 2) dX6_readName_6 fi_X6_90r rfl ha2 ht3 ?_
  change WP _ _ _ _ _ _ (.int (hI H 802 a2 0) :: _) _ _
  obtain ⟨a4, ha4, h⟩ := h
  obtain ⟨hr5, h⟩ := h
  obtain ⟨hg6, h⟩ := h
  refine wp_iastore dX6_readName_9 ha4 hr5 hg6 ?_
  change WP _ _ _ _ _ _ _ (sI H (tg H a4) a4 x2.toNatClampNeg (hI H 802 a2 0)) _
  refine wp_aload_n 0 dX6_readName_10 rfl ?_
  refine wp_getC (ci := 6) (j := 10) dX6_readName_11 fi_X6_21r rfl rfl ht1 ?_
  change WP _ _ _ _ _ _ (rv (hC (sI H (tg H a4) a4 x2.toNatClampNeg (hI H 802 a2 0)) 710 a0) :: _) _ _
  refine wp_iload_n 2 dX6_readName_14 rfl ?_
  refine wp_aload_n 1 dX6_readName_15 rfl ?_
  refine wp_callV (ci := 7) (As := []) (rest := [.int x2, rv (hC (sI H (tg H a4) a4 x2.toNatClampNeg (hI H 802 a2 0)) 710 a0)]) (mc := 0) (ms := 0) dX6_readName_16 lk_X6_93 rfl rfl (by simp [rv_cat, vc_int, vc_long, vc_float, vc_double]) ha2 rfl rfl ht3 rfl rfl rfl w_4_43 (Call.weaken h ?_)
  rintro H7 _ ⟨r8, rfl, h⟩
  change WP _ _ _ _ _ _ [.int r8, .int x2, rv (hC (sI H (tg H a4) a4 x2.toNatClampNeg (hI H 802 a2 0)) 710 a0)] H7 _
  obtain ⟨a9, ha9, h⟩ := h
  obtain ⟨hr10, h⟩ := h
  obtain ⟨hg11, h⟩ := h
  refine wp_iastore dX6_readName_19 ha9 hr10 hg11 ?_
  change WP _ _ _ _ _ _ _ (sI H7 (tg H7 a9) a9 x2.toNatClampNeg r8) _
  refine wp_aload_n 0 dX6_readName_20 rfl ?_
  obtain ⟨ht12, h⟩ := h
  refine wp_getC (ci := 6) (j := 10) dX6_readName_21 fi_X6_21r rfl rfl ht12 ?_
  change WP _ _ _ _ _ _ (rv (hC (sI H7 (tg H7 a9) a9 x2.toNatClampNeg r8) 710 a0) :: _) _ _
  refine wp_iload_n 2 dX6_readName_24 rfl ?_
  obtain ⟨a13, ha13, h⟩ := h
  obtain ⟨hr14, h⟩ := h
  obtain ⟨hg15, h⟩ := h
  refine wp_iaload dX6_readName_25 ha13 hr14 hg15 ?_
  refine wp_if_ne (tgt := 31) dX6_readName_26 rfl (fun c => ?_) (fun c => ?_)
  · replace h := h.1 c
    refine wp_aload_n 0 dX6_readName_31 rfl ?_
    refine wp_iload_n 2 dX6_readName_32 rfl ?_
    refine wp_iconst (v := (1 : Int32)) dX6_readName_33 (by decide) ?_
    refine wp_iadd dX6_readName_34 ?_
    refine wp_putI (ci := 6) (j := 5) dX6_readName_35 fi_X6_52 rfl (fun z => by cases z) rfl ht12 rfl rfl ?_
    change WP _ _ _ _ _ _ _ (sI (sI H7 (tg H7 a9) a9 x2.toNatClampNeg r8) 705 a0 0 (x2 + (1 : Int32))) _
    refine wp_iconst (v := (1 : Int32)) dX6_readName_38 (by decide) ?_
    exact wp_ireturn (ty := .boolean) dX6_readName_39 rfl rfl ⟨true, rfl, h⟩
  · replace h := h.2 c
    refine wp_iconst (v := (0 : Int32)) dX6_readName_29 (by decide) ?_
    exact wp_ireturn (ty := .boolean) dX6_readName_30 rfl rfl ⟨false, rfl, h⟩
theorem C_X6_readName {d : Nat} {q : HP → Bool → Prop} {a0 : Nat} {o1 : Option Nat} {x2 : Int32} {H : HP} (h : wb_X6_readName_0 d q a0 o1 x2 H) : CZ (d + 1) 0 0 mX6_readName [rv (some a0), rv o1, .int x2] H q := by
  refine call_of (by decide +kernel) (by simp [lg_sl, rv_cat, vc_int, vc_long, vc_float, vc_double]) ?_
  have e : lv_args 0 [rv (some a0), rv o1, .int x2] = [(0, rv (some a0)), (1, rv o1), (2, .int x2)] := by simp [lv_args, rv_cat, vc_int, vc_long, vc_float, vc_double]
  rw [e]
  exact T_X6_readName_0 h
/-- UnitProver$Step.readNumber(LUnitProver$Tape;I)Z: the loop at 41 -/
def L_X6_readNumber_41 (d : Nat) (q : HP → Bool → Prop) (a0 : Nat) (o1 : Option Nat) (x2 : Int32) (x3 : Int32) (H : HP) : Prop := WP (d + 1) mX6_readNumber 0 0 41 [(0, rv (some a0)), (1, rv o1), (2, .int x2), (3, .int x3)] [] H (qZ q)
def wb_X6_readNumber_0 (d : Nat) (q : HP → Bool → Prop) (a0 : Nat) (o1 : Option Nat) (x2 : Int32) (H : HP) : Prop :=
  tg H a0 = 7 ∧ (∃ a3, o1 = some a3 ∧ (tg H a3 = 8 ∧ (CI d 0 0 mX7_takeNumber [rv o1] H (fun H2 r5 => ∃ a6, (hC H 707 a0) = some a6 ∧ (isA H2 a6 0 ∧ (vp_in x2 (ln H2 a6) ∧ (tg (sI H2 (tg H2 a6) a6 x2.toNatClampNeg r5) a0 = 7 ∧ (∃ a10, (hC (sI H2 (tg H2 a6) a6 x2.toNatClampNeg r5) 708 a0) = some a10 ∧ (isA (sI H2 (tg H2 a6) a6 x2.toNatClampNeg r5) a10 0 ∧ (vp_in x2 (ln (sI H2 (tg H2 a6) a6 x2.toNatClampNeg r5) a10) ∧ (∃ a13, (hC (sI (sI H2 (tg H2 a6) a6 x2.toNatClampNeg r5) (tg (sI H2 (tg H2 a6) a6 x2.toNatClampNeg r5) a10) a10 x2.toNatClampNeg (1 : Int32)) 707 a0) = some a13 ∧ (isA (sI (sI H2 (tg H2 a6) a6 x2.toNatClampNeg r5) (tg (sI H2 (tg H2 a6) a6 x2.toNatClampNeg r5) a10) a10 x2.toNatClampNeg (1 : Int32)) a13 0 ∧ (vp_in x2 (ln (sI (sI H2 (tg H2 a6) a6 x2.toNatClampNeg r5) (tg (sI H2 (tg H2 a6) a6 x2.toNatClampNeg r5) a10) a10 x2.toNatClampNeg (1 : Int32)) a13) ∧ ((0 ≤ (hI (sI (sI H2 (tg H2 a6) a6 x2.toNatClampNeg r5) (tg (sI H2 (tg H2 a6) a6 x2.toNatClampNeg r5) a10) a10 x2.toNatClampNeg (1 : Int32)) (tg (sI (sI H2 (tg H2 a6) a6 x2.toNatClampNeg r5) (tg (sI H2 (tg H2 a6) a6 x2.toNatClampNeg r5) a10) a10 x2.toNatClampNeg (1 : Int32)) a13) a13 x2.toNatClampNeg) → tg (sI (sI H2 (tg H2 a6) a6 x2.toNatClampNeg r5) (tg (sI H2 (tg H2 a6) a6 x2.toNatClampNeg r5) a10) a10 x2.toNatClampNeg (1 : Int32)) a3 = 8 ∧ (CZ d 0 0 mX7_takes [rv o1, .int (46 : Int32)] (sI (sI H2 (tg H2 a6) a6 x2.toNatClampNeg r5) (tg (sI H2 (tg H2 a6) a6 x2.toNatClampNeg r5) a10) a10 x2.toNatClampNeg (1 : Int32)) (fun H16 b18 => (b18 = true → L_X6_readNumber_41 d q a0 o1 x2 (0 : Int32) H16) ∧ (b18 = false → q H16 true)))) ∧ (¬ (0 ≤ (hI (sI (sI H2 (tg H2 a6) a6 x2.toNatClampNeg r5) (tg (sI H2 (tg H2 a6) a6 x2.toNatClampNeg r5) a10) a10 x2.toNatClampNeg (1 : Int32)) (tg (sI (sI H2 (tg H2 a6) a6 x2.toNatClampNeg r5) (tg (sI H2 (tg H2 a6) a6 x2.toNatClampNeg r5) a10) a10 x2.toNatClampNeg (1 : Int32)) a13) a13 x2.toNatClampNeg)) → q (sI (sI H2 (tg H2 a6) a6 x2.toNatClampNeg r5) (tg (sI H2 (tg H2 a6) a6 x2.toNatClampNeg r5) a10) a10 x2.toNatClampNeg (1 : Int32)) false)))))))))))))))
set_option maxRecDepth 40000 in
set_option maxHeartbeats 4000000 in
theorem T_X6_readNumber_0 {d : Nat} {q : HP → Bool → Prop} {a0 : Nat} {o1 : Option Nat} {x2 : Int32} {H : HP} (h : wb_X6_readNumber_0 d q a0 o1 x2 H) : WP (d + 1) mX6_readNumber 0 0 0 [(0, rv (some a0)), (1, rv o1), (2, .int x2)] [] H (qZ q) := by
  unfold wb_X6_readNumber_0 at h
  refine wp_aload_n 0 dX6_readNumber_0 rfl ?_
  obtain ⟨ht1, h⟩ := h
  refine wp_getC (ci := 6) (j := 7) dX6_readNumber_1 fi_X6_11r rfl rfl ht1 ?_
  change WP _ _ _ _ _ _ (rv (hC H 707 a0) :: _) _ _
  refine wp_iload_n 2 dX6_readNumber_4 rfl ?_
  refine wp_aload_n 1 dX6_readNumber_5 rfl ?_
  obtain ⟨a3, ha3, h⟩ := h
  obtain ⟨ht4, h⟩ := h
  refine wp_callV (ci := 7) (As := []) (rest := [.int x2, rv (hC H 707 a0)]) (mc := 0) (ms := 0) dX6_readNumber_6 lk_X6_96 rfl rfl (by simp [rv_cat, vc_int, vc_long, vc_float, vc_double]) ha3 rfl rfl ht4 rfl rfl rfl w_4_49 (Call.weaken h ?_)
  rintro H2 _ ⟨r5, rfl, h⟩
  change WP _ _ _ _ _ _ [.int r5, .int x2, rv (hC H 707 a0)] H2 _
  obtain ⟨a6, ha6, h⟩ := h
  obtain ⟨hr7, h⟩ := h
  obtain ⟨hg8, h⟩ := h
  refine wp_iastore dX6_readNumber_9 ha6 hr7 hg8 ?_
  change WP _ _ _ _ _ _ _ (sI H2 (tg H2 a6) a6 x2.toNatClampNeg r5) _
  refine wp_aload_n 0 dX6_readNumber_10 rfl ?_
  obtain ⟨ht9, h⟩ := h
  refine wp_getC (ci := 6) (j := 8) dX6_readNumber_11 fi_X6_15r rfl rfl ht9 ?_
  change WP _ _ _ _ _ _ (rv (hC (sI H2 (tg H2 a6) a6 x2.toNatClampNeg r5) 708 a0) :: _) _ _
  refine wp_iload_n 2 dX6_readNumber_14 rfl ?_
  refine wp_iconst (v := (1 : Int32)) dX6_readNumber_15 (by decide) ?_
  obtain ⟨a10, ha10, h⟩ := h
  obtain ⟨hr11, h⟩ := h
  obtain ⟨hg12, h⟩ := h
  refine wp_iastore dX6_readNumber_16 ha10 hr11 hg12 ?_
  change WP _ _ _ _ _ _ _ (sI (sI H2 (tg H2 a6) a6 x2.toNatClampNeg r5) (tg (sI H2 (tg H2 a6) a6 x2.toNatClampNeg r5) a10) a10 x2.toNatClampNeg (1 : Int32)) _
  refine wp_aload_n 0 dX6_readNumber_17 rfl ?_
  refine wp_getC (ci := 6) (j := 7) dX6_readNumber_18 fi_X6_11r rfl rfl ht9 ?_
  change WP _ _ _ _ _ _ (rv (hC (sI (sI H2 (tg H2 a6) a6 x2.toNatClampNeg r5) (tg (sI H2 (tg H2 a6) a6 x2.toNatClampNeg r5) a10) a10 x2.toNatClampNeg (1 : Int32)) 707 a0) :: _) _ _
  refine wp_iload_n 2 dX6_readNumber_21 rfl ?_
  obtain ⟨a13, ha13, h⟩ := h
  obtain ⟨hr14, h⟩ := h
  obtain ⟨hg15, h⟩ := h
  refine wp_iaload dX6_readNumber_22 ha13 hr14 hg15 ?_
  refine wp_if_ge (tgt := 28) dX6_readNumber_23 rfl (fun c => ?_) (fun c => ?_)
  · replace h := h.1 c
    refine wp_aload_n 1 dX6_readNumber_28 rfl ?_
    refine wp_bipush (v := (46 : Int32)) dX6_readNumber_29 (by decide) ?_
    obtain ⟨ht17, h⟩ := h
    refine wp_callV (ci := 7) (As := [.int (46 : Int32)]) (rest := []) (mc := 0) (ms := 0) dX6_readNumber_31 lk_X6_99 rfl rfl (by decide) ha3 rfl rfl ht17 rfl rfl rfl w_4_50 (Call.weaken h ?_)
    rintro H16 _ ⟨b18, rfl, h⟩
    change WP _ _ _ _ _ _ [.int (bI b18)] H16 _
    refine wp_if_ne (tgt := 39) dX6_readNumber_34 rfl (fun c => ?_) (fun c => ?_)
    · replace h := h.1 (bI_1.mp c)
      refine wp_iconst (v := (0 : Int32)) dX6_readNumber_39 (by decide) ?_
      refine wp_istore_n (ls' := [(3, .int (0 : Int32)), (0, rv (some a0)), (1, rv o1), (2, .int x2)]) dX6_readNumber_40 (by decide) rfl ?_
      refine wp_sub (ls' := [(0, rv (some a0)), (1, rv o1), (2, .int x2), (3, .int (0 : Int32))]) [1, 2, 3, 0] rfl ?_
      exact h
    · replace h := h.2 (bI_0.mp c)
      refine wp_iconst (v := (1 : Int32)) dX6_readNumber_37 (by decide) ?_
      exact wp_ireturn (ty := .boolean) dX6_readNumber_38 rfl rfl ⟨true, rfl, h⟩
  · replace h := h.2 c
    refine wp_iconst (v := (0 : Int32)) dX6_readNumber_26 (by decide) ?_
    exact wp_ireturn (ty := .boolean) dX6_readNumber_27 rfl rfl ⟨false, rfl, h⟩
def wb_X6_readNumber_41 (d : Nat) (q : HP → Bool → Prop) (a0 : Nat) (o1 : Option Nat) (x2 : Int32) (x3 : Int32) (H : HP) : Prop :=
  ((3 : Int32) ≤ x3 → tg H a0 = 7 ∧ (∃ a2, (hC H 708 a0) = some a2 ∧ (isA H a2 0 ∧ (vp_in x2 (ln H a2) ∧ (((hI H (tg H a2) a2 x2.toNatClampNeg) ≤ (1 : Int32) → q H false) ∧ (¬ ((hI H (tg H a2) a2 x2.toNatClampNeg) ≤ (1 : Int32)) → q H true)))))) ∧ (¬ ((3 : Int32) ≤ x3) → ∃ a6, o1 = some a6 ∧ (tg H a6 = 8 ∧ (CZ d 0 0 mX7_isFigure [rv o1, .int (0 : Int32)] H (fun H5 b8 => (b8 = false → tg H5 a0 = 7 ∧ (∃ a10, (hC H5 708 a0) = some a10 ∧ (isA H5 a10 0 ∧ (vp_in x2 (ln H5 a10) ∧ (((hI H5 (tg H5 a10) a10 x2.toNatClampNeg) ≤ (1 : Int32) → q H5 false) ∧ (¬ ((hI H5 (tg H5 a10) a10 x2.toNatClampNeg) ≤ (1 : Int32)) → q H5 true)))))) ∧ (b8 = true → tg H5 a0 = 7 ∧ (∃ a14, (hC H5 707 a0) = some a14 ∧ (isA H5 a14 0 ∧ (vp_in x2 (ln H5 a14) ∧ (tg H5 a6 = 8 ∧ (CI d 0 0 mX7_takeFigure [rv o1] H5 (fun H17 r19 => isA H17 a14 0 ∧ (vp_in x2 (ln H17 a14) ∧ (tg (sI H17 (tg H17 a14) a14 x2.toNatClampNeg (((hI H5 (tg H5 a14) a14 x2.toNatClampNeg) * (10 : Int32)) + r19)) a0 = 7 ∧ (∃ a23, (hC (sI H17 (tg H17 a14) a14 x2.toNatClampNeg (((hI H5 (tg H5 a14) a14 x2.toNatClampNeg) * (10 : Int32)) + r19)) 708 a0) = some a23 ∧ (isA (sI H17 (tg H17 a14) a14 x2.toNatClampNeg (((hI H5 (tg H5 a14) a14 x2.toNatClampNeg) * (10 : Int32)) + r19)) a23 0 ∧ (vp_in x2 (ln (sI H17 (tg H17 a14) a14 x2.toNatClampNeg (((hI H5 (tg H5 a14) a14 x2.toNatClampNeg) * (10 : Int32)) + r19)) a23) ∧ (vp_in x2 (ln (sI H17 (tg H17 a14) a14 x2.toNatClampNeg (((hI H5 (tg H5 a14) a14 x2.toNatClampNeg) * (10 : Int32)) + r19)) a23) ∧ (∀ H27, (sI (sI H17 (tg H17 a14) a14 x2.toNatClampNeg (((hI H5 (tg H5 a14) a14 x2.toNatClampNeg) * (10 : Int32)) + r19)) (tg (sI H17 (tg H17 a14) a14 x2.toNatClampNeg (((hI H5 (tg H5 a14) a14 x2.toNatClampNeg) * (10 : Int32)) + r19)) a23) a23 x2.toNatClampNeg ((hI (sI H17 (tg H17 a14) a14 x2.toNatClampNeg (((hI H5 (tg H5 a14) a14 x2.toNatClampNeg) * (10 : Int32)) + r19)) (tg (sI H17 (tg H17 a14) a14 x2.toNatClampNeg (((hI H5 (tg H5 a14) a14 x2.toNatClampNeg) * (10 : Int32)) + r19)) a23) a23 x2.toNatClampNeg) * (10 : Int32))) = H27 → (L_X6_readNumber_41 d q a0 o1 x2 (x3 + 1) H27)))))))))))))))))))
set_option maxRecDepth 40000 in
set_option maxHeartbeats 4000000 in
theorem T_X6_readNumber_41 {d : Nat} {q : HP → Bool → Prop} {a0 : Nat} {o1 : Option Nat} {x2 : Int32} {x3 : Int32} {H : HP} (h : wb_X6_readNumber_41 d q a0 o1 x2 x3 H) : L_X6_readNumber_41 d q a0 o1 x2 x3 H := by
  unfold wb_X6_readNumber_41 at h
  unfold L_X6_readNumber_41
  refine wp_iload_n 3 dX6_readNumber_41 rfl ?_
  refine wp_iconst (v := (3 : Int32)) dX6_readNumber_42 (by decide) ?_
  refine wp_icmp_ge (tgt := 95) dX6_readNumber_43 rfl (fun c => ?_) (fun c => ?_)
  · replace h := h.1 c
    refine wp_aload_n 0 dX6_readNumber_95 rfl ?_
    obtain ⟨ht1, h⟩ := h
    refine wp_getC (ci := 6) (j := 8) dX6_readNumber_96 fi_X6_15r rfl rfl ht1 ?_
    change WP _ _ _ _ _ _ (rv (hC H 708 a0) :: _) _ _
    refine wp_iload_n 2 dX6_readNumber_99 rfl ?_
    obtain ⟨a2, ha2, h⟩ := h
    obtain ⟨hr3, h⟩ := h
    obtain ⟨hg4, h⟩ := h
    refine wp_iaload dX6_readNumber_100 ha2 hr3 hg4 ?_
    refine wp_iconst (v := (1 : Int32)) dX6_readNumber_101 (by decide) ?_
    refine wp_icmp_le (tgt := 109) dX6_readNumber_102 rfl (fun c => ?_) (fun c => ?_)
    · replace h := h.1 c
      refine wp_iconst (v := (0 : Int32)) dX6_readNumber_109 (by decide) ?_
      exact wp_ireturn (ty := .boolean) dX6_readNumber_110 rfl rfl ⟨false, rfl, h⟩
    · replace h := h.2 c
      refine wp_iconst (v := (1 : Int32)) dX6_readNumber_105 (by decide) ?_
      refine wp_goto (tgt := 110) dX6_readNumber_106 rfl ?_
      exact wp_ireturn (ty := .boolean) dX6_readNumber_110 rfl rfl ⟨true, rfl, h⟩
  · replace h := h.2 c
    refine wp_aload_n 1 dX6_readNumber_46 rfl ?_
    refine wp_iconst (v := (0 : Int32)) dX6_readNumber_47 (by decide) ?_
    obtain ⟨a6, ha6, h⟩ := h
    obtain ⟨ht7, h⟩ := h
    refine wp_callV (ci := 7) (As := [.int (0 : Int32)]) (rest := []) (mc := 0) (ms := 0) dX6_readNumber_48 lk_X6_58 rfl rfl (by decide) ha6 rfl rfl ht7 rfl rfl rfl w_4_38 (Call.weaken h ?_)
    rintro H5 _ ⟨b8, rfl, h⟩
    change WP _ _ _ _ _ _ [.int (bI b8)] H5 _
    refine wp_if_eq (tgt := 95) dX6_readNumber_51 rfl (fun c => ?_) (fun c => ?_)
    · replace h := h.1 (bI_0.mp c)
      refine wp_aload_n 0 dX6_readNumber_95 rfl ?_
      obtain ⟨ht9, h⟩ := h
      refine wp_getC (ci := 6) (j := 8) dX6_readNumber_96 fi_X6_15r rfl rfl ht9 ?_
      change WP _ _ _ _ _ _ (rv (hC H5 708 a0) :: _) _ _
      refine wp_iload_n 2 dX6_readNumber_99 rfl ?_
      obtain ⟨a10, ha10, h⟩ := h
      obtain ⟨hr11, h⟩ := h
      obtain ⟨hg12, h⟩ := h
      refine wp_iaload dX6_readNumber_100 ha10 hr11 hg12 ?_
      refine wp_iconst (v := (1 : Int32)) dX6_readNumber_101 (by decide) ?_
      refine wp_icmp_le (tgt := 109) dX6_readNumber_102 rfl (fun c => ?_) (fun c => ?_)
      · replace h := h.1 c
        refine wp_iconst (v := (0 : Int32)) dX6_readNumber_109 (by decide) ?_
        exact wp_ireturn (ty := .boolean) dX6_readNumber_110 rfl rfl ⟨false, rfl, h⟩
      · replace h := h.2 c
        refine wp_iconst (v := (1 : Int32)) dX6_readNumber_105 (by decide) ?_
        refine wp_goto (tgt := 110) dX6_readNumber_106 rfl ?_
        exact wp_ireturn (ty := .boolean) dX6_readNumber_110 rfl rfl ⟨true, rfl, h⟩
    · replace h := h.2 (bI_1.mp c)
      refine wp_aload_n 0 dX6_readNumber_54 rfl ?_
      obtain ⟨ht13, h⟩ := h
      refine wp_getC (ci := 6) (j := 7) dX6_readNumber_55 fi_X6_11r rfl rfl ht13 ?_
      change WP _ _ _ _ _ _ (rv (hC H5 707 a0) :: _) _ _
      refine wp_iload_n 2 dX6_readNumber_58 rfl ?_
      refine wp_aload_n 0 dX6_readNumber_59 rfl ?_
      refine wp_getC (ci := 6) (j := 7) dX6_readNumber_60 fi_X6_11r rfl rfl ht13 ?_
      change WP _ _ _ _ _ _ (rv (hC H5 707 a0) :: _) _ _
      refine wp_iload_n 2 dX6_readNumber_63 rfl ?_
      obtain ⟨a14, ha14, h⟩ := h
      obtain ⟨hr15, h⟩ := h
      obtain ⟨hg16, h⟩ := h
      refine wp_iaload dX6_readNumber_64 ha14 hr15 hg16 ?_
      refine wp_bipush (v := (10 : Int32)) dX6_readNumber_65 (by decide) ?_
      refine wp_imul dX6_readNumber_67 ?_
      refine wp_aload_n 1 dX6_readNumber_68 rfl ?_
      obtain ⟨ht18, h⟩ := h
      refine wp_callV (ci := 7) (As := []) (rest := [.int ((hI H5 (tg H5 a14) a14 x2.toNatClampNeg) * (10 : Int32)), .int x2, rv (hC H5 707 a0)]) (mc := 0) (ms := 0) dX6_readNumber_69 lk_X6_102 rfl rfl (by simp [rv_cat, vc_int, vc_long, vc_float, vc_double]) ha6 rfl rfl ht18 rfl rfl rfl w_4_51 (Call.weaken h ?_)
      rintro H17 _ ⟨r19, rfl, h⟩
      change WP _ _ _ _ _ _ [.int r19, .int ((hI H5 (tg H5 a14) a14 x2.toNatClampNeg) * (10 : Int32)), .int x2, rv (hC H5 707 a0)] H17 _
      refine wp_iadd dX6_readNumber_72 ?_
      obtain ⟨hr20, h⟩ := h
      obtain ⟨hg21, h⟩ := h
      refine wp_iastore dX6_readNumber_73 ha14 hr20 hg21 ?_
      change WP _ _ _ _ _ _ _ (sI H17 (tg H17 a14) a14 x2.toNatClampNeg (((hI H5 (tg H5 a14) a14 x2.toNatClampNeg) * (10 : Int32)) + r19)) _
      refine wp_aload_n 0 dX6_readNumber_74 rfl ?_
      obtain ⟨ht22, h⟩ := h
      refine wp_getC (ci := 6) (j := 8) dX6_readNumber_75 fi_X6_15r rfl rfl ht22 ?_
      change WP _ _ _ _ _ _ (rv (hC (sI H17 (tg H17 a14) a14 x2.toNatClampNeg (((hI H5 (tg H5 a14) a14 x2.toNatClampNeg) * (10 : Int32)) + r19)) 708 a0) :: _) _ _
      refine wp_iload_n 2 dX6_readNumber_78 rfl ?_
      refine wp_aload_n 0 dX6_readNumber_79 rfl ?_
      refine wp_getC (ci := 6) (j := 8) dX6_readNumber_80 fi_X6_15r rfl rfl ht22 ?_
      change WP _ _ _ _ _ _ (rv (hC (sI H17 (tg H17 a14) a14 x2.toNatClampNeg (((hI H5 (tg H5 a14) a14 x2.toNatClampNeg) * (10 : Int32)) + r19)) 708 a0) :: _) _ _
      refine wp_iload_n 2 dX6_readNumber_83 rfl ?_
      obtain ⟨a23, ha23, h⟩ := h
      obtain ⟨hr24, h⟩ := h
      obtain ⟨hg25, h⟩ := h
      refine wp_iaload dX6_readNumber_84 ha23 hr24 hg25 ?_
      refine wp_bipush (v := (10 : Int32)) dX6_readNumber_85 (by decide) ?_
      refine wp_imul dX6_readNumber_87 ?_
      obtain ⟨hg26, h⟩ := h
      refine wp_iastore dX6_readNumber_88 ha23 hr24 hg26 ?_
      change WP _ _ _ _ _ _ _ (sI (sI H17 (tg H17 a14) a14 x2.toNatClampNeg (((hI H5 (tg H5 a14) a14 x2.toNatClampNeg) * (10 : Int32)) + r19)) (tg (sI H17 (tg H17 a14) a14 x2.toNatClampNeg (((hI H5 (tg H5 a14) a14 x2.toNatClampNeg) * (10 : Int32)) + r19)) a23) a23 x2.toNatClampNeg ((hI (sI H17 (tg H17 a14) a14 x2.toNatClampNeg (((hI H5 (tg H5 a14) a14 x2.toNatClampNeg) * (10 : Int32)) + r19)) (tg (sI H17 (tg H17 a14) a14 x2.toNatClampNeg (((hI H5 (tg H5 a14) a14 x2.toNatClampNeg) * (10 : Int32)) + r19)) a23) a23 x2.toNatClampNeg) * (10 : Int32))) _
      replace h := h _ rfl
      generalize e28 : (sI (sI H17 (tg H17 a14) a14 x2.toNatClampNeg (((hI H5 (tg H5 a14) a14 x2.toNatClampNeg) * (10 : Int32)) + r19)) (tg (sI H17 (tg H17 a14) a14 x2.toNatClampNeg (((hI H5 (tg H5 a14) a14 x2.toNatClampNeg) * (10 : Int32)) + r19)) a23) a23 x2.toNatClampNeg ((hI (sI H17 (tg H17 a14) a14 x2.toNatClampNeg (((hI H5 (tg H5 a14) a14 x2.toNatClampNeg) * (10 : Int32)) + r19)) (tg (sI H17 (tg H17 a14) a14 x2.toNatClampNeg (((hI H5 (tg H5 a14) a14 x2.toNatClampNeg) * (10 : Int32)) + r19)) a23) a23 x2.toNatClampNeg) * (10 : Int32))) = H27 at h ⊢
      have ht29 : tg H27 a0 = 7 := by rw [← e28]; exact ht22
      have hr30 : isA H27 a14 0 := by rw [← e28]; exact hr20
      have hr31 : isA H27 a23 0 := by rw [← e28]; exact hr24
      refine wp_iinc (v := (x3 + 1)) (ls' := [(3, .int (x3 + 1)), (0, rv (some a0)), (1, rv o1), (2, .int x2)]) 3 dX6_readNumber_89 rfl rfl (by decide) rfl ?_
      refine wp_goto (tgt := 41) dX6_readNumber_92 rfl ?_
      refine wp_sub (ls' := [(0, rv (some a0)), (1, rv o1), (2, .int x2), (3, .int (x3 + 1))]) [1, 2, 3, 0] rfl ?_
      exact h
theorem C_X6_readNumber {d : Nat} {q : HP → Bool → Prop} {a0 : Nat} {o1 : Option Nat} {x2 : Int32} {H : HP} (h : wb_X6_readNumber_0 d q a0 o1 x2 H) : CZ (d + 1) 0 0 mX6_readNumber [rv (some a0), rv o1, .int x2] H q := by
  refine call_of (by decide +kernel) (by simp [lg_sl, rv_cat, vc_int, vc_long, vc_float, vc_double]) ?_
  have e : lv_args 0 [rv (some a0), rv o1, .int x2] = [(0, rv (some a0)), (1, rv o1), (2, .int x2)] := by simp [lv_args, rv_cat, vc_int, vc_long, vc_float, vc_double]
  rw [e]
  exact T_X6_readNumber_0 h
/-- UnitProver$Step.start(ILUnitProver$Step;LUnitProver$Step;)V: the loop at 38 -/
def L_X6_start_38 (d : Nat) (q : HP → Prop) (a0 : Nat) (x4 : Int32) (H : HP) : Prop := WP (d + 1) mX6_start 0 0 38 [(0, rv (some a0)), (4, .int x4)] [] H (qV q)
def wb_X6_start_0 (d : Nat) (q : HP → Prop) (a0 : Nat) (x1 : Int32) (o2 : Option Nat) (o3 : Option Nat) (H : HP) : Prop :=
  tg H a0 = 7 ∧ (L_X6_start_38 d q a0 (0 : Int32) (sI (sI (sI (sI (sR (sR (sI H 700 a0 0 x1) 701 a0 0 o2) 702 a0 0 o3) 703 a0 0 (0 : Int32)) 704 a0 0 (0 : Int32)) 705 a0 0 (0 : Int32)) 706 a0 0 (1 : Int32)))
set_option maxRecDepth 40000 in
set_option maxHeartbeats 4000000 in
theorem T_X6_start_0 {d : Nat} {q : HP → Prop} {a0 : Nat} {x1 : Int32} {o2 : Option Nat} {o3 : Option Nat} {H : HP} (h : wb_X6_start_0 d q a0 x1 o2 o3 H) : WP (d + 1) mX6_start 0 0 0 [(0, rv (some a0)), (1, .int x1), (2, rv o2), (3, rv o3)] [] H (qV q) := by
  unfold wb_X6_start_0 at h
  refine wp_aload_n 0 dX6_start_0 rfl ?_
  refine wp_iload_n 1 dX6_start_1 rfl ?_
  obtain ⟨ht1, h⟩ := h
  refine wp_putI (ci := 6) (j := 0) dX6_start_2 fi_X6_34 rfl (fun z => by cases z) rfl ht1 rfl rfl ?_
  change WP _ _ _ _ _ _ _ (sI H 700 a0 0 x1) _
  refine wp_aload_n 0 dX6_start_5 rfl ?_
  refine wp_aload_n 2 dX6_start_6 rfl ?_
  refine wp_putR (ci := 6) (j := 1) dX6_start_7 fi_X6_38 rfl (fun z => by cases z) rfl ht1 (Or.inl ⟨_, rfl⟩) ?_
  change WP _ _ _ _ _ _ _ (sR (sI H 700 a0 0 x1) 701 a0 0 o2) _
  refine wp_aload_n 0 dX6_start_10 rfl ?_
  refine wp_aload_n 3 dX6_start_11 rfl ?_
  refine wp_putR (ci := 6) (j := 2) dX6_start_12 fi_X6_42 rfl (fun z => by cases z) rfl ht1 (Or.inl ⟨_, rfl⟩) ?_
  change WP _ _ _ _ _ _ _ (sR (sR (sI H 700 a0 0 x1) 701 a0 0 o2) 702 a0 0 o3) _
  refine wp_aload_n 0 dX6_start_15 rfl ?_
  refine wp_iconst (v := (0 : Int32)) dX6_start_16 (by decide) ?_
  refine wp_putI (ci := 6) (j := 3) dX6_start_17 fi_X6_45 rfl (fun z => by cases z) rfl ht1 rfl rfl ?_
  change WP _ _ _ _ _ _ _ (sI (sR (sR (sI H 700 a0 0 x1) 701 a0 0 o2) 702 a0 0 o3) 703 a0 0 (0 : Int32)) _
  refine wp_aload_n 0 dX6_start_20 rfl ?_
  refine wp_iconst (v := (0 : Int32)) dX6_start_21 (by decide) ?_
  refine wp_putI (ci := 6) (j := 4) dX6_start_22 fi_X6_49 rfl (fun z => by cases z) rfl ht1 rfl rfl ?_
  change WP _ _ _ _ _ _ _ (sI (sI (sR (sR (sI H 700 a0 0 x1) 701 a0 0 o2) 702 a0 0 o3) 703 a0 0 (0 : Int32)) 704 a0 0 (0 : Int32)) _
  refine wp_aload_n 0 dX6_start_25 rfl ?_
  refine wp_iconst (v := (0 : Int32)) dX6_start_26 (by decide) ?_
  refine wp_putI (ci := 6) (j := 5) dX6_start_27 fi_X6_52 rfl (fun z => by cases z) rfl ht1 rfl rfl ?_
  change WP _ _ _ _ _ _ _ (sI (sI (sI (sR (sR (sI H 700 a0 0 x1) 701 a0 0 o2) 702 a0 0 o3) 703 a0 0 (0 : Int32)) 704 a0 0 (0 : Int32)) 705 a0 0 (0 : Int32)) _
  refine wp_aload_n 0 dX6_start_30 rfl ?_
  refine wp_iconst (v := (1 : Int32)) dX6_start_31 (by decide) ?_
  refine wp_putI (ci := 6) (j := 6) dX6_start_32 fi_X6_55 rfl (fun z => by cases z) rfl ht1 rfl rfl ?_
  change WP _ _ _ _ _ _ _ (sI (sI (sI (sI (sR (sR (sI H 700 a0 0 x1) 701 a0 0 o2) 702 a0 0 o3) 703 a0 0 (0 : Int32)) 704 a0 0 (0 : Int32)) 705 a0 0 (0 : Int32)) 706 a0 0 (1 : Int32)) _
  refine wp_iconst (v := (0 : Int32)) dX6_start_35 (by decide) ?_
  refine wp_istore (ls' := [(4, .int (0 : Int32)), (0, rv (some a0)), (1, .int x1), (2, rv o2), (3, rv o3)]) dX6_start_36 (by decide) (by change st1 _ 4 _ = _; simp [st1, rv_cat, vc_int, vc_long, vc_float, vc_double]) ?_
  refine wp_sub (ls' := [(0, rv (some a0)), (4, .int (0 : Int32))]) [1, 0] rfl ?_
  exact h
def wb_X6_start_38 (d : Nat) (q : HP → Prop) (a0 : Nat) (x4 : Int32) (H : HP) : Prop :=
  ((5 : Int32) ≤ x4 → q H) ∧ (¬ ((5 : Int32) ≤ x4) → tg H a0 = 7 ∧ (∃ a2, (hC H 711 a0) = some a2 ∧ (isA H a2 0 ∧ (vp_in x4 (ln H a2) ∧ (L_X6_start_38 d q a0 (x4 + 1) (sI H (tg H a2) a2 x4.toNatClampNeg (0 : Int32)))))))
set_option maxRecDepth 40000 in
set_option maxHeartbeats 4000000 in
theorem T_X6_start_38 {d : Nat} {q : HP → Prop} {a0 : Nat} {x4 : Int32} {H : HP} (h : wb_X6_start_38 d q a0 x4 H) : L_X6_start_38 d q a0 x4 H := by
  unfold wb_X6_start_38 at h
  unfold L_X6_start_38
  refine wp_iload 1 dX6_start_38 rfl ?_
  refine wp_iconst (v := (5 : Int32)) dX6_start_40 (by decide) ?_
  refine wp_icmp_ge (tgt := 58) dX6_start_41 rfl (fun c => ?_) (fun c => ?_)
  · replace h := h.1 c
    exact wp_return dX6_start_58 rfl ⟨rfl, h⟩
  · replace h := h.2 c
    refine wp_aload_n 0 dX6_start_44 rfl ?_
    obtain ⟨ht1, h⟩ := h
    refine wp_getC (ci := 6) (j := 11) dX6_start_45 fi_X6_24r rfl rfl ht1 ?_
    change WP _ _ _ _ _ _ (rv (hC H 711 a0) :: _) _ _
    refine wp_iload 1 dX6_start_48 rfl ?_
    refine wp_iconst (v := (0 : Int32)) dX6_start_50 (by decide) ?_
    obtain ⟨a2, ha2, h⟩ := h
    obtain ⟨hr3, h⟩ := h
    obtain ⟨hg4, h⟩ := h
    refine wp_iastore dX6_start_51 ha2 hr3 hg4 ?_
    change WP _ _ _ _ _ _ _ (sI H (tg H a2) a2 x4.toNatClampNeg (0 : Int32)) _
    refine wp_iinc (v := (x4 + 1)) (ls' := [(4, .int (x4 + 1)), (0, rv (some a0))]) 1 dX6_start_52 rfl rfl (by decide) rfl ?_
    refine wp_goto (tgt := 38) dX6_start_55 rfl ?_
    refine wp_sub (ls' := [(0, rv (some a0)), (4, .int (x4 + 1))]) [1, 0] rfl ?_
    exact h
theorem C_X6_start {d : Nat} {q : HP → Prop} {a0 : Nat} {x1 : Int32} {o2 : Option Nat} {o3 : Option Nat} {H : HP} (h : wb_X6_start_0 d q a0 x1 o2 o3 H) : CV (d + 1) 0 0 mX6_start [rv (some a0), .int x1, rv o2, rv o3] H q := by
  refine call_of (by decide +kernel) (by simp [lg_sl, rv_cat, vc_int, vc_long, vc_float, vc_double]) ?_
  have e : lv_args 0 [rv (some a0), .int x1, rv o2, rv o3] = [(0, rv (some a0)), (1, .int x1), (2, rv o2), (3, rv o3)] := by simp [lv_args, rv_cat, vc_int, vc_long, vc_float, vc_double]
  rw [e]
  exact T_X6_start_0 h
