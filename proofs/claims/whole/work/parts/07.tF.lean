/-- UnitProverLaw.law([I)Z: the loop at 18 -/
def L_L_law_18 (d : Nat) (ca sa : Nat) (q : HP → Bool → Prop) (o1 : Option Nat) (o2 : Option Nat) (x3 : Int32) (H : HP) : Prop := WP (d + 1) mL_law ca sa 18 [(0, rv (some scrA)), (1, rv o1), (2, rv o2), (3, .int x3)] [] H (qZ q)
def wb_L_law_0 (d : Nat) (ca sa : Nat) (q : HP → Bool → Prop)  (H : HP) : Prop :=
  hN H < scrA ∧ (1 ≤ ca ∧ (16 ≤ sa ∧ (uc_X11_init ≤ (ca - 1) ∧ (us_X11_init ≤ (sa - 16) ∧ (CV d uc_X11_init us_X11_init mX11_init [rv (some (hN H))] (nw H 12 0) (fun H6 => hN H6 < scrA ∧ (1 ≤ ((ca - 1) - uc_X11_init) ∧ (63 ≤ ((sa - 16) - us_X11_init) ∧ (uc_X12_init ≤ (((ca - 1) - uc_X11_init) - 1) ∧ (us_X12_init ≤ (((sa - 16) - us_X11_init) - 63) ∧ (CV d uc_X12_init us_X12_init mX12_init [rv (some (hN H6))] (nw H6 13 0) (fun H12 => L_L_law_18 d ((((ca - 1) - uc_X11_init) - 1) - uc_X12_init) ((((sa - 16) - us_X11_init) - 63) - us_X12_init) q (some (hN H)) (some (hN H6)) (0 : Int32) H12))))))))))))
set_option maxRecDepth 40000 in
set_option maxHeartbeats 4000000 in
theorem T_L_law_0 {d : Nat} {ca sa : Nat} {q : HP → Bool → Prop}  {H : HP} (h : wb_L_law_0 d ca sa q  H) : WP (d + 1) mL_law ca sa 0 [(0, rv (some scrA))] [] H (qZ q) := by
  unfold wb_L_law_0 at h
  obtain ⟨hg1, h⟩ := h
  obtain ⟨hg2, h⟩ := h
  obtain ⟨hg3, h⟩ := h
  refine wp_new (ca' := ca - 1) (sa' := sa - 16) dL_law_0 (ci := 11) (N := 16) rfl w_1_23 w_1_24 w_1_1 inG11 tyX11_ok (by decide) hg1 (by omega) (by omega) ?_
  refine wp_dup dL_law_3 (rv_cat _) ?_
  obtain ⟨hg4, h⟩ := h
  obtain ⟨hg5, h⟩ := h
  refine wp_callI (As := []) (rest := [rv (some (hN H))]) (mc := uc_X11_init) (ms := us_X11_init) (ca' := ((ca - 1) - uc_X11_init)) (sa' := ((sa - 16) - us_X11_init)) dL_law_4 lk_L_9 rfl rfl (by simp [rv_cat, vc_int, vc_long, vc_float, vc_double]) rfl rfl (by omega) (by omega) (Call.weaken h ?_)
  rintro H6 _ ⟨rfl, h⟩
  change WP _ _ _ _ _ _ [rv (some (hN H))] H6 _
  refine wp_astore_n (ls' := [(1, rv (some (hN H))), (0, rv (some scrA))]) dL_law_7 (by decide) rfl ?_
  obtain ⟨hg7, h⟩ := h
  obtain ⟨hg8, h⟩ := h
  obtain ⟨hg9, h⟩ := h
  refine wp_new (ca' := ((ca - 1) - uc_X11_init) - 1) (sa' := ((sa - 16) - us_X11_init) - 63) dL_law_8 (ci := 12) (N := 63) rfl w_5_225 w_5_226 w_1_17 inG12 tyX12_ok (by decide) hg7 (by omega) (by omega) ?_
  refine wp_dup dL_law_11 (rv_cat _) ?_
  obtain ⟨hg10, h⟩ := h
  obtain ⟨hg11, h⟩ := h
  refine wp_callI (As := []) (rest := [rv (some (hN H6))]) (mc := uc_X12_init) (ms := us_X12_init) (ca' := ((((ca - 1) - uc_X11_init) - 1) - uc_X12_init)) (sa' := ((((sa - 16) - us_X11_init) - 63) - us_X12_init)) dL_law_12 lk_L_12 rfl rfl (by simp [rv_cat, vc_int, vc_long, vc_float, vc_double]) rfl rfl (by omega) (by omega) (Call.weaken h ?_)
  rintro H12 _ ⟨rfl, h⟩
  change WP _ _ _ _ _ _ [rv (some (hN H6))] H12 _
  refine wp_astore_n (ls' := [(2, rv (some (hN H6))), (1, rv (some (hN H))), (0, rv (some scrA))]) dL_law_15 (by decide) rfl ?_
  refine wp_iconst (v := (0 : Int32)) dL_law_16 (by decide) ?_
  refine wp_istore_n (ls' := [(3, .int (0 : Int32)), (2, rv (some (hN H6))), (1, rv (some (hN H))), (0, rv (some scrA))]) dL_law_17 (by decide) rfl ?_
  refine wp_sub (ls' := [(0, rv (some scrA)), (1, rv (some (hN H))), (2, rv (some (hN H6))), (3, .int (0 : Int32))]) [3, 2, 1, 0] rfl ?_
  exact h
def wb_L_law_18 (d : Nat) (ca sa : Nat) (q : HP → Bool → Prop) (o1 : Option Nat) (o2 : Option Nat) (x3 : Int32) (H : HP) : Prop :=
  (((Int32.ofNat (hX H).1) - (6 : Int32)) < x3 → q H true) ∧ (¬ (((Int32.ofNat (hX H).1) - (6 : Int32)) < x3) → vp_in x3 (hX H).1 ∧ ((((((hX H).2 x3.toNatClampNeg) &&& (63 : Int32)).toInt < 0 ∨ 36 < (((hX H).2 x3.toNatClampNeg) &&& (63 : Int32)).toInt) → L_L_law_18 d ca sa q o1 o2 (x3 + 6) H) ∧ ((((hX H).2 x3.toNatClampNeg) &&& (63 : Int32)) = 0 → vp_in (x3 + (1 : Int32)) (hX H).1 ∧ (∃ a4, o1 = some a4 ∧ (tg H a4 = 12 ∧ (CI d 0 0 mX11_feed [rv o1, .int ((hX H).2 (x3 + (1 : Int32)).toNatClampNeg)] H (fun H3 r6 => vp_in (x3 + (1 : Int32)) (hX H3).1 ∧ (∃ a9, o2 = some a9 ∧ (tg H3 a9 = 13 ∧ (CI d 0 0 mX12_feed [rv o2, .int ((hX H3).2 (x3 + (1 : Int32)).toNatClampNeg)] H3 (fun H8 r11 => (r6 = r11 → L_L_law_18 d ca sa q o1 o2 (x3 + 6) H8) ∧ (¬ (r6 = r11) → q H8 false)))))))))) ∧ ((((hX H).2 x3.toNatClampNeg) &&& (63 : Int32)) = 1 → ∃ a13, o1 = some a13 ∧ (tg H a13 = 12 ∧ (CI d 0 0 mX11_define [rv o1] H (fun H12 r15 => ∃ a17, o2 = some a17 ∧ (tg H12 a17 = 13 ∧ (CI d 0 0 mX12_define [rv o2] H12 (fun H16 r19 => (r15 = r19 → L_L_law_18 d ca sa q o1 o2 (x3 + 6) H16) ∧ (¬ (r15 = r19) → q H16 false)))))))) ∧ ((((hX H).2 x3.toNatClampNeg) &&& (63 : Int32)) = 2 → ∃ a21, o1 = some a21 ∧ (tg H a21 = 12 ∧ (CI d 0 0 mX11_drop [rv o1] H (fun H20 r23 => ∃ a25, o2 = some a25 ∧ (tg H20 a25 = 13 ∧ (CI d 0 0 mX12_drop [rv o2] H20 (fun H24 r27 => (r23 = r27 → L_L_law_18 d ca sa q o1 o2 (x3 + 6) H24) ∧ (¬ (r23 = r27) → q H24 false)))))))) ∧ ((((hX H).2 x3.toNatClampNeg) &&& (63 : Int32)) = 3 → ∃ a29, o1 = some a29 ∧ (tg H a29 = 12 ∧ (CI d 0 0 mX11_find [rv o1] H (fun H28 r31 => ∃ a33, o2 = some a33 ∧ (tg H28 a33 = 13 ∧ (CI d 0 0 mX12_find [rv o2] H28 (fun H32 r35 => (r31 = r35 → L_L_law_18 d ca sa q o1 o2 (x3 + 6) H32) ∧ (¬ (r31 = r35) → q H32 false)))))))) ∧ ((((hX H).2 x3.toNatClampNeg) &&& (63 : Int32)) = 4 → vp_in (x3 + (1 : Int32)) (hX H).1 ∧ (vp_in (x3 + (2 : Int32)) (hX H).1 ∧ (∃ a39, o1 = some a39 ∧ (tg H a39 = 12 ∧ (CI d 0 0 mX11_name [rv o1, .int ((hX H).2 (x3 + (1 : Int32)).toNatClampNeg), .int ((hX H).2 (x3 + (2 : Int32)).toNatClampNeg)] H (fun H38 r41 => vp_in (x3 + (1 : Int32)) (hX H38).1 ∧ (vp_in (x3 + (2 : Int32)) (hX H38).1 ∧ (∃ a45, o2 = some a45 ∧ (tg H38 a45 = 13 ∧ (CI d 0 0 mX12_name [rv o2, .int ((hX H38).2 (x3 + (1 : Int32)).toNatClampNeg), .int ((hX H38).2 (x3 + (2 : Int32)).toNatClampNeg)] H38 (fun H44 r47 => (r41 = r47 → L_L_law_18 d ca sa q o1 o2 (x3 + 6) H44) ∧ (¬ (r41 = r47) → q H44 false)))))))))))) ∧ ((((hX H).2 x3.toNatClampNeg) &&& (63 : Int32)) = 5 → vp_in (x3 + (1 : Int32)) (hX H).1 ∧ (vp_in (x3 + (2 : Int32)) (hX H).1 ∧ (∃ a51, o1 = some a51 ∧ (tg H a51 = 12 ∧ (CI d 0 0 mX11_power [rv o1, .int ((hX H).2 (x3 + (1 : Int32)).toNatClampNeg), .int ((hX H).2 (x3 + (2 : Int32)).toNatClampNeg)] H (fun H50 r53 => vp_in (x3 + (1 : Int32)) (hX H50).1 ∧ (vp_in (x3 + (2 : Int32)) (hX H50).1 ∧ (∃ a57, o2 = some a57 ∧ (tg H50 a57 = 13 ∧ (CI d 0 0 mX12_power [rv o2, .int ((hX H50).2 (x3 + (1 : Int32)).toNatClampNeg), .int ((hX H50).2 (x3 + (2 : Int32)).toNatClampNeg)] H50 (fun H56 r59 => (r53 = r59 → L_L_law_18 d ca sa q o1 o2 (x3 + 6) H56) ∧ (¬ (r53 = r59) → q H56 false)))))))))))) ∧ ((((hX H).2 x3.toNatClampNeg) &&& (63 : Int32)) = 6 → vp_in (x3 + (1 : Int32)) (hX H).1 ∧ (vp_in (x3 + (2 : Int32)) (hX H).1 ∧ (vp_in (x3 + (3 : Int32)) (hX H).1 ∧ (∃ a64, o1 = some a64 ∧ (tg H a64 = 12 ∧ (CJ d 0 0 mX11_scale [rv o1, .int ((hX H).2 (x3 + (1 : Int32)).toNatClampNeg), .int ((hX H).2 (x3 + (2 : Int32)).toNatClampNeg), .int ((hX H).2 (x3 + (3 : Int32)).toNatClampNeg)] H (fun H63 r66 => vp_in (x3 + (1 : Int32)) (hX H63).1 ∧ (vp_in (x3 + (2 : Int32)) (hX H63).1 ∧ (vp_in (x3 + (3 : Int32)) (hX H63).1 ∧ (∃ a71, o2 = some a71 ∧ (tg H63 a71 = 13 ∧ (CJ d 0 0 mX12_scale [rv o2, .int ((hX H63).2 (x3 + (1 : Int32)).toNatClampNeg), .int ((hX H63).2 (x3 + (2 : Int32)).toNatClampNeg), .int ((hX H63).2 (x3 + (3 : Int32)).toNatClampNeg)] H63 (fun H70 r73 => (r66 = r73 → L_L_law_18 d ca sa q o1 o2 (x3 + 6) H70) ∧ (¬ (r66 = r73) → q H70 false)))))))))))))) ∧ ((((hX H).2 x3.toNatClampNeg) &&& (63 : Int32)) = 7 → vp_in (x3 + (1 : Int32)) (hX H).1 ∧ (vp_in (x3 + (2 : Int32)) (hX H).1 ∧ (vp_in (x3 + (3 : Int32)) (hX H).1 ∧ (∃ a78, o1 = some a78 ∧ (tg H a78 = 12 ∧ (CJ d 0 0 mX11_ratio [rv o1, .int ((hX H).2 (x3 + (1 : Int32)).toNatClampNeg), .int ((hX H).2 (x3 + (2 : Int32)).toNatClampNeg), .int ((hX H).2 (x3 + (3 : Int32)).toNatClampNeg)] H (fun H77 r80 => vp_in (x3 + (1 : Int32)) (hX H77).1 ∧ (vp_in (x3 + (2 : Int32)) (hX H77).1 ∧ (vp_in (x3 + (3 : Int32)) (hX H77).1 ∧ (∃ a85, o2 = some a85 ∧ (tg H77 a85 = 13 ∧ (CJ d 0 0 mX12_ratio [rv o2, .int ((hX H77).2 (x3 + (1 : Int32)).toNatClampNeg), .int ((hX H77).2 (x3 + (2 : Int32)).toNatClampNeg), .int ((hX H77).2 (x3 + (3 : Int32)).toNatClampNeg)] H77 (fun H84 r87 => (r80 = r87 → L_L_law_18 d ca sa q o1 o2 (x3 + 6) H84) ∧ (¬ (r80 = r87) → q H84 false)))))))))))))) ∧ ((((hX H).2 x3.toNatClampNeg) &&& (63 : Int32)) = 8 → vp_in (x3 + (1 : Int32)) (hX H).1 ∧ (vp_in (x3 + (2 : Int32)) (hX H).1 ∧ (vp_in (x3 + (3 : Int32)) (hX H).1 ∧ (∃ a92, o1 = some a92 ∧ (tg H a92 = 12 ∧ (CI d 0 0 mX11_nearest [rv o1, .int ((hX H).2 (x3 + (1 : Int32)).toNatClampNeg), .int ((hX H).2 (x3 + (2 : Int32)).toNatClampNeg), .int ((hX H).2 (x3 + (3 : Int32)).toNatClampNeg)] H (fun H91 r94 => vp_in (x3 + (1 : Int32)) (hX H91).1 ∧ (vp_in (x3 + (2 : Int32)) (hX H91).1 ∧ (vp_in (x3 + (3 : Int32)) (hX H91).1 ∧ (∃ a99, o2 = some a99 ∧ (tg H91 a99 = 13 ∧ (CI d 0 0 mX12_nearest [rv o2, .int ((hX H91).2 (x3 + (1 : Int32)).toNatClampNeg), .int ((hX H91).2 (x3 + (2 : Int32)).toNatClampNeg), .int ((hX H91).2 (x3 + (3 : Int32)).toNatClampNeg)] H91 (fun H98 r101 => (r94 = r101 → L_L_law_18 d ca sa q o1 o2 (x3 + 6) H98) ∧ (¬ (r94 = r101) → q H98 false)))))))))))))) ∧ ((((hX H).2 x3.toNatClampNeg) &&& (63 : Int32)) = 9 → ∃ a103, o1 = some a103 ∧ (tg H a103 = 12 ∧ (CI d 0 0 mX11_prove [rv o1] H (fun H102 r105 => ∃ a107, o2 = some a107 ∧ (tg H102 a107 = 13 ∧ (CI d 0 0 mX12_prove [rv o2] H102 (fun H106 r109 => (r105 = r109 → L_L_law_18 d ca sa q o1 o2 (x3 + 6) H106) ∧ (¬ (r105 = r109) → q H106 false)))))))) ∧ ((((hX H).2 x3.toNatClampNeg) &&& (63 : Int32)) = 10 → vp_in (x3 + (1 : Int32)) (hX H).1 ∧ (∃ a112, o1 = some a112 ∧ (tg H a112 = 12 ∧ (CI d 0 0 mX11_proof [rv o1, .int ((hX H).2 (x3 + (1 : Int32)).toNatClampNeg)] H (fun H111 r114 => vp_in (x3 + (1 : Int32)) (hX H111).1 ∧ (∃ a117, o2 = some a117 ∧ (tg H111 a117 = 13 ∧ (CI d 0 0 mX12_proof [rv o2, .int ((hX H111).2 (x3 + (1 : Int32)).toNatClampNeg)] H111 (fun H116 r119 => (r114 = r119 → L_L_law_18 d ca sa q o1 o2 (x3 + 6) H116) ∧ (¬ (r114 = r119) → q H116 false)))))))))) ∧ ((((hX H).2 x3.toNatClampNeg) &&& (63 : Int32)) = 11 → vp_in (x3 + (1 : Int32)) (hX H).1 ∧ (vp_in (x3 + (2 : Int32)) (hX H).1 ∧ (∃ a123, o1 = some a123 ∧ (tg H a123 = 12 ∧ (CI d 0 0 mX11_step [rv o1, .int ((hX H).2 (x3 + (1 : Int32)).toNatClampNeg), .int ((hX H).2 (x3 + (2 : Int32)).toNatClampNeg)] H (fun H122 r125 => vp_in (x3 + (1 : Int32)) (hX H122).1 ∧ (vp_in (x3 + (2 : Int32)) (hX H122).1 ∧ (∃ a129, o2 = some a129 ∧ (tg H122 a129 = 13 ∧ (CI d 0 0 mX12_step [rv o2, .int ((hX H122).2 (x3 + (1 : Int32)).toNatClampNeg), .int ((hX H122).2 (x3 + (2 : Int32)).toNatClampNeg)] H122 (fun H128 r131 => (r125 = r131 → L_L_law_18 d ca sa q o1 o2 (x3 + 6) H128) ∧ (¬ (r125 = r131) → q H128 false)))))))))))) ∧ ((((hX H).2 x3.toNatClampNeg) &&& (63 : Int32)) = 12 → vp_in (x3 + (1 : Int32)) (hX H).1 ∧ (vp_in (x3 + (2 : Int32)) (hX H).1 ∧ (∃ a135, o1 = some a135 ∧ (tg H a135 = 12 ∧ (CJ d 0 0 mX11_value [rv o1, .int ((hX H).2 (x3 + (1 : Int32)).toNatClampNeg), .int ((hX H).2 (x3 + (2 : Int32)).toNatClampNeg)] H (fun H134 r137 => vp_in (x3 + (1 : Int32)) (hX H134).1 ∧ (vp_in (x3 + (2 : Int32)) (hX H134).1 ∧ (∃ a141, o2 = some a141 ∧ (tg H134 a141 = 13 ∧ (CJ d 0 0 mX12_value [rv o2, .int ((hX H134).2 (x3 + (1 : Int32)).toNatClampNeg), .int ((hX H134).2 (x3 + (2 : Int32)).toNatClampNeg)] H134 (fun H140 r143 => (r137 = r143 → L_L_law_18 d ca sa q o1 o2 (x3 + 6) H140) ∧ (¬ (r137 = r143) → q H140 false)))))))))))) ∧ ((((hX H).2 x3.toNatClampNeg) &&& (63 : Int32)) = 13 → vp_in (x3 + (1 : Int32)) (hX H).1 ∧ (vp_in (x3 + (2 : Int32)) (hX H).1 ∧ (∃ a147, o1 = some a147 ∧ (tg H a147 = 12 ∧ (CI d 0 0 mX11_same [rv o1, .int ((hX H).2 (x3 + (1 : Int32)).toNatClampNeg), .int ((hX H).2 (x3 + (2 : Int32)).toNatClampNeg)] H (fun H146 r149 => vp_in (x3 + (1 : Int32)) (hX H146).1 ∧ (vp_in (x3 + (2 : Int32)) (hX H146).1 ∧ (∃ a153, o2 = some a153 ∧ (tg H146 a153 = 13 ∧ (CI d 0 0 mX12_same [rv o2, .int ((hX H146).2 (x3 + (1 : Int32)).toNatClampNeg), .int ((hX H146).2 (x3 + (2 : Int32)).toNatClampNeg)] H146 (fun H152 r155 => (r149 = r155 → L_L_law_18 d ca sa q o1 o2 (x3 + 6) H152) ∧ (¬ (r149 = r155) → q H152 false)))))))))))) ∧ ((((hX H).2 x3.toNatClampNeg) &&& (63 : Int32)) = 14 → vp_in (x3 + (1 : Int32)) (hX H).1 ∧ (vp_in (x3 + (2 : Int32)) (hX H).1 ∧ (vp_in (x3 + (3 : Int32)) (hX H).1 ∧ (∃ a160, o1 = some a160 ∧ (tg H a160 = 12 ∧ (CJ d 0 0 mX11_in [rv o1, .int ((hX H).2 (x3 + (1 : Int32)).toNatClampNeg), .int ((hX H).2 (x3 + (2 : Int32)).toNatClampNeg), .int ((hX H).2 (x3 + (3 : Int32)).toNatClampNeg)] H (fun H159 r162 => vp_in (x3 + (1 : Int32)) (hX H159).1 ∧ (vp_in (x3 + (2 : Int32)) (hX H159).1 ∧ (vp_in (x3 + (3 : Int32)) (hX H159).1 ∧ (∃ a167, o2 = some a167 ∧ (tg H159 a167 = 13 ∧ (CJ d 0 0 mX12_in [rv o2, .int ((hX H159).2 (x3 + (1 : Int32)).toNatClampNeg), .int ((hX H159).2 (x3 + (2 : Int32)).toNatClampNeg), .int ((hX H159).2 (x3 + (3 : Int32)).toNatClampNeg)] H159 (fun H166 r169 => (r162 = r169 → L_L_law_18 d ca sa q o1 o2 (x3 + 6) H166) ∧ (¬ (r162 = r169) → q H166 false)))))))))))))) ∧ ((((hX H).2 x3.toNatClampNeg) &&& (63 : Int32)) = 15 → vp_in (x3 + (1 : Int32)) (hX H).1 ∧ (vp_in (x3 + (2 : Int32)) (hX H).1 ∧ (vp_in (x3 + (3 : Int32)) (hX H).1 ∧ (∃ a174, o1 = some a174 ∧ (tg H a174 = 12 ∧ (CJ d 0 0 mX11_bits [rv o1, .int ((hX H).2 (x3 + (1 : Int32)).toNatClampNeg), .int ((hX H).2 (x3 + (2 : Int32)).toNatClampNeg), .int ((hX H).2 (x3 + (3 : Int32)).toNatClampNeg)] H (fun H173 r176 => vp_in (x3 + (1 : Int32)) (hX H173).1 ∧ (vp_in (x3 + (2 : Int32)) (hX H173).1 ∧ (vp_in (x3 + (3 : Int32)) (hX H173).1 ∧ (∃ a181, o2 = some a181 ∧ (tg H173 a181 = 13 ∧ (CJ d 0 0 mX12_bits [rv o2, .int ((hX H173).2 (x3 + (1 : Int32)).toNatClampNeg), .int ((hX H173).2 (x3 + (2 : Int32)).toNatClampNeg), .int ((hX H173).2 (x3 + (3 : Int32)).toNatClampNeg)] H173 (fun H180 r183 => (r176 = r183 → L_L_law_18 d ca sa q o1 o2 (x3 + 6) H180) ∧ (¬ (r176 = r183) → q H180 false)))))))))))))) ∧ ((((hX H).2 x3.toNatClampNeg) &&& (63 : Int32)) = 16 → vp_in (x3 + (1 : Int32)) (hX H).1 ∧ (vp_in (x3 + (2 : Int32)) (hX H).1 ∧ (vp_in (x3 + (3 : Int32)) (hX H).1 ∧ (vp_in (x3 + (4 : Int32)) (hX H).1 ∧ (vp_in (x3 + (5 : Int32)) (hX H).1 ∧ (∃ a190, o1 = some a190 ∧ (tg H a190 = 12 ∧ (CJ d 0 0 mX11_parted [rv o1, .int ((hX H).2 (x3 + (1 : Int32)).toNatClampNeg), .int ((hX H).2 (x3 + (2 : Int32)).toNatClampNeg), .int ((hX H).2 (x3 + (3 : Int32)).toNatClampNeg), .int ((hX H).2 (x3 + (4 : Int32)).toNatClampNeg), .int ((hX H).2 (x3 + (5 : Int32)).toNatClampNeg)] H (fun H189 r192 => vp_in (x3 + (1 : Int32)) (hX H189).1 ∧ (vp_in (x3 + (2 : Int32)) (hX H189).1 ∧ (vp_in (x3 + (3 : Int32)) (hX H189).1 ∧ (vp_in (x3 + (4 : Int32)) (hX H189).1 ∧ (vp_in (x3 + (5 : Int32)) (hX H189).1 ∧ (∃ a199, o2 = some a199 ∧ (tg H189 a199 = 13 ∧ (CJ d 0 0 mX12_parted [rv o2, .int ((hX H189).2 (x3 + (1 : Int32)).toNatClampNeg), .int ((hX H189).2 (x3 + (2 : Int32)).toNatClampNeg), .int ((hX H189).2 (x3 + (3 : Int32)).toNatClampNeg), .int ((hX H189).2 (x3 + (4 : Int32)).toNatClampNeg), .int ((hX H189).2 (x3 + (5 : Int32)).toNatClampNeg)] H189 (fun H198 r201 => (r192 = r201 → L_L_law_18 d ca sa q o1 o2 (x3 + 6) H198) ∧ (¬ (r192 = r201) → q H198 false)))))))))))))))))) ∧ ((((hX H).2 x3.toNatClampNeg) &&& (63 : Int32)) = 17 → vp_in (x3 + (1 : Int32)) (hX H).1 ∧ (vp_in (x3 + (2 : Int32)) (hX H).1 ∧ (vp_in (x3 + (3 : Int32)) (hX H).1 ∧ (vp_in (x3 + (4 : Int32)) (hX H).1 ∧ (∃ a207, o1 = some a207 ∧ (tg H a207 = 12 ∧ (CI d 0 0 mX11_claim [rv o1, .int ((hX H).2 (x3 + (1 : Int32)).toNatClampNeg), .int ((hX H).2 (x3 + (2 : Int32)).toNatClampNeg), .int ((hX H).2 (x3 + (3 : Int32)).toNatClampNeg), .int ((hX H).2 (x3 + (4 : Int32)).toNatClampNeg)] H (fun H206 r209 => vp_in (x3 + (1 : Int32)) (hX H206).1 ∧ (vp_in (x3 + (2 : Int32)) (hX H206).1 ∧ (vp_in (x3 + (3 : Int32)) (hX H206).1 ∧ (vp_in (x3 + (4 : Int32)) (hX H206).1 ∧ (∃ a215, o2 = some a215 ∧ (tg H206 a215 = 13 ∧ (CI d 0 0 mX12_claim [rv o2, .int ((hX H206).2 (x3 + (1 : Int32)).toNatClampNeg), .int ((hX H206).2 (x3 + (2 : Int32)).toNatClampNeg), .int ((hX H206).2 (x3 + (3 : Int32)).toNatClampNeg), .int ((hX H206).2 (x3 + (4 : Int32)).toNatClampNeg)] H206 (fun H214 r217 => (r209 = r217 → L_L_law_18 d ca sa q o1 o2 (x3 + 6) H214) ∧ (¬ (r209 = r217) → q H214 false)))))))))))))))) ∧ ((((hX H).2 x3.toNatClampNeg) &&& (63 : Int32)) = 18 → vp_in (x3 + (1 : Int32)) (hX H).1 ∧ (∃ a220, o1 = some a220 ∧ (tg H a220 = 12 ∧ (CI d 0 0 mX11_unclaim [rv o1, .int ((hX H).2 (x3 + (1 : Int32)).toNatClampNeg)] H (fun H219 r222 => vp_in (x3 + (1 : Int32)) (hX H219).1 ∧ (∃ a225, o2 = some a225 ∧ (tg H219 a225 = 13 ∧ (CI d 0 0 mX12_unclaim [rv o2, .int ((hX H219).2 (x3 + (1 : Int32)).toNatClampNeg)] H219 (fun H224 r227 => (r222 = r227 → L_L_law_18 d ca sa q o1 o2 (x3 + 6) H224) ∧ (¬ (r222 = r227) → q H224 false)))))))))) ∧ ((((hX H).2 x3.toNatClampNeg) &&& (63 : Int32)) = 19 → vp_in (x3 + (1 : Int32)) (hX H).1 ∧ (vp_in (x3 + (2 : Int32)) (hX H).1 ∧ (∃ a231, o1 = some a231 ∧ (tg H a231 = 12 ∧ (CI d 0 0 mX11_claimOf [rv o1, .int ((hX H).2 (x3 + (1 : Int32)).toNatClampNeg), .int ((hX H).2 (x3 + (2 : Int32)).toNatClampNeg)] H (fun H230 r233 => vp_in (x3 + (1 : Int32)) (hX H230).1 ∧ (vp_in (x3 + (2 : Int32)) (hX H230).1 ∧ (∃ a237, o2 = some a237 ∧ (tg H230 a237 = 13 ∧ (CI d 0 0 mX12_claimOf [rv o2, .int ((hX H230).2 (x3 + (1 : Int32)).toNatClampNeg), .int ((hX H230).2 (x3 + (2 : Int32)).toNatClampNeg)] H230 (fun H236 r239 => (r233 = r239 → L_L_law_18 d ca sa q o1 o2 (x3 + 6) H236) ∧ (¬ (r233 = r239) → q H236 false)))))))))))) ∧ ((((hX H).2 x3.toNatClampNeg) &&& (63 : Int32)) = 20 → vp_in (x3 + (1 : Int32)) (hX H).1 ∧ (∃ a242, o1 = some a242 ∧ (tg H a242 = 12 ∧ (CI d 0 0 mX11_rings [rv o1, .int ((hX H).2 (x3 + (1 : Int32)).toNatClampNeg)] H (fun H241 r244 => vp_in (x3 + (1 : Int32)) (hX H241).1 ∧ (∃ a247, o2 = some a247 ∧ (tg H241 a247 = 13 ∧ (CI d 0 0 mX12_rings [rv o2, .int ((hX H241).2 (x3 + (1 : Int32)).toNatClampNeg)] H241 (fun H246 r249 => (r244 = r249 → L_L_law_18 d ca sa q o1 o2 (x3 + 6) H246) ∧ (¬ (r244 = r249) → q H246 false)))))))))) ∧ ((((hX H).2 x3.toNatClampNeg) &&& (63 : Int32)) = 21 → vp_in (x3 + (1 : Int32)) (hX H).1 ∧ (vp_in (x3 + (2 : Int32)) (hX H).1 ∧ (vp_in (x3 + (3 : Int32)) (hX H).1 ∧ (∃ a254, o1 = some a254 ∧ (tg H a254 = 12 ∧ (CJ d 0 0 mX11_by [rv o1, .int ((hX H).2 (x3 + (1 : Int32)).toNatClampNeg), .int ((hX H).2 (x3 + (2 : Int32)).toNatClampNeg), .int ((hX H).2 (x3 + (3 : Int32)).toNatClampNeg)] H (fun H253 r256 => vp_in (x3 + (1 : Int32)) (hX H253).1 ∧ (vp_in (x3 + (2 : Int32)) (hX H253).1 ∧ (vp_in (x3 + (3 : Int32)) (hX H253).1 ∧ (∃ a261, o2 = some a261 ∧ (tg H253 a261 = 13 ∧ (CJ d 0 0 mX12_by_ [rv o2, .int ((hX H253).2 (x3 + (1 : Int32)).toNatClampNeg), .int ((hX H253).2 (x3 + (2 : Int32)).toNatClampNeg), .int ((hX H253).2 (x3 + (3 : Int32)).toNatClampNeg)] H253 (fun H260 r263 => (r256 = r263 → L_L_law_18 d ca sa q o1 o2 (x3 + 6) H260) ∧ (¬ (r256 = r263) → q H260 false)))))))))))))) ∧ ((((hX H).2 x3.toNatClampNeg) &&& (63 : Int32)) = 22 → vp_in (x3 + (1 : Int32)) (hX H).1 ∧ (vp_in (x3 + (2 : Int32)) (hX H).1 ∧ (vp_in (x3 + (3 : Int32)) (hX H).1 ∧ (∃ a268, o1 = some a268 ∧ (tg H a268 = 12 ∧ (CI d 0 0 mX11_track [rv o1, .int ((hX H).2 (x3 + (1 : Int32)).toNatClampNeg), .int ((hX H).2 (x3 + (2 : Int32)).toNatClampNeg), .int ((hX H).2 (x3 + (3 : Int32)).toNatClampNeg)] H (fun H267 r270 => vp_in (x3 + (1 : Int32)) (hX H267).1 ∧ (vp_in (x3 + (2 : Int32)) (hX H267).1 ∧ (vp_in (x3 + (3 : Int32)) (hX H267).1 ∧ (∃ a275, o2 = some a275 ∧ (tg H267 a275 = 13 ∧ (CI d 0 0 mX12_track [rv o2, .int ((hX H267).2 (x3 + (1 : Int32)).toNatClampNeg), .int ((hX H267).2 (x3 + (2 : Int32)).toNatClampNeg), .int ((hX H267).2 (x3 + (3 : Int32)).toNatClampNeg)] H267 (fun H274 r277 => (r270 = r277 → L_L_law_18 d ca sa q o1 o2 (x3 + 6) H274) ∧ (¬ (r270 = r277) → q H274 false)))))))))))))) ∧ ((((hX H).2 x3.toNatClampNeg) &&& (63 : Int32)) = 23 → vp_in (x3 + (1 : Int32)) (hX H).1 ∧ (vp_in (x3 + (2 : Int32)) (hX H).1 ∧ (vp_in (x3 + (3 : Int32)) (hX H).1 ∧ (∃ a282, o1 = some a282 ∧ (tg H a282 = 12 ∧ (CI d 0 0 mX11_put [rv o1, .int ((hX H).2 (x3 + (1 : Int32)).toNatClampNeg), .int ((hX H).2 (x3 + (2 : Int32)).toNatClampNeg), .int ((hX H).2 (x3 + (3 : Int32)).toNatClampNeg)] H (fun H281 r284 => vp_in (x3 + (1 : Int32)) (hX H281).1 ∧ (vp_in (x3 + (2 : Int32)) (hX H281).1 ∧ (vp_in (x3 + (3 : Int32)) (hX H281).1 ∧ (∃ a289, o2 = some a289 ∧ (tg H281 a289 = 13 ∧ (CI d 0 0 mX12_put [rv o2, .int ((hX H281).2 (x3 + (1 : Int32)).toNatClampNeg), .int ((hX H281).2 (x3 + (2 : Int32)).toNatClampNeg), .int ((hX H281).2 (x3 + (3 : Int32)).toNatClampNeg)] H281 (fun H288 r291 => (r284 = r291 → L_L_law_18 d ca sa q o1 o2 (x3 + 6) H288) ∧ (¬ (r284 = r291) → q H288 false)))))))))))))) ∧ ((((hX H).2 x3.toNatClampNeg) &&& (63 : Int32)) = 24 → vp_in (x3 + (1 : Int32)) (hX H).1 ∧ (vp_in (x3 + (2 : Int32)) (hX H).1 ∧ (vp_in (x3 + (3 : Int32)) (hX H).1 ∧ (vp_in (x3 + (4 : Int32)) (hX H).1 ∧ (∃ a297, o1 = some a297 ∧ (tg H a297 = 12 ∧ (CI d 0 0 mX11_putBits [rv o1, .int ((hX H).2 (x3 + (1 : Int32)).toNatClampNeg), .int ((hX H).2 (x3 + (2 : Int32)).toNatClampNeg), .long (((((hX H).2 (x3 + (3 : Int32)).toNatClampNeg).toInt64) <<< ((32 : Int32).toInt64 &&& 63)) ||| ((((hX H).2 (x3 + (4 : Int32)).toNatClampNeg).toInt64) &&& (4294967295 : Int64)))] H (fun H296 r299 => vp_in (x3 + (1 : Int32)) (hX H296).1 ∧ (vp_in (x3 + (2 : Int32)) (hX H296).1 ∧ (vp_in (x3 + (3 : Int32)) (hX H296).1 ∧ (vp_in (x3 + (4 : Int32)) (hX H296).1 ∧ (∃ a305, o2 = some a305 ∧ (tg H296 a305 = 13 ∧ (CI d 0 0 mX12_putBits [rv o2, .int ((hX H296).2 (x3 + (1 : Int32)).toNatClampNeg), .int ((hX H296).2 (x3 + (2 : Int32)).toNatClampNeg), .long (((((hX H296).2 (x3 + (3 : Int32)).toNatClampNeg).toInt64) <<< ((32 : Int32).toInt64 &&& 63)) ||| ((((hX H296).2 (x3 + (4 : Int32)).toNatClampNeg).toInt64) &&& (4294967295 : Int64)))] H296 (fun H304 r307 => (r299 = r307 → L_L_law_18 d ca sa q o1 o2 (x3 + 6) H304) ∧ (¬ (r299 = r307) → q H304 false)))))))))))))))) ∧ ((((hX H).2 x3.toNatClampNeg) &&& (63 : Int32)) = 25 → vp_in (x3 + (1 : Int32)) (hX H).1 ∧ (vp_in (x3 + (2 : Int32)) (hX H).1 ∧ (∃ a311, o1 = some a311 ∧ (tg H a311 = 12 ∧ (CJ d 0 0 mX11_item [rv o1, .int ((hX H).2 (x3 + (1 : Int32)).toNatClampNeg), .int ((hX H).2 (x3 + (2 : Int32)).toNatClampNeg)] H (fun H310 r313 => vp_in (x3 + (1 : Int32)) (hX H310).1 ∧ (vp_in (x3 + (2 : Int32)) (hX H310).1 ∧ (∃ a317, o2 = some a317 ∧ (tg H310 a317 = 13 ∧ (CJ d 0 0 mX12_item [rv o2, .int ((hX H310).2 (x3 + (1 : Int32)).toNatClampNeg), .int ((hX H310).2 (x3 + (2 : Int32)).toNatClampNeg)] H310 (fun H316 r319 => (r313 = r319 → L_L_law_18 d ca sa q o1 o2 (x3 + 6) H316) ∧ (¬ (r313 = r319) → q H316 false)))))))))))) ∧ ((((hX H).2 x3.toNatClampNeg) &&& (63 : Int32)) = 26 → vp_in (x3 + (1 : Int32)) (hX H).1 ∧ (vp_in (x3 + (2 : Int32)) (hX H).1 ∧ (vp_in (x3 + (3 : Int32)) (hX H).1 ∧ (∃ a324, o1 = some a324 ∧ (tg H a324 = 12 ∧ (CI d 0 0 mX11_change [rv o1, .int ((hX H).2 (x3 + (1 : Int32)).toNatClampNeg), .int ((hX H).2 (x3 + (2 : Int32)).toNatClampNeg), .int ((hX H).2 (x3 + (3 : Int32)).toNatClampNeg)] H (fun H323 r326 => vp_in (x3 + (1 : Int32)) (hX H323).1 ∧ (vp_in (x3 + (2 : Int32)) (hX H323).1 ∧ (vp_in (x3 + (3 : Int32)) (hX H323).1 ∧ (∃ a331, o2 = some a331 ∧ (tg H323 a331 = 13 ∧ (CI d 0 0 mX12_change [rv o2, .int ((hX H323).2 (x3 + (1 : Int32)).toNatClampNeg), .int ((hX H323).2 (x3 + (2 : Int32)).toNatClampNeg), .int ((hX H323).2 (x3 + (3 : Int32)).toNatClampNeg)] H323 (fun H330 r333 => (r326 = r333 → L_L_law_18 d ca sa q o1 o2 (x3 + 6) H330) ∧ (¬ (r326 = r333) → q H330 false)))))))))))))) ∧ ((((hX H).2 x3.toNatClampNeg) &&& (63 : Int32)) = 27 → vp_in (x3 + (1 : Int32)) (hX H).1 ∧ (∃ a336, o1 = some a336 ∧ (tg H a336 = 12 ∧ (CJ d 0 0 mX11_added [rv o1, .int ((hX H).2 (x3 + (1 : Int32)).toNatClampNeg)] H (fun H335 r338 => vp_in (x3 + (1 : Int32)) (hX H335).1 ∧ (∃ a341, o2 = some a341 ∧ (tg H335 a341 = 13 ∧ (CJ d 0 0 mX12_added_ [rv o2, .int ((hX H335).2 (x3 + (1 : Int32)).toNatClampNeg)] H335 (fun H340 r343 => (r338 = r343 → L_L_law_18 d ca sa q o1 o2 (x3 + 6) H340) ∧ (¬ (r338 = r343) → q H340 false)))))))))) ∧ ((((hX H).2 x3.toNatClampNeg) &&& (63 : Int32)) = 28 → vp_in (x3 + (1 : Int32)) (hX H).1 ∧ (vp_in (x3 + (2 : Int32)) (hX H).1 ∧ (vp_in (x3 + (3 : Int32)) (hX H).1 ∧ (∃ a348, o1 = some a348 ∧ (tg H a348 = 12 ∧ (CJ d 0 0 mX11_cast [rv o1, .int ((hX H).2 (x3 + (1 : Int32)).toNatClampNeg), .int ((hX H).2 (x3 + (2 : Int32)).toNatClampNeg), .int ((hX H).2 (x3 + (3 : Int32)).toNatClampNeg)] H (fun H347 r350 => vp_in (x3 + (1 : Int32)) (hX H347).1 ∧ (vp_in (x3 + (2 : Int32)) (hX H347).1 ∧ (vp_in (x3 + (3 : Int32)) (hX H347).1 ∧ (∃ a355, o2 = some a355 ∧ (tg H347 a355 = 13 ∧ (CJ d 0 0 mX12_cast [rv o2, .int ((hX H347).2 (x3 + (1 : Int32)).toNatClampNeg), .int ((hX H347).2 (x3 + (2 : Int32)).toNatClampNeg), .int ((hX H347).2 (x3 + (3 : Int32)).toNatClampNeg)] H347 (fun H354 r357 => (r350 = r357 → L_L_law_18 d ca sa q o1 o2 (x3 + 6) H354) ∧ (¬ (r350 = r357) → q H354 false)))))))))))))) ∧ ((((hX H).2 x3.toNatClampNeg) &&& (63 : Int32)) = 29 → vp_in (x3 + (1 : Int32)) (hX H).1 ∧ (vp_in (x3 + (2 : Int32)) (hX H).1 ∧ (∃ a361, o1 = some a361 ∧ (tg H a361 = 12 ∧ (CI d 0 0 mX11_twin [rv o1, .int ((hX H).2 (x3 + (1 : Int32)).toNatClampNeg), .int ((hX H).2 (x3 + (2 : Int32)).toNatClampNeg)] H (fun H360 r363 => vp_in (x3 + (1 : Int32)) (hX H360).1 ∧ (vp_in (x3 + (2 : Int32)) (hX H360).1 ∧ (∃ a367, o2 = some a367 ∧ (tg H360 a367 = 13 ∧ (CI d 0 0 mX12_twin [rv o2, .int ((hX H360).2 (x3 + (1 : Int32)).toNatClampNeg), .int ((hX H360).2 (x3 + (2 : Int32)).toNatClampNeg)] H360 (fun H366 r369 => (r363 = r369 → L_L_law_18 d ca sa q o1 o2 (x3 + 6) H366) ∧ (¬ (r363 = r369) → q H366 false)))))))))))) ∧ ((((hX H).2 x3.toNatClampNeg) &&& (63 : Int32)) = 30 → vp_in (x3 + (1 : Int32)) (hX H).1 ∧ (vp_in (x3 + (2 : Int32)) (hX H).1 ∧ (vp_in (x3 + (3 : Int32)) (hX H).1 ∧ (∃ a374, o1 = some a374 ∧ (tg H a374 = 12 ∧ (CI d 0 0 mX11_hang [rv o1, .int ((hX H).2 (x3 + (1 : Int32)).toNatClampNeg), .int ((hX H).2 (x3 + (2 : Int32)).toNatClampNeg), .int ((hX H).2 (x3 + (3 : Int32)).toNatClampNeg)] H (fun H373 r376 => vp_in (x3 + (1 : Int32)) (hX H373).1 ∧ (vp_in (x3 + (2 : Int32)) (hX H373).1 ∧ (vp_in (x3 + (3 : Int32)) (hX H373).1 ∧ (∃ a381, o2 = some a381 ∧ (tg H373 a381 = 13 ∧ (CI d 0 0 mX12_hang [rv o2, .int ((hX H373).2 (x3 + (1 : Int32)).toNatClampNeg), .int ((hX H373).2 (x3 + (2 : Int32)).toNatClampNeg), .int ((hX H373).2 (x3 + (3 : Int32)).toNatClampNeg)] H373 (fun H380 r383 => (r376 = r383 → L_L_law_18 d ca sa q o1 o2 (x3 + 6) H380) ∧ (¬ (r376 = r383) → q H380 false)))))))))))))) ∧ ((((hX H).2 x3.toNatClampNeg) &&& (63 : Int32)) = 31 → vp_in (x3 + (1 : Int32)) (hX H).1 ∧ (vp_in (x3 + (2 : Int32)) (hX H).1 ∧ (vp_in (x3 + (3 : Int32)) (hX H).1 ∧ (∃ a388, o1 = some a388 ∧ (tg H a388 = 12 ∧ (CI d 0 0 mX11_hold [rv o1, .int ((hX H).2 (x3 + (1 : Int32)).toNatClampNeg), .int ((hX H).2 (x3 + (2 : Int32)).toNatClampNeg), .int ((hX H).2 (x3 + (3 : Int32)).toNatClampNeg)] H (fun H387 r390 => vp_in (x3 + (1 : Int32)) (hX H387).1 ∧ (vp_in (x3 + (2 : Int32)) (hX H387).1 ∧ (vp_in (x3 + (3 : Int32)) (hX H387).1 ∧ (∃ a395, o2 = some a395 ∧ (tg H387 a395 = 13 ∧ (CI d 0 0 mX12_hold [rv o2, .int ((hX H387).2 (x3 + (1 : Int32)).toNatClampNeg), .int ((hX H387).2 (x3 + (2 : Int32)).toNatClampNeg), .int ((hX H387).2 (x3 + (3 : Int32)).toNatClampNeg)] H387 (fun H394 r397 => (r390 = r397 → L_L_law_18 d ca sa q o1 o2 (x3 + 6) H394) ∧ (¬ (r390 = r397) → q H394 false)))))))))))))) ∧ ((((hX H).2 x3.toNatClampNeg) &&& (63 : Int32)) = 32 → vp_in (x3 + (1 : Int32)) (hX H).1 ∧ (vp_in (x3 + (2 : Int32)) (hX H).1 ∧ (vp_in (x3 + (3 : Int32)) (hX H).1 ∧ (∃ a402, o1 = some a402 ∧ (tg H a402 = 12 ∧ (CI d 0 0 mX11_rack [rv o1, .int ((hX H).2 (x3 + (1 : Int32)).toNatClampNeg), .int ((hX H).2 (x3 + (2 : Int32)).toNatClampNeg), .int ((hX H).2 (x3 + (3 : Int32)).toNatClampNeg)] H (fun H401 r404 => vp_in (x3 + (1 : Int32)) (hX H401).1 ∧ (vp_in (x3 + (2 : Int32)) (hX H401).1 ∧ (vp_in (x3 + (3 : Int32)) (hX H401).1 ∧ (∃ a409, o2 = some a409 ∧ (tg H401 a409 = 13 ∧ (CI d 0 0 mX12_rack [rv o2, .int ((hX H401).2 (x3 + (1 : Int32)).toNatClampNeg), .int ((hX H401).2 (x3 + (2 : Int32)).toNatClampNeg), .int ((hX H401).2 (x3 + (3 : Int32)).toNatClampNeg)] H401 (fun H408 r411 => (r404 = r411 → L_L_law_18 d ca sa q o1 o2 (x3 + 6) H408) ∧ (¬ (r404 = r411) → q H408 false)))))))))))))) ∧ ((((hX H).2 x3.toNatClampNeg) &&& (63 : Int32)) = 33 → vp_in (x3 + (1 : Int32)) (hX H).1 ∧ (vp_in (x3 + (2 : Int32)) (hX H).1 ∧ (∃ a415, o1 = some a415 ∧ (tg H a415 = 12 ∧ (CI d 0 0 mX11_shift [rv o1, .int ((hX H).2 (x3 + (1 : Int32)).toNatClampNeg), .int ((hX H).2 (x3 + (2 : Int32)).toNatClampNeg)] H (fun H414 r417 => vp_in (x3 + (1 : Int32)) (hX H414).1 ∧ (vp_in (x3 + (2 : Int32)) (hX H414).1 ∧ (∃ a421, o2 = some a421 ∧ (tg H414 a421 = 13 ∧ (CI d 0 0 mX12_shift [rv o2, .int ((hX H414).2 (x3 + (1 : Int32)).toNatClampNeg), .int ((hX H414).2 (x3 + (2 : Int32)).toNatClampNeg)] H414 (fun H420 r423 => (r417 = r423 → L_L_law_18 d ca sa q o1 o2 (x3 + 6) H420) ∧ (¬ (r417 = r423) → q H420 false)))))))))))) ∧ ((((hX H).2 x3.toNatClampNeg) &&& (63 : Int32)) = 34 → ∃ a425, o1 = some a425 ∧ (tg H a425 = 12 ∧ (CI d 0 0 mX11_image [rv o1] H (fun H424 r427 => ∃ a429, o2 = some a429 ∧ (tg H424 a429 = 13 ∧ (CI d 0 0 mX12_image [rv o2] H424 (fun H428 r431 => (r427 = r431 → L_L_law_18 d ca sa q o1 o2 (x3 + 6) H428) ∧ (¬ (r427 = r431) → q H428 false)))))))) ∧ ((((hX H).2 x3.toNatClampNeg) &&& (63 : Int32)) = 35 → ∃ a433, o1 = some a433 ∧ (tg H a433 = 12 ∧ (CI d 0 0 mX11_undo [rv o1] H (fun H432 r435 => ∃ a437, o2 = some a437 ∧ (tg H432 a437 = 13 ∧ (CI d 0 0 mX12_undo [rv o2] H432 (fun H436 r439 => (r435 = r439 → L_L_law_18 d ca sa q o1 o2 (x3 + 6) H436) ∧ (¬ (r435 = r439) → q H436 false)))))))) ∧ ((((hX H).2 x3.toNatClampNeg) &&& (63 : Int32)) = 36 → vp_in (x3 + (1 : Int32)) (hX H).1 ∧ (∃ a442, o1 = some a442 ∧ (tg H a442 = 12 ∧ (CI d 0 0 mX11_count [rv o1, .int ((hX H).2 (x3 + (1 : Int32)).toNatClampNeg)] H (fun H441 r444 => vp_in (x3 + (1 : Int32)) (hX H441).1 ∧ (∃ a447, o2 = some a447 ∧ (tg H441 a447 = 13 ∧ (CI d 0 0 mX12_count [rv o2, .int ((hX H441).2 (x3 + (1 : Int32)).toNatClampNeg)] H441 (fun H446 r449 => (r444 = r449 → L_L_law_18 d ca sa q o1 o2 (x3 + 6) H446) ∧ (¬ (r444 = r449) → q H446 false))))))))))))
set_option maxRecDepth 40000 in
set_option maxHeartbeats 4000000 in
theorem T_L_law_18 {d : Nat} {ca sa : Nat} {q : HP → Bool → Prop} {o1 : Option Nat} {o2 : Option Nat} {x3 : Int32} {H : HP} (h : wb_L_law_18 d ca sa q o1 o2 x3 H) : L_L_law_18 d ca sa q o1 o2 x3 H := by
  unfold wb_L_law_18 at h
  unfold L_L_law_18
  refine wp_iload_n 3 dL_law_18 rfl ?_
  refine wp_aload_n 0 dL_law_19 rfl ?_
  refine wp_slen dL_law_20 ?_
  refine wp_bipush (v := (6 : Int32)) dL_law_21 (by decide) ?_
  refine wp_isub dL_law_23 ?_
  refine wp_icmp_gt (tgt := 1473) dL_law_24 rfl (fun c => ?_) (fun c => ?_)
  · replace h := h.1 c
    refine wp_iconst (v := (1 : Int32)) dL_law_1473 (by decide) ?_
    exact wp_ireturn (ty := .boolean) dL_law_1474 rfl rfl ⟨true, rfl, h⟩
  · replace h := h.2 c
    refine wp_aload_n 0 dL_law_27 rfl ?_
    refine wp_iload_n 3 dL_law_28 rfl ?_
    obtain ⟨hg1, h⟩ := h
    refine wp_sload dL_law_29 hg1 ?_
    refine wp_bipush (v := (63 : Int32)) dL_law_30 (by decide) ?_
    refine wp_iand dL_law_32 ?_
    by_cases c : (((hX H).2 x3.toNatClampNeg) &&& (63 : Int32)).toInt < 0 ∨ 36 < (((hX H).2 x3.toNatClampNeg) &&& (63 : Int32)).toInt
    · replace h := h.1 c
      refine wp_tableOut (tgt := 1467) dL_law_33 c rfl ?_
      refine wp_iinc (v := (x3 + 6)) (ls' := [(3, .int (x3 + 6)), (0, rv (some scrA)), (1, rv o1), (2, rv o2)]) 3 dL_law_1467 rfl rfl (by decide) (by simp [st1, rv_cat, vc_int, vc_long, vc_float, vc_double]) ?_
      refine wp_goto (tgt := 18) dL_law_1470 rfl ?_
      refine wp_sub (ls' := [(0, rv (some scrA)), (1, rv o1), (2, rv o2), (3, .int (x3 + 6))]) [1, 2, 3, 0] rfl ?_
      exact h
    · replace h := h.2
      have e : (((hX H).2 x3.toNatClampNeg) &&& (63 : Int32)).toInt = 0 ∨ (((hX H).2 x3.toNatClampNeg) &&& (63 : Int32)).toInt = 1 ∨ (((hX H).2 x3.toNatClampNeg) &&& (63 : Int32)).toInt = 2 ∨ (((hX H).2 x3.toNatClampNeg) &&& (63 : Int32)).toInt = 3 ∨ (((hX H).2 x3.toNatClampNeg) &&& (63 : Int32)).toInt = 4 ∨ (((hX H).2 x3.toNatClampNeg) &&& (63 : Int32)).toInt = 5 ∨ (((hX H).2 x3.toNatClampNeg) &&& (63 : Int32)).toInt = 6 ∨ (((hX H).2 x3.toNatClampNeg) &&& (63 : Int32)).toInt = 7 ∨ (((hX H).2 x3.toNatClampNeg) &&& (63 : Int32)).toInt = 8 ∨ (((hX H).2 x3.toNatClampNeg) &&& (63 : Int32)).toInt = 9 ∨ (((hX H).2 x3.toNatClampNeg) &&& (63 : Int32)).toInt = 10 ∨ (((hX H).2 x3.toNatClampNeg) &&& (63 : Int32)).toInt = 11 ∨ (((hX H).2 x3.toNatClampNeg) &&& (63 : Int32)).toInt = 12 ∨ (((hX H).2 x3.toNatClampNeg) &&& (63 : Int32)).toInt = 13 ∨ (((hX H).2 x3.toNatClampNeg) &&& (63 : Int32)).toInt = 14 ∨ (((hX H).2 x3.toNatClampNeg) &&& (63 : Int32)).toInt = 15 ∨ (((hX H).2 x3.toNatClampNeg) &&& (63 : Int32)).toInt = 16 ∨ (((hX H).2 x3.toNatClampNeg) &&& (63 : Int32)).toInt = 17 ∨ (((hX H).2 x3.toNatClampNeg) &&& (63 : Int32)).toInt = 18 ∨ (((hX H).2 x3.toNatClampNeg) &&& (63 : Int32)).toInt = 19 ∨ (((hX H).2 x3.toNatClampNeg) &&& (63 : Int32)).toInt = 20 ∨ (((hX H).2 x3.toNatClampNeg) &&& (63 : Int32)).toInt = 21 ∨ (((hX H).2 x3.toNatClampNeg) &&& (63 : Int32)).toInt = 22 ∨ (((hX H).2 x3.toNatClampNeg) &&& (63 : Int32)).toInt = 23 ∨ (((hX H).2 x3.toNatClampNeg) &&& (63 : Int32)).toInt = 24 ∨ (((hX H).2 x3.toNatClampNeg) &&& (63 : Int32)).toInt = 25 ∨ (((hX H).2 x3.toNatClampNeg) &&& (63 : Int32)).toInt = 26 ∨ (((hX H).2 x3.toNatClampNeg) &&& (63 : Int32)).toInt = 27 ∨ (((hX H).2 x3.toNatClampNeg) &&& (63 : Int32)).toInt = 28 ∨ (((hX H).2 x3.toNatClampNeg) &&& (63 : Int32)).toInt = 29 ∨ (((hX H).2 x3.toNatClampNeg) &&& (63 : Int32)).toInt = 30 ∨ (((hX H).2 x3.toNatClampNeg) &&& (63 : Int32)).toInt = 31 ∨ (((hX H).2 x3.toNatClampNeg) &&& (63 : Int32)).toInt = 32 ∨ (((hX H).2 x3.toNatClampNeg) &&& (63 : Int32)).toInt = 33 ∨ (((hX H).2 x3.toNatClampNeg) &&& (63 : Int32)).toInt = 34 ∨ (((hX H).2 x3.toNatClampNeg) &&& (63 : Int32)).toInt = 35 ∨ (((hX H).2 x3.toNatClampNeg) &&& (63 : Int32)).toInt = 36 := by omega
      rcases e with e | e | e | e | e | e | e | e | e | e | e | e | e | e | e | e | e | e | e | e | e | e | e | e | e | e | e | e | e | e | e | e | e | e | e | e | e
      · replace h := h.1 (Int32.toInt_inj.mp e)
        refine wp_tableIn (tgt := 196) dL_law_33 (by omega) (by omega) (by rw [e]; rfl) rfl ?_
        refine wp_aload_n 1 dL_law_196 rfl ?_
        refine wp_aload_n 0 dL_law_197 rfl ?_
        refine wp_iload_n 3 dL_law_198 rfl ?_
        refine wp_iconst (v := (1 : Int32)) dL_law_199 (by decide) ?_
        refine wp_iadd dL_law_200 ?_
        obtain ⟨hg2, h⟩ := h
        refine wp_sload dL_law_201 hg2 ?_
        obtain ⟨a4, ha4, h⟩ := h
        obtain ⟨ht5, h⟩ := h
        refine wp_callV (ci := 11) (As := [.int ((hX H).2 (x3 + (1 : Int32)).toNatClampNeg)]) (rest := []) (mc := 0) (ms := 0) (ca' := ca) (sa' := sa) dL_law_202 lk_L_13 rfl rfl (by decide) ha4 rfl rfl ht5 rfl rfl rfl w_3_2 (Call.weaken h ?_)
        rintro H3 _ ⟨r6, rfl, h⟩
        change WP _ _ _ _ _ _ [.int r6] H3 _
        refine wp_aload_n 2 dL_law_205 rfl ?_
        refine wp_aload_n 0 dL_law_206 rfl ?_
        refine wp_iload_n 3 dL_law_207 rfl ?_
        refine wp_iconst (v := (1 : Int32)) dL_law_208 (by decide) ?_
        refine wp_iadd dL_law_209 ?_
        obtain ⟨hg7, h⟩ := h
        refine wp_sload dL_law_210 hg7 ?_
        obtain ⟨a9, ha9, h⟩ := h
        obtain ⟨ht10, h⟩ := h
        refine wp_callV (ci := 12) (As := [.int ((hX H3).2 (x3 + (1 : Int32)).toNatClampNeg)]) (rest := [.int r6]) (mc := 0) (ms := 0) (ca' := ca) (sa' := sa) dL_law_211 lk_L_17 rfl rfl (by simp [rv_cat, vc_int, vc_long, vc_float, vc_double]) ha9 rfl rfl ht10 rfl rfl rfl w_6_182 (Call.weaken h ?_)
        rintro H8 _ ⟨r11, rfl, h⟩
        change WP _ _ _ _ _ _ [.int r11, .int r6] H8 _
        refine wp_icmp_eq (tgt := 1467) dL_law_214 rfl (fun c => ?_) (fun c => ?_)
        · replace h := h.1 c
          refine wp_iinc (v := (x3 + 6)) (ls' := [(3, .int (x3 + 6)), (0, rv (some scrA)), (1, rv o1), (2, rv o2)]) 3 dL_law_1467 rfl rfl (by decide) (by simp [st1, rv_cat, vc_int, vc_long, vc_float, vc_double]) ?_
          refine wp_goto (tgt := 18) dL_law_1470 rfl ?_
          refine wp_sub (ls' := [(0, rv (some scrA)), (1, rv o1), (2, rv o2), (3, .int (x3 + 6))]) [1, 2, 3, 0] rfl ?_
          exact h
        · replace h := h.2 c
          refine wp_iconst (v := (0 : Int32)) dL_law_217 (by decide) ?_
          exact wp_ireturn (ty := .boolean) dL_law_218 rfl rfl ⟨false, rfl, h⟩
      · replace h := h.2.1 (Int32.toInt_inj.mp e)
        refine wp_tableIn (tgt := 219) dL_law_33 (by omega) (by omega) (by rw [e]; rfl) rfl ?_
        refine wp_aload_n 1 dL_law_219 rfl ?_
        obtain ⟨a13, ha13, h⟩ := h
        obtain ⟨ht14, h⟩ := h
        refine wp_callV (ci := 11) (As := []) (rest := []) (mc := 0) (ms := 0) (ca' := ca) (sa' := sa) dL_law_220 lk_L_18 rfl rfl (by decide) ha13 rfl rfl ht14 rfl rfl rfl w_3_10 (Call.weaken h ?_)
        rintro H12 _ ⟨r15, rfl, h⟩
        change WP _ _ _ _ _ _ [.int r15] H12 _
        refine wp_aload_n 2 dL_law_223 rfl ?_
        obtain ⟨a17, ha17, h⟩ := h
        obtain ⟨ht18, h⟩ := h
        refine wp_callV (ci := 12) (As := []) (rest := [.int r15]) (mc := 0) (ms := 0) (ca' := ca) (sa' := sa) dL_law_224 lk_L_22 rfl rfl (by simp [rv_cat, vc_int, vc_long, vc_float, vc_double]) ha17 rfl rfl ht18 rfl rfl rfl w_6_190 (Call.weaken h ?_)
        rintro H16 _ ⟨r19, rfl, h⟩
        change WP _ _ _ _ _ _ [.int r19, .int r15] H16 _
        refine wp_icmp_eq (tgt := 1467) dL_law_227 rfl (fun c => ?_) (fun c => ?_)
        · replace h := h.1 c
          refine wp_iinc (v := (x3 + 6)) (ls' := [(3, .int (x3 + 6)), (0, rv (some scrA)), (1, rv o1), (2, rv o2)]) 3 dL_law_1467 rfl rfl (by decide) (by simp [st1, rv_cat, vc_int, vc_long, vc_float, vc_double]) ?_
          refine wp_goto (tgt := 18) dL_law_1470 rfl ?_
          refine wp_sub (ls' := [(0, rv (some scrA)), (1, rv o1), (2, rv o2), (3, .int (x3 + 6))]) [1, 2, 3, 0] rfl ?_
          exact h
        · replace h := h.2 c
          refine wp_iconst (v := (0 : Int32)) dL_law_230 (by decide) ?_
          exact wp_ireturn (ty := .boolean) dL_law_231 rfl rfl ⟨false, rfl, h⟩
      · replace h := h.2.2.1 (Int32.toInt_inj.mp e)
        refine wp_tableIn (tgt := 232) dL_law_33 (by omega) (by omega) (by rw [e]; rfl) rfl ?_
        refine wp_aload_n 1 dL_law_232 rfl ?_
        obtain ⟨a21, ha21, h⟩ := h
        obtain ⟨ht22, h⟩ := h
        refine wp_callV (ci := 11) (As := []) (rest := []) (mc := 0) (ms := 0) (ca' := ca) (sa' := sa) dL_law_233 lk_L_23 rfl rfl (by decide) ha21 rfl rfl ht22 rfl rfl rfl w_3_151 (Call.weaken h ?_)
        rintro H20 _ ⟨r23, rfl, h⟩
        change WP _ _ _ _ _ _ [.int r23] H20 _
        refine wp_aload_n 2 dL_law_236 rfl ?_
        obtain ⟨a25, ha25, h⟩ := h
        obtain ⟨ht26, h⟩ := h
        refine wp_callV (ci := 12) (As := []) (rest := [.int r23]) (mc := 0) (ms := 0) (ca' := ca) (sa' := sa) dL_law_237 lk_L_26 rfl rfl (by simp [rv_cat, vc_int, vc_long, vc_float, vc_double]) ha25 rfl rfl ht26 rfl rfl rfl w_7_60 (Call.weaken h ?_)
        rintro H24 _ ⟨r27, rfl, h⟩
        change WP _ _ _ _ _ _ [.int r27, .int r23] H24 _
        refine wp_icmp_eq (tgt := 1467) dL_law_240 rfl (fun c => ?_) (fun c => ?_)
        · replace h := h.1 c
          refine wp_iinc (v := (x3 + 6)) (ls' := [(3, .int (x3 + 6)), (0, rv (some scrA)), (1, rv o1), (2, rv o2)]) 3 dL_law_1467 rfl rfl (by decide) (by simp [st1, rv_cat, vc_int, vc_long, vc_float, vc_double]) ?_
          refine wp_goto (tgt := 18) dL_law_1470 rfl ?_
          refine wp_sub (ls' := [(0, rv (some scrA)), (1, rv o1), (2, rv o2), (3, .int (x3 + 6))]) [1, 2, 3, 0] rfl ?_
          exact h
        · replace h := h.2 c
          refine wp_iconst (v := (0 : Int32)) dL_law_243 (by decide) ?_
          exact wp_ireturn (ty := .boolean) dL_law_244 rfl rfl ⟨false, rfl, h⟩
      · replace h := h.2.2.2.1 (Int32.toInt_inj.mp e)
        refine wp_tableIn (tgt := 245) dL_law_33 (by omega) (by omega) (by rw [e]; rfl) rfl ?_
        refine wp_aload_n 1 dL_law_245 rfl ?_
        obtain ⟨a29, ha29, h⟩ := h
        obtain ⟨ht30, h⟩ := h
        refine wp_callV (ci := 11) (As := []) (rest := []) (mc := 0) (ms := 0) (ca' := ca) (sa' := sa) dL_law_246 lk_L_27 rfl rfl (by decide) ha29 rfl rfl ht30 rfl rfl rfl w_3_192 (Call.weaken h ?_)
        rintro H28 _ ⟨r31, rfl, h⟩
        change WP _ _ _ _ _ _ [.int r31] H28 _
        refine wp_aload_n 2 dL_law_249 rfl ?_
        obtain ⟨a33, ha33, h⟩ := h
        obtain ⟨ht34, h⟩ := h
        refine wp_callV (ci := 12) (As := []) (rest := [.int r31]) (mc := 0) (ms := 0) (ca' := ca) (sa' := sa) dL_law_250 lk_L_30 rfl rfl (by simp [rv_cat, vc_int, vc_long, vc_float, vc_double]) ha33 rfl rfl ht34 rfl rfl rfl w_7_68 (Call.weaken h ?_)
        rintro H32 _ ⟨r35, rfl, h⟩
        change WP _ _ _ _ _ _ [.int r35, .int r31] H32 _
        refine wp_icmp_eq (tgt := 1467) dL_law_253 rfl (fun c => ?_) (fun c => ?_)
        · replace h := h.1 c
          refine wp_iinc (v := (x3 + 6)) (ls' := [(3, .int (x3 + 6)), (0, rv (some scrA)), (1, rv o1), (2, rv o2)]) 3 dL_law_1467 rfl rfl (by decide) (by simp [st1, rv_cat, vc_int, vc_long, vc_float, vc_double]) ?_
          refine wp_goto (tgt := 18) dL_law_1470 rfl ?_
          refine wp_sub (ls' := [(0, rv (some scrA)), (1, rv o1), (2, rv o2), (3, .int (x3 + 6))]) [1, 2, 3, 0] rfl ?_
          exact h
        · replace h := h.2 c
          refine wp_iconst (v := (0 : Int32)) dL_law_256 (by decide) ?_
          exact wp_ireturn (ty := .boolean) dL_law_257 rfl rfl ⟨false, rfl, h⟩
      · replace h := h.2.2.2.2.1 (Int32.toInt_inj.mp e)
        refine wp_tableIn (tgt := 258) dL_law_33 (by omega) (by omega) (by rw [e]; rfl) rfl ?_
        refine wp_aload_n 1 dL_law_258 rfl ?_
        refine wp_aload_n 0 dL_law_259 rfl ?_
        refine wp_iload_n 3 dL_law_260 rfl ?_
        refine wp_iconst (v := (1 : Int32)) dL_law_261 (by decide) ?_
        refine wp_iadd dL_law_262 ?_
        obtain ⟨hg36, h⟩ := h
        refine wp_sload dL_law_263 hg36 ?_
        refine wp_aload_n 0 dL_law_264 rfl ?_
        refine wp_iload_n 3 dL_law_265 rfl ?_
        refine wp_iconst (v := (2 : Int32)) dL_law_266 (by decide) ?_
        refine wp_iadd dL_law_267 ?_
        obtain ⟨hg37, h⟩ := h
        refine wp_sload dL_law_268 hg37 ?_
        obtain ⟨a39, ha39, h⟩ := h
        obtain ⟨ht40, h⟩ := h
        refine wp_callV (ci := 11) (As := [.int ((hX H).2 (x3 + (1 : Int32)).toNatClampNeg), .int ((hX H).2 (x3 + (2 : Int32)).toNatClampNeg)]) (rest := []) (mc := 0) (ms := 0) (ca' := ca) (sa' := sa) dL_law_269 lk_L_31 rfl rfl (by decide) ha39 rfl rfl ht40 rfl rfl rfl w_3_197 (Call.weaken h ?_)
        rintro H38 _ ⟨r41, rfl, h⟩
        change WP _ _ _ _ _ _ [.int r41] H38 _
        refine wp_aload_n 2 dL_law_272 rfl ?_
        refine wp_aload_n 0 dL_law_273 rfl ?_
        refine wp_iload_n 3 dL_law_274 rfl ?_
        refine wp_iconst (v := (1 : Int32)) dL_law_275 (by decide) ?_
        refine wp_iadd dL_law_276 ?_
        obtain ⟨hg42, h⟩ := h
        refine wp_sload dL_law_277 hg42 ?_
        refine wp_aload_n 0 dL_law_278 rfl ?_
        refine wp_iload_n 3 dL_law_279 rfl ?_
        refine wp_iconst (v := (2 : Int32)) dL_law_280 (by decide) ?_
        refine wp_iadd dL_law_281 ?_
        obtain ⟨hg43, h⟩ := h
        refine wp_sload dL_law_282 hg43 ?_
        obtain ⟨a45, ha45, h⟩ := h
        obtain ⟨ht46, h⟩ := h
        refine wp_callV (ci := 12) (As := [.int ((hX H38).2 (x3 + (1 : Int32)).toNatClampNeg), .int ((hX H38).2 (x3 + (2 : Int32)).toNatClampNeg)]) (rest := [.int r41]) (mc := 0) (ms := 0) (ca' := ca) (sa' := sa) dL_law_283 lk_L_35 rfl rfl (by simp [rv_cat, vc_int, vc_long, vc_float, vc_double]) ha45 rfl rfl ht46 rfl rfl rfl w_7_73 (Call.weaken h ?_)
        rintro H44 _ ⟨r47, rfl, h⟩
        change WP _ _ _ _ _ _ [.int r47, .int r41] H44 _
        refine wp_icmp_eq (tgt := 1467) dL_law_286 rfl (fun c => ?_) (fun c => ?_)
        · replace h := h.1 c
          refine wp_iinc (v := (x3 + 6)) (ls' := [(3, .int (x3 + 6)), (0, rv (some scrA)), (1, rv o1), (2, rv o2)]) 3 dL_law_1467 rfl rfl (by decide) (by simp [st1, rv_cat, vc_int, vc_long, vc_float, vc_double]) ?_
          refine wp_goto (tgt := 18) dL_law_1470 rfl ?_
          refine wp_sub (ls' := [(0, rv (some scrA)), (1, rv o1), (2, rv o2), (3, .int (x3 + 6))]) [1, 2, 3, 0] rfl ?_
          exact h
        · replace h := h.2 c
          refine wp_iconst (v := (0 : Int32)) dL_law_289 (by decide) ?_
          exact wp_ireturn (ty := .boolean) dL_law_290 rfl rfl ⟨false, rfl, h⟩
      · replace h := h.2.2.2.2.2.1 (Int32.toInt_inj.mp e)
        refine wp_tableIn (tgt := 291) dL_law_33 (by omega) (by omega) (by rw [e]; rfl) rfl ?_
        refine wp_aload_n 1 dL_law_291 rfl ?_
        refine wp_aload_n 0 dL_law_292 rfl ?_
        refine wp_iload_n 3 dL_law_293 rfl ?_
        refine wp_iconst (v := (1 : Int32)) dL_law_294 (by decide) ?_
        refine wp_iadd dL_law_295 ?_
        obtain ⟨hg48, h⟩ := h
        refine wp_sload dL_law_296 hg48 ?_
        refine wp_aload_n 0 dL_law_297 rfl ?_
        refine wp_iload_n 3 dL_law_298 rfl ?_
        refine wp_iconst (v := (2 : Int32)) dL_law_299 (by decide) ?_
        refine wp_iadd dL_law_300 ?_
        obtain ⟨hg49, h⟩ := h
        refine wp_sload dL_law_301 hg49 ?_
        obtain ⟨a51, ha51, h⟩ := h
        obtain ⟨ht52, h⟩ := h
        refine wp_callV (ci := 11) (As := [.int ((hX H).2 (x3 + (1 : Int32)).toNatClampNeg), .int ((hX H).2 (x3 + (2 : Int32)).toNatClampNeg)]) (rest := []) (mc := 0) (ms := 0) (ca' := ca) (sa' := sa) dL_law_302 lk_L_36 rfl rfl (by decide) ha51 rfl rfl ht52 rfl rfl rfl w_3_202 (Call.weaken h ?_)
        rintro H50 _ ⟨r53, rfl, h⟩
        change WP _ _ _ _ _ _ [.int r53] H50 _
        refine wp_aload_n 2 dL_law_305 rfl ?_
        refine wp_aload_n 0 dL_law_306 rfl ?_
        refine wp_iload_n 3 dL_law_307 rfl ?_
        refine wp_iconst (v := (1 : Int32)) dL_law_308 (by decide) ?_
        refine wp_iadd dL_law_309 ?_
        obtain ⟨hg54, h⟩ := h
        refine wp_sload dL_law_310 hg54 ?_
        refine wp_aload_n 0 dL_law_311 rfl ?_
        refine wp_iload_n 3 dL_law_312 rfl ?_
        refine wp_iconst (v := (2 : Int32)) dL_law_313 (by decide) ?_
        refine wp_iadd dL_law_314 ?_
        obtain ⟨hg55, h⟩ := h
        refine wp_sload dL_law_315 hg55 ?_
        obtain ⟨a57, ha57, h⟩ := h
        obtain ⟨ht58, h⟩ := h
        refine wp_callV (ci := 12) (As := [.int ((hX H50).2 (x3 + (1 : Int32)).toNatClampNeg), .int ((hX H50).2 (x3 + (2 : Int32)).toNatClampNeg)]) (rest := [.int r53]) (mc := 0) (ms := 0) (ca' := ca) (sa' := sa) dL_law_316 lk_L_39 rfl rfl (by simp [rv_cat, vc_int, vc_long, vc_float, vc_double]) ha57 rfl rfl ht58 rfl rfl rfl w_7_82 (Call.weaken h ?_)
        rintro H56 _ ⟨r59, rfl, h⟩
        change WP _ _ _ _ _ _ [.int r59, .int r53] H56 _
        refine wp_icmp_eq (tgt := 1467) dL_law_319 rfl (fun c => ?_) (fun c => ?_)
        · replace h := h.1 c
          refine wp_iinc (v := (x3 + 6)) (ls' := [(3, .int (x3 + 6)), (0, rv (some scrA)), (1, rv o1), (2, rv o2)]) 3 dL_law_1467 rfl rfl (by decide) (by simp [st1, rv_cat, vc_int, vc_long, vc_float, vc_double]) ?_
          refine wp_goto (tgt := 18) dL_law_1470 rfl ?_
          refine wp_sub (ls' := [(0, rv (some scrA)), (1, rv o1), (2, rv o2), (3, .int (x3 + 6))]) [1, 2, 3, 0] rfl ?_
          exact h
        · replace h := h.2 c
          refine wp_iconst (v := (0 : Int32)) dL_law_322 (by decide) ?_
          exact wp_ireturn (ty := .boolean) dL_law_323 rfl rfl ⟨false, rfl, h⟩
      · replace h := h.2.2.2.2.2.2.1 (Int32.toInt_inj.mp e)
        refine wp_tableIn (tgt := 324) dL_law_33 (by omega) (by omega) (by rw [e]; rfl) rfl ?_
        refine wp_aload_n 1 dL_law_324 rfl ?_
        refine wp_aload_n 0 dL_law_325 rfl ?_
        refine wp_iload_n 3 dL_law_326 rfl ?_
        refine wp_iconst (v := (1 : Int32)) dL_law_327 (by decide) ?_
        refine wp_iadd dL_law_328 ?_
        obtain ⟨hg60, h⟩ := h
        refine wp_sload dL_law_329 hg60 ?_
        refine wp_aload_n 0 dL_law_330 rfl ?_
        refine wp_iload_n 3 dL_law_331 rfl ?_
        refine wp_iconst (v := (2 : Int32)) dL_law_332 (by decide) ?_
        refine wp_iadd dL_law_333 ?_
        obtain ⟨hg61, h⟩ := h
        refine wp_sload dL_law_334 hg61 ?_
        refine wp_aload_n 0 dL_law_335 rfl ?_
        refine wp_iload_n 3 dL_law_336 rfl ?_
        refine wp_iconst (v := (3 : Int32)) dL_law_337 (by decide) ?_
        refine wp_iadd dL_law_338 ?_
        obtain ⟨hg62, h⟩ := h
        refine wp_sload dL_law_339 hg62 ?_
        obtain ⟨a64, ha64, h⟩ := h
        obtain ⟨ht65, h⟩ := h
        refine wp_callV (ci := 11) (As := [.int ((hX H).2 (x3 + (1 : Int32)).toNatClampNeg), .int ((hX H).2 (x3 + (2 : Int32)).toNatClampNeg), .int ((hX H).2 (x3 + (3 : Int32)).toNatClampNeg)]) (rest := []) (mc := 0) (ms := 0) (ca' := ca) (sa' := sa) dL_law_340 lk_L_40 rfl rfl (by decide) ha64 rfl rfl ht65 rfl rfl rfl w_3_206 (Call.weaken h ?_)
        rintro H63 _ ⟨r66, rfl, h⟩
        change WP _ _ _ _ _ _ [.long r66] H63 _
        refine wp_aload_n 2 dL_law_343 rfl ?_
        refine wp_aload_n 0 dL_law_344 rfl ?_
        refine wp_iload_n 3 dL_law_345 rfl ?_
        refine wp_iconst (v := (1 : Int32)) dL_law_346 (by decide) ?_
        refine wp_iadd dL_law_347 ?_
        obtain ⟨hg67, h⟩ := h
        refine wp_sload dL_law_348 hg67 ?_
        refine wp_aload_n 0 dL_law_349 rfl ?_
        refine wp_iload_n 3 dL_law_350 rfl ?_
        refine wp_iconst (v := (2 : Int32)) dL_law_351 (by decide) ?_
        refine wp_iadd dL_law_352 ?_
        obtain ⟨hg68, h⟩ := h
        refine wp_sload dL_law_353 hg68 ?_
        refine wp_aload_n 0 dL_law_354 rfl ?_
        refine wp_iload_n 3 dL_law_355 rfl ?_
        refine wp_iconst (v := (3 : Int32)) dL_law_356 (by decide) ?_
        refine wp_iadd dL_law_357 ?_
        obtain ⟨hg69, h⟩ := h
        refine wp_sload dL_law_358 hg69 ?_
        obtain ⟨a71, ha71, h⟩ := h
        obtain ⟨ht72, h⟩ := h
        refine wp_callV (ci := 12) (As := [.int ((hX H63).2 (x3 + (1 : Int32)).toNatClampNeg), .int ((hX H63).2 (x3 + (2 : Int32)).toNatClampNeg), .int ((hX H63).2 (x3 + (3 : Int32)).toNatClampNeg)]) (rest := [.long r66]) (mc := 0) (ms := 0) (ca' := ca) (sa' := sa) dL_law_359 lk_L_44 rfl rfl (by simp [rv_cat, vc_int, vc_long, vc_float, vc_double]) ha71 rfl rfl ht72 rfl rfl rfl w_7_86 (Call.weaken h ?_)
        rintro H70 _ ⟨r73, rfl, h⟩
        change WP _ _ _ _ _ _ [.long r73, .long r66] H70 _
        refine wp_lcmp dL_law_362 ?_
        refine wp_if_eq (tgt := 1467) dL_law_363 rfl (fun c => ?_) (fun c => ?_)
        · replace h := h.1 (lgc_eq.mp c)
          refine wp_iinc (v := (x3 + 6)) (ls' := [(3, .int (x3 + 6)), (0, rv (some scrA)), (1, rv o1), (2, rv o2)]) 3 dL_law_1467 rfl rfl (by decide) (by simp [st1, rv_cat, vc_int, vc_long, vc_float, vc_double]) ?_
          refine wp_goto (tgt := 18) dL_law_1470 rfl ?_
          refine wp_sub (ls' := [(0, rv (some scrA)), (1, rv o1), (2, rv o2), (3, .int (x3 + 6))]) [1, 2, 3, 0] rfl ?_
          exact h
        · replace h := h.2 (fun z => c (lgc_eq.mpr z))
          refine wp_iconst (v := (0 : Int32)) dL_law_366 (by decide) ?_
          exact wp_ireturn (ty := .boolean) dL_law_367 rfl rfl ⟨false, rfl, h⟩
      · replace h := h.2.2.2.2.2.2.2.1 (Int32.toInt_inj.mp e)
        refine wp_tableIn (tgt := 368) dL_law_33 (by omega) (by omega) (by rw [e]; rfl) rfl ?_
        refine wp_aload_n 1 dL_law_368 rfl ?_
        refine wp_aload_n 0 dL_law_369 rfl ?_
        refine wp_iload_n 3 dL_law_370 rfl ?_
        refine wp_iconst (v := (1 : Int32)) dL_law_371 (by decide) ?_
        refine wp_iadd dL_law_372 ?_
        obtain ⟨hg74, h⟩ := h
        refine wp_sload dL_law_373 hg74 ?_
        refine wp_aload_n 0 dL_law_374 rfl ?_
        refine wp_iload_n 3 dL_law_375 rfl ?_
        refine wp_iconst (v := (2 : Int32)) dL_law_376 (by decide) ?_
        refine wp_iadd dL_law_377 ?_
        obtain ⟨hg75, h⟩ := h
        refine wp_sload dL_law_378 hg75 ?_
        refine wp_aload_n 0 dL_law_379 rfl ?_
        refine wp_iload_n 3 dL_law_380 rfl ?_
        refine wp_iconst (v := (3 : Int32)) dL_law_381 (by decide) ?_
        refine wp_iadd dL_law_382 ?_
        obtain ⟨hg76, h⟩ := h
        refine wp_sload dL_law_383 hg76 ?_
        obtain ⟨a78, ha78, h⟩ := h
        obtain ⟨ht79, h⟩ := h
        refine wp_callV (ci := 11) (As := [.int ((hX H).2 (x3 + (1 : Int32)).toNatClampNeg), .int ((hX H).2 (x3 + (2 : Int32)).toNatClampNeg), .int ((hX H).2 (x3 + (3 : Int32)).toNatClampNeg)]) (rest := []) (mc := 0) (ms := 0) (ca' := ca) (sa' := sa) dL_law_384 lk_L_45 rfl rfl (by decide) ha78 rfl rfl ht79 rfl rfl rfl w_3_215 (Call.weaken h ?_)
        rintro H77 _ ⟨r80, rfl, h⟩
        change WP _ _ _ _ _ _ [.long r80] H77 _
        refine wp_aload_n 2 dL_law_387 rfl ?_
        refine wp_aload_n 0 dL_law_388 rfl ?_
        refine wp_iload_n 3 dL_law_389 rfl ?_
        refine wp_iconst (v := (1 : Int32)) dL_law_390 (by decide) ?_
        refine wp_iadd dL_law_391 ?_
        obtain ⟨hg81, h⟩ := h
        refine wp_sload dL_law_392 hg81 ?_
        refine wp_aload_n 0 dL_law_393 rfl ?_
        refine wp_iload_n 3 dL_law_394 rfl ?_
        refine wp_iconst (v := (2 : Int32)) dL_law_395 (by decide) ?_
        refine wp_iadd dL_law_396 ?_
        obtain ⟨hg82, h⟩ := h
        refine wp_sload dL_law_397 hg82 ?_
        refine wp_aload_n 0 dL_law_398 rfl ?_
        refine wp_iload_n 3 dL_law_399 rfl ?_
        refine wp_iconst (v := (3 : Int32)) dL_law_400 (by decide) ?_
        refine wp_iadd dL_law_401 ?_
        obtain ⟨hg83, h⟩ := h
        refine wp_sload dL_law_402 hg83 ?_
        obtain ⟨a85, ha85, h⟩ := h
        obtain ⟨ht86, h⟩ := h
        refine wp_callV (ci := 12) (As := [.int ((hX H77).2 (x3 + (1 : Int32)).toNatClampNeg), .int ((hX H77).2 (x3 + (2 : Int32)).toNatClampNeg), .int ((hX H77).2 (x3 + (3 : Int32)).toNatClampNeg)]) (rest := [.long r80]) (mc := 0) (ms := 0) (ca' := ca) (sa' := sa) dL_law_403 lk_L_48 rfl rfl (by simp [rv_cat, vc_int, vc_long, vc_float, vc_double]) ha85 rfl rfl ht86 rfl rfl rfl w_7_96 (Call.weaken h ?_)
        rintro H84 _ ⟨r87, rfl, h⟩
        change WP _ _ _ _ _ _ [.long r87, .long r80] H84 _
        refine wp_lcmp dL_law_406 ?_
        refine wp_if_eq (tgt := 1467) dL_law_407 rfl (fun c => ?_) (fun c => ?_)
        · replace h := h.1 (lgc_eq.mp c)
          refine wp_iinc (v := (x3 + 6)) (ls' := [(3, .int (x3 + 6)), (0, rv (some scrA)), (1, rv o1), (2, rv o2)]) 3 dL_law_1467 rfl rfl (by decide) (by simp [st1, rv_cat, vc_int, vc_long, vc_float, vc_double]) ?_
          refine wp_goto (tgt := 18) dL_law_1470 rfl ?_
          refine wp_sub (ls' := [(0, rv (some scrA)), (1, rv o1), (2, rv o2), (3, .int (x3 + 6))]) [1, 2, 3, 0] rfl ?_
          exact h
        · replace h := h.2 (fun z => c (lgc_eq.mpr z))
          refine wp_iconst (v := (0 : Int32)) dL_law_410 (by decide) ?_
          exact wp_ireturn (ty := .boolean) dL_law_411 rfl rfl ⟨false, rfl, h⟩
      · replace h := h.2.2.2.2.2.2.2.2.1 (Int32.toInt_inj.mp e)
        refine wp_tableIn (tgt := 412) dL_law_33 (by omega) (by omega) (by rw [e]; rfl) rfl ?_
        refine wp_aload_n 1 dL_law_412 rfl ?_
        refine wp_aload_n 0 dL_law_413 rfl ?_
        refine wp_iload_n 3 dL_law_414 rfl ?_
        refine wp_iconst (v := (1 : Int32)) dL_law_415 (by decide) ?_
        refine wp_iadd dL_law_416 ?_
        obtain ⟨hg88, h⟩ := h
        refine wp_sload dL_law_417 hg88 ?_
        refine wp_aload_n 0 dL_law_418 rfl ?_
        refine wp_iload_n 3 dL_law_419 rfl ?_
        refine wp_iconst (v := (2 : Int32)) dL_law_420 (by decide) ?_
        refine wp_iadd dL_law_421 ?_
        obtain ⟨hg89, h⟩ := h
        refine wp_sload dL_law_422 hg89 ?_
        refine wp_aload_n 0 dL_law_423 rfl ?_
        refine wp_iload_n 3 dL_law_424 rfl ?_
        refine wp_iconst (v := (3 : Int32)) dL_law_425 (by decide) ?_
        refine wp_iadd dL_law_426 ?_
        obtain ⟨hg90, h⟩ := h
        refine wp_sload dL_law_427 hg90 ?_
        obtain ⟨a92, ha92, h⟩ := h
        obtain ⟨ht93, h⟩ := h
        refine wp_callV (ci := 11) (As := [.int ((hX H).2 (x3 + (1 : Int32)).toNatClampNeg), .int ((hX H).2 (x3 + (2 : Int32)).toNatClampNeg), .int ((hX H).2 (x3 + (3 : Int32)).toNatClampNeg)]) (rest := []) (mc := 0) (ms := 0) (ca' := ca) (sa' := sa) dL_law_428 lk_L_49 rfl rfl (by decide) ha92 rfl rfl ht93 rfl rfl rfl w_3_229 (Call.weaken h ?_)
        rintro H91 _ ⟨r94, rfl, h⟩
        change WP _ _ _ _ _ _ [.int r94] H91 _
        refine wp_aload_n 2 dL_law_431 rfl ?_
        refine wp_aload_n 0 dL_law_432 rfl ?_
        refine wp_iload_n 3 dL_law_433 rfl ?_
        refine wp_iconst (v := (1 : Int32)) dL_law_434 (by decide) ?_
        refine wp_iadd dL_law_435 ?_
        obtain ⟨hg95, h⟩ := h
        refine wp_sload dL_law_436 hg95 ?_
        refine wp_aload_n 0 dL_law_437 rfl ?_
        refine wp_iload_n 3 dL_law_438 rfl ?_
        refine wp_iconst (v := (2 : Int32)) dL_law_439 (by decide) ?_
        refine wp_iadd dL_law_440 ?_
        obtain ⟨hg96, h⟩ := h
        refine wp_sload dL_law_441 hg96 ?_
        refine wp_aload_n 0 dL_law_442 rfl ?_
        refine wp_iload_n 3 dL_law_443 rfl ?_
        refine wp_iconst (v := (3 : Int32)) dL_law_444 (by decide) ?_
        refine wp_iadd dL_law_445 ?_
        obtain ⟨hg97, h⟩ := h
        refine wp_sload dL_law_446 hg97 ?_
        obtain ⟨a99, ha99, h⟩ := h
        obtain ⟨ht100, h⟩ := h
        refine wp_callV (ci := 12) (As := [.int ((hX H91).2 (x3 + (1 : Int32)).toNatClampNeg), .int ((hX H91).2 (x3 + (2 : Int32)).toNatClampNeg), .int ((hX H91).2 (x3 + (3 : Int32)).toNatClampNeg)]) (rest := [.int r94]) (mc := 0) (ms := 0) (ca' := ca) (sa' := sa) dL_law_447 lk_L_53 rfl rfl (by simp [rv_cat, vc_int, vc_long, vc_float, vc_double]) ha99 rfl rfl ht100 rfl rfl rfl w_7_108 (Call.weaken h ?_)
        rintro H98 _ ⟨r101, rfl, h⟩
        change WP _ _ _ _ _ _ [.int r101, .int r94] H98 _
        refine wp_icmp_eq (tgt := 1467) dL_law_450 rfl (fun c => ?_) (fun c => ?_)
        · replace h := h.1 c
          refine wp_iinc (v := (x3 + 6)) (ls' := [(3, .int (x3 + 6)), (0, rv (some scrA)), (1, rv o1), (2, rv o2)]) 3 dL_law_1467 rfl rfl (by decide) (by simp [st1, rv_cat, vc_int, vc_long, vc_float, vc_double]) ?_
          refine wp_goto (tgt := 18) dL_law_1470 rfl ?_
          refine wp_sub (ls' := [(0, rv (some scrA)), (1, rv o1), (2, rv o2), (3, .int (x3 + 6))]) [1, 2, 3, 0] rfl ?_
          exact h
        · replace h := h.2 c
          refine wp_iconst (v := (0 : Int32)) dL_law_453 (by decide) ?_
          exact wp_ireturn (ty := .boolean) dL_law_454 rfl rfl ⟨false, rfl, h⟩
      · replace h := h.2.2.2.2.2.2.2.2.2.1 (Int32.toInt_inj.mp e)
        refine wp_tableIn (tgt := 455) dL_law_33 (by omega) (by omega) (by rw [e]; rfl) rfl ?_
        refine wp_aload_n 1 dL_law_455 rfl ?_
        obtain ⟨a103, ha103, h⟩ := h
        obtain ⟨ht104, h⟩ := h
        refine wp_callV (ci := 11) (As := []) (rest := []) (mc := 0) (ms := 0) (ca' := ca) (sa' := sa) dL_law_456 lk_L_54 rfl rfl (by decide) ha103 rfl rfl ht104 rfl rfl rfl w_4_5 (Call.weaken h ?_)
        rintro H102 _ ⟨r105, rfl, h⟩
        change WP _ _ _ _ _ _ [.int r105] H102 _
        refine wp_aload_n 2 dL_law_459 rfl ?_
        obtain ⟨a107, ha107, h⟩ := h
        obtain ⟨ht108, h⟩ := h
        refine wp_callV (ci := 12) (As := []) (rest := [.int r105]) (mc := 0) (ms := 0) (ca' := ca) (sa' := sa) dL_law_460 lk_L_57 rfl rfl (by simp [rv_cat, vc_int, vc_long, vc_float, vc_double]) ha107 rfl rfl ht108 rfl rfl rfl w_7_120 (Call.weaken h ?_)
        rintro H106 _ ⟨r109, rfl, h⟩
        change WP _ _ _ _ _ _ [.int r109, .int r105] H106 _
        refine wp_icmp_eq (tgt := 1467) dL_law_463 rfl (fun c => ?_) (fun c => ?_)
        · replace h := h.1 c
          refine wp_iinc (v := (x3 + 6)) (ls' := [(3, .int (x3 + 6)), (0, rv (some scrA)), (1, rv o1), (2, rv o2)]) 3 dL_law_1467 rfl rfl (by decide) (by simp [st1, rv_cat, vc_int, vc_long, vc_float, vc_double]) ?_
          refine wp_goto (tgt := 18) dL_law_1470 rfl ?_
          refine wp_sub (ls' := [(0, rv (some scrA)), (1, rv o1), (2, rv o2), (3, .int (x3 + 6))]) [1, 2, 3, 0] rfl ?_
          exact h
        · replace h := h.2 c
          refine wp_iconst (v := (0 : Int32)) dL_law_466 (by decide) ?_
          exact wp_ireturn (ty := .boolean) dL_law_467 rfl rfl ⟨false, rfl, h⟩
      · replace h := h.2.2.2.2.2.2.2.2.2.2.1 (Int32.toInt_inj.mp e)
        refine wp_tableIn (tgt := 468) dL_law_33 (by omega) (by omega) (by rw [e]; rfl) rfl ?_
        refine wp_aload_n 1 dL_law_468 rfl ?_
        refine wp_aload_n 0 dL_law_469 rfl ?_
        refine wp_iload_n 3 dL_law_470 rfl ?_
        refine wp_iconst (v := (1 : Int32)) dL_law_471 (by decide) ?_
        refine wp_iadd dL_law_472 ?_
        obtain ⟨hg110, h⟩ := h
        refine wp_sload dL_law_473 hg110 ?_
        obtain ⟨a112, ha112, h⟩ := h
        obtain ⟨ht113, h⟩ := h
        refine wp_callV (ci := 11) (As := [.int ((hX H).2 (x3 + (1 : Int32)).toNatClampNeg)]) (rest := []) (mc := 0) (ms := 0) (ca' := ca) (sa' := sa) dL_law_474 lk_L_58 rfl rfl (by decide) ha112 rfl rfl ht113 rfl rfl rfl w_4_123 (Call.weaken h ?_)
        rintro H111 _ ⟨r114, rfl, h⟩
        change WP _ _ _ _ _ _ [.int r114] H111 _
        refine wp_aload_n 2 dL_law_477 rfl ?_
        refine wp_aload_n 0 dL_law_478 rfl ?_
        refine wp_iload_n 3 dL_law_479 rfl ?_
        refine wp_iconst (v := (1 : Int32)) dL_law_480 (by decide) ?_
        refine wp_iadd dL_law_481 ?_
        obtain ⟨hg115, h⟩ := h
        refine wp_sload dL_law_482 hg115 ?_
        obtain ⟨a117, ha117, h⟩ := h
        obtain ⟨ht118, h⟩ := h
        refine wp_callV (ci := 12) (As := [.int ((hX H111).2 (x3 + (1 : Int32)).toNatClampNeg)]) (rest := [.int r114]) (mc := 0) (ms := 0) (ca' := ca) (sa' := sa) dL_law_483 lk_L_61 rfl rfl (by simp [rv_cat, vc_int, vc_long, vc_float, vc_double]) ha117 rfl rfl ht118 rfl rfl rfl w_7_205 (Call.weaken h ?_)
        rintro H116 _ ⟨r119, rfl, h⟩
        change WP _ _ _ _ _ _ [.int r119, .int r114] H116 _
        refine wp_icmp_eq (tgt := 1467) dL_law_486 rfl (fun c => ?_) (fun c => ?_)
        · replace h := h.1 c
          refine wp_iinc (v := (x3 + 6)) (ls' := [(3, .int (x3 + 6)), (0, rv (some scrA)), (1, rv o1), (2, rv o2)]) 3 dL_law_1467 rfl rfl (by decide) (by simp [st1, rv_cat, vc_int, vc_long, vc_float, vc_double]) ?_
          refine wp_goto (tgt := 18) dL_law_1470 rfl ?_
          refine wp_sub (ls' := [(0, rv (some scrA)), (1, rv o1), (2, rv o2), (3, .int (x3 + 6))]) [1, 2, 3, 0] rfl ?_
          exact h
        · replace h := h.2 c
          refine wp_iconst (v := (0 : Int32)) dL_law_489 (by decide) ?_
          exact wp_ireturn (ty := .boolean) dL_law_490 rfl rfl ⟨false, rfl, h⟩
      · replace h := h.2.2.2.2.2.2.2.2.2.2.2.1 (Int32.toInt_inj.mp e)
        refine wp_tableIn (tgt := 491) dL_law_33 (by omega) (by omega) (by rw [e]; rfl) rfl ?_
        refine wp_aload_n 1 dL_law_491 rfl ?_
        refine wp_aload_n 0 dL_law_492 rfl ?_
        refine wp_iload_n 3 dL_law_493 rfl ?_
        refine wp_iconst (v := (1 : Int32)) dL_law_494 (by decide) ?_
        refine wp_iadd dL_law_495 ?_
        obtain ⟨hg120, h⟩ := h
        refine wp_sload dL_law_496 hg120 ?_
        refine wp_aload_n 0 dL_law_497 rfl ?_
        refine wp_iload_n 3 dL_law_498 rfl ?_
        refine wp_iconst (v := (2 : Int32)) dL_law_499 (by decide) ?_
        refine wp_iadd dL_law_500 ?_
        obtain ⟨hg121, h⟩ := h
        refine wp_sload dL_law_501 hg121 ?_
        obtain ⟨a123, ha123, h⟩ := h
        obtain ⟨ht124, h⟩ := h
        refine wp_callV (ci := 11) (As := [.int ((hX H).2 (x3 + (1 : Int32)).toNatClampNeg), .int ((hX H).2 (x3 + (2 : Int32)).toNatClampNeg)]) (rest := []) (mc := 0) (ms := 0) (ca' := ca) (sa' := sa) dL_law_502 lk_L_62 rfl rfl (by decide) ha123 rfl rfl ht124 rfl rfl rfl w_4_144 (Call.weaken h ?_)
        rintro H122 _ ⟨r125, rfl, h⟩
        change WP _ _ _ _ _ _ [.int r125] H122 _
        refine wp_aload_n 2 dL_law_505 rfl ?_
        refine wp_aload_n 0 dL_law_506 rfl ?_
        refine wp_iload_n 3 dL_law_507 rfl ?_
        refine wp_iconst (v := (1 : Int32)) dL_law_508 (by decide) ?_
        refine wp_iadd dL_law_509 ?_
        obtain ⟨hg126, h⟩ := h
        refine wp_sload dL_law_510 hg126 ?_
        refine wp_aload_n 0 dL_law_511 rfl ?_
        refine wp_iload_n 3 dL_law_512 rfl ?_
        refine wp_iconst (v := (2 : Int32)) dL_law_513 (by decide) ?_
        refine wp_iadd dL_law_514 ?_
        obtain ⟨hg127, h⟩ := h
        refine wp_sload dL_law_515 hg127 ?_
        obtain ⟨a129, ha129, h⟩ := h
        obtain ⟨ht130, h⟩ := h
        refine wp_callV (ci := 12) (As := [.int ((hX H122).2 (x3 + (1 : Int32)).toNatClampNeg), .int ((hX H122).2 (x3 + (2 : Int32)).toNatClampNeg)]) (rest := [.int r125]) (mc := 0) (ms := 0) (ca' := ca) (sa' := sa) dL_law_516 lk_L_65 rfl rfl (by simp [rv_cat, vc_int, vc_long, vc_float, vc_double]) ha129 rfl rfl ht130 rfl rfl rfl w_7_209 (Call.weaken h ?_)
        rintro H128 _ ⟨r131, rfl, h⟩
        change WP _ _ _ _ _ _ [.int r131, .int r125] H128 _
        refine wp_icmp_eq (tgt := 1467) dL_law_519 rfl (fun c => ?_) (fun c => ?_)
        · replace h := h.1 c
          refine wp_iinc (v := (x3 + 6)) (ls' := [(3, .int (x3 + 6)), (0, rv (some scrA)), (1, rv o1), (2, rv o2)]) 3 dL_law_1467 rfl rfl (by decide) (by simp [st1, rv_cat, vc_int, vc_long, vc_float, vc_double]) ?_
          refine wp_goto (tgt := 18) dL_law_1470 rfl ?_
          refine wp_sub (ls' := [(0, rv (some scrA)), (1, rv o1), (2, rv o2), (3, .int (x3 + 6))]) [1, 2, 3, 0] rfl ?_
          exact h
        · replace h := h.2 c
          refine wp_iconst (v := (0 : Int32)) dL_law_522 (by decide) ?_
          exact wp_ireturn (ty := .boolean) dL_law_523 rfl rfl ⟨false, rfl, h⟩
      · replace h := h.2.2.2.2.2.2.2.2.2.2.2.2.1 (Int32.toInt_inj.mp e)
        refine wp_tableIn (tgt := 524) dL_law_33 (by omega) (by omega) (by rw [e]; rfl) rfl ?_
        refine wp_aload_n 1 dL_law_524 rfl ?_
        refine wp_aload_n 0 dL_law_525 rfl ?_
        refine wp_iload_n 3 dL_law_526 rfl ?_
        refine wp_iconst (v := (1 : Int32)) dL_law_527 (by decide) ?_
        refine wp_iadd dL_law_528 ?_
        obtain ⟨hg132, h⟩ := h
        refine wp_sload dL_law_529 hg132 ?_
        refine wp_aload_n 0 dL_law_530 rfl ?_
        refine wp_iload_n 3 dL_law_531 rfl ?_
        refine wp_iconst (v := (2 : Int32)) dL_law_532 (by decide) ?_
        refine wp_iadd dL_law_533 ?_
        obtain ⟨hg133, h⟩ := h
        refine wp_sload dL_law_534 hg133 ?_
        obtain ⟨a135, ha135, h⟩ := h
        obtain ⟨ht136, h⟩ := h
        refine wp_callV (ci := 11) (As := [.int ((hX H).2 (x3 + (1 : Int32)).toNatClampNeg), .int ((hX H).2 (x3 + (2 : Int32)).toNatClampNeg)]) (rest := []) (mc := 0) (ms := 0) (ca' := ca) (sa' := sa) dL_law_535 lk_L_66 rfl rfl (by decide) ha135 rfl rfl ht136 rfl rfl rfl w_4_152 (Call.weaken h ?_)
        rintro H134 _ ⟨r137, rfl, h⟩
        change WP _ _ _ _ _ _ [.long r137] H134 _
        refine wp_aload_n 2 dL_law_538 rfl ?_
        refine wp_aload_n 0 dL_law_539 rfl ?_
        refine wp_iload_n 3 dL_law_540 rfl ?_
        refine wp_iconst (v := (1 : Int32)) dL_law_541 (by decide) ?_
        refine wp_iadd dL_law_542 ?_
        obtain ⟨hg138, h⟩ := h
        refine wp_sload dL_law_543 hg138 ?_
        refine wp_aload_n 0 dL_law_544 rfl ?_
        refine wp_iload_n 3 dL_law_545 rfl ?_
        refine wp_iconst (v := (2 : Int32)) dL_law_546 (by decide) ?_
        refine wp_iadd dL_law_547 ?_
        obtain ⟨hg139, h⟩ := h
        refine wp_sload dL_law_548 hg139 ?_
        obtain ⟨a141, ha141, h⟩ := h
        obtain ⟨ht142, h⟩ := h
        refine wp_callV (ci := 12) (As := [.int ((hX H134).2 (x3 + (1 : Int32)).toNatClampNeg), .int ((hX H134).2 (x3 + (2 : Int32)).toNatClampNeg)]) (rest := [.long r137]) (mc := 0) (ms := 0) (ca' := ca) (sa' := sa) dL_law_549 lk_L_70 rfl rfl (by simp [rv_cat, vc_int, vc_long, vc_float, vc_double]) ha141 rfl rfl ht142 rfl rfl rfl w_7_221 (Call.weaken h ?_)
        rintro H140 _ ⟨r143, rfl, h⟩
        change WP _ _ _ _ _ _ [.long r143, .long r137] H140 _
        refine wp_lcmp dL_law_552 ?_
        refine wp_if_eq (tgt := 1467) dL_law_553 rfl (fun c => ?_) (fun c => ?_)
        · replace h := h.1 (lgc_eq.mp c)
          refine wp_iinc (v := (x3 + 6)) (ls' := [(3, .int (x3 + 6)), (0, rv (some scrA)), (1, rv o1), (2, rv o2)]) 3 dL_law_1467 rfl rfl (by decide) (by simp [st1, rv_cat, vc_int, vc_long, vc_float, vc_double]) ?_
          refine wp_goto (tgt := 18) dL_law_1470 rfl ?_
          refine wp_sub (ls' := [(0, rv (some scrA)), (1, rv o1), (2, rv o2), (3, .int (x3 + 6))]) [1, 2, 3, 0] rfl ?_
          exact h
        · replace h := h.2 (fun z => c (lgc_eq.mpr z))
          refine wp_iconst (v := (0 : Int32)) dL_law_556 (by decide) ?_
          exact wp_ireturn (ty := .boolean) dL_law_557 rfl rfl ⟨false, rfl, h⟩
      · replace h := h.2.2.2.2.2.2.2.2.2.2.2.2.2.1 (Int32.toInt_inj.mp e)
        refine wp_tableIn (tgt := 558) dL_law_33 (by omega) (by omega) (by rw [e]; rfl) rfl ?_
        refine wp_aload_n 1 dL_law_558 rfl ?_
        refine wp_aload_n 0 dL_law_559 rfl ?_
        refine wp_iload_n 3 dL_law_560 rfl ?_
        refine wp_iconst (v := (1 : Int32)) dL_law_561 (by decide) ?_
        refine wp_iadd dL_law_562 ?_
        obtain ⟨hg144, h⟩ := h
        refine wp_sload dL_law_563 hg144 ?_
        refine wp_aload_n 0 dL_law_564 rfl ?_
        refine wp_iload_n 3 dL_law_565 rfl ?_
        refine wp_iconst (v := (2 : Int32)) dL_law_566 (by decide) ?_
        refine wp_iadd dL_law_567 ?_
        obtain ⟨hg145, h⟩ := h
        refine wp_sload dL_law_568 hg145 ?_
        obtain ⟨a147, ha147, h⟩ := h
        obtain ⟨ht148, h⟩ := h
        refine wp_callV (ci := 11) (As := [.int ((hX H).2 (x3 + (1 : Int32)).toNatClampNeg), .int ((hX H).2 (x3 + (2 : Int32)).toNatClampNeg)]) (rest := []) (mc := 0) (ms := 0) (ca' := ca) (sa' := sa) dL_law_569 lk_L_71 rfl rfl (by decide) ha147 rfl rfl ht148 rfl rfl rfl w_4_160 (Call.weaken h ?_)
        rintro H146 _ ⟨r149, rfl, h⟩
        change WP _ _ _ _ _ _ [.int r149] H146 _
        refine wp_aload_n 2 dL_law_572 rfl ?_
        refine wp_aload_n 0 dL_law_573 rfl ?_
        refine wp_iload_n 3 dL_law_574 rfl ?_
        refine wp_iconst (v := (1 : Int32)) dL_law_575 (by decide) ?_
        refine wp_iadd dL_law_576 ?_
        obtain ⟨hg150, h⟩ := h
        refine wp_sload dL_law_577 hg150 ?_
        refine wp_aload_n 0 dL_law_578 rfl ?_
        refine wp_iload_n 3 dL_law_579 rfl ?_
        refine wp_iconst (v := (2 : Int32)) dL_law_580 (by decide) ?_
        refine wp_iadd dL_law_581 ?_
        obtain ⟨hg151, h⟩ := h
        refine wp_sload dL_law_582 hg151 ?_
        obtain ⟨a153, ha153, h⟩ := h
        obtain ⟨ht154, h⟩ := h
        refine wp_callV (ci := 12) (As := [.int ((hX H146).2 (x3 + (1 : Int32)).toNatClampNeg), .int ((hX H146).2 (x3 + (2 : Int32)).toNatClampNeg)]) (rest := [.int r149]) (mc := 0) (ms := 0) (ca' := ca) (sa' := sa) dL_law_583 lk_L_74 rfl rfl (by simp [rv_cat, vc_int, vc_long, vc_float, vc_double]) ha153 rfl rfl ht154 rfl rfl rfl w_7_225 (Call.weaken h ?_)
        rintro H152 _ ⟨r155, rfl, h⟩
        change WP _ _ _ _ _ _ [.int r155, .int r149] H152 _
        refine wp_icmp_eq (tgt := 1467) dL_law_586 rfl (fun c => ?_) (fun c => ?_)
        · replace h := h.1 c
          refine wp_iinc (v := (x3 + 6)) (ls' := [(3, .int (x3 + 6)), (0, rv (some scrA)), (1, rv o1), (2, rv o2)]) 3 dL_law_1467 rfl rfl (by decide) (by simp [st1, rv_cat, vc_int, vc_long, vc_float, vc_double]) ?_
          refine wp_goto (tgt := 18) dL_law_1470 rfl ?_
          refine wp_sub (ls' := [(0, rv (some scrA)), (1, rv o1), (2, rv o2), (3, .int (x3 + 6))]) [1, 2, 3, 0] rfl ?_
          exact h
        · replace h := h.2 c
          refine wp_iconst (v := (0 : Int32)) dL_law_589 (by decide) ?_
          exact wp_ireturn (ty := .boolean) dL_law_590 rfl rfl ⟨false, rfl, h⟩
      · replace h := h.2.2.2.2.2.2.2.2.2.2.2.2.2.2.1 (Int32.toInt_inj.mp e)
        refine wp_tableIn (tgt := 591) dL_law_33 (by omega) (by omega) (by rw [e]; rfl) rfl ?_
        refine wp_aload_n 1 dL_law_591 rfl ?_
        refine wp_aload_n 0 dL_law_592 rfl ?_
        refine wp_iload_n 3 dL_law_593 rfl ?_
        refine wp_iconst (v := (1 : Int32)) dL_law_594 (by decide) ?_
        refine wp_iadd dL_law_595 ?_
        obtain ⟨hg156, h⟩ := h
        refine wp_sload dL_law_596 hg156 ?_
        refine wp_aload_n 0 dL_law_597 rfl ?_
        refine wp_iload_n 3 dL_law_598 rfl ?_
        refine wp_iconst (v := (2 : Int32)) dL_law_599 (by decide) ?_
        refine wp_iadd dL_law_600 ?_
        obtain ⟨hg157, h⟩ := h
        refine wp_sload dL_law_601 hg157 ?_
        refine wp_aload_n 0 dL_law_602 rfl ?_
        refine wp_iload_n 3 dL_law_603 rfl ?_
        refine wp_iconst (v := (3 : Int32)) dL_law_604 (by decide) ?_
        refine wp_iadd dL_law_605 ?_
        obtain ⟨hg158, h⟩ := h
        refine wp_sload dL_law_606 hg158 ?_
        obtain ⟨a160, ha160, h⟩ := h
        obtain ⟨ht161, h⟩ := h
        refine wp_callV (ci := 11) (As := [.int ((hX H).2 (x3 + (1 : Int32)).toNatClampNeg), .int ((hX H).2 (x3 + (2 : Int32)).toNatClampNeg), .int ((hX H).2 (x3 + (3 : Int32)).toNatClampNeg)]) (rest := []) (mc := 0) (ms := 0) (ca' := ca) (sa' := sa) dL_law_607 lk_L_75 rfl rfl (by decide) ha160 rfl rfl ht161 rfl rfl rfl w_4_166 (Call.weaken h ?_)
        rintro H159 _ ⟨r162, rfl, h⟩
        change WP _ _ _ _ _ _ [.long r162] H159 _
        refine wp_aload_n 2 dL_law_610 rfl ?_
        refine wp_aload_n 0 dL_law_611 rfl ?_
        refine wp_iload_n 3 dL_law_612 rfl ?_
        refine wp_iconst (v := (1 : Int32)) dL_law_613 (by decide) ?_
        refine wp_iadd dL_law_614 ?_
        obtain ⟨hg163, h⟩ := h
        refine wp_sload dL_law_615 hg163 ?_
        refine wp_aload_n 0 dL_law_616 rfl ?_
        refine wp_iload_n 3 dL_law_617 rfl ?_
        refine wp_iconst (v := (2 : Int32)) dL_law_618 (by decide) ?_
        refine wp_iadd dL_law_619 ?_
        obtain ⟨hg164, h⟩ := h
        refine wp_sload dL_law_620 hg164 ?_
        refine wp_aload_n 0 dL_law_621 rfl ?_
        refine wp_iload_n 3 dL_law_622 rfl ?_
        refine wp_iconst (v := (3 : Int32)) dL_law_623 (by decide) ?_
        refine wp_iadd dL_law_624 ?_
        obtain ⟨hg165, h⟩ := h
        refine wp_sload dL_law_625 hg165 ?_
        obtain ⟨a167, ha167, h⟩ := h
        obtain ⟨ht168, h⟩ := h
        refine wp_callV (ci := 12) (As := [.int ((hX H159).2 (x3 + (1 : Int32)).toNatClampNeg), .int ((hX H159).2 (x3 + (2 : Int32)).toNatClampNeg), .int ((hX H159).2 (x3 + (3 : Int32)).toNatClampNeg)]) (rest := [.long r162]) (mc := 0) (ms := 0) (ca' := ca) (sa' := sa) dL_law_626 lk_L_78 rfl rfl (by simp [rv_cat, vc_int, vc_long, vc_float, vc_double]) ha167 rfl rfl ht168 rfl rfl rfl w_7_229 (Call.weaken h ?_)
        rintro H166 _ ⟨r169, rfl, h⟩
        change WP _ _ _ _ _ _ [.long r169, .long r162] H166 _
        refine wp_lcmp dL_law_629 ?_
        refine wp_if_eq (tgt := 1467) dL_law_630 rfl (fun c => ?_) (fun c => ?_)
        · replace h := h.1 (lgc_eq.mp c)
          refine wp_iinc (v := (x3 + 6)) (ls' := [(3, .int (x3 + 6)), (0, rv (some scrA)), (1, rv o1), (2, rv o2)]) 3 dL_law_1467 rfl rfl (by decide) (by simp [st1, rv_cat, vc_int, vc_long, vc_float, vc_double]) ?_
          refine wp_goto (tgt := 18) dL_law_1470 rfl ?_
          refine wp_sub (ls' := [(0, rv (some scrA)), (1, rv o1), (2, rv o2), (3, .int (x3 + 6))]) [1, 2, 3, 0] rfl ?_
          exact h
        · replace h := h.2 (fun z => c (lgc_eq.mpr z))
          refine wp_iconst (v := (0 : Int32)) dL_law_633 (by decide) ?_
          exact wp_ireturn (ty := .boolean) dL_law_634 rfl rfl ⟨false, rfl, h⟩
      · replace h := h.2.2.2.2.2.2.2.2.2.2.2.2.2.2.2.1 (Int32.toInt_inj.mp e)
        refine wp_tableIn (tgt := 635) dL_law_33 (by omega) (by omega) (by rw [e]; rfl) rfl ?_
        refine wp_aload_n 1 dL_law_635 rfl ?_
        refine wp_aload_n 0 dL_law_636 rfl ?_
        refine wp_iload_n 3 dL_law_637 rfl ?_
        refine wp_iconst (v := (1 : Int32)) dL_law_638 (by decide) ?_
        refine wp_iadd dL_law_639 ?_
        obtain ⟨hg170, h⟩ := h
        refine wp_sload dL_law_640 hg170 ?_
        refine wp_aload_n 0 dL_law_641 rfl ?_
        refine wp_iload_n 3 dL_law_642 rfl ?_
        refine wp_iconst (v := (2 : Int32)) dL_law_643 (by decide) ?_
        refine wp_iadd dL_law_644 ?_
        obtain ⟨hg171, h⟩ := h
        refine wp_sload dL_law_645 hg171 ?_
        refine wp_aload_n 0 dL_law_646 rfl ?_
        refine wp_iload_n 3 dL_law_647 rfl ?_
        refine wp_iconst (v := (3 : Int32)) dL_law_648 (by decide) ?_
        refine wp_iadd dL_law_649 ?_
        obtain ⟨hg172, h⟩ := h
        refine wp_sload dL_law_650 hg172 ?_
        obtain ⟨a174, ha174, h⟩ := h
        obtain ⟨ht175, h⟩ := h
        refine wp_callV (ci := 11) (As := [.int ((hX H).2 (x3 + (1 : Int32)).toNatClampNeg), .int ((hX H).2 (x3 + (2 : Int32)).toNatClampNeg), .int ((hX H).2 (x3 + (3 : Int32)).toNatClampNeg)]) (rest := []) (mc := 0) (ms := 0) (ca' := ca) (sa' := sa) dL_law_651 lk_L_79 rfl rfl (by decide) ha174 rfl rfl ht175 rfl rfl rfl w_4_183 (Call.weaken h ?_)
        rintro H173 _ ⟨r176, rfl, h⟩
        change WP _ _ _ _ _ _ [.long r176] H173 _
        refine wp_aload_n 2 dL_law_654 rfl ?_
        refine wp_aload_n 0 dL_law_655 rfl ?_
        refine wp_iload_n 3 dL_law_656 rfl ?_
        refine wp_iconst (v := (1 : Int32)) dL_law_657 (by decide) ?_
        refine wp_iadd dL_law_658 ?_
        obtain ⟨hg177, h⟩ := h
        refine wp_sload dL_law_659 hg177 ?_
        refine wp_aload_n 0 dL_law_660 rfl ?_
        refine wp_iload_n 3 dL_law_661 rfl ?_
        refine wp_iconst (v := (2 : Int32)) dL_law_662 (by decide) ?_
        refine wp_iadd dL_law_663 ?_
        obtain ⟨hg178, h⟩ := h
        refine wp_sload dL_law_664 hg178 ?_
        refine wp_aload_n 0 dL_law_665 rfl ?_
        refine wp_iload_n 3 dL_law_666 rfl ?_
        refine wp_iconst (v := (3 : Int32)) dL_law_667 (by decide) ?_
        refine wp_iadd dL_law_668 ?_
        obtain ⟨hg179, h⟩ := h
        refine wp_sload dL_law_669 hg179 ?_
        obtain ⟨a181, ha181, h⟩ := h
        obtain ⟨ht182, h⟩ := h
        refine wp_callV (ci := 12) (As := [.int ((hX H173).2 (x3 + (1 : Int32)).toNatClampNeg), .int ((hX H173).2 (x3 + (2 : Int32)).toNatClampNeg), .int ((hX H173).2 (x3 + (3 : Int32)).toNatClampNeg)]) (rest := [.long r176]) (mc := 0) (ms := 0) (ca' := ca) (sa' := sa) dL_law_670 lk_L_82 rfl rfl (by simp [rv_cat, vc_int, vc_long, vc_float, vc_double]) ha181 rfl rfl ht182 rfl rfl rfl w_8_5 (Call.weaken h ?_)
        rintro H180 _ ⟨r183, rfl, h⟩
        change WP _ _ _ _ _ _ [.long r183, .long r176] H180 _
        refine wp_lcmp dL_law_673 ?_
        refine wp_if_eq (tgt := 1467) dL_law_674 rfl (fun c => ?_) (fun c => ?_)
        · replace h := h.1 (lgc_eq.mp c)
          refine wp_iinc (v := (x3 + 6)) (ls' := [(3, .int (x3 + 6)), (0, rv (some scrA)), (1, rv o1), (2, rv o2)]) 3 dL_law_1467 rfl rfl (by decide) (by simp [st1, rv_cat, vc_int, vc_long, vc_float, vc_double]) ?_
          refine wp_goto (tgt := 18) dL_law_1470 rfl ?_
          refine wp_sub (ls' := [(0, rv (some scrA)), (1, rv o1), (2, rv o2), (3, .int (x3 + 6))]) [1, 2, 3, 0] rfl ?_
          exact h
        · replace h := h.2 (fun z => c (lgc_eq.mpr z))
          refine wp_iconst (v := (0 : Int32)) dL_law_677 (by decide) ?_
          exact wp_ireturn (ty := .boolean) dL_law_678 rfl rfl ⟨false, rfl, h⟩
      · replace h := h.2.2.2.2.2.2.2.2.2.2.2.2.2.2.2.2.1 (Int32.toInt_inj.mp e)
        refine wp_tableIn (tgt := 679) dL_law_33 (by omega) (by omega) (by rw [e]; rfl) rfl ?_
        refine wp_aload_n 1 dL_law_679 rfl ?_
        refine wp_aload_n 0 dL_law_680 rfl ?_
        refine wp_iload_n 3 dL_law_681 rfl ?_
        refine wp_iconst (v := (1 : Int32)) dL_law_682 (by decide) ?_
        refine wp_iadd dL_law_683 ?_
        obtain ⟨hg184, h⟩ := h
        refine wp_sload dL_law_684 hg184 ?_
        refine wp_aload_n 0 dL_law_685 rfl ?_
        refine wp_iload_n 3 dL_law_686 rfl ?_
        refine wp_iconst (v := (2 : Int32)) dL_law_687 (by decide) ?_
        refine wp_iadd dL_law_688 ?_
        obtain ⟨hg185, h⟩ := h
        refine wp_sload dL_law_689 hg185 ?_
        refine wp_aload_n 0 dL_law_690 rfl ?_
        refine wp_iload_n 3 dL_law_691 rfl ?_
        refine wp_iconst (v := (3 : Int32)) dL_law_692 (by decide) ?_
        refine wp_iadd dL_law_693 ?_
        obtain ⟨hg186, h⟩ := h
        refine wp_sload dL_law_694 hg186 ?_
        refine wp_aload_n 0 dL_law_695 rfl ?_
        refine wp_iload_n 3 dL_law_696 rfl ?_
        refine wp_iconst (v := (4 : Int32)) dL_law_697 (by decide) ?_
        refine wp_iadd dL_law_698 ?_
        obtain ⟨hg187, h⟩ := h
        refine wp_sload dL_law_699 hg187 ?_
        refine wp_aload_n 0 dL_law_700 rfl ?_
        refine wp_iload_n 3 dL_law_701 rfl ?_
        refine wp_iconst (v := (5 : Int32)) dL_law_702 (by decide) ?_
        refine wp_iadd dL_law_703 ?_
        obtain ⟨hg188, h⟩ := h
        refine wp_sload dL_law_704 hg188 ?_
        obtain ⟨a190, ha190, h⟩ := h
        obtain ⟨ht191, h⟩ := h
        refine wp_callV (ci := 11) (As := [.int ((hX H).2 (x3 + (1 : Int32)).toNatClampNeg), .int ((hX H).2 (x3 + (2 : Int32)).toNatClampNeg), .int ((hX H).2 (x3 + (3 : Int32)).toNatClampNeg), .int ((hX H).2 (x3 + (4 : Int32)).toNatClampNeg), .int ((hX H).2 (x3 + (5 : Int32)).toNatClampNeg)]) (rest := []) (mc := 0) (ms := 0) (ca' := ca) (sa' := sa) dL_law_705 lk_L_83 rfl rfl (by decide) ha190 rfl rfl ht191 rfl rfl rfl w_4_221 (Call.weaken h ?_)
        rintro H189 _ ⟨r192, rfl, h⟩
        change WP _ _ _ _ _ _ [.long r192] H189 _
        refine wp_aload_n 2 dL_law_708 rfl ?_
        refine wp_aload_n 0 dL_law_709 rfl ?_
        refine wp_iload_n 3 dL_law_710 rfl ?_
        refine wp_iconst (v := (1 : Int32)) dL_law_711 (by decide) ?_
        refine wp_iadd dL_law_712 ?_
        obtain ⟨hg193, h⟩ := h
        refine wp_sload dL_law_713 hg193 ?_
        refine wp_aload_n 0 dL_law_714 rfl ?_
        refine wp_iload_n 3 dL_law_715 rfl ?_
        refine wp_iconst (v := (2 : Int32)) dL_law_716 (by decide) ?_
        refine wp_iadd dL_law_717 ?_
        obtain ⟨hg194, h⟩ := h
        refine wp_sload dL_law_718 hg194 ?_
        refine wp_aload_n 0 dL_law_719 rfl ?_
        refine wp_iload_n 3 dL_law_720 rfl ?_
        refine wp_iconst (v := (3 : Int32)) dL_law_721 (by decide) ?_
        refine wp_iadd dL_law_722 ?_
        obtain ⟨hg195, h⟩ := h
        refine wp_sload dL_law_723 hg195 ?_
        refine wp_aload_n 0 dL_law_724 rfl ?_
        refine wp_iload_n 3 dL_law_725 rfl ?_
        refine wp_iconst (v := (4 : Int32)) dL_law_726 (by decide) ?_
        refine wp_iadd dL_law_727 ?_
        obtain ⟨hg196, h⟩ := h
        refine wp_sload dL_law_728 hg196 ?_
        refine wp_aload_n 0 dL_law_729 rfl ?_
        refine wp_iload_n 3 dL_law_730 rfl ?_
        refine wp_iconst (v := (5 : Int32)) dL_law_731 (by decide) ?_
        refine wp_iadd dL_law_732 ?_
        obtain ⟨hg197, h⟩ := h
        refine wp_sload dL_law_733 hg197 ?_
        obtain ⟨a199, ha199, h⟩ := h
        obtain ⟨ht200, h⟩ := h
        refine wp_callV (ci := 12) (As := [.int ((hX H189).2 (x3 + (1 : Int32)).toNatClampNeg), .int ((hX H189).2 (x3 + (2 : Int32)).toNatClampNeg), .int ((hX H189).2 (x3 + (3 : Int32)).toNatClampNeg), .int ((hX H189).2 (x3 + (4 : Int32)).toNatClampNeg), .int ((hX H189).2 (x3 + (5 : Int32)).toNatClampNeg)]) (rest := [.long r192]) (mc := 0) (ms := 0) (ca' := ca) (sa' := sa) dL_law_734 lk_L_87 rfl rfl (by simp [rv_cat, vc_int, vc_long, vc_float, vc_double]) ha199 rfl rfl ht200 rfl rfl rfl w_8_29 (Call.weaken h ?_)
        rintro H198 _ ⟨r201, rfl, h⟩
        change WP _ _ _ _ _ _ [.long r201, .long r192] H198 _
        refine wp_lcmp dL_law_737 ?_
        refine wp_if_eq (tgt := 1467) dL_law_738 rfl (fun c => ?_) (fun c => ?_)
        · replace h := h.1 (lgc_eq.mp c)
          refine wp_iinc (v := (x3 + 6)) (ls' := [(3, .int (x3 + 6)), (0, rv (some scrA)), (1, rv o1), (2, rv o2)]) 3 dL_law_1467 rfl rfl (by decide) (by simp [st1, rv_cat, vc_int, vc_long, vc_float, vc_double]) ?_
          refine wp_goto (tgt := 18) dL_law_1470 rfl ?_
          refine wp_sub (ls' := [(0, rv (some scrA)), (1, rv o1), (2, rv o2), (3, .int (x3 + 6))]) [1, 2, 3, 0] rfl ?_
          exact h
        · replace h := h.2 (fun z => c (lgc_eq.mpr z))
          refine wp_iconst (v := (0 : Int32)) dL_law_741 (by decide) ?_
          exact wp_ireturn (ty := .boolean) dL_law_742 rfl rfl ⟨false, rfl, h⟩
      · replace h := h.2.2.2.2.2.2.2.2.2.2.2.2.2.2.2.2.2.1 (Int32.toInt_inj.mp e)
        refine wp_tableIn (tgt := 743) dL_law_33 (by omega) (by omega) (by rw [e]; rfl) rfl ?_
        refine wp_aload_n 1 dL_law_743 rfl ?_
        refine wp_aload_n 0 dL_law_744 rfl ?_
        refine wp_iload_n 3 dL_law_745 rfl ?_
        refine wp_iconst (v := (1 : Int32)) dL_law_746 (by decide) ?_
        refine wp_iadd dL_law_747 ?_
        obtain ⟨hg202, h⟩ := h
        refine wp_sload dL_law_748 hg202 ?_
        refine wp_aload_n 0 dL_law_749 rfl ?_
        refine wp_iload_n 3 dL_law_750 rfl ?_
        refine wp_iconst (v := (2 : Int32)) dL_law_751 (by decide) ?_
        refine wp_iadd dL_law_752 ?_
        obtain ⟨hg203, h⟩ := h
        refine wp_sload dL_law_753 hg203 ?_
        refine wp_aload_n 0 dL_law_754 rfl ?_
        refine wp_iload_n 3 dL_law_755 rfl ?_
        refine wp_iconst (v := (3 : Int32)) dL_law_756 (by decide) ?_
        refine wp_iadd dL_law_757 ?_
        obtain ⟨hg204, h⟩ := h
        refine wp_sload dL_law_758 hg204 ?_
        refine wp_aload_n 0 dL_law_759 rfl ?_
        refine wp_iload_n 3 dL_law_760 rfl ?_
        refine wp_iconst (v := (4 : Int32)) dL_law_761 (by decide) ?_
        refine wp_iadd dL_law_762 ?_
        obtain ⟨hg205, h⟩ := h
        refine wp_sload dL_law_763 hg205 ?_
        obtain ⟨a207, ha207, h⟩ := h
        obtain ⟨ht208, h⟩ := h
        refine wp_callV (ci := 11) (As := [.int ((hX H).2 (x3 + (1 : Int32)).toNatClampNeg), .int ((hX H).2 (x3 + (2 : Int32)).toNatClampNeg), .int ((hX H).2 (x3 + (3 : Int32)).toNatClampNeg), .int ((hX H).2 (x3 + (4 : Int32)).toNatClampNeg)]) (rest := []) (mc := 0) (ms := 0) (ca' := ca) (sa' := sa) dL_law_764 lk_L_88 rfl rfl (by decide) ha207 rfl rfl ht208 rfl rfl rfl w_4_237 (Call.weaken h ?_)
        rintro H206 _ ⟨r209, rfl, h⟩
        change WP _ _ _ _ _ _ [.int r209] H206 _
        refine wp_aload_n 2 dL_law_767 rfl ?_
        refine wp_aload_n 0 dL_law_768 rfl ?_
        refine wp_iload_n 3 dL_law_769 rfl ?_
        refine wp_iconst (v := (1 : Int32)) dL_law_770 (by decide) ?_
        refine wp_iadd dL_law_771 ?_
        obtain ⟨hg210, h⟩ := h
        refine wp_sload dL_law_772 hg210 ?_
        refine wp_aload_n 0 dL_law_773 rfl ?_
        refine wp_iload_n 3 dL_law_774 rfl ?_
        refine wp_iconst (v := (2 : Int32)) dL_law_775 (by decide) ?_
        refine wp_iadd dL_law_776 ?_
        obtain ⟨hg211, h⟩ := h
        refine wp_sload dL_law_777 hg211 ?_
        refine wp_aload_n 0 dL_law_778 rfl ?_
        refine wp_iload_n 3 dL_law_779 rfl ?_
        refine wp_iconst (v := (3 : Int32)) dL_law_780 (by decide) ?_
        refine wp_iadd dL_law_781 ?_
        obtain ⟨hg212, h⟩ := h
        refine wp_sload dL_law_782 hg212 ?_
        refine wp_aload_n 0 dL_law_783 rfl ?_
        refine wp_iload_n 3 dL_law_784 rfl ?_
        refine wp_iconst (v := (4 : Int32)) dL_law_785 (by decide) ?_
        refine wp_iadd dL_law_786 ?_
        obtain ⟨hg213, h⟩ := h
        refine wp_sload dL_law_787 hg213 ?_
        obtain ⟨a215, ha215, h⟩ := h
        obtain ⟨ht216, h⟩ := h
        refine wp_callV (ci := 12) (As := [.int ((hX H206).2 (x3 + (1 : Int32)).toNatClampNeg), .int ((hX H206).2 (x3 + (2 : Int32)).toNatClampNeg), .int ((hX H206).2 (x3 + (3 : Int32)).toNatClampNeg), .int ((hX H206).2 (x3 + (4 : Int32)).toNatClampNeg)]) (rest := [.int r209]) (mc := 0) (ms := 0) (ca' := ca) (sa' := sa) dL_law_788 lk_L_92 rfl rfl (by simp [rv_cat, vc_int, vc_long, vc_float, vc_double]) ha215 rfl rfl ht216 rfl rfl rfl w_8_37 (Call.weaken h ?_)
        rintro H214 _ ⟨r217, rfl, h⟩
        change WP _ _ _ _ _ _ [.int r217, .int r209] H214 _
        refine wp_icmp_eq (tgt := 1467) dL_law_791 rfl (fun c => ?_) (fun c => ?_)
        · replace h := h.1 c
          refine wp_iinc (v := (x3 + 6)) (ls' := [(3, .int (x3 + 6)), (0, rv (some scrA)), (1, rv o1), (2, rv o2)]) 3 dL_law_1467 rfl rfl (by decide) (by simp [st1, rv_cat, vc_int, vc_long, vc_float, vc_double]) ?_
          refine wp_goto (tgt := 18) dL_law_1470 rfl ?_
          refine wp_sub (ls' := [(0, rv (some scrA)), (1, rv o1), (2, rv o2), (3, .int (x3 + 6))]) [1, 2, 3, 0] rfl ?_
          exact h
        · replace h := h.2 c
          refine wp_iconst (v := (0 : Int32)) dL_law_794 (by decide) ?_
          exact wp_ireturn (ty := .boolean) dL_law_795 rfl rfl ⟨false, rfl, h⟩
      · replace h := h.2.2.2.2.2.2.2.2.2.2.2.2.2.2.2.2.2.2.1 (Int32.toInt_inj.mp e)
        refine wp_tableIn (tgt := 796) dL_law_33 (by omega) (by omega) (by rw [e]; rfl) rfl ?_
        refine wp_aload_n 1 dL_law_796 rfl ?_
        refine wp_aload_n 0 dL_law_797 rfl ?_
        refine wp_iload_n 3 dL_law_798 rfl ?_
        refine wp_iconst (v := (1 : Int32)) dL_law_799 (by decide) ?_
        refine wp_iadd dL_law_800 ?_
        obtain ⟨hg218, h⟩ := h
        refine wp_sload dL_law_801 hg218 ?_
        obtain ⟨a220, ha220, h⟩ := h
        obtain ⟨ht221, h⟩ := h
        refine wp_callV (ci := 11) (As := [.int ((hX H).2 (x3 + (1 : Int32)).toNatClampNeg)]) (rest := []) (mc := 0) (ms := 0) (ca' := ca) (sa' := sa) dL_law_802 lk_L_93 rfl rfl (by decide) ha220 rfl rfl ht221 rfl rfl rfl w_5_5 (Call.weaken h ?_)
        rintro H219 _ ⟨r222, rfl, h⟩
        change WP _ _ _ _ _ _ [.int r222] H219 _
        refine wp_aload_n 2 dL_law_805 rfl ?_
        refine wp_aload_n 0 dL_law_806 rfl ?_
        refine wp_iload_n 3 dL_law_807 rfl ?_
        refine wp_iconst (v := (1 : Int32)) dL_law_808 (by decide) ?_
        refine wp_iadd dL_law_809 ?_
        obtain ⟨hg223, h⟩ := h
        refine wp_sload dL_law_810 hg223 ?_
        obtain ⟨a225, ha225, h⟩ := h
        obtain ⟨ht226, h⟩ := h
        refine wp_callV (ci := 12) (As := [.int ((hX H219).2 (x3 + (1 : Int32)).toNatClampNeg)]) (rest := [.int r222]) (mc := 0) (ms := 0) (ca' := ca) (sa' := sa) dL_law_811 lk_L_96 rfl rfl (by simp [rv_cat, vc_int, vc_long, vc_float, vc_double]) ha225 rfl rfl ht226 rfl rfl rfl w_8_41 (Call.weaken h ?_)
        rintro H224 _ ⟨r227, rfl, h⟩
        change WP _ _ _ _ _ _ [.int r227, .int r222] H224 _
        refine wp_icmp_eq (tgt := 1467) dL_law_814 rfl (fun c => ?_) (fun c => ?_)
        · replace h := h.1 c
          refine wp_iinc (v := (x3 + 6)) (ls' := [(3, .int (x3 + 6)), (0, rv (some scrA)), (1, rv o1), (2, rv o2)]) 3 dL_law_1467 rfl rfl (by decide) (by simp [st1, rv_cat, vc_int, vc_long, vc_float, vc_double]) ?_
          refine wp_goto (tgt := 18) dL_law_1470 rfl ?_
          refine wp_sub (ls' := [(0, rv (some scrA)), (1, rv o1), (2, rv o2), (3, .int (x3 + 6))]) [1, 2, 3, 0] rfl ?_
          exact h
        · replace h := h.2 c
          refine wp_iconst (v := (0 : Int32)) dL_law_817 (by decide) ?_
          exact wp_ireturn (ty := .boolean) dL_law_818 rfl rfl ⟨false, rfl, h⟩
      · replace h := h.2.2.2.2.2.2.2.2.2.2.2.2.2.2.2.2.2.2.2.1 (Int32.toInt_inj.mp e)
        refine wp_tableIn (tgt := 819) dL_law_33 (by omega) (by omega) (by rw [e]; rfl) rfl ?_
        refine wp_aload_n 1 dL_law_819 rfl ?_
        refine wp_aload_n 0 dL_law_820 rfl ?_
        refine wp_iload_n 3 dL_law_821 rfl ?_
        refine wp_iconst (v := (1 : Int32)) dL_law_822 (by decide) ?_
        refine wp_iadd dL_law_823 ?_
        obtain ⟨hg228, h⟩ := h
        refine wp_sload dL_law_824 hg228 ?_
        refine wp_aload_n 0 dL_law_825 rfl ?_
        refine wp_iload_n 3 dL_law_826 rfl ?_
        refine wp_iconst (v := (2 : Int32)) dL_law_827 (by decide) ?_
        refine wp_iadd dL_law_828 ?_
        obtain ⟨hg229, h⟩ := h
        refine wp_sload dL_law_829 hg229 ?_
        obtain ⟨a231, ha231, h⟩ := h
        obtain ⟨ht232, h⟩ := h
        refine wp_callV (ci := 11) (As := [.int ((hX H).2 (x3 + (1 : Int32)).toNatClampNeg), .int ((hX H).2 (x3 + (2 : Int32)).toNatClampNeg)]) (rest := []) (mc := 0) (ms := 0) (ca' := ca) (sa' := sa) dL_law_830 lk_L_97 rfl rfl (by decide) ha231 rfl rfl ht232 rfl rfl rfl w_5_13 (Call.weaken h ?_)
        rintro H230 _ ⟨r233, rfl, h⟩
        change WP _ _ _ _ _ _ [.int r233] H230 _
        refine wp_aload_n 2 dL_law_833 rfl ?_
        refine wp_aload_n 0 dL_law_834 rfl ?_
        refine wp_iload_n 3 dL_law_835 rfl ?_
        refine wp_iconst (v := (1 : Int32)) dL_law_836 (by decide) ?_
        refine wp_iadd dL_law_837 ?_
        obtain ⟨hg234, h⟩ := h
        refine wp_sload dL_law_838 hg234 ?_
        refine wp_aload_n 0 dL_law_839 rfl ?_
        refine wp_iload_n 3 dL_law_840 rfl ?_
        refine wp_iconst (v := (2 : Int32)) dL_law_841 (by decide) ?_
        refine wp_iadd dL_law_842 ?_
        obtain ⟨hg235, h⟩ := h
        refine wp_sload dL_law_843 hg235 ?_
        obtain ⟨a237, ha237, h⟩ := h
        obtain ⟨ht238, h⟩ := h
        refine wp_callV (ci := 12) (As := [.int ((hX H230).2 (x3 + (1 : Int32)).toNatClampNeg), .int ((hX H230).2 (x3 + (2 : Int32)).toNatClampNeg)]) (rest := [.int r233]) (mc := 0) (ms := 0) (ca' := ca) (sa' := sa) dL_law_844 lk_L_100 rfl rfl (by simp [rv_cat, vc_int, vc_long, vc_float, vc_double]) ha237 rfl rfl ht238 rfl rfl rfl w_8_42 (Call.weaken h ?_)
        rintro H236 _ ⟨r239, rfl, h⟩
        change WP _ _ _ _ _ _ [.int r239, .int r233] H236 _
        refine wp_icmp_eq (tgt := 1467) dL_law_847 rfl (fun c => ?_) (fun c => ?_)
        · replace h := h.1 c
          refine wp_iinc (v := (x3 + 6)) (ls' := [(3, .int (x3 + 6)), (0, rv (some scrA)), (1, rv o1), (2, rv o2)]) 3 dL_law_1467 rfl rfl (by decide) (by simp [st1, rv_cat, vc_int, vc_long, vc_float, vc_double]) ?_
          refine wp_goto (tgt := 18) dL_law_1470 rfl ?_
          refine wp_sub (ls' := [(0, rv (some scrA)), (1, rv o1), (2, rv o2), (3, .int (x3 + 6))]) [1, 2, 3, 0] rfl ?_
          exact h
        · replace h := h.2 c
          refine wp_iconst (v := (0 : Int32)) dL_law_850 (by decide) ?_
          exact wp_ireturn (ty := .boolean) dL_law_851 rfl rfl ⟨false, rfl, h⟩
      · replace h := h.2.2.2.2.2.2.2.2.2.2.2.2.2.2.2.2.2.2.2.2.1 (Int32.toInt_inj.mp e)
        refine wp_tableIn (tgt := 852) dL_law_33 (by omega) (by omega) (by rw [e]; rfl) rfl ?_
        refine wp_aload_n 1 dL_law_852 rfl ?_
        refine wp_aload_n 0 dL_law_853 rfl ?_
        refine wp_iload_n 3 dL_law_854 rfl ?_
        refine wp_iconst (v := (1 : Int32)) dL_law_855 (by decide) ?_
        refine wp_iadd dL_law_856 ?_
        obtain ⟨hg240, h⟩ := h
        refine wp_sload dL_law_857 hg240 ?_
        obtain ⟨a242, ha242, h⟩ := h
        obtain ⟨ht243, h⟩ := h
        refine wp_callV (ci := 11) (As := [.int ((hX H).2 (x3 + (1 : Int32)).toNatClampNeg)]) (rest := []) (mc := 0) (ms := 0) (ca' := ca) (sa' := sa) dL_law_858 lk_L_101 rfl rfl (by decide) ha242 rfl rfl ht243 rfl rfl rfl w_5_21 (Call.weaken h ?_)
        rintro H241 _ ⟨r244, rfl, h⟩
        change WP _ _ _ _ _ _ [.int r244] H241 _
        refine wp_aload_n 2 dL_law_861 rfl ?_
        refine wp_aload_n 0 dL_law_862 rfl ?_
        refine wp_iload_n 3 dL_law_863 rfl ?_
        refine wp_iconst (v := (1 : Int32)) dL_law_864 (by decide) ?_
        refine wp_iadd dL_law_865 ?_
        obtain ⟨hg245, h⟩ := h
        refine wp_sload dL_law_866 hg245 ?_
        obtain ⟨a247, ha247, h⟩ := h
        obtain ⟨ht248, h⟩ := h
        refine wp_callV (ci := 12) (As := [.int ((hX H241).2 (x3 + (1 : Int32)).toNatClampNeg)]) (rest := [.int r244]) (mc := 0) (ms := 0) (ca' := ca) (sa' := sa) dL_law_867 lk_L_104 rfl rfl (by simp [rv_cat, vc_int, vc_long, vc_float, vc_double]) ha247 rfl rfl ht248 rfl rfl rfl w_8_63 (Call.weaken h ?_)
        rintro H246 _ ⟨r249, rfl, h⟩
        change WP _ _ _ _ _ _ [.int r249, .int r244] H246 _
        refine wp_icmp_eq (tgt := 1467) dL_law_870 rfl (fun c => ?_) (fun c => ?_)
        · replace h := h.1 c
          refine wp_iinc (v := (x3 + 6)) (ls' := [(3, .int (x3 + 6)), (0, rv (some scrA)), (1, rv o1), (2, rv o2)]) 3 dL_law_1467 rfl rfl (by decide) (by simp [st1, rv_cat, vc_int, vc_long, vc_float, vc_double]) ?_
          refine wp_goto (tgt := 18) dL_law_1470 rfl ?_
          refine wp_sub (ls' := [(0, rv (some scrA)), (1, rv o1), (2, rv o2), (3, .int (x3 + 6))]) [1, 2, 3, 0] rfl ?_
          exact h
        · replace h := h.2 c
          refine wp_iconst (v := (0 : Int32)) dL_law_873 (by decide) ?_
          exact wp_ireturn (ty := .boolean) dL_law_874 rfl rfl ⟨false, rfl, h⟩
      · replace h := h.2.2.2.2.2.2.2.2.2.2.2.2.2.2.2.2.2.2.2.2.2.1 (Int32.toInt_inj.mp e)
        refine wp_tableIn (tgt := 875) dL_law_33 (by omega) (by omega) (by rw [e]; rfl) rfl ?_
        refine wp_aload_n 1 dL_law_875 rfl ?_
        refine wp_aload_n 0 dL_law_876 rfl ?_
        refine wp_iload_n 3 dL_law_877 rfl ?_
        refine wp_iconst (v := (1 : Int32)) dL_law_878 (by decide) ?_
        refine wp_iadd dL_law_879 ?_
        obtain ⟨hg250, h⟩ := h
        refine wp_sload dL_law_880 hg250 ?_
        refine wp_aload_n 0 dL_law_881 rfl ?_
        refine wp_iload_n 3 dL_law_882 rfl ?_
        refine wp_iconst (v := (2 : Int32)) dL_law_883 (by decide) ?_
        refine wp_iadd dL_law_884 ?_
        obtain ⟨hg251, h⟩ := h
        refine wp_sload dL_law_885 hg251 ?_
        refine wp_aload_n 0 dL_law_886 rfl ?_
        refine wp_iload_n 3 dL_law_887 rfl ?_
        refine wp_iconst (v := (3 : Int32)) dL_law_888 (by decide) ?_
        refine wp_iadd dL_law_889 ?_
        obtain ⟨hg252, h⟩ := h
        refine wp_sload dL_law_890 hg252 ?_
        obtain ⟨a254, ha254, h⟩ := h
        obtain ⟨ht255, h⟩ := h
        refine wp_callV (ci := 11) (As := [.int ((hX H).2 (x3 + (1 : Int32)).toNatClampNeg), .int ((hX H).2 (x3 + (2 : Int32)).toNatClampNeg), .int ((hX H).2 (x3 + (3 : Int32)).toNatClampNeg)]) (rest := []) (mc := 0) (ms := 0) (ca' := ca) (sa' := sa) dL_law_891 lk_L_105 rfl rfl (by decide) ha254 rfl rfl ht255 rfl rfl rfl w_5_41 (Call.weaken h ?_)
        rintro H253 _ ⟨r256, rfl, h⟩
        change WP _ _ _ _ _ _ [.long r256] H253 _
        refine wp_aload_n 2 dL_law_894 rfl ?_
        refine wp_aload_n 0 dL_law_895 rfl ?_
        refine wp_iload_n 3 dL_law_896 rfl ?_
        refine wp_iconst (v := (1 : Int32)) dL_law_897 (by decide) ?_
        refine wp_iadd dL_law_898 ?_
        obtain ⟨hg257, h⟩ := h
        refine wp_sload dL_law_899 hg257 ?_
        refine wp_aload_n 0 dL_law_900 rfl ?_
        refine wp_iload_n 3 dL_law_901 rfl ?_
        refine wp_iconst (v := (2 : Int32)) dL_law_902 (by decide) ?_
        refine wp_iadd dL_law_903 ?_
        obtain ⟨hg258, h⟩ := h
        refine wp_sload dL_law_904 hg258 ?_
        refine wp_aload_n 0 dL_law_905 rfl ?_
        refine wp_iload_n 3 dL_law_906 rfl ?_
        refine wp_iconst (v := (3 : Int32)) dL_law_907 (by decide) ?_
        refine wp_iadd dL_law_908 ?_
        obtain ⟨hg259, h⟩ := h
        refine wp_sload dL_law_909 hg259 ?_
        obtain ⟨a261, ha261, h⟩ := h
        obtain ⟨ht262, h⟩ := h
        refine wp_callV (ci := 12) (As := [.int ((hX H253).2 (x3 + (1 : Int32)).toNatClampNeg), .int ((hX H253).2 (x3 + (2 : Int32)).toNatClampNeg), .int ((hX H253).2 (x3 + (3 : Int32)).toNatClampNeg)]) (rest := [.long r256]) (mc := 0) (ms := 0) (ca' := ca) (sa' := sa) dL_law_910 lk_L_108 rfl rfl (by simp [rv_cat, vc_int, vc_long, vc_float, vc_double]) ha261 rfl rfl ht262 rfl rfl rfl w_8_76 (Call.weaken h ?_)
        rintro H260 _ ⟨r263, rfl, h⟩
        change WP _ _ _ _ _ _ [.long r263, .long r256] H260 _
        refine wp_lcmp dL_law_913 ?_
        refine wp_if_eq (tgt := 1467) dL_law_914 rfl (fun c => ?_) (fun c => ?_)
        · replace h := h.1 (lgc_eq.mp c)
          refine wp_iinc (v := (x3 + 6)) (ls' := [(3, .int (x3 + 6)), (0, rv (some scrA)), (1, rv o1), (2, rv o2)]) 3 dL_law_1467 rfl rfl (by decide) (by simp [st1, rv_cat, vc_int, vc_long, vc_float, vc_double]) ?_
          refine wp_goto (tgt := 18) dL_law_1470 rfl ?_
          refine wp_sub (ls' := [(0, rv (some scrA)), (1, rv o1), (2, rv o2), (3, .int (x3 + 6))]) [1, 2, 3, 0] rfl ?_
          exact h
        · replace h := h.2 (fun z => c (lgc_eq.mpr z))
          refine wp_iconst (v := (0 : Int32)) dL_law_917 (by decide) ?_
          exact wp_ireturn (ty := .boolean) dL_law_918 rfl rfl ⟨false, rfl, h⟩
      · replace h := h.2.2.2.2.2.2.2.2.2.2.2.2.2.2.2.2.2.2.2.2.2.2.1 (Int32.toInt_inj.mp e)
        refine wp_tableIn (tgt := 919) dL_law_33 (by omega) (by omega) (by rw [e]; rfl) rfl ?_
        refine wp_aload_n 1 dL_law_919 rfl ?_
        refine wp_aload_n 0 dL_law_920 rfl ?_
        refine wp_iload_n 3 dL_law_921 rfl ?_
        refine wp_iconst (v := (1 : Int32)) dL_law_922 (by decide) ?_
        refine wp_iadd dL_law_923 ?_
        obtain ⟨hg264, h⟩ := h
        refine wp_sload dL_law_924 hg264 ?_
        refine wp_aload_n 0 dL_law_925 rfl ?_
        refine wp_iload_n 3 dL_law_926 rfl ?_
        refine wp_iconst (v := (2 : Int32)) dL_law_927 (by decide) ?_
        refine wp_iadd dL_law_928 ?_
        obtain ⟨hg265, h⟩ := h
        refine wp_sload dL_law_929 hg265 ?_
        refine wp_aload_n 0 dL_law_930 rfl ?_
        refine wp_iload_n 3 dL_law_931 rfl ?_
        refine wp_iconst (v := (3 : Int32)) dL_law_932 (by decide) ?_
        refine wp_iadd dL_law_933 ?_
        obtain ⟨hg266, h⟩ := h
        refine wp_sload dL_law_934 hg266 ?_
        obtain ⟨a268, ha268, h⟩ := h
        obtain ⟨ht269, h⟩ := h
        refine wp_callV (ci := 11) (As := [.int ((hX H).2 (x3 + (1 : Int32)).toNatClampNeg), .int ((hX H).2 (x3 + (2 : Int32)).toNatClampNeg), .int ((hX H).2 (x3 + (3 : Int32)).toNatClampNeg)]) (rest := []) (mc := 0) (ms := 0) (ca' := ca) (sa' := sa) dL_law_935 lk_L_109 rfl rfl (by decide) ha268 rfl rfl ht269 rfl rfl rfl w_5_46 (Call.weaken h ?_)
        rintro H267 _ ⟨r270, rfl, h⟩
        change WP _ _ _ _ _ _ [.int r270] H267 _
        refine wp_aload_n 2 dL_law_938 rfl ?_
        refine wp_aload_n 0 dL_law_939 rfl ?_
        refine wp_iload_n 3 dL_law_940 rfl ?_
        refine wp_iconst (v := (1 : Int32)) dL_law_941 (by decide) ?_
        refine wp_iadd dL_law_942 ?_
        obtain ⟨hg271, h⟩ := h
        refine wp_sload dL_law_943 hg271 ?_
        refine wp_aload_n 0 dL_law_944 rfl ?_
        refine wp_iload_n 3 dL_law_945 rfl ?_
        refine wp_iconst (v := (2 : Int32)) dL_law_946 (by decide) ?_
        refine wp_iadd dL_law_947 ?_
        obtain ⟨hg272, h⟩ := h
        refine wp_sload dL_law_948 hg272 ?_
        refine wp_aload_n 0 dL_law_949 rfl ?_
        refine wp_iload_n 3 dL_law_950 rfl ?_
        refine wp_iconst (v := (3 : Int32)) dL_law_951 (by decide) ?_
        refine wp_iadd dL_law_952 ?_
        obtain ⟨hg273, h⟩ := h
        refine wp_sload dL_law_953 hg273 ?_
        obtain ⟨a275, ha275, h⟩ := h
        obtain ⟨ht276, h⟩ := h
        refine wp_callV (ci := 12) (As := [.int ((hX H267).2 (x3 + (1 : Int32)).toNatClampNeg), .int ((hX H267).2 (x3 + (2 : Int32)).toNatClampNeg), .int ((hX H267).2 (x3 + (3 : Int32)).toNatClampNeg)]) (rest := [.int r270]) (mc := 0) (ms := 0) (ca' := ca) (sa' := sa) dL_law_954 lk_L_112 rfl rfl (by simp [rv_cat, vc_int, vc_long, vc_float, vc_double]) ha275 rfl rfl ht276 rfl rfl rfl w_8_80 (Call.weaken h ?_)
        rintro H274 _ ⟨r277, rfl, h⟩
        change WP _ _ _ _ _ _ [.int r277, .int r270] H274 _
        refine wp_icmp_eq (tgt := 1467) dL_law_957 rfl (fun c => ?_) (fun c => ?_)
        · replace h := h.1 c
          refine wp_iinc (v := (x3 + 6)) (ls' := [(3, .int (x3 + 6)), (0, rv (some scrA)), (1, rv o1), (2, rv o2)]) 3 dL_law_1467 rfl rfl (by decide) (by simp [st1, rv_cat, vc_int, vc_long, vc_float, vc_double]) ?_
          refine wp_goto (tgt := 18) dL_law_1470 rfl ?_
          refine wp_sub (ls' := [(0, rv (some scrA)), (1, rv o1), (2, rv o2), (3, .int (x3 + 6))]) [1, 2, 3, 0] rfl ?_
          exact h
        · replace h := h.2 c
          refine wp_iconst (v := (0 : Int32)) dL_law_960 (by decide) ?_
          exact wp_ireturn (ty := .boolean) dL_law_961 rfl rfl ⟨false, rfl, h⟩
      · replace h := h.2.2.2.2.2.2.2.2.2.2.2.2.2.2.2.2.2.2.2.2.2.2.2.1 (Int32.toInt_inj.mp e)
        refine wp_tableIn (tgt := 962) dL_law_33 (by omega) (by omega) (by rw [e]; rfl) rfl ?_
        refine wp_aload_n 1 dL_law_962 rfl ?_
        refine wp_aload_n 0 dL_law_963 rfl ?_
        refine wp_iload_n 3 dL_law_964 rfl ?_
        refine wp_iconst (v := (1 : Int32)) dL_law_965 (by decide) ?_
        refine wp_iadd dL_law_966 ?_
        obtain ⟨hg278, h⟩ := h
        refine wp_sload dL_law_967 hg278 ?_
        refine wp_aload_n 0 dL_law_968 rfl ?_
        refine wp_iload_n 3 dL_law_969 rfl ?_
        refine wp_iconst (v := (2 : Int32)) dL_law_970 (by decide) ?_
        refine wp_iadd dL_law_971 ?_
        obtain ⟨hg279, h⟩ := h
        refine wp_sload dL_law_972 hg279 ?_
        refine wp_aload_n 0 dL_law_973 rfl ?_
        refine wp_iload_n 3 dL_law_974 rfl ?_
        refine wp_iconst (v := (3 : Int32)) dL_law_975 (by decide) ?_
        refine wp_iadd dL_law_976 ?_
        obtain ⟨hg280, h⟩ := h
        refine wp_sload dL_law_977 hg280 ?_
        obtain ⟨a282, ha282, h⟩ := h
        obtain ⟨ht283, h⟩ := h
        refine wp_callV (ci := 11) (As := [.int ((hX H).2 (x3 + (1 : Int32)).toNatClampNeg), .int ((hX H).2 (x3 + (2 : Int32)).toNatClampNeg), .int ((hX H).2 (x3 + (3 : Int32)).toNatClampNeg)]) (rest := []) (mc := 0) (ms := 0) (ca' := ca) (sa' := sa) dL_law_978 lk_L_113 rfl rfl (by decide) ha282 rfl rfl ht283 rfl rfl rfl w_5_62 (Call.weaken h ?_)
        rintro H281 _ ⟨r284, rfl, h⟩
        change WP _ _ _ _ _ _ [.int r284] H281 _
        refine wp_aload_n 2 dL_law_981 rfl ?_
        refine wp_aload_n 0 dL_law_982 rfl ?_
        refine wp_iload_n 3 dL_law_983 rfl ?_
        refine wp_iconst (v := (1 : Int32)) dL_law_984 (by decide) ?_
        refine wp_iadd dL_law_985 ?_
        obtain ⟨hg285, h⟩ := h
        refine wp_sload dL_law_986 hg285 ?_
        refine wp_aload_n 0 dL_law_987 rfl ?_
        refine wp_iload_n 3 dL_law_988 rfl ?_
        refine wp_iconst (v := (2 : Int32)) dL_law_989 (by decide) ?_
        refine wp_iadd dL_law_990 ?_
        obtain ⟨hg286, h⟩ := h
        refine wp_sload dL_law_991 hg286 ?_
        refine wp_aload_n 0 dL_law_992 rfl ?_
        refine wp_iload_n 3 dL_law_993 rfl ?_
        refine wp_iconst (v := (3 : Int32)) dL_law_994 (by decide) ?_
        refine wp_iadd dL_law_995 ?_
        obtain ⟨hg287, h⟩ := h
        refine wp_sload dL_law_996 hg287 ?_
        obtain ⟨a289, ha289, h⟩ := h
        obtain ⟨ht290, h⟩ := h
        refine wp_callV (ci := 12) (As := [.int ((hX H281).2 (x3 + (1 : Int32)).toNatClampNeg), .int ((hX H281).2 (x3 + (2 : Int32)).toNatClampNeg), .int ((hX H281).2 (x3 + (3 : Int32)).toNatClampNeg)]) (rest := [.int r284]) (mc := 0) (ms := 0) (ca' := ca) (sa' := sa) dL_law_997 lk_L_116 rfl rfl (by simp [rv_cat, vc_int, vc_long, vc_float, vc_double]) ha289 rfl rfl ht290 rfl rfl rfl w_8_88 (Call.weaken h ?_)
        rintro H288 _ ⟨r291, rfl, h⟩
        change WP _ _ _ _ _ _ [.int r291, .int r284] H288 _
        refine wp_icmp_eq (tgt := 1467) dL_law_1000 rfl (fun c => ?_) (fun c => ?_)
        · replace h := h.1 c
          refine wp_iinc (v := (x3 + 6)) (ls' := [(3, .int (x3 + 6)), (0, rv (some scrA)), (1, rv o1), (2, rv o2)]) 3 dL_law_1467 rfl rfl (by decide) (by simp [st1, rv_cat, vc_int, vc_long, vc_float, vc_double]) ?_
          refine wp_goto (tgt := 18) dL_law_1470 rfl ?_
          refine wp_sub (ls' := [(0, rv (some scrA)), (1, rv o1), (2, rv o2), (3, .int (x3 + 6))]) [1, 2, 3, 0] rfl ?_
          exact h
        · replace h := h.2 c
          refine wp_iconst (v := (0 : Int32)) dL_law_1003 (by decide) ?_
          exact wp_ireturn (ty := .boolean) dL_law_1004 rfl rfl ⟨false, rfl, h⟩
      · replace h := h.2.2.2.2.2.2.2.2.2.2.2.2.2.2.2.2.2.2.2.2.2.2.2.2.1 (Int32.toInt_inj.mp e)
        refine wp_tableIn (tgt := 1005) dL_law_33 (by omega) (by omega) (by rw [e]; rfl) rfl ?_
        refine wp_aload_n 1 dL_law_1005 rfl ?_
        refine wp_aload_n 0 dL_law_1006 rfl ?_
        refine wp_iload_n 3 dL_law_1007 rfl ?_
        refine wp_iconst (v := (1 : Int32)) dL_law_1008 (by decide) ?_
        refine wp_iadd dL_law_1009 ?_
        obtain ⟨hg292, h⟩ := h
        refine wp_sload dL_law_1010 hg292 ?_
        refine wp_aload_n 0 dL_law_1011 rfl ?_
        refine wp_iload_n 3 dL_law_1012 rfl ?_
        refine wp_iconst (v := (2 : Int32)) dL_law_1013 (by decide) ?_
        refine wp_iadd dL_law_1014 ?_
        obtain ⟨hg293, h⟩ := h
        refine wp_sload dL_law_1015 hg293 ?_
        refine wp_aload_n 0 dL_law_1016 rfl ?_
        refine wp_iload_n 3 dL_law_1017 rfl ?_
        refine wp_iconst (v := (3 : Int32)) dL_law_1018 (by decide) ?_
        refine wp_iadd dL_law_1019 ?_
        obtain ⟨hg294, h⟩ := h
        refine wp_sload dL_law_1020 hg294 ?_
        refine wp_i2l dL_law_1021 ?_
        refine wp_bipush (v := (32 : Int32)) dL_law_1022 (by decide) ?_
        refine wp_lshl dL_law_1024 ?_
        refine wp_aload_n 0 dL_law_1025 rfl ?_
        refine wp_iload_n 3 dL_law_1026 rfl ?_
        refine wp_iconst (v := (4 : Int32)) dL_law_1027 (by decide) ?_
        refine wp_iadd dL_law_1028 ?_
        obtain ⟨hg295, h⟩ := h
        refine wp_sload dL_law_1029 hg295 ?_
        refine wp_i2l dL_law_1030 ?_
        refine wp_ldc2 dL_law_1031 w_8_181 ?_
        refine wp_land dL_law_1034 ?_
        refine wp_lor dL_law_1035 ?_
        obtain ⟨a297, ha297, h⟩ := h
        obtain ⟨ht298, h⟩ := h
        refine wp_callV (ci := 11) (As := [.int ((hX H).2 (x3 + (1 : Int32)).toNatClampNeg), .int ((hX H).2 (x3 + (2 : Int32)).toNatClampNeg), .long (((((hX H).2 (x3 + (3 : Int32)).toNatClampNeg).toInt64) <<< ((32 : Int32).toInt64 &&& 63)) ||| ((((hX H).2 (x3 + (4 : Int32)).toNatClampNeg).toInt64) &&& (4294967295 : Int64)))]) (rest := []) (mc := 0) (ms := 0) (ca' := ca) (sa' := sa) dL_law_1036 lk_L_119 rfl rfl (by decide) ha297 rfl rfl ht298 rfl rfl rfl w_5_77 (Call.weaken h ?_)
        rintro H296 _ ⟨r299, rfl, h⟩
        change WP _ _ _ _ _ _ [.int r299] H296 _
        refine wp_aload_n 2 dL_law_1039 rfl ?_
        refine wp_aload_n 0 dL_law_1040 rfl ?_
        refine wp_iload_n 3 dL_law_1041 rfl ?_
        refine wp_iconst (v := (1 : Int32)) dL_law_1042 (by decide) ?_
        refine wp_iadd dL_law_1043 ?_
        obtain ⟨hg300, h⟩ := h
        refine wp_sload dL_law_1044 hg300 ?_
        refine wp_aload_n 0 dL_law_1045 rfl ?_
        refine wp_iload_n 3 dL_law_1046 rfl ?_
        refine wp_iconst (v := (2 : Int32)) dL_law_1047 (by decide) ?_
        refine wp_iadd dL_law_1048 ?_
        obtain ⟨hg301, h⟩ := h
        refine wp_sload dL_law_1049 hg301 ?_
        refine wp_aload_n 0 dL_law_1050 rfl ?_
        refine wp_iload_n 3 dL_law_1051 rfl ?_
        refine wp_iconst (v := (3 : Int32)) dL_law_1052 (by decide) ?_
        refine wp_iadd dL_law_1053 ?_
        obtain ⟨hg302, h⟩ := h
        refine wp_sload dL_law_1054 hg302 ?_
        refine wp_i2l dL_law_1055 ?_
        refine wp_bipush (v := (32 : Int32)) dL_law_1056 (by decide) ?_
        refine wp_lshl dL_law_1058 ?_
        refine wp_aload_n 0 dL_law_1059 rfl ?_
        refine wp_iload_n 3 dL_law_1060 rfl ?_
        refine wp_iconst (v := (4 : Int32)) dL_law_1061 (by decide) ?_
        refine wp_iadd dL_law_1062 ?_
        obtain ⟨hg303, h⟩ := h
        refine wp_sload dL_law_1063 hg303 ?_
        refine wp_i2l dL_law_1064 ?_
        refine wp_ldc2 dL_law_1065 w_8_181 ?_
        refine wp_land dL_law_1068 ?_
        refine wp_lor dL_law_1069 ?_
        obtain ⟨a305, ha305, h⟩ := h
        obtain ⟨ht306, h⟩ := h
        refine wp_callV (ci := 12) (As := [.int ((hX H296).2 (x3 + (1 : Int32)).toNatClampNeg), .int ((hX H296).2 (x3 + (2 : Int32)).toNatClampNeg), .long (((((hX H296).2 (x3 + (3 : Int32)).toNatClampNeg).toInt64) <<< ((32 : Int32).toInt64 &&& 63)) ||| ((((hX H296).2 (x3 + (4 : Int32)).toNatClampNeg).toInt64) &&& (4294967295 : Int64)))]) (rest := [.int r299]) (mc := 0) (ms := 0) (ca' := ca) (sa' := sa) dL_law_1070 lk_L_123 rfl rfl (by simp [rv_cat, vc_int, vc_long, vc_float, vc_double]) ha305 rfl rfl ht306 rfl rfl rfl w_8_98 (Call.weaken h ?_)
        rintro H304 _ ⟨r307, rfl, h⟩
        change WP _ _ _ _ _ _ [.int r307, .int r299] H304 _
        refine wp_icmp_eq (tgt := 1467) dL_law_1073 rfl (fun c => ?_) (fun c => ?_)
        · replace h := h.1 c
          refine wp_iinc (v := (x3 + 6)) (ls' := [(3, .int (x3 + 6)), (0, rv (some scrA)), (1, rv o1), (2, rv o2)]) 3 dL_law_1467 rfl rfl (by decide) (by simp [st1, rv_cat, vc_int, vc_long, vc_float, vc_double]) ?_
          refine wp_goto (tgt := 18) dL_law_1470 rfl ?_
          refine wp_sub (ls' := [(0, rv (some scrA)), (1, rv o1), (2, rv o2), (3, .int (x3 + 6))]) [1, 2, 3, 0] rfl ?_
          exact h
        · replace h := h.2 c
          refine wp_iconst (v := (0 : Int32)) dL_law_1076 (by decide) ?_
          exact wp_ireturn (ty := .boolean) dL_law_1077 rfl rfl ⟨false, rfl, h⟩
      · replace h := h.2.2.2.2.2.2.2.2.2.2.2.2.2.2.2.2.2.2.2.2.2.2.2.2.2.1 (Int32.toInt_inj.mp e)
        refine wp_tableIn (tgt := 1078) dL_law_33 (by omega) (by omega) (by rw [e]; rfl) rfl ?_
        refine wp_aload_n 1 dL_law_1078 rfl ?_
        refine wp_aload_n 0 dL_law_1079 rfl ?_
        refine wp_iload_n 3 dL_law_1080 rfl ?_
        refine wp_iconst (v := (1 : Int32)) dL_law_1081 (by decide) ?_
        refine wp_iadd dL_law_1082 ?_
        obtain ⟨hg308, h⟩ := h
        refine wp_sload dL_law_1083 hg308 ?_
        refine wp_aload_n 0 dL_law_1084 rfl ?_
        refine wp_iload_n 3 dL_law_1085 rfl ?_
        refine wp_iconst (v := (2 : Int32)) dL_law_1086 (by decide) ?_
        refine wp_iadd dL_law_1087 ?_
        obtain ⟨hg309, h⟩ := h
        refine wp_sload dL_law_1088 hg309 ?_
        obtain ⟨a311, ha311, h⟩ := h
        obtain ⟨ht312, h⟩ := h
        refine wp_callV (ci := 11) (As := [.int ((hX H).2 (x3 + (1 : Int32)).toNatClampNeg), .int ((hX H).2 (x3 + (2 : Int32)).toNatClampNeg)]) (rest := []) (mc := 0) (ms := 0) (ca' := ca) (sa' := sa) dL_law_1089 lk_L_124 rfl rfl (by decide) ha311 rfl rfl ht312 rfl rfl rfl w_5_109 (Call.weaken h ?_)
        rintro H310 _ ⟨r313, rfl, h⟩
        change WP _ _ _ _ _ _ [.long r313] H310 _
        refine wp_aload_n 2 dL_law_1092 rfl ?_
        refine wp_aload_n 0 dL_law_1093 rfl ?_
        refine wp_iload_n 3 dL_law_1094 rfl ?_
        refine wp_iconst (v := (1 : Int32)) dL_law_1095 (by decide) ?_
        refine wp_iadd dL_law_1096 ?_
        obtain ⟨hg314, h⟩ := h
        refine wp_sload dL_law_1097 hg314 ?_
        refine wp_aload_n 0 dL_law_1098 rfl ?_
        refine wp_iload_n 3 dL_law_1099 rfl ?_
        refine wp_iconst (v := (2 : Int32)) dL_law_1100 (by decide) ?_
        refine wp_iadd dL_law_1101 ?_
        obtain ⟨hg315, h⟩ := h
        refine wp_sload dL_law_1102 hg315 ?_
        obtain ⟨a317, ha317, h⟩ := h
        obtain ⟨ht318, h⟩ := h
        refine wp_callV (ci := 12) (As := [.int ((hX H310).2 (x3 + (1 : Int32)).toNatClampNeg), .int ((hX H310).2 (x3 + (2 : Int32)).toNatClampNeg)]) (rest := [.long r313]) (mc := 0) (ms := 0) (ca' := ca) (sa' := sa) dL_law_1103 lk_L_127 rfl rfl (by simp [rv_cat, vc_int, vc_long, vc_float, vc_double]) ha317 rfl rfl ht318 rfl rfl rfl w_8_108 (Call.weaken h ?_)
        rintro H316 _ ⟨r319, rfl, h⟩
        change WP _ _ _ _ _ _ [.long r319, .long r313] H316 _
        refine wp_lcmp dL_law_1106 ?_
        refine wp_if_eq (tgt := 1467) dL_law_1107 rfl (fun c => ?_) (fun c => ?_)
        · replace h := h.1 (lgc_eq.mp c)
          refine wp_iinc (v := (x3 + 6)) (ls' := [(3, .int (x3 + 6)), (0, rv (some scrA)), (1, rv o1), (2, rv o2)]) 3 dL_law_1467 rfl rfl (by decide) (by simp [st1, rv_cat, vc_int, vc_long, vc_float, vc_double]) ?_
          refine wp_goto (tgt := 18) dL_law_1470 rfl ?_
          refine wp_sub (ls' := [(0, rv (some scrA)), (1, rv o1), (2, rv o2), (3, .int (x3 + 6))]) [1, 2, 3, 0] rfl ?_
          exact h
        · replace h := h.2 (fun z => c (lgc_eq.mpr z))
          refine wp_iconst (v := (0 : Int32)) dL_law_1110 (by decide) ?_
          exact wp_ireturn (ty := .boolean) dL_law_1111 rfl rfl ⟨false, rfl, h⟩
      · replace h := h.2.2.2.2.2.2.2.2.2.2.2.2.2.2.2.2.2.2.2.2.2.2.2.2.2.2.1 (Int32.toInt_inj.mp e)
        refine wp_tableIn (tgt := 1112) dL_law_33 (by omega) (by omega) (by rw [e]; rfl) rfl ?_
        refine wp_aload_n 1 dL_law_1112 rfl ?_
        refine wp_aload_n 0 dL_law_1113 rfl ?_
        refine wp_iload_n 3 dL_law_1114 rfl ?_
        refine wp_iconst (v := (1 : Int32)) dL_law_1115 (by decide) ?_
        refine wp_iadd dL_law_1116 ?_
        obtain ⟨hg320, h⟩ := h
        refine wp_sload dL_law_1117 hg320 ?_
        refine wp_aload_n 0 dL_law_1118 rfl ?_
        refine wp_iload_n 3 dL_law_1119 rfl ?_
        refine wp_iconst (v := (2 : Int32)) dL_law_1120 (by decide) ?_
        refine wp_iadd dL_law_1121 ?_
        obtain ⟨hg321, h⟩ := h
        refine wp_sload dL_law_1122 hg321 ?_
        refine wp_aload_n 0 dL_law_1123 rfl ?_
        refine wp_iload_n 3 dL_law_1124 rfl ?_
        refine wp_iconst (v := (3 : Int32)) dL_law_1125 (by decide) ?_
        refine wp_iadd dL_law_1126 ?_
        obtain ⟨hg322, h⟩ := h
        refine wp_sload dL_law_1127 hg322 ?_
        obtain ⟨a324, ha324, h⟩ := h
        obtain ⟨ht325, h⟩ := h
        refine wp_callV (ci := 11) (As := [.int ((hX H).2 (x3 + (1 : Int32)).toNatClampNeg), .int ((hX H).2 (x3 + (2 : Int32)).toNatClampNeg), .int ((hX H).2 (x3 + (3 : Int32)).toNatClampNeg)]) (rest := []) (mc := 0) (ms := 0) (ca' := ca) (sa' := sa) dL_law_1128 lk_L_128 rfl rfl (by decide) ha324 rfl rfl ht325 rfl rfl rfl w_5_121 (Call.weaken h ?_)
        rintro H323 _ ⟨r326, rfl, h⟩
        change WP _ _ _ _ _ _ [.int r326] H323 _
        refine wp_aload_n 2 dL_law_1131 rfl ?_
        refine wp_aload_n 0 dL_law_1132 rfl ?_
        refine wp_iload_n 3 dL_law_1133 rfl ?_
        refine wp_iconst (v := (1 : Int32)) dL_law_1134 (by decide) ?_
        refine wp_iadd dL_law_1135 ?_
        obtain ⟨hg327, h⟩ := h
        refine wp_sload dL_law_1136 hg327 ?_
        refine wp_aload_n 0 dL_law_1137 rfl ?_
        refine wp_iload_n 3 dL_law_1138 rfl ?_
        refine wp_iconst (v := (2 : Int32)) dL_law_1139 (by decide) ?_
        refine wp_iadd dL_law_1140 ?_
        obtain ⟨hg328, h⟩ := h
        refine wp_sload dL_law_1141 hg328 ?_
        refine wp_aload_n 0 dL_law_1142 rfl ?_
        refine wp_iload_n 3 dL_law_1143 rfl ?_
        refine wp_iconst (v := (3 : Int32)) dL_law_1144 (by decide) ?_
        refine wp_iadd dL_law_1145 ?_
        obtain ⟨hg329, h⟩ := h
        refine wp_sload dL_law_1146 hg329 ?_
        obtain ⟨a331, ha331, h⟩ := h
        obtain ⟨ht332, h⟩ := h
        refine wp_callV (ci := 12) (As := [.int ((hX H323).2 (x3 + (1 : Int32)).toNatClampNeg), .int ((hX H323).2 (x3 + (2 : Int32)).toNatClampNeg), .int ((hX H323).2 (x3 + (3 : Int32)).toNatClampNeg)]) (rest := [.int r326]) (mc := 0) (ms := 0) (ca' := ca) (sa' := sa) dL_law_1147 lk_L_131 rfl rfl (by simp [rv_cat, vc_int, vc_long, vc_float, vc_double]) ha331 rfl rfl ht332 rfl rfl rfl w_8_112 (Call.weaken h ?_)
        rintro H330 _ ⟨r333, rfl, h⟩
        change WP _ _ _ _ _ _ [.int r333, .int r326] H330 _
        refine wp_icmp_eq (tgt := 1467) dL_law_1150 rfl (fun c => ?_) (fun c => ?_)
        · replace h := h.1 c
          refine wp_iinc (v := (x3 + 6)) (ls' := [(3, .int (x3 + 6)), (0, rv (some scrA)), (1, rv o1), (2, rv o2)]) 3 dL_law_1467 rfl rfl (by decide) (by simp [st1, rv_cat, vc_int, vc_long, vc_float, vc_double]) ?_
          refine wp_goto (tgt := 18) dL_law_1470 rfl ?_
          refine wp_sub (ls' := [(0, rv (some scrA)), (1, rv o1), (2, rv o2), (3, .int (x3 + 6))]) [1, 2, 3, 0] rfl ?_
          exact h
        · replace h := h.2 c
          refine wp_iconst (v := (0 : Int32)) dL_law_1153 (by decide) ?_
          exact wp_ireturn (ty := .boolean) dL_law_1154 rfl rfl ⟨false, rfl, h⟩
      · replace h := h.2.2.2.2.2.2.2.2.2.2.2.2.2.2.2.2.2.2.2.2.2.2.2.2.2.2.2.1 (Int32.toInt_inj.mp e)
        refine wp_tableIn (tgt := 1155) dL_law_33 (by omega) (by omega) (by rw [e]; rfl) rfl ?_
        refine wp_aload_n 1 dL_law_1155 rfl ?_
        refine wp_aload_n 0 dL_law_1156 rfl ?_
        refine wp_iload_n 3 dL_law_1157 rfl ?_
        refine wp_iconst (v := (1 : Int32)) dL_law_1158 (by decide) ?_
        refine wp_iadd dL_law_1159 ?_
        obtain ⟨hg334, h⟩ := h
        refine wp_sload dL_law_1160 hg334 ?_
        obtain ⟨a336, ha336, h⟩ := h
        obtain ⟨ht337, h⟩ := h
        refine wp_callV (ci := 11) (As := [.int ((hX H).2 (x3 + (1 : Int32)).toNatClampNeg)]) (rest := []) (mc := 0) (ms := 0) (ca' := ca) (sa' := sa) dL_law_1161 lk_L_132 rfl rfl (by decide) ha336 rfl rfl ht337 rfl rfl rfl w_5_135 (Call.weaken h ?_)
        rintro H335 _ ⟨r338, rfl, h⟩
        change WP _ _ _ _ _ _ [.long r338] H335 _
        refine wp_aload_n 2 dL_law_1164 rfl ?_
        refine wp_aload_n 0 dL_law_1165 rfl ?_
        refine wp_iload_n 3 dL_law_1166 rfl ?_
        refine wp_iconst (v := (1 : Int32)) dL_law_1167 (by decide) ?_
        refine wp_iadd dL_law_1168 ?_
        obtain ⟨hg339, h⟩ := h
        refine wp_sload dL_law_1169 hg339 ?_
        obtain ⟨a341, ha341, h⟩ := h
        obtain ⟨ht342, h⟩ := h
        refine wp_callV (ci := 12) (As := [.int ((hX H335).2 (x3 + (1 : Int32)).toNatClampNeg)]) (rest := [.long r338]) (mc := 0) (ms := 0) (ca' := ca) (sa' := sa) dL_law_1170 lk_L_136 rfl rfl (by simp [rv_cat, vc_int, vc_long, vc_float, vc_double]) ha341 rfl rfl ht342 rfl rfl rfl w_8_124 (Call.weaken h ?_)
        rintro H340 _ ⟨r343, rfl, h⟩
        change WP _ _ _ _ _ _ [.long r343, .long r338] H340 _
        refine wp_lcmp dL_law_1173 ?_
        refine wp_if_eq (tgt := 1467) dL_law_1174 rfl (fun c => ?_) (fun c => ?_)
        · replace h := h.1 (lgc_eq.mp c)
          refine wp_iinc (v := (x3 + 6)) (ls' := [(3, .int (x3 + 6)), (0, rv (some scrA)), (1, rv o1), (2, rv o2)]) 3 dL_law_1467 rfl rfl (by decide) (by simp [st1, rv_cat, vc_int, vc_long, vc_float, vc_double]) ?_
          refine wp_goto (tgt := 18) dL_law_1470 rfl ?_
          refine wp_sub (ls' := [(0, rv (some scrA)), (1, rv o1), (2, rv o2), (3, .int (x3 + 6))]) [1, 2, 3, 0] rfl ?_
          exact h
        · replace h := h.2 (fun z => c (lgc_eq.mpr z))
          refine wp_iconst (v := (0 : Int32)) dL_law_1177 (by decide) ?_
          exact wp_ireturn (ty := .boolean) dL_law_1178 rfl rfl ⟨false, rfl, h⟩
      · replace h := h.2.2.2.2.2.2.2.2.2.2.2.2.2.2.2.2.2.2.2.2.2.2.2.2.2.2.2.2.1 (Int32.toInt_inj.mp e)
        refine wp_tableIn (tgt := 1179) dL_law_33 (by omega) (by omega) (by rw [e]; rfl) rfl ?_
        refine wp_aload_n 1 dL_law_1179 rfl ?_
        refine wp_aload_n 0 dL_law_1180 rfl ?_
        refine wp_iload_n 3 dL_law_1181 rfl ?_
        refine wp_iconst (v := (1 : Int32)) dL_law_1182 (by decide) ?_
        refine wp_iadd dL_law_1183 ?_
        obtain ⟨hg344, h⟩ := h
        refine wp_sload dL_law_1184 hg344 ?_
        refine wp_aload_n 0 dL_law_1185 rfl ?_
        refine wp_iload_n 3 dL_law_1186 rfl ?_
        refine wp_iconst (v := (2 : Int32)) dL_law_1187 (by decide) ?_
        refine wp_iadd dL_law_1188 ?_
        obtain ⟨hg345, h⟩ := h
        refine wp_sload dL_law_1189 hg345 ?_
        refine wp_aload_n 0 dL_law_1190 rfl ?_
        refine wp_iload_n 3 dL_law_1191 rfl ?_
        refine wp_iconst (v := (3 : Int32)) dL_law_1192 (by decide) ?_
        refine wp_iadd dL_law_1193 ?_
        obtain ⟨hg346, h⟩ := h
        refine wp_sload dL_law_1194 hg346 ?_
        obtain ⟨a348, ha348, h⟩ := h
        obtain ⟨ht349, h⟩ := h
        refine wp_callV (ci := 11) (As := [.int ((hX H).2 (x3 + (1 : Int32)).toNatClampNeg), .int ((hX H).2 (x3 + (2 : Int32)).toNatClampNeg), .int ((hX H).2 (x3 + (3 : Int32)).toNatClampNeg)]) (rest := []) (mc := 0) (ms := 0) (ca' := ca) (sa' := sa) dL_law_1195 lk_L_137 rfl rfl (by decide) ha348 rfl rfl ht349 rfl rfl rfl w_5_148 (Call.weaken h ?_)
        rintro H347 _ ⟨r350, rfl, h⟩
        change WP _ _ _ _ _ _ [.long r350] H347 _
        refine wp_aload_n 2 dL_law_1198 rfl ?_
        refine wp_aload_n 0 dL_law_1199 rfl ?_
        refine wp_iload_n 3 dL_law_1200 rfl ?_
        refine wp_iconst (v := (1 : Int32)) dL_law_1201 (by decide) ?_
        refine wp_iadd dL_law_1202 ?_
        obtain ⟨hg351, h⟩ := h
        refine wp_sload dL_law_1203 hg351 ?_
        refine wp_aload_n 0 dL_law_1204 rfl ?_
        refine wp_iload_n 3 dL_law_1205 rfl ?_
        refine wp_iconst (v := (2 : Int32)) dL_law_1206 (by decide) ?_
        refine wp_iadd dL_law_1207 ?_
        obtain ⟨hg352, h⟩ := h
        refine wp_sload dL_law_1208 hg352 ?_
        refine wp_aload_n 0 dL_law_1209 rfl ?_
        refine wp_iload_n 3 dL_law_1210 rfl ?_
        refine wp_iconst (v := (3 : Int32)) dL_law_1211 (by decide) ?_
        refine wp_iadd dL_law_1212 ?_
        obtain ⟨hg353, h⟩ := h
        refine wp_sload dL_law_1213 hg353 ?_
        obtain ⟨a355, ha355, h⟩ := h
        obtain ⟨ht356, h⟩ := h
        refine wp_callV (ci := 12) (As := [.int ((hX H347).2 (x3 + (1 : Int32)).toNatClampNeg), .int ((hX H347).2 (x3 + (2 : Int32)).toNatClampNeg), .int ((hX H347).2 (x3 + (3 : Int32)).toNatClampNeg)]) (rest := [.long r350]) (mc := 0) (ms := 0) (ca' := ca) (sa' := sa) dL_law_1214 lk_L_140 rfl rfl (by simp [rv_cat, vc_int, vc_long, vc_float, vc_double]) ha355 rfl rfl ht356 rfl rfl rfl w_8_128 (Call.weaken h ?_)
        rintro H354 _ ⟨r357, rfl, h⟩
        change WP _ _ _ _ _ _ [.long r357, .long r350] H354 _
        refine wp_lcmp dL_law_1217 ?_
        refine wp_if_eq (tgt := 1467) dL_law_1218 rfl (fun c => ?_) (fun c => ?_)
        · replace h := h.1 (lgc_eq.mp c)
          refine wp_iinc (v := (x3 + 6)) (ls' := [(3, .int (x3 + 6)), (0, rv (some scrA)), (1, rv o1), (2, rv o2)]) 3 dL_law_1467 rfl rfl (by decide) (by simp [st1, rv_cat, vc_int, vc_long, vc_float, vc_double]) ?_
          refine wp_goto (tgt := 18) dL_law_1470 rfl ?_
          refine wp_sub (ls' := [(0, rv (some scrA)), (1, rv o1), (2, rv o2), (3, .int (x3 + 6))]) [1, 2, 3, 0] rfl ?_
          exact h
        · replace h := h.2 (fun z => c (lgc_eq.mpr z))
          refine wp_iconst (v := (0 : Int32)) dL_law_1221 (by decide) ?_
          exact wp_ireturn (ty := .boolean) dL_law_1222 rfl rfl ⟨false, rfl, h⟩
      · replace h := h.2.2.2.2.2.2.2.2.2.2.2.2.2.2.2.2.2.2.2.2.2.2.2.2.2.2.2.2.2.1 (Int32.toInt_inj.mp e)
        refine wp_tableIn (tgt := 1223) dL_law_33 (by omega) (by omega) (by rw [e]; rfl) rfl ?_
        refine wp_aload_n 1 dL_law_1223 rfl ?_
        refine wp_aload_n 0 dL_law_1224 rfl ?_
        refine wp_iload_n 3 dL_law_1225 rfl ?_
        refine wp_iconst (v := (1 : Int32)) dL_law_1226 (by decide) ?_
        refine wp_iadd dL_law_1227 ?_
        obtain ⟨hg358, h⟩ := h
        refine wp_sload dL_law_1228 hg358 ?_
        refine wp_aload_n 0 dL_law_1229 rfl ?_
        refine wp_iload_n 3 dL_law_1230 rfl ?_
        refine wp_iconst (v := (2 : Int32)) dL_law_1231 (by decide) ?_
        refine wp_iadd dL_law_1232 ?_
        obtain ⟨hg359, h⟩ := h
        refine wp_sload dL_law_1233 hg359 ?_
        obtain ⟨a361, ha361, h⟩ := h
        obtain ⟨ht362, h⟩ := h
        refine wp_callV (ci := 11) (As := [.int ((hX H).2 (x3 + (1 : Int32)).toNatClampNeg), .int ((hX H).2 (x3 + (2 : Int32)).toNatClampNeg)]) (rest := []) (mc := 0) (ms := 0) (ca' := ca) (sa' := sa) dL_law_1234 lk_L_141 rfl rfl (by decide) ha361 rfl rfl ht362 rfl rfl rfl w_5_156 (Call.weaken h ?_)
        rintro H360 _ ⟨r363, rfl, h⟩
        change WP _ _ _ _ _ _ [.int r363] H360 _
        refine wp_aload_n 2 dL_law_1237 rfl ?_
        refine wp_aload_n 0 dL_law_1238 rfl ?_
        refine wp_iload_n 3 dL_law_1239 rfl ?_
        refine wp_iconst (v := (1 : Int32)) dL_law_1240 (by decide) ?_
        refine wp_iadd dL_law_1241 ?_
        obtain ⟨hg364, h⟩ := h
        refine wp_sload dL_law_1242 hg364 ?_
        refine wp_aload_n 0 dL_law_1243 rfl ?_
        refine wp_iload_n 3 dL_law_1244 rfl ?_
        refine wp_iconst (v := (2 : Int32)) dL_law_1245 (by decide) ?_
        refine wp_iadd dL_law_1246 ?_
        obtain ⟨hg365, h⟩ := h
        refine wp_sload dL_law_1247 hg365 ?_
        obtain ⟨a367, ha367, h⟩ := h
        obtain ⟨ht368, h⟩ := h
        refine wp_callV (ci := 12) (As := [.int ((hX H360).2 (x3 + (1 : Int32)).toNatClampNeg), .int ((hX H360).2 (x3 + (2 : Int32)).toNatClampNeg)]) (rest := [.int r363]) (mc := 0) (ms := 0) (ca' := ca) (sa' := sa) dL_law_1248 lk_L_144 rfl rfl (by simp [rv_cat, vc_int, vc_long, vc_float, vc_double]) ha367 rfl rfl ht368 rfl rfl rfl w_8_132 (Call.weaken h ?_)
        rintro H366 _ ⟨r369, rfl, h⟩
        change WP _ _ _ _ _ _ [.int r369, .int r363] H366 _
        refine wp_icmp_eq (tgt := 1467) dL_law_1251 rfl (fun c => ?_) (fun c => ?_)
        · replace h := h.1 c
          refine wp_iinc (v := (x3 + 6)) (ls' := [(3, .int (x3 + 6)), (0, rv (some scrA)), (1, rv o1), (2, rv o2)]) 3 dL_law_1467 rfl rfl (by decide) (by simp [st1, rv_cat, vc_int, vc_long, vc_float, vc_double]) ?_
          refine wp_goto (tgt := 18) dL_law_1470 rfl ?_
          refine wp_sub (ls' := [(0, rv (some scrA)), (1, rv o1), (2, rv o2), (3, .int (x3 + 6))]) [1, 2, 3, 0] rfl ?_
          exact h
        · replace h := h.2 c
          refine wp_iconst (v := (0 : Int32)) dL_law_1254 (by decide) ?_
          exact wp_ireturn (ty := .boolean) dL_law_1255 rfl rfl ⟨false, rfl, h⟩
      · replace h := h.2.2.2.2.2.2.2.2.2.2.2.2.2.2.2.2.2.2.2.2.2.2.2.2.2.2.2.2.2.2.1 (Int32.toInt_inj.mp e)
        refine wp_tableIn (tgt := 1256) dL_law_33 (by omega) (by omega) (by rw [e]; rfl) rfl ?_
        refine wp_aload_n 1 dL_law_1256 rfl ?_
        refine wp_aload_n 0 dL_law_1257 rfl ?_
        refine wp_iload_n 3 dL_law_1258 rfl ?_
        refine wp_iconst (v := (1 : Int32)) dL_law_1259 (by decide) ?_
        refine wp_iadd dL_law_1260 ?_
        obtain ⟨hg370, h⟩ := h
        refine wp_sload dL_law_1261 hg370 ?_
        refine wp_aload_n 0 dL_law_1262 rfl ?_
        refine wp_iload_n 3 dL_law_1263 rfl ?_
        refine wp_iconst (v := (2 : Int32)) dL_law_1264 (by decide) ?_
        refine wp_iadd dL_law_1265 ?_
        obtain ⟨hg371, h⟩ := h
        refine wp_sload dL_law_1266 hg371 ?_
        refine wp_aload_n 0 dL_law_1267 rfl ?_
        refine wp_iload_n 3 dL_law_1268 rfl ?_
        refine wp_iconst (v := (3 : Int32)) dL_law_1269 (by decide) ?_
        refine wp_iadd dL_law_1270 ?_
        obtain ⟨hg372, h⟩ := h
        refine wp_sload dL_law_1271 hg372 ?_
        obtain ⟨a374, ha374, h⟩ := h
        obtain ⟨ht375, h⟩ := h
        refine wp_callV (ci := 11) (As := [.int ((hX H).2 (x3 + (1 : Int32)).toNatClampNeg), .int ((hX H).2 (x3 + (2 : Int32)).toNatClampNeg), .int ((hX H).2 (x3 + (3 : Int32)).toNatClampNeg)]) (rest := []) (mc := 0) (ms := 0) (ca' := ca) (sa' := sa) dL_law_1272 lk_L_145 rfl rfl (by decide) ha374 rfl rfl ht375 rfl rfl rfl w_5_165 (Call.weaken h ?_)
        rintro H373 _ ⟨r376, rfl, h⟩
        change WP _ _ _ _ _ _ [.int r376] H373 _
        refine wp_aload_n 2 dL_law_1275 rfl ?_
        refine wp_aload_n 0 dL_law_1276 rfl ?_
        refine wp_iload_n 3 dL_law_1277 rfl ?_
        refine wp_iconst (v := (1 : Int32)) dL_law_1278 (by decide) ?_
        refine wp_iadd dL_law_1279 ?_
        obtain ⟨hg377, h⟩ := h
        refine wp_sload dL_law_1280 hg377 ?_
        refine wp_aload_n 0 dL_law_1281 rfl ?_
        refine wp_iload_n 3 dL_law_1282 rfl ?_
        refine wp_iconst (v := (2 : Int32)) dL_law_1283 (by decide) ?_
        refine wp_iadd dL_law_1284 ?_
        obtain ⟨hg378, h⟩ := h
        refine wp_sload dL_law_1285 hg378 ?_
        refine wp_aload_n 0 dL_law_1286 rfl ?_
        refine wp_iload_n 3 dL_law_1287 rfl ?_
        refine wp_iconst (v := (3 : Int32)) dL_law_1288 (by decide) ?_
        refine wp_iadd dL_law_1289 ?_
        obtain ⟨hg379, h⟩ := h
        refine wp_sload dL_law_1290 hg379 ?_
        obtain ⟨a381, ha381, h⟩ := h
        obtain ⟨ht382, h⟩ := h
        refine wp_callV (ci := 12) (As := [.int ((hX H373).2 (x3 + (1 : Int32)).toNatClampNeg), .int ((hX H373).2 (x3 + (2 : Int32)).toNatClampNeg), .int ((hX H373).2 (x3 + (3 : Int32)).toNatClampNeg)]) (rest := [.int r376]) (mc := 0) (ms := 0) (ca' := ca) (sa' := sa) dL_law_1291 lk_L_148 rfl rfl (by simp [rv_cat, vc_int, vc_long, vc_float, vc_double]) ha381 rfl rfl ht382 rfl rfl rfl w_8_136 (Call.weaken h ?_)
        rintro H380 _ ⟨r383, rfl, h⟩
        change WP _ _ _ _ _ _ [.int r383, .int r376] H380 _
        refine wp_icmp_eq (tgt := 1467) dL_law_1294 rfl (fun c => ?_) (fun c => ?_)
        · replace h := h.1 c
          refine wp_iinc (v := (x3 + 6)) (ls' := [(3, .int (x3 + 6)), (0, rv (some scrA)), (1, rv o1), (2, rv o2)]) 3 dL_law_1467 rfl rfl (by decide) (by simp [st1, rv_cat, vc_int, vc_long, vc_float, vc_double]) ?_
          refine wp_goto (tgt := 18) dL_law_1470 rfl ?_
          refine wp_sub (ls' := [(0, rv (some scrA)), (1, rv o1), (2, rv o2), (3, .int (x3 + 6))]) [1, 2, 3, 0] rfl ?_
          exact h
        · replace h := h.2 c
          refine wp_iconst (v := (0 : Int32)) dL_law_1297 (by decide) ?_
          exact wp_ireturn (ty := .boolean) dL_law_1298 rfl rfl ⟨false, rfl, h⟩
      · replace h := h.2.2.2.2.2.2.2.2.2.2.2.2.2.2.2.2.2.2.2.2.2.2.2.2.2.2.2.2.2.2.2.1 (Int32.toInt_inj.mp e)
        refine wp_tableIn (tgt := 1299) dL_law_33 (by omega) (by omega) (by rw [e]; rfl) rfl ?_
        refine wp_aload_n 1 dL_law_1299 rfl ?_
        refine wp_aload_n 0 dL_law_1300 rfl ?_
        refine wp_iload_n 3 dL_law_1301 rfl ?_
        refine wp_iconst (v := (1 : Int32)) dL_law_1302 (by decide) ?_
        refine wp_iadd dL_law_1303 ?_
        obtain ⟨hg384, h⟩ := h
        refine wp_sload dL_law_1304 hg384 ?_
        refine wp_aload_n 0 dL_law_1305 rfl ?_
        refine wp_iload_n 3 dL_law_1306 rfl ?_
        refine wp_iconst (v := (2 : Int32)) dL_law_1307 (by decide) ?_
        refine wp_iadd dL_law_1308 ?_
        obtain ⟨hg385, h⟩ := h
        refine wp_sload dL_law_1309 hg385 ?_
        refine wp_aload_n 0 dL_law_1310 rfl ?_
        refine wp_iload_n 3 dL_law_1311 rfl ?_
        refine wp_iconst (v := (3 : Int32)) dL_law_1312 (by decide) ?_
        refine wp_iadd dL_law_1313 ?_
        obtain ⟨hg386, h⟩ := h
        refine wp_sload dL_law_1314 hg386 ?_
        obtain ⟨a388, ha388, h⟩ := h
        obtain ⟨ht389, h⟩ := h
        refine wp_callV (ci := 11) (As := [.int ((hX H).2 (x3 + (1 : Int32)).toNatClampNeg), .int ((hX H).2 (x3 + (2 : Int32)).toNatClampNeg), .int ((hX H).2 (x3 + (3 : Int32)).toNatClampNeg)]) (rest := []) (mc := 0) (ms := 0) (ca' := ca) (sa' := sa) dL_law_1315 lk_L_149 rfl rfl (by decide) ha388 rfl rfl ht389 rfl rfl rfl w_5_180 (Call.weaken h ?_)
        rintro H387 _ ⟨r390, rfl, h⟩
        change WP _ _ _ _ _ _ [.int r390] H387 _
        refine wp_aload_n 2 dL_law_1318 rfl ?_
        refine wp_aload_n 0 dL_law_1319 rfl ?_
        refine wp_iload_n 3 dL_law_1320 rfl ?_
        refine wp_iconst (v := (1 : Int32)) dL_law_1321 (by decide) ?_
        refine wp_iadd dL_law_1322 ?_
        obtain ⟨hg391, h⟩ := h
        refine wp_sload dL_law_1323 hg391 ?_
        refine wp_aload_n 0 dL_law_1324 rfl ?_
        refine wp_iload_n 3 dL_law_1325 rfl ?_
        refine wp_iconst (v := (2 : Int32)) dL_law_1326 (by decide) ?_
        refine wp_iadd dL_law_1327 ?_
        obtain ⟨hg392, h⟩ := h
        refine wp_sload dL_law_1328 hg392 ?_
        refine wp_aload_n 0 dL_law_1329 rfl ?_
        refine wp_iload_n 3 dL_law_1330 rfl ?_
        refine wp_iconst (v := (3 : Int32)) dL_law_1331 (by decide) ?_
        refine wp_iadd dL_law_1332 ?_
        obtain ⟨hg393, h⟩ := h
        refine wp_sload dL_law_1333 hg393 ?_
        obtain ⟨a395, ha395, h⟩ := h
        obtain ⟨ht396, h⟩ := h
        refine wp_callV (ci := 12) (As := [.int ((hX H387).2 (x3 + (1 : Int32)).toNatClampNeg), .int ((hX H387).2 (x3 + (2 : Int32)).toNatClampNeg), .int ((hX H387).2 (x3 + (3 : Int32)).toNatClampNeg)]) (rest := [.int r390]) (mc := 0) (ms := 0) (ca' := ca) (sa' := sa) dL_law_1334 lk_L_152 rfl rfl (by simp [rv_cat, vc_int, vc_long, vc_float, vc_double]) ha395 rfl rfl ht396 rfl rfl rfl w_8_151 (Call.weaken h ?_)
        rintro H394 _ ⟨r397, rfl, h⟩
        change WP _ _ _ _ _ _ [.int r397, .int r390] H394 _
        refine wp_icmp_eq (tgt := 1467) dL_law_1337 rfl (fun c => ?_) (fun c => ?_)
        · replace h := h.1 c
          refine wp_iinc (v := (x3 + 6)) (ls' := [(3, .int (x3 + 6)), (0, rv (some scrA)), (1, rv o1), (2, rv o2)]) 3 dL_law_1467 rfl rfl (by decide) (by simp [st1, rv_cat, vc_int, vc_long, vc_float, vc_double]) ?_
          refine wp_goto (tgt := 18) dL_law_1470 rfl ?_
          refine wp_sub (ls' := [(0, rv (some scrA)), (1, rv o1), (2, rv o2), (3, .int (x3 + 6))]) [1, 2, 3, 0] rfl ?_
          exact h
        · replace h := h.2 c
          refine wp_iconst (v := (0 : Int32)) dL_law_1340 (by decide) ?_
          exact wp_ireturn (ty := .boolean) dL_law_1341 rfl rfl ⟨false, rfl, h⟩
      · replace h := h.2.2.2.2.2.2.2.2.2.2.2.2.2.2.2.2.2.2.2.2.2.2.2.2.2.2.2.2.2.2.2.2.1 (Int32.toInt_inj.mp e)
        refine wp_tableIn (tgt := 1342) dL_law_33 (by omega) (by omega) (by rw [e]; rfl) rfl ?_
        refine wp_aload_n 1 dL_law_1342 rfl ?_
        refine wp_aload_n 0 dL_law_1343 rfl ?_
        refine wp_iload_n 3 dL_law_1344 rfl ?_
        refine wp_iconst (v := (1 : Int32)) dL_law_1345 (by decide) ?_
        refine wp_iadd dL_law_1346 ?_
        obtain ⟨hg398, h⟩ := h
        refine wp_sload dL_law_1347 hg398 ?_
        refine wp_aload_n 0 dL_law_1348 rfl ?_
        refine wp_iload_n 3 dL_law_1349 rfl ?_
        refine wp_iconst (v := (2 : Int32)) dL_law_1350 (by decide) ?_
        refine wp_iadd dL_law_1351 ?_
        obtain ⟨hg399, h⟩ := h
        refine wp_sload dL_law_1352 hg399 ?_
        refine wp_aload_n 0 dL_law_1353 rfl ?_
        refine wp_iload_n 3 dL_law_1354 rfl ?_
        refine wp_iconst (v := (3 : Int32)) dL_law_1355 (by decide) ?_
        refine wp_iadd dL_law_1356 ?_
        obtain ⟨hg400, h⟩ := h
        refine wp_sload dL_law_1357 hg400 ?_
        obtain ⟨a402, ha402, h⟩ := h
        obtain ⟨ht403, h⟩ := h
        refine wp_callV (ci := 11) (As := [.int ((hX H).2 (x3 + (1 : Int32)).toNatClampNeg), .int ((hX H).2 (x3 + (2 : Int32)).toNatClampNeg), .int ((hX H).2 (x3 + (3 : Int32)).toNatClampNeg)]) (rest := []) (mc := 0) (ms := 0) (ca' := ca) (sa' := sa) dL_law_1358 lk_L_153 rfl rfl (by decide) ha402 rfl rfl ht403 rfl rfl rfl w_5_184 (Call.weaken h ?_)
        rintro H401 _ ⟨r404, rfl, h⟩
        change WP _ _ _ _ _ _ [.int r404] H401 _
        refine wp_aload_n 2 dL_law_1361 rfl ?_
        refine wp_aload_n 0 dL_law_1362 rfl ?_
        refine wp_iload_n 3 dL_law_1363 rfl ?_
        refine wp_iconst (v := (1 : Int32)) dL_law_1364 (by decide) ?_
        refine wp_iadd dL_law_1365 ?_
        obtain ⟨hg405, h⟩ := h
        refine wp_sload dL_law_1366 hg405 ?_
        refine wp_aload_n 0 dL_law_1367 rfl ?_
        refine wp_iload_n 3 dL_law_1368 rfl ?_
        refine wp_iconst (v := (2 : Int32)) dL_law_1369 (by decide) ?_
        refine wp_iadd dL_law_1370 ?_
        obtain ⟨hg406, h⟩ := h
        refine wp_sload dL_law_1371 hg406 ?_
        refine wp_aload_n 0 dL_law_1372 rfl ?_
        refine wp_iload_n 3 dL_law_1373 rfl ?_
        refine wp_iconst (v := (3 : Int32)) dL_law_1374 (by decide) ?_
        refine wp_iadd dL_law_1375 ?_
        obtain ⟨hg407, h⟩ := h
        refine wp_sload dL_law_1376 hg407 ?_
        obtain ⟨a409, ha409, h⟩ := h
        obtain ⟨ht410, h⟩ := h
        refine wp_callV (ci := 12) (As := [.int ((hX H401).2 (x3 + (1 : Int32)).toNatClampNeg), .int ((hX H401).2 (x3 + (2 : Int32)).toNatClampNeg), .int ((hX H401).2 (x3 + (3 : Int32)).toNatClampNeg)]) (rest := [.int r404]) (mc := 0) (ms := 0) (ca' := ca) (sa' := sa) dL_law_1377 lk_L_156 rfl rfl (by simp [rv_cat, vc_int, vc_long, vc_float, vc_double]) ha409 rfl rfl ht410 rfl rfl rfl w_8_155 (Call.weaken h ?_)
        rintro H408 _ ⟨r411, rfl, h⟩
        change WP _ _ _ _ _ _ [.int r411, .int r404] H408 _
        refine wp_icmp_eq (tgt := 1467) dL_law_1380 rfl (fun c => ?_) (fun c => ?_)
        · replace h := h.1 c
          refine wp_iinc (v := (x3 + 6)) (ls' := [(3, .int (x3 + 6)), (0, rv (some scrA)), (1, rv o1), (2, rv o2)]) 3 dL_law_1467 rfl rfl (by decide) (by simp [st1, rv_cat, vc_int, vc_long, vc_float, vc_double]) ?_
          refine wp_goto (tgt := 18) dL_law_1470 rfl ?_
          refine wp_sub (ls' := [(0, rv (some scrA)), (1, rv o1), (2, rv o2), (3, .int (x3 + 6))]) [1, 2, 3, 0] rfl ?_
          exact h
        · replace h := h.2 c
          refine wp_iconst (v := (0 : Int32)) dL_law_1383 (by decide) ?_
          exact wp_ireturn (ty := .boolean) dL_law_1384 rfl rfl ⟨false, rfl, h⟩
      · replace h := h.2.2.2.2.2.2.2.2.2.2.2.2.2.2.2.2.2.2.2.2.2.2.2.2.2.2.2.2.2.2.2.2.2.1 (Int32.toInt_inj.mp e)
        refine wp_tableIn (tgt := 1385) dL_law_33 (by omega) (by omega) (by rw [e]; rfl) rfl ?_
        refine wp_aload_n 1 dL_law_1385 rfl ?_
        refine wp_aload_n 0 dL_law_1386 rfl ?_
        refine wp_iload_n 3 dL_law_1387 rfl ?_
        refine wp_iconst (v := (1 : Int32)) dL_law_1388 (by decide) ?_
        refine wp_iadd dL_law_1389 ?_
        obtain ⟨hg412, h⟩ := h
        refine wp_sload dL_law_1390 hg412 ?_
        refine wp_aload_n 0 dL_law_1391 rfl ?_
        refine wp_iload_n 3 dL_law_1392 rfl ?_
        refine wp_iconst (v := (2 : Int32)) dL_law_1393 (by decide) ?_
        refine wp_iadd dL_law_1394 ?_
        obtain ⟨hg413, h⟩ := h
        refine wp_sload dL_law_1395 hg413 ?_
        obtain ⟨a415, ha415, h⟩ := h
        obtain ⟨ht416, h⟩ := h
        refine wp_callV (ci := 11) (As := [.int ((hX H).2 (x3 + (1 : Int32)).toNatClampNeg), .int ((hX H).2 (x3 + (2 : Int32)).toNatClampNeg)]) (rest := []) (mc := 0) (ms := 0) (ca' := ca) (sa' := sa) dL_law_1396 lk_L_157 rfl rfl (by decide) ha415 rfl rfl ht416 rfl rfl rfl w_5_188 (Call.weaken h ?_)
        rintro H414 _ ⟨r417, rfl, h⟩
        change WP _ _ _ _ _ _ [.int r417] H414 _
        refine wp_aload_n 2 dL_law_1399 rfl ?_
        refine wp_aload_n 0 dL_law_1400 rfl ?_
        refine wp_iload_n 3 dL_law_1401 rfl ?_
        refine wp_iconst (v := (1 : Int32)) dL_law_1402 (by decide) ?_
        refine wp_iadd dL_law_1403 ?_
        obtain ⟨hg418, h⟩ := h
        refine wp_sload dL_law_1404 hg418 ?_
        refine wp_aload_n 0 dL_law_1405 rfl ?_
        refine wp_iload_n 3 dL_law_1406 rfl ?_
        refine wp_iconst (v := (2 : Int32)) dL_law_1407 (by decide) ?_
        refine wp_iadd dL_law_1408 ?_
        obtain ⟨hg419, h⟩ := h
        refine wp_sload dL_law_1409 hg419 ?_
        obtain ⟨a421, ha421, h⟩ := h
        obtain ⟨ht422, h⟩ := h
        refine wp_callV (ci := 12) (As := [.int ((hX H414).2 (x3 + (1 : Int32)).toNatClampNeg), .int ((hX H414).2 (x3 + (2 : Int32)).toNatClampNeg)]) (rest := [.int r417]) (mc := 0) (ms := 0) (ca' := ca) (sa' := sa) dL_law_1410 lk_L_160 rfl rfl (by simp [rv_cat, vc_int, vc_long, vc_float, vc_double]) ha421 rfl rfl ht422 rfl rfl rfl w_8_159 (Call.weaken h ?_)
        rintro H420 _ ⟨r423, rfl, h⟩
        change WP _ _ _ _ _ _ [.int r423, .int r417] H420 _
        refine wp_icmp_eq (tgt := 1467) dL_law_1413 rfl (fun c => ?_) (fun c => ?_)
        · replace h := h.1 c
          refine wp_iinc (v := (x3 + 6)) (ls' := [(3, .int (x3 + 6)), (0, rv (some scrA)), (1, rv o1), (2, rv o2)]) 3 dL_law_1467 rfl rfl (by decide) (by simp [st1, rv_cat, vc_int, vc_long, vc_float, vc_double]) ?_
          refine wp_goto (tgt := 18) dL_law_1470 rfl ?_
          refine wp_sub (ls' := [(0, rv (some scrA)), (1, rv o1), (2, rv o2), (3, .int (x3 + 6))]) [1, 2, 3, 0] rfl ?_
          exact h
        · replace h := h.2 c
          refine wp_iconst (v := (0 : Int32)) dL_law_1416 (by decide) ?_
          exact wp_ireturn (ty := .boolean) dL_law_1417 rfl rfl ⟨false, rfl, h⟩
      · replace h := h.2.2.2.2.2.2.2.2.2.2.2.2.2.2.2.2.2.2.2.2.2.2.2.2.2.2.2.2.2.2.2.2.2.2.1 (Int32.toInt_inj.mp e)
        refine wp_tableIn (tgt := 1418) dL_law_33 (by omega) (by omega) (by rw [e]; rfl) rfl ?_
        refine wp_aload_n 1 dL_law_1418 rfl ?_
        obtain ⟨a425, ha425, h⟩ := h
        obtain ⟨ht426, h⟩ := h
        refine wp_callV (ci := 11) (As := []) (rest := []) (mc := 0) (ms := 0) (ca' := ca) (sa' := sa) dL_law_1419 lk_L_161 rfl rfl (by decide) ha425 rfl rfl ht426 rfl rfl rfl w_5_192 (Call.weaken h ?_)
        rintro H424 _ ⟨r427, rfl, h⟩
        change WP _ _ _ _ _ _ [.int r427] H424 _
        refine wp_aload_n 2 dL_law_1422 rfl ?_
        obtain ⟨a429, ha429, h⟩ := h
        obtain ⟨ht430, h⟩ := h
        refine wp_callV (ci := 12) (As := []) (rest := [.int r427]) (mc := 0) (ms := 0) (ca' := ca) (sa' := sa) dL_law_1423 lk_L_164 rfl rfl (by simp [rv_cat, vc_int, vc_long, vc_float, vc_double]) ha429 rfl rfl ht430 rfl rfl rfl w_8_163 (Call.weaken h ?_)
        rintro H428 _ ⟨r431, rfl, h⟩
        change WP _ _ _ _ _ _ [.int r431, .int r427] H428 _
        refine wp_icmp_eq (tgt := 1467) dL_law_1426 rfl (fun c => ?_) (fun c => ?_)
        · replace h := h.1 c
          refine wp_iinc (v := (x3 + 6)) (ls' := [(3, .int (x3 + 6)), (0, rv (some scrA)), (1, rv o1), (2, rv o2)]) 3 dL_law_1467 rfl rfl (by decide) (by simp [st1, rv_cat, vc_int, vc_long, vc_float, vc_double]) ?_
          refine wp_goto (tgt := 18) dL_law_1470 rfl ?_
          refine wp_sub (ls' := [(0, rv (some scrA)), (1, rv o1), (2, rv o2), (3, .int (x3 + 6))]) [1, 2, 3, 0] rfl ?_
          exact h
        · replace h := h.2 c
          refine wp_iconst (v := (0 : Int32)) dL_law_1429 (by decide) ?_
          exact wp_ireturn (ty := .boolean) dL_law_1430 rfl rfl ⟨false, rfl, h⟩
      · replace h := h.2.2.2.2.2.2.2.2.2.2.2.2.2.2.2.2.2.2.2.2.2.2.2.2.2.2.2.2.2.2.2.2.2.2.2.1 (Int32.toInt_inj.mp e)
        refine wp_tableIn (tgt := 1431) dL_law_33 (by omega) (by omega) (by rw [e]; rfl) rfl ?_
        refine wp_aload_n 1 dL_law_1431 rfl ?_
        obtain ⟨a433, ha433, h⟩ := h
        obtain ⟨ht434, h⟩ := h
        refine wp_callV (ci := 11) (As := []) (rest := []) (mc := 0) (ms := 0) (ca' := ca) (sa' := sa) dL_law_1432 lk_L_165 rfl rfl (by decide) ha433 rfl rfl ht434 rfl rfl rfl w_5_205 (Call.weaken h ?_)
        rintro H432 _ ⟨r435, rfl, h⟩
        change WP _ _ _ _ _ _ [.int r435] H432 _
        refine wp_aload_n 2 dL_law_1435 rfl ?_
        obtain ⟨a437, ha437, h⟩ := h
        obtain ⟨ht438, h⟩ := h
        refine wp_callV (ci := 12) (As := []) (rest := [.int r435]) (mc := 0) (ms := 0) (ca' := ca) (sa' := sa) dL_law_1436 lk_L_168 rfl rfl (by simp [rv_cat, vc_int, vc_long, vc_float, vc_double]) ha437 rfl rfl ht438 rfl rfl rfl w_8_173 (Call.weaken h ?_)
        rintro H436 _ ⟨r439, rfl, h⟩
        change WP _ _ _ _ _ _ [.int r439, .int r435] H436 _
        refine wp_icmp_eq (tgt := 1467) dL_law_1439 rfl (fun c => ?_) (fun c => ?_)
        · replace h := h.1 c
          refine wp_iinc (v := (x3 + 6)) (ls' := [(3, .int (x3 + 6)), (0, rv (some scrA)), (1, rv o1), (2, rv o2)]) 3 dL_law_1467 rfl rfl (by decide) (by simp [st1, rv_cat, vc_int, vc_long, vc_float, vc_double]) ?_
          refine wp_goto (tgt := 18) dL_law_1470 rfl ?_
          refine wp_sub (ls' := [(0, rv (some scrA)), (1, rv o1), (2, rv o2), (3, .int (x3 + 6))]) [1, 2, 3, 0] rfl ?_
          exact h
        · replace h := h.2 c
          refine wp_iconst (v := (0 : Int32)) dL_law_1442 (by decide) ?_
          exact wp_ireturn (ty := .boolean) dL_law_1443 rfl rfl ⟨false, rfl, h⟩
      · replace h := h.2.2.2.2.2.2.2.2.2.2.2.2.2.2.2.2.2.2.2.2.2.2.2.2.2.2.2.2.2.2.2.2.2.2.2.2 (Int32.toInt_inj.mp e)
        refine wp_tableIn (tgt := 1444) dL_law_33 (by omega) (by omega) (by rw [e]; rfl) rfl ?_
        refine wp_aload_n 1 dL_law_1444 rfl ?_
        refine wp_aload_n 0 dL_law_1445 rfl ?_
        refine wp_iload_n 3 dL_law_1446 rfl ?_
        refine wp_iconst (v := (1 : Int32)) dL_law_1447 (by decide) ?_
        refine wp_iadd dL_law_1448 ?_
        obtain ⟨hg440, h⟩ := h
        refine wp_sload dL_law_1449 hg440 ?_
        obtain ⟨a442, ha442, h⟩ := h
        obtain ⟨ht443, h⟩ := h
        refine wp_callV (ci := 11) (As := [.int ((hX H).2 (x3 + (1 : Int32)).toNatClampNeg)]) (rest := []) (mc := 0) (ms := 0) (ca' := ca) (sa' := sa) dL_law_1450 lk_L_169 rfl rfl (by decide) ha442 rfl rfl ht443 rfl rfl rfl w_5_209 (Call.weaken h ?_)
        rintro H441 _ ⟨r444, rfl, h⟩
        change WP _ _ _ _ _ _ [.int r444] H441 _
        refine wp_aload_n 2 dL_law_1453 rfl ?_
        refine wp_aload_n 0 dL_law_1454 rfl ?_
        refine wp_iload_n 3 dL_law_1455 rfl ?_
        refine wp_iconst (v := (1 : Int32)) dL_law_1456 (by decide) ?_
        refine wp_iadd dL_law_1457 ?_
        obtain ⟨hg445, h⟩ := h
        refine wp_sload dL_law_1458 hg445 ?_
        obtain ⟨a447, ha447, h⟩ := h
        obtain ⟨ht448, h⟩ := h
        refine wp_callV (ci := 12) (As := [.int ((hX H441).2 (x3 + (1 : Int32)).toNatClampNeg)]) (rest := [.int r444]) (mc := 0) (ms := 0) (ca' := ca) (sa' := sa) dL_law_1459 lk_L_172 rfl rfl (by simp [rv_cat, vc_int, vc_long, vc_float, vc_double]) ha447 rfl rfl ht448 rfl rfl rfl w_8_177 (Call.weaken h ?_)
        rintro H446 _ ⟨r449, rfl, h⟩
        change WP _ _ _ _ _ _ [.int r449, .int r444] H446 _
        refine wp_icmp_eq (tgt := 1467) dL_law_1462 rfl (fun c => ?_) (fun c => ?_)
        · replace h := h.1 c
          refine wp_iinc (v := (x3 + 6)) (ls' := [(3, .int (x3 + 6)), (0, rv (some scrA)), (1, rv o1), (2, rv o2)]) 3 dL_law_1467 rfl rfl (by decide) (by simp [st1, rv_cat, vc_int, vc_long, vc_float, vc_double]) ?_
          refine wp_goto (tgt := 18) dL_law_1470 rfl ?_
          refine wp_sub (ls' := [(0, rv (some scrA)), (1, rv o1), (2, rv o2), (3, .int (x3 + 6))]) [1, 2, 3, 0] rfl ?_
          exact h
        · replace h := h.2 c
          refine wp_iconst (v := (0 : Int32)) dL_law_1465 (by decide) ?_
          exact wp_ireturn (ty := .boolean) dL_law_1466 rfl rfl ⟨false, rfl, h⟩
theorem C_L_law {d : Nat} {ca sa : Nat} {q : HP → Bool → Prop}  {H : HP} (h : wb_L_law_0 d ca sa q  H) : CZ (d + 1) ca sa mL_law [rv (some scrA)] H q := by
  refine call_of (by decide +kernel) (by simp [lg_sl, rv_cat, vc_int, vc_long, vc_float, vc_double]) ?_
  have e : lv_args 0 [rv (some scrA)] = [(0, rv (some scrA))] := by simp [lv_args, rv_cat, vc_int, vc_long, vc_float, vc_double]
  rw [e]
  exact T_L_law_0 h
