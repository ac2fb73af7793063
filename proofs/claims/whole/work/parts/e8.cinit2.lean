
/-! ===== building the class: its tracks and racks ===== -/
theorem rinit2_loop {d ca sa : Nat} {q : HP → Prop} {H0 : HP} {a : Nat} {s : Int32} (hlim : a + 3 < scrA) (hq : ∀ H', Ext (fun x => a ≤ x) H0 H' → hN H' = a + 3 → shRack H' a → hI H' 600 a 0 = s → (∀ j, j < 6 → hI H' 4112 (a + 1) j = -1) → (∀ j, hL H' 4131 (a + 2) j = 0) → q H') : ∀ (k i : Nat) (H : HP), k + i = 6 → Ext (fun x => a ≤ x) H0 H → hN H = a + 3 → shRack H a → hI H 600 a 0 = s → (∀ j, j < i → hI H 4112 (a + 1) j = -1) → (∀ j, hL H 4131 (a + 2) j = 0) → L_X5_init_27 d ca sa q a (Int32.ofNat i) H := by
  have e6 : (6 : Int32) = Int32.ofNat 6 := rfl
  intro k
  induction k with
  | zero =>
    intro i H hi E hn h1 h2 hj hz
    refine T_X5_init_27 ?_
    unfold wb_X5_init_27
    rw [e6, iN_le (by omega) (by omega)]
    exact ⟨fun _ => hq H E hn h1 h2 (fun j hj' => hj j (by omega)) hz, fun h => by omega⟩
  | succ k ih =>
    intro i H hi E hn h1 h2 hj hz
    obtain ⟨s1, s2, s3, s4, s5⟩ := id h1
    refine T_X5_init_27 ?_
    unfold wb_X5_init_27
    rw [e6, iN_le (by omega) (by omega)]
    refine ⟨fun h => by omega, fun _ => ⟨s1, a + 1, s2, isA_of s3 (by decide) (by decide), ?_, ?_⟩⟩
    · rw [ln_of s3]; exact vpi_of (by omega) (by omega)
    · rw [tg_of s3, iN_cl (by omega), iN_inc (by omega)]
      have E1 : Ext (fun x => a ≤ x) H (sI H 4112 (a + 1) i (-1 : Int32)) := Ext_sI (by omega)
      refine ih (i + 1) _ (by omega) (E.tr E1 (fun _ _ k => k)) hn h1 ?_ (fun j hj' => ?_) hz
      · rw [hI_sI, u3_g _ _ _ _ _ _ (by decide)]; exact h2
      · rw [hI_sI]
        by_cases e : j = i
        · rw [e, u3_same]
        · rw [u3_i _ _ _ _ _ _ e]; exact hj j (by omega)
theorem K_rinit2 {d : Nat} {q : HP → Prop} {H : HP} {a : Nat} {s : Int32} (ht : tg H a = 6) (hn : hN H = a + 1) (hlim : a + 3 < scrA) (hq : ∀ H', Ext (fun x => a ≤ x) H H' → hN H' = a + 3 → shRack H' a → hI H' 600 a 0 = s → (∀ j, j < 6 → hI H' 4112 (a + 1) j = -1) → (∀ j, hL H' 4131 (a + 2) j = 0) → q H') : CV (d + 1) 2 12 mX5_init [rv (some a), .int s] H q := by
  have hs : scrA = 1000000 := rfl
  refine C_X5_init ?_
  unfold wb_X5_init_0
  have E0 : Ext (fun x => x = a) H (sC (nw H 4112 6) 601 a (some (hN H))) := nA_Ext
  have n0 : hN (sC (nw H 4112 6) 601 a (some (hN H))) = a + 2 := by show hN H + 1 = _; omega
  have t0 := nA_tg (g := 601) (t := 4112) (n := 6) (by omega) ht
  have p0 := nA_hC (a := a) (g := 601) (t := 4112) (n := 6) hn
  have r0 := nA_hT (a := a) (g := 601) (t := 4112) (n := 6) hn
  refine ⟨by omega, by omega, by omega, nA_tg' (by omega) ht, ?_⟩
  generalize sC (nw H 4112 6) 601 a (some (hN H)) = HA at *
  have E1 : Ext (fun x => x = a) HA (sC (nw HA 4131 6) 602 a (some (hN HA))) := nA_Ext
  have n1 : hN (sC (nw HA 4131 6) 602 a (some (hN HA))) = a + 3 := by show hN HA + 1 = _; omega
  have t1 := nA_tg (g := 602) (t := 4131) (n := 6) (by omega) t0
  have p1 := nA_hC (a := a) (g := 602) (t := 4131) (n := 6) n0
  have r1 := nA_hT (a := a) (g := 602) (t := 4131) (n := 6) n0
  have p0' := (nA_keep (g := 602) (t := 4131) (n := 6) (by omega) (by decide)).trans p0
  have r0' := ext_hT E1 (by omega) r0
  refine ⟨by omega, by omega, by omega, nA_tg' (by omega) t0, ?_⟩
  have hz : ∀ j, hL (sC (nw HA 4131 6) 602 a (some (hN HA))) 4131 (a + 2) j = 0 := fun j => nA_zL n0 j
  have E := E0.tr E1 (fun _ _ k => k)
  generalize sC (nw HA 4131 6) 602 a (some (hN HA)) = HB at *
  have E2 : Ext (fun x => x = a) HB (sI HB 600 a 0 s) := Ext_sI rfl
  refine rinit2_loop hlim hq 6 0 _ rfl ((E.tr E2 (fun _ _ k => k)).mono (fun x _ k => by omega)) n1 ⟨t1, p0', r0', p1, r1⟩ ?_ (fun j hj => by omega) hz
  rw [hI_sI, u3_same]
theorem ctr_loop {d : Nat} {q : HP → Prop} {H0 : HP} (hq : ∀ H', Ext (fun x => x = 1090) H0 H' → hN H' = 1109 → (∀ j, j < 4 → hR H' 4568 1090 j = some (1097 + 3 * j) ∧ shTrack H' (1097 + 3 * j) ∧ hI H' 900 (1097 + 3 * j) 0 = -1 ∧ hI H' 901 (1097 + 3 * j) 0 = 0) → L_X11_init_184 (d + 1) 9 45 q 0 0 H') (hn0 : hN H0 = 1097) (t0 : tg H0 0 = 12) (c0 : hC H0 1210 0 = some 1090) (a0 : hT H0 1090 = (4568, 4)) : ∀ (r i : Nat) (H : HP), r + i = 4 → Ext (fun x => x = 1090) H0 H → hN H = 1097 + 3 * i → (∀ j, j < i → hR H 4568 1090 j = some (1097 + 3 * j) ∧ shTrack H (1097 + 3 * j) ∧ hI H 900 (1097 + 3 * j) 0 = -1 ∧ hI H 901 (1097 + 3 * j) 0 = 0) → L_X11_init_158 (d + 1) (3 * r + 9) (64 * r + 45) q 0 (Int32.ofNat i) H := by
  have e4 : (4 : Int32) = Int32.ofNat 4 := rfl
  have hs : scrA = 1000000 := rfl
  intro r
  induction r with
  | zero =>
    intro i H e E hn h
    refine T_X11_init_158 ?_
    unfold wb_X11_init_158
    rw [e4, iN_le (by omega) (by omega)]
    exact ⟨fun _ => hq H E (by omega) (fun j hj => h j (by omega)), fun k => by omega⟩
  | succ r ih =>
    intro i H e E hn h
    refine T_X11_init_158 ?_
    unfold wb_X11_init_158
    rw [e4, iN_le (by omega) (by omega)]
    have tH : tg H 0 = 12 := ext_tg E (by omega) t0
    have cH : hC H 1210 0 = some 1090 := ext_hC E (by omega) (by decide) c0
    refine ⟨fun k => by omega, fun _ => ⟨tH, by omega, by omega, by omega, by omega, by omega, ?_⟩⟩
    refine K_trinit (d := d) (a := hN H) (by rw [tg_nw, if_pos rfl]) rfl (by omega) fun H7 E7 n7 f1 f2 f3 => ?_
    have X7 : Ext (fun x => x = 1090) H H7 := (Ext_nw (P := fun x => x = 1090)).tr E7 (fun x hx k => by omega)
    have F7 : Ext (fun _ => False) H H7 := (Ext_nw (P := fun _ => False)).tr E7 (fun x hx k => by omega)
    have aH : hT H7 1090 = (4568, 4) := ext_hT (E.tr X7 (fun _ _ k => k)) (by omega) a0
    refine ⟨1090, cH, isA_of aH (by decide) (by decide), by rw [ln_of aH]; exact vpi_of (by omega) (by decide), f1.1, ?_⟩
    rw [tg_of aH, iN_cl (by omega), iN_inc (by omega), show 3 * (r + 1) + 9 - 1 - 2 = 3 * r + 9 by omega, show 64 * (r + 1) + 45 - 4 - 60 = 64 * r + 45 by omega]
    rw [hn] at f1 f2 f3 n7 ⊢
    have X8 : Ext (fun x => x = 1090) H7 (sR H7 4568 1090 i (some (1097 + 3 * i))) := Ext_sR rfl
    refine ih (i + 1) _ (by omega) ((E.tr X7 (fun _ _ k => k)).tr X8 (fun _ _ k => k)) (by show hN H7 = _; omega) (fun j hj => ?_)
    have r8 : hR (sR H7 4568 1090 i (some (1097 + 3 * i))) 4568 1090 j = if j = i then some (1097 + 3 * i) else hR H7 4568 1090 j := by
      rw [hRs]
      by_cases ej : j = i
      · rw [if_pos ej, if_pos ⟨rfl, rfl, ej⟩]
      · rw [if_neg ej, if_neg (fun k => ej k.2.2)]
    by_cases ej : j = i
    · subst ej
      rw [r8, if_pos rfl]
      exact ⟨rfl, f1, f2, f3⟩
    · obtain ⟨k1, k2, k3, k4⟩ := h j (by omega)
      have R : exR H H7 (1097 + 3 * j) 3 := exR_of F7 (by omega) (fun x _ _ k => k)
      have g := R (1097 + 3 * j) (by omega) (by omega)
      have z := ex_shTrack R k2
      refine ⟨?_, z, ?_, ?_⟩
      · rw [r8, if_neg ej, (exA_of F7 (x := 1090) (by omega) (fun k => k)).2.2.2.1]; exact k1
      · show hI H7 900 (1097 + 3 * j) 0 = -1
        rw [g.1]; exact k3
      · show hI H7 901 (1097 + 3 * j) 0 = 0
        rw [g.1]; exact k4
theorem crk_loop {d : Nat} {q : HP → Prop} {H0 : HP} (hq : ∀ H', Ext (fun x => x = 1091) H0 H' → hN H' = 1118 → CRk H' RK0 → q H') (hn0 : hN H0 = 1109) (t0 : tg H0 0 = 12) (c0 : hC H0 1211 0 = some 1091) (a0 : hT H0 1091 = (4585, 3)) : ∀ (r i : Nat) (H : HP), r + i = 3 → Ext (fun x => x = 1091) H0 H → hN H = 1109 + 3 * i → (∀ j, j < i → hR H 4585 1091 j = some (1109 + 3 * j) ∧ shRack H (1109 + 3 * j) ∧ hI H 600 (1109 + 3 * j) 0 = Int32.ofNat j ∧ (∀ k, k < 6 → hI H 4112 (1109 + 3 * j + 1) k = -1) ∧ (∀ k, hL H 4131 (1109 + 3 * j + 2) k = 0)) → L_X11_init_184 (d + 1) (3 * r) (15 * r) q 0 (Int32.ofNat i) H := by
  have e3 : (3 : Int32) = Int32.ofNat 3 := rfl
  have hs : scrA = 1000000 := rfl
  intro r
  induction r with
  | zero =>
    intro i H e E hn h
    refine T_X11_init_184 ?_
    unfold wb_X11_init_184
    rw [e3, iN_le (by omega) (by omega)]
    refine ⟨fun _ => hq H E (by omega) ⟨fun j hj => ?_, fun j hj k hk => ?_⟩, fun k => by omega⟩
    · obtain ⟨k1, k2, k3, -⟩ := h j (by omega)
      exact ⟨k1, k2, k3⟩
    · obtain ⟨-, -, -, k4, k5⟩ := h j (by omega)
      exact ⟨k4 k hk, by rw [k5 k]; rfl⟩
  | succ r ih =>
    intro i H e E hn h
    refine T_X11_init_184 ?_
    unfold wb_X11_init_184
    rw [e3, iN_le (by omega) (by omega)]
    have tH : tg H 0 = 12 := ext_tg E (by omega) t0
    have cH : hC H 1211 0 = some 1091 := ext_hC E (by omega) (by decide) c0
    refine ⟨fun k => by omega, fun _ => ⟨tH, by omega, by omega, by omega, by omega, by omega, ?_⟩⟩
    refine K_rinit2 (d := d) (a := hN H) (by rw [tg_nw, if_pos rfl]) rfl (by omega) fun H7 E7 n7 f1 f2 f3 f4 => ?_
    have X7 : Ext (fun x => x = 1091) H H7 := (Ext_nw (P := fun x => x = 1091)).tr E7 (fun x hx k => by omega)
    have F7 : Ext (fun _ => False) H H7 := (Ext_nw (P := fun _ => False)).tr E7 (fun x hx k => by omega)
    have aH : hT H7 1091 = (4585, 3) := ext_hT (E.tr X7 (fun _ _ k => k)) (by omega) a0
    refine ⟨1091, cH, isA_of aH (by decide) (by decide), by rw [ln_of aH]; exact vpi_of (by omega) (by decide), f1.1, ?_⟩
    rw [tg_of aH, iN_cl (by omega), iN_inc (by omega), show 3 * (r + 1) - 1 - 2 = 3 * r by omega, show 15 * (r + 1) - 3 - 12 = 15 * r by omega]
    rw [hn] at f1 f2 f3 f4 n7 ⊢
    have X8 : Ext (fun x => x = 1091) H7 (sR H7 4585 1091 i (some (1109 + 3 * i))) := Ext_sR rfl
    refine ih (i + 1) _ (by omega) ((E.tr X7 (fun _ _ k => k)).tr X8 (fun _ _ k => k)) (by show hN H7 = _; omega) (fun j hj => ?_)
    have r8 : hR (sR H7 4585 1091 i (some (1109 + 3 * i))) 4585 1091 j = if j = i then some (1109 + 3 * i) else hR H7 4585 1091 j := by
      rw [hRs]
      by_cases ej : j = i
      · rw [if_pos ej, if_pos ⟨rfl, rfl, ej⟩]
      · rw [if_neg ej, if_neg (fun k => ej k.2.2)]
    by_cases ej : j = i
    · subst ej
      rw [r8, if_pos rfl]
      exact ⟨rfl, f1, f2, f3, f4⟩
    · obtain ⟨k1, k2, k3, k4, k5⟩ := h j (by omega)
      have R : exR H H7 (1109 + 3 * j) 3 := exR_of F7 (by omega) (fun x _ _ k => k)
      have g0 := R (1109 + 3 * j) (by omega) (by omega)
      have g1 := R (1109 + 3 * j + 1) (by omega) (by omega)
      have g2 := R (1109 + 3 * j + 2) (by omega) (by omega)
      have z := ex_shRack R k2
      refine ⟨?_, z, ?_, ?_, ?_⟩
      · rw [r8, if_neg ej, (exA_of F7 (x := 1091) (by omega) (fun k => k)).2.2.2.1]; exact k1
      · show hI H7 600 (1109 + 3 * j) 0 = _
        rw [g0.1]; exact k3
      · show ∀ k, k < 6 → hI H7 4112 (1109 + 3 * j + 1) k = -1
        rw [g1.1]; exact k4
      · show ∀ k, hL H7 4131 (1109 + 3 * j + 2) k = 0
        rw [g2.2.1]; exact k5
