
/-! ===== building the class: object 0, up to its first units ===== -/
theorem ex_hI {P : Nat → Prop} {H H' : HP} {g x i : Nat} {v : Int32} (h : Ext P H H') (hx : x < hN H) (hp : ¬ P x) (e : hI H g x i = v) : hI H' g x i = v := by rw [(exA_of h hx hp).1]; exact e
theorem ex_tg {P : Nat → Prop} {H H' : HP} {x t : Nat} (h : Ext P H H') (hx : x < hN H) (hp : ¬ P x) (e : tg H x = t) : tg H' x = t := by rw [exA_tg (exA_of h hx hp)]; exact e
def LF11 : FdL := [(1215, 1096), (1214, 1095), (1213, 1094), (1212, 1092), (1211, 1091), (1210, 1090), (1206, 229), (1204, 218), (1203, 116), (1202, 105), (1201, 3), (1200, 1)]
def made1 (Z : HP) : Prop := SX Z 1097 LF11 ∧ (shTape Z 1 ∧ hI Z 801 1 0 = 0 ∧ hI Z 802 1 0 = 0) ∧ zUnits Z 3 ∧ CCl Z 105 CL0 ∧ shUnits Z 116 ∧ shCl Z 218 ∧ shDef Z 229 ∧ LtB Z 229 ∧ (shProof Z 242 ∧ hI Z 502 242 0 = 0) ∧ shProof Z 666 ∧ (hR Z 1207 0 0 = some 242 ∧ hR Z 1208 0 0 = some 666) ∧ hT Z 1090 = (4568, 4) ∧ hT Z 1091 = (4585, 3) ∧ shBits Z 1092 ∧ tg Z 1094 = 4 ∧ tg Z 1095 = 4 ∧ hT Z 1096 = (4598, 3) ∧ (hI Z 1205 0 0 = 0 ∧ hI Z 1209 0 0 = 0)
theorem K_cinit1 {d : Nat} {q : HP → Prop} {H : HP} (ht : tg H 0 = 12) (hn : hN H = 1) (hz : hI H 1205 0 0 = 0 ∧ hI H 1209 0 0 = 0) (fin : ∀ Z, made1 Z → hX Z = hX H → ∃ a96, (hC Z 1201 0) = some a96 ∧ (tg Z a96 = 11 ∧ (CV (d + 5) 0 0 mX10_addBases [rv (hC Z 1201 0)] Z (fun H95 => L_X11_init_158 (d + 5) 21 301 q 0 (0 : Int32) H95)))) : wb_X11_init_0 (d + 5) 1117 6106 q 0 H := by
  have s0 : SX H 1 [] := ⟨hn, ht, fun p hp => by cases hp⟩
  unfold wb_X11_init_0
  have Az_0 : Ext P0 H H := Ext.rf
  have Vz_0 := hz
  rw [s0.1]
  refine ⟨by decide, by decide, by decide, by decide, by decide, K_tinit (d := d + 4) (a := 1) (by rw [tg_nw, if_pos s0.1.symm]) (by rw [hN_nw, s0.1]) (by decide) fun G1 B1 N1 f1 f1b f1c => ?_⟩
  have W1 : ∀ g, hI G1 g 0 = hI H g 0 := fun g => by rw [B1.2.2.2.1 g 0 (by rw [hN_nw, s0.1]; decide) (by decide)]; exact z3_lt _ (by rw [s0.1]; decide)
  have WR1 : ∀ g, hR G1 g 0 = hR H g 0 := fun g => by rw [B1.2.2.2.2.2.2.2.1 g 0 (by rw [hN_nw, s0.1]; decide) (by decide)]; exact z3_lt _ (by rw [s0.1]; decide)
  obtain ⟨u1, x1⟩ := sx_sub (n' := 3) s0 (by decide) B1 (fun x hx k => by omega) N1
  have Az_1 := Az_0.tr x1 (fun _ _ k => k)
  clear Az_0
  have Vz_1 : hI G1 1205 0 0 = 0 ∧ hI G1 1209 0 0 = 0 := ⟨by rw [W1]; exact Vz_0.1, by rw [W1]; exact Vz_0.2⟩
  refine ⟨u1.2.1, ?_⟩
  obtain ⟨s1, y1⟩ := sx_sC (g := 1200) (v := 1) u1 (by decide)
  have Az_1b := Az_1.tr y1 (fun _ _ k => k)
  clear Az_1
  have Vz_1b : hI (sC G1 1200 0 (some 1)) 1205 0 0 = 0 ∧ hI (sC G1 1200 0 (some 1)) 1209 0 0 = 0 := Vz_1
  generalize sC G1 1200 0 (some 1) = Y1 at *
  rw [s1.1]
  refine ⟨by decide, by decide, by decide, by decide, by decide, K_usinit (d := d + 2) (a := 3) (by rw [tg_nw, if_pos s1.1.symm]) (by rw [hN_nw, s1.1]) (by decide) fun G2 B2 N2 f3 => ?_⟩
  have W2 : ∀ g, hI G2 g 0 = hI Y1 g 0 := fun g => by rw [B2.2.2.2.1 g 0 (by rw [hN_nw, s1.1]; decide) (by decide)]; exact z3_lt _ (by rw [s1.1]; decide)
  have WR2 : ∀ g, hR G2 g 0 = hR Y1 g 0 := fun g => by rw [B2.2.2.2.2.2.2.2.1 g 0 (by rw [hN_nw, s1.1]; decide) (by decide)]; exact z3_lt _ (by rw [s1.1]; decide)
  obtain ⟨u2, x2⟩ := sx_sub (n' := 105) s1 (by decide) B2 (fun x hx k => by omega) N2
  have Az_2 := Az_1b.tr x2 (fun _ _ k => k)
  clear Az_1b
  have Ao1_2 := y1.tr x2 (fun _ _ k => k)
  clear y1
  have Vz_2 : hI G2 1205 0 0 = 0 ∧ hI G2 1209 0 0 = 0 := ⟨by rw [W2]; exact Vz_1b.1, by rw [W2]; exact Vz_1b.2⟩
  refine ⟨u2.2.1, ?_⟩
  obtain ⟨s2, y2⟩ := sx_sC (g := 1201) (v := 3) u2 (by decide)
  have Az_2b := Az_2.tr y2 (fun _ _ k => k)
  clear Az_2
  have Ao1_2b := Ao1_2.tr y2 (fun _ _ k => k)
  clear Ao1_2
  have Vz_2b : hI (sC G2 1201 0 (some 3)) 1205 0 0 = 0 ∧ hI (sC G2 1201 0 (some 3)) 1209 0 0 = 0 := Vz_2
  generalize sC G2 1201 0 (some 3) = Y2 at *
  rw [s2.1]
  refine ⟨by decide, by decide, by decide, by decide, by decide, K_clinit (d := d + 3) (a := 105) (by rw [tg_nw, if_pos s2.1.symm]) (by rw [hN_nw, s2.1]) (by decide) fun G3 B3 N3 f105 => ?_⟩
  have W3 : ∀ g, hI G3 g 0 = hI Y2 g 0 := fun g => by rw [B3.2.2.2.1 g 0 (by rw [hN_nw, s2.1]; decide) (by decide)]; exact z3_lt _ (by rw [s2.1]; decide)
  have WR3 : ∀ g, hR G3 g 0 = hR Y2 g 0 := fun g => by rw [B3.2.2.2.2.2.2.2.1 g 0 (by rw [hN_nw, s2.1]; decide) (by decide)]; exact z3_lt _ (by rw [s2.1]; decide)
  obtain ⟨u3, x3⟩ := sx_sub (n' := 116) s2 (by decide) B3 (fun x hx k => by omega) N3
  have Az_3 := Az_2b.tr x3 (fun _ _ k => k)
  clear Az_2b
  have Ao1_3 := Ao1_2b.tr x3 (fun _ _ k => k)
  clear Ao1_2b
  have Ao3_3 := y2.tr x3 (fun _ _ k => k)
  clear y2
  have Vz_3 : hI G3 1205 0 0 = 0 ∧ hI G3 1209 0 0 = 0 := ⟨by rw [W3]; exact Vz_2b.1, by rw [W3]; exact Vz_2b.2⟩
  refine ⟨u3.2.1, ?_⟩
  obtain ⟨s3, y3⟩ := sx_sC (g := 1202) (v := 105) u3 (by decide)
  have Az_3b := Az_3.tr y3 (fun _ _ k => k)
  clear Az_3
  have Ao1_3b := Ao1_3.tr y3 (fun _ _ k => k)
  clear Ao1_3
  have Ao3_3b := Ao3_3.tr y3 (fun _ _ k => k)
  clear Ao3_3
  have Vz_3b : hI (sC G3 1202 0 (some 105)) 1205 0 0 = 0 ∧ hI (sC G3 1202 0 (some 105)) 1209 0 0 = 0 := Vz_3
  generalize sC G3 1202 0 (some 105) = Y3 at *
  rw [s3.1]
  refine ⟨by decide, by decide, by decide, by decide, by decide, K_usinit (d := d + 2) (a := 116) (by rw [tg_nw, if_pos s3.1.symm]) (by rw [hN_nw, s3.1]) (by decide) fun G4 B4 N4 f116 => ?_⟩
  have W4 : ∀ g, hI G4 g 0 = hI Y3 g 0 := fun g => by rw [B4.2.2.2.1 g 0 (by rw [hN_nw, s3.1]; decide) (by decide)]; exact z3_lt _ (by rw [s3.1]; decide)
  have WR4 : ∀ g, hR G4 g 0 = hR Y3 g 0 := fun g => by rw [B4.2.2.2.2.2.2.2.1 g 0 (by rw [hN_nw, s3.1]; decide) (by decide)]; exact z3_lt _ (by rw [s3.1]; decide)
  obtain ⟨u4, x4⟩ := sx_sub (n' := 218) s3 (by decide) B4 (fun x hx k => by omega) N4
  have Az_4 := Az_3b.tr x4 (fun _ _ k => k)
  clear Az_3b
  have Ao1_4 := Ao1_3b.tr x4 (fun _ _ k => k)
  clear Ao1_3b
  have Ao3_4 := Ao3_3b.tr x4 (fun _ _ k => k)
  clear Ao3_3b
  have Ao105_4 := y3.tr x4 (fun _ _ k => k)
  clear y3
  have Vz_4 : hI G4 1205 0 0 = 0 ∧ hI G4 1209 0 0 = 0 := ⟨by rw [W4]; exact Vz_3b.1, by rw [W4]; exact Vz_3b.2⟩
  refine ⟨u4.2.1, ?_⟩
  obtain ⟨s4, y4⟩ := sx_sC (g := 1203) (v := 116) u4 (by decide)
  have Az_4b := Az_4.tr y4 (fun _ _ k => k)
  clear Az_4
  have Ao1_4b := Ao1_4.tr y4 (fun _ _ k => k)
  clear Ao1_4
  have Ao3_4b := Ao3_4.tr y4 (fun _ _ k => k)
  clear Ao3_4
  have Ao105_4b := Ao105_4.tr y4 (fun _ _ k => k)
  clear Ao105_4
  have Vz_4b : hI (sC G4 1203 0 (some 116)) 1205 0 0 = 0 ∧ hI (sC G4 1203 0 (some 116)) 1209 0 0 = 0 := Vz_4
  generalize sC G4 1203 0 (some 116) = Y4 at *
  rw [s4.1]
  refine ⟨by decide, by decide, by decide, by decide, by decide, K_clinit (d := d + 3) (a := 218) (by rw [tg_nw, if_pos s4.1.symm]) (by rw [hN_nw, s4.1]) (by decide) fun G5 B5 N5 f218 => ?_⟩
  have W5 : ∀ g, hI G5 g 0 = hI Y4 g 0 := fun g => by rw [B5.2.2.2.1 g 0 (by rw [hN_nw, s4.1]; decide) (by decide)]; exact z3_lt _ (by rw [s4.1]; decide)
  have WR5 : ∀ g, hR G5 g 0 = hR Y4 g 0 := fun g => by rw [B5.2.2.2.2.2.2.2.1 g 0 (by rw [hN_nw, s4.1]; decide) (by decide)]; exact z3_lt _ (by rw [s4.1]; decide)
  obtain ⟨u5, x5⟩ := sx_sub (n' := 229) s4 (by decide) B5 (fun x hx k => by omega) N5
  have Az_5 := Az_4b.tr x5 (fun _ _ k => k)
  clear Az_4b
  have Ao1_5 := Ao1_4b.tr x5 (fun _ _ k => k)
  clear Ao1_4b
  have Ao3_5 := Ao3_4b.tr x5 (fun _ _ k => k)
  clear Ao3_4b
  have Ao105_5 := Ao105_4b.tr x5 (fun _ _ k => k)
  clear Ao105_4b
  have Ao116_5 := y4.tr x5 (fun _ _ k => k)
  clear y4
  have Vz_5 : hI G5 1205 0 0 = 0 ∧ hI G5 1209 0 0 = 0 := ⟨by rw [W5]; exact Vz_4b.1, by rw [W5]; exact Vz_4b.2⟩
  refine ⟨u5.2.1, ?_⟩
  obtain ⟨s5, y5⟩ := sx_sC (g := 1204) (v := 218) u5 (by decide)
  have Az_5b := Az_5.tr y5 (fun _ _ k => k)
  clear Az_5
  have Ao1_5b := Ao1_5.tr y5 (fun _ _ k => k)
  clear Ao1_5
  have Ao3_5b := Ao3_5.tr y5 (fun _ _ k => k)
  clear Ao3_5
  have Ao105_5b := Ao105_5.tr y5 (fun _ _ k => k)
  clear Ao105_5
  have Ao116_5b := Ao116_5.tr y5 (fun _ _ k => k)
  clear Ao116_5
  have Vz_5b : hI (sC G5 1204 0 (some 218)) 1205 0 0 = 0 ∧ hI (sC G5 1204 0 (some 218)) 1209 0 0 = 0 := Vz_5
  generalize sC G5 1204 0 (some 218) = Y5 at *
  rw [s5.1]
  refine ⟨by decide, by decide, by decide, by decide, by decide, K_dinit (d := d + 2) (a := 229) (by rw [tg_nw, if_pos s5.1.symm]) (by rw [hN_nw, s5.1]) (by decide) fun G6 B6 N6 f229 f229b => ?_⟩
  have W6 : ∀ g, hI G6 g 0 = hI Y5 g 0 := fun g => by rw [B6.2.2.2.1 g 0 (by rw [hN_nw, s5.1]; decide) (by decide)]; exact z3_lt _ (by rw [s5.1]; decide)
  have WR6 : ∀ g, hR G6 g 0 = hR Y5 g 0 := fun g => by rw [B6.2.2.2.2.2.2.2.1 g 0 (by rw [hN_nw, s5.1]; decide) (by decide)]; exact z3_lt _ (by rw [s5.1]; decide)
  obtain ⟨u6, x6⟩ := sx_sub (n' := 242) s5 (by decide) B6 (fun x hx k => by omega) N6
  have Az_6 := Az_5b.tr x6 (fun _ _ k => k)
  clear Az_5b
  have Ao1_6 := Ao1_5b.tr x6 (fun _ _ k => k)
  clear Ao1_5b
  have Ao3_6 := Ao3_5b.tr x6 (fun _ _ k => k)
  clear Ao3_5b
  have Ao105_6 := Ao105_5b.tr x6 (fun _ _ k => k)
  clear Ao105_5b
  have Ao116_6 := Ao116_5b.tr x6 (fun _ _ k => k)
  clear Ao116_5b
  have Ao218_6 := y5.tr x6 (fun _ _ k => k)
  clear y5
  have Vz_6 : hI G6 1205 0 0 = 0 ∧ hI G6 1209 0 0 = 0 := ⟨by rw [W6]; exact Vz_5b.1, by rw [W6]; exact Vz_5b.2⟩
  refine ⟨u6.2.1, ?_⟩
  intro HX eX
  subst eX
  obtain ⟨s6, y6⟩ := sx_sC (g := 1206) (v := 229) u6 (by decide)
  have Az_6b := Az_6.tr y6 (fun _ _ k => k)
  clear Az_6
  have Ao1_6b := Ao1_6.tr y6 (fun _ _ k => k)
  clear Ao1_6
  have Ao3_6b := Ao3_6.tr y6 (fun _ _ k => k)
  clear Ao3_6
  have Ao105_6b := Ao105_6.tr y6 (fun _ _ k => k)
  clear Ao105_6
  have Ao116_6b := Ao116_6.tr y6 (fun _ _ k => k)
  clear Ao116_6
  have Ao218_6b := Ao218_6.tr y6 (fun _ _ k => k)
  clear Ao218_6
  have Vz_6b : hI (sC G6 1206 0 (some 229)) 1205 0 0 = 0 ∧ hI (sC G6 1206 0 (some 229)) 1209 0 0 = 0 := Vz_6
  generalize sC G6 1206 0 (some 229) = Y6 at *
  rw [s6.1]
  refine ⟨by decide, by decide, by decide, by decide, by decide, K_pinit (d := d + 2) (a := 242) (by rw [tg_nw, if_pos s6.1.symm]) (by rw [hN_nw, s6.1]) (by decide) fun G7 B7 N7 f242 => ?_⟩
  have W7 : ∀ g, hI G7 g 0 = hI Y6 g 0 := fun g => by rw [B7.2.2.2.1 g 0 (by rw [hN_nw, s6.1]; decide) (by decide)]; exact z3_lt _ (by rw [s6.1]; decide)
  have WR7 : ∀ g, hR G7 g 0 = hR Y6 g 0 := fun g => by rw [B7.2.2.2.2.2.2.2.1 g 0 (by rw [hN_nw, s6.1]; decide) (by decide)]; exact z3_lt _ (by rw [s6.1]; decide)
  obtain ⟨u7, x7⟩ := sx_sub (n' := 666) s6 (by decide) B7 (fun x hx k => by omega) N7
  have Az_7 := Az_6b.tr x7 (fun _ _ k => k)
  clear Az_6b
  have Ao1_7 := Ao1_6b.tr x7 (fun _ _ k => k)
  clear Ao1_6b
  have Ao3_7 := Ao3_6b.tr x7 (fun _ _ k => k)
  clear Ao3_6b
  have Ao105_7 := Ao105_6b.tr x7 (fun _ _ k => k)
  clear Ao105_6b
  have Ao116_7 := Ao116_6b.tr x7 (fun _ _ k => k)
  clear Ao116_6b
  have Ao218_7 := Ao218_6b.tr x7 (fun _ _ k => k)
  clear Ao218_6b
  have Ao229_7 := y6.tr x7 (fun _ _ k => k)
  clear y6
  have Vz_7 : hI G7 1205 0 0 = 0 ∧ hI G7 1209 0 0 = 0 := ⟨by rw [W7]; exact Vz_6b.1, by rw [W7]; exact Vz_6b.2⟩
  refine ⟨u7.2.1, ?_⟩
  obtain ⟨s7, y7⟩ := sx_sR (g := 1207) (i := 0) (v := some 242) u7
  have Az_7b := Az_7.tr y7 (fun _ _ k => k)
  clear Az_7
  have Ao1_7b := Ao1_7.tr y7 (fun _ _ k => k)
  clear Ao1_7
  have Ao3_7b := Ao3_7.tr y7 (fun _ _ k => k)
  clear Ao3_7
  have Ao105_7b := Ao105_7.tr y7 (fun _ _ k => k)
  clear Ao105_7
  have Ao116_7b := Ao116_7.tr y7 (fun _ _ k => k)
  clear Ao116_7
  have Ao218_7b := Ao218_7.tr y7 (fun _ _ k => k)
  clear Ao218_7
  have Ao229_7b := Ao229_7.tr y7 (fun _ _ k => k)
  clear Ao229_7
  have Vz_7b : hI (sR G7 1207 0 0 (some 242)) 1205 0 0 = 0 ∧ hI (sR G7 1207 0 0 (some 242)) 1209 0 0 = 0 := Vz_7
  have R1207_7b : hR (sR G7 1207 0 0 (some 242)) 1207 0 0 = some 242 := by rw [hRs, if_pos ⟨rfl, rfl, rfl⟩]
  generalize sR G7 1207 0 0 (some 242) = Y7 at *
  rw [s7.1]
  refine ⟨by decide, by decide, by decide, by decide, by decide, K_pinit (d := d + 2) (a := 666) (by rw [tg_nw, if_pos s7.1.symm]) (by rw [hN_nw, s7.1]) (by decide) fun G8 B8 N8 f666 => ?_⟩
  have W8 : ∀ g, hI G8 g 0 = hI Y7 g 0 := fun g => by rw [B8.2.2.2.1 g 0 (by rw [hN_nw, s7.1]; decide) (by decide)]; exact z3_lt _ (by rw [s7.1]; decide)
  have WR8 : ∀ g, hR G8 g 0 = hR Y7 g 0 := fun g => by rw [B8.2.2.2.2.2.2.2.1 g 0 (by rw [hN_nw, s7.1]; decide) (by decide)]; exact z3_lt _ (by rw [s7.1]; decide)
  obtain ⟨u8, x8⟩ := sx_sub (n' := 1090) s7 (by decide) B8 (fun x hx k => by omega) N8
  have Az_8 := Az_7b.tr x8 (fun _ _ k => k)
  clear Az_7b
  have Ao1_8 := Ao1_7b.tr x8 (fun _ _ k => k)
  clear Ao1_7b
  have Ao3_8 := Ao3_7b.tr x8 (fun _ _ k => k)
  clear Ao3_7b
  have Ao105_8 := Ao105_7b.tr x8 (fun _ _ k => k)
  clear Ao105_7b
  have Ao116_8 := Ao116_7b.tr x8 (fun _ _ k => k)
  clear Ao116_7b
  have Ao218_8 := Ao218_7b.tr x8 (fun _ _ k => k)
  clear Ao218_7b
  have Ao229_8 := Ao229_7b.tr x8 (fun _ _ k => k)
  clear Ao229_7b
  have Ao242_8 := y7.tr x8 (fun _ _ k => k)
  clear y7
  have Vz_8 : hI G8 1205 0 0 = 0 ∧ hI G8 1209 0 0 = 0 := ⟨by rw [W8]; exact Vz_7b.1, by rw [W8]; exact Vz_7b.2⟩
  have R1207_8 : hR G8 1207 0 0 = some 242 := by rw [WR8]; exact R1207_7b
  refine ⟨u8.2.1, ?_⟩
  obtain ⟨s8, y8⟩ := sx_sR (g := 1208) (i := 0) (v := some 666) u8
  have Az_8b := Az_8.tr y8 (fun _ _ k => k)
  clear Az_8
  have Ao1_8b := Ao1_8.tr y8 (fun _ _ k => k)
  clear Ao1_8
  have Ao3_8b := Ao3_8.tr y8 (fun _ _ k => k)
  clear Ao3_8
  have Ao105_8b := Ao105_8.tr y8 (fun _ _ k => k)
  clear Ao105_8
  have Ao116_8b := Ao116_8.tr y8 (fun _ _ k => k)
  clear Ao116_8
  have Ao218_8b := Ao218_8.tr y8 (fun _ _ k => k)
  clear Ao218_8
  have Ao229_8b := Ao229_8.tr y8 (fun _ _ k => k)
  clear Ao229_8
  have Ao242_8b := Ao242_8.tr y8 (fun _ _ k => k)
  clear Ao242_8
  have Vz_8b : hI (sR G8 1208 0 0 (some 666)) 1205 0 0 = 0 ∧ hI (sR G8 1208 0 0 (some 666)) 1209 0 0 = 0 := Vz_8
  have R1207_8b : hR (sR G8 1208 0 0 (some 666)) 1207 0 0 = some 242 := by rw [hRs, if_neg (fun k => absurd k.1 (by decide))]; exact R1207_8
  have R1208_8b : hR (sR G8 1208 0 0 (some 666)) 1208 0 0 = some 666 := by rw [hRs, if_pos ⟨rfl, rfl, rfl⟩]
  generalize sR G8 1208 0 0 (some 666) = Y8 at *
  have eN9 := s8.1
  obtain ⟨s9, x9, w9, h9⟩ := sx_arr (g := 1210) (t := 4568) (l := 4) s8 (by decide) (by decide)
  have W9 : ∀ g, hI (sC (nw Y8 4568 4) 1210 0 (some (hN Y8))) g 0 = hI Y8 g 0 := fun g => z3_lt _ (by rw [s8.1]; decide)
  have WR9 : ∀ g, hR (sC (nw Y8 4568 4) 1210 0 (some (hN Y8))) g 0 = hR Y8 g 0 := fun g => z3_lt _ (by rw [s8.1]; decide)
  have Az_9 := Az_8b.tr x9 (fun _ _ k => k)
  clear Az_8b
  have Ao1_9 := Ao1_8b.tr x9 (fun _ _ k => k)
  clear Ao1_8b
  have Ao3_9 := Ao3_8b.tr x9 (fun _ _ k => k)
  clear Ao3_8b
  have Ao105_9 := Ao105_8b.tr x9 (fun _ _ k => k)
  clear Ao105_8b
  have Ao116_9 := Ao116_8b.tr x9 (fun _ _ k => k)
  clear Ao116_8b
  have Ao218_9 := Ao218_8b.tr x9 (fun _ _ k => k)
  clear Ao218_8b
  have Ao229_9 := Ao229_8b.tr x9 (fun _ _ k => k)
  clear Ao229_8b
  have Ao242_9 := Ao242_8b.tr x9 (fun _ _ k => k)
  clear Ao242_8b
  have Ao666_9 := y8.tr x9 (fun _ _ k => k)
  clear y8
  have Vz_9 : hI (sC (nw Y8 4568 4) 1210 0 (some (hN Y8))) 1205 0 0 = 0 ∧ hI (sC (nw Y8 4568 4) 1210 0 (some (hN Y8))) 1209 0 0 = 0 := ⟨by rw [W9]; exact Vz_8b.1, by rw [W9]; exact Vz_8b.2⟩
  have R1207_9 : hR (sC (nw Y8 4568 4) 1210 0 (some (hN Y8))) 1207 0 0 = some 242 := by rw [WR9]; exact R1207_8b
  have R1208_9 : hR (sC (nw Y8 4568 4) 1210 0 (some (hN Y8))) 1208 0 0 = some 666 := by rw [WR9]; exact R1208_8b
  refine ⟨by rw [eN9]; decide, by decide, by decide, w9, ?_⟩
  generalize sC (nw Y8 4568 4) 1210 0 (some (hN Y8)) = Y9 at *
  have Ao1090_9 : Ext P0 Y9 Y9 := Ext.rf
  have eN10 := s9.1
  obtain ⟨s10, x10, w10, h10⟩ := sx_arr (g := 1211) (t := 4585) (l := 3) s9 (by decide) (by decide)
  have W10 : ∀ g, hI (sC (nw Y9 4585 3) 1211 0 (some (hN Y9))) g 0 = hI Y9 g 0 := fun g => z3_lt _ (by rw [s9.1]; decide)
  have WR10 : ∀ g, hR (sC (nw Y9 4585 3) 1211 0 (some (hN Y9))) g 0 = hR Y9 g 0 := fun g => z3_lt _ (by rw [s9.1]; decide)
  have Az_10 := Az_9.tr x10 (fun _ _ k => k)
  clear Az_9
  have Ao1_10 := Ao1_9.tr x10 (fun _ _ k => k)
  clear Ao1_9
  have Ao3_10 := Ao3_9.tr x10 (fun _ _ k => k)
  clear Ao3_9
  have Ao105_10 := Ao105_9.tr x10 (fun _ _ k => k)
  clear Ao105_9
  have Ao116_10 := Ao116_9.tr x10 (fun _ _ k => k)
  clear Ao116_9
  have Ao218_10 := Ao218_9.tr x10 (fun _ _ k => k)
  clear Ao218_9
  have Ao229_10 := Ao229_9.tr x10 (fun _ _ k => k)
  clear Ao229_9
  have Ao242_10 := Ao242_9.tr x10 (fun _ _ k => k)
  clear Ao242_9
  have Ao666_10 := Ao666_9.tr x10 (fun _ _ k => k)
  clear Ao666_9
  have Ao1090_10 := Ao1090_9.tr x10 (fun _ _ k => k)
  clear Ao1090_9
  have Vz_10 : hI (sC (nw Y9 4585 3) 1211 0 (some (hN Y9))) 1205 0 0 = 0 ∧ hI (sC (nw Y9 4585 3) 1211 0 (some (hN Y9))) 1209 0 0 = 0 := ⟨by rw [W10]; exact Vz_9.1, by rw [W10]; exact Vz_9.2⟩
  have R1207_10 : hR (sC (nw Y9 4585 3) 1211 0 (some (hN Y9))) 1207 0 0 = some 242 := by rw [WR10]; exact R1207_9
  have R1208_10 : hR (sC (nw Y9 4585 3) 1211 0 (some (hN Y9))) 1208 0 0 = some 666 := by rw [WR10]; exact R1208_9
  refine ⟨by rw [eN10]; decide, by decide, by decide, w10, ?_⟩
  intro HX eX
  subst eX
  generalize sC (nw Y9 4585 3) 1211 0 (some (hN Y9)) = Y10 at *
  have Ao1091_10 : Ext P0 Y10 Y10 := Ext.rf
  rw [s10.1]
  refine ⟨by decide, by decide, by decide, by decide, by decide, K_binit (d := d + 4) (b := 1092) (by rw [tg_nw, if_pos s10.1.symm]) (by rw [hN_nw, s10.1]) (by decide) fun G11 B11 N11 f1092 => ?_⟩
  have W11 : ∀ g, hI G11 g 0 = hI Y10 g 0 := fun g => by rw [B11.2.2.2.1 g 0 (by rw [hN_nw, s10.1]; decide) (by decide)]; exact z3_lt _ (by rw [s10.1]; decide)
  have WR11 : ∀ g, hR G11 g 0 = hR Y10 g 0 := fun g => by rw [B11.2.2.2.2.2.2.2.1 g 0 (by rw [hN_nw, s10.1]; decide) (by decide)]; exact z3_lt _ (by rw [s10.1]; decide)
  obtain ⟨u11, x11⟩ := sx_sub (n' := 1094) s10 (by decide) B11 (fun x hx k => by omega) N11
  have Az_11 := Az_10.tr x11 (fun _ _ k => k)
  clear Az_10
  have Ao1_11 := Ao1_10.tr x11 (fun _ _ k => k)
  clear Ao1_10
  have Ao3_11 := Ao3_10.tr x11 (fun _ _ k => k)
  clear Ao3_10
  have Ao105_11 := Ao105_10.tr x11 (fun _ _ k => k)
  clear Ao105_10
  have Ao116_11 := Ao116_10.tr x11 (fun _ _ k => k)
  clear Ao116_10
  have Ao218_11 := Ao218_10.tr x11 (fun _ _ k => k)
  clear Ao218_10
  have Ao229_11 := Ao229_10.tr x11 (fun _ _ k => k)
  clear Ao229_10
  have Ao242_11 := Ao242_10.tr x11 (fun _ _ k => k)
  clear Ao242_10
  have Ao666_11 := Ao666_10.tr x11 (fun _ _ k => k)
  clear Ao666_10
  have Ao1090_11 := Ao1090_10.tr x11 (fun _ _ k => k)
  clear Ao1090_10
  have Ao1091_11 := Ao1091_10.tr x11 (fun _ _ k => k)
  clear Ao1091_10
  have Vz_11 : hI G11 1205 0 0 = 0 ∧ hI G11 1209 0 0 = 0 := ⟨by rw [W11]; exact Vz_10.1, by rw [W11]; exact Vz_10.2⟩
  have R1207_11 : hR G11 1207 0 0 = some 242 := by rw [WR11]; exact R1207_10
  have R1208_11 : hR G11 1208 0 0 = some 666 := by rw [WR11]; exact R1208_10
  refine ⟨u11.2.1, ?_⟩
  obtain ⟨s11, y11⟩ := sx_sC (g := 1212) (v := 1092) u11 (by decide)
  have Az_11b := Az_11.tr y11 (fun _ _ k => k)
  clear Az_11
  have Ao1_11b := Ao1_11.tr y11 (fun _ _ k => k)
  clear Ao1_11
  have Ao3_11b := Ao3_11.tr y11 (fun _ _ k => k)
  clear Ao3_11
  have Ao105_11b := Ao105_11.tr y11 (fun _ _ k => k)
  clear Ao105_11
  have Ao116_11b := Ao116_11.tr y11 (fun _ _ k => k)
  clear Ao116_11
  have Ao218_11b := Ao218_11.tr y11 (fun _ _ k => k)
  clear Ao218_11
  have Ao229_11b := Ao229_11.tr y11 (fun _ _ k => k)
  clear Ao229_11
  have Ao242_11b := Ao242_11.tr y11 (fun _ _ k => k)
  clear Ao242_11
  have Ao666_11b := Ao666_11.tr y11 (fun _ _ k => k)
  clear Ao666_11
  have Ao1090_11b := Ao1090_11.tr y11 (fun _ _ k => k)
  clear Ao1090_11
  have Ao1091_11b := Ao1091_11.tr y11 (fun _ _ k => k)
  clear Ao1091_11
  have Vz_11b : hI (sC G11 1212 0 (some 1092)) 1205 0 0 = 0 ∧ hI (sC G11 1212 0 (some 1092)) 1209 0 0 = 0 := Vz_11
  have R1207_11b : hR (sC G11 1212 0 (some 1092)) 1207 0 0 = some 242 := R1207_11
  have R1208_11b : hR (sC G11 1212 0 (some 1092)) 1208 0 0 = some 666 := R1208_11
  generalize sC G11 1212 0 (some 1092) = Y11 at *
  rw [s11.1]
  refine ⟨by decide, by decide, by decide, K_finit (d := d + 4) (by rw [tg_nw, if_pos s11.1.symm]) ?_⟩
  have B12 : Ext (fun x => x = 1094) (nw Y11 4 0) (setF (nw Y11 4 0) 1094 (0, 1)) := (Ext_sL (P := fun x => x = 1094) rfl).tr (Ext_sL (P := fun x => x = 1094) rfl) (fun _ _ k => k)
  have N12 : hN (setF (nw Y11 4 0) 1094 (0, 1)) = 1095 := by show hN Y11 + 1 = _; rw [s11.1]
  have T12 : tg (setF (nw Y11 4 0) 1094 (0, 1)) 1094 = 4 := by show tg (nw Y11 4 0) 1094 = 4; rw [tg_nw, if_pos s11.1.symm]
  have W12 : ∀ g, hI (setF (nw Y11 4 0) 1094 (0, 1)) g 0 = hI Y11 g 0 := fun g => z3_lt _ (by rw [s11.1]; decide)
  have WR12 : ∀ g, hR (setF (nw Y11 4 0) 1094 (0, 1)) g 0 = hR Y11 g 0 := fun g => z3_lt _ (by rw [s11.1]; decide)
  generalize setF (nw Y11 4 0) 1094 (0, 1) = G12 at *
  obtain ⟨u12, x12⟩ := sx_sub (n' := 1095) s11 (by decide) B12 (fun x hx k => by omega) N12
  have Az_12 := Az_11b.tr x12 (fun _ _ k => k)
  clear Az_11b
  have Ao1_12 := Ao1_11b.tr x12 (fun _ _ k => k)
  clear Ao1_11b
  have Ao3_12 := Ao3_11b.tr x12 (fun _ _ k => k)
  clear Ao3_11b
  have Ao105_12 := Ao105_11b.tr x12 (fun _ _ k => k)
  clear Ao105_11b
  have Ao116_12 := Ao116_11b.tr x12 (fun _ _ k => k)
  clear Ao116_11b
  have Ao218_12 := Ao218_11b.tr x12 (fun _ _ k => k)
  clear Ao218_11b
  have Ao229_12 := Ao229_11b.tr x12 (fun _ _ k => k)
  clear Ao229_11b
  have Ao242_12 := Ao242_11b.tr x12 (fun _ _ k => k)
  clear Ao242_11b
  have Ao666_12 := Ao666_11b.tr x12 (fun _ _ k => k)
  clear Ao666_11b
  have Ao1090_12 := Ao1090_11b.tr x12 (fun _ _ k => k)
  clear Ao1090_11b
  have Ao1091_12 := Ao1091_11b.tr x12 (fun _ _ k => k)
  clear Ao1091_11b
  have Ao1092_12 := y11.tr x12 (fun _ _ k => k)
  clear y11
  have Vz_12 : hI G12 1205 0 0 = 0 ∧ hI G12 1209 0 0 = 0 := ⟨by rw [W12]; exact Vz_11b.1, by rw [W12]; exact Vz_11b.2⟩
  have R1207_12 : hR G12 1207 0 0 = some 242 := by rw [WR12]; exact R1207_11b
  have R1208_12 : hR G12 1208 0 0 = some 666 := by rw [WR12]; exact R1208_11b
  refine ⟨u12.2.1, ?_⟩
  obtain ⟨s12, y12⟩ := sx_sC (g := 1213) (v := 1094) u12 (by decide)
  have Az_12b := Az_12.tr y12 (fun _ _ k => k)
  clear Az_12
  have Ao1_12b := Ao1_12.tr y12 (fun _ _ k => k)
  clear Ao1_12
  have Ao3_12b := Ao3_12.tr y12 (fun _ _ k => k)
  clear Ao3_12
  have Ao105_12b := Ao105_12.tr y12 (fun _ _ k => k)
  clear Ao105_12
  have Ao116_12b := Ao116_12.tr y12 (fun _ _ k => k)
  clear Ao116_12
  have Ao218_12b := Ao218_12.tr y12 (fun _ _ k => k)
  clear Ao218_12
  have Ao229_12b := Ao229_12.tr y12 (fun _ _ k => k)
  clear Ao229_12
  have Ao242_12b := Ao242_12.tr y12 (fun _ _ k => k)
  clear Ao242_12
  have Ao666_12b := Ao666_12.tr y12 (fun _ _ k => k)
  clear Ao666_12
  have Ao1090_12b := Ao1090_12.tr y12 (fun _ _ k => k)
  clear Ao1090_12
  have Ao1091_12b := Ao1091_12.tr y12 (fun _ _ k => k)
  clear Ao1091_12
  have Ao1092_12b := Ao1092_12.tr y12 (fun _ _ k => k)
  clear Ao1092_12
  have Vz_12b : hI (sC G12 1213 0 (some 1094)) 1205 0 0 = 0 ∧ hI (sC G12 1213 0 (some 1094)) 1209 0 0 = 0 := Vz_12
  have R1207_12b : hR (sC G12 1213 0 (some 1094)) 1207 0 0 = some 242 := R1207_12
  have R1208_12b : hR (sC G12 1213 0 (some 1094)) 1208 0 0 = some 666 := R1208_12
  generalize sC G12 1213 0 (some 1094) = Y12 at *
  rw [s12.1]
  refine ⟨by decide, by decide, by decide, K_finit (d := d + 4) (by rw [tg_nw, if_pos s12.1.symm]) ?_⟩
  have B13 : Ext (fun x => x = 1095) (nw Y12 4 0) (setF (nw Y12 4 0) 1095 (0, 1)) := (Ext_sL (P := fun x => x = 1095) rfl).tr (Ext_sL (P := fun x => x = 1095) rfl) (fun _ _ k => k)
  have N13 : hN (setF (nw Y12 4 0) 1095 (0, 1)) = 1096 := by show hN Y12 + 1 = _; rw [s12.1]
  have T13 : tg (setF (nw Y12 4 0) 1095 (0, 1)) 1095 = 4 := by show tg (nw Y12 4 0) 1095 = 4; rw [tg_nw, if_pos s12.1.symm]
  have W13 : ∀ g, hI (setF (nw Y12 4 0) 1095 (0, 1)) g 0 = hI Y12 g 0 := fun g => z3_lt _ (by rw [s12.1]; decide)
  have WR13 : ∀ g, hR (setF (nw Y12 4 0) 1095 (0, 1)) g 0 = hR Y12 g 0 := fun g => z3_lt _ (by rw [s12.1]; decide)
  generalize setF (nw Y12 4 0) 1095 (0, 1) = G13 at *
  obtain ⟨u13, x13⟩ := sx_sub (n' := 1096) s12 (by decide) B13 (fun x hx k => by omega) N13
  have Az_13 := Az_12b.tr x13 (fun _ _ k => k)
  clear Az_12b
  have Ao1_13 := Ao1_12b.tr x13 (fun _ _ k => k)
  clear Ao1_12b
  have Ao3_13 := Ao3_12b.tr x13 (fun _ _ k => k)
  clear Ao3_12b
  have Ao105_13 := Ao105_12b.tr x13 (fun _ _ k => k)
  clear Ao105_12b
  have Ao116_13 := Ao116_12b.tr x13 (fun _ _ k => k)
  clear Ao116_12b
  have Ao218_13 := Ao218_12b.tr x13 (fun _ _ k => k)
  clear Ao218_12b
  have Ao229_13 := Ao229_12b.tr x13 (fun _ _ k => k)
  clear Ao229_12b
  have Ao242_13 := Ao242_12b.tr x13 (fun _ _ k => k)
  clear Ao242_12b
  have Ao666_13 := Ao666_12b.tr x13 (fun _ _ k => k)
  clear Ao666_12b
  have Ao1090_13 := Ao1090_12b.tr x13 (fun _ _ k => k)
  clear Ao1090_12b
  have Ao1091_13 := Ao1091_12b.tr x13 (fun _ _ k => k)
  clear Ao1091_12b
  have Ao1092_13 := Ao1092_12b.tr x13 (fun _ _ k => k)
  clear Ao1092_12b
  have Ao1094_13 := y12.tr x13 (fun _ _ k => k)
  clear y12
  have Vz_13 : hI G13 1205 0 0 = 0 ∧ hI G13 1209 0 0 = 0 := ⟨by rw [W13]; exact Vz_12b.1, by rw [W13]; exact Vz_12b.2⟩
  have R1207_13 : hR G13 1207 0 0 = some 242 := by rw [WR13]; exact R1207_12b
  have R1208_13 : hR G13 1208 0 0 = some 666 := by rw [WR13]; exact R1208_12b
  refine ⟨u13.2.1, ?_⟩
  obtain ⟨s13, y13⟩ := sx_sC (g := 1214) (v := 1095) u13 (by decide)
  have Az_13b := Az_13.tr y13 (fun _ _ k => k)
  clear Az_13
  have Ao1_13b := Ao1_13.tr y13 (fun _ _ k => k)
  clear Ao1_13
  have Ao3_13b := Ao3_13.tr y13 (fun _ _ k => k)
  clear Ao3_13
  have Ao105_13b := Ao105_13.tr y13 (fun _ _ k => k)
  clear Ao105_13
  have Ao116_13b := Ao116_13.tr y13 (fun _ _ k => k)
  clear Ao116_13
  have Ao218_13b := Ao218_13.tr y13 (fun _ _ k => k)
  clear Ao218_13
  have Ao229_13b := Ao229_13.tr y13 (fun _ _ k => k)
  clear Ao229_13
  have Ao242_13b := Ao242_13.tr y13 (fun _ _ k => k)
  clear Ao242_13
  have Ao666_13b := Ao666_13.tr y13 (fun _ _ k => k)
  clear Ao666_13
  have Ao1090_13b := Ao1090_13.tr y13 (fun _ _ k => k)
  clear Ao1090_13
  have Ao1091_13b := Ao1091_13.tr y13 (fun _ _ k => k)
  clear Ao1091_13
  have Ao1092_13b := Ao1092_13.tr y13 (fun _ _ k => k)
  clear Ao1092_13
  have Ao1094_13b := Ao1094_13.tr y13 (fun _ _ k => k)
  clear Ao1094_13
  have Vz_13b : hI (sC G13 1214 0 (some 1095)) 1205 0 0 = 0 ∧ hI (sC G13 1214 0 (some 1095)) 1209 0 0 = 0 := Vz_13
  have R1207_13b : hR (sC G13 1214 0 (some 1095)) 1207 0 0 = some 242 := R1207_13
  have R1208_13b : hR (sC G13 1214 0 (some 1095)) 1208 0 0 = some 666 := R1208_13
  generalize sC G13 1214 0 (some 1095) = Y13 at *
  have eN14 := s13.1
  obtain ⟨s14, x14, w14, h14⟩ := sx_arr (g := 1215) (t := 4598) (l := 3) s13 (by decide) (by decide)
  have W14 : ∀ g, hI (sC (nw Y13 4598 3) 1215 0 (some (hN Y13))) g 0 = hI Y13 g 0 := fun g => z3_lt _ (by rw [s13.1]; decide)
  have WR14 : ∀ g, hR (sC (nw Y13 4598 3) 1215 0 (some (hN Y13))) g 0 = hR Y13 g 0 := fun g => z3_lt _ (by rw [s13.1]; decide)
  have Az_14 := Az_13b.tr x14 (fun _ _ k => k)
  clear Az_13b
  have Ao1_14 := Ao1_13b.tr x14 (fun _ _ k => k)
  clear Ao1_13b
  have Ao3_14 := Ao3_13b.tr x14 (fun _ _ k => k)
  clear Ao3_13b
  have Ao105_14 := Ao105_13b.tr x14 (fun _ _ k => k)
  clear Ao105_13b
  have Ao116_14 := Ao116_13b.tr x14 (fun _ _ k => k)
  clear Ao116_13b
  have Ao218_14 := Ao218_13b.tr x14 (fun _ _ k => k)
  clear Ao218_13b
  have Ao229_14 := Ao229_13b.tr x14 (fun _ _ k => k)
  clear Ao229_13b
  have Ao242_14 := Ao242_13b.tr x14 (fun _ _ k => k)
  clear Ao242_13b
  have Ao666_14 := Ao666_13b.tr x14 (fun _ _ k => k)
  clear Ao666_13b
  have Ao1090_14 := Ao1090_13b.tr x14 (fun _ _ k => k)
  clear Ao1090_13b
  have Ao1091_14 := Ao1091_13b.tr x14 (fun _ _ k => k)
  clear Ao1091_13b
  have Ao1092_14 := Ao1092_13b.tr x14 (fun _ _ k => k)
  clear Ao1092_13b
  have Ao1094_14 := Ao1094_13b.tr x14 (fun _ _ k => k)
  clear Ao1094_13b
  have Ao1095_14 := y13.tr x14 (fun _ _ k => k)
  clear y13
  have Vz_14 : hI (sC (nw Y13 4598 3) 1215 0 (some (hN Y13))) 1205 0 0 = 0 ∧ hI (sC (nw Y13 4598 3) 1215 0 (some (hN Y13))) 1209 0 0 = 0 := ⟨by rw [W14]; exact Vz_13b.1, by rw [W14]; exact Vz_13b.2⟩
  have R1207_14 : hR (sC (nw Y13 4598 3) 1215 0 (some (hN Y13))) 1207 0 0 = some 242 := by rw [WR14]; exact R1207_13b
  have R1208_14 : hR (sC (nw Y13 4598 3) 1215 0 (some (hN Y13))) 1208 0 0 = some 666 := by rw [WR14]; exact R1208_13b
  refine ⟨by rw [eN14]; decide, by decide, by decide, w14, ?_⟩
  intro HX eX
  subst eX
  generalize sC (nw Y13 4598 3) 1215 0 (some (hN Y13)) = Y14 at *
  have Ao1096_14 : Ext P0 Y14 Y14 := Ext.rf
  refine fin Y14 ⟨s14, ?_, ?_, ?_, ?_, ?_, ?_, ?_, ?_, ?_, ⟨R1207_14, R1208_14⟩, ?_, ?_, ?_, ?_, ?_, ?_, Vz_14⟩ (Az_14.2.1)
  · exact ⟨ex_shTape (exR_of Ao1_14 (by rw [N1]; decide) (fun x k1 k2 k3 => by omega)) f1, ex_hI Ao1_14 (by rw [N1]; decide) (by decide) f1b, ex_hI Ao1_14 (by rw [N1]; decide) (by decide) f1c⟩
  · exact ex_zUnits (exR_of Ao3_14 (by rw [N2]; decide) (fun x k1 k2 k3 => by omega)) f3
  · exact ex_CCl (exR_of Ao105_14 (by rw [N3]; decide) (fun x k1 k2 k3 => by omega)) f105
  · exact ex_shUnits (exR_of Ao116_14 (by rw [N4]; decide) (fun x k1 k2 k3 => by omega)) f116.1
  · exact ex_shCl (exR_of Ao218_14 (by rw [N5]; decide) (fun x k1 k2 k3 => by omega)) f218.1
  · exact ex_shDef (exR_of Ao229_14 (by rw [N6]; decide) (fun x k1 k2 k3 => by omega)) f229
  · exact ex_LtB (exR_of Ao229_14 (by rw [N6]; decide) (fun x k1 k2 k3 => by omega)) f229b
  · exact ⟨ex_shProof (exR_of Ao242_14 (by rw [N7]; decide) (fun x k1 k2 k3 => by omega)) f242.1, ex_hI Ao242_14 (by rw [N7]; decide) (by decide) f242.2.2.1⟩
  · exact ex_shProof (exR_of Ao666_14 (by rw [N8]; decide) (fun x k1 k2 k3 => by omega)) f666.1
  · exact ext_hT Ao1090_14 (by rw [s9.1]; decide) h9
  · exact ext_hT Ao1091_14 (by rw [s10.1]; decide) h10
  · exact ex_shBits (exR_of Ao1092_14 (by rw [N11]; decide) (fun x k1 k2 k3 => by omega)) f1092
  · exact ex_tg Ao1094_14 (by rw [N12]; decide) (by decide) T12
  · exact ex_tg Ao1095_14 (by rw [N13]; decide) (by decide) T13
  · exact h14
