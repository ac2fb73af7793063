
/-! ===== building the reference: its arrays ===== -/
def Zr (H : HP) (a : Nat) : Prop := ∀ x, a < x → x < hN H → ∀ g i, hI H g x i = 0 ∧ hL H g x i = 0
abbrev RowL : Type := List (Nat × Nat × Nat)
def rowK (L : RowL) (k : Nat) : Nat × Nat × Nat := L.getD k (0, 0, 0)
def rowsOK (L : RowL) (H : HP) (a c n : Nat) : Prop := hN H = a + 1 + n ∧ tg H a = c ∧ (∀ k, k < n → hC H (rowK L k).1 a = some (a + 1 + k) ∧ hT H (a + 1 + k) = ((rowK L k).2.1, (rowK L k).2.2)) ∧ Zr H a
theorem rows_step {L : RowL} {H : HP} {a c n g t l : Nat} (r : rowsOK L H a c n) (e : rowK L n = (g, t, l)) (hg : ∀ k, k < n → (rowK L k).1 ≠ g) : tg (nw H t l) a = c ∧ rowsOK L (sC (nw H t l) g a (some (hN H))) a c (n + 1) ∧ Ext (fun x => x = a) H (sC (nw H t l) g a (some (hN H))) ∧ ∀ g' i, hI (sC (nw H t l) g a (some (hN H))) g' a i = hI H g' a i := by
  obtain ⟨r1, r2, r3, r4⟩ := r
  have E := nA_Ext (H := H) (a := a) (g := g) (t := t) (n := l)
  refine ⟨nA_tg' (by omega) r2, ⟨by show hN H + 1 = _; omega, nA_tg (by omega) r2, fun k hk => ?_, fun x hx hxn g' i => ?_⟩, E, fun g' i => by rw [nA_hI (by omega)]⟩
  · by_cases ek : k = n
    · subst ek
      rw [e]
      exact ⟨nA_hC r1, nA_hT r1⟩
    · obtain ⟨s1, s2⟩ := r3 k (by omega)
      refine ⟨?_, ext_hT E (by omega) s2⟩
      rw [nA_keep (by omega) (hg k (by omega))]; exact s1
  · show z3 (hI H) (hN H) 0 g' x i = 0 ∧ z3 (hL H) (hN H) 0 g' x i = 0
    have hxn : x < hN H + 1 := hxn
    by_cases hx2 : x = hN H
    · unfold z3; rw [if_pos hx2, if_pos hx2]; exact ⟨rfl, rfl⟩
    · rw [z3_lt _ (show x < hN H by omega), z3_lt _ (show x < hN H by omega)]; exact r4 x hx (by omega) g' i
def LX12 : RowL := [(1301, 4640, 80), (1302, 4656, 100), (1303, 4675, 20), (1304, 4691, 20), (1305, 4707, 20), (1306, 4723, 20), (1308, 4736, 64), (1312, 4752, 80), (1313, 4768, 100), (1314, 4784, 64), (1315, 4803, 20), (1316, 4819, 20), (1317, 4835, 20), (1318, 4851, 20), (1322, 4864, 60), (1333, 4880, 60), (1334, 4896, 60), (1335, 4912, 60), (1336, 4928, 60), (1337, 4944, 5), (1345, 4960, 64), (1346, 4976, 320), (1347, 4995, 64), (1348, 5011, 64), (1350, 5027, 4), (1351, 5040, 4), (1353, 5056, 3), (1354, 5072, 16), (1355, 5088, 20), (1356, 5104, 20), (1357, 5120, 4), (1358, 5136, 4), (1359, 5156, 120), (1360, 5173, 120), (1361, 5184, 18), (1362, 5200, 18)]
theorem shM_rows {H : HP} {m : Nat} (r : rowsOK LX12 H m 13 36) : shM H m := by
  obtain ⟨r1, r2, r3, r4⟩ := r
  have h := fun k (hk : k < 36) => r3 k hk
  exact ⟨r2, h 0 (by decide), h 1 (by decide), h 2 (by decide), h 3 (by decide), h 4 (by decide), h 5 (by decide), h 6 (by decide), h 7 (by decide), h 8 (by decide), h 9 (by decide), h 10 (by decide), h 11 (by decide), h 12 (by decide), h 13 (by decide), h 14 (by decide), h 15 (by decide), h 16 (by decide), h 17 (by decide), h 18 (by decide), h 19 (by decide), h 20 (by decide), h 21 (by decide), h 22 (by decide), h 23 (by decide), h 24 (by decide), h 25 (by decide), h 26 (by decide), h 27 (by decide), h 28 (by decide), h 29 (by decide), h 30 (by decide), h 31 (by decide), h 32 (by decide), h 33 (by decide), h 34 (by decide), h 35 (by decide)⟩
theorem minit_rows {d : Nat} {q : HP → Prop} {H : HP} {a : Nat} (ht : tg H a = 13) (hn : hN H = a + 1) (hlim : a + 40 < scrA) (hz0 : ∀ g, hI H g a 0 = 0) (hq : ∀ H', Ext (fun x => x = a) H H' → rowsOK LX12 H' a 13 36 → hI H' 1300 a 0 = 5 → (∀ g, g ≠ 1300 → hI H' g a 0 = 0) → L_X12_init_294 d 0 0 q a 0 H') : wb_X12_init_0 d 36 1816 q a H := by
  have hs : scrA = 1000000 := rfl
  unfold wb_X12_init_0
  have E0 : Ext (fun x => x = a) H (sI H 1300 a 0 (5 : Int32)) := Ext_sI rfl
  have r0 : rowsOK LX12 (sI H 1300 a 0 (5 : Int32)) a 13 0 := by
    refine ⟨hn, ht, fun k hk => by omega, fun x hx hxn g i => ?_⟩
    have hxn : x < hN H := hxn
    omega
  have v0 : ∀ g, hI (sI H 1300 a 0 (5 : Int32)) g a 0 = if g = 1300 then 5 else 0 := fun g => by
    rw [hIs]
    by_cases e : g = 1300
    · rw [if_pos e, if_pos ⟨e, rfl, rfl⟩]
    · rw [if_neg e, if_neg (fun k => e k.1)]; exact hz0 g
  refine ⟨ht, ?_⟩
  generalize sI H 1300 a 0 (5 : Int32) = H0 at *
  obtain ⟨g0, r1, X0, w0⟩ := rows_step (g := 1301) (t := 4640) (l := 80) r0 rfl (by decide)
  have E1 := E0.tr X0 (fun _ _ k => k)
  have v1 : ∀ g, hI (sC (nw H0 4640 80) 1301 a (some (hN H0))) g a 0 = if g = 1300 then 5 else 0 := fun g => by rw [w0, v0]
  refine ⟨by have := r0.1; omega, by decide, by decide, g0, ?_⟩
  clear r0 E0 v0 g0 X0 w0
  generalize sC (nw H0 4640 80) 1301 a (some (hN H0)) = HA1 at *
  obtain ⟨g1, r2, X1, w1⟩ := rows_step (g := 1302) (t := 4656) (l := 100) r1 rfl (by decide)
  have E2 := E1.tr X1 (fun _ _ k => k)
  have v2 : ∀ g, hI (sC (nw HA1 4656 100) 1302 a (some (hN HA1))) g a 0 = if g = 1300 then 5 else 0 := fun g => by rw [w1, v1]
  refine ⟨by have := r1.1; omega, by decide, by decide, g1, ?_⟩
  intro HX eX
  subst eX
  clear r1 E1 v1 g1 X1 w1
  generalize sC (nw HA1 4656 100) 1302 a (some (hN HA1)) = HA2 at *
  obtain ⟨g2, r3, X2, w2⟩ := rows_step (g := 1303) (t := 4675) (l := 20) r2 rfl (by decide)
  have E3 := E2.tr X2 (fun _ _ k => k)
  have v3 : ∀ g, hI (sC (nw HA2 4675 20) 1303 a (some (hN HA2))) g a 0 = if g = 1300 then 5 else 0 := fun g => by rw [w2, v2]
  refine ⟨by have := r2.1; omega, by decide, by decide, g2, ?_⟩
  clear r2 E2 v2 g2 X2 w2
  generalize sC (nw HA2 4675 20) 1303 a (some (hN HA2)) = HA3 at *
  obtain ⟨g3, r4, X3, w3⟩ := rows_step (g := 1304) (t := 4691) (l := 20) r3 rfl (by decide)
  have E4 := E3.tr X3 (fun _ _ k => k)
  have v4 : ∀ g, hI (sC (nw HA3 4691 20) 1304 a (some (hN HA3))) g a 0 = if g = 1300 then 5 else 0 := fun g => by rw [w3, v3]
  refine ⟨by have := r3.1; omega, by decide, by decide, g3, ?_⟩
  clear r3 E3 v3 g3 X3 w3
  generalize sC (nw HA3 4691 20) 1304 a (some (hN HA3)) = HA4 at *
  obtain ⟨g4, r5, X4, w4⟩ := rows_step (g := 1305) (t := 4707) (l := 20) r4 rfl (by decide)
  have E5 := E4.tr X4 (fun _ _ k => k)
  have v5 : ∀ g, hI (sC (nw HA4 4707 20) 1305 a (some (hN HA4))) g a 0 = if g = 1300 then 5 else 0 := fun g => by rw [w4, v4]
  refine ⟨by have := r4.1; omega, by decide, by decide, g4, ?_⟩
  intro HX eX
  subst eX
  clear r4 E4 v4 g4 X4 w4
  generalize sC (nw HA4 4707 20) 1305 a (some (hN HA4)) = HA5 at *
  obtain ⟨g5, r6, X5, w5⟩ := rows_step (g := 1306) (t := 4723) (l := 20) r5 rfl (by decide)
  have E6 := E5.tr X5 (fun _ _ k => k)
  have v6 : ∀ g, hI (sC (nw HA5 4723 20) 1306 a (some (hN HA5))) g a 0 = if g = 1300 then 5 else 0 := fun g => by rw [w5, v5]
  refine ⟨by have := r5.1; omega, by decide, by decide, g5, ?_⟩
  clear r5 E5 v5 g5 X5 w5
  generalize sC (nw HA5 4723 20) 1306 a (some (hN HA5)) = HA6 at *
  obtain ⟨g6, r7, X6, w6⟩ := rows_step (g := 1308) (t := 4736) (l := 64) r6 rfl (by decide)
  have E7 := E6.tr X6 (fun _ _ k => k)
  have v7 : ∀ g, hI (sC (nw HA6 4736 64) 1308 a (some (hN HA6))) g a 0 = if g = 1300 then 5 else 0 := fun g => by rw [w6, v6]
  refine ⟨by have := r6.1; omega, by decide, by decide, g6, ?_⟩
  clear r6 E6 v6 g6 X6 w6
  generalize sC (nw HA6 4736 64) 1308 a (some (hN HA6)) = HA7 at *
  obtain ⟨g7, r8, X7, w7⟩ := rows_step (g := 1312) (t := 4752) (l := 80) r7 rfl (by decide)
  have E8 := E7.tr X7 (fun _ _ k => k)
  have v8 : ∀ g, hI (sC (nw HA7 4752 80) 1312 a (some (hN HA7))) g a 0 = if g = 1300 then 5 else 0 := fun g => by rw [w7, v7]
  refine ⟨by have := r7.1; omega, by decide, by decide, g7, ?_⟩
  intro HX eX
  subst eX
  clear r7 E7 v7 g7 X7 w7
  generalize sC (nw HA7 4752 80) 1312 a (some (hN HA7)) = HA8 at *
  obtain ⟨g8, r9, X8, w8⟩ := rows_step (g := 1313) (t := 4768) (l := 100) r8 rfl (by decide)
  have E9 := E8.tr X8 (fun _ _ k => k)
  have v9 : ∀ g, hI (sC (nw HA8 4768 100) 1313 a (some (hN HA8))) g a 0 = if g = 1300 then 5 else 0 := fun g => by rw [w8, v8]
  refine ⟨by have := r8.1; omega, by decide, by decide, g8, ?_⟩
  clear r8 E8 v8 g8 X8 w8
  generalize sC (nw HA8 4768 100) 1313 a (some (hN HA8)) = HA9 at *
  obtain ⟨g9, r10, X9, w9⟩ := rows_step (g := 1314) (t := 4784) (l := 64) r9 rfl (by decide)
  have E10 := E9.tr X9 (fun _ _ k => k)
  have v10 : ∀ g, hI (sC (nw HA9 4784 64) 1314 a (some (hN HA9))) g a 0 = if g = 1300 then 5 else 0 := fun g => by rw [w9, v9]
  refine ⟨by have := r9.1; omega, by decide, by decide, g9, ?_⟩
  clear r9 E9 v9 g9 X9 w9
  generalize sC (nw HA9 4784 64) 1314 a (some (hN HA9)) = HA10 at *
  obtain ⟨g10, r11, X10, w10⟩ := rows_step (g := 1315) (t := 4803) (l := 20) r10 rfl (by decide)
  have E11 := E10.tr X10 (fun _ _ k => k)
  have v11 : ∀ g, hI (sC (nw HA10 4803 20) 1315 a (some (hN HA10))) g a 0 = if g = 1300 then 5 else 0 := fun g => by rw [w10, v10]
  refine ⟨by have := r10.1; omega, by decide, by decide, g10, ?_⟩
  intro HX eX
  subst eX
  clear r10 E10 v10 g10 X10 w10
  generalize sC (nw HA10 4803 20) 1315 a (some (hN HA10)) = HA11 at *
  obtain ⟨g11, r12, X11, w11⟩ := rows_step (g := 1316) (t := 4819) (l := 20) r11 rfl (by decide)
  have E12 := E11.tr X11 (fun _ _ k => k)
  have v12 : ∀ g, hI (sC (nw HA11 4819 20) 1316 a (some (hN HA11))) g a 0 = if g = 1300 then 5 else 0 := fun g => by rw [w11, v11]
  refine ⟨by have := r11.1; omega, by decide, by decide, g11, ?_⟩
  clear r11 E11 v11 g11 X11 w11
  generalize sC (nw HA11 4819 20) 1316 a (some (hN HA11)) = HA12 at *
  obtain ⟨g12, r13, X12, w12⟩ := rows_step (g := 1317) (t := 4835) (l := 20) r12 rfl (by decide)
  have E13 := E12.tr X12 (fun _ _ k => k)
  have v13 : ∀ g, hI (sC (nw HA12 4835 20) 1317 a (some (hN HA12))) g a 0 = if g = 1300 then 5 else 0 := fun g => by rw [w12, v12]
  refine ⟨by have := r12.1; omega, by decide, by decide, g12, ?_⟩
  clear r12 E12 v12 g12 X12 w12
  generalize sC (nw HA12 4835 20) 1317 a (some (hN HA12)) = HA13 at *
  obtain ⟨g13, r14, X13, w13⟩ := rows_step (g := 1318) (t := 4851) (l := 20) r13 rfl (by decide)
  have E14 := E13.tr X13 (fun _ _ k => k)
  have v14 : ∀ g, hI (sC (nw HA13 4851 20) 1318 a (some (hN HA13))) g a 0 = if g = 1300 then 5 else 0 := fun g => by rw [w13, v13]
  refine ⟨by have := r13.1; omega, by decide, by decide, g13, ?_⟩
  intro HX eX
  subst eX
  clear r13 E13 v13 g13 X13 w13
  generalize sC (nw HA13 4851 20) 1318 a (some (hN HA13)) = HA14 at *
  obtain ⟨g14, r15, X14, w14⟩ := rows_step (g := 1322) (t := 4864) (l := 60) r14 rfl (by decide)
  have E15 := E14.tr X14 (fun _ _ k => k)
  have v15 : ∀ g, hI (sC (nw HA14 4864 60) 1322 a (some (hN HA14))) g a 0 = if g = 1300 then 5 else 0 := fun g => by rw [w14, v14]
  refine ⟨by have := r14.1; omega, by decide, by decide, g14, ?_⟩
  clear r14 E14 v14 g14 X14 w14
  generalize sC (nw HA14 4864 60) 1322 a (some (hN HA14)) = HA15 at *
  obtain ⟨g15, r16, X15, w15⟩ := rows_step (g := 1333) (t := 4880) (l := 60) r15 rfl (by decide)
  have E16 := E15.tr X15 (fun _ _ k => k)
  have v16 : ∀ g, hI (sC (nw HA15 4880 60) 1333 a (some (hN HA15))) g a 0 = if g = 1300 then 5 else 0 := fun g => by rw [w15, v15]
  refine ⟨by have := r15.1; omega, by decide, by decide, g15, ?_⟩
  clear r15 E15 v15 g15 X15 w15
  generalize sC (nw HA15 4880 60) 1333 a (some (hN HA15)) = HA16 at *
  obtain ⟨g16, r17, X16, w16⟩ := rows_step (g := 1334) (t := 4896) (l := 60) r16 rfl (by decide)
  have E17 := E16.tr X16 (fun _ _ k => k)
  have v17 : ∀ g, hI (sC (nw HA16 4896 60) 1334 a (some (hN HA16))) g a 0 = if g = 1300 then 5 else 0 := fun g => by rw [w16, v16]
  refine ⟨by have := r16.1; omega, by decide, by decide, g16, ?_⟩
  intro HX eX
  subst eX
  clear r16 E16 v16 g16 X16 w16
  generalize sC (nw HA16 4896 60) 1334 a (some (hN HA16)) = HA17 at *
  obtain ⟨g17, r18, X17, w17⟩ := rows_step (g := 1335) (t := 4912) (l := 60) r17 rfl (by decide)
  have E18 := E17.tr X17 (fun _ _ k => k)
  have v18 : ∀ g, hI (sC (nw HA17 4912 60) 1335 a (some (hN HA17))) g a 0 = if g = 1300 then 5 else 0 := fun g => by rw [w17, v17]
  refine ⟨by have := r17.1; omega, by decide, by decide, g17, ?_⟩
  clear r17 E17 v17 g17 X17 w17
  generalize sC (nw HA17 4912 60) 1335 a (some (hN HA17)) = HA18 at *
  obtain ⟨g18, r19, X18, w18⟩ := rows_step (g := 1336) (t := 4928) (l := 60) r18 rfl (by decide)
  have E19 := E18.tr X18 (fun _ _ k => k)
  have v19 : ∀ g, hI (sC (nw HA18 4928 60) 1336 a (some (hN HA18))) g a 0 = if g = 1300 then 5 else 0 := fun g => by rw [w18, v18]
  refine ⟨by have := r18.1; omega, by decide, by decide, g18, ?_⟩
  clear r18 E18 v18 g18 X18 w18
  generalize sC (nw HA18 4928 60) 1336 a (some (hN HA18)) = HA19 at *
  obtain ⟨g19, r20, X19, w19⟩ := rows_step (g := 1337) (t := 4944) (l := 5) r19 rfl (by decide)
  have E20 := E19.tr X19 (fun _ _ k => k)
  have v20 : ∀ g, hI (sC (nw HA19 4944 5) 1337 a (some (hN HA19))) g a 0 = if g = 1300 then 5 else 0 := fun g => by rw [w19, v19]
  refine ⟨by have := r19.1; omega, by decide, by decide, g19, ?_⟩
  intro HX eX
  subst eX
  clear r19 E19 v19 g19 X19 w19
  generalize sC (nw HA19 4944 5) 1337 a (some (hN HA19)) = HA20 at *
  obtain ⟨g20, r21, X20, w20⟩ := rows_step (g := 1345) (t := 4960) (l := 64) r20 rfl (by decide)
  have E21 := E20.tr X20 (fun _ _ k => k)
  have v21 : ∀ g, hI (sC (nw HA20 4960 64) 1345 a (some (hN HA20))) g a 0 = if g = 1300 then 5 else 0 := fun g => by rw [w20, v20]
  refine ⟨by have := r20.1; omega, by decide, by decide, g20, ?_⟩
  clear r20 E20 v20 g20 X20 w20
  generalize sC (nw HA20 4960 64) 1345 a (some (hN HA20)) = HA21 at *
  obtain ⟨g21, r22, X21, w21⟩ := rows_step (g := 1346) (t := 4976) (l := 320) r21 rfl (by decide)
  have E22 := E21.tr X21 (fun _ _ k => k)
  have v22 : ∀ g, hI (sC (nw HA21 4976 320) 1346 a (some (hN HA21))) g a 0 = if g = 1300 then 5 else 0 := fun g => by rw [w21, v21]
  refine ⟨by have := r21.1; omega, by decide, by decide, g21, ?_⟩
  clear r21 E21 v21 g21 X21 w21
  generalize sC (nw HA21 4976 320) 1346 a (some (hN HA21)) = HA22 at *
  obtain ⟨g22, r23, X22, w22⟩ := rows_step (g := 1347) (t := 4995) (l := 64) r22 rfl (by decide)
  have E23 := E22.tr X22 (fun _ _ k => k)
  have v23 : ∀ g, hI (sC (nw HA22 4995 64) 1347 a (some (hN HA22))) g a 0 = if g = 1300 then 5 else 0 := fun g => by rw [w22, v22]
  refine ⟨by have := r22.1; omega, by decide, by decide, g22, ?_⟩
  intro HX eX
  subst eX
  clear r22 E22 v22 g22 X22 w22
  generalize sC (nw HA22 4995 64) 1347 a (some (hN HA22)) = HA23 at *
  obtain ⟨g23, r24, X23, w23⟩ := rows_step (g := 1348) (t := 5011) (l := 64) r23 rfl (by decide)
  have E24 := E23.tr X23 (fun _ _ k => k)
  have v24 : ∀ g, hI (sC (nw HA23 5011 64) 1348 a (some (hN HA23))) g a 0 = if g = 1300 then 5 else 0 := fun g => by rw [w23, v23]
  refine ⟨by have := r23.1; omega, by decide, by decide, g23, ?_⟩
  clear r23 E23 v23 g23 X23 w23
  generalize sC (nw HA23 5011 64) 1348 a (some (hN HA23)) = HA24 at *
  obtain ⟨g24, r25, X24, w24⟩ := rows_step (g := 1350) (t := 5027) (l := 4) r24 rfl (by decide)
  have E25 := E24.tr X24 (fun _ _ k => k)
  have v25 : ∀ g, hI (sC (nw HA24 5027 4) 1350 a (some (hN HA24))) g a 0 = if g = 1300 then 5 else 0 := fun g => by rw [w24, v24]
  refine ⟨by have := r24.1; omega, by decide, by decide, g24, ?_⟩
  clear r24 E24 v24 g24 X24 w24
  generalize sC (nw HA24 5027 4) 1350 a (some (hN HA24)) = HA25 at *
  obtain ⟨g25, r26, X25, w25⟩ := rows_step (g := 1351) (t := 5040) (l := 4) r25 rfl (by decide)
  have E26 := E25.tr X25 (fun _ _ k => k)
  have v26 : ∀ g, hI (sC (nw HA25 5040 4) 1351 a (some (hN HA25))) g a 0 = if g = 1300 then 5 else 0 := fun g => by rw [w25, v25]
  refine ⟨by have := r25.1; omega, by decide, by decide, g25, ?_⟩
  intro HX eX
  subst eX
  clear r25 E25 v25 g25 X25 w25
  generalize sC (nw HA25 5040 4) 1351 a (some (hN HA25)) = HA26 at *
  obtain ⟨g26, r27, X26, w26⟩ := rows_step (g := 1353) (t := 5056) (l := 3) r26 rfl (by decide)
  have E27 := E26.tr X26 (fun _ _ k => k)
  have v27 : ∀ g, hI (sC (nw HA26 5056 3) 1353 a (some (hN HA26))) g a 0 = if g = 1300 then 5 else 0 := fun g => by rw [w26, v26]
  refine ⟨by have := r26.1; omega, by decide, by decide, g26, ?_⟩
  clear r26 E26 v26 g26 X26 w26
  generalize sC (nw HA26 5056 3) 1353 a (some (hN HA26)) = HA27 at *
  obtain ⟨g27, r28, X27, w27⟩ := rows_step (g := 1354) (t := 5072) (l := 16) r27 rfl (by decide)
  have E28 := E27.tr X27 (fun _ _ k => k)
  have v28 : ∀ g, hI (sC (nw HA27 5072 16) 1354 a (some (hN HA27))) g a 0 = if g = 1300 then 5 else 0 := fun g => by rw [w27, v27]
  refine ⟨by have := r27.1; omega, by decide, by decide, g27, ?_⟩
  clear r27 E27 v27 g27 X27 w27
  generalize sC (nw HA27 5072 16) 1354 a (some (hN HA27)) = HA28 at *
  obtain ⟨g28, r29, X28, w28⟩ := rows_step (g := 1355) (t := 5088) (l := 20) r28 rfl (by decide)
  have E29 := E28.tr X28 (fun _ _ k => k)
  have v29 : ∀ g, hI (sC (nw HA28 5088 20) 1355 a (some (hN HA28))) g a 0 = if g = 1300 then 5 else 0 := fun g => by rw [w28, v28]
  refine ⟨by have := r28.1; omega, by decide, by decide, g28, ?_⟩
  intro HX eX
  subst eX
  clear r28 E28 v28 g28 X28 w28
  generalize sC (nw HA28 5088 20) 1355 a (some (hN HA28)) = HA29 at *
  obtain ⟨g29, r30, X29, w29⟩ := rows_step (g := 1356) (t := 5104) (l := 20) r29 rfl (by decide)
  have E30 := E29.tr X29 (fun _ _ k => k)
  have v30 : ∀ g, hI (sC (nw HA29 5104 20) 1356 a (some (hN HA29))) g a 0 = if g = 1300 then 5 else 0 := fun g => by rw [w29, v29]
  refine ⟨by have := r29.1; omega, by decide, by decide, g29, ?_⟩
  clear r29 E29 v29 g29 X29 w29
  generalize sC (nw HA29 5104 20) 1356 a (some (hN HA29)) = HA30 at *
  obtain ⟨g30, r31, X30, w30⟩ := rows_step (g := 1357) (t := 5120) (l := 4) r30 rfl (by decide)
  have E31 := E30.tr X30 (fun _ _ k => k)
  have v31 : ∀ g, hI (sC (nw HA30 5120 4) 1357 a (some (hN HA30))) g a 0 = if g = 1300 then 5 else 0 := fun g => by rw [w30, v30]
  refine ⟨by have := r30.1; omega, by decide, by decide, g30, ?_⟩
  clear r30 E30 v30 g30 X30 w30
  generalize sC (nw HA30 5120 4) 1357 a (some (hN HA30)) = HA31 at *
  obtain ⟨g31, r32, X31, w31⟩ := rows_step (g := 1358) (t := 5136) (l := 4) r31 rfl (by decide)
  have E32 := E31.tr X31 (fun _ _ k => k)
  have v32 : ∀ g, hI (sC (nw HA31 5136 4) 1358 a (some (hN HA31))) g a 0 = if g = 1300 then 5 else 0 := fun g => by rw [w31, v31]
  refine ⟨by have := r31.1; omega, by decide, by decide, g31, ?_⟩
  intro HX eX
  subst eX
  clear r31 E31 v31 g31 X31 w31
  generalize sC (nw HA31 5136 4) 1358 a (some (hN HA31)) = HA32 at *
  obtain ⟨g32, r33, X32, w32⟩ := rows_step (g := 1359) (t := 5156) (l := 120) r32 rfl (by decide)
  have E33 := E32.tr X32 (fun _ _ k => k)
  have v33 : ∀ g, hI (sC (nw HA32 5156 120) 1359 a (some (hN HA32))) g a 0 = if g = 1300 then 5 else 0 := fun g => by rw [w32, v32]
  refine ⟨by have := r32.1; omega, by decide, by decide, g32, ?_⟩
  clear r32 E32 v32 g32 X32 w32
  generalize sC (nw HA32 5156 120) 1359 a (some (hN HA32)) = HA33 at *
  obtain ⟨g33, r34, X33, w33⟩ := rows_step (g := 1360) (t := 5173) (l := 120) r33 rfl (by decide)
  have E34 := E33.tr X33 (fun _ _ k => k)
  have v34 : ∀ g, hI (sC (nw HA33 5173 120) 1360 a (some (hN HA33))) g a 0 = if g = 1300 then 5 else 0 := fun g => by rw [w33, v33]
  refine ⟨by have := r33.1; omega, by decide, by decide, g33, ?_⟩
  clear r33 E33 v33 g33 X33 w33
  generalize sC (nw HA33 5173 120) 1360 a (some (hN HA33)) = HA34 at *
  obtain ⟨g34, r35, X34, w34⟩ := rows_step (g := 1361) (t := 5184) (l := 18) r34 rfl (by decide)
  have E35 := E34.tr X34 (fun _ _ k => k)
  have v35 : ∀ g, hI (sC (nw HA34 5184 18) 1361 a (some (hN HA34))) g a 0 = if g = 1300 then 5 else 0 := fun g => by rw [w34, v34]
  refine ⟨by have := r34.1; omega, by decide, by decide, g34, ?_⟩
  intro HX eX
  subst eX
  clear r34 E34 v34 g34 X34 w34
  generalize sC (nw HA34 5184 18) 1361 a (some (hN HA34)) = HA35 at *
  obtain ⟨g35, r36, X35, w35⟩ := rows_step (g := 1362) (t := 5200) (l := 18) r35 rfl (by decide)
  have E36 := E35.tr X35 (fun _ _ k => k)
  have v36 : ∀ g, hI (sC (nw HA35 5200 18) 1362 a (some (hN HA35))) g a 0 = if g = 1300 then 5 else 0 := fun g => by rw [w35, v35]
  refine ⟨by have := r35.1; omega, by decide, by decide, g35, ?_⟩
  clear r35 E35 v35 g35 X35 w35
  generalize sC (nw HA35 5200 18) 1362 a (some (hN HA35)) = HA36 at *
  exact hq _ E36 r36 (by rw [v36, if_pos rfl]) (fun g hg => by rw [v36, if_neg hg])
