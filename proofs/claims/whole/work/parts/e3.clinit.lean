
/-! ===== building the class: fractions in fields, claims ===== -/
def nfH (H : HP) (a g : Nat) : HP := sC (setF (nw H 4 0) (hN H) (0, 1)) g a (some (hN H))
theorem nf_all {H : HP} {a g : Nat} (hn : a < hN H) : hN (nfH H a g) = hN H + 1 ∧ tg (nfH H a g) (hN H) = 4 ∧ hC (nfH H a g) g a = some (hN H) ∧ (∀ g', g' ≠ g → hC (nfH H a g) g' a = hC H g' a) ∧ (∀ x, x < hN H → hT (nfH H a g) x = hT H x) ∧ (∀ g' x, x < hN H → hI (nfH H a g) g' x = hI H g' x) ∧ Ext (fun x => x = a) H (nfH H a g) := by
  have E : Ext (fun x => x = a ∨ x = hN H) H (nfH H a g) := by
    refine ((Ext_nw (P := fun x => x = a ∨ x = hN H) (t := 4) (n := 0)).tr (P2 := fun x => x = a ∨ x = hN H) ?_ (fun _ _ k => k)).tr (P2 := fun x => x = a ∨ x = hN H) (Ext_sC (Or.inl rfl)) (fun _ _ k => k)
    exact (Ext_sL (Or.inr rfl)).tr (Ext_sL (Or.inr rfl)) (fun _ _ k => k)
  refine ⟨rfl, ?_, ?_, fun g' hg => ?_, fun x hx => E.2.2.1 x hx, fun g' x hx => z3_lt _ hx, E.mono (fun x hx k => by omega)⟩
  · show tg (nw H 4 0) (hN H) = 4
    rw [tg_nw, if_pos rfl]
  · show u2 (z2 (hC H) (hN H) none) g a (some (hN H)) g a = _
    unfold u2; rw [if_pos ⟨rfl, rfl⟩]
  · show u2 (z2 (hC H) (hN H) none) g a (some (hN H)) g' a = _
    unfold u2; rw [if_neg (fun k => hg k.1)]
    exact z2_lt _ hn
theorem rows_sI {L : RowL} {H : HP} {a c n g i : Nat} {v : Int32} (r : rowsOK L H a c n) : rowsOK L (sI H g a i v) a c n := by
  obtain ⟨r1, r2, r3, r4⟩ := r
  refine ⟨r1, r2, r3, fun x hx hn g' i' => ?_⟩
  rw [hIs, if_neg (fun k => by omega)]
  exact r4 x hx hn g' i'
def LX0 : RowL := [(100, 4224, 16), (101, 4240, 16), (102, 4256, 16), (103, 4272, 16), (105, 4290, 16), (106, 4304, 16), (107, 4320, 20), (108, 4336, 20)]
theorem K_clinit {d : Nat} {q : HP → Prop} {H0 : HP} {a : Nat} (ht : tg H0 a = 1) (hn : hN H0 = a + 1) (hlim : a + 12 < scrA) (hq : ∀ H', Ext (fun x => x = a) H0 H' → hN H' = a + 11 → CCl H' a CL0 → q H') : CV (d + 2) 10 140 mX0_init [rv (some a)] H0 q := by
  have hs : scrA = 1000000 := rfl
  refine C_X0_init ?_
  unfold wb_X0_init_0
  have E0 : Ext (fun x => x = a) H0 H0 := Ext.rf
  have r0 : rowsOK LX0 H0 a 1 0 := ⟨hn, ht, fun k hk => by omega, fun x hx hxn => by omega⟩
  obtain ⟨g0, r1, X0, w0⟩ := rows_step (g := 100) (t := 4224) (l := 16) r0 rfl (by decide)
  have E1 := E0.tr X0 (fun _ _ k => k)
  refine ⟨by have := r0.1; omega, by decide, by decide, g0, ?_⟩
  clear r0 E0 g0 X0 w0
  generalize sC (nw H0 4224 16) 100 a (some (hN H0)) = HA1 at *
  obtain ⟨g1, r2, X1, w1⟩ := rows_step (g := 101) (t := 4240) (l := 16) r1 rfl (by decide)
  have E2 := E1.tr X1 (fun _ _ k => k)
  refine ⟨by have := r1.1; omega, by decide, by decide, g1, ?_⟩
  clear r1 E1 g1 X1 w1
  generalize sC (nw HA1 4240 16) 101 a (some (hN HA1)) = HA2 at *
  obtain ⟨g2, r3, X2, w2⟩ := rows_step (g := 102) (t := 4256) (l := 16) r2 rfl (by decide)
  have E3 := E2.tr X2 (fun _ _ k => k)
  refine ⟨by have := r2.1; omega, by decide, by decide, g2, ?_⟩
  intro HX eX
  subst eX
  clear r2 E2 g2 X2 w2
  generalize sC (nw HA2 4256 16) 102 a (some (hN HA2)) = HA3 at *
  obtain ⟨g3, r4, X3, w3⟩ := rows_step (g := 103) (t := 4272) (l := 16) r3 rfl (by decide)
  have E4 := E3.tr X3 (fun _ _ k => k)
  refine ⟨by have := r3.1; omega, by decide, by decide, g3, ?_⟩
  clear r3 E3 g3 X3 w3
  have r4s := rows_sI (g := 104) (i := 0) (v := 0) r4
  have E4s := E4.tr (Ext_sI (P := fun x => x = a) (g := 104) (i := 0) (v := 0) rfl) (fun _ _ k => k)
  have F4s : hI (sI (sC (nw HA3 4272 16) 103 a (some (hN HA3))) 104 a 0 0) 104 a 0 = 0 := by rw [hIs_i, if_pos rfl]
  clear r4 E4
  generalize sI (sC (nw HA3 4272 16) 103 a (some (hN HA3))) 104 a 0 0 = HA4 at *
  have r4 := r4s
  have E4 := E4s
  clear r4s E4s
  obtain ⟨g4, r5, X4, w4⟩ := rows_step (g := 105) (t := 4290) (l := 16) r4 rfl (by decide)
  have V5 : hI (sC (nw HA4 4290 16) 105 a (some (hN HA4))) 104 a 0 = 0 := by rw [w4]; exact F4s
  have E5 := E4.tr X4 (fun _ _ k => k)
  refine ⟨by have := r4.1; omega, by decide, by decide, g4, ?_⟩
  intro HX eX
  subst eX
  clear r4 E4 g4 X4 w4
  generalize sC (nw HA4 4290 16) 105 a (some (hN HA4)) = HA5 at *
  obtain ⟨g5, r6, X5, w5⟩ := rows_step (g := 106) (t := 4304) (l := 16) r5 rfl (by decide)
  have V6 : hI (sC (nw HA5 4304 16) 106 a (some (hN HA5))) 104 a 0 = 0 := by rw [w5]; exact V5
  have E6 := E5.tr X5 (fun _ _ k => k)
  refine ⟨by have := r5.1; omega, by decide, by decide, g5, ?_⟩
  clear r5 E5 g5 X5 w5
  generalize sC (nw HA5 4304 16) 106 a (some (hN HA5)) = HA6 at *
  obtain ⟨g6, r7, X6, w6⟩ := rows_step (g := 107) (t := 4320) (l := 20) r6 rfl (by decide)
  have V7 : hI (sC (nw HA6 4320 20) 107 a (some (hN HA6))) 104 a 0 = 0 := by rw [w6]; exact V6
  have E7 := E6.tr X6 (fun _ _ k => k)
  refine ⟨by have := r6.1; omega, by decide, by decide, g6, ?_⟩
  clear r6 E6 g6 X6 w6
  generalize sC (nw HA6 4320 20) 107 a (some (hN HA6)) = HA7 at *
  obtain ⟨g7, r8, X7, w7⟩ := rows_step (g := 108) (t := 4336) (l := 20) r7 rfl (by decide)
  have V8 : hI (sC (nw HA7 4336 20) 108 a (some (hN HA7))) 104 a 0 = 0 := by rw [w7]; exact V7
  have E8 := E7.tr X7 (fun _ _ k => k)
  refine ⟨by have := r7.1; omega, by decide, by decide, g7, ?_⟩
  intro HX eX
  subst eX
  clear r7 E7 g7 X7 w7
  generalize sC (nw HA7 4336 20) 108 a (some (hN HA7)) = HA8 at *
  obtain ⟨p1, p2, p3, p4⟩ := r8
  obtain ⟨n1, n2, n3, n4, n5, n6, n7⟩ := nf_all (H := HA8) (a := a) (g := 109) (by omega)
  refine ⟨by omega, by decide, by decide, K_finit (d := d) (by rw [tg_nw, if_pos rfl]) ?_⟩
  have tA : tg (nfH HA8 a 109) a = 1 := by unfold tg; rw [n5 a (by omega)]; exact p2
  have e1 : sC (setF (nw HA8 4 0) (hN HA8) (0, 1)) 109 a (some (hN HA8)) = nfH HA8 a 109 := rfl
  rw [e1]
  refine ⟨tA, by omega, by decide, by decide, K_finit (d := d) (by rw [tg_nw, if_pos rfl]) ?_⟩
  obtain ⟨m1, m2, m3, m4, m5, m6, m7⟩ := nf_all (H := nfH HA8 a 109) (a := a) (g := 110) (by omega)
  have e2 : sC (setF (nw (nfH HA8 a 109) 4 0) (hN (nfH HA8 a 109)) (0, 1)) 110 a (some (hN (nfH HA8 a 109))) = nfH (nfH HA8 a 109) a 110 := rfl
  rw [e2]
  have tB : tg (nfH (nfH HA8 a 109) a 110) a = 1 := by unfold tg; rw [m5 a (by omega)]; exact tA
  have hC' : ∀ g, g ≠ 109 → g ≠ 110 → hC (nfH (nfH HA8 a 109) a 110) g a = hC HA8 g a := fun g h1 h2 => by rw [m4 g h2, n4 g h1]
  have hT' : ∀ x, x < hN HA8 → hT (nfH (nfH HA8 a 109) a 110) x = hT HA8 x := fun x hx => by rw [m5 x (by omega), n5 x hx]
  have hI' : ∀ g x, x < hN HA8 → hI (nfH (nfH HA8 a 109) a 110) g x = hI HA8 g x := fun g x hx => by rw [m6 g x (by omega), n6 g x hx]
  have arr : ∀ k, k < 8 → hC (nfH (nfH HA8 a 109) a 110) (rowK LX0 k).1 a = some (a + 1 + k) ∧ hT (nfH (nfH HA8 a 109) a 110) (a + 1 + k) = ((rowK LX0 k).2.1, (rowK LX0 k).2.2) := fun k hk => by
    obtain ⟨q1, q2⟩ := p3 k hk
    have d1 : ∀ k, k < 8 → (rowK LX0 k).1 ≠ 109 ∧ (rowK LX0 k).1 ≠ 110 := by decide
    rw [hC' _ (d1 k hk).1 (d1 k hk).2, hT' _ (by omega)]
    exact ⟨q1, q2⟩
  refine ⟨tB, hq _ ((E8.tr n7 (fun _ _ k => k)).tr m7 (fun _ _ k => k)) (by omega) ⟨⟨tB, arr 0 (by decide), arr 1 (by decide), arr 2 (by decide), arr 3 (by decide), arr 4 (by decide), arr 5 (by decide), arr 6 (by decide), arr 7 (by decide), ⟨?_, ?_⟩, ⟨?_, ?_⟩⟩, ⟨?_, fun i hi => absurd hi (Nat.not_lt_zero i)⟩, fun i hi => absurd hi (Nat.not_lt_zero i), Or.inr ⟨rfl, fun u hu => ?_⟩, fun i hi => absurd hi (Nat.not_lt_zero i)⟩⟩
  · rw [m4 109 (by decide), n3, p1]
  · have : tg (nfH (nfH HA8 a 109) a 110) (a + 9) = tg (nfH HA8 a 109) (a + 9) := by unfold tg; rw [m5 _ (by omega)]
    rw [this, ← n2, p1]
  · rw [m3, n1, p1]
  · rw [← m2, n1, p1]
  · rw [hI' _ _ (by omega)]; exact V8
  · rw [hI' _ _ (by omega)]; exact (p4 (a + 7) (by omega) (by omega) _ _).1
def LX1 : RowL := [(200, 4368, 2), (201, 4384, 2), (206, 4400, 30), (207, 4416, 30), (208, 4432, 30), (209, 4450, 30), (210, 4470, 30)]
theorem K_dinit {d : Nat} {q : HP → Prop} {H0 : HP} {a : Nat} (ht : tg H0 a = 2) (hn : hN H0 = a + 1) (hlim : a + 14 < scrA) (hq : ∀ H', Ext (fun x => x = a) H0 H' → hN H' = a + 13 → shDef H' a → LtB H' a → q H') : CV (d + 3) 12 172 mX1_init [rv (some a)] H0 q := by
  have hs : scrA = 1000000 := rfl
  refine C_X1_init ?_
  unfold wb_X1_init_0
  have E0 : Ext (fun x => x = a) H0 H0 := Ext.rf
  have r0 : rowsOK LX1 H0 a 2 0 := ⟨hn, ht, fun k hk => by omega, fun x hx hxn => by omega⟩
  obtain ⟨g0, r1, X0, w0⟩ := rows_step (g := 200) (t := 4368) (l := 2) r0 rfl (by decide)
  have E1 := E0.tr X0 (fun _ _ k => k)
  refine ⟨by have := r0.1; omega, by decide, by decide, g0, ?_⟩
  clear r0 E0 g0 X0 w0
  generalize sC (nw H0 4368 2) 200 a (some (hN H0)) = HA1 at *
  obtain ⟨g1, r2, X1, w1⟩ := rows_step (g := 201) (t := 4384) (l := 2) r1 rfl (by decide)
  have E2 := E1.tr X1 (fun _ _ k => k)
  refine ⟨by have := r1.1; omega, by decide, by decide, g1, ?_⟩
  clear r1 E1 g1 X1 w1
  generalize sC (nw HA1 4384 2) 201 a (some (hN HA1)) = HA2 at *
  obtain ⟨g2, r3, X2, w2⟩ := rows_step (g := 206) (t := 4400) (l := 30) r2 rfl (by decide)
  have E3 := E2.tr X2 (fun _ _ k => k)
  refine ⟨by have := r2.1; omega, by decide, by decide, g2, ?_⟩
  intro HX eX
  subst eX
  clear r2 E2 g2 X2 w2
  generalize sC (nw HA2 4400 30) 206 a (some (hN HA2)) = HA3 at *
  obtain ⟨g3, r4, X3, w3⟩ := rows_step (g := 207) (t := 4416) (l := 30) r3 rfl (by decide)
  have E4 := E3.tr X3 (fun _ _ k => k)
  refine ⟨by have := r3.1; omega, by decide, by decide, g3, ?_⟩
  clear r3 E3 g3 X3 w3
  generalize sC (nw HA3 4416 30) 207 a (some (hN HA3)) = HA4 at *
  obtain ⟨g4, r5, X4, w4⟩ := rows_step (g := 208) (t := 4432) (l := 30) r4 rfl (by decide)
  have E5 := E4.tr X4 (fun _ _ k => k)
  refine ⟨by have := r4.1; omega, by decide, by decide, g4, ?_⟩
  clear r4 E4 g4 X4 w4
  generalize sC (nw HA4 4432 30) 208 a (some (hN HA4)) = HA5 at *
  obtain ⟨g5, r6, X5, w5⟩ := rows_step (g := 209) (t := 4450) (l := 30) r5 rfl (by decide)
  have E6 := E5.tr X5 (fun _ _ k => k)
  refine ⟨by have := r5.1; omega, by decide, by decide, g5, ?_⟩
  intro HX eX
  subst eX
  clear r5 E5 g5 X5 w5
  generalize sC (nw HA5 4450 30) 209 a (some (hN HA5)) = HA6 at *
  obtain ⟨g6, r7, X6, w6⟩ := rows_step (g := 210) (t := 4470) (l := 30) r6 rfl (by decide)
  have E7 := E6.tr X6 (fun _ _ k => k)
  refine ⟨by have := r6.1; omega, by decide, by decide, g6, ?_⟩
  clear r6 E6 g6 X6 w6
  generalize sC (nw HA6 4470 30) 210 a (some (hN HA6)) = HA7 at *
  obtain ⟨p1, p2, p3, p4⟩ := r7
  refine ⟨by omega, by decide, by decide, by decide, by decide, ?_⟩
  have X1 : Ext (fun x => x = a) HA7 (nw HA7 10 0) := Ext_nw
  refine K_uinit (d := d) (a := hN HA7) (by rw [tg_nw, if_pos rfl]) rfl (by omega) fun H1 F1 n1 z1 => ?_
  have F1' : Ext (fun x => x = a) HA7 H1 := X1.tr F1 (fun x hx k => by omega)
  have tA : tg H1 a = 2 := ext_tg F1 (by rw [hN_nw]; omega) (by rw [tg_nw, if_neg (by omega)]; exact p2)
  have cA : ∀ g, hC H1 g a = hC HA7 g a := fun g => by
    rw [F1.2.2.2.2.2.2.2.2 g a (by rw [hN_nw]; omega) (by omega)]
    exact z2_lt _ (by omega)
  have X2 : Ext (fun x => x = a) H1 (sC H1 211 a (some (hN HA7))) := Ext_sC rfl
  have arr : ∀ k, k < 7 → hC (sC H1 211 a (some (hN HA7))) (rowK LX1 k).1 a = some (a + 1 + k) ∧ hT (sC H1 211 a (some (hN HA7))) (a + 1 + k) = ((rowK LX1 k).2.1, (rowK LX1 k).2.2) := fun k hk => by
    obtain ⟨q1, q2⟩ := p3 k hk
    have d1 : ∀ k, k < 7 → (rowK LX1 k).1 ≠ 211 := by decide
    refine ⟨?_, ?_⟩
    · show u2 (hC H1) 211 a (some (hN HA7)) _ a = _
      unfold u2; rw [if_neg (fun k' => d1 k hk k'.1), cA]; exact q1
    · show hT H1 _ = _
      exact ext_hT F1' (by omega) q2
  have e8 : hN HA7 = a + 8 := p1
  rw [e8] at arr z1 n1 X2
  rw [e8]
  refine ⟨tA, hq _ ((E7.tr F1' (fun _ _ k => k)).tr X2 (fun _ _ k => k)) n1 ⟨tA, arr 0 (by decide), arr 1 (by decide), arr 2 (by decide), arr 3 (by decide), arr 4 (by decide), arr 5 (by decide), arr 6 (by decide), ?_, ?_⟩ (fun j hj => ?_)⟩
  · show u2 (hC H1) 211 a (some (a + 8)) 211 a = _
    unfold u2; rw [if_pos ⟨rfl, rfl⟩]
  · obtain ⟨y1, y2, y3, y4, y5, y6, y7, y8, y9⟩ := z1.1
    have k : ∀ g, hC (sC H1 211 a (some (a + 8))) g (a + 8) = hC H1 g (a + 8) := fun g => by
      show u2 (hC H1) 211 a (some (a + 8)) g (a + 8) = _
      unfold u2; rw [if_neg (fun k => by omega)]
    exact ⟨y1, by rw [k]; exact y2, y3, by rw [k]; exact y4, y5, by rw [k]; exact y6, y7, by rw [k]; exact y8, y9⟩
  · show -128 ≤ (hI H1 4193 (a + 8 + 1) j).toInt ∧ (hI H1 4193 (a + 8 + 1) j).toInt ≤ 127
    rw [z1.2.2.1 j]; decide
