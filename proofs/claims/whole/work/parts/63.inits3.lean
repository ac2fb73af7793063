
/-! ===== one array made and kept in a field ===== -/
theorem nA_Ext {H : HP} {a g t n : Nat} : Ext (fun x => x = a) H (sC (nw H t n) g a (some (hN H))) := (Ext_nw (P := fun x => x = a)).tr (Ext_sC (P := fun x => x = a) rfl) (fun _ _ k => k)
theorem nA_tg {H : HP} {a g t n c : Nat} (ha : a < hN H) (h : tg H a = c) : tg (sC (nw H t n) g a (some (hN H))) a = c := by
  show tg (nw H t n) a = c
  rw [tg_nw, if_neg (by omega)]; exact h
theorem nA_tg' {H : HP} {a t n c : Nat} (ha : a < hN H) (h : tg H a = c) : tg (nw H t n) a = c := by
  rw [tg_nw, if_neg (by omega)]; exact h
theorem nA_hC {H : HP} {a g t n c : Nat} (h : hN H = c) : hC (sC (nw H t n) g a (some (hN H))) g a = some c := by
  rw [hC_sC]; unfold u2; rw [if_pos ⟨rfl, rfl⟩, h]
theorem nA_keep {H : HP} {a g g' t n : Nat} (ha : a < hN H) (hg : g' ≠ g) : hC (sC (nw H t n) g a (some (hN H))) g' a = hC H g' a := by
  show u2 (z2 (hC H) (hN H) none) g a (some (hN H)) g' a = _
  unfold u2; rw [if_neg (fun k => hg k.1), z2_lt _ ha]
theorem nA_hT {H : HP} {a g t n c : Nat} (h : hN H = c) : hT (sC (nw H t n) g a (some (hN H))) c = (t, n) := by
  show u1 (hT H) (hN H) (t, n) c = _
  unfold u1; rw [if_pos h.symm]
theorem nA_hI {H : HP} {a g t n x : Nat} (ha : a < hN H) : hI (sC (nw H t n) g a (some (hN H))) x a = hI H x a := z3_lt _ ha
theorem nA_z {H : HP} {a g t n x c : Nat} (h : hN H = c) (j : Nat) : hI (sC (nw H t n) g a (some (hN H))) x c j = 0 := by
  show z3 (hI H) (hN H) 0 x c j = 0
  unfold z3; rw [if_pos h.symm]
theorem nA_zL {H : HP} {a g t n x c : Nat} (h : hN H = c) (j : Nat) : hL (sC (nw H t n) g a (some (hN H))) x c j = 0 := by
  show z3 (hL H) (hN H) 0 x c j = 0
  unfold z3; rw [if_pos h.symm]
/-- what an extension keeps below -/
theorem ext_hT {P : Nat → Prop} {H H' : HP} {a : Nat} {v : Nat × Nat} (h : Ext P H H') (ha : a < hN H) (e : hT H a = v) : hT H' a = v := (h.2.2.1 a ha).trans e
theorem ext_hC {P : Nat → Prop} {H H' : HP} {g a : Nat} {v : Option Nat} (h : Ext P H H') (ha : a < hN H) (hp : ¬ P a) (e : hC H g a = v) : hC H' g a = v := (h.2.2.2.2.2.2.2.2 g a ha hp).trans e
def shStep (H : HP) (a : Nat) : Prop := tg H a = 7 ∧ hC H 707 a = some (a + 1) ∧ hT H (a + 1) = (4480, 4) ∧ hC H 708 a = some (a + 2) ∧ hT H (a + 2) = (4496, 4) ∧ hC H 709 a = some (a + 3) ∧ hT H (a + 3) = (4512, 4) ∧ hC H 710 a = some (a + 4) ∧ hT H (a + 4) = (4528, 4) ∧ hC H 711 a = some (a + 5) ∧ hT H (a + 5) = (4544, 5) ∧ hC H 712 a = some (a + 6) ∧ tg H (a + 6) = 4
theorem K_sinit {d : Nat} {q : HP → Prop} {H : HP} {a : Nat} (ht : tg H a = 7) (hn : hN H = a + 1) (hlim : a + 7 < scrA) (hq : ∀ H', Ext (fun x => x = a) H H' → hN H' = a + 7 → shStep H' a → q H') : CV (d + 2) 6 23 mX6_init [rv (some a)] H q := by
  have hs : scrA = 1000000 := rfl
  refine C_X6_init ?_
  unfold wb_X6_init_0
  -- above
  have E1 : Ext (fun x => x = a) H (sC (nw H 4480 4) 707 a (some (hN H))) := nA_Ext
  have n1 : hN (sC (nw H 4480 4) 707 a (some (hN H))) = a + 2 := by show hN H + 1 = _; omega
  have t1 := nA_tg (g := 707) (t := 4480) (n := 4) (by omega) ht
  have p1 := nA_hC (a := a) (g := 707) (t := 4480) (n := 4) hn
  have r1 := nA_hT (a := a) (g := 707) (t := 4480) (n := 4) hn
  refine ⟨by omega, by omega, by omega, nA_tg' (by omega) ht, ?_⟩
  generalize sC (nw H 4480 4) 707 a (some (hN H)) = H1 at *
  -- below
  have E2 : Ext (fun x => x = a) H1 (sC (nw H1 4496 4) 708 a (some (hN H1))) := nA_Ext
  have n2 : hN (sC (nw H1 4496 4) 708 a (some (hN H1))) = a + 3 := by show hN H1 + 1 = _; omega
  have t2 := nA_tg (g := 708) (t := 4496) (n := 4) (by omega) t1
  have p2 := nA_hC (a := a) (g := 708) (t := 4496) (n := 4) n1
  have r2 := nA_hT (a := a) (g := 708) (t := 4496) (n := 4) n1
  have p1 := (nA_keep (g := 708) (t := 4496) (n := 4) (by omega) (by decide)).trans p1
  have r1 := ext_hT E2 (by omega) r1
  refine ⟨by omega, by omega, by omega, nA_tg' (by omega) t1, ?_⟩
  have E := E1.tr E2 (fun _ _ k => k)
  generalize sC (nw H1 4496 4) 708 a (some (hN H1)) = H2 at *
  -- nameAt
  have E3 : Ext (fun x => x = a) H2 (sC (nw H2 4512 4) 709 a (some (hN H2))) := nA_Ext
  have n3 : hN (sC (nw H2 4512 4) 709 a (some (hN H2))) = a + 4 := by show hN H2 + 1 = _; omega
  have t3 := nA_tg (g := 709) (t := 4512) (n := 4) (by omega) t2
  have p3 := nA_hC (a := a) (g := 709) (t := 4512) (n := 4) n2
  have r3 := nA_hT (a := a) (g := 709) (t := 4512) (n := 4) n2
  have p1 := (nA_keep (g := 709) (t := 4512) (n := 4) (by omega) (by decide)).trans p1
  have p2 := (nA_keep (g := 709) (t := 4512) (n := 4) (by omega) (by decide)).trans p2
  have r1 := ext_hT E3 (by omega) r1
  have r2 := ext_hT E3 (by omega) r2
  refine ⟨by omega, by omega, by omega, nA_tg' (by omega) t2, fun H13 e13 => ?_⟩
  rw [e13] at E3 n3 t3 p3 r3 p1 p2 r1 r2
  have E := E.tr E3 (fun _ _ k => k)
  -- nameLengths
  have E4 : Ext (fun x => x = a) H13 (sC (nw H13 4528 4) 710 a (some (hN H13))) := nA_Ext
  have n4 : hN (sC (nw H13 4528 4) 710 a (some (hN H13))) = a + 5 := by show hN H13 + 1 = _; omega
  have t4 := nA_tg (g := 710) (t := 4528) (n := 4) (by omega) t3
  have p4 := nA_hC (a := a) (g := 710) (t := 4528) (n := 4) n3
  have r4 := nA_hT (a := a) (g := 710) (t := 4528) (n := 4) n3
  have p1 := (nA_keep (g := 710) (t := 4528) (n := 4) (by omega) (by decide)).trans p1
  have p2 := (nA_keep (g := 710) (t := 4528) (n := 4) (by omega) (by decide)).trans p2
  have p3 := (nA_keep (g := 710) (t := 4528) (n := 4) (by omega) (by decide)).trans p3
  have r1 := ext_hT E4 (by omega) r1
  have r2 := ext_hT E4 (by omega) r2
  have r3 := ext_hT E4 (by omega) r3
  refine ⟨by omega, by omega, by omega, nA_tg' (by omega) t3, ?_⟩
  have E := E.tr E4 (fun _ _ k => k)
  generalize sC (nw H13 4528 4) 710 a (some (hN H13)) = H4 at *
  -- powers
  have E5 : Ext (fun x => x = a) H4 (sC (nw H4 4544 5) 711 a (some (hN H4))) := nA_Ext
  have n5 : hN (sC (nw H4 4544 5) 711 a (some (hN H4))) = a + 6 := by show hN H4 + 1 = _; omega
  have t5 := nA_tg (g := 711) (t := 4544) (n := 5) (by omega) t4
  have p5 := nA_hC (a := a) (g := 711) (t := 4544) (n := 5) n4
  have r5 := nA_hT (a := a) (g := 711) (t := 4544) (n := 5) n4
  have p1 := (nA_keep (g := 711) (t := 4544) (n := 5) (by omega) (by decide)).trans p1
  have p2 := (nA_keep (g := 711) (t := 4544) (n := 5) (by omega) (by decide)).trans p2
  have p3 := (nA_keep (g := 711) (t := 4544) (n := 5) (by omega) (by decide)).trans p3
  have p4 := (nA_keep (g := 711) (t := 4544) (n := 5) (by omega) (by decide)).trans p4
  have r1 := ext_hT E5 (by omega) r1
  have r2 := ext_hT E5 (by omega) r2
  have r3 := ext_hT E5 (by omega) r3
  have r4 := ext_hT E5 (by omega) r4
  refine ⟨by omega, by omega, by omega, nA_tg' (by omega) t4, ?_⟩
  have E := E.tr E5 (fun _ _ k => k)
  generalize sC (nw H4 4544 5) 711 a (some (hN H4)) = H5 at *
  -- value
  have e1 : Ext (fun x => x = a) H5 (nw H5 4 0) := Ext_nw
  have e2 : Ext (fun x => x = hN H5) (nw H5 4 0) (setF (nw H5 4 0) (hN H5) (0, 1)) := Ext_setF rfl
  have E6 : Ext (fun x => x = a) H5 (sC (setF (nw H5 4 0) (hN H5) (0, 1)) 712 a (some (hN H5))) := (e1.tr e2 (fun x hx k => by omega)).tr (Ext_sC (P := fun x => x = a) rfl) (fun _ _ k => k)
  have lC : ∀ g, g ≠ 712 → hC (sC (setF (nw H5 4 0) (hN H5) (0, 1)) 712 a (some (hN H5))) g a = hC H5 g a := fun g hg => by
    show u2 (z2 (hC H5) (hN H5) none) 712 a (some (hN H5)) g a = _
    unfold u2; rw [if_neg (fun k => hg k.1), z2_lt _ (by omega)]
  refine ⟨by omega, by omega, by omega, K_finit (tg_self H5 4 0) ⟨nA_tg' (by omega) t5, ?_⟩⟩
  refine hq _ (E.tr E6 (fun _ _ k => k)) (by show hN H5 + 1 = _; omega) ⟨nA_tg' (by omega) t5, (lC _ (by decide)).trans p1, ext_hT E6 (by omega) r1, (lC _ (by decide)).trans p2, ext_hT E6 (by omega) r2, (lC _ (by decide)).trans p3, ext_hT E6 (by omega) r3, (lC _ (by decide)).trans p4, ext_hT E6 (by omega) r4, (lC _ (by decide)).trans p5, ext_hT E6 (by omega) r5, ?_, ?_⟩
  · rw [hC_sC]; unfold u2; rw [if_pos ⟨rfl, rfl⟩, n5]
  · show tg (nw H5 4 0) (a + 6) = 4
    rw [← n5]; exact tg_self H5 4 0
