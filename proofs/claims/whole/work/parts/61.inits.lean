
theorem setF_def (H : HP) (a : Nat) (f : FR) : setF H a f = sL (sL H 400 a 0 f.1) 401 a 0 f.2 := rfl
theorem Ext_setF {P : Nat → Prop} {H : HP} {a : Nat} {f : FR} (h : P a) : Ext P H (setF H a f) := (Ext_sL (P := P) h).tr (Ext_sL (P := P) h) (fun _ _ k => k)
def zUnit (H : HP) (a : Nat) : Prop := shUnit H a ∧ hI H 1001 a 0 = 0 ∧ (∀ j, hI H 4193 (a + 1) j = 0) ∧ (∀ j, hI H 4208 (a + 2) j = 0) ∧ getF H (a + 3) = (0, 1) ∧ getF H (a + 4) = (0, 1)
theorem K_uinit {d : Nat} {q : HP → Prop} {H : HP} {a : Nat} (ht : tg H a = 10) (hn : hN H = a + 1) (hlim : a + 5 < scrA) (hq : ∀ H', Ext (fun x => x = a) H H' → hN H' = a + 5 → zUnit H' a → q H') : CV (d + 2) 4 13 mX9_init [rv (some a)] H q := by
  have hs : scrA = 1000000 := rfl
  refine C_X9_init ?_
  unfold wb_X9_init_0
  have E1 : Ext (fun x => x = a) H (sI (sC (nw H 4193 4) 1000 a (some (hN H))) 1001 a 0 (0 : Int32)) := ((Ext_nw (P := fun x => x = a)).tr (Ext_sC (P := fun x => x = a) rfl) (fun _ _ k => k)).tr (Ext_sI (P := fun x => x = a) rfl) (fun _ _ k => k)
  have t1 : tg (nw H 4193 4) a = 10 := by rw [tg_nw, if_neg (by omega)]; exact ht
  have n1 : hN (sI (sC (nw H 4193 4) 1000 a (some (hN H))) 1001 a 0 (0 : Int32)) = a + 2 := by
    show hN H + 1 = a + 2
    omega
  have f1 : hT (sI (sC (nw H 4193 4) 1000 a (some (hN H))) 1001 a 0 (0 : Int32)) (a + 1) = (4193, 4) := by
    show u1 (hT H) (hN H) (4193, 4) (a + 1) = _
    unfold u1; rw [if_pos (by omega)]
  have f2 : hC (sI (sC (nw H 4193 4) 1000 a (some (hN H))) 1001 a 0 (0 : Int32)) 1000 a = some (a + 1) := by
    show u2 _ 1000 a (some (hN H)) 1000 a = _
    unfold u2; rw [if_pos ⟨rfl, rfl⟩, hn]
  have f3 : hI (sI (sC (nw H 4193 4) 1000 a (some (hN H))) 1001 a 0 (0 : Int32)) 1001 a 0 = 0 := by rw [hI_sI, u3_same]
  have f4 : ∀ j, hI (sI (sC (nw H 4193 4) 1000 a (some (hN H))) 1001 a 0 (0 : Int32)) 4193 (a + 1) j = 0 := fun j => by
    rw [hI_sI, u3_g _ _ _ _ _ _ (by decide)]
    show z3 (hI H) (hN H) 0 4193 (a + 1) j = 0
    unfold z3; rw [if_pos (by omega)]
  have t1' : tg (sI (sC (nw H 4193 4) 1000 a (some (hN H))) 1001 a 0 (0 : Int32)) a = 10 := t1
  refine ⟨by omega, by omega, by omega, t1, ?_⟩
  generalize sI (sC (nw H 4193 4) 1000 a (some (hN H))) 1001 a 0 (0 : Int32) = H1 at *
  refine ⟨by omega, by omega, by omega, by rw [tg_nw, if_neg (by omega)]; exact t1', fun H9 h9 => ?_⟩
  have E2 : Ext (fun x => x = a) H1 H9 := by
    rw [← h9]; exact (Ext_nw (P := fun x => x = a)).tr (Ext_sC (P := fun x => x = a) rfl) (fun _ _ k => k)
  have n2 : hN H9 = a + 3 := by
    rw [← h9]; show hN H1 + 1 = a + 3; omega
  have g1 : hT H9 (a + 2) = (4208, 5) := by
    rw [← h9]; show u1 (hT H1) (hN H1) (4208, 5) (a + 2) = _
    unfold u1; rw [if_pos (by omega)]
  have g2 : hC H9 1002 a = some (a + 2) := by
    rw [← h9]; show u2 _ 1002 a (some (hN H1)) 1002 a = _
    unfold u2; rw [if_pos ⟨rfl, rfl⟩, n1]
  have g3 : ∀ j, hI H9 4208 (a + 2) j = 0 := fun j => by
    rw [← h9]; show z3 (hI H1) (hN H1) 0 4208 (a + 2) j = 0
    unfold z3; rw [if_pos (by omega)]
  have g4 : hC H9 1000 a = some (a + 1) := by
    rw [← h9]; show u2 (z2 (hC H1) (hN H1) none) 1002 a (some (hN H1)) 1000 a = _
    unfold u2; rw [if_neg (by omega), z2_lt _ (by omega)]; exact f2
  have g5 : hI H9 1001 a 0 = 0 := by
    rw [← h9]; show z3 (hI H1) (hN H1) 0 1001 a 0 = 0
    rw [z3_lt _ (by omega)]; exact f3
  have g6 : ∀ j, hI H9 4193 (a + 1) j = 0 := fun j => by rw [E2.2.2.2.1 _ _ (by omega) (by omega)]; exact f4 j
  have g7 : hT H9 (a + 1) = (4193, 4) := by rw [E2.2.2.1 _ (by omega)]; exact f1
  have g8 : tg H9 a = 10 := by
    have := E2.2.2.1 a (by omega)
    unfold tg at t1' ⊢; rw [this]; exact t1'
  have E12 : Ext (fun x => x = a) H H9 := E1.tr E2 (fun _ _ k => k)
  clear h9 E1 E2 f1 f2 f3 f4 t1' t1 n1
  clear H1
  have tn : ∀ (K : HP), tg (nw K 4 0) (hN K) = 4 := fun K => tg_self K 4 0
  refine ⟨by omega, by omega, by omega, K_finit (tn H9) ?_⟩
  have E3 : Ext (fun x => x = a) H9 (sC (setF (nw H9 4 0) (hN H9) (0, 1)) 1003 a (some (hN H9))) := by
    have e1 : Ext (fun x => x = a) H9 (nw H9 4 0) := Ext_nw
    have e2 : Ext (fun x => x = hN H9) (nw H9 4 0) (setF (nw H9 4 0) (hN H9) (0, 1)) := Ext_setF rfl
    exact (e1.tr e2 (fun x hx k => by omega)).tr (Ext_sC (P := fun x => x = a) rfl) (fun _ _ k => k)
  have n3 : hN (sC (setF (nw H9 4 0) (hN H9) (0, 1)) 1003 a (some (hN H9))) = a + 4 := by show hN H9 + 1 = a + 4; omega
  have k1 : tg (sC (setF (nw H9 4 0) (hN H9) (0, 1)) 1003 a (some (hN H9))) (a + 3) = 4 := by
    show tg (nw H9 4 0) (a + 3) = 4
    rw [← n2]; exact tn H9
  have k2 : hC (sC (setF (nw H9 4 0) (hN H9) (0, 1)) 1003 a (some (hN H9))) 1003 a = some (a + 3) := by
    rw [hC_sC]; unfold u2; rw [if_pos ⟨rfl, rfl⟩, n2]
  have k3 : getF (sC (setF (nw H9 4 0) (hN H9) (0, 1)) 1003 a (some (hN H9))) (a + 3) = (0, 1) := by
    rw [n2]; exact getF_setF
  have kC : ∀ g, g ≠ 1003 → hC (sC (setF (nw H9 4 0) (hN H9) (0, 1)) 1003 a (some (hN H9))) g a = hC H9 g a := fun g hg => by
    show u2 (z2 (hC H9) (hN H9) none) 1003 a (some (hN H9)) g a = _
    unfold u2; rw [if_neg (fun k => hg k.1), z2_lt _ (by omega)]
  have kI : hI (sC (setF (nw H9 4 0) (hN H9) (0, 1)) 1003 a (some (hN H9))) 1001 a 0 = 0 := by
    show z3 (hI H9) (hN H9) 0 1001 a 0 = 0
    rw [z3_lt _ (by omega)]; exact g5
  have kt : tg (setF (nw H9 4 0) (hN H9) (0, 1)) a = 10 := by
    show tg (nw H9 4 0) a = 10
    rw [tg_nw, if_neg (by omega)]; exact g8
  refine ⟨kt, ?_⟩
  have kt' : tg (sC (setF (nw H9 4 0) (hN H9) (0, 1)) 1003 a (some (hN H9))) a = 10 := kt
  generalize sC (setF (nw H9 4 0) (hN H9) (0, 1)) 1003 a (some (hN H9)) = H3 at *
  refine ⟨by omega, by omega, by omega, K_finit (tn H3) ⟨by show tg (nw H3 4 0) a = 10; rw [tg_nw, if_neg (by omega)]; exact kt', ?_⟩⟩
  have E4 : Ext (fun x => x = a) H3 (sC (setF (nw H3 4 0) (hN H3) (0, 1)) 1004 a (some (hN H3))) := by
    have e1 : Ext (fun x => x = a) H3 (nw H3 4 0) := Ext_nw
    have e2 : Ext (fun x => x = hN H3) (nw H3 4 0) (setF (nw H3 4 0) (hN H3) (0, 1)) := Ext_setF rfl
    exact (e1.tr e2 (fun x hx k => by omega)).tr (Ext_sC (P := fun x => x = a) rfl) (fun _ _ k => k)
  have lC : ∀ g, g ≠ 1004 → hC (sC (setF (nw H3 4 0) (hN H3) (0, 1)) 1004 a (some (hN H3))) g a = hC H3 g a := fun g hg => by
    show u2 (z2 (hC H3) (hN H3) none) 1004 a (some (hN H3)) g a = _
    unfold u2; rw [if_neg (fun k => hg k.1), z2_lt _ (by omega)]
  refine hq _ ((E12.tr E3 (fun _ _ k => k)).tr E4 (fun _ _ k => k)) (by show hN H3 + 1 = a + 5; omega) ⟨⟨?_, ?_, ?_, ?_, ?_, ?_, ?_, ?_, ?_⟩, ?_, fun j => ?_, fun j => ?_, ?_, ?_⟩
  · show tg (nw H3 4 0) a = 10
    rw [tg_nw, if_neg (by omega)]; exact kt'
  · rw [lC _ (by decide), kC _ (by decide)]; exact g4
  · rw [E4.2.2.1 _ (by omega), E3.2.2.1 _ (by omega)]; exact g7
  · rw [lC _ (by decide), kC _ (by decide)]; exact g2
  · rw [E4.2.2.1 _ (by omega), E3.2.2.1 _ (by omega)]; exact g1
  · rw [lC _ (by decide)]; exact k2
  · have := E4.2.2.1 (a + 3) (by omega)
    unfold tg at k1 ⊢; rw [this]; exact k1
  · rw [hC_sC]; unfold u2; rw [if_pos ⟨rfl, rfl⟩, n3]
  · show tg (nw H3 4 0) (a + 4) = 4
    rw [← n3]; exact tn H3
  · show z3 (hI H3) (hN H3) 0 1001 a 0 = 0
    rw [z3_lt _ (by omega)]; exact kI
  · rw [E4.2.2.2.1 _ _ (by omega) (by omega), E3.2.2.2.1 _ _ (by omega) (by omega)]; exact g6 j
  · rw [E4.2.2.2.1 _ _ (by omega) (by omega), E3.2.2.2.1 _ _ (by omega) (by omega)]; exact g3 j
  · show (hL _ 400 (a + 3) 0, hL _ 401 (a + 3) 0) = _
    rw [E4.2.2.2.2.1 _ _ (by omega) (by omega), E4.2.2.2.2.1 _ _ (by omega) (by omega)]; exact k3
  · rw [n3]; exact getF_setF
