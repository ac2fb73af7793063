
theorem K_pinit {d : Nat} {q : HP → Prop} {H : HP} {a : Nat} (ht : tg H a = 5) (hn : hN H = a + 1) (hlim : a + 424 < scrA) (hq : ∀ H', Ext (fun x => x = a) H H' → hN H' = a + 424 → zProof H' a → q H') : CV (d + 3) 423 2226 mX4_init [rv (some a)] H q := by
  have hs : scrA = 1000000 := rfl
  refine C_X4_init ?_
  unfold wb_X4_init_0
  have E0 : Ext (fun x => x = a) H (sC (nw H 4615 60) 500 a (some (hN H))) := nA_Ext
  have n0 : hN (sC (nw H 4615 60) 500 a (some (hN H))) = a + 2 := by show hN H + 1 = _; omega
  have t0 := nA_tg (g := 500) (t := 4615) (n := 60) (by omega) ht
  have p0 := nA_hC (a := a) (g := 500) (t := 4615) (n := 60) hn
  have r0 := nA_hT (a := a) (g := 500) (t := 4615) (n := 60) hn
  refine ⟨by omega, by omega, by omega, nA_tg' (by omega) ht, ?_⟩
  generalize sC (nw H 4615 60) 500 a (some (hN H)) = HA at *
  have E1 : Ext (fun x => x = a) HA (sI (sI (sI (sI HA 501 a 0 (0 : Int32)) 502 a 0 (0 : Int32)) 503 a 0 (0 : Int32)) 504 a 0 (0 : Int32)) := (((Ext_sI (P := fun x => x = a) rfl).tr (Ext_sI (P := fun x => x = a) rfl) (fun _ _ k => k)).tr (Ext_sI (P := fun x => x = a) rfl) (fun _ _ k => k)).tr (Ext_sI (P := fun x => x = a) rfl) (fun _ _ k => k)
  have n1 : hN (sI (sI (sI (sI HA 501 a 0 (0 : Int32)) 502 a 0 (0 : Int32)) 503 a 0 (0 : Int32)) 504 a 0 (0 : Int32)) = a + 2 := n0
  have t1 : tg (sI (sI (sI (sI HA 501 a 0 (0 : Int32)) 502 a 0 (0 : Int32)) 503 a 0 (0 : Int32)) 504 a 0 (0 : Int32)) a = 5 := t0
  have p1 : hC (sI (sI (sI (sI HA 501 a 0 (0 : Int32)) 502 a 0 (0 : Int32)) 503 a 0 (0 : Int32)) 504 a 0 (0 : Int32)) 500 a = some (a + 1) := p0
  have r1 : hT (sI (sI (sI (sI HA 501 a 0 (0 : Int32)) 502 a 0 (0 : Int32)) 503 a 0 (0 : Int32)) 504 a 0 (0 : Int32)) (a + 1) = (4615, 60) := r0
  have i1 : hI (sI (sI (sI (sI HA 501 a 0 (0 : Int32)) 502 a 0 (0 : Int32)) 503 a 0 (0 : Int32)) 504 a 0 (0 : Int32)) 501 a 0 = 0 := by
    rw [hI_sI, u3_g _ _ _ _ _ _ (by decide), hI_sI, u3_g _ _ _ _ _ _ (by decide), hI_sI, u3_g _ _ _ _ _ _ (by decide), hI_sI, u3_same]
  have i2 : hI (sI (sI (sI (sI HA 501 a 0 (0 : Int32)) 502 a 0 (0 : Int32)) 503 a 0 (0 : Int32)) 504 a 0 (0 : Int32)) 502 a 0 = 0 := by
    rw [hI_sI, u3_g _ _ _ _ _ _ (by decide), hI_sI, u3_g _ _ _ _ _ _ (by decide), hI_sI, u3_same]
  have i3 : hI (sI (sI (sI (sI HA 501 a 0 (0 : Int32)) 502 a 0 (0 : Int32)) 503 a 0 (0 : Int32)) 504 a 0 (0 : Int32)) 503 a 0 = 0 := by
    rw [hI_sI, u3_g _ _ _ _ _ _ (by decide), hI_sI, u3_same]
  have i4 : hI (sI (sI (sI (sI HA 501 a 0 (0 : Int32)) 502 a 0 (0 : Int32)) 503 a 0 (0 : Int32)) 504 a 0 (0 : Int32)) 504 a 0 = 0 := by
    rw [hI_sI, u3_same]
  have E := E0.tr E1 (fun _ _ k => k)
  generalize sI (sI (sI (sI HA 501 a 0 (0 : Int32)) 502 a 0 (0 : Int32)) 503 a 0 (0 : Int32)) 504 a 0 (0 : Int32) = H1 at *
  have E2 : Ext (fun x => x = a) H1 (sC (nw H1 4630 4) 505 a (some (hN H1))) := nA_Ext
  have n2 : hN (sC (nw H1 4630 4) 505 a (some (hN H1))) = a + 3 := by show hN H1 + 1 = _; omega
  have t2 := nA_tg (g := 505) (t := 4630) (n := 4) (by omega) t1
  have p2 := nA_hC (a := a) (g := 505) (t := 4630) (n := 4) n1
  have r2 := nA_hT (a := a) (g := 505) (t := 4630) (n := 4) n1
  have p1' := (nA_keep (g := 505) (t := 4630) (n := 4) (by omega) (by decide)).trans p1
  have r1' := ext_hT E2 (by omega) r1
  have j1 : hI (sC (nw H1 4630 4) 505 a (some (hN H1))) 501 a 0 = 0 ∧ hI (sC (nw H1 4630 4) 505 a (some (hN H1))) 502 a 0 = 0 ∧ hI (sC (nw H1 4630 4) 505 a (some (hN H1))) 503 a 0 = 0 ∧ hI (sC (nw H1 4630 4) 505 a (some (hN H1))) 504 a 0 = 0 := by
    refine ⟨?_, ?_, ?_, ?_⟩ <;> rw [nA_hI (by omega)] <;> assumption
  refine ⟨by omega, by omega, by omega, nA_tg' (by omega) t1, fun H9 e9 => ?_⟩
  rw [e9] at E2 n2 t2 p2 r2 p1' r1' j1
  have E9 := E.tr E2 (fun _ _ k => k)
  have e1 : Ext (fun x => x = a) H9 (nw H9 4 0) := Ext_nw
  have e2 : Ext (fun x => x = hN H9) (nw H9 4 0) (setF (nw H9 4 0) (hN H9) (0, 1)) := Ext_setF rfl
  have E6 : Ext (fun x => x = a) H9 (sC (setF (nw H9 4 0) (hN H9) (0, 1)) 506 a (some (hN H9))) := (e1.tr e2 (fun x hx k => by omega)).tr (Ext_sC (P := fun x => x = a) rfl) (fun _ _ k => k)
  have lC : ∀ g, g ≠ 506 → hC (sC (setF (nw H9 4 0) (hN H9) (0, 1)) 506 a (some (hN H9))) g a = hC H9 g a := fun g hg => by
    show u2 (z2 (hC H9) (hN H9) none) 506 a (some (hN H9)) g a = _
    unfold u2; rw [if_neg (fun k => hg k.1), z2_lt _ (by omega)]
  have lI : ∀ g, hI (sC (setF (nw H9 4 0) (hN H9) (0, 1)) 506 a (some (hN H9))) g a = hI H9 g a := fun g => by
    show z3 (hI H9) (hN H9) 0 g a = _
    exact z3_lt _ (by omega)
  refine ⟨by omega, by omega, by omega, K_finit (tg_self H9 4 0) ⟨nA_tg' (by omega) t2, ?_⟩⟩
  refine pinit_loop hn hlim hq 60 0 _ rfl (E9.tr E6 (fun _ _ k => k)) (by show hN H9 + 1 = _; omega) (nA_tg' (by omega) t2) ((lC _ (by decide)).trans p1') (ext_hT E6 (by omega) r1') ((lC _ (by decide)).trans p2) (ext_hT E6 (by omega) r2) ?_ ?_ ?_ (fun j hj => by omega)
  · rw [hC_sC]; unfold u2; rw [if_pos ⟨rfl, rfl⟩, n2]
  · show tg (nw H9 4 0) (a + 3) = 4
    rw [← n2]; exact tg_self H9 4 0
  · rw [lI, lI, lI, lI]; exact j1
