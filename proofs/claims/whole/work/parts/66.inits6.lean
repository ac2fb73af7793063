
/-- the tape made: empty -/
theorem K_tinit {d : Nat} {q : HP → Prop} {H : HP} {a : Nat} (ht : tg H a = 8) (hn : hN H = a + 1) (hlim : a + 2 < scrA) (hq : ∀ H', Ext (fun x => x = a) H H' → hN H' = a + 2 → shTape H' a → hI H' 801 a 0 = 0 → hI H' 802 a 0 = 0 → q H') : CV (d + 1) 1 60 mX7_init [rv (some a)] H q := by
  have hs : scrA = 1000000 := rfl
  refine C_X7_init ?_
  unfold wb_X7_init_0
  have E0 : Ext (fun x => x = a) H (sC (nw H 4145 60) 800 a (some (hN H))) := nA_Ext
  have n0 : hN (sC (nw H 4145 60) 800 a (some (hN H))) = a + 2 := by show hN H + 1 = _; omega
  have t0 := nA_tg (g := 800) (t := 4145) (n := 60) (by omega) ht
  have p0 := nA_hC (a := a) (g := 800) (t := 4145) (n := 60) hn
  have r0 := nA_hT (a := a) (g := 800) (t := 4145) (n := 60) hn
  refine ⟨by omega, by omega, by omega, nA_tg' (by omega) ht, ?_⟩
  generalize sC (nw H 4145 60) 800 a (some (hN H)) = HA at *
  have E1 : Ext (fun x => x = a) HA (sI (sI HA 801 a 0 (0 : Int32)) 802 a 0 (0 : Int32)) := (Ext_sI (P := fun x => x = a) rfl).tr (Ext_sI (P := fun x => x = a) rfl) (fun _ _ k => k)
  refine hq _ (E0.tr E1 (fun _ _ k => k)) n0 ⟨t0, p0, r0⟩ ?_ ?_
  · rw [hI_sI, u3_g _ _ _ _ _ _ (by decide), hI_sI, u3_same]
  · rw [hI_sI, u3_same]
def shTrack (H : HP) (a : Nat) : Prop := tg H a = 9 ∧ hC H 902 a = some (a + 1) ∧ hT H (a + 1) = (4165, 30) ∧ hC H 903 a = some (a + 2) ∧ hT H (a + 2) = (4178, 30)
/-- a track made: nothing -/
theorem K_trinit {d : Nat} {q : HP → Prop} {H : HP} {a : Nat} (ht : tg H a = 9) (hn : hN H = a + 1) (hlim : a + 3 < scrA) (hq : ∀ H', Ext (fun x => x = a) H H' → hN H' = a + 3 → shTrack H' a → hI H' 900 a 0 = -1 → hI H' 901 a 0 = 0 → q H') : CV (d + 1) 2 60 mX8_init [rv (some a)] H q := by
  have hs : scrA = 1000000 := rfl
  refine C_X8_init ?_
  unfold wb_X8_init_0
  have E0 : Ext (fun x => x = a) H (sI (sI H 900 a 0 (-1 : Int32)) 901 a 0 (0 : Int32)) := (Ext_sI (P := fun x => x = a) rfl).tr (Ext_sI (P := fun x => x = a) rfl) (fun _ _ k => k)
  have n0 : hN (sI (sI H 900 a 0 (-1 : Int32)) 901 a 0 (0 : Int32)) = a + 1 := hn
  have t0 : tg (sI (sI H 900 a 0 (-1 : Int32)) 901 a 0 (0 : Int32)) a = 9 := ht
  have i0 : hI (sI (sI H 900 a 0 (-1 : Int32)) 901 a 0 (0 : Int32)) 900 a 0 = -1 := by rw [hI_sI, u3_g _ _ _ _ _ _ (by decide), hI_sI, u3_same]
  have j0 : hI (sI (sI H 900 a 0 (-1 : Int32)) 901 a 0 (0 : Int32)) 901 a 0 = 0 := by rw [hI_sI, u3_same]
  refine ⟨ht, ?_⟩
  generalize sI (sI H 900 a 0 (-1 : Int32)) 901 a 0 (0 : Int32) = HA at *
  have E1 : Ext (fun x => x = a) HA (sC (nw HA 4165 30) 902 a (some (hN HA))) := nA_Ext
  have n1 : hN (sC (nw HA 4165 30) 902 a (some (hN HA))) = a + 2 := by show hN HA + 1 = _; omega
  have t1 := nA_tg (g := 902) (t := 4165) (n := 30) (by omega) t0
  have p1 := nA_hC (a := a) (g := 902) (t := 4165) (n := 30) n0
  have r1 := nA_hT (a := a) (g := 902) (t := 4165) (n := 30) n0
  have i1 : hI (sC (nw HA 4165 30) 902 a (some (hN HA))) 900 a 0 = -1 := by rw [nA_hI (by omega)]; exact i0
  have j1 : hI (sC (nw HA 4165 30) 902 a (some (hN HA))) 901 a 0 = 0 := by rw [nA_hI (by omega)]; exact j0
  refine ⟨by omega, by omega, by omega, nA_tg' (by omega) t0, ?_⟩
  have E := E0.tr E1 (fun _ _ k => k)
  generalize sC (nw HA 4165 30) 902 a (some (hN HA)) = HB at *
  have E2 : Ext (fun x => x = a) HB (sC (nw HB 4178 30) 903 a (some (hN HB))) := nA_Ext
  have n2 : hN (sC (nw HB 4178 30) 903 a (some (hN HB))) = a + 3 := by show hN HB + 1 = _; omega
  have t2 := nA_tg (g := 903) (t := 4178) (n := 30) (by omega) t1
  have p2 := nA_hC (a := a) (g := 903) (t := 4178) (n := 30) n1
  have r2 := nA_hT (a := a) (g := 903) (t := 4178) (n := 30) n1
  have p1' := (nA_keep (g := 903) (t := 4178) (n := 30) (by omega) (by decide)).trans p1
  have r1' := ext_hT E2 (by omega) r1
  have i2 : hI (sC (nw HB 4178 30) 903 a (some (hN HB))) 900 a 0 = -1 := by rw [nA_hI (by omega)]; exact i1
  have j2 : hI (sC (nw HB 4178 30) 903 a (some (hN HB))) 901 a 0 = 0 := by rw [nA_hI (by omega)]; exact j1
  refine ⟨by omega, by omega, by omega, nA_tg' (by omega) t1, fun H10 e10 => ?_⟩
  rw [e10] at E2 n2 t2 p2 r2 p1' r1' i2 j2
  exact hq _ (E.tr E2 (fun _ _ k => k)) n2 ⟨t2, p1', r1', p2, r2⟩ i2 j2
