
/-- a rack made: all places empty -/
theorem rinit_loop {d ca sa : Nat} {q : HP → Prop} {H0 : HP} {a : Nat} {s : Int32} (hlim : a + 3 < scrA) (hq : ∀ H', Ext (fun x => a ≤ x) H0 H' → hN H' = a + 3 → shRack H' a → hI H' 600 a 0 = s → (∀ j, j < 6 → hI H' 4112 (a + 1) j = -1) → q H') : ∀ (k i : Nat) (H : HP), k + i = 6 → Ext (fun x => a ≤ x) H0 H → hN H = a + 3 → shRack H a → hI H 600 a 0 = s → (∀ j, j < i → hI H 4112 (a + 1) j = -1) → L_X5_init_27 d ca sa q a (Int32.ofNat i) H := by
  have e6 : (6 : Int32) = Int32.ofNat 6 := rfl
  intro k
  induction k with
  | zero =>
    intro i H hi E hn h1 h2 hj
    refine T_X5_init_27 ?_
    unfold wb_X5_init_27
    rw [e6, iN_le (by omega) (by omega)]
    exact ⟨fun _ => hq H E hn h1 h2 fun j hj' => hj j (by omega), fun h => by omega⟩
  | succ k ih =>
    intro i H hi E hn h1 h2 hj
    obtain ⟨s1, s2, s3, s4, s5⟩ := id h1
    refine T_X5_init_27 ?_
    unfold wb_X5_init_27
    rw [e6, iN_le (by omega) (by omega)]
    refine ⟨fun h => by omega, fun _ => ⟨s1, a + 1, s2, isA_of s3 (by decide) (by decide), ?_, ?_⟩⟩
    · rw [ln_of s3]; exact vpi_of (by omega) (by omega)
    · rw [tg_of s3, iN_cl (by omega), iN_inc (by omega)]
      have E1 : Ext (fun x => a ≤ x) H (sI H 4112 (a + 1) i (-1 : Int32)) := Ext_sI (by omega)
      refine ih (i + 1) _ (by omega) (E.tr E1 (fun _ _ k => k)) hn h1 ?_ (fun j hj' => ?_)
      · rw [hI_sI, u3_g _ _ _ _ _ _ (by decide)]; exact h2
      · rw [hI_sI]
        by_cases e : j = i
        · rw [e, u3_same]
        · rw [u3_i _ _ _ _ _ _ e]; exact hj j (by omega)
theorem K_rinit {d : Nat} {q : HP → Prop} {H : HP} {a : Nat} {s : Int32} (ht : tg H a = 6) (hn : hN H = a + 1) (hlim : a + 3 < scrA) (hq : ∀ H', Ext (fun x => a ≤ x) H H' → hN H' = a + 3 → shRack H' a → hI H' 600 a 0 = s → (∀ j, j < 6 → hI H' 4112 (a + 1) j = -1) → q H') : CV (d + 1) 2 12 mX5_init [rv (some a), .int s] H q := by
  have hs : scrA = 1000000 := rfl
  refine C_X5_init ?_
  unfold wb_X5_init_0
  have E0 : Ext (fun x => x = a) H (sC (nw H 4112 6) 601 a (some (hN H))) := nA_Ext
  have n0 : hN (sC (nw H 4112 6) 601 a (some (hN H))) = a + 2 := by show hN H + 1 = _; omega
  have t0 := nA_tg (g := 601) (t := 4112) (n := 6) (by omega) ht
  have p0 := nA_hC (a := a) (g := 601) (t := 4112) (n := 6) hn
  have r0 := nA_hT (a := a) (g := 601) (t := 4112) (n := 6) hn
  refine ⟨by omega, by omega, by omega, nA_tg' (by omega) ht, ?_⟩
  generalize sC (nw H 4112 6) 601 a (some (hN H)) = HA at *
  have E1 : Ext (fun x => x = a) HA (sC (nw HA 4131 6) 602 a (some (hN HA))) := nA_Ext
  have n1 : hN (sC (nw HA 4131 6) 602 a (some (hN HA))) = a + 3 := by show hN HA + 1 = _; omega
  have t1 := nA_tg (g := 602) (t := 4131) (n := 6) (by omega) t0
  have p1 := nA_hC (a := a) (g := 602) (t := 4131) (n := 6) n0
  have r1 := nA_hT (a := a) (g := 602) (t := 4131) (n := 6) n0
  have p0' := (nA_keep (g := 602) (t := 4131) (n := 6) (by omega) (by decide)).trans p0
  have r0' := ext_hT E1 (by omega) r0
  refine ⟨by omega, by omega, by omega, nA_tg' (by omega) t0, ?_⟩
  have E := E0.tr E1 (fun _ _ k => k)
  generalize sC (nw HA 4131 6) 602 a (some (hN HA)) = HB at *
  have E2 : Ext (fun x => x = a) HB (sI HB 600 a 0 s) := Ext_sI rfl
  refine rinit_loop hlim hq 6 0 _ rfl ((E.tr E2 (fun _ _ k => k)).mono (fun x _ k => by omega)) n1 ⟨t1, p0', r0', p1, r1⟩ ?_ (fun j hj => by omega)
  rw [hI_sI, u3_same]
