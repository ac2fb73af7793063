
/-! ===== the reference: what it answers of a proof ===== -/
def MPf (H : HP) (m : Nat) (P : PG) : Prop := JH H m (gS P) (gJ P) ∧ hI H 1340 m 0 = bI (gE P) ∧ (gE P = true → gW P = 0 → hI H 1343 m 0 = Int32.ofNat (gL P) ∧ hI H 1344 m 0 = Int32.ofNat (gR P))
def MPr (H : HP) (m : Nat) (pr : Bool) (P : PG) : Prop := hI H 1339 m 0 = bI pr ∧ (pr = true → MPf H m P)
theorem fr_MPr {S : Nat → Nat → Prop} {H H' : HP} {m : Nat} {pr : Bool} {P : PG} (h : Fr S H H') (h0 : ∀ g, 1339 ≤ g → g ≤ 1344 → ¬ S g m) (h1 : ¬ S 4960 (m + 21)) (h2 : ¬ S 4976 (m + 22)) (h3 : ¬ S 4995 (m + 23)) (h4 : ¬ S 5011 (m + 24)) (s : MPr H m pr P) : MPr H' m pr P := by
  have hi := h.2.2.2.2.1
  refine ⟨by rw [hi _ _ (h0 _ (by omega) (by omega))]; exact s.1, fun k => ?_⟩
  obtain ⟨s1, s2, s3⟩ := s.2 k
  refine ⟨fr_JH h (fun g k => h0 _ (by omega) (by omega)) h1 h2 h3 h4 (fun _ _ => rfl) s1, by rw [hi _ _ (h0 _ (by omega) (by omega))]; exact s2, fun k1 k2 => ?_⟩
  rw [hi _ _ (h0 _ (by omega) (by omega)), hi _ _ (h0 _ (by omega) (by omega))]; exact s3 k1 k2
theorem K_isStep {d : Nat} {q : HP → Bool → Prop} {H : HP} {m k : Nat} {x : Int32} (sm : shM H m) (hk : hI H 1341 m 0 = Int32.ofNat k) (h60 : k ≤ 60) (h1 : ∀ i : Nat, i < k → x = Int32.ofNat i → q H true) (h0 : (x.toInt < 0 ∨ (k : Int) ≤ x.toInt) → q H false) : CZ (d + 2) 0 0 mX12_isStep [rv (some m), .int x] H q := by
  refine C_X12_isStep ?_
  unfold wb_X12_isStep_0
  refine ⟨sm.1, K_isIn ?_⟩
  rw [hk, i64_of32, i64_of32, held_last h60, i64_0]
  by_cases hx : 0 ≤ x.toInt ∧ x.toInt ≤ (k : Int) - 1
  · rw [decide_eq_true hx]
    exact h1 x.toInt.toNat (by omega) (iN_inj (by omega) (by omega))
  · rw [decide_eq_false hx]
    exact h0 (by omega)
theorem mproof_loop {d : Nat} {q : HP → Int32 → Prop} {H : HP} {m : Nat} {P : PG} {x : Int32} (sm : shM H m) (ok : okPG P) (c : MPf H m P) (hq : q H (proofA P x)) : ∀ (k i : Nat), k + i = gH P → L_X12_proof_14 d q m x (Int32.ofNat (cntB (fun i => decide (gK P i = 0)) i)) (Int32.ofNat i) H := by
  obtain ⟨c1, c2, c3⟩ := c
  obtain ⟨j1, j2, j3⟩ := c1
  obtain ⟨o1, o2, o3, o4, o5, o6, o7⟩ := ok
  have j1 : hI H 1341 m 0 = Int32.ofNat (gH P) := j1
  have j2 : hI H 1342 m 0 = gW P := j2
  obtain ⟨k1, k2, k3, k4⟩ := mA_kind sm
  obtain ⟨u1, u2, u3, u4⟩ := mA_valueUp sm
  intro k
  induction k with
  | zero =>
    intro i hi
    refine T_X12_proof_14 ?_
    unfold wb_X12_proof_14
    rw [j1, iN_le (by omega) (by omega), j2, c2]
    have e : i = gH P := by omega
    refine ⟨sm.1, fun _ => ⟨fun h => (by rw [proofA_d h] at hq; exact hq), fun h => ?_, fun h => ?_, fun h => ?_, fun h => ?_, fun h => ?_⟩, fun h => by omega⟩
    · subst h
      rw [proofA_0] at hq
      refine ⟨fun h => ?_, fun h => ?_⟩
      · rw [if_neg h] at hq; exact hq
      · rw [if_pos h] at hq; exact hq
    · subst h
      rw [proofA_1] at hq; exact hq
    · subst h
      rw [proofA_2] at hq
      rw [bI_nz, bI_z]
      refine ⟨fun h => ?_, fun h => ?_⟩
      · rw [h] at hq; exact hq
      · rw [h] at hq; exact hq
    · subst h
      rw [proofA_3] at hq
      unfold agreeP at hq
      rw [bI_nz, bI_z]
      refine ⟨fun h => ?_, fun h => ⟨fun h2 => ?_, fun h2 => ?_⟩⟩
      · rw [decide_eq_false h, Bool.false_and, Bool.false_and] at hq; exact hq
      · rw [h2, Bool.and_false, Bool.false_and] at hq; exact hq
      · rw [decide_eq_true h, h2, Bool.true_and, Bool.true_and] at hq
        have h1 : 1 ≤ gH P := by have := o4 h; omega
        have ee : Int32.ofNat (gH P) - (1 : Int32) = Int32.ofNat (gH P - 1) := iN_inj (by omega) (by rw [held_last (by omega)]; omega)
        have hv : hL H 4995 (m + 23) (gH P - 1) = (gV P (gH P - 1)).2.1 := (j3 (gH P - 1) (by show gH P - 1 < gH P; omega)).1.2.2.1
        refine ⟨m + 23, u1, u2, ?_, ?_⟩
        · rw [ee, u4]; exact vpi_of (by omega) (by decide)
        · rw [ee, u3, iN_cl (by omega), hv]
          refine ⟨fun h => ?_, fun h => ?_⟩
          · rw [decide_eq_false h] at hq; exact hq
          · rw [decide_eq_true h] at hq; exact hq
    · subst h
      rw [proofA_4] at hq
      subst e; exact hq
  | succ k ih =>
    intro i hi
    have hle := cntB_le (fun i => decide (gK P i = 0)) i
    have nx := ih (i + 1) (by omega)
    have hk : hI H 4960 (m + 21) i = Int32.ofNat (gK P i) := (j3 i (by show i < gH P; omega)).1.1
    refine T_X12_proof_14 ?_
    unfold wb_X12_proof_14
    rw [j1, iN_le (by omega) (by omega)]
    refine ⟨sm.1, fun h => by omega, fun _ => ⟨m + 21, k1, k2, by rw [k4]; exact vpi_of (by omega) (by decide), ?_⟩⟩
    rw [k3, iN_cl (by omega), hk, iN_inc (by omega), Int32.add_zero, iN_inc (by omega)]
    unfold cntB at nx
    have h5 := o5 i (by omega)
    have ez : Int32.ofNat (gK P i) = 0 ↔ gK P i = 0 := ⟨fun h => by
      have := congrArg Int32.toInt h
      rw [iN_toInt (by omega), i32_0] at this; omega, fun h => by rw [h]; rfl⟩
    rw [ez]
    refine ⟨fun h => ?_, fun h => ?_⟩
    · rw [if_neg (by simpa using h)] at nx; exact nx
    · rw [if_pos (by simpa using h)] at nx; exact nx
theorem K_mproof {d m : Nat} {q : HP → Int32 → Prop} {H : HP} {pr : Bool} {P : PG} {x : Int32} (sm : shM H m) (c : MPr H m pr P) (ok : okPG P) (hq : q H (stA? pr (proofA P x))) : CI (d + 1) 0 0 mX12_proof [rv (some m), .int x] H q := by
  refine C_X12_proof ?_
  unfold wb_X12_proof_0
  rw [c.1, bI_nz, bI_z]
  refine ⟨sm.1, fun hp => ?_, fun hp => ?_⟩
  · subst hp
    rw [stA?_t] at hq
    exact mproof_loop sm ok (c.2 rfl) hq (gH P) 0 rfl
  · subst hp
    rw [stA?_f] at hq; exact hq
theorem ix5p {i j : Nat} (h : 5 * i + j + 1 < 2147483648) : (5 : Int32) * Int32.ofNat i + Int32.ofNat (j + 1) - 1 = Int32.ofNat (5 * i + j) := by
  rw [ix5 (by omega)]
  refine iN_inj (by omega) ?_
  have e := iN_toInt (n := 5 * i + (j + 1)) (by omega)
  rw [i32_subx] <;> rw [e, i32_1] <;> omega
theorem e64_6 : (6 : Int64).toInt = 6 := rfl
theorem K_mstep {d m : Nat} {q : HP → Int32 → Prop} {H : HP} {pr : Bool} {P : PG} {x w : Int32} (sm : shM H m) (c : MPr H m pr P) (ok : okPG P) (hq : q H (stA? pr (stepA P x w))) : CI (d + 3) 0 0 mX12_step [rv (some m), .int x, .int w] H q := by
  have h60 : gH P ≤ 60 := by have := ok.2.1; have := ok.2.2.1; omega
  refine C_X12_step ?_
  unfold wb_X12_step_0
  rw [c.1, bI_nz, bI_z]
  refine ⟨sm.1, fun hp => ?_, fun hp => ?_⟩
  · subst hp
    rw [stA?_t] at hq
    obtain ⟨⟨j1, j2, j3⟩, c2, c3⟩ := c.2 rfl
    obtain ⟨k1, k2, k3, k4⟩ := mA_kind sm
    obtain ⟨u1, u2, u3, u4⟩ := mA_valueUp sm
    obtain ⟨d1, d2, d3, d4⟩ := mA_dimension sm
    unfold stepA at hq
    refine K_isStep (d := d) sm j1 h60 (fun i hi e => ⟨fun k => (by cases k), fun _ => K_isIn (d := d + 1) ?_⟩) (fun h => ⟨fun _ => ?_, fun k => (by cases k)⟩)
    · obtain ⟨i1, i2⟩ := inH_of h60 hi e
      obtain ⟨⟨r1, r2, r3, r4⟩, r5⟩ := j3 i hi
      have r3 : hL H 4995 (m + 23) i = (gV P i).2.1 := r3
      have r1 : hI H 4960 (m + 21) i = Int32.ofNat (gK P i) := r1
      have r2 : ∀ j, j < 5 → hI H 4976 (m + 22) (5 * i + j) = (gV P i).1 j := r2
      rw [i64_of32, i64_0, e64_6]
      refine ⟨fun hb => ?_, fun hb => ?_⟩
      · have hb := of_decide_eq_true hb
        rw [if_pos ⟨i1, hb⟩, i2] at hq
        unfold rowA at hq
        have e6 : (6 : Int32).toInt = 6 := rfl
        subst e
        rw [i32_le, e6]
        refine ⟨fun h0 => ⟨fun h6 => ⟨sm.1, m + 23, u1, u2, by rw [u4]; exact vpi_of (by omega) (by decide), K_signum ?_⟩, fun h6 => ⟨sm.1, m + 22, d1, d2, ?_, ?_⟩⟩, fun h0 => ⟨sm.1, m + 21, k1, k2, by rw [k4]; exact vpi_of (by omega) (by decide), ?_⟩⟩
        · have : w = 6 := i32_ext (by rw [e6]; omega)
          rw [if_neg h0, if_pos this] at hq
          rw [u3, iN_cl (by omega), r3]; exact hq
        · have n0 : w.toInt ≠ 0 := fun k => h0 (i32_ext (by rw [k]; rfl))
          have ew : w = Int32.ofNat (w.toInt.toNat - 1 + 1) := iN_inj (by omega) (by omega)
          have ei : (5 : Int32) * Int32.ofNat i + w - 1 = Int32.ofNat (5 * i + (w.toInt.toNat - 1)) := by
            have := ix5p (i := i) (j := w.toInt.toNat - 1) (by omega)
            rw [← ew] at this; exact this
          rw [ei, d4]; exact vpi_of (by omega) (by decide)
        · have n0 : w.toInt ≠ 0 := fun k => h0 (i32_ext (by rw [k]; rfl))
          have n6 : ¬ w = 6 := fun k => h6 (by rw [k]; decide)
          have ew : w = Int32.ofNat (w.toInt.toNat - 1 + 1) := iN_inj (by omega) (by omega)
          have ei : (5 : Int32) * Int32.ofNat i + w - 1 = Int32.ofNat (5 * i + (w.toInt.toNat - 1)) := by
            have := ix5p (i := i) (j := w.toInt.toNat - 1) (by omega)
            rw [← ew] at this; exact this
          rw [if_neg h0, if_neg n6] at hq
          rw [ei, d3, iN_cl (by omega), r2 _ (by omega)]; exact hq
        · rw [if_pos h0] at hq
          rw [k3, iN_cl (by omega), r1]; exact hq
      · have hb := of_decide_eq_false hb
        rw [if_neg (fun k => hb k.2)] at hq; exact hq
    · have h : x.toInt < 0 ∨ (gH P : Int) ≤ x.toInt := h
      rw [if_neg (fun k => by have := k.1.1; have := k.1.2; omega)] at hq; exact hq
  · subst hp
    rw [stA?_f] at hq; exact hq
theorem K_mvalue {d m : Nat} {q : HP → Int64 → Prop} {H : HP} {pr : Bool} {P : PG} {x w : Int32} (sm : shM H m) (c : MPr H m pr P) (ok : okPG P) (hq : q H (valueA pr P x w)) : CJ (d + 3) 0 0 mX12_value [rv (some m), .int x, .int w] H q := by
  have h60 : gH P ≤ 60 := by have := ok.2.1; have := ok.2.2.1; omega
  refine C_X12_value ?_
  unfold wb_X12_value_0
  rw [c.1, bI_nz, bI_z]
  unfold valueA at hq
  refine ⟨sm.1, fun hp => ?_, fun hp => ?_⟩
  · rw [if_neg (fun k => by rw [hp] at k; cases k.1)] at hq; exact hq
  · obtain ⟨⟨j1, j2, j3⟩, c2, c3⟩ := c.2 hp
    obtain ⟨u1, u2, u3, u4⟩ := mA_valueUp sm
    obtain ⟨l1, l2, l3, l4⟩ := mA_valueLow sm
    refine K_isStep (d := d) sm j1 h60 (fun i hi e => ⟨fun k => (by cases k), fun _ => K_isPart (d := d) (fun hw => ⟨fun k => (by cases k), fun _ => ?_⟩) (fun hw => ⟨fun _ => ?_, fun k => (by cases k)⟩)⟩) (fun h => ⟨fun _ => ?_, fun k => (by cases k)⟩)
    · obtain ⟨i1, i2⟩ := inH_of h60 hi e
      obtain ⟨⟨r1, r2, r3, r4⟩, r5⟩ := j3 i hi
      rw [if_pos ⟨hp, i1⟩, i2] at hq
      subst e
      refine ⟨sm.1, m + 23, u1, u2, by rw [u4]; exact vpi_of (by omega) (by decide), m + 24, l1, l2, by rw [l4]; exact vpi_of (by omega) (by decide), K_partOf ?_⟩
      rw [u3, l3, iN_cl (by omega), r3, r4]
      by_cases h0 : w = 0
      · rw [if_pos h0] at hq ⊢; exact hq
      · rw [if_neg h0] at hq ⊢
        rw [if_pos (hw.resolve_left h0)] at hq; exact hq
    · obtain ⟨i1, i2⟩ := inH_of h60 hi e
      rw [if_pos ⟨hp, i1⟩, if_neg (fun k => hw (Or.inl k)), if_neg (fun k => hw (Or.inr k))] at hq; exact hq
    · have h : x.toInt < 0 ∨ (gH P : Int) ≤ x.toInt := h
      rw [if_neg (fun k => by have := k.2.1; have := k.2.2; omega)] at hq; exact hq
theorem K_msame {d m : Nat} {q : HP → Int32 → Prop} {H : HP} {pr : Bool} {P : PG} {x y : Int32} (sm : shM H m) (c : MPr H m pr P) (ok : okPG P) (hq : q H (stA? pr (sameA P x y))) : CI (d + 3) 0 0 mX12_same [rv (some m), .int x, .int y] H q := by
  have h60 : gH P ≤ 60 := by have := ok.2.1; have := ok.2.2.1; omega
  refine C_X12_same ?_
  unfold wb_X12_same_0
  rw [c.1, bI_nz, bI_z]
  unfold sameA at hq
  refine ⟨sm.1, fun hp => ?_, fun hp => ?_⟩
  · subst hp
    rw [stA?_t] at hq
    obtain ⟨⟨j1, j2, j3⟩, c2, c3⟩ := c.2 rfl
    obtain ⟨u1, u2, u3, u4⟩ := mA_valueUp sm
    obtain ⟨l1, l2, l3, l4⟩ := mA_valueLow sm
    refine K_isStep (d := d) sm j1 h60 (fun i hi e => ⟨fun k => (by cases k), fun _ => ⟨sm.1, K_isStep (d := d) sm j1 h60 (fun j hj e' => ⟨fun _ => ?_, fun k => (by cases k)⟩) (fun h => ⟨fun k => (by cases k), fun _ => ?_⟩)⟩⟩) (fun h => ⟨fun _ => ?_, fun k => (by cases k)⟩)
    · obtain ⟨i1, i2⟩ := inH_of h60 hi e
      obtain ⟨n1, n2⟩ := inH_of h60 hj e'
      obtain ⟨ri, vi⟩ := j3 i hi
      obtain ⟨rj, vj⟩ := j3 j hj
      have hi' : i < gH P := hi
      have hj' : j < gH P := hj
      rw [if_pos ⟨i1, n1⟩, i2, n2] at hq
      subst e; subst e'
      refine ⟨sm.1, K_areLikeSteps (d := d + 1) sm (by omega) (by omega) ri rj ⟨fun hb => ⟨sm.1, m + 23, u1, u2, by rw [u4]; exact vpi_of (by omega) (by decide), by rw [u4]; exact vpi_of (by omega) (by decide), ?_⟩, fun hb => ?_⟩⟩
      · have hb : eq5 (gV P i).1 (gV P j).1 = true := hb
        rw [if_pos hb] at hq
        rw [u3, iN_cl (by omega), iN_cl (by omega), ri.2.2.1, rj.2.2.1]
        refine ⟨fun h => ?_, fun h => ⟨m + 24, l1, l2, by rw [l4]; exact vpi_of (by omega) (by decide), by rw [l4]; exact vpi_of (by omega) (by decide), ?_⟩⟩
        · rw [if_neg (show ¬ (gV P i).2 = (gV P j).2 from fun k => h (congrArg Prod.fst k))] at hq; exact hq
        · rw [l3, ri.2.2.2, rj.2.2.2]
          refine ⟨fun h' => ?_, fun h' => ?_⟩
          · rw [if_neg (show ¬ (gV P i).2 = (gV P j).2 from fun k => h' (congrArg Prod.snd k))] at hq; exact hq
          · rw [if_pos (show (gV P i).2 = (gV P j).2 from Prod.ext h h')] at hq; exact hq
      · have hb : ¬ eq5 (gV P i).1 (gV P j).1 = true := by
          have hb : eq5 (gV P i).1 (gV P j).1 = false := hb
          rw [hb]; decide
        rw [if_neg hb] at hq; exact hq
    · have h : y.toInt < 0 ∨ (gH P : Int) ≤ y.toInt := h
      rw [if_neg (fun k => by have := k.2.1; have := k.2.2; omega)] at hq; exact hq
    · have h : x.toInt < 0 ∨ (gH P : Int) ≤ x.toInt := h
      rw [if_neg (fun k => by have := k.1.1; have := k.1.2; omega)] at hq; exact hq
  · subst hp
    rw [stA?_f] at hq; exact hq
