
/-! ===== the class: proof, step, value, same ===== -/
def CPr (H : HP) (pr : Bool) (P : PG) : Prop := hI H 1209 0 0 = bI pr ∧ ∃ la dr : Nat, ((la = 242 ∧ dr = 666) ∨ (la = 666 ∧ dr = 242)) ∧ hR H 1207 0 0 = some la ∧ hR H 1208 0 0 = some dr ∧ shProof H la ∧ shProof H dr ∧ (pr = true → CPf H la P) ∧ (pr = false → hI H 502 la 0 = 0)
theorem fr_CPr {S : Nat → Nat → Prop} {H H' : HP} {pr : Bool} {P : PG} (ok : okPG P) (h : Fr S H H') (h0 : ¬ S 1207 0) (h2 : ¬ S 1208 0) (h3 : ¬ S 1209 0) (h1 : ∀ g x, 242 ≤ x → x < 1090 → ¬ S g x) (s : CPr H pr P) : CPr H' pr P := by
  obtain ⟨s1, la, dr, s2, s3, s4, s5, s6, s7, s8⟩ := s
  have hr := h.2.2.2.2.2.2.2.2
  refine ⟨?_, la, dr, s2, ?_, ?_, fr_shProof h (h1 _ _ (by omega) (by omega)) s5, fr_shProof h (h1 _ _ (by omega) (by omega)) s6, fun k => fr_CPf ok h (fun g x k1 k2 => h1 _ _ (by omega) (by omega)) (s7 k), fun k => ?_⟩
  · rw [h.2.2.2.2.1 _ _ h3]; exact s1
  · rw [hr _ _ h0]; exact s3
  · rw [hr _ _ h2]; exact s4
  · rw [h.2.2.2.2.1 _ _ (h1 _ _ (by omega) (by omega))]; exact s8 k
def proofA (P : PG) (x : Int32) : Int32 := if x = 0 then (if gW P = 0 then 1 else gW P) else if x = 1 then Int32.ofNat (gH P) else if x = 2 then bI (gE P) else if x = 3 then bI (agreeP P) else if x = 4 then Int32.ofNat (partsP P) else -1
theorem proofA_d {P : PG} {x : Int32} (h : x.toInt < 0 ∨ 4 < x.toInt) : proofA P x = -1 := by
  have hne : ∀ y : Int32, (x.toInt < y.toInt ∨ y.toInt < x.toInt) → ¬ x = y := fun y h k => by rw [k] at h; omega
  have e2 : (2 : Int32).toInt = 2 := rfl
  have e3 : (3 : Int32).toInt = 3 := rfl
  have e4 : (4 : Int32).toInt = 4 := rfl
  unfold proofA
  rw [if_neg (hne 0 (by rw [i32_0]; omega)), if_neg (hne 1 (by rw [i32_1]; omega)), if_neg (hne 2 (by omega)), if_neg (hne 3 (by omega)), if_neg (hne 4 (by omega))]
theorem proofA_0 {P : PG} : proofA P 0 = if gW P = 0 then 1 else gW P := by unfold proofA; rw [if_pos rfl]
theorem proofA_1 {P : PG} : proofA P 1 = Int32.ofNat (gH P) := by unfold proofA; rw [if_neg (by decide), if_pos rfl]
theorem proofA_2 {P : PG} : proofA P 2 = bI (gE P) := by unfold proofA; rw [if_neg (by decide), if_neg (by decide), if_pos rfl]
theorem proofA_3 {P : PG} : proofA P 3 = bI (agreeP P) := by unfold proofA; rw [if_neg (by decide), if_neg (by decide), if_neg (by decide), if_pos rfl]
theorem proofA_4 {P : PG} : proofA P 4 = Int32.ofNat (partsP P) := by unfold proofA; rw [if_neg (by decide), if_neg (by decide), if_neg (by decide), if_neg (by decide), if_pos rfl]
def stA? (pr : Bool) (a : Int32) : Int32 := if pr = true then a else -3
theorem stA?_t {a : Int32} : stA? true a = a := if_pos rfl
theorem stA?_f {a : Int32} : stA? false a = -3 := if_neg (by decide)
theorem bI_nz {b : Bool} : ¬ bI b = 0 ↔ b = true := by cases b <;> decide
theorem bI_z {b : Bool} : bI b = 0 ↔ b = false := by cases b <;> decide
theorem K_cproof {d : Nat} {q : HP → Int32 → Prop} {H : HP} {pr : Bool} {P : PG} {x : Int32} (s : shP H) (c : CPr H pr P) (ok : okPG P) (hq : q H (stA? pr (proofA P x))) : CI (d + 3) 0 0 mX11_proof [rv (some 0), .int x] H q := by
  obtain ⟨c1, la, dr, -, c3, c4, c5, c6, c7, c8⟩ := c
  refine C_X11_proof ?_
  unfold wb_X11_proof_0
  rw [c1, bI_nz, bI_z, c3]
  refine ⟨s.1, fun hp => ?_, fun hp => ?_⟩
  · subst hp
    have cf := c7 rfl
    rw [stA?_t] at hq
    obtain ⟨f1, f2, f3⟩ := id cf
    have p3 : hI H 502 la 0 = Int32.ofNat (gH P) := f2.2.2.1
    have p4 : hI H 503 la 0 = gW P := f2.2.2.2.1
    refine ⟨fun h => (by rw [proofA_d h] at hq; exact hq), fun h => ?_, fun h => ?_, fun h => ?_, fun h => ?_, fun h => ?_⟩
    · subst h
      rw [proofA_0] at hq
      refine ⟨la, rfl, f1.1, K_isHeld (d := d + 1) f1.1 (fun hw => ⟨fun k => (by cases k), fun _ => ?_⟩) (fun hw => ⟨fun _ => ⟨s.1, la, c3, f1.1, ?_⟩, fun k => (by cases k)⟩)⟩
      · rw [p4] at hw
        rw [if_pos hw] at hq; exact hq
      · rw [p4] at hw
        rw [if_neg hw] at hq
        rw [p4]; exact hq
    · subst h
      rw [proofA_1] at hq
      refine ⟨la, rfl, f1.1, ?_⟩
      rw [p3]; exact hq
    · subst h
      rw [proofA_2] at hq
      refine ⟨la, rfl, f1.1, ?_⟩
      rw [f3, bI_nz, bI_z]
      refine ⟨fun h => ?_, fun h => ?_⟩
      · rw [h] at hq; exact hq
      · rw [h] at hq; exact hq
    · subst h
      rw [proofA_3] at hq
      refine ⟨la, rfl, f1.1, K_sidesAgree (d := d) ok cf ⟨fun h => ?_, fun h => ?_⟩⟩
      · rw [h] at hq; exact hq
      · rw [h] at hq; exact hq
    · subst h
      rw [proofA_4] at hq
      exact ⟨la, rfl, f1.1, K_heldParts (d := d + 1) ok cf hq⟩
  · subst hp
    rw [stA?_f] at hq; exact hq
abbrev inH (P : PG) (x : Int32) : Prop := 0 ≤ x.toInt ∧ x.toInt < (gH P : Int)
def rowA (P : PG) (i : Nat) (w : Int32) : Int32 := if w = 0 then Int32.ofNat (gK P i) else if w = 6 then sgE (gV P i).2.1 + 1 else (gV P i).1 (w.toInt.toNat - 1) + 100
def stepA (P : PG) (x w : Int32) : Int32 := if inH P x ∧ 0 ≤ w.toInt ∧ w.toInt ≤ 6 then rowA P x.toInt.toNat w else -1
def valueA (pr : Bool) (P : PG) (x w : Int32) : Int64 := if pr = true ∧ inH P x then (if w = 0 then (gV P x.toInt.toNat).2.1 else if w = 1 then (gV P x.toInt.toNat).2.2 else -9223372036854775808) else -9223372036854775808
def sameA (P : PG) (x y : Int32) : Int32 := if inH P x ∧ inH P y then (if eq5 (gV P x.toInt.toNat).1 (gV P y.toInt.toNat).1 = true then (if (gV P x.toInt.toNat).2 = (gV P y.toInt.toNat).2 then 2 else 1) else 0) else -1
theorem inH_of {P : PG} {i : Nat} {x : Int32} (h60 : gH P ≤ 60) (hi : i < gH P) (e : x = Int32.ofNat i) : inH P x ∧ x.toInt.toNat = i := by
  rw [e, inH, iN_toInt (by omega)]
  exact ⟨⟨by omega, by omega⟩, by omega⟩
theorem K_cstep {d : Nat} {q : HP → Int32 → Prop} {H : HP} {pr : Bool} {P : PG} {x w : Int32} (s : shP H) (c : CPr H pr P) (ok : okPG P) (hq : q H (stA? pr (stepA P x w))) : CI (d + 2) 0 0 mX11_step [rv (some 0), .int x, .int w] H q := by
  obtain ⟨c1, la, dr, -, c3, c4, c5, c6, c7, c8⟩ := c
  have h60 : gH P ≤ 60 := by have := ok.2.1; have := ok.2.2.1; omega
  refine C_X11_step ?_
  unfold wb_X11_step_0
  rw [c1, bI_nz, bI_z, c3]
  refine ⟨s.1, fun hp => ?_, fun hp => ?_⟩
  · subst hp
    have cf := c7 rfl
    rw [stA?_t] at hq
    obtain ⟨f1, f2, f3⟩ := id cf
    have p3 : hI H 502 la 0 = Int32.ofNat (gH P) := f2.2.2.1
    unfold stepA at hq
    have e6 : (6 : Int32).toInt = 6 := rfl
    refine ⟨la, rfl, f1.1, K_heldStep (d := d) f1 p3 h60 (fun i hi e => ⟨fun k => (by cases k), fun b hb => ?_⟩) (fun h => ⟨fun _ => ?_, fun b hb => (by cases hb)⟩)⟩
    · obtain ⟨i1, i2⟩ := inH_of h60 hi e
      have ss := (f1.2.2.2.2.2.2.2 i (by omega)).2
      obtain ⟨z1, -, -, -, -, -, -, -, -, z2, z3, z4, z5⟩ := id ss
      obtain ⟨v1, v2⟩ := (f2.2.2.2.2.2 i hi).1
      injection hb with hb
      subst hb
      rw [i32_lt, i32_le, i32_0, e6]
      refine ⟨fun h => ?_, fun h => ⟨fun h6 => ?_, fun h6 => ?_⟩⟩
      · rw [if_neg (by omega)] at hq; exact hq
      · rw [if_pos ⟨i1, by omega, h6⟩, i2] at hq
        unfold rowA at hq
        refine ⟨fun h0 => ⟨fun h7 => ⟨z1, stA la i + 5, z2, isA_of z3 (by decide) (by decide), ?_, ?_⟩, fun h7 => ⟨z1, stA la i + 6, z4, z5, K_compareL ?_⟩⟩, fun h0 => ⟨z1, ?_⟩⟩
        · have n0 : w.toInt ≠ 0 := fun k => h0 (i32_ext (by rw [k]; rfl))
          have n6 : w.toInt ≠ 6 := fun k => h7 (i32_ext (by rw [k]; rfl))
          have em : (w - 1).toInt = w.toInt - 1 := by rw [i32_subx] <;> rw [i32_1] <;> omega
          rw [ln_of z3]; exact vpi_i (by omega) (by omega)
        · have n0 : w.toInt ≠ 0 := fun k => h0 (i32_ext (by rw [k]; rfl))
          have n6 : w.toInt ≠ 6 := fun k => h7 (i32_ext (by rw [k]; rfl))
          have em : (w - 1).toInt = w.toInt - 1 := by rw [i32_subx] <;> rw [i32_1] <;> omega
          have ec : (w - 1).toNatClampNeg = w.toInt.toNat - 1 := by
            show (w - 1).toInt.toNat = _
            rw [em]; omega
          rw [if_neg h0, if_neg h7] at hq
          rw [tg_of z3, ec, v1 _ (by omega)]; exact hq
        · rw [if_neg h0, if_pos h7] at hq
          have : hL H 400 (stA la i + 6) 0 = (gV P i).2.1 := congrArg Prod.fst v2
          rw [this]; exact hq
        · rw [if_pos h0] at hq
          rw [(f2.2.2.2.2.1 i (by have := ok.2.2.1; omega)).1]; exact hq
      · rw [if_neg (by omega)] at hq; exact hq
    · rw [if_neg (fun k => by have := k.1.1; have := k.1.2; omega)] at hq; exact hq
  · subst hp
    rw [stA?_f] at hq; exact hq
theorem K_provedStep {d : Nat} {q : HP → Option Nat → Prop} {H : HP} {pr : Bool} {P : PG} {x : Int32} (s : shP H) (c : CPr H pr P) (ok : okPG P) (h1 : ∀ la i : Nat, pr = true → hR H 1207 0 0 = some la → CPf H la P → i < gH P → x = Int32.ofNat i → q H (some (stA la i))) (h0 : ¬ (pr = true ∧ inH P x) → q H none) : CR (d + 2) 0 0 mX11_provedStep [rv (some 0), .int x] H q := by
  obtain ⟨c1, la, dr, -, c3, c4, c5, c6, c7, c8⟩ := c
  have h60 : gH P ≤ 60 := by have := ok.2.1; have := ok.2.2.1; omega
  refine C_X11_provedStep ?_
  unfold wb_X11_provedStep_0
  rw [c1, bI_nz, bI_z, c3]
  refine ⟨s.1, fun hp => h0 fun k => (by rw [hp] at k; cases k.1), fun hp => ?_⟩
  have cf := c7 hp
  refine ⟨la, rfl, cf.1.1, K_heldStep (d := d) cf.1 cf.2.1.2.2.1 h60 (fun i hi e => h1 la i hp c3 cf hi e) (fun h => h0 fun k => ?_)⟩
  have := k.2.1; have := k.2.2
  have h : x.toInt < 0 ∨ (gH P : Int) ≤ x.toInt := h
  omega
theorem K_cvalue {d : Nat} {q : HP → Int64 → Prop} {H : HP} {pr : Bool} {P : PG} {x w : Int32} (s : shP H) (c : CPr H pr P) (ok : okPG P) (hq : q H (valueA pr P x w)) : CJ (d + 3) 0 0 mX11_value [rv (some 0), .int x, .int w] H q := by
  have h60 : gH P ≤ 60 := by have := ok.2.1; have := ok.2.2.1; omega
  refine C_X11_value ?_
  unfold wb_X11_value_0
  unfold valueA at hq
  refine ⟨s.1, K_provedStep (d := d) s c ok (fun la i hp hla cf hi e => ⟨fun k => (by cases k), fun b hb => ?_⟩) (fun h => ⟨fun _ => ?_, fun b hb => (by cases hb)⟩)⟩
  · obtain ⟨i1, i2⟩ := inH_of h60 hi e
    obtain ⟨z1, -, -, -, -, -, -, -, -, z2, z3, z4, z5⟩ := (cf.1.2.2.2.2.2.2.2 i (by omega)).2
    obtain ⟨v1, v2⟩ := (cf.2.1.2.2.2.2.2 i hi).1
    injection hb with hb
    subst hb
    rw [if_pos ⟨hp, i1⟩, i2] at hq
    refine ⟨z1, stA la i + 6, z4, z5, ?_⟩
    rw [z4]
    refine K_part z5 ?_
    have e1 : hL H 400 (stA la i + 6) 0 = (gV P i).2.1 := congrArg Prod.fst v2
    have e2 : hL H 401 (stA la i + 6) 0 = (gV P i).2.2 := congrArg Prod.snd v2
    rw [e1, e2]; exact hq
  · rw [if_neg h] at hq; exact hq
theorem K_csame {d : Nat} {q : HP → Int32 → Prop} {H : HP} {pr : Bool} {P : PG} {x y : Int32} (s : shP H) (c : CPr H pr P) (ok : okPG P) (hq : q H (stA? pr (sameA P x y))) : CI (d + 3) 0 0 mX11_same [rv (some 0), .int x, .int y] H q := by
  obtain ⟨c1, la, dr, -, c3, c4, c5, c6, c7, c8⟩ := c
  have h60 : gH P ≤ 60 := by have := ok.2.1; have := ok.2.2.1; omega
  refine C_X11_same ?_
  unfold wb_X11_same_0
  rw [c1, bI_nz, bI_z, c3]
  refine ⟨s.1, fun hp => ?_, fun hp => ?_⟩
  · subst hp
    have cf := c7 rfl
    rw [stA?_t] at hq
    obtain ⟨f1, f2, f3⟩ := id cf
    have p3 : hI H 502 la 0 = Int32.ofNat (gH P) := f2.2.2.1
    unfold sameA at hq
    refine ⟨la, rfl, f1.1, K_heldStep (d := d + 1) f1 p3 h60 (fun i hi e => ⟨s.1, la, c3, f1.1, ?_⟩) (fun h => ⟨s.1, la, c3, f1.1, ?_⟩)⟩
    · rw [c3]
      obtain ⟨i1, i2⟩ := inH_of h60 hi e
      obtain ⟨z1, -, -, -, -, -, -, -, -, z2, z3, z4, z5⟩ := (f1.2.2.2.2.2.2.2 i (by omega)).2
      obtain ⟨⟨v1, v2⟩, v3⟩ := f2.2.2.2.2.2 i hi
      refine K_heldStep (d := d + 1) f1 p3 h60 (fun j hj e' => ⟨fun k => (by cases k), fun b hb => ⟨fun k => (by cases k), fun b' hb' => ?_⟩⟩) (fun h => ⟨fun _ => ?_, fun b hb => ⟨fun _ => ?_, fun b' hb' => (by cases hb')⟩⟩)
      · obtain ⟨j1, j2⟩ := inH_of h60 hj e'
        obtain ⟨y1, -, -, -, -, -, -, -, -, y2, y3, y4, y5⟩ := (f1.2.2.2.2.2.2.2 j (by omega)).2
        obtain ⟨⟨w1, w2⟩, w3⟩ := f2.2.2.2.2.2 j hj
        injection hb with hb
        injection hb' with hb'
        subst hb; subst hb'
        rw [if_pos ⟨i1, j1⟩, i2, j2] at hq
        have e1 : hL H 400 (stA la i + 6) 0 = (gV P i).2.1 := congrArg Prod.fst v2
        have e2 : hL H 401 (stA la i + 6) 0 = (gV P i).2.2 := congrArg Prod.snd v2
        have e3 : hL H 400 (stA la j + 6) 0 = (gV P j).2.1 := congrArg Prod.fst w2
        have e4 : hL H 401 (stA la j + 6) 0 = (gV P j).2.2 := congrArg Prod.snd w2
        have o1 : okF (gV P i).2 := v3.2
        have o2 : okF (gV P j).2 := w3.2
        refine ⟨z1, y1, ?_⟩
        rw [z2, y2]
        refine K_equalRows (d := d + 1) z3 y3 (by decide) (by decide) (by decide) (by decide) v1 w1 ⟨fun hb => ⟨z1, y1, stA la i + 6, z4, z5, ?_⟩, fun hb => ?_⟩
        · have hb : eq5 (gV P i).1 (gV P j).1 = true := hb
          rw [if_pos hb] at hq
          rw [z4, y4]
          refine K_compareWith (d := d) z5 y5 (by rw [e2]; exact o1.1) (by rw [e4]; exact o2.1) fun r hr => ?_
          rw [e1, e2, e3, e4] at hr
          have hc := cmL_eq o1 o2
          refine ⟨fun h0 => ?_, fun h0 => ?_⟩
          · rw [if_neg (fun k => h0 (i32_ext (by rw [hr, hc.mpr k]; rfl)))] at hq; exact hq
          · rw [if_pos (hc.mp (by rw [← hr, h0]; rfl))] at hq; exact hq
        · have hb : ¬ eq5 (gV P i).1 (gV P j).1 = true := by
            have hb : eq5 (gV P i).1 (gV P j).1 = false := hb
            rw [hb]; decide
          rw [if_neg hb] at hq; exact hq
      · rw [if_neg (fun k => by have := k.2.1; have := k.2.2; omega)] at hq; exact hq
      · rw [if_neg (fun k => by have := k.2.1; have := k.2.2; omega)] at hq; exact hq
    · rw [if_neg (fun k => by have := k.1.1; have := k.1.2; omega)] at hq
      rw [c3]
      exact K_heldStep (d := d + 1) f1 p3 h60 (fun j hj e' => ⟨fun _ => hq, fun b hb => (by cases hb)⟩) (fun h => ⟨fun _ => hq, fun b hb => (by cases hb)⟩)
  · subst hp
    rw [stA?_f] at hq; exact hq
