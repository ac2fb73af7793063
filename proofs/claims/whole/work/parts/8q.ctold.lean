
/-! ===== the class: results told in units ===== -/
def toldV (v : JV) (u : UV) : Option FR := if eq5 v.1 u.2.1 = true then (match addF v.2.1 v.2.2 (-u.2.2.2.1) u.2.2.2.2 with
  | none => none
  | some f => divF f.1 f.2 u.2.2.1.1 u.2.2.1.2) else none
def toldF (P : PG) (x : Int32) (u : UV) : Option FR := match sideP P x with
  | none => none
  | some i => toldV (gV P i) u
abbrev inN (n : Nat) (x : Int32) : Prop := 0 ≤ x.toInt ∧ x.toInt < (n : Int)
def toldG (pr : Bool) (P : PG) (n : Nat) (U : Nat → UV) (x u : Int32) : Option FR := if pr = true ∧ inN n u then toldF P x (U u.toInt.toNat) else none
theorem inN_of {n i : Nat} {x : Int32} (hn : n ≤ 20) (hi : i < n) (e : x = Int32.ofNat i) : inN n x ∧ x.toInt.toNat = i := by
  rw [e, inN, iN_toInt (by omega)]
  exact ⟨⟨by omega, by omega⟩, by omega⟩
theorem notN {n : Nat} {x : Int32} (h : x.toInt < 0 ∨ (n : Int) ≤ x.toInt) : ¬ inN n x := fun k => by
  have := k.1; have := k.2; omega
theorem okV_at {P : PG} (ok : okPG P) {x : Int32} {i : Nat} (h : sideP P x = some i) : okV (gV P i) := ok.2.2.2.2.2.2 i (sideP_lt ok h)
theorem K_resultSide {d : Nat} {q : HP → Option Nat → Prop} {H : HP} {pr : Bool} {P : PG} {x : Int32} (s : shP H) (c : CPr H pr P) (ok : okPG P) (h1 : ∀ la : Nat, pr = true → 242 ≤ la → la ≤ 666 → CPf H la P → q H ((sideP P x).map (stA la))) (h0 : pr = false → q H none) : CR (d + 3) 0 0 mX11_resultSide [rv (some 0), .int x] H q := by
  obtain ⟨c1, la, dr, c2, c3, c4, c5, c6, c7, c8⟩ := c
  refine C_X11_resultSide ?_
  unfold wb_X11_resultSide_0
  rw [c1, bI_nz, bI_z, c3]
  refine ⟨s.1, h0, fun hp => ⟨la, rfl, c5.1, ?_⟩⟩
  exact K_side (d := d) ok (c7 hp) (h1 la hp (by omega) (by omega) (c7 hp))
abbrev AnS : Nat → Nat → Prop := fun g x => (g = 400 ∨ g = 401) ∧ x = 1094
theorem getF_1 {H : HP} {a : Nat} {f : FR} (h : getF H a = f) : hL H 400 a 0 = f.1 := congrArg Prod.fst h
theorem getF_2 {H : HP} {a : Nat} {f : FR} (h : getF H a = f) : hL H 401 a 0 = f.2 := congrArg Prod.snd h
theorem fr_stp {S : Nat → Nat → Prop} {H H' : HP} {a : Nat} (h : Fr S H H') (s : shStep H a) : shStep H' a := fr_shStep h s
theorem K_answerIn {d n : Nat} {q : HP → Bool → Prop} {H : HP} {pr : Bool} {P : PG} {U : Nat → UV} {x u : Int32} (s : shP H) (c : CPr H pr P) (ok : okPG P) (hu : CU H 3 n U) (hok : ∀ i, okU (U i))
    (h1 : ∀ f, toldG pr P n U x u = some f → ∀ H', Fr AnS H H' → getF H' 1094 = f → q H' true) (h0 : toldG pr P n U x u = none → ∀ H', Fr AnS H H' → q H' false) : CZ (d + 4) 0 0 mX11_answerIn [rv (some 0), .int x, .int u] H q := by
  obtain ⟨s1, s2, s3, -, -, -, -, -, -, -, s10, -, -, -, -, -, s11, s12⟩ := id s
  have hn20 := hu.2.2.1
  refine C_X11_answerIn ?_
  unfold wb_X11_answerIn_0
  rw [s3]
  refine ⟨s1, 3, rfl, hu.1.1, ?_⟩
  refine K_at (d := d + 2) hu (fun i hi e => ⟨s1, K_resultSide (d := d) s c ok (fun la hp hla1 hla2 cf => ⟨fun k => (by cases k), fun b hb => ?_⟩) (fun hp => ⟨fun k => (by cases k), fun b hb => ⟨fun _ => ?_, fun b' hb' => (by cases hb')⟩⟩)⟩) (fun h => ⟨s1, K_resultSide (d := d) s c ok (fun la hp hla1 hla2 cf => ⟨fun _ => ?_, fun b hb => (by cases hb)⟩) (fun hp => ⟨fun _ => ?_, fun b hb => (by cases hb)⟩)⟩)
  · obtain ⟨i1, i2⟩ := inN_of hu.2.2.1 hi e
    have eg : toldG pr P n U x u = toldF P x (U i) := by
      unfold toldG
      rw [if_pos ⟨hp, i1⟩, i2]
    injection hb with hb
    subst hb
    cases hs : sideP P x with
    | none =>
      refine ⟨fun _ => h0 ?_ H Fr.rf, fun b' hb' => (by cases hb')⟩
      rw [eg]; unfold toldF; rw [hs]
    | some k =>
      have ef : toldG pr P n U x u = toldV (gV P k) (U i) := by rw [eg]; unfold toldF; rw [hs]
      have hk := sideP_lt ok hs
      have ov := okV_at ok hs
      have h60 : gH P ≤ 60 := by have := ok.2.1; have := ok.2.2.1; omega
      have di := stA_d la k
      obtain ⟨z1, -, -, -, -, -, -, -, -, z2, z3, z4, z5⟩ := (cf.1.2.2.2.2.2.2.2 k (by omega)).2
      obtain ⟨v1, v2⟩ := (cf.2.1.2.2.2.2.2 k hk).1
      have v1 : ∀ j, j < 5 → hI H 4544 (stA la k + 5) j = (gV P k).1 j := v1
      have v2 : getF H (stA la k + 6) = (gV P k).2 := v2
      obtain ⟨y1, y2, y3, y4, y5, y6, y7, y8, y9⟩ := (hu.1.2.2.2 i (by have := hu.2.2.1; omega)).2
      obtain ⟨u1, u2, u3, u4, u5, u6⟩ := hu.2.2.2 i hi
      obtain ⟨-, -, -, -, p1, p2, p3⟩ := hok i
      refine ⟨fun k => (by cases k), fun b' hb' => ?_⟩
      have hb' : some (stA la k) = some b' := hb'
      injection hb' with hb'
      subst hb'
      refine ⟨z1, y1, ?_⟩
      rw [z2, y4]
      refine K_equalRows (d := d + 2) z3 y5 (by decide) (by decide) (by decide) (by decide) v1 u3 ⟨fun hb => ⟨s1, z1, 1094, s10, s11, ?_⟩, fun hb => h0 ?_ H Fr.rf⟩
      · have hb : eq5 (gV P k).1 (U i).2.1 = true := hb
        unfold toldV at ef
        rw [if_pos hb] at ef
        rw [s10, z4]
        refine K_copy (d := d + 2) s11 z5 ?_
        rw [v2]
        have F1 : Fr AnS H (setF H 1094 (gV P k).2) := Fr_setF ⟨Or.inl rfl, rfl⟩ ⟨Or.inr rfl, rfl⟩
        have g1 : getF (setF H 1094 (gV P k).2) 1094 = (gV P k).2 := getF_setF
        generalize setF H 1094 (gV P k).2 = A at F1 g1 ⊢
        have eC : ∀ g a, hC A g a = hC H g a := fun g a => by rw [F1.2.1]
        have eT : ∀ a, tg A a = tg H a := fun a => fr_tg F1 a
        have o4 : getF A (3 + 2 + 5 * i + 4) = (U i).2.2.2 := by rw [fr_getF F1 (fun k => by omega) (fun k => by omega)]; exact u5
        rw [eC 1213, s10, eC 1004, y8]
        refine ⟨by rw [eT]; exact s1, by rw [eT]; exact y1, 1094, rfl, by rw [eT]; exact s11, ?_⟩
        refine K_subtract (d := d) (by rw [eT]; exact s11) (by rw [eT]; exact y9) (by rw [g1]; exact ov.2) (by rw [o4]; exact p3) (fun f of hf => ⟨fun k => (by cases k), fun _ => ?_⟩) (fun hf => ⟨fun _ => ?_, fun k => (by cases k)⟩)
        · rw [getF_1 g1, getF_2 g1, getF_1 o4, getF_2 o4] at hf
          rw [hf] at ef
          have F2 : Fr AnS A (setF A 1094 f) := Fr_setF ⟨Or.inl rfl, rfl⟩ ⟨Or.inr rfl, rfl⟩
          have g2 : getF (setF A 1094 f) 1094 = f := getF_setF
          generalize setF A 1094 f = B at F2 g2 ⊢
          have F12 := F1.tr F2
          have fC : ∀ g a, hC B g a = hC H g a := fun g a => by rw [F12.2.1]
          have fT : ∀ a, tg B a = tg H a := fun a => fr_tg F12 a
          have o3 : getF B (3 + 2 + 5 * i + 3) = (U i).2.2.1 := by rw [fr_getF F12 (fun k => by omega) (fun k => by omega)]; exact u4
          rw [fC 1213, s10, fC 1003, y6]
          refine ⟨by rw [fT]; exact s1, by rw [fT]; exact y1, 1094, rfl, by rw [fT]; exact s11, ?_⟩
          refine K_divide (d := d) (by rw [fT]; exact s11) (by rw [fT]; exact y7) (by rw [g2]; exact of) (by rw [o3]; exact p1) (fun g og hg => ⟨fun k => (by cases k), fun _ => ?_⟩) (fun hg => ⟨fun _ => ?_, fun k => (by cases k)⟩)
          · rw [getF_1 g2, getF_2 g2, getF_1 o3, getF_2 o3] at hg
            simp only at ef
            rw [hg] at ef
            exact h1 g ef _ (F12.tr (Fr_setF ⟨Or.inl rfl, rfl⟩ ⟨Or.inr rfl, rfl⟩)) getF_setF
          · rw [getF_1 g2, getF_2 g2, getF_1 o3, getF_2 o3] at hg
            simp only at ef
            rw [hg] at ef
            exact h0 ef _ F12
        · rw [getF_1 g1, getF_2 g1, getF_1 o4, getF_2 o4] at hf
          rw [hf] at ef
          exact h0 ef _ F1
      · have hb : ¬ eq5 (gV P k).1 (U i).2.1 = true := by
          have hb : eq5 (gV P k).1 (U i).2.1 = false := hb
          rw [hb]; decide
        rw [ef]; unfold toldV; rw [if_neg hb]
  · refine h0 ?_ H Fr.rf
    unfold toldG
    rw [if_neg (fun k => by rw [hp] at k; cases k.1)]
  · refine h0 ?_ H Fr.rf
    unfold toldG
    rw [if_neg (fun k => notN h k.2)]
  · refine h0 ?_ H Fr.rf
    unfold toldG
    rw [if_neg (fun k => notN h k.2)]
def partA (o : Option FR) (w : Int32) : Int64 := match o with
  | none => -9223372036854775808
  | some f => if w = 0 then f.1 else if w = 1 then f.2 else -9223372036854775808
theorem K_cin {d n : Nat} {q : HP → Int64 → Prop} {H : HP} {pr : Bool} {P : PG} {U : Nat → UV} {x u w : Int32} (s : shP H) (c : CPr H pr P) (ok : okPG P) (hu : CU H 3 n U) (hok : ∀ i, okU (U i)) (hq : ∀ H', Fr AnS H H' → q H' (partA (toldG pr P n U x u) w)) : CJ (d + 5) 0 0 mX11_in [rv (some 0), .int x, .int u, .int w] H q := by
  obtain ⟨s1, s2, s3, -, -, -, -, -, -, -, s10, -, -, -, -, -, s11, s12⟩ := id s
  refine C_X11_in ?_
  unfold wb_X11_in_0
  refine ⟨s1, K_answerIn (d := d) s c ok hu hok (fun f hf H' F' g' => ⟨fun k => (by cases k), fun _ => ⟨by rw [fr_tg F']; exact s1, 1094, by rw [F'.2.1]; exact s10, by rw [fr_tg F']; exact s11, ?_⟩⟩) (fun hf H' F' => ⟨fun _ => ?_, fun k => (by cases k)⟩)⟩
  · have := hq H' F'
    rw [hf] at this
    rw [F'.2.1, s10]
    refine K_part (d := d + 3) (by rw [fr_tg F']; exact s11) ?_
    rw [getF_1 g', getF_2 g']; exact this
  · have := hq H' F'
    rw [hf] at this; exact this
