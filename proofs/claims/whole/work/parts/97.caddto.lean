
/-! ===== the class makes a unit of a definition ===== -/
theorem iN_z {n : Nat} (h : n < 2147483648) : Int32.ofNat n = 0 ↔ n = 0 := ⟨fun k => by
  have := congrArg Int32.toInt k
  rw [iN_toInt h, i32_0] at this; omega, fun k => by rw [k]; rfl⟩
theorem K_partsRefusal {d b t p n : Nat} {T : TP} {q : HP → Int32 → Prop} {H : HP} {U : Nat → UV} {D : DRes} (hb : 105 ≤ b) (sd : shDef H b) (cd : CDf H b D) (ok : okDR T D) (hc : CT H t T p) (ht : t + 2 ≤ b) (hu : CU H 3 n U) (hok : ∀ i, okU (U i))
    (h0 : defW T n U D ≠ 0 → ∀ H', Fr (fun g x => g = 4470 ∧ x = b + 7) H H' → q H' (defW T n U D))
    (h1 : defW T n U D = 0 → ∀ H', Fr (fun g x => g = 4470 ∧ x = b + 7) H H' → (∀ i, i < D.2.2.1.1 → (wF T n U (D.2.2.1.2 i).1 (D.2.2.1.2 i).2.1).isSome = true ∧ hR H' 4470 (b + 7) i = some (3 + 2 + 5 * ((wF T n U (D.2.2.1.2 i).1 (D.2.2.1.2 i).2.1).getD 0))) → q H' 0) : CI (d + 4) 0 0 mX1_partsRefusal [rv (some b), rv (some 3), rv (some t)] H q := by
  obtain ⟨k1, k2, k3, k4, k5, k6, k7⟩ := id cd
  obtain ⟨d1, d2, d3, d4, d5, d6, d7, d8, d9, d10⟩ := id ok
  have hn20 := hu.2.2.1
  obtain ⟨x1, x2, x3, x4⟩ := dA_0 sd
  have ez : (0 : Int32).toNatClampNeg = 0 := rfl
  have eo : (1 : Int32).toNatClampNeg = 1 := rfl
  have v0 : vp_in (0 : Int32) 2 := vpi_of (n := 0) (m := 2) (by decide) (by decide)
  have v1 : vp_in (1 : Int32) 2 := vpi_of (n := 1) (m := 2) (by decide) (by decide)
  have e30 : (30 : Int32) = Int32.ofNat 30 := rfl
  -- behind the parts
  have fin : ∀ (H' : HP), ¬ nul0 D → dRef (wF T n U) U D.2.2.1.2 D.2.2.1.1 0 = 0 → Fr (fun g x => g = 4470 ∧ x = b + 7) H H' → (∀ i, i < D.2.2.1.1 → (wF T n U (D.2.2.1.2 i).1 (D.2.2.1.2 i).2.1).isSome = true ∧ hR H' 4470 (b + 7) i = some (3 + 2 + 5 * ((wF T n U (D.2.2.1.2 i).1 (D.2.2.1.2 i).2.1).getD 0))) → ((hI H' 202 b 0) = 0 → q H' (0 : Int32)) ∧ (¬ ((hI H' 202 b 0) = 0) → ∃ a2, (hC H' 201 b) = some a2 ∧ (isA H' a2 0 ∧ (vp_in (1 : Int32) (ln H' a2) ∧ ((¬ (hI H' (tg H' a2) a2 (1 : Int32).toNatClampNeg) = 0 → q H' (0 : Int32)) ∧ ((hI H' (tg H' a2) a2 (1 : Int32).toNatClampNeg) = 0 → q H' (-9 : Int32)))))) := by
    intro H' hn0 hr F' hf
    obtain ⟨y1, y2, y3, y4⟩ := dA_1 (fr_shDef F' sd)
    have eW : defW T n U D = if nul1 D then -9 else 0 := by
      unfold defW
      rw [if_neg hn0, if_neg (fun k => k hr)]
    rw [F'.2.2.2.2.1 202 b (fun k => by omega), k6]
    rw [bI_z]
    refine ⟨fun hz => ?_, fun hz => ?_⟩
    · cases ho : D.2.2.2 with
      | none =>
        rw [if_neg (nul1_no ho)] at eW
        exact h1 eW H' F' hf
      | some s => rw [ho] at hz; cases hz
    · cases ho : D.2.2.2 with
      | none => rw [ho] at hz; exact absurd rfl hz
      | some s =>
        obtain ⟨z1, z2, z3⟩ := k7 s ho
        have hl := (d10 s ho).2
        refine ⟨b + 2, y1, y2, by rw [y4]; exact v1, ?_⟩
        rw [y3, eo, F'.2.2.2.2.1 4384 (b + 2) (fun k => by omega), z3, iN_z (by omega)]
        refine ⟨fun h => ?_, fun h => ?_⟩
        · rw [if_neg (fun k => h ((nul1_of ho).mp k))] at eW
          exact h1 eW H' F' hf
        · rw [if_pos ((nul1_of ho).mpr h)] at eW
          have := h0 (by rw [eW]; decide) H' F'
          rw [eW] at this; exact this
  have loop : ¬ nul0 D → ∀ (k i : Nat) (H' : HP), k + i = D.2.2.1.1 → Fr (fun g x => g = 4470 ∧ x = b + 7) H H' → (∀ j, j < i → (wF T n U (D.2.2.1.2 j).1 (D.2.2.1.2 j).2.1).isSome = true ∧ hR H' 4470 (b + 7) j = some (3 + 2 + 5 * ((wF T n U (D.2.2.1.2 j).1 (D.2.2.1.2 j).2.1).getD 0))) → dRef (wF T n U) U D.2.2.1.2 D.2.2.1.1 0 = dRef (wF T n U) U D.2.2.1.2 k i → L_X1_partsRefusal_23 (d + 3) q b (some 3) (some t) (Int32.ofNat i) H' := by
    intro hn0 k
    induction k with
    | zero =>
      intro i H' hi F' hf hr
      refine T_X1_partsRefusal_23 ?_
      unfold wb_X1_partsRefusal_23
      have e205 : hI H' 205 b 0 = Int32.ofNat D.2.2.1.1 := by rw [F'.2.2.2.2.1 205 b (fun k => by omega)]; exact k4
      rw [e205, iN_le (by omega) (by omega)]
      have e : i = D.2.2.1.1 := by omega
      subst e
      exact ⟨(fr_shDef F' sd).1, fun _ => fin H' hn0 hr F' hf, fun h => by omega⟩
    | succ k ih =>
      intro i H' hi F' hf hr
      refine T_X1_partsRefusal_23 ?_
      unfold wb_X1_partsRefusal_23
      have e205 : hI H' 205 b 0 = Int32.ofNat D.2.2.1.1 := by rw [F'.2.2.2.2.1 205 b (fun k => by omega)]; exact k4
      have sd' := fr_shDef F' sd
      obtain ⟨a1, a2, a3, a4⟩ := dA_a sd'
      obtain ⟨l1, l2, l3, l4⟩ := dA_l sd'
      obtain ⟨u1, u2, u3, u4⟩ := dA_u sd'
      obtain ⟨r1, r2, r3, r4⟩ := fr_DRw F' (fun k => by omega) (fun k => by omega) (fun k => by omega) (fun k => by omega) (k5 i (by omega))
      obtain ⟨o1, o2, o3, o4, o5⟩ := d9 i (by omega)
      have in30 : vp_in (Int32.ofNat i) 30 := vpi_of (by omega) (by decide)
      have uH : CU H' 3 n U := fr_CU F' (fun g x k1 k2 k => by omega) hu
      have cH : CT H' t T p := fr_CT F' (fun k => by omega) (fun k => by omega) (fun k => by omega) hc
      rw [e205, iN_le (by omega) (by omega), e30, iN_le (by omega) (by omega)]
      refine ⟨sd'.1, fun h => by omega, fun _ => ⟨fun h => by omega, fun _ => ⟨b + 3, a1, a2, by rw [a4]; exact in30, b + 4, l1, l2, by rw [l4]; exact in30, 3, rfl, uH.1.1, ?_⟩⟩⟩
      rw [a3, l3, iN_cl (by omega), r1, r2]
      refine K_numberOf (d := d) cH uH (fun i _ => hok i) o1 ⟨uH.1.1, ?_⟩
      rw [dRef_succ] at hr
      have st : ∀ o : Option Nat, Fr (fun g x => g = 4470 ∧ x = b + 7) H (sR H' 4470 (b + 7) i o) ∧ hR (sR H' 4470 (b + 7) i o) 4470 (b + 7) i = o ∧ (∀ j, j < i → hR (sR H' 4470 (b + 7) i o) 4470 (b + 7) j = hR H' 4470 (b + 7) j) := fun o => by
        refine ⟨F'.tr (Fr_sR ⟨rfl, rfl⟩), ?_, fun j hj => ?_⟩
        · rw [hRs, if_pos ⟨rfl, rfl, rfl⟩]
        · rw [hRs, if_neg (fun k => by omega)]
      rcases wF_cases (T := T) (U := U) (fr := (D.2.2.1.2 i).1) (many := (D.2.2.1.2 i).2.1) hn20 with ⟨w1, w2⟩ | ⟨j, j1, w1, w2⟩
      · rw [w2]
        rw [w1] at hr
        refine K_at (d := d + 2) uH (fun i' hi' e => ?_) (fun _ => ⟨b + 7, u1, u2, by rw [u4]; exact in30, fun x hx => (by cases hx), ?_⟩)
        · have := congrArg Int32.toInt e
          rw [iN_toInt (by omega), i32_m1] at this; omega
        · rw [u3]
          obtain ⟨S1, S2, S3⟩ := st none
          generalize sR H' 4470 (b + 7) i none = X at S1 S2 S3 ⊢
          have sX := fr_shDef S1 sd
          obtain ⟨u1, u2, u3, u4⟩ := dA_u sX
          refine ⟨sX.1, b + 7, u1, u2, by rw [u4]; exact in30, ?_⟩
          rw [u3, S2]
          refine ⟨fun _ => ?_, fun a ha => (by cases ha)⟩
          have eW : defW T n U D = -8 := by
            unfold defW
            rw [if_neg hn0, hr]
            rfl
          have := h0 (by rw [eW]; decide) X S1
          rw [eW] at this; exact this
      · rw [w2]
        rw [w1] at hr
        simp only at hr
        refine K_at (d := d + 2) uH (fun i' hi' e => ⟨b + 7, u1, u2, by rw [u4]; exact in30, fun x hx => ?_, ?_⟩) (fun h => ?_)
        · injection hx with hx
          subst hx
          exact (uH.1.2.2.2 i' (by omega)).2.1
        · have ej : i' = j := by
            have := congrArg Int32.toInt e
            rw [iN_toInt (by omega), iN_toInt (by omega)] at this; omega
          subst ej
          rw [u3]
          obtain ⟨S1, S2, S3⟩ := st (some (3 + 2 + 5 * i'))
          generalize sR H' 4470 (b + 7) i (some (3 + 2 + 5 * i')) = X at S1 S2 S3 ⊢
          have sX := fr_shDef S1 sd
          have uX : CU X 3 n U := fr_CU S1 (fun g x k1 k2 k => by omega) hu
          obtain ⟨u1, u2, u3, u4⟩ := dA_u sX
          refine ⟨sX.1, b + 7, u1, u2, by rw [u4]; exact in30, ?_⟩
          rw [u3, S2]
          refine ⟨fun k => (by cases k), fun a ha => ?_⟩
          injection ha with ha
          subst ha
          have shX := (uX.1.2.2.2 i' (by omega)).2
          refine ⟨by rw [u4]; exact in30, shX.1, K_hasOffset (d := d + 2) shX (uX.2.2.2 i' j1) ⟨fun ho => ?_, fun ho => ?_⟩⟩
          · rw [if_neg (by rw [ho]; decide)] at hr
            rw [iN_inc (by omega)]
            refine ih (i + 1) X (by omega) S1 (fun j' hj' => ?_) hr
            by_cases e : j' = i
            · subst e
              refine ⟨by rw [w1]; rfl, ?_⟩
              rw [S2, w1]; rfl
            · rw [S3 j' (by omega)]
              exact hf j' (by omega)
          · rw [if_pos ho] at hr
            have eW : defW T n U D = -10 := by
              unfold defW
              rw [if_neg hn0, hr]
              rfl
            have := h0 (by rw [eW]; decide) X S1
            rw [eW] at this; exact this
        · have := iN_toInt (n := j) (by omega)
          omega
  refine C_X1_partsRefusal ?_
  unfold wb_X1_partsRefusal_0
  refine ⟨sd.1, b + 1, x1, x2, by rw [x4]; exact v0, ?_⟩
  rw [x3, ez, eo, k2, k3, iN_z (by omega), iN_z (by omega)]
  have e9 : nul0 D → q H (-9) := fun h => by
    have eW : defW T n U D = -9 := by
      unfold defW
      rw [if_pos h]
    have := h0 (by rw [eW]; decide) H Fr.rf
    rw [eW] at this; exact this
  refine ⟨fun h => e9 (Or.inl h), fun h => ⟨by rw [x4]; exact v1, fun h2 => ?_, fun h2 => e9 (Or.inr h2)⟩⟩
  exact loop (fun k => k.elim h h2) D.2.2.1.1 0 H rfl Fr.rf (fun j hj => by cases hj) rfl
/-- all that the making of a unit reads -/
def Rdy (H : HP) (b n : Nat) (U : Nat → UV) (D : DRes) (J : Nat → Nat) : Prop := shDef H b ∧ CDf H b D ∧ CU H 3 n U ∧ ∀ i, i < D.2.2.1.1 → J i < n ∧ hR H 4470 (b + 7) i = some (3 + 2 + 5 * J i)
theorem fr_Rdy {S : Nat → Nat → Prop} {H H' : HP} {b n : Nat} {U : Nat → UV} {D : DRes} {J : Nat → Nat} (h : Fr S H H') (h0 : ∀ g, 202 ≤ g → g ≤ 205 → ¬ S g b) (h1 : ∀ g x, b + 1 ≤ x → x ≤ b + 7 → ¬ S g x) (h2 : ∀ g x, 3 ≤ x → x < 105 → ¬ S g x) (s : Rdy H b n U D J) : Rdy H' b n U D J := by
  obtain ⟨s1, s2, s3, s4⟩ := s
  refine ⟨fr_shDef h s1, fr_CDf h h0 (fun g x k1 k2 => h1 g x k1 (by omega)) s2, fr_CU h (fun g x k1 k2 => h2 g x k1 (by omega)) s3, fun i hi => ⟨(s4 i hi).1, ?_⟩⟩
  rw [h.2.2.2.2.2.2.2.2 _ _ (h1 _ _ (by omega) (by omega))]; exact (s4 i hi).2
theorem makeDim_in {d b n j : Nat} {q : HP → Prop} {H : HP} {U : Nat → UV} {D : DRes} {J : Nat → Nat} (r : Rdy H b n U D J) (hj : j < 5) (h30 : D.2.2.1.1 ≤ 29) (hq : L_X1_makeDimension_2 d q b (Int32.ofNat (j + 1)) (sI H 4208 (b + 8 + 2) j (dimA (fun i => U (J i)) D.2.2.1.2 D.2.2.1.1 j))) : ∀ (k i : Nat), k + i = D.2.2.1.1 → L_X1_makeDimension_11 d q b (Int32.ofNat j) (dimA (fun i => U (J i)) D.2.2.1.2 i j) (Int32.ofNat i) H := by
  obtain ⟨sd, cd, hu, hf⟩ := r
  obtain ⟨k1, k2, k3, k4, k5, k6, k7⟩ := id cd
  obtain ⟨m1, m2, m3, m4, m5, m6, m7, m8, m9⟩ := id sd.2.2.2.2.2.2.2.2.2
  have e30 : (30 : Int32) = Int32.ofNat 30 := rfl
  have in5 : vp_in (Int32.ofNat j) 5 := vpi_of hj (by decide)
  intro k
  induction k with
  | zero =>
    intro i hi
    refine T_X1_makeDimension_11 ?_
    unfold wb_X1_makeDimension_11
    have e : i = D.2.2.1.1 := by omega
    subst e
    rw [k4, iN_le (by omega) (by omega)]
    refine ⟨sd.1, fun _ => ⟨b + 8, sd.2.2.2.2.2.2.2.2.1, m1, b + 8 + 2, m4, isA_of m5 (by decide) (by decide), by rw [ln_of m5]; exact in5, ?_⟩, fun h => by omega⟩
    rw [tg_of m5, iN_cl (by omega), iN_inc (by omega)]; exact hq
  | succ k ih =>
    intro i hi
    have nx := ih (i + 1) (by omega)
    refine T_X1_makeDimension_11 ?_
    unfold wb_X1_makeDimension_11
    obtain ⟨hJ, hR'⟩ := hf i (by omega)
    obtain ⟨r1, r2, r3, r4⟩ := k5 i (by omega)
    obtain ⟨u1, u2, u3, u4⟩ := dA_u sd
    obtain ⟨f1, f2, f3, f4⟩ := dA_f sd
    obtain ⟨g1, g2, g3, g4⟩ := dA_d sd
    have hn20 := hu.2.2.1
    obtain ⟨y1, y2, y3, y4, y5, y6, y7, y8, y9⟩ := (hu.1.2.2.2 (J i) (by omega)).2
    have cu := hu.2.2.2 (J i) hJ
    have in30 : vp_in (Int32.ofNat i) 30 := vpi_of (by omega) (by decide)
    rw [k4, iN_le (by omega) (by omega), e30, iN_le (by omega) (by omega), iN_cl (n := i) (by omega)]
    refine ⟨sd.1, fun h => by omega, fun _ => ⟨fun h => by omega, fun _ => ⟨b + 7, u1, u2, by rw [u4]; exact in30, 3 + 2 + 5 * J i, by rw [u3]; exact hR', y1, 3 + 2 + 5 * J i + 2, y4, isA_of y5 (by decide) (by decide), by rw [ln_of y5]; exact in5, b + 5, f1, f2, by rw [f4]; exact in30, b + 6, g1, g2, by rw [g4]; exact in30, ?_⟩⟩⟩
    rw [tg_of y5, f3, g3, iN_cl (n := j) (by omega), cu.2.2.1 j hj, r3, r4, bI_z, iN_inc (by omega)]
    refine ⟨fun h => ?_, fun h => ?_⟩
    · have e : dimA (fun i => U (J i)) D.2.2.1.2 (i + 1) j = dimA (fun i => U (J i)) D.2.2.1.2 i j + (U (J i)).2.1 j * Int32.ofNat (D.2.2.1.2 i).2.2.1 := by
        show dimA _ _ i j + (if (D.2.2.1.2 i).2.2.2 = true then _ else _) = _
        rw [if_neg (by rw [h]; decide)]
      rw [← e]; exact nx
    · have e : dimA (fun i => U (J i)) D.2.2.1.2 (i + 1) j = dimA (fun i => U (J i)) D.2.2.1.2 i j + -((U (J i)).2.1 j * Int32.ofNat (D.2.2.1.2 i).2.2.1) := by
        show dimA _ _ i j + (if (D.2.2.1.2 i).2.2.2 = true then _ else _) = _
        rw [if_pos (by cases hc : (D.2.2.1.2 i).2.2.2 with | true => rfl | false => exact absurd hc h)]
      rw [← e]; exact nx
theorem K_makeDimension {d b n : Nat} {q : HP → Prop} {H : HP} {U : Nat → UV} {D : DRes} {J : Nat → Nat} (hb : 105 ≤ b) (r : Rdy H b n U D J) (h30 : D.2.2.1.1 ≤ 29) (hq : ∀ H', Fr (fun g x => g = 4208 ∧ x = b + 8 + 2) H H' → (∀ j, j < 5 → hI H' 4208 (b + 8 + 2) j = dimA (fun i => U (J i)) D.2.2.1.2 D.2.2.1.1 j) → q H') : CV (d + 1) 0 0 mX1_makeDimension [rv (some b)] H q := by
  have e5 : (5 : Int32) = Int32.ofNat 5 := rfl
  have loop : ∀ (k j : Nat) (H' : HP), k + j = 5 → Fr (fun g x => g = 4208 ∧ x = b + 8 + 2) H H' → (∀ i, i < j → hI H' 4208 (b + 8 + 2) i = dimA (fun i => U (J i)) D.2.2.1.2 D.2.2.1.1 i) → L_X1_makeDimension_2 d q b (Int32.ofNat j) H' := by
    intro k
    induction k with
    | zero =>
      intro j H' hj F' hd
      refine T_X1_makeDimension_2 ?_
      unfold wb_X1_makeDimension_2
      rw [e5, iN_le (by omega) (by omega)]
      exact ⟨fun _ => hq H' F' (fun i hi => hd i (by omega)), fun h => by omega⟩
    | succ k ih =>
      intro j H' hj F' hd
      refine T_X1_makeDimension_2 ?_
      unfold wb_X1_makeDimension_2
      rw [e5, iN_le (by omega) (by omega)]
      refine ⟨fun h => by omega, fun _ => ?_⟩
      have r' : Rdy H' b n U D J := fr_Rdy F' (fun g k1 k2 k => by omega) (fun g x k1 k2 k => by omega) (fun g x k1 k2 k => by omega) r
      refine makeDim_in r' (by omega) h30 (ih (j + 1) _ (by omega) (F'.tr (Fr_sI ⟨rfl, rfl⟩)) (fun i hi => ?_)) D.2.2.1.1 0 rfl
      rw [hIs_i]
      by_cases e : i = j
      · rw [if_pos e, e]
      · rw [if_neg e]; exact hd i (by omega)
  refine C_X1_makeDimension ?_
  unfold wb_X1_makeDimension_0
  exact loop 5 0 H rfl Fr.rf (fun i hi => by cases hi)
abbrev MfS (b : Nat) : Nat → Nat → Prop := fun g x => (g = 400 ∨ g = 401) ∧ x = b + 8 + 3
theorem makeFac_in {d b n i : Nat} {q : HP → Bool → Prop} {H0 : HP} {U : Nat → UV} {D : DRes} {J : Nat → Nat} (hb : 105 ≤ b) (r : Rdy H0 b n U D J) (hok : ∀ i, okU (U i)) (hi : i < D.2.2.1.1) (h30 : D.2.2.1.1 ≤ 29) (hg4 : (D.2.2.1.2 i).2.2.1 ≤ 4) {f0 : FR}
    (h1 : ∀ f, okF f → dpow (D.2.2.1.2 i).2.2.2 (U (J i)).2.2.1 (D.2.2.1.2 i).2.2.1 f0 = some f → ∀ H', Fr (MfS b) H0 H' → getF H' (b + 8 + 3) = f → L_X1_makeFactor_26 (d + 3) q b (Int32.ofNat (i + 1)) H')
    (h0 : dpow (D.2.2.1.2 i).2.2.2 (U (J i)).2.2.1 (D.2.2.1.2 i).2.2.1 f0 = none → ∀ H', Fr (MfS b) H0 H' → q H' false) : ∀ (k j : Nat) (f : FR) (H : HP), k + j = (D.2.2.1.2 i).2.2.1 → Fr (MfS b) H0 H → getF H (b + 8 + 3) = f → okF f → dpow (D.2.2.1.2 i).2.2.2 (U (J i)).2.2.1 (D.2.2.1.2 i).2.2.1 f0 = dpow (D.2.2.1.2 i).2.2.2 (U (J i)).2.2.1 k f → L_X1_makeFactor_52 (d + 3) q b (Int32.ofNat i) (some (3 + 2 + 5 * J i + 3)) (Int32.ofNat j) H := by
  intro k
  induction k with
  | zero =>
    intro j f H hj F gf of he
    refine T_X1_makeFactor_52 ?_
    unfold wb_X1_makeFactor_52
    obtain ⟨sd, cd, hu, hf⟩ := fr_Rdy F (fun g k1 k2 k => by omega) (fun g x k1 k2 k => by omega) (fun g x k1 k2 k => by omega) r
    obtain ⟨k1, k2, k3, k4, k5, k6, k7⟩ := id cd
    obtain ⟨f1, f2, f3, f4⟩ := dA_f sd
    obtain ⟨r1, r2, r3, r4⟩ := k5 i hi
    have in30 : vp_in (Int32.ofNat i) 30 := vpi_of (by omega) (by decide)
    refine ⟨sd.1, b + 5, f1, f2, by rw [f4]; exact in30, ?_⟩
    rw [f3, iN_cl (n := i) (by omega), r3, iN_le (by omega) (by omega), iN_inc (by omega)]
    exact ⟨fun _ => h1 f of he H F gf, fun h => by omega⟩
  | succ k ih =>
    intro j f H hj F gf of he
    refine T_X1_makeFactor_52 ?_
    unfold wb_X1_makeFactor_52
    obtain ⟨sd, cd, hu, hf⟩ := fr_Rdy F (fun g k1 k2 k => by omega) (fun g x k1 k2 k => by omega) (fun g x k1 k2 k => by omega) r
    obtain ⟨k1, k2, k3, k4, k5, k6, k7⟩ := id cd
    obtain ⟨f1, f2, f3, f4⟩ := dA_f sd
    obtain ⟨g1, g2, g3, g4⟩ := dA_d sd
    obtain ⟨r1, r2, r3, r4⟩ := k5 i hi
    obtain ⟨m1, m2, m3, m4, m5, m6, m7, m8, m9⟩ := id sd.2.2.2.2.2.2.2.2.2
    have e211 : hC H 211 b = some (b + 8) := sd.2.2.2.2.2.2.2.2.1
    obtain ⟨hJ, -⟩ := hf i hi
    have hn20 := hu.2.2.1
    obtain ⟨y1, y2, y3, y4, y5, y6, y7, y8, y9⟩ := (hu.1.2.2.2 (J i) (by omega)).2
    have cu := hu.2.2.2 (J i) hJ
    have of2 := (hok (J i)).2.2.2.2.1
    have gu : getF H (3 + 2 + 5 * J i + 3) = (U (J i)).2.2.1 := cu.2.2.2.1
    have in30 : vp_in (Int32.ofNat i) 30 := vpi_of (by omega) (by decide)
    refine ⟨sd.1, b + 5, f1, f2, by rw [f4]; exact in30, ?_⟩
    rw [f3, iN_cl (n := i) (by omega), r3, iN_le (by omega) (by omega)]
    refine ⟨fun h => by omega, fun _ => ⟨b + 6, g1, g2, by rw [g4]; exact in30, ?_⟩⟩
    rw [g3, r4, bI_z, iN_inc (by omega)]
    rw [dpow_succ] at he
    have FS : ∀ g, Fr (MfS b) H (setF H (b + 8 + 3) g) := fun g => Fr_setF ⟨Or.inl rfl, rfl⟩ ⟨Or.inr rfl, rfl⟩
    refine ⟨fun h => ⟨b + 8, e211, m1, b + 8 + 3, m6, m7, ?_⟩, fun h => ⟨b + 8, e211, m1, b + 8 + 3, m6, m7, ?_⟩⟩
    · rw [if_neg (by rw [h]; decide)] at he
      rw [m6]
      refine K_multiply (d := d) m7 y7 (by rw [gf]; exact of) (by rw [gu]; exact of2) (fun g og hg => ⟨fun _ => ?_, fun k => (by cases k)⟩) (fun hg => ⟨fun k => (by cases k), fun _ => ?_⟩)
      · rw [getF_1 gf, getF_2 gf, getF_1 gu, getF_2 gu] at hg
        rw [hg] at he
        exact ih (j + 1) g _ (by omega) (F.tr (FS g)) getF_setF og he
      · rw [getF_1 gf, getF_2 gf, getF_1 gu, getF_2 gu] at hg
        rw [hg] at he
        exact h0 he H F
    · rw [if_pos (by cases hc : (D.2.2.1.2 i).2.2.2 with | true => rfl | false => exact absurd hc h)] at he
      rw [m6]
      refine K_divide (d := d) m7 y7 (by rw [gf]; exact of) (by rw [gu]; exact of2) (fun g og hg => ⟨fun k => (by cases k), fun _ => ?_⟩) (fun hg => ⟨fun _ => ?_, fun k => (by cases k)⟩)
      · rw [getF_1 gf, getF_2 gf, getF_1 gu, getF_2 gu] at hg
        rw [hg] at he
        exact ih (j + 1) g _ (by omega) (F.tr (FS g)) getF_setF og he
      · rw [getF_1 gf, getF_2 gf, getF_1 gu, getF_2 gu] at hg
        rw [hg] at he
        exact h0 he H F
theorem i64_iN {n : Nat} (h : n < 2147483648) : (Int32.ofNat n).toInt64 = Int64.ofInt (n : Int) := by
  refine i64_ext ?_
  rw [i64_of32, iN_toInt h, i64_nat (by omega)]
theorem K_makeFactor {d b n : Nat} {q : HP → Bool → Prop} {H : HP} {U : Nat → UV} {D : DRes} {J : Nat → Nat} (hb : 105 ≤ b) (r : Rdy H b n U D J) (hok : ∀ i, okU (U i)) {T : TP} (ok : okDR T D) (hn0 : ¬ nul0 D)
    (h1 : ∀ f, okF f → facA (fun i => U (J i)) D.2.2.1.2 D.2.2.1.1 0 (ratN D) = some f → ∀ H', Fr (MfS b) H H' → getF H' (b + 8 + 3) = f → q H' true)
    (h0 : facA (fun i => U (J i)) D.2.2.1.2 D.2.2.1.1 0 (ratN D) = none → ∀ H', Fr (MfS b) H H' → q H' false) : CZ (d + 4) 0 0 mX1_makeFactor [rv (some b)] H q := by
  obtain ⟨d1, d2, d3, d4, d5, d6, d7, d8, d9, d10⟩ := id ok
  have e30 : (30 : Int32) = Int32.ofNat 30 := rfl
  have loop : ∀ (k i : Nat) (f : FR) (H' : HP), k + i = D.2.2.1.1 → Fr (MfS b) H H' → getF H' (b + 8 + 3) = f → okF f → facA (fun i => U (J i)) D.2.2.1.2 D.2.2.1.1 0 (ratN D) = facA (fun i => U (J i)) D.2.2.1.2 k i f → L_X1_makeFactor_26 (d + 3) q b (Int32.ofNat i) H' := by
    intro k
    induction k with
    | zero =>
      intro i f H' hi F gf of he
      refine T_X1_makeFactor_26 ?_
      unfold wb_X1_makeFactor_26
      obtain ⟨sd, cd, hu, hf⟩ := fr_Rdy F (fun g k1 k2 k => by omega) (fun g x k1 k2 k => by omega) (fun g x k1 k2 k => by omega) r
      have e : i = D.2.2.1.1 := by omega
      subst e
      rw [cd.2.2.2.1, iN_le (by omega) (by omega)]
      exact ⟨sd.1, fun _ => h1 f of he H' F gf, fun h => by omega⟩
    | succ k ih =>
      intro i f H' hi F gf of he
      refine T_X1_makeFactor_26 ?_
      unfold wb_X1_makeFactor_26
      have r' := fr_Rdy F (fun g k1 k2 k => by omega) (fun g x k1 k2 k => by omega) (fun g x k1 k2 k => by omega) r
      obtain ⟨sd, cd, hu, hf⟩ := id r'
      obtain ⟨u1, u2, u3, u4⟩ := dA_u sd
      obtain ⟨hJ, hR'⟩ := hf i (by omega)
      have hn20 := hu.2.2.1
      obtain ⟨y1, y2, y3, y4, y5, y6, y7, y8, y9⟩ := (hu.1.2.2.2 (J i) (by omega)).2
      have in30 : vp_in (Int32.ofNat i) 30 := vpi_of (by omega) (by decide)
      obtain ⟨-, -, -, -, g4⟩ := d9 i (by omega)
      rw [cd.2.2.2.1, iN_le (by omega) (by omega), e30, iN_le (by omega) (by omega), iN_cl (n := i) (by omega)]
      refine ⟨sd.1, fun h => by omega, fun _ => ⟨fun h => by omega, fun _ => ⟨b + 7, u1, u2, by rw [u4]; exact in30, 3 + 2 + 5 * J i, by rw [u3]; exact hR', y1, ?_⟩⟩⟩
      rw [y6]
      rw [facA_succ] at he
      refine makeFac_in (d := d) (f0 := f) hb r' hok (by omega) d8 g4 (fun g og hg H2 F2 g2 => ?_) (fun hg H2 F2 => ?_) _ 0 f H' rfl Fr.rf gf of rfl
      · rw [hg] at he
        exact ih (i + 1) g H2 (by omega) (F.tr F2) g2 og he
      · rw [hg] at he
        exact h0 he H2 (F.tr F2)
  obtain ⟨sd, cd, hu, hf⟩ := id r
  obtain ⟨x1, x2, x3, x4⟩ := dA_0 sd
  obtain ⟨m1, m2, m3, m4, m5, m6, m7, m8, m9⟩ := id sd.2.2.2.2.2.2.2.2.2
  have e211 : hC H 211 b = some (b + 8) := sd.2.2.2.2.2.2.2.2.1
  have ez : (0 : Int32).toNatClampNeg = 0 := rfl
  have eo : (1 : Int32).toNatClampNeg = 1 := rfl
  refine C_X1_makeFactor ?_
  unfold wb_X1_makeFactor_0
  refine ⟨sd.1, b + 8, e211, m1, b + 1, x1, x2, by rw [x4]; exact vpi_of (n := 0) (m := 2) (by decide) (by decide), by rw [x4]; exact vpi_of (n := 1) (m := 2) (by decide) (by decide), b + 8 + 3, m6, m7, ?_⟩
  have n1 : D.2.1.1 ≠ 0 := fun k => hn0 (Or.inl k)
  have n2 : D.2.1.2 ≠ 0 := fun k => hn0 (Or.inr k)
  rw [m6, x3, ez, eo, cd.2.1, cd.2.2.1, i64_iN (by omega), i64_iN (by omega)]
  have a1 := i64_nat (n := D.2.1.1) (by omega)
  have a2 := i64_nat (n := D.2.1.2) (by omega)
  refine K_set (d := d + 1) m7 (by rw [a1]; omega) (by rw [a2]; omega) ?_
  exact loop D.2.2.1.1 0 (ratN D) _ rfl (Fr_setF ⟨Or.inl rfl, rfl⟩ ⟨Or.inr rfl, rfl⟩) getF_setF (ratN_ok hn0 d5 d6).1 rfl
