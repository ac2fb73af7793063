
/-! ===== the class: define ===== -/
def LtB (H : HP) (b : Nat) : Prop := ∀ j, j < 4 → -128 ≤ (hI H 4193 (b + 8 + 1) j).toInt ∧ (hI H 4193 (b + 8 + 1) j).toInt ≤ 127
theorem fr_LtB {S : Nat → Nat → Prop} {H H' : HP} {b : Nat} (h : Fr S H H') (h1 : ¬ S 4193 (b + 8 + 1)) (s : LtB H b) : LtB H' b := fun j hj => by
  rw [h.2.2.2.2.1 _ _ h1]; exact s j hj
theorem sgn_mul {s : Bool × Nat × Nat} (h : s.2.1 ≤ 999999) : (sgO s).toInt64 * (Int32.ofNat s.2.1).toInt64 = Int64.ofInt (if s.1 = true then -(s.2.1 : Int) else s.2.1) := by
  have e1 := iN_toInt (n := s.2.1) (by omega)
  have a1 : (Int64.ofInt (if s.1 = true then -(s.2.1 : Int) else s.2.1)).toInt = (if s.1 = true then -(s.2.1 : Int) else s.2.1) := i64_of (by split <;> omega) (by split <;> omega)
  refine i64_ext ?_
  rw [a1]
  by_cases hs : s.1 = true
  · have es : (sgO s).toInt = -1 := by unfold sgO; rw [if_pos hs]; rfl
    rw [if_pos hs, i64_mulx] <;> rw [i64_of32, i64_of32, e1, es] <;> omega
  · have es : (sgO s).toInt = 1 := by unfold sgO; rw [if_neg hs]; rfl
    rw [if_neg hs, i64_mulx] <;> rw [i64_of32, i64_of32, e1, es] <;> omega
abbrev AdS (b : Nat) : Nat → Nat → Prop := fun g x => (b + 7 ≤ x ∧ x ≤ b + 12) ∨ (3 ≤ x ∧ x < 105)
theorem addTo57 {d b t p n : Nat} {T : TP} {q : HP → Int32 → Prop} {H : HP} {U : Nat → UV} {D : DRes} {J : Nat → Nat} (hb : 105 ≤ b) (r : Rdy H b n U D J) (hok : ∀ i, okU (U i)) (ok : okDR T D) (hc : CT H t T p) (ht : t + 2 ≤ 3) (hn0 : ¬ nul0 D) (hn1 : ¬ nul1 D) (hl : LtB H b)
    (h1 : ∀ u, defT T n (fun i => U (J i)) D = .inr u → ∀ H', Fr (AdS b) H H' → CU H' 3 (n + 1) (addU U n u) → LtB H' b → q H' (Int32.ofNat n))
    (h0 : ∀ w, defT T n (fun i => U (J i)) D = .inl w → ∀ H', Fr (AdS b) H H' → CU H' 3 n U → LtB H' b → q H' w) : wb_X1_addTo_57 (d + 4) q b (some 3) (some t) H := by
  obtain ⟨d1, d2, d3, d4, d5, d6, d7, d8, d9, d10⟩ := id ok
  have sd := r.1
  unfold wb_X1_addTo_57
  refine ⟨sd.1, K_makeDimension (d := d + 3) hb r d8 fun A FA vA => ?_⟩
  have rA : Rdy A b n U D J := fr_Rdy FA (fun g k1 k2 k => by omega) (fun g x k1 k2 k => by omega) (fun g x k1 k2 k => by omega) r
  have sA := rA.1
  obtain ⟨m1, m2, m3, m4, m5, m6, m7, m8, m9⟩ := id sA.2.2.2.2.2.2.2.2.2
  have e211 : hC A 211 b = some (b + 8) := sA.2.2.2.2.2.2.2.2.1
  have FAS : Fr (AdS b) H A := FA.mono fun g x k => Or.inl (by omega)
  have lA : LtB A b := fr_LtB FA (fun k => by omega) hl
  refine ⟨sA.1, b + 8, e211, m1, ?_⟩
  rw [m4]
  have bd : ∀ j, j < 5 → (dimA (fun i => U (J i)) D.2.2.1.2 D.2.2.1.1 j).toInt ≠ -2147483648 := fun j hj => by
    have := dimA_bd (u := fun i => U (J i)) (R := D.2.2.1.2) (fun i => hok _) D.2.2.1.1 j (by omega) (fun i hi => (d9 i hi).2.2.2.2) hj
    omega
  unfold defT at h1 h0
  have e9 : (9 : Int32) = Int32.ofNat 9 := rfl
  rw [e9]
  refine K_goesBeyond (d := d + 2) m5 (by decide) (by decide) vA bd (by decide) ⟨fun hw => ⟨sA.1, ?_⟩, fun hw => ?_⟩
  · rw [if_neg (by rw [hw]; decide)] at h1 h0
    refine K_makeFactor (d := d) hb rA hok ok hn0 (fun f of hf B FB gB => ⟨fun _ => ?_, fun k => (by cases k)⟩) (fun hf B FB => ⟨fun k => (by cases k), fun _ => ?_⟩)
    · rw [hf] at h1 h0
      simp only at h1 h0
      have rB : Rdy B b n U D J := fr_Rdy FB (fun g k1 k2 k => by omega) (fun g x k1 k2 k => by omega) (fun g x k1 k2 k => by omega) rA
      have sB := rB.1
      have FAB : Fr (AdS b) H B := FAS.tr (FB.mono fun g x k => Or.inl (by omega))
      have lB : LtB B b := fr_LtB FB (fun k => by omega) lA
      have cB : CT B t T p := by
        have F : Fr (AdS b) H B := FAB
        exact fr_CT F (fun k => by omega) (fun k => by omega) (fun k => by omega) hc
      have vB : ∀ j, j < 5 → hI B 4208 (b + 8 + 2) j = dimA (fun i => U (J i)) D.2.2.1.2 D.2.2.1.1 j := fun j hj => by
        rw [FB.2.2.2.2.1 _ _ (fun k => by omega)]; exact vA j hj
      have shB : shUnit B (b + 8) := sB.2.2.2.2.2.2.2.2.2
      have e211B : hC B 211 b = some (b + 8) := sB.2.2.2.2.2.2.2.2.1
      refine ⟨sB.1, b + 8, e211B, shB.1, ?_⟩
      rw [e211B, rB.2.1.1]
      refine K_utakeName (d := d + 2) shB cB (by omega) d3 fun E FE n1 n2 n3 => ?_
      have rE : Rdy E b n U D J := fr_Rdy FE (fun g k1 k2 k => by omega) (fun g x k1 k2 k => by omega) (fun g x k1 k2 k => by omega) rB
      obtain ⟨sE, cE, uE, fE⟩ := id rE
      have FHE : Fr (AdS b) H E := FAB.tr (FE.mono fun g x k => Or.inl (by omega))
      have shE : shUnit E (b + 8) := sE.2.2.2.2.2.2.2.2.2
      have e211E : hC E 211 b = some (b + 8) := sE.2.2.2.2.2.2.2.2.1
      have vE : ∀ j, j < 5 → hI E 4208 (b + 8 + 2) j = dimA (fun i => U (J i)) D.2.2.1.2 D.2.2.1.1 j := fun j hj => by
        rw [FE.2.2.2.2.1 _ _ (fun k => by omega)]; exact vB j hj
      have gE : getF E (b + 8 + 3) = f := by rw [fr_getF FE (fun k => by omega) (fun k => by omega)]; exact gB
      have lE : LtB E b := fun j hj => by
        by_cases e : j < D.1
        · rw [n2 j e]
          have := (hc.2.2.2.2.2 j (by omega)).2
          omega
        · rw [n3 j (by omega)]; exact lB j hj
      obtain ⟨q1, q2, q3, q4, q5, q6, q7, q8, q9⟩ := id shE
      -- the offset kept, the unit put into the row
      have put : ∀ (X : HP), X = setF E (b + 8 + 4) (offN D.2.2.2) → tg X b = 2 ∧ (∃ a23, some 3 = some a23 ∧ (tg X a23 = 11 ∧ (CI (d + 4) 0 0 mX10_append [rv (some 3), rv (hC X 211 b)] X (fun H22 r25 => q H22 r25)))) := by
        intro X hX
        have FX : Fr (fun g x => (g = 400 ∨ g = 401) ∧ x = b + 8 + 4) E X := hX ▸ Fr_setF ⟨Or.inl rfl, rfl⟩ ⟨Or.inr rfl, rfl⟩
        have gX : getF X (b + 8 + 4) = offN D.2.2.2 := by rw [hX]; exact getF_setF
        clear hX
        have sX := fr_shDef FX sE
        have uX : CU X 3 n U := fr_CU FX (fun g x k1 k2 k => by omega) uE
        have FHX : Fr (AdS b) H X := FHE.tr (FX.mono fun g x k => Or.inl (by omega))
        have lX : LtB X b := fr_LtB FX (fun k => by omega) lE
        have shX : shUnit X (b + 8) := sX.2.2.2.2.2.2.2.2.2
        have e211X : hC X 211 b = some (b + 8) := sX.2.2.2.2.2.2.2.2.1
        have cX : CUn X (b + 8) (madeU T (fun i => U (J i)) D f) := by
          refine ⟨?_, fun j hj => ?_, fun j hj => ?_, ?_, gX, lX⟩
          · rw [FX.2.2.2.2.1 _ _ (fun k => by omega)]; exact n1
          · have hj : j < D.1 := hj
            rw [FX.2.2.2.2.1 _ _ (fun k => by omega)]; exact n2 j hj
          · rw [FX.2.2.2.2.1 _ _ (fun k => by omega)]; exact vE j hj
          · rw [fr_getF FX (fun k => by omega) (fun k => by omega)]; exact gE
        refine ⟨sX.1, 3, rfl, uX.1.1, ?_⟩
        rw [e211X]
        refine K_uappend (d := d + 1) uX shX cX d2 (Or.inl (by omega)) (fun hn H' F' c' => ?_) (fun hn => ?_)
        · rw [if_neg (by omega)] at h1
          exact h1 _ rfl H' (FHX.tr (F'.mono fun g x k => Or.inr (by omega))) c' (fr_LtB F' (fun k => by omega) lX)
        · rw [if_pos hn] at h0
          exact h0 _ rfl X FHX uX lX
      have e202 : hI E 202 b 0 = bI D.2.2.2.isSome := cE.2.2.2.2.2.1
      refine ⟨sE.1, b + 8, e211E, q1, ?_⟩
      rw [e202, bI_z]
      obtain ⟨o1, o2, o3, o4⟩ := dA_1 sE
      cases ho : D.2.2.2 with
      | none =>
        refine ⟨fun _ => ⟨fun _ => ⟨b + 8 + 4, q8, q9, ?_⟩, fun k => absurd rfl k⟩, fun k => absurd rfl k⟩
        rw [q8]
        refine K_set (d := d + 2) q9 (by decide) (by decide) (put _ ?_)
        rw [ho]; rfl
      | some s =>
        obtain ⟨z1, z2, z3⟩ := cE.2.2.2.2.2.2 s ho
        obtain ⟨b1, b2⟩ := d10 s ho
        have ez : (0 : Int32).toNatClampNeg = 0 := rfl
        have eo : (1 : Int32).toNatClampNeg = 1 := rfl
        have l0 : s.2.2 ≠ 0 := fun k => hn1 ((nul1_of ho).mpr k)
        refine ⟨fun k => (by cases k), fun _ => ⟨b + 2, o1, o2, by rw [o4]; exact vpi_of (n := 0) (m := 2) (by decide) (by decide), fun k => (by cases k), fun _ => ⟨by rw [o4]; exact vpi_of (n := 1) (m := 2) (by decide) (by decide), b + 8 + 4, q8, q9, ?_⟩⟩⟩
        have a1 : (Int64.ofInt (if s.1 = true then -(s.2.1 : Int) else s.2.1)).toInt = (if s.1 = true then -(s.2.1 : Int) else s.2.1) := i64_of (by split <;> omega) (by split <;> omega)
        have a2 := i64_nat (n := s.2.2) (by omega)
        rw [q8, o3, ez, eo, z1, z2, z3, sgn_mul b1, i64_iN (by omega)]
        refine K_set (d := d + 2) q9 (by rw [a1]; split <;> omega) (by rw [a2]; omega) (put _ ?_)
        rw [ho]; rfl
    · rw [hf] at h0
      exact h0 _ rfl B (FAS.tr (FB.mono fun g x k => Or.inl (by omega))) (fr_CU FB (fun g x k1 k2 k => by omega) rA.2.2.1) (fr_LtB FB (fun k => by omega) lA)
  · have hw : wide 5 (fun j => dimA (fun i => U (J i)) D.2.2.1.2 D.2.2.1.1 j) 9 = true := hw
    rw [if_pos hw] at h0
    exact h0 _ rfl A FAS rA.2.2.1 lA
theorem K_addTo {d b t p n : Nat} {T : TP} {q : HP → Int32 → Prop} {H : HP} {U : Nat → UV} {D : DRes} (hb : 105 ≤ b) (sd : shDef H b) (cd : CDf H b D) (hok : ∀ i, okU (U i)) (ok : okDR T D) (hc : CT H t T p) (ht : t + 2 ≤ 3) (hu : CU H 3 n U) (hl : LtB H b)
    (h1 : ∀ u, defA T n U D = .inr u → ∀ H', Fr (AdS b) H H' → CU H' 3 (n + 1) (addU U n u) → LtB H' b → q H' (Int32.ofNat n))
    (h0 : ∀ w, defA T n U D = .inl w → ∀ H', Fr (AdS b) H H' → CU H' 3 n U → LtB H' b → q H' w) : CI (d + 5) 0 0 mX1_addTo [rv (some b), rv (some 3), rv (some t)] H q := by
  obtain ⟨d1, d2, d3, d4, d5, d6, d7, d8, d9, d10⟩ := id ok
  have hn20 := hu.2.2.1
  refine C_X1_addTo ?_
  unfold wb_X1_addTo_0
  unfold defA at h1 h0
  have FrA : ∀ {H'}, Fr (fun g x => g = 4470 ∧ x = b + 7) H H' → Fr (AdS b) H H' := fun F => F.mono fun g x k => Or.inl (by omega)
  refine ⟨sd.1, K_partsRefusal (d := d) hb sd cd ok hc (by omega) hu hok (fun hw H' F' => ⟨fun k => absurd k hw, fun _ => ?_⟩) (fun hw A FA fA => ⟨fun _ => ?_, fun k => absurd rfl k⟩)⟩
  · have ev : defV T n U D = defW T n U D := by unfold defV; rw [if_pos hw]
    rw [if_pos (by rw [ev]; exact hw), ev] at h0
    exact h0 _ rfl H' (FrA F') (fr_CU F' (fun g x k1 k2 k => by omega) hu) (fr_LtB F' (fun k => by omega) hl)
  · have sA := fr_shDef FA sd
    have cA : CDf A b D := fr_CDf FA (fun g k1 k2 k => by omega) (fun g x k1 k2 k => by omega) cd
    have tA : CT A t T p := fr_CT FA (fun k => by omega) (fun k => by omega) (fun k => by omega) hc
    have uA : CU A 3 n U := fr_CU FA (fun g x k1 k2 k => by omega) hu
    have lA : LtB A b := fr_LtB FA (fun k => by omega) hl
    have nn0 : ¬ nul0 D := fun k => by
      unfold defW at hw
      rw [if_pos k] at hw
      exact absurd hw (by decide)
    have nn1 : ¬ nul1 D := fun k => by
      unfold defW at hw
      rw [if_neg nn0] at hw
      by_cases hr : dRef (wF T n U) U D.2.2.1.2 D.2.2.1.1 0 ≠ 0
      · rw [if_pos hr] at hw; exact hr hw
      · rw [if_neg hr, if_pos k] at hw
        exact absurd hw (by decide)
    have ev : defV T n U D = if (wF T n U 0 D.1).isSome = true then -11 else if badD D then -2 else 0 := by
      unfold defV; rw [if_neg (fun k => k hw)]
    have e0 : (0 : Int32) = Int32.ofNat 0 := rfl
    refine ⟨sA.1, 3, rfl, uA.1.1, ?_⟩
    rw [cA.1]
    have nmb := K_numberOf (d := d + 1) (q := fun H5 r8 => (r8 < 0 → tg H5 b = 2 ∧ (((hI H5 202 b 0) = 0 → wb_X1_addTo_57 (d + 4) q b (some 3) (some t) H5) ∧ (¬ ((hI H5 202 b 0) = 0) → (¬ (hI H5 205 b 0) = (1 : Int32) → q H5 (-2 : Int32)) ∧ ((hI H5 205 b 0) = (1 : Int32) → ∃ a10, (hC H5 208 b) = some a10 ∧ (isA H5 a10 0 ∧ (vp_in (0 : Int32) (ln H5 a10) ∧ (((hI H5 (tg H5 a10) a10 (0 : Int32).toNatClampNeg) = (1 : Int32) → wb_X1_addTo_57 (d + 4) q b (some 3) (some t) H5) ∧ (¬ ((hI H5 (tg H5 a10) a10 (0 : Int32).toNatClampNeg) = (1 : Int32)) → q H5 (-2 : Int32))))))))) ∧ (¬ (r8 < 0) → q H5 (-11 : Int32))) tA uA (fun i _ => hok i) (fr := 0) (many := D.1) (by omega)
    refine nmb ?_
    rw [i32_lt, i32_0]
    rcases wF_cases (T := T) (U := U) (fr := 0) (many := D.1) hn20 with ⟨w1, w2⟩ | ⟨j, j1, w1, w2⟩
    · have go : (¬ badD D) → wb_X1_addTo_57 (d + 4) q b (some 3) (some t) A := fun hb' => by
        have ev0 : defV T n U D = 0 := by rw [ev, w1, if_neg (by decide), if_neg hb']
        rw [if_neg (fun k => k ev0)] at h1 h0
        have r : Rdy A b n U D (fun i => (wF T n U (D.2.2.1.2 i).1 (D.2.2.1.2 i).2.1).getD 0) := by
          refine ⟨sA, cA, uA, fun i hi => ⟨?_, (fA i hi).2⟩⟩
          have hs := (fA i hi).1
          rcases wF_cases (T := T) (U := U) (fr := (D.2.2.1.2 i).1) (many := (D.2.2.1.2 i).2.1) hn20 with ⟨v1, v2⟩ | ⟨j, j1, v1, v2⟩
          · rw [v1] at hs; cases hs
          · show ((wF T n U (D.2.2.1.2 i).1 (D.2.2.1.2 i).2.1).getD 0) < n
            rw [v1]; exact j1
        exact addTo57 (d := d) hb r hok ok tA ht nn0 nn1 lA (fun u hu' H' F' c' l' => h1 u hu' H' ((FrA FA).tr F') c' l') (fun w hw' H' F' c' l' => h0 w hw' H' ((FrA FA).tr F') c' l')
      have bad : badD D → q A (-2) := fun hb' => by
        have ev2 : defV T n U D = -2 := by rw [ev, w1, if_neg (by decide), if_pos hb']
        rw [if_pos (by rw [ev2]; decide), ev2] at h0
        exact h0 _ rfl A (FrA FA) uA lA
      rw [w2]
      refine ⟨fun _ => ⟨sA.1, ?_⟩, fun k => absurd (by decide) k⟩
      have e202 : hI A 202 b 0 = bI D.2.2.2.isSome := cA.2.2.2.2.2.1
      have e1 : (1 : Int32) = Int32.ofNat 1 := rfl
      have ez : (0 : Int32).toNatClampNeg = 0 := rfl
      obtain ⟨f1, f2, f3, f4⟩ := dA_f sA
      rw [e202, bI_z, cA.2.2.2.1, e1, iN_eq (by omega) (by omega)]
      refine ⟨fun h => go fun k => (by have := k.1; rw [h] at this; cases this), fun h => ?_⟩
      have hs : D.2.2.2.isSome = true := by
        cases hc' : D.2.2.2.isSome with
        | true => rfl
        | false => exact absurd hc' h
      refine ⟨fun h1' => bad ⟨hs, Or.inl h1'⟩, fun h1' => ⟨b + 5, f1, f2, by rw [f4]; exact vpi_of (n := 0) (m := 30) (by decide) (by decide), ?_⟩⟩
      have hg := (d9 0 (by omega)).2.2.2.2
      rw [f3, ez, (cA.2.2.2.2.1 0 (by omega)).2.2.1, iN_eq (by omega) (by omega)]
      refine ⟨fun h2' => go fun k => k.2.elim (fun k => k h1') (fun k => k h2'), fun h2' => bad ⟨hs, Or.inr h2'⟩⟩
    · rw [w2]
      have hj := iN_toInt (n := j) (by omega)
      refine ⟨fun k => by omega, fun _ => ?_⟩
      have ev1 : defV T n U D = -11 := by rw [ev, w1]; rfl
      rw [if_pos (by rw [ev1]; decide), ev1] at h0
      exact h0 _ rfl A (FrA FA) uA lA
abbrev DeS : Nat → Nat → Prop := fun g x => ((g = 801 ∨ g = 802) ∧ x = 1) ∨ (229 ≤ x ∧ x ≤ 241) ∨ (3 ≤ x ∧ x < 105)
/-- define: what it answers, and the units behind it -/
def defI (T : TP) (n : Nat) (U : Nat → UV) : Int32 := match dDef T with
  | .inl f => (-100 : Int32) - Int32.ofNat f
  | .inr D => match defA T n U D with
    | .inl w => w
    | .inr _ => Int32.ofNat n
def defN (T : TP) (n : Nat) (U : Nat → UV) : Nat × (Nat → UV) := match dDef T with
  | .inl _ => (n, U)
  | .inr D => match defA T n U D with
    | .inl _ => (n, U)
    | .inr u => (n + 1, addU U n u)
theorem K_cdefine {d n : Nat} {q : HP → Int32 → Prop} {H : HP} {T : TP} {U : Nat → UV} (s : shP H) (sd : shDef H 229) (hl : LtB H 229) (hc : CT H 1 T 0) (hu : CU H 3 n U) (hok : ∀ i, okU (U i)) (hq : ∀ H', Fr DeS H H' → CT H' 1 (0, T.2) 0 → CU H' 3 (defN T n U).1 (defN T n U).2 → LtB H' 229 → q H' (defI T n U)) : CI (d + 6) 0 0 mX11_define [rv (some 0)] H q := by
  obtain ⟨s1, s2, s3, s4, s5, s6, s7, -⟩ := id s
  unfold defI defN at hq
  have DfD : ∀ g x, DfS 1 229 g x → DeS g x := fun g x k => by
    rcases k with k | k | k
    · exact Or.inl ⟨Or.inr k.1, k.2⟩
    · exact Or.inr (Or.inl (by omega))
    · exact Or.inr (Or.inl (by omega))
  refine C_X11_define ?_
  unfold wb_X11_define_0
  rw [s7, s2]
  refine ⟨s1, 229, rfl, sd.1, K_dread (d := d) (by omega) sd hc (fun D hD A pA FA cA dA => ⟨fun k => (by cases k), fun _ => ?_⟩) (fun f hf A FA cA => ⟨fun _ => ?_, fun k => (by cases k)⟩)⟩
  · rw [hD] at hq
    simp only at hq
    have FAD := FA.mono DfD
    have eC : ∀ g a, hC A g a = hC H g a := fun g a => by rw [FA.2.1]
    have sA := fr_shDef FA sd
    have uA : CU A 3 n U := fr_CU FA (fun g x k1 k2 k => by omega) hu
    have lA : LtB A 229 := fr_LtB FA (fun k => by omega) hl
    have okD := dDef_ok hc.2.2.1 hD
    have fin : ∀ (B : HP) (w : Int32), Fr (AdS 229) A B → LtB B 229 → (∀ H', Fr DeS H H' → CT H' 1 (0, T.2) 0 → Fr (fun g x => (g = 801 ∨ g = 802) ∧ x = 1) B H' → LtB H' 229 → q H' w) → tg B 0 = 12 ∧ (∃ a17, (hC B 1200 0) = some a17 ∧ (tg B a17 = 8 ∧ (CV (d + 5) 0 0 mX7_clear [rv (hC B 1200 0)] B (fun H16 => q H16 w)))) := by
      intro B w FB lB hf
      have FHB : Fr DeS H B := FAD.tr (FB.mono fun g x k => by
        rcases k with k | k
        · exact Or.inr (Or.inl (by omega))
        · exact Or.inr (Or.inr k))
      have cB : CT B 1 T pA := fr_CT FB (fun k => by omega) (fun k => by omega) (fun k => by omega) cA
      refine ⟨by rw [fr_tg FHB]; exact s1, 1, by rw [FHB.2.1]; exact s2, cB.1.1, ?_⟩
      rw [FHB.2.1, s2]
      exact K_tclear (d := d + 4) cB fun H' F' c' => hf H' (FHB.tr (F'.mono fun g x k => Or.inl k)) c' F' (fr_LtB F' (fun k => by omega) lB)
    refine ⟨by rw [fr_tg FA]; exact s1, 229, by rw [eC]; exact s7, sA.1, ?_⟩
    rw [eC 1206, eC 1201, eC 1200, s7, s3, s2]
    refine K_addTo (d := d) (by omega) sA dA hok okD cA (by omega) uA lA (fun u hu' B FB uB lB => ?_) (fun w hw B FB uB lB => ?_)
    · rw [hu'] at hq
      exact fin B _ FB lB fun H' F' c' F2 l' => hq H' F' c' (fr_CU F2 (fun g x k1 k2 k => by omega) uB) l'
    · rw [hw] at hq
      exact fin B _ FB lB fun H' F' c' F2 l' => hq H' F' c' (fr_CU F2 (fun g x k1 k2 k => by omega) uB) l'
  · rw [hf] at hq
    have FAD := FA.mono DfD
    refine ⟨by rw [fr_tg FA]; exact s1, 1, by rw [FA.2.1]; exact s2, cA.1.1, ?_⟩
    rw [FA.2.1, s2]
    refine K_tclear (d := d + 4) cA fun H' F' c' => ?_
    rw [cA.2.2.2.1]
    exact hq H' (FAD.tr (F'.mono fun g x k => Or.inl k)) c' (fr_CU F' (fun g x k1 k2 k => by omega) (fr_CU FA (fun g x k1 k2 k => by omega) hu)) (fr_LtB F' (fun k => by omega) (fr_LtB FA (fun k => by omega) hl))
