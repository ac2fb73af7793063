
/-! ===== the reference: what is wrong with a definition; its factor ===== -/
theorem sgO_nz (s : Bool × Nat × Nat) : ¬ sgO s = 0 := by
  unfold sgO
  split <;> decide
theorem K_wrongWith {d m n : Nat} {T : TP} {q : HP → Int32 → Prop} {H : HP} {U : Nat → UV} {D : DRes} (hT : MT0 H m T) (md : MDf H m D) (ok : okDR T D) (hu : MU H m n U) (hok : ∀ i, okU (U i)) (hq : q H (defV T n U D)) : CI (d + 3) 0 0 mX12_wrongWith [rv (some m), .int (Int32.ofNat D.1)] H q := by
  obtain ⟨k1, k2, k3, k4, k5⟩ := id md
  obtain ⟨d1, d2, d3, d4, d5, d6, d7, d8, d9, d10⟩ := id ok
  have sm := hu.1
  have hn20 := hu.2.2.1
  have ez : (0 : Int32).toNatClampNeg = 0 := rfl
  have e0 : (0 : Int32) = Int32.ofNat 0 := rfl
  have e1 : (1 : Int32) = Int32.ofNat 1 := rfl
  unfold defV at hq
  have e9 : nul0 D → q H (-9) := fun h => by
    have eW : defW T n U D = -9 := by unfold defW; rw [if_pos h]
    rw [eW, if_pos (by decide)] at hq; exact hq
  have fin : ¬ nul0 D → dRef (wF T n U) U D.2.2.1.2 D.2.2.1.1 0 = 0 → (¬ (hI H 1330 m 0) = 0 → CI (d + 2) 0 0 mX12_whose [rv (some m), .int (0 : Int32), .int (Int32.ofNat D.1)] H (fun H2 r3 => (r3 < 0 → tg H2 m = 13 ∧ (((hI H2 1331 m 0) = 0 → q H2 (0 : Int32)) ∧ (¬ ((hI H2 1331 m 0) = 0) → ((1 : Int32) < (hI H2 1332 m 0) → q H2 (-2 : Int32)) ∧ (¬ ((1 : Int32) < (hI H2 1332 m 0)) → ∃ a5, (hC H2 1335 m) = some a5 ∧ (isA H2 a5 0 ∧ (vp_in (0 : Int32) (ln H2 a5) ∧ (((hI H2 (tg H2 a5) a5 (0 : Int32).toNatClampNeg) ≤ (1 : Int32) → q H2 (0 : Int32)) ∧ (¬ ((hI H2 (tg H2 a5) a5 (0 : Int32).toNatClampNeg) ≤ (1 : Int32)) → q H2 (-2 : Int32))))))))) ∧ (¬ (r3 < 0) → q H2 (-11 : Int32)))) ∧ ((hI H 1330 m 0) = 0 → q H (-9 : Int32)) := by
    intro hn0 hr
    have eW : defW T n U D = if nul1 D then -9 else 0 := by
      unfold defW
      rw [if_neg hn0, if_neg (fun k => k hr)]
    have e30 : hI H 1330 m 0 = 0 ↔ nul1 D := by
      unfold MOf at k5
      cases ho : D.2.2.2 with
      | none =>
        rw [ho] at k5
        rw [k5.2]
        exact ⟨fun k => absurd k (by decide), fun k => absurd k (nul1_no ho)⟩
      | some s =>
        rw [ho] at k5
        have hl := (d10 s ho).2
        rw [k5.2.2, iN_z (by omega), nul1_of ho]
    have e31 : hI H 1331 m 0 = 0 ↔ ¬ D.2.2.2.isSome = true := by
      unfold MOf at k5
      cases ho : D.2.2.2 with
      | none =>
        rw [ho] at k5
        rw [k5.1]
        exact ⟨fun _ k => (by cases k), fun _ => rfl⟩
      | some s =>
        rw [ho] at k5
        rw [k5.1]
        exact ⟨fun k => absurd k (sgO_nz s), fun k => absurd rfl k⟩
    rw [e30]
    refine ⟨fun hn1 => ?_, fun hn1 => ?_⟩
    · rw [if_neg hn1] at eW
      rw [eW, if_neg (by decide)] at hq
      rw [e0]
      refine K_whose0 (d := d) hT hu (fun i _ => hok i) d2 (by omega) ?_
      rw [← e0, i32_lt, i32_0]
      rcases wF_cases (T := T) (U := U) (fr := 0) (many := D.1) hn20 with ⟨w1, w2⟩ | ⟨j, j1, w1, w2⟩
      · rw [w1, if_neg (by decide)] at hq
        rw [w2, e31, k3, e1, iN_lt (by omega) (by omega)]
        refine ⟨fun _ => ⟨sm.1, fun h => ?_, fun h => ⟨fun h2 => ?_, fun h2 => ?_⟩⟩, fun k => absurd (by decide) k⟩
        · rw [if_neg (fun k => h k.1)] at hq; exact hq
        · rw [if_pos ⟨Classical.byContradiction h, Or.inl (by omega)⟩] at hq; exact hq
        · obtain ⟨f1, f2, f3, f4⟩ := mA_powerFigure sm
          have hg := d9 0 (by omega)
          obtain ⟨-, -, -, g1, g4⟩ := hg
          refine ⟨m + 18, f1, f2, by rw [f4]; exact vpi_of (n := 0) (m := 60) (by decide) (by decide), ?_⟩
          rw [f3, ez, (k4 0 (by omega)).2.2.1, iN_le (by omega) (by omega)]
          refine ⟨fun h3 => ?_, fun h3 => ?_⟩
          · rw [if_neg (fun k => k.2.elim (fun k => by omega) (fun k => by omega))] at hq; exact hq
          · rw [if_pos ⟨Classical.byContradiction h, Or.inr (by omega)⟩] at hq; exact hq
      · rw [w1, if_pos (show (some j).isSome = true from rfl)] at hq
        rw [w2]
        have hj := iN_toInt (n := j) (by omega)
        exact ⟨fun k => by omega, fun _ => hq⟩
    · rw [if_pos hn1] at eW
      rw [eW, if_pos (by decide)] at hq; exact hq
  have loop : ¬ nul0 D → ∀ (k i : Nat), k + i = D.2.2.1.1 → dRef (wF T n U) U D.2.2.1.2 D.2.2.1.1 0 = dRef (wF T n U) U D.2.2.1.2 k i → L_X12_wrongWith_19 (d + 2) q m (Int32.ofNat D.1) (Int32.ofNat i) H := by
    intro hn0 k
    induction k with
    | zero =>
      intro i hi hr
      refine T_X12_wrongWith_19 ?_
      unfold wb_X12_wrongWith_19
      rw [k3, iN_le (by omega) (by omega)]
      refine ⟨sm.1, fun _ => ?_, fun h => by omega⟩
      exact fin hn0 hr
    | succ k ih =>
      intro i hi hr
      refine T_X12_wrongWith_19 ?_
      unfold wb_X12_wrongWith_19
      obtain ⟨a1, a2, a3, a4⟩ := mA_powerAt sm
      obtain ⟨l1, l2, l3, l4⟩ := mA_powerLong sm
      obtain ⟨r1, r2, r3, r4⟩ := k4 i (by omega)
      obtain ⟨o1, o2, o3, o4, o5⟩ := d9 i (by omega)
      have in60 : vp_in (Int32.ofNat i) 60 := vpi_of (by omega) (by decide)
      rw [dRef_succ] at hr
      have bad : ∀ w : Int32, dRef (wF T n U) U D.2.2.1.2 D.2.2.1.1 0 = w → w ≠ 0 → q H w := fun w hw hw0 => by
        have eW : defW T n U D = w := by
          unfold defW
          rw [if_neg hn0, hw, if_pos hw0]
        rw [eW, if_pos hw0] at hq; exact hq
      rw [k3, iN_le (by omega) (by omega)]
      refine ⟨sm.1, fun h => by omega, fun _ => ⟨m + 16, a1, a2, by rw [a4]; exact in60, m + 17, l1, l2, by rw [l4]; exact in60, ?_⟩⟩
      rw [a3, l3, iN_cl (by omega), r1, r2, iN_inc (by omega)]
      refine K_whose0 (d := d) hT hu (fun i _ => hok i) o3 o1 ?_
      rw [i32_le, i32_0]
      rcases wF_cases (T := T) (U := U) (fr := (D.2.2.1.2 i).1) (many := (D.2.2.1.2 i).2.1) hn20 with ⟨w1, w2⟩ | ⟨j, j1, w1, w2⟩
      · rw [w1] at hr
        rw [w2]
        exact ⟨fun k => absurd k (by decide), fun _ => bad (-8) hr (by decide)⟩
      · rw [w1] at hr
        simp only at hr
        rw [w2]
        have hj := iN_toInt (n := j) (by omega)
        refine ⟨fun _ => ⟨sm.1, K_mhasOffset (d := d + 1) sm (by omega) (hu.2.2.2 j j1) ⟨fun ho => ?_, fun ho => ?_⟩⟩, fun k => by omega⟩
        · rw [if_neg (by rw [ho]; decide)] at hr
          exact ih (i + 1) (by omega) hr
        · rw [if_pos ho] at hr
          exact bad (-10) hr (by decide)
  refine C_X12_wrongWith ?_
  unfold wb_X12_wrongWith_0
  rw [k1, k2, iN_z (by omega), iN_z (by omega)]
  exact ⟨sm.1, fun h => e9 (Or.inl h), fun h => ⟨fun h2 => loop (fun k => k.elim h h2) D.2.2.1.1 0 rfl rfl, fun h2 => e9 (Or.inr h2)⟩⟩
/-- all that the making of a unit reads, in the reference -/
def MRdy (H : HP) (m n : Nat) (T : TP) (U : Nat → UV) (D : DRes) (J : Nat → Nat) : Prop := MT0 H m T ∧ MDf H m D ∧ MU H m n U ∧ ∀ i, i < D.2.2.1.1 → J i < n ∧ wF T n U (D.2.2.1.2 i).1 (D.2.2.1.2 i).2.1 = some (J i)
theorem fr_MRdy {S : Nat → Nat → Prop} {H H' : HP} {m n : Nat} {T : TP} {U : Nat → UV} {D : DRes} {J : Nat → Nat} (h : Fr S H H') (h0 : ∀ g, (1327 ≤ g ∧ g ≤ 1332) ∨ g = 1323 ∨ g = 1300 → ¬ S g m) (h1 : ∀ g x, (m + 15 ≤ x ∧ x ≤ m + 19) ∨ (m + 1 ≤ x ∧ x ≤ m + 6) → ¬ S g x) (s : MRdy H m n T U D J) : MRdy H' m n T U D J := by
  obtain ⟨s1, s2, s3, s4⟩ := s
  exact ⟨fr_MT0 h (h0 _ (by omega)) (h1 _ _ (by omega)) s1, fr_MDf h (fun g k1 k2 => h0 g (by omega)) (fun g x k1 k2 => h1 g x (by omega)) s2, fr_MU h (h0 _ (by omega)) (fun g x k1 k2 => h1 g x (by omega)) s3, s4⟩
theorem wF_who {T : TP} {n fr many j : Nat} {U : Nat → UV} (hn : n ≤ 20) (h : wF T n U fr many = some j) : whoF (fun i => nmEq (U i) T fr many) n 0 = Int32.ofNat j := by
  rcases wF_cases (T := T) (U := U) (fr := fr) (many := many) hn with ⟨w1, w2⟩ | ⟨j', j1, w1, w2⟩
  · rw [w1] at h; cases h
  · rw [w1] at h
    injection h with h
    rw [w2, h]
theorem K_factors {d m n : Nat} {T : TP} {q : HP → Prop} {H : HP} {U : Nat → UV} {D : DRes} {J : Nat → Nat} (r : MRdy H m n T U D J) (hok : ∀ i, okU (U i)) (ok : okDR T D) (hn0 : ¬ nul0 D)
    (h1 : ∀ f, okF f → facA (fun i => U (J i)) D.2.2.1.2 D.2.2.1.1 0 (ratN D) = some f → ∀ H', Fr (UpS m) H H' → getM H' m = f → hI H' 1321 m 0 = 0 → q H')
    (h0 : facA (fun i => U (J i)) D.2.2.1.2 D.2.2.1.1 0 (ratN D) = none → ∀ H', Fr (UpS m) H H' → hI H' 1321 m 0 = 1 → q H') : CV (d + 5) 0 0 mX12_factors [rv (some m)] H q := by
  obtain ⟨d1, d2, d3, d4, d5, d6, d7, d8, d9, d10⟩ := id ok
  have n10 : ¬ (1 : Int32) = 0 := by decide
  have frR : ∀ {H'}, Fr (UpS m) H H' → MRdy H' m n T U D J := fun F => fr_MRdy F (fun g k1 k => by omega) (fun g x k1 k => by omega) r
  have hn20 := r.2.2.1.2.2.1
  -- one row asked for
  have ask : ∀ (H' : HP) (i : Nat), Fr (UpS m) H H' → i < D.2.2.1.1 → L_X12_factors_48 (d + 4) q m (Int32.ofNat i) (Int32.ofNat (J i)) (0 : Int32) H' → L_X12_factors_21 (d + 4) q m (Int32.ofNat i) H' := by
    intro H' i F hi hL
    obtain ⟨t', md, hu, hJ⟩ := frR F
    have sm := hu.1
    obtain ⟨a1, a2, a3, a4⟩ := mA_powerAt sm
    obtain ⟨l1, l2, l3, l4⟩ := mA_powerLong sm
    obtain ⟨r1, r2, r3, r4⟩ := md.2.2.2.1 i hi
    obtain ⟨o1, o2, o3, o4, o5⟩ := d9 i hi
    obtain ⟨-, hw⟩ := hJ i hi
    have in60 : vp_in (Int32.ofNat i) 60 := vpi_of (by omega) (by decide)
    refine T_X12_factors_21 ?_
    unfold wb_X12_factors_21
    rw [md.2.2.1, iN_le (by omega) (by omega)]
    refine ⟨sm.1, fun h => by omega, fun _ => ⟨m + 16, a1, a2, by rw [a4]; exact in60, m + 17, l1, l2, by rw [l4]; exact in60, ?_⟩⟩
    rw [a3, l3, iN_cl (by omega), r1, r2]
    refine K_whose0 (d := d + 2) t' hu (fun i _ => hok i) o3 o1 ?_
    rw [wF_who hn20 hw]
    exact hL
  -- over: nothing more
  have over : ∀ (k i : Nat) (H' : HP), k + i = D.2.2.1.1 → Fr (UpS m) H H' → hI H' 1321 m 0 = 1 → facA (fun i => U (J i)) D.2.2.1.2 D.2.2.1.1 0 (ratN D) = none → L_X12_factors_21 (d + 4) q m (Int32.ofNat i) H' := by
    intro k
    induction k with
    | zero =>
      intro i H' hi F z hn
      obtain ⟨t', md, hu, hJ⟩ := frR F
      refine T_X12_factors_21 ?_
      unfold wb_X12_factors_21
      rw [md.2.2.1, iN_le (by omega) (by omega)]
      exact ⟨hu.1.1, fun _ => h0 hn H' F z, fun h => by omega⟩
    | succ k ih =>
      intro i H' hi F z hn
      refine ask H' i F (by omega) ?_
      obtain ⟨t', md, hu, hJ⟩ := frR F
      obtain ⟨f1, f2, f3, f4⟩ := mA_powerFigure hu.1
      obtain ⟨r1, r2, r3, r4⟩ := md.2.2.2.1 i (by omega)
      obtain ⟨o1, o2, o3, o4, o5⟩ := d9 i (by omega)
      have e0 : (0 : Int32) = Int32.ofNat 0 := rfl
      refine T_X12_factors_48 ?_
      unfold wb_X12_factors_48
      refine ⟨hu.1.1, m + 18, f1, f2, by rw [f4]; exact vpi_of (by omega) (by decide), ?_⟩
      rw [f3, iN_cl (by omega), r3, z, e0, iN_le (by omega) (by omega), iN_inc (by omega)]
      exact ⟨fun h => by omega, fun _ => ⟨fun _ => ih (i + 1) H' (by omega) F z hn, fun k => absurd k n10⟩⟩
  have loop : ∀ (k i : Nat) (f : FR) (H' : HP), k + i = D.2.2.1.1 → Fr (UpS m) H H' → hI H' 1321 m 0 = 0 → getM H' m = f → okF f → facA (fun i => U (J i)) D.2.2.1.2 D.2.2.1.1 0 (ratN D) = facA (fun i => U (J i)) D.2.2.1.2 k i f → L_X12_factors_21 (d + 4) q m (Int32.ofNat i) H' := by
    intro k
    induction k with
    | zero =>
      intro i f H' hi F z g of he
      obtain ⟨t', md, hu, hJ⟩ := frR F
      refine T_X12_factors_21 ?_
      unfold wb_X12_factors_21
      rw [md.2.2.1, iN_le (by omega) (by omega)]
      exact ⟨hu.1.1, fun _ => h1 f of he H' F g z, fun h => by omega⟩
    | succ k ih =>
      intro i f H' hi F z g of he
      refine ask H' i F (by omega) ?_
      rw [facA_succ] at he
      obtain ⟨o1, o2, o3, o4, o5⟩ := d9 i (by omega)
      -- one factor so often
      have inner : ∀ (c j : Nat) (f' : FR) (X : HP), c + j = (D.2.2.1.2 i).2.2.1 → Fr (UpS m) H X → hI X 1321 m 0 = 0 → getM X m = f' → okF f' → dpow (D.2.2.1.2 i).2.2.2 (U (J i)).2.2.1 (D.2.2.1.2 i).2.2.1 f = dpow (D.2.2.1.2 i).2.2.2 (U (J i)).2.2.1 c f' → L_X12_factors_48 (d + 4) q m (Int32.ofNat i) (Int32.ofNat (J i)) (Int32.ofNat j) X := by
        intro c
        induction c with
        | zero =>
          intro j f' X hj FX zX gX of' hd
          obtain ⟨t', md, hu, hJ⟩ := frR FX
          obtain ⟨f1, f2, f3, f4⟩ := mA_powerFigure hu.1
          obtain ⟨r1, r2, r3, r4⟩ := md.2.2.2.1 i (by omega)
          refine T_X12_factors_48 ?_
          unfold wb_X12_factors_48
          refine ⟨hu.1.1, m + 18, f1, f2, by rw [f4]; exact vpi_of (by omega) (by decide), ?_⟩
          rw [f3, iN_cl (n := i) (by omega), r3, iN_le (by omega) (by omega), iN_inc (by omega)]
          refine ⟨fun _ => ?_, fun h => by omega⟩
          have hd' : dpow (D.2.2.1.2 i).2.2.2 (U (J i)).2.2.1 (D.2.2.1.2 i).2.2.1 f = some f' := hd
          rw [hd'] at he
          exact ih (i + 1) f' X (by omega) FX zX gX of' he
        | succ c ihc =>
          intro j f' X hj FX zX gX of' hd
          obtain ⟨t', md, hu, hJ⟩ := frR FX
          have sX := hu.1
          obtain ⟨f1, f2, f3, f4⟩ := mA_powerFigure sX
          obtain ⟨s1, s2, s3, s4⟩ := mA_powerSign sX
          obtain ⟨r1, r2, r3, r4⟩ := md.2.2.2.1 i (by omega)
          obtain ⟨x1, x2, x3, x4⟩ := mA_factorUp sX
          obtain ⟨y1, y2, y3, y4⟩ := mA_factorLow sX
          obtain ⟨hJn, -⟩ := hJ i (by omega)
          obtain ⟨-, -, -, u4, u5, -⟩ := hu.2.2.2 (J i) hJn
          have p1 : okF ((U (J i)).2.2.1.1, (U (J i)).2.2.1.2) := (hok (J i)).2.2.2.2.1
          have p1' : 0 < (U (J i)).2.2.1.1.toInt := (hok (J i)).2.2.2.2.2.1
          have in60 : vp_in (Int32.ofNat i) 60 := vpi_of (by omega) (by decide)
          have in20 : vp_in (Int32.ofNat (J i)) 20 := vpi_of (by omega) (by decide)
          rw [dpow_succ] at hd
          have FU : ∀ B f, Fr (UpS m) B (setM B m f) := fun B f => Fr_setM ⟨rfl, Or.inl rfl⟩ ⟨rfl, Or.inr (Or.inl rfl)⟩
          have FO : ∀ B, Fr (UpS m) B (sI B 1321 m 0 1) := fun B => Fr_sI ⟨rfl, Or.inr (Or.inr rfl)⟩
          have oz : ∀ (g : FR), facA (fun i => U (J i)) D.2.2.1.2 D.2.2.1.1 0 (ratN D) = none → L_X12_factors_48 (d + 4) q m (Int32.ofNat i) (Int32.ofNat (J i)) (Int32.ofNat (j + 1)) (setM (sI X 1321 m 0 1) m g) := fun g hn => by
            have FZ : Fr (UpS m) H (setM (sI X 1321 m 0 1) m g) := FX.tr ((FO X).tr (FU _ g))
            have zZ : hI (setM (sI X 1321 m 0 1) m g) 1321 m 0 = 1 := by
              show hI (sI X 1321 m 0 1) 1321 m 0 = 1
              rw [hIs_i, if_pos rfl]
            generalize setM (sI X 1321 m 0 1) m g = Z at FZ zZ ⊢
            obtain ⟨t', md, hu, hJ⟩ := frR FZ
            obtain ⟨f1, f2, f3, f4⟩ := mA_powerFigure hu.1
            obtain ⟨r1, r2, r3, r4⟩ := md.2.2.2.1 i (by omega)
            refine T_X12_factors_48 ?_
            unfold wb_X12_factors_48
            refine ⟨hu.1.1, m + 18, f1, f2, by rw [f4]; exact in60, ?_⟩
            rw [f3, iN_cl (n := i) (by omega), r3, zZ, iN_inc (by omega)]
            exact ⟨fun _ => over k (i + 1) Z (by omega) FZ zZ hn, fun _ => ⟨fun _ => over k (i + 1) Z (by omega) FZ zZ hn, fun k => absurd k n10⟩⟩
          refine T_X12_factors_48 ?_
          unfold wb_X12_factors_48
          refine ⟨sX.1, m + 18, f1, f2, by rw [f4]; exact in60, ?_⟩
          rw [f3, iN_cl (n := i) (by omega), r3, zX, iN_le (by omega) (by omega)]
          refine ⟨fun h => by omega, fun _ => ⟨fun k => absurd rfl k, fun _ => ⟨m + 19, s1, s2, by rw [s4]; exact in60, ?_⟩⟩⟩
          rw [s3, r4, iN_inc (n := j) (by omega)]
          have hsg : sgB (D.2.2.1.2 i).2.2.2 ≤ 0 ↔ (D.2.2.1.2 i).2.2.2 = true := by
            unfold sgB
            cases (D.2.2.1.2 i).2.2.2 with
            | true => exact ⟨fun _ => rfl, fun _ => by decide⟩
            | false => exact ⟨fun k => absurd k (by decide), fun k => (by cases k)⟩
          rw [hsg]
          refine ⟨fun hdv => ⟨m + 3, x1, x2, by rw [x4]; exact in20, m + 4, y1, y2, by rw [y4]; exact in20, ?_⟩, fun hdv => ⟨m + 3, x1, x2, by rw [x4]; exact in20, m + 4, y1, y2, by rw [y4]; exact in20, ?_⟩⟩
          · rw [if_pos hdv] at hd
            rw [x3, y3, iN_cl (n := J i) (by omega), u4, u5, getM_1 gX, getM_2 gX]
            refine K_by (d := d) sX.1 (Or.inl zX) of' p1.2.1 p1.1 (by omega) (fun g hg => ?_) (fun hg g => ?_)
            · rw [hg] at hd
              exact ihc (j + 1) g _ (by omega) (FX.tr (FU X g)) zX getM_setM (divF_ok of' p1 hg) hd
            · rw [hg] at hd
              simp only at hd
              rw [hd] at he
              exact oz g he
          · rw [if_neg hdv] at hd
            rw [x3, y3, iN_cl (n := J i) (by omega), u4, u5, getM_1 gX, getM_2 gX]
            refine K_times (d := d + 1) sX.1 (Or.inl zX) of' p1.2.1 p1.1 (fun k => by omega) (fun g hg => ?_) (fun hg g => ?_)
            · rw [hg] at hd
              exact ihc (j + 1) g _ (by omega) (FX.tr (FU X g)) zX getM_setM (mulF_ok of' p1.2.1 p1.1 p1.2.2 hg) hd
            · rw [hg] at hd
              simp only at hd
              rw [hd] at he
              exact oz g he
      exact inner (D.2.2.1.2 i).2.2.1 0 f H' rfl F z g of rfl
  refine C_X12_factors ?_
  unfold wb_X12_factors_0
  have sm := r.2.2.1.1
  have FA : Fr (UpS m) H (sI H 1321 m 0 (0 : Int32)) := Fr_sI ⟨rfl, Or.inr (Or.inr rfl)⟩
  have zA : hI (sI H 1321 m 0 (0 : Int32)) 1321 m 0 = 0 := by rw [hIs_i, if_pos rfl]
  refine ⟨sm.1, ?_⟩
  generalize sI H 1321 m 0 (0 : Int32) = A at FA zA ⊢
  obtain ⟨t', md, hu, hJ⟩ := frR FA
  rw [md.1, md.2.1, i64_iN (by omega), i64_iN (by omega)]
  have n1 : D.2.1.1 ≠ 0 := fun k => hn0 (Or.inl k)
  have n2 : D.2.1.2 ≠ 0 := fun k => hn0 (Or.inr k)
  have a1 := i64_nat (n := D.2.1.1) (by omega)
  have a2 := i64_nat (n := D.2.1.2) (by omega)
  refine K_becomes (d := d + 1) hu.1.1 (by rw [a1]; omega) (by rw [a2]; omega) ?_
  exact loop D.2.2.1.1 0 (ratN D) _ rfl (FA.tr (Fr_setM ⟨rfl, Or.inl rfl⟩ ⟨rfl, Or.inr (Or.inl rfl)⟩)) zA getM_setM (ratN_ok hn0 d5 d6).1 rfl
