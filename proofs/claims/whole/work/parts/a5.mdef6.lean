
/-! ===== the reference: define ===== -/
theorem comes141 {d m n : Nat} {T : TP} {q : HP → Int32 → Prop} {H0 H1 : HP} {U : Nat → UV} {D : DRes} {u : UV} (hok : ∀ i, okU (U i)) (ok : okDR T D) (hn1 : ¬ nul1 D) (hn : n < 20) (hT : MT0 H0 m T) (md : MDf H0 m D) (hu : MU H0 m n U) (F1 : Fr (fun g x => (x = m ∧ (g = 1319 ∨ g = 1320 ∨ g = 1321)) ∨ (m + 2 ≤ x ∧ x ≤ m + 2)) H0 H1) (w2 : ∀ x, x < 5 * n → hI H1 4656 (m + 2) x = hI H0 4656 (m + 2) x) (eu : u.1 = (D.1, T.2)) (eo : u.2.2.2 = offN D.2.2.2) (v2 : ∀ j, j < 5 → hI H1 4656 (m + 2) (5 * n + j) = u.2.1 j) (gf : getM H1 m = u.2.2.1)
    (hq : ∀ H', Fr (CoS m) H0 H' → MU H' m (n + 1) (addU U n u) → q H' (Int32.ofNat n)) : ∀ (k i : Nat) (H' : HP), k + i = 4 → Fr (fun g x => g = 4640 ∧ x = m + 1) H1 H' → (∀ x, x < 4 * n → hI H' 4640 (m + 1) x = hI H0 4640 (m + 1) x) → (∀ j, j < i → hI H' 4640 (m + 1) (4 * n + j) = if j < D.1 then T.2 j else 0) → L_X12_comes_141 (d + 3) q m (Int32.ofNat D.1) (Int32.ofNat i) H' := by
  obtain ⟨d1, d2, d3, d4, d5, d6, d7, d8, d9, d10⟩ := id ok
  have e4 : (4 : Int32) = Int32.ofNat 4 := rfl
  intro k
  induction k with
  | zero =>
    intro i H' hi F2 wl vl
    have F12 : Fr (fun g x => (x = m ∧ (g = 1319 ∨ g = 1320 ∨ g = 1321)) ∨ (m + 1 ≤ x ∧ x ≤ m + 4)) H0 H' := (F1.mono fun g x k => by
      rcases k with k | k
      · exact Or.inl k
      · exact Or.inr (by omega)).tr (F2.mono fun g x k => Or.inr (by omega))
    have sm := fr_shM F12 hu.1
    have cH : hI H' 1300 m 0 = Int32.ofNat n := by rw [F12.2.2.2.2.1 _ _ (fun k => by omega)]; exact hu.2.1
    have gH' : getM H' m = u.2.2.1 := by
      show (hL H' 1319 m 0, hL H' 1320 m 0) = _
      rw [F2.2.2.2.2.2.1 1319 m (fun k => by omega), F2.2.2.2.2.2.1 1320 m (fun k => by omega)]; exact gf
    obtain ⟨a1, a2, a3, a4⟩ := mA_factorUp sm
    refine T_X12_comes_141 ?_
    unfold wb_X12_comes_141
    rw [e4, iN_le (by omega) (by omega)]
    refine ⟨fun _ => ⟨sm.1, m + 3, a1, a2, by rw [a4, cH]; exact vpi_of hn (by decide), ?_⟩, fun h => by omega⟩
    rw [a3, cH, iN_cl (n := n) (by omega), getM_1 gH']
    have FA : Fr (fun g x => g = 4675 ∧ x = m + 3) H' (sL H' 4675 (m + 3) n u.2.2.1.1) := Fr_sL ⟨rfl, rfl⟩
    have vA : ∀ x, hL (sL H' 4675 (m + 3) n u.2.2.1.1) 4675 (m + 3) x = if x = n then u.2.2.1.1 else hL H' 4675 (m + 3) x := fun x => by
      rw [hLs]
      by_cases e : x = n
      · rw [if_pos ⟨rfl, rfl, e⟩, if_pos e]
      · rw [if_neg (fun k => e k.2.2), if_neg e]
    have gA : hL (sL H' 4675 (m + 3) n u.2.2.1.1) 1320 m 0 = u.2.2.1.2 := by rw [FA.2.2.2.2.2.1 _ _ (fun k => by omega)]; exact getM_2 gH'
    generalize sL H' 4675 (m + 3) n u.2.2.1.1 = A at FA vA gA ⊢
    have sA := fr_shM FA sm
    have cA : hI A 1300 m 0 = Int32.ofNat n := by rw [FA.2.2.2.2.1 _ _ (fun k => by omega)]; exact cH
    obtain ⟨b1, b2, b3, b4⟩ := mA_factorLow sA
    refine ⟨m + 4, b1, b2, by rw [b4, cA]; exact vpi_of hn (by decide), fun B hB => ?_⟩
    rw [b3, cA, iN_cl (n := n) (by omega), gA] at hB
    have FB : Fr (fun g x => g = 4691 ∧ x = m + 4) A B := hB ▸ Fr_sL ⟨rfl, rfl⟩
    have vB : ∀ x, hL B 4691 (m + 4) x = if x = n then u.2.2.1.2 else hL A 4691 (m + 4) x := fun x => by
      rw [← hB, hLs]
      by_cases e : x = n
      · rw [if_pos ⟨rfl, rfl, e⟩, if_pos e]
      · rw [if_neg (fun k => e k.2.2), if_neg e]
    clear hB
    have F0B : Fr (fun g x => (x = m ∧ (g = 1319 ∨ g = 1320 ∨ g = 1321)) ∨ (m + 1 ≤ x ∧ x ≤ m + 4)) H0 B := F12.tr ((FA.mono fun g x k => Or.inr (by omega)).tr (FB.mono fun g x k => Or.inr (by omega)))
    have sB := fr_shM FB sA
    -- with the offset in place
    have go : ∀ X : HP, X = setM B m u.2.2.2 → Fr (fun g x => (x = m ∧ (g = 1319 ∨ g = 1320 ∨ g = 1321)) ∨ (m + 1 ≤ x ∧ x ≤ m + 4)) H0 X ∧ (∀ x, x < 4 * n → hI X 4640 (m + 1) x = hI H0 4640 (m + 1) x) ∧ (∀ x, x < 5 * n → hI X 4656 (m + 2) x = hI H0 4656 (m + 2) x) ∧ (∀ x, x < n → hL X 4675 (m + 3) x = hL H0 4675 (m + 3) x) ∧ (∀ x, x < n → hL X 4691 (m + 4) x = hL H0 4691 (m + 4) x) ∧ (∀ j, j < 4 → hI X 4640 (m + 1) (4 * n + j) = if j < u.1.1 then T.2 j else 0) ∧ (∀ j, j < 5 → hI X 4656 (m + 2) (5 * n + j) = u.2.1 j) ∧ hL X 4675 (m + 3) n = u.2.2.1.1 ∧ hL X 4691 (m + 4) n = u.2.2.1.2 ∧ getM X m = u.2.2.2 := by
      intro X hX
      have FX : Fr (UpS m) B X := hX ▸ Fr_setM ⟨rfl, Or.inl rfl⟩ ⟨rfl, Or.inr (Or.inl rfl)⟩
      have gX : getM X m = u.2.2.2 := by rw [hX]; exact getM_setM
      have F2X : Fr (fun g x => (x = m ∧ (g = 1319 ∨ g = 1320 ∨ g = 1321)) ∨ (m + 3 ≤ x ∧ x ≤ m + 4)) H' X := (FA.mono fun g x k => Or.inr (by omega)).tr ((FB.mono fun g x k => Or.inr (by omega)).tr (FX.mono fun g x k => Or.inl k))
      have j1 : hI X 4640 (m + 1) = hI H' 4640 (m + 1) := F2X.2.2.2.2.1 _ _ (fun k => by omega)
      have j2 : hI X 4656 (m + 2) = hI H1 4656 (m + 2) := by rw [F2X.2.2.2.2.1 _ _ (fun k => by omega), F2.2.2.2.2.1 _ _ (fun k => by omega)]
      have j3 : hL X 4675 (m + 3) = hL A 4675 (m + 3) := by rw [FX.2.2.2.2.2.1 _ _ (fun k => by omega), FB.2.2.2.2.2.1 _ _ (fun k => by omega)]
      have j4 : hL X 4691 (m + 4) = hL B 4691 (m + 4) := FX.2.2.2.2.2.1 _ _ (fun k => by omega)
      have o3 : hL H' 4675 (m + 3) = hL H0 4675 (m + 3) := by rw [F2.2.2.2.2.2.1 _ _ (fun k => by omega), F1.2.2.2.2.2.1 _ _ (fun k => by omega)]
      have o4 : hL A 4691 (m + 4) = hL H0 4691 (m + 4) := by rw [FA.2.2.2.2.2.1 _ _ (fun k => by omega), F2.2.2.2.2.2.1 _ _ (fun k => by omega), F1.2.2.2.2.2.1 _ _ (fun k => by omega)]
      have eu1 : u.1.1 = D.1 := by rw [eu]
      refine ⟨F0B.tr (FX.mono fun g x k => Or.inl k), fun x hx => by rw [j1]; exact wl x hx, fun x hx => by rw [j2]; exact w2 x hx, fun x hx => by rw [j3, vA, if_neg (by omega), o3], fun x hx => by rw [j4, vB, if_neg (by omega), o4], fun j hj => by rw [j1, eu1]; exact vl j (by omega), fun j hj => by rw [j2]; exact v2 j hj, by rw [j3, vA, if_pos rfl], by rw [j4, vB, if_pos rfl], gX⟩
    have md' : MDf B m D := fr_MDf F0B (fun g a b k => by omega) (fun g x a b k => by omega) md
    have hof := md'.2.2.2.2
    unfold MOf at hof
    have eu1 : u.1.1 = D.1 := by rw [eu]
    have eu2 : u.1.2 = T.2 := by rw [eu]
    have fin : ∀ X : HP, X = setM B m u.2.2.2 → _ := fun X hX => by
      obtain ⟨g1, g2, g3, g4, g5, g6, g7, g8, g9, g10⟩ := go X hX
      exact comes_end (d := d) (T := T) hok hn hu g1 (fun j _ => by rw [eu2]) (by rw [eu1]; exact d2) g2 g3 g4 g5 g6 g7 g8 g9 g10 hq
    cases ho : D.2.2.2 with
    | none =>
      rw [ho] at hof
      obtain ⟨z1, z2⟩ := hof
      rw [z1, z2]
      refine ⟨fun k => absurd rfl k, fun _ => K_becomes (d := d) sB.1 (by decide) (by decide) ?_⟩
      exact fin _ (by rw [eo, ho]; rfl)
    | some s =>
      rw [ho] at hof
      obtain ⟨z1, z2, z3⟩ := hof
      obtain ⟨b1', b2'⟩ := d10 s ho
      have l0 : s.2.2 ≠ 0 := fun k => hn1 ((nul1_of ho).mpr k)
      have a1 : (Int64.ofInt (if s.1 = true then -(s.2.1 : Int) else s.2.1)).toInt = (if s.1 = true then -(s.2.1 : Int) else s.2.1) := i64_of (by split <;> omega) (by split <;> omega)
      have a2 := i64_nat (n := s.2.2) (by omega)
      rw [z1, z2, z3, sgn_mul b1', i64_iN (by omega)]
      refine ⟨fun _ => K_becomes (d := d) sB.1 (by rw [a1]; split <;> omega) (by rw [a2]; omega) ?_, fun k => absurd k (sgO_nz s)⟩
      exact fin _ (by rw [eo, ho]; rfl)
  | succ k ih =>
    intro i H' hi F2 wl vl
    have F12 : Fr (fun g x => (x = m ∧ (g = 1319 ∨ g = 1320 ∨ g = 1321)) ∨ (m + 1 ≤ x ∧ x ≤ m + 2)) H0 H' := (F1.mono fun g x k => by
      rcases k with k | k
      · exact Or.inl k
      · exact Or.inr (by omega)).tr (F2.mono fun g x k => Or.inr (by omega))
    have sm := fr_shM F12 hu.1
    have cH : hI H' 1300 m 0 = Int32.ofNat n := by rw [F12.2.2.2.2.1 _ _ (fun k => by omega)]; exact hu.2.1
    have tH : MT0 H' m T := fr_MT0 F12 (fun k => by omega) (fun k => by omega) hT
    obtain ⟨a1, a2, a3, a4⟩ := mA_name sm
    obtain ⟨t1, t2, t3, t4⟩ := mA_tape sm
    have hix : (4 : Int32) * Int32.ofNat n + Int32.ofNat i = Int32.ofNat (4 * n + i) := ix4 (by omega)
    have in80 : vp_in (Int32.ofNat (4 * n + i)) (ln H' (m + 1)) := by rw [a4]; exact vpi_of (by omega) (by decide)
    have st : ∀ v : Int32, v = (if i < D.1 then T.2 i else 0) → L_X12_comes_141 (d + 3) q m (Int32.ofNat D.1) (Int32.ofNat (i + 1)) (sI H' 4640 (m + 1) (4 * n + i) v) := fun v hv => by
      refine ih (i + 1) _ (by omega) (F2.tr (Fr_sI ⟨rfl, rfl⟩)) (fun x hx => ?_) (fun j hj => ?_)
      · rw [hIs_i, if_neg (by omega)]; exact wl x hx
      · rw [hIs_i]
        by_cases e : j = i
        · rw [if_pos (by omega), hv, e]
        · rw [if_neg (by omega)]; exact vl j (by omega)
    refine T_X12_comes_141 ?_
    unfold wb_X12_comes_141
    rw [cH, hix]
    have ge4 : ((4 : Int32) ≤ Int32.ofNat i) ↔ 4 ≤ i := by rw [e4, iN_le (by omega) (by omega)]
    rw [ge4, iN_le (by omega) (by omega), iN_inc (by omega)]
    refine ⟨fun h => by omega, fun _ => ⟨sm.1, fun hm => ⟨m + 1, a1, a2, in80, ?_⟩, fun hm => ⟨m + 15, t1, t2, by rw [t4]; exact vpi_of (by omega) (by decide), m + 1, a1, a2, in80, ?_⟩⟩⟩
    · rw [a3, iN_cl (by omega)]
      exact st 0 (by rw [if_neg (by omega)])
    · rw [a3, t3, iN_cl (n := i) (by omega), iN_cl (by omega), (tH.2.2.2 i (by omega)).1]
      exact st _ (by rw [if_pos (by omega)])
theorem comes109 {d m n : Nat} {T : TP} {q : HP → Int32 → Prop} {H0 H1 : HP} {U : Nat → UV} {D : DRes} {u : UV} (hok : ∀ i, okU (U i)) (ok : okDR T D) (hn1 : ¬ nul1 D) (hn : n < 20) (hT : MT0 H0 m T) (md : MDf H0 m D) (hu : MU H0 m n U) (F1 : Fr (UpS m) H0 H1) (eu : u.1 = (D.1, T.2)) (eo : u.2.2.2 = offN D.2.2.2) (ms : MS H1 m u.2.1) (gf : getM H1 m = u.2.2.1)
    (hq : ∀ H', Fr (CoS m) H0 H' → MU H' m (n + 1) (addU U n u) → q H' (Int32.ofNat n)) : ∀ (k i : Nat) (H' : HP), k + i = 5 → Fr (fun g x => g = 4656 ∧ x = m + 2) H1 H' → (∀ x, x < 5 * n → hI H' 4656 (m + 2) x = hI H0 4656 (m + 2) x) → (∀ j, j < i → hI H' 4656 (m + 2) (5 * n + j) = u.2.1 j) → L_X12_comes_109 (d + 3) q m (Int32.ofNat D.1) (Int32.ofNat i) H' := by
  have e5 : (5 : Int32) = Int32.ofNat 5 := rfl
  intro k
  induction k with
  | zero =>
    intro i H' hi F2 wl vl
    refine T_X12_comes_109 ?_
    unfold wb_X12_comes_109
    rw [e5, iN_le (by omega) (by omega)]
    refine ⟨fun _ => ?_, fun h => by omega⟩
    have F12 : Fr (fun g x => (x = m ∧ (g = 1319 ∨ g = 1320 ∨ g = 1321)) ∨ (m + 2 ≤ x ∧ x ≤ m + 2)) H0 H' := (F1.mono fun g x k => Or.inl k).tr (F2.mono fun g x k => Or.inr (by omega))
    have gH' : getM H' m = u.2.2.1 := by
      show (hL H' 1319 m 0, hL H' 1320 m 0) = _
      rw [F2.2.2.2.2.2.1 1319 m (fun k => by omega), F2.2.2.2.2.2.1 1320 m (fun k => by omega)]; exact gf
    exact comes141 (d := d) hok ok hn1 hn hT md hu F12 wl eu eo (fun j hj => vl j (by omega)) gH' hq 4 0 H' rfl Fr.rf (fun x hx => by rw [F12.2.2.2.2.1 4640 (m + 1) (fun k => by omega)]) (fun j hj => by cases hj)
  | succ k ih =>
    intro i H' hi F2 wl vl
    have F12 : Fr (fun g x => (x = m ∧ (g = 1319 ∨ g = 1320 ∨ g = 1321)) ∨ (m + 2 ≤ x ∧ x ≤ m + 2)) H0 H' := (F1.mono fun g x k => Or.inl k).tr (F2.mono fun g x k => Or.inr (by omega))
    have sm := fr_shM F12 hu.1
    have cH : hI H' 1300 m 0 = Int32.ofNat n := by rw [F12.2.2.2.2.1 _ _ (fun k => by omega)]; exact hu.2.1
    obtain ⟨a1, a2, a3, a4⟩ := mA_power sm
    obtain ⟨s1, s2, s3, s4⟩ := mA_sum sm
    have hix : (5 : Int32) * Int32.ofNat n + Int32.ofNat i = Int32.ofNat (5 * n + i) := ix5 (by omega)
    have es : hI H' 4944 (m + 20) i = u.2.1 i := by rw [F2.2.2.2.2.1 4944 (m + 20) (fun k => by omega)]; exact ms i (by omega)
    refine T_X12_comes_109 ?_
    unfold wb_X12_comes_109
    rw [cH, hix]
    have ge5 : ((5 : Int32) ≤ Int32.ofNat i) ↔ 5 ≤ i := by rw [e5, iN_le (by omega) (by omega)]
    rw [ge5, iN_inc (by omega)]
    refine ⟨fun h => by omega, fun _ => ⟨sm.1, m + 20, s1, s2, by rw [s4]; exact vpi_of (by omega) (by decide), m + 2, a1, a2, by rw [a4]; exact vpi_of (by omega) (by decide), ?_⟩⟩
    rw [a3, s3, iN_cl (n := i) (by omega), iN_cl (by omega), es]
    refine ih (i + 1) _ (by omega) (F2.tr (Fr_sI ⟨rfl, rfl⟩)) (fun x hx => ?_) (fun j hj => ?_)
    · rw [hIs_i, if_neg (by omega)]; exact wl x hx
    · rw [hIs_i]
      by_cases e : j = i
      · rw [if_pos (by omega), e]
      · rw [if_neg (by omega)]; exact vl j (by omega)
theorem K_comes {d m n : Nat} {T : TP} {q : HP → Int32 → Prop} {H : HP} {U : Nat → UV} {D : DRes} {J : Nat → Nat} (r : MRdy H m n T U D J) (hok : ∀ i, okU (U i)) (ok : okDR T D) (hn0 : ¬ nul0 D) (hn1 : ¬ nul1 D)
    (h1 : ∀ u, defT T n (fun i => U (J i)) D = .inr u → ∀ H', Fr (CoS m) H H' → MU H' m (n + 1) (addU U n u) → q H' (Int32.ofNat n))
    (h0 : ∀ w, defT T n (fun i => U (J i)) D = .inl w → ∀ H', Fr (CoS m) H H' → MU H' m n U → q H' w) : CI (d + 7) 0 0 mX12_comes [rv (some m), .int (Int32.ofNat D.1)] H q := by
  obtain ⟨d1, d2, d3, d4, d5, d6, d7, d8, d9, d10⟩ := id ok
  have hn20 := r.2.2.1.2.2.1
  have e5 : (5 : Int32) = Int32.ofNat 5 := rfl
  have e20 : (20 : Int32) = Int32.ofNat 20 := rfl
  have e9 : (9 : Int32) = Int32.ofNat 9 := rfl
  have SuC : ∀ g x, SumS m g x → CoS m g x := fun g x k => Or.inr (Or.inr k)
  have frR : ∀ {H'}, Fr (SumS m) H H' → MRdy H' m n T U D J := fun F => fr_MRdy F (fun g k1 k => by omega) (fun g x k1 k => by omega) r
  unfold defT at h1 h0
  -- the rows added up
  have loop : ∀ (k i : Nat) (H' : HP), k + i = D.2.2.1.1 → Fr (SumS m) H H' → MS H' m (fun j => dimA (fun i => U (J i)) D.2.2.1.2 i j) → L_X12_comes_22 (d + 6) q m (Int32.ofNat D.1) (Int32.ofNat i) H' := by
    intro k
    induction k with
    | zero =>
      intro i H' hi F ms
      obtain ⟨t', md, hu, hJ⟩ := frR F
      have sm := hu.1
      refine T_X12_comes_22 ?_
      unfold wb_X12_comes_22
      rw [md.2.2.1, iN_le (by omega) (by omega)]
      have e : i = D.2.2.1.1 := by omega
      subst e
      have bd : ∀ j, j < 5 → (dimA (fun i => U (J i)) D.2.2.1.2 D.2.2.1.1 j).toInt ≠ -2147483648 := fun j hj => by
        have := dimA_bd (u := fun i => U (J i)) (R := D.2.2.1.2) (fun i => hok _) D.2.2.1.1 j (by omega) (fun i hi => (d9 i hi).2.2.2.2) hj
        omega
      refine ⟨sm.1, fun _ => ?_, fun h => by omega⟩
      rw [e9]
      refine K_isWide (d := d + 4) sm ms bd (by decide) ⟨fun hw => ⟨sm.1, ?_⟩, fun hw => ?_⟩
      · rw [if_neg (by rw [hw]; decide)] at h1 h0
        refine K_factors (d := d + 1) (frR F) hok ok hn0 (fun f of hf X FX gX zX => ?_) (fun hf X FX zX => ?_)
        · rw [hf] at h1 h0
          simp only at h1 h0
          have uX : MU X m n U := fr_MU FX (fun k => by omega) (fun g x k1 k2 k => by omega) hu
          have FHX : Fr (CoS m) H X := (F.mono SuC).tr (FX.mono fun g x k => Or.inl ⟨k.1, by omega⟩)
          rw [zX, uX.2.1, e20, iN_eq (by omega) (by omega)]
          refine ⟨uX.1.1, fun _ => ⟨fun hn => ?_, fun hn => ?_⟩, fun k => absurd rfl k⟩
          · rw [if_neg hn] at h1
            exact comes109 (d := d + 3) (H0 := H') (H1 := X) (u := madeU T (fun i => U (J i)) D f) hok ok hn1 (by omega) t' md hu FX rfl rfl (fr_MS FX (fun k => by omega) ms) gX (fun Y FY uY => h1 _ rfl Y ((F.mono SuC).tr FY) uY) 5 0 X rfl Fr.rf (fun x hx => by rw [FX.2.2.2.2.1 4656 (m + 2) (fun k => by omega)]) (fun j hj => by cases hj)
          · rw [if_pos hn] at h0
            exact h0 _ rfl X FHX uX
        · rw [hf] at h0
          have uX : MU X m n U := fr_MU FX (fun k => by omega) (fun g x k1 k2 k => by omega) hu
          have FHX : Fr (CoS m) H X := (F.mono SuC).tr (FX.mono fun g x k => Or.inl ⟨k.1, by omega⟩)
          rw [zX]
          exact ⟨uX.1.1, fun k => absurd k (by decide), fun _ => h0 _ rfl X FHX uX⟩
      · have hw : wide 5 (fun j => dimA (fun i => U (J i)) D.2.2.1.2 D.2.2.1.1 j) 9 = true := hw
        rw [if_pos hw] at h0
        exact h0 _ rfl H' (F.mono SuC) hu
    | succ k ih =>
      intro i H' hi F ms
      obtain ⟨t', md, hu, hJ⟩ := frR F
      have sm := hu.1
      obtain ⟨a1, a2, a3, a4⟩ := mA_powerAt sm
      obtain ⟨l1, l2, l3, l4⟩ := mA_powerLong sm
      obtain ⟨f1, f2, f3, f4⟩ := mA_powerFigure sm
      obtain ⟨s1, s2, s3, s4⟩ := mA_powerSign sm
      obtain ⟨r1, r2, r3, r4⟩ := md.2.2.2.1 i (by omega)
      obtain ⟨o1, o2, o3, o4, o5⟩ := d9 i (by omega)
      obtain ⟨hJn, hw⟩ := hJ i (by omega)
      have in60 : vp_in (Int32.ofNat i) 60 := vpi_of (by omega) (by decide)
      refine T_X12_comes_22 ?_
      unfold wb_X12_comes_22
      rw [md.2.2.1, iN_le (by omega) (by omega)]
      refine ⟨sm.1, fun h => by omega, fun _ => ⟨m + 16, a1, a2, by rw [a4]; exact in60, m + 17, l1, l2, by rw [l4]; exact in60, ?_⟩⟩
      rw [a3, l3, iN_cl (by omega), r1, r2, iN_inc (by omega)]
      refine K_whose0 (d := d + 4) t' hu (fun i _ => hok i) o3 o1 ?_
      rw [wF_who hn20 hw]
      refine ⟨sm.1, m + 19, s1, s2, by rw [s4]; exact in60, m + 18, f1, f2, by rw [f4]; exact in60, ?_⟩
      rw [s3, f3, r3, r4]
      refine K_sums (d := d + 5) sm (by omega) (hu.2.2.2 (J i) hJn) ms fun X FX mX => ?_
      refine ih (i + 1) X (by omega) (F.tr FX) fun j hj => ?_
      rw [mX j hj]
      show dimA (fun i => U (J i)) D.2.2.1.2 i j + sgB (D.2.2.1.2 i).2.2.2 * Int32.ofNat (D.2.2.1.2 i).2.2.1 * (U (J i)).2.1 j = dimA (fun i => U (J i)) D.2.2.1.2 i j + (if (D.2.2.1.2 i).2.2.2 = true then -((U (J i)).2.1 j * Int32.ofNat (D.2.2.1.2 i).2.2.1) else (U (J i)).2.1 j * Int32.ofNat (D.2.2.1.2 i).2.2.1)
      rw [sum_term]
  have clr : ∀ (k i : Nat) (H' : HP), k + i = 5 → Fr (SumS m) H H' → (∀ j, j < i → hI H' 4944 (m + 20) j = 0) → L_X12_comes_2 (d + 6) q m (Int32.ofNat D.1) (Int32.ofNat i) H' := by
    intro k
    induction k with
    | zero =>
      intro i H' hi F vz
      refine T_X12_comes_2 ?_
      unfold wb_X12_comes_2
      rw [e5, iN_le (by omega) (by omega)]
      exact ⟨fun _ => loop D.2.2.1.1 0 H' rfl F (fun j hj => vz j (by omega)), fun h => by omega⟩
    | succ k ih =>
      intro i H' hi F vz
      have sm := (frR F).2.2.1.1
      obtain ⟨s1, s2, s3, s4⟩ := mA_sum sm
      refine T_X12_comes_2 ?_
      unfold wb_X12_comes_2
      rw [e5, iN_le (by omega) (by omega), iN_inc (by omega)]
      refine ⟨fun h => by omega, fun _ => ⟨sm.1, m + 20, s1, s2, by rw [s4]; exact vpi_of (by omega) (by decide), ?_⟩⟩
      rw [s3, iN_cl (by omega)]
      refine ih (i + 1) _ (by omega) (F.tr (Fr_sI ⟨rfl, rfl⟩)) fun j hj => ?_
      rw [hIs_i]
      by_cases e : j = i
      · rw [if_pos e]
      · rw [if_neg e]; exact vz j (by omega)
  refine C_X12_comes ?_
  unfold wb_X12_comes_0
  exact clr 5 0 H rfl Fr.rf (fun j hj => by cases hj)
abbrev DrS (m : Nat) : Nat → Nat → Prop := fun g x => DmS m g x ∨ CoS m g x ∨ (g = 1323 ∧ x = m)
theorem K_mdefine {d m n : Nat} {T : TP} {q : HP → Int32 → Prop} {H : HP} {U : Nat → UV} (hT : MT0 H m T) (hu : MU H m n U) (hok : ∀ i, okU (U i)) (hq : ∀ H', Fr (DrS m) H H' → MT0 H' m (0, T.2) → MU H' m (defN T n U).1 (defN T n U).2 → q H' (defI T n U)) : CI (d + 8) 0 0 mX12_define [rv (some m)] H q := by
  have hT60 := hT.2.2.1
  have hn20 := hu.2.2.1
  unfold defI defN at hq
  refine C_X12_define ?_
  unfold wb_X12_define_0
  have FA : Fr (AtS m) H (atM H m 0 (-1)) := Fr_atM
  have mA : MT (atM H m 0 (-1)) m T 0 (-1) := MT0_at hT
  have eA : sI (sI H 1324 m 0 (0 : Int32)) 1325 m 0 (-1 : Int32) = atM H m 0 (-1) := rfl
  rw [eA]
  refine ⟨hu.1.1, ?_⟩
  generalize atM H m 0 (-1) = A at FA mA ⊢
  have uA : MU A m n U := fr_MU FA (fun k => by omega) (fun g x k1 k2 k => by omega) hu
  have FAD : Fr (DrS m) H A := FA.mono fun g x k => Or.inl (Or.inl ⟨by omega, k.2⟩)
  -- the tape cleared at the end
  have clr : ∀ (X : HP), Fr (DrS m) H X → Fr (DrS m) H (sI X 1323 m 0 (0 : Int32)) ∧ MT0 (sI X 1323 m 0 (0 : Int32)) m (0, T.2) ∧ (∀ n' U', MU X m n' U' → MU (sI X 1323 m 0 (0 : Int32)) m n' U') := fun X FX => by
    have F : Fr (fun g x => g = 1323 ∧ x = m) X (sI X 1323 m 0 (0 : Int32)) := Fr_sI ⟨rfl, rfl⟩
    refine ⟨FX.tr (F.mono fun g x k => Or.inr (Or.inr k)), ⟨fr_shM F (fr_shM FX hu.1), by rw [hIs_i, if_pos rfl]; rfl, Nat.zero_le _, fun i hi => (by cases hi)⟩, fun n' U' h => fr_MU F (fun k => by omega) (fun g x k1 k2 k => by omega) h⟩
  refine K_defined (d := d + 1) mA (fun D hD B p' FB mB md => ?_) (fun f rr hf hfle B p' FB mB => ?_)
  · rw [hD] at hq
    simp only at hq
    have ok := dDef_ok hT60 hD
    have FHB : Fr (DrS m) H B := FAD.tr (FB.mono fun g x k => Or.inl k)
    have uB : MU B m n U := fr_MU FB (fun k => by omega) (fun g x k1 k2 k => by omega) uA
    have tB : MT0 B m T := MT0_of mB
    refine ⟨uB.1.1, fun _ => ?_, fun k => ?_⟩
    · refine K_wrongWith (d := d + 4) tB md ok uB hok ?_
      unfold defA at hq
      refine ⟨fun hw => ⟨uB.1.1, ?_⟩, fun hw => ⟨uB.1.1, ?_⟩⟩
      · rw [if_pos hw] at hq
        obtain ⟨c1, c2, c3⟩ := clr B FHB
        exact hq _ c1 c2 (c3 _ _ uB)
      · rw [if_neg (fun k => k hw)] at hq
        have hW : defW T n U D = 0 := Classical.byContradiction fun k => by
          unfold defV at hw
          rw [if_pos k] at hw
          exact k hw
        have nn0 : ¬ nul0 D := fun k => by
          unfold defW at hW
          rw [if_pos k] at hW
          exact absurd hW (by decide)
        have hr0 : dRef (wF T n U) U D.2.2.1.2 D.2.2.1.1 0 = 0 := Classical.byContradiction fun k => by
          unfold defW at hW
          rw [if_neg nn0, if_pos k] at hW
          exact k hW
        have nn1 : ¬ nul1 D := fun k => by
          unfold defW at hW
          rw [if_neg nn0, if_neg (fun k => k hr0), if_pos k] at hW
          exact absurd hW (by decide)
        have r : MRdy B m n T U D (fun i => (wF T n U (D.2.2.1.2 i).1 (D.2.2.1.2 i).2.1).getD 0) := by
          refine ⟨tB, md, uB, fun i hi => ?_⟩
          have hs := (dRef_0 _ _ hr0 i (Nat.zero_le _) (by omega)).1
          show (wF T n U (D.2.2.1.2 i).1 (D.2.2.1.2 i).2.1).getD 0 < n ∧ wF T n U (D.2.2.1.2 i).1 (D.2.2.1.2 i).2.1 = some ((wF T n U (D.2.2.1.2 i).1 (D.2.2.1.2 i).2.1).getD 0)
          rcases wF_cases (T := T) (U := U) (fr := (D.2.2.1.2 i).1) (many := (D.2.2.1.2 i).2.1) hn20 with ⟨v1, v2⟩ | ⟨j, j1, v1, v2⟩
          · rw [v1] at hs; cases hs
          · rw [v1]; exact ⟨j1, rfl⟩
        refine K_comes (d := d) r hok ok nn0 nn1 (fun u hu' X FX uX => ?_) (fun w hw' X FX uX => ?_)
        · have hu2 : defT T n (uD (wF T n U) U D.2.2.1.2) D = .inr u := hu'
          rw [hu2] at hq
          obtain ⟨c1, c2, c3⟩ := clr X (FHB.tr (FX.mono fun g x k => Or.inr (Or.inl k)))
          exact ⟨uX.1.1, hq _ c1 c2 (c3 _ _ uX)⟩
        · have hu2 : defT T n (uD (wF T n U) U D.2.2.1.2) D = .inl w := hw'
          rw [hu2] at hq
          obtain ⟨c1, c2, c3⟩ := clr X (FHB.tr (FX.mono fun g x k => Or.inr (Or.inl k)))
          exact ⟨uX.1.1, hq _ c1 c2 (c3 _ _ uX)⟩
    · rw [mB.2.2.2.2.2.1] at k; exact absurd (by decide) k
  · rw [hf] at hq
    have FHB : Fr (DrS m) H B := FAD.tr (FB.mono fun g x k => Or.inl k)
    have uB : MU B m n U := fr_MU FB (fun k => by omega) (fun g x k1 k2 k => by omega) uA
    have hfi := iN_toInt (n := f) (by omega)
    have e100 : (-100 : Int32).toInt = -100 := rfl
    have hne : ¬ (-100 : Int32) - Int32.ofNat f = 0 := fun k => by
      have := congrArg Int32.toInt k
      rw [i32_subx (by rw [e100, hfi]; omega) (by rw [e100, hfi]; omega), e100, hfi, i32_0] at this
      omega
    rw [mB.2.2.2.2.2.1, i32_lt, hfi, i32_0]
    refine ⟨uB.1.1, fun k => by omega, fun _ => ⟨fun _ => ?_, fun k => absurd k hne⟩⟩
    obtain ⟨c1, c2, c3⟩ := clr B FHB
    exact hq _ c1 c2 (c3 _ _ uB)
