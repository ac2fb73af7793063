
/-! ===== the reference's verdicts, counts ===== -/
abbrev TeS (m : Nat) : Nat → Nat → Prop := fun g x => (g = 5072 ∧ x = m + 28) ∨ FrS m g x ∨ MgS m g x
theorem tells_loop {d n m : Nat} {q : HP → Prop} {H0 : HP} {C : CLM} (hok : okCl n C) (hn : n ≤ 20) (hq : ∀ H', Fr (TeS m) H0 H' → (∀ i, i < C.1 → hI H' 5072 (m + 28) i = tellF C i) → q H') : ∀ (r i : Nat) (H : HP), r + i = C.1 → (∃ N, MBI H m i C N) → Fr (TeS m) H0 H → L_X12_tells_2 (d + 4) q m (Int32.ofNat i) H := by
  have hCn := hok.1
  intro r
  induction r with
  | zero =>
    intro i H hi hs hF
    obtain ⟨N, s, r, st, sn⟩ := hs
    refine T_X12_tells_2 ?_
    unfold wb_X12_tells_2
    rw [r.1, iN_le (by omega) (by omega)]
    exact ⟨s.1, fun _ => hq H hF fun j hj => st j (by omega), fun h => by omega⟩
  | succ r ih =>
    intro i H hi hs hF
    obtain ⟨N, hs⟩ := hs
    obtain ⟨s, rw', st, sn⟩ := id hs
    obtain ⟨o1, o2, o3, p1, p2, q1, q2⟩ := hok.2 i (by omega)
    obtain ⟨r1, r2, r3, r4⟩ := rw'.2 i (by omega)
    obtain ⟨c1, c2, c3', c4⟩ := mA_claim s
    have inA : vp_in (Int32.ofNat (4 * i)) 64 := vpi_of (by omega) (by decide)
    have inB : vp_in (Int32.ofNat (4 * i + 1)) 64 := vpi_of (by omega) (by decide)
    have inC : vp_in (Int32.ofNat (4 * i + 2)) 64 := vpi_of (by omega) (by decide)
    have inD : vp_in (Int32.ofNat (4 * i + 3)) 64 := vpi_of (by omega) (by decide)
    have in16 : vp_in (Int32.ofNat i) 16 := vpi_of (by omega) (by decide)
    have eA : (4 : Int32) * Int32.ofNat i = Int32.ofNat (4 * i) := ix4a (by omega)
    obtain ⟨eB, eC, eD⟩ := ix4b (i := i) (by omega)
    have lA := iN_cl (n := 4 * i) (by omega)
    have lB := iN_cl (n := 4 * i + 1) (by omega)
    have lC := iN_cl (n := 4 * i + 2) (by omega)
    have lD := iN_cl (n := 4 * i + 3) (by omega)
    have lI := iN_cl (n := i) (by omega)
    have ep := i64_of32 (CP C i)
    have eq := i64_of32 (CQ C i)
    -- a verdict written
    have wr : ∀ (H2 : HP) (v : Int32), (∃ N, MBI H2 m i C N) → Fr (TeS m) H0 H2 → v = tellF C i → ∃ a17, (hC H2 1354 m) = some a17 ∧ (isA H2 a17 0 ∧ (vp_in (Int32.ofNat i) (ln H2 a17) ∧ (L_X12_tells_2 (d + 4) q m (Int32.ofNat i + 1) (sI H2 (tg H2 a17) a17 i v)))) := fun H2 v hs2 hF2 hv => by
      obtain ⟨N2, s2, r2, st2, sn2⟩ := hs2
      obtain ⟨t1, t2, t3, t4⟩ := mA_told s2
      refine ⟨m + 28, t1, t2, by rw [t4]; exact in16, ?_⟩
      rw [t3, iN_inc (by omega)]
      have F : Fr (fun g x => g = 5072 ∧ x = m + 28) H2 (sI H2 5072 (m + 28) i v) := Fr_sI ⟨rfl, rfl⟩
      have hi' := F.2.2.2.2.1
      refine ih (i + 1) _ (by omega) ⟨N2, fr_shM F s2, fr_MCl F (fun k => by omega) (fun k => by omega) r2, fun j hj => ?_, fun u hu => ?_⟩ (hF2.tr (F.mono fun g x k => Or.inl k))
      · rw [hIs_i]
        by_cases e : j = i
        · rw [if_pos e, hv, e]
        · rw [if_neg e]; exact st2 j (by omega)
      · rw [hi' _ _ (fun k => by omega)]; exact sn2 u hu
    refine T_X12_tells_2 ?_
    unfold wb_X12_tells_2
    have hle : ¬ Int32.ofNat C.1 ≤ Int32.ofNat i := by rw [iN_le (by omega) (by omega)]; omega
    rw [rw'.1, eA, eB, eC, eD, lA, lB, lC, lD, lI]
    refine ⟨s.1, fun h => absurd h hle, fun _ => ⟨m + 7, c1, c2, by rw [c4]; exact inA, by rw [c4]; exact inB, ?_⟩⟩
    rw [c3', r1, r2]
    refine K_areBound hok hn (by omega) (by omega) (by omega) hs fun H1 N1 b sp1 F1 hP hb hl => ?_
    have hF1 : Fr (TeS m) H0 H1 := hF.tr (F1.mono fun g x k => Or.inr (Or.inl k))
    cases b with
    | false =>
      refine ⟨fun h => (by cases h), fun _ => ⟨sp1.1.1, wr H1 0 ⟨N1, sp1⟩ hF1 ?_⟩⟩
      refine (tellF_0.mpr ?_).symm
      refine decide_eq_true fun e => ?_
      have := hl.mpr e
      cases this
    | true =>
      have hlab := hl.mp rfl
      have hjf : jnB (CX C) (CY C) i = false := decide_eq_false (fun k => k hlab)
      have hrx := hb.mp rfl
      have tE : tellF C i = match wayF C (pth (CX C) (CY C) i (CX C i) (CY C i)) (1, 1) with
        | none => -15
        | some f => if f = redF (CP C i).toInt64 (CQ C i).toInt64 then 1 else 2 := by
        unfold tellF
        rw [hjf, if_neg (by decide)]
        cases wayF C (pth (CX C) (CY C) i (CX C i) (CY C i)) (1, 1) <;> rfl
      refine ⟨fun _ => ⟨sp1.1.1, K_goes hok hn (by omega) (by omega) (by omega) hP hrx sp1 (fun H2 g hg sp2 F2 hM okg ho => ?_) (fun H2 hg sp2 F2 ho => ?_)⟩, fun h => (by cases h)⟩
      · have hF2 : Fr (TeS m) H0 H2 := hF1.tr (F2.mono fun g x k => Or.inr (Or.inr k))
        obtain ⟨c1, c2, c3', c4⟩ := mA_claim sp2.1
        obtain ⟨r1, r2, r3, r4⟩ := sp2.2.1.2 i (by omega)
        refine ⟨sp2.1.1, m + 7, c1, c2, by rw [c4]; exact inC, by rw [c4]; exact inD, ?_⟩
        rw [c3', r3, r4]
        refine K_becomes sp2.1.1 (by omega) (by omega) ?_
        have ro := redF_ok (a := (CP C i).toInt64) (b := (CQ C i).toInt64) (by omega) (by omega)
        have F3 : Fr (MgS m) H2 (setM H2 m (redF (CP C i).toInt64 (CQ C i).toInt64)) := Fr_setM ⟨rfl, Or.inl rfl⟩ ⟨rfl, Or.inr (Or.inl rfl)⟩
        have sp3 : MBI (setM H2 m (redF (CP C i).toInt64 (CQ C i).toInt64)) m i C N1 := fr_MBI F3 (fun k => by omega) (fun k => by omega) (fun k => by omega) (fun k => by omega) sp2
        have g3 : getM (setM H2 m (redF (CP C i).toInt64 (CQ C i).toInt64)) m = redF (CP C i).toInt64 (CQ C i).toInt64 := getM_setM
        have ho3 : hI (setM H2 m (redF (CP C i).toInt64 (CQ C i).toInt64)) 1321 m 0 = 0 := ho
        have hF3 := hF2.tr (F3.mono fun g x k => Or.inr (Or.inr k))
        generalize setM H2 m (redF (CP C i).toInt64 (CQ C i).toInt64) = H3 at *
        have e1 : hL H3 1319 m 0 = (redF (CP C i).toInt64 (CQ C i).toInt64).1 := congrArg Prod.fst g3
        have e2 : hL H3 1320 m 0 = (redF (CP C i).toInt64 (CQ C i).toInt64).2 := congrArg Prod.snd g3
        have f1 : hL H2 1319 m 0 = g.1 := congrArg Prod.fst hM
        have f2 : hL H2 1320 m 0 = g.2 := congrArg Prod.snd hM
        rw [hg] at tE
        simp only at tE
        rw [e1, e2, f1, f2]
        refine ⟨sp3.1.1, fun _ => ⟨fun h => wr H3 2 ⟨N1, sp3⟩ hF3 ?_, fun h => ⟨fun h2 => wr H3 2 ⟨N1, sp3⟩ hF3 ?_, fun h2 => wr H3 1 ⟨N1, sp3⟩ hF3 ?_⟩⟩, fun h => absurd ho3 h⟩
        · rw [tE, if_neg (fun k => h (by rw [k]))]
        · rw [tE, if_neg (fun k => h2 (by rw [k]))]
        · rw [tE, if_pos (Prod.ext h h2)]
      · have hF2 : Fr (TeS m) H0 H2 := hF1.tr (F2.mono fun g x k => Or.inr (Or.inr k))
        obtain ⟨c1, c2, c3', c4⟩ := mA_claim sp2.1
        obtain ⟨r1, r2, r3, r4⟩ := sp2.2.1.2 i (by omega)
        refine ⟨sp2.1.1, m + 7, c1, c2, by rw [c4]; exact inC, by rw [c4]; exact inD, ?_⟩
        rw [c3', r3, r4]
        refine K_becomes sp2.1.1 (by omega) (by omega) ?_
        have F3 : Fr (MgS m) H2 (setM H2 m (redF (CP C i).toInt64 (CQ C i).toInt64)) := Fr_setM ⟨rfl, Or.inl rfl⟩ ⟨rfl, Or.inr (Or.inl rfl)⟩
        have sp3 : MBI (setM H2 m (redF (CP C i).toInt64 (CQ C i).toInt64)) m i C N1 := fr_MBI F3 (fun k => by omega) (fun k => by omega) (fun k => by omega) (fun k => by omega) sp2
        have ho3 : hI (setM H2 m (redF (CP C i).toInt64 (CQ C i).toInt64)) 1321 m 0 = 1 := ho
        have hF3 := hF2.tr (F3.mono fun g x k => Or.inr (Or.inr k))
        generalize setM H2 m (redF (CP C i).toInt64 (CQ C i).toInt64) = H3 at *
        have n10 : ¬ (1 : Int32) = 0 := by decide
        rw [hg] at tE
        simp only at tE
        refine ⟨sp3.1.1, fun h => absurd (ho3.symm.trans h) n10, fun _ => wr H3 (-15) ⟨N1, sp3⟩ hF3 tE.symm⟩
theorem K_tells {d n m : Nat} {q : HP → Prop} {H : HP} {C : CLM} (hok : okCl n C) (hn : n ≤ 20) (s : shM H m) (r : MCl H m C) (hq : ∀ H', Fr (TeS m) H H' → (∀ i, i < C.1 → hI H' 5072 (m + 28) i = tellF C i) → q H') : CV (d + 5) 0 0 mX12_tells [rv (some m)] H q := by
  refine C_X12_tells ?_
  unfold wb_X12_tells_0
  exact tells_loop hok hn hq C.1 0 H rfl ⟨_, s, r, fun j hj => by omega, fun u _ => rfl⟩ Fr.rf
def teB (C : CLM) (v : Int32) (i : Nat) : Bool := decide (tellF C i = v)
theorem tolds_loop {d n m : Nat} {q : HP → Int32 → Prop} {H : HP} {C : CLM} {v : Int32} (hok : okCl n C) (s : shM H m) (r : MCl H m C) (ht : ∀ i, i < C.1 → hI H 5072 (m + 28) i = tellF C i) (hq : q H (Int32.ofNat (cntB (teB C v) C.1))) : ∀ (k i : Nat), k + i = C.1 → L_X12_tolds_4 d q m v (Int32.ofNat (cntB (teB C v) i)) (Int32.ofNat i) H := by
  have hCn := hok.1
  obtain ⟨t1, t2, t3, t4⟩ := mA_told s
  intro k
  induction k with
  | zero =>
    intro i hi
    refine T_X12_tolds_4 ?_
    unfold wb_X12_tolds_4
    rw [r.1, iN_le (by omega) (by omega)]
    have e : i = C.1 := by omega
    subst e
    exact ⟨s.1, fun _ => hq, fun h => by omega⟩
  | succ k ih =>
    intro i hi
    have hle := cntB_le (teB C v) i
    have nx := ih (i + 1) (by omega)
    refine T_X12_tolds_4 ?_
    unfold wb_X12_tolds_4
    rw [r.1, iN_le (by omega) (by omega)]
    refine ⟨s.1, fun h => by omega, fun _ => ⟨m + 28, t1, t2, by rw [t4]; exact vpi_of (by omega) (by decide), ?_⟩⟩
    rw [t3, iN_cl (by omega), ht i (by omega), iN_inc (by omega), Int32.add_zero, iN_inc (by omega)]
    unfold cntB at nx
    refine ⟨fun h => ?_, fun h => ?_⟩
    · rw [if_neg (show ¬ teB C v i = true from by unfold teB; simpa using h)] at nx; exact nx
    · rw [if_pos (show teB C v i = true from decide_eq_true h)] at nx; exact nx
theorem K_tolds {d n m : Nat} {q : HP → Int32 → Prop} {H : HP} {C : CLM} {v : Int32} (hok : okCl n C) (s : shM H m) (r : MCl H m C) (ht : ∀ i, i < C.1 → hI H 5072 (m + 28) i = tellF C i) (hq : q H (Int32.ofNat (cntB (teB C v) C.1))) : CI (d + 1) 0 0 mX12_tolds [rv (some m), .int v] H q := by
  refine C_X12_tolds ?_
  unfold wb_X12_tolds_0
  exact tolds_loop hok s r ht hq C.1 0 rfl
/-! what both count -/
theorem vd_te {C : CLM} (i : Nat) : (vdF C i = 1 ↔ tellF C i = 2) ∧ (vdF C i = -15 ↔ tellF C i = -15) ∧ (jnB (CX C) (CY C) i = true ↔ tellF C i = 0) ∧ (tellF C i = 0 ∨ tellF C i = 1 ∨ tellF C i = 2 ∨ tellF C i = -15) ∧ vdF C i = (if tellF C i = -15 then -15 else if tellF C i = 2 then 1 else 0) := by
  unfold vdF tellF vdW
  by_cases hj : jnB (CX C) (CY C) i = true
  · simp only [hj, if_true]; decide
  · simp only [hj, if_false]
    cases wayF C (pth (CX C) (CY C) i (CX C i) (CY C i)) (1, 1) with
    | none => simp only; decide
    | some f =>
      simp only
      by_cases e : f = redF (CP C i).toInt64 (CQ C i).toInt64
      · simp only [e, if_true]; decide
      · simp only [e, if_false]; decide
theorem cnt_ag {C : CLM} (k : Nat) : cntB (agB C) k = cntB (teB C 2) k := cntB_congr k fun j _ => by
  unfold agB teB
  exact decide_eq_decide.mpr (vd_te j).1
theorem cnt_jn {C : CLM} (k : Nat) : cntB (jnB (CX C) (CY C)) k = cntB (teB C 0) k := cntB_congr k fun j _ => by
  rw [Bool.eq_iff_iff, (vd_te j).2.2.1]
  unfold teB
  rw [decide_eq_true_iff]
theorem cnt_all {C : CLM} : ∀ k, (∀ j, j < k → ¬ tellF C j = -15) → cntB (teB C 0) k + cntB (teB C 1) k + cntB (teB C 2) k = k
  | 0, _ => rfl
  | k + 1, h => by
    have ih := cnt_all k fun j hj => h j (by omega)
    have hk := h k (by omega)
    have e4 := (vd_te (C := C) k).2.2.2.1
    unfold cntB
    have d0 : ∀ v, (teB C v k = true) ↔ tellF C k = v := fun v => by unfold teB; rw [decide_eq_true_iff]
    simp only [d0]
    rcases e4 with e | e | e | e
    · simp only [e, if_true, show ¬ (0 : Int32) = 1 by decide, show ¬ (0 : Int32) = 2 by decide, if_false]; omega
    · simp only [e, if_true, show ¬ (1 : Int32) = 0 by decide, show ¬ (1 : Int32) = 2 by decide, if_false]; omega
    · simp only [e, if_true, show ¬ (2 : Int32) = 0 by decide, show ¬ (2 : Int32) = 1 by decide, if_false]; omega
    · exact absurd e hk
theorem cnt_over {C : CLM} : ∀ k, (0 < cntB (teB C (-15)) k ↔ ∃ j, j < k ∧ vdF C j = -15)
  | 0 => ⟨fun h => (by cases h), fun ⟨j, hj, _⟩ => (by omega)⟩
  | k + 1 => by
    have ih := cnt_over (C := C) k
    have d0 : (teB C (-15) k = true) ↔ vdF C k = -15 := by unfold teB; rw [decide_eq_true_iff]; exact (vd_te k).2.1.symm
    unfold cntB
    by_cases e : vdF C k = -15
    · rw [if_pos (d0.mpr e)]
      exact ⟨fun _ => ⟨k, by omega, e⟩, fun _ => by omega⟩
    · rw [if_neg (fun h => e (d0.mp h))]
      constructor
      · intro h
        obtain ⟨j, hj, he⟩ := ih.mp (by omega)
        exact ⟨j, by omega, he⟩
      · rintro ⟨j, hj, he⟩
        have : j ≠ k := fun k' => e (by rw [← k']; exact he)
        have := ih.mpr ⟨j, by omega, he⟩
        omega
/-! put in, taken out -/
theorem K_mclaim_tail {H : HP} {m x y n : Nat} {C : CLM} {p r : Int32} (hok : okCl n C) (s : shM H m) (rw' : MCl H m C) (hl : C.1 < 16) : MCl (sI (sI (sI (sI (sI H 4736 (m + 7) (4 * C.1) (Int32.ofNat x)) 4736 (m + 7) (4 * C.1 + 1) (Int32.ofNat y)) 4736 (m + 7) (4 * C.1 + 2) p) 4736 (m + 7) (4 * C.1 + 3) r) 1307 m 0 (Int32.ofNat (C.1 + 1))) m (addC C x y p r) := by
  refine ⟨?_, fun i hi => ?_⟩
  · rw [hIs_i, if_pos rfl]; rfl
  · have hi : i < C.1 + 1 := hi
    show _ = Int32.ofNat (putC (CX C) C.1 x i) ∧ _ = Int32.ofNat (putC (CY C) C.1 y i) ∧ _ = putC (CP C) C.1 p i ∧ _ = putC (CQ C) C.1 r i
    unfold putC
    simp only [hIs, Nat.reduceEqDiff, false_and, if_false, true_and]
    by_cases e : i = C.1
    · subst e
      simp only [if_true, show ¬ 4 * C.1 = 4 * C.1 + 3 by omega, show ¬ 4 * C.1 = 4 * C.1 + 2 by omega, show ¬ 4 * C.1 = 4 * C.1 + 1 by omega, show ¬ 4 * C.1 + 1 = 4 * C.1 + 3 by omega, show ¬ 4 * C.1 + 1 = 4 * C.1 + 2 by omega, show ¬ 4 * C.1 + 2 = 4 * C.1 + 3 by omega, if_false]
      exact ⟨trivial, trivial, trivial, trivial⟩
    · have e0 : i < C.1 := by omega
      simp only [e, if_false, show ¬ 4 * i = 4 * C.1 + 3 by omega, show ¬ 4 * i = 4 * C.1 + 2 by omega, show ¬ 4 * i = 4 * C.1 + 1 by omega, show ¬ 4 * i = 4 * C.1 by omega, show ¬ 4 * i + 1 = 4 * C.1 + 3 by omega, show ¬ 4 * i + 1 = 4 * C.1 + 2 by omega, show ¬ 4 * i + 1 = 4 * C.1 + 1 by omega, show ¬ 4 * i + 1 = 4 * C.1 by omega, show ¬ 4 * i + 2 = 4 * C.1 + 3 by omega, show ¬ 4 * i + 2 = 4 * C.1 + 2 by omega, show ¬ 4 * i + 2 = 4 * C.1 + 1 by omega, show ¬ 4 * i + 2 = 4 * C.1 by omega, show ¬ 4 * i + 3 = 4 * C.1 + 3 by omega, show ¬ 4 * i + 3 = 4 * C.1 + 2 by omega, show ¬ 4 * i + 3 = 4 * C.1 + 1 by omega, show ¬ 4 * i + 3 = 4 * C.1 by omega]
      exact rw'.2 i e0
abbrev CmS (m : Nat) : Nat → Nat → Prop := fun g x => (g = 1307 ∧ x = m) ∨ (g = 4736 ∧ x = m + 7)
theorem unclaim_loop {d n g m : Nat} {q : HP → Int32 → Prop} {H0 : HP} {C : CLM} {f : Nat → Int32} (hok : okCl n C) (hg : g < C.1) (hq : ∀ H', Fr (CmS m) H0 H' → MCl H' m (delC C g) → q H' (Int32.ofNat (C.1 - 1))) (hf : ∀ i, i < C.1 → f (4 * i) = Int32.ofNat (CX C i) ∧ f (4 * i + 1) = Int32.ofNat (CY C i) ∧ f (4 * i + 2) = CP C i ∧ f (4 * i + 3) = CQ C i) : ∀ (k j : Nat) (H : HP), k + j = 4 * (C.1 - 1) → 4 * g ≤ j → shM H m → hI H 1307 m 0 = Int32.ofNat (C.1 - 1) → (∀ x, x < 4 * C.1 → hI H 4736 (m + 7) x = if 4 * g ≤ x ∧ x < j then f (x + 4) else f x) → Fr (CmS m) H0 H → L_X12_unclaim_32 d q m (Int32.ofNat j) H := by
  have hCn := hok.1
  intro k
  induction k with
  | zero =>
    intro j H hj hgj s r0 rr hF
    refine T_X12_unclaim_32 ?_
    unfold wb_X12_unclaim_32
    rw [r0, ix4a (by omega), iN_le (by omega) (by omega)]
    refine ⟨s.1, fun _ => hq H hF ⟨r0, fun i hi => ?_⟩, fun h => by omega⟩
    have hi : i < C.1 - 1 := hi
    rw [rr _ (by omega), rr _ (by omega), rr _ (by omega), rr _ (by omega)]
    show _ = Int32.ofNat (delA (CX C) g i) ∧ _ = Int32.ofNat (delA (CY C) g i) ∧ _ = delA (CP C) g i ∧ _ = delA (CQ C) g i
    unfold delA
    by_cases e : i < g
    · simp only [e, if_true, show ¬ (4 * g ≤ 4 * i ∧ 4 * i < j) by omega, show ¬ (4 * g ≤ 4 * i + 1 ∧ 4 * i + 1 < j) by omega, show ¬ (4 * g ≤ 4 * i + 2 ∧ 4 * i + 2 < j) by omega, show ¬ (4 * g ≤ 4 * i + 3 ∧ 4 * i + 3 < j) by omega, if_false]
      exact hf i (by omega)
    · have := hf (i + 1) (by omega)
      have e0 : 4 * (i + 1) = 4 * i + 4 := by omega
      rw [e0] at this
      simp only [e, if_false, show 4 * g ≤ 4 * i ∧ 4 * i < j by omega, show 4 * g ≤ 4 * i + 1 ∧ 4 * i + 1 < j by omega, show 4 * g ≤ 4 * i + 2 ∧ 4 * i + 2 < j by omega, show 4 * g ≤ 4 * i + 3 ∧ 4 * i + 3 < j by omega, and_self, if_true]
      exact this
  | succ k ih =>
    intro j H hj hgj s r0 rr hF
    obtain ⟨c1, c2, c3', c4⟩ := mA_claim s
    refine T_X12_unclaim_32 ?_
    unfold wb_X12_unclaim_32
    have e4 : Int32.ofNat j + (4 : Int32) = Int32.ofNat (j + 4) := iN_add (m := 4) (by omega)
    rw [r0, ix4a (by omega), iN_le (by omega) (by omega), e4, iN_inc (by omega)]
    refine ⟨s.1, fun h => by omega, fun _ => ⟨m + 7, c1, c2, by rw [c4]; exact vpi_of (by omega) (by decide), by rw [c4]; exact vpi_of (by omega) (by decide), ?_⟩⟩
    rw [c3', iN_cl (by omega), iN_cl (by omega)]
    have F : Fr (CmS m) H (sI H 4736 (m + 7) j (hI H 4736 (m + 7) (j + 4))) := Fr_sI (Or.inr ⟨rfl, rfl⟩)
    refine ih (j + 1) _ (by omega) (by omega) (fr_shM F s) ?_ (fun x hx => ?_) (hF.tr F)
    · rw [hIs_g _ _ _ _ _ _ (by decide)]; exact r0
    · rw [hIs_i]
      by_cases e : x = j
      · subst e
        rw [if_pos rfl, if_pos (by omega), rr _ (by omega), if_neg (by omega)]
      · rw [if_neg e, rr x hx]
        by_cases h : 4 * g ≤ x ∧ x < j
        · rw [if_pos h, if_pos (by omega)]
        · rw [if_neg h, if_neg (by omega)]
theorem K_unclaim {d n m : Nat} {q : HP → Int32 → Prop} {H : HP} {C : CLM} {x : Int32} (hok : okCl n C) (s : shM H m) (r : MCl H m C) (h1 : ∀ g : Nat, g < C.1 → x = Int32.ofNat g → ∀ H', Fr (CmS m) H H' → MCl H' m (delC C g) → q H' (Int32.ofNat (C.1 - 1))) (h0 : (x.toInt < 0 ∨ (C.1 : Int) ≤ x.toInt) → q H (-1)) : CI (d + 2) 0 0 mX12_unclaim [rv (some m), .int x] H q := by
  refine C_X12_unclaim ?_
  unfold wb_X12_unclaim_0
  have hCn := hok.1
  have es : (Int32.ofNat C.1 - (1 : Int32)).toInt = (C.1 : Int) - 1 := by
    have := iN_toInt (n := C.1) (by omega)
    rw [i32_subx] <;> rw [this, i32_1] <;> omega
  refine ⟨s.1, K_inN (n := C.1) (by omega) (by rw [r.1, i64_of32, es]) (fun g hg hx => ⟨fun _ => ⟨s.1, ?_⟩, fun h => (by cases h)⟩) (fun h => ⟨fun k => (by cases k), fun _ => h0 h⟩)⟩
  have e1 : hI H 1307 m 0 - (1 : Int32) = Int32.ofNat (C.1 - 1) := by
    rw [r.1]
    refine iN_inj (by omega) ?_
    rw [es]; omega
  rw [hx, ix4a (by omega), e1]
  have F : Fr (CmS m) H (sI H 1307 m 0 (Int32.ofNat (C.1 - 1))) := Fr_sI (Or.inl ⟨rfl, rfl⟩)
  refine unclaim_loop (f := hI H 4736 (m + 7)) hok hg (fun H' F' c' => h1 g hg hx H' F' c') r.2 (4 * (C.1 - 1) - 4 * g) (4 * g) _ (by omega) (Nat.le_refl _) (fr_shM F s) (by rw [hIs_i, if_pos rfl]) (fun x hx => ?_) F
  rw [hIs_g _ _ _ _ _ _ (by decide), if_neg (by omega)]
