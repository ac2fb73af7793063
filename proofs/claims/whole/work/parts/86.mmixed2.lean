
/-! ===== the reference: mixed measures added up ===== -/
theorem mixed_over {d : Nat} {q : HP → Int32 → Prop} {H : HP} {m : Nat} {x2 x4 : Int64} {x6 : Int32} (ht : tg H m = 13) (ho : hI H 1321 m 0 = 1) (hend : CI (d + 4) 0 0 mX12_ends [rv (some m), .int (-15 : Int32)] H (fun H2 r3 => q H2 r3)) : L_X12_mixed_38 (d + 4) q m x2 x4 x6 H := by
  have no : ¬ (1 : Int32) = 0 := by decide
  refine T_X12_mixed_38 ?_
  unfold wb_X12_mixed_38
  rw [ho]
  exact ⟨ht, fun _ => ⟨fun h => absurd h no, fun _ => hend⟩, fun _ => ⟨fun _ => ⟨fun h => absurd h no, fun _ => hend⟩, fun h => absurd h no⟩⟩
theorem mixed_run {d : Nat} {q : HP → Int32 → Prop} {H0 : HP} {m n k nu : Nat} {F : Nat → Option Nat} {th : Nat → Nat} {U : Nat → UV} {P : Nat → Int32} {res : JR} (hM : MU H0 m nu U) (hok : ∀ i, okU (U i)) (hth : ∀ i, th i < 1000000000) (s : MMx H0 m k nu F th) (hk1 : 1 ≤ k) (ha : ∀ i, i < k → (F i).isSome = true) (hn : n < 64) (hs : hI H0 1341 m 0 = Int32.ofNat n) (hq : ∀ H' r, MJO H0 m n 0 res H' r → q H' r) : ∀ (c i : Nat) (g : FR) (x2 x4 : Int64) (H : HP), c + i = k → Fr (Mg0 m) H0 H → okF g → (i = 0 → g = (0, 1)) → (1 ≤ i → getM H m = g ∧ x2 = g.1 ∧ x4 = g.2) → MS H m P → hI H 1321 m 0 = 0 → orR P (mixF (uX F U) th c i g) = res → L_X12_mixed_38 (d + 4) q m x2 x4 (Int32.ofNat i) H := by
  obtain ⟨sm, -, hn20, hU⟩ := hM
  have hk4 := s.2.1
  have e0 : (0 : Int32) = Int32.ofNat 0 := rfl
  intro c
  induction c with
  | zero =>
    intro i g x2 x4 H hi hF og hg0 hg1 ms hov hres
    have sm' := fr_shM hF sm
    have s' := fr_MMx0 hF s
    obtain ⟨g1, g2, g3⟩ := hg1 (by omega)
    refine T_X12_mixed_38 ?_
    unfold wb_X12_mixed_38
    rw [s'.1, iN_le (by omega) (by omega), hov]
    exact ⟨sm'.1, fun _ => ⟨fun _ => fin_step (d := d + 3) (k := 0) sm hF hn hs ms g1 hres hq, fun h => absurd rfl h⟩, fun h => by omega⟩
  | succ c ih =>
    intro i g x2 x4 H hi hF og hg0 hg1 ms hov hres
    have sm' := fr_shM hF sm
    have s' := fr_MMx0 hF s
    obtain ⟨j, j1, j2, j3, j4⟩ := MMx_at s' ha (i := i) (by omega)
    have hv := (s'.2.2 i (by omega)).1
    obtain ⟨n1, n2, n3, n4⟩ := mA_number sm'
    have vp4 : vp_in (Int32.ofNat i) 4 := vpi_of (by omega) (by decide)
    have vpj : vp_in (Int32.ofNat j) 20 := vpi_of (by omega) (by decide)
    refine T_X12_mixed_38 ?_
    unfold wb_X12_mixed_38
    rw [s'.1, iN_le (by omega) (by omega), hov, iN_cl (n := i) (by omega)]
    refine ⟨sm'.1, fun h => by omega, fun _ => ⟨fun h => absurd rfl h, fun _ => ⟨m + 25, n1, n2, by rw [n4]; exact vp4, ?_⟩⟩⟩
    rw [n3]
    have ht := hth i
    refine K_becomes (d := d + 1) sm'.1 (by omega) (by rw [e1000]; omega) ?_
    rw [v_th hv ht]
    have F1 : Fr (Mg0 m) H (setM H m (thF (th i))) := setM_0
    have ov1 : hI (setM H m (thF (th i))) 1321 m 0 = 0 := hov
    have gm : getM (setM H m (thF (th i))) m = thF (th i) := getM_setM
    have ms1 : MS (setM H m (thF (th i))) m P := ms
    have k3 : hI (setM H m (thF (th i))) 5040 (m + 26) i = Int32.ofNat j := j3
    generalize setM H m (thF (th i)) = K at F1 ov1 gm ms1 k3 ⊢
    have FK : Fr (Mg0 m) H0 K := hF.tr F1
    have sK := fr_shM FK sm
    have uK := fr_MUn0 FK (hU j j1)
    obtain ⟨a1, a2, a3, a4⟩ := mA_unitOf sK
    obtain ⟨b1, b2, b3, b4⟩ := mA_factorUp sK
    obtain ⟨c1, c2, c3, c4⟩ := mA_factorLow sK
    have gm1 : hL K 1319 m 0 = (thF (th i)).1 := congrArg Prod.fst gm
    have gm2 : hL K 1320 m 0 = (thF (th i)).2 := congrArg Prod.snd gm
    refine ⟨sK.1, m + 26, a1, a2, by rw [a4]; exact vp4, m + 3, b1, b2, by rw [a3, k3, b4]; exact vpj, by rw [a4]; exact vp4, m + 4, c1, c2, by rw [a3, k3, c4]; exact vpj, ?_⟩
    rw [a3, b3, c3, k3, iN_cl (n := j) (by omega), uK.2.2.2.1, uK.2.2.2.2.1, gm1, gm2]
    have fac := (hok j).2.2.2.2.1
    have eu : uX F U i = U j := congrArg U j4
    unfold mixF at hres
    rw [eu] at hres
    refine K_times (d := d + 1) sK.1 (Or.inl ov1) (thF_ok ht) fac.2.1 fac.1 (fun c0 => okF_z fac c0) (fun t e => ?_) (fun e t => ?_)
    · rw [e] at hres
      simp only at hres
      have ot := mulF_ok (thF_ok ht) fac.2.1 fac.1 fac.2.2 e
      have F2 : Fr (Mg0 m) K (setM K m t) := setM_0
      have ov2 : hI (setM K m t) 1321 m 0 = 0 := ov1
      have g2m : getM (setM K m t) m = t := getM_setM
      have ms2 : MS (setM K m t) m P := ms1
      generalize setM K m t = K2 at F2 ov2 g2m ms2 ⊢
      have FK2 : Fr (Mg0 m) H0 K2 := FK.tr F2
      have sK2 := fr_shM FK2 sm
      have h21 : hL K2 1319 m 0 = t.1 := congrArg Prod.fst g2m
      have h22 : hL K2 1320 m 0 = t.2 := congrArg Prod.snd g2m
      rw [ov2, h21, h22, iN_inc (by omega), e0, iN_le (by omega) (by omega)]
      refine ⟨sK2.1, fun h => absurd rfl h, fun _ => ⟨fun h0 => ?_, fun h0 => ?_⟩⟩
      · have : i = 0 := by omega
        have eg := hg0 this
        rw [eg, add0_F ot] at hres
        exact ih (i + 1) t t.1 t.2 K2 (by omega) FK2 ot (fun h => by omega) (fun _ => ⟨g2m, rfl, rfl⟩) ms2 ov2 hres
      · obtain ⟨-, g2, g3⟩ := hg1 (by omega)
        rw [g2, g3]
        refine K_plus sK2.1 ov2 og.1 ot.1 ot.2.1 (Or.inl rfl) (fun w e2 => ?_) (fun e2 => ?_)
        · rw [if_pos rfl] at e2
          rw [e2] at hres
          have ew : getM (setM K2 m w) m = w := getM_setM
          have w1 : hL (setM K2 m w) 1319 m 0 = w.1 := congrArg Prod.fst ew
          have w2 : hL (setM K2 m w) 1320 m 0 = w.2 := congrArg Prod.snd ew
          rw [w1, w2]
          exact ⟨sK2.1, ih (i + 1) w w.1 w.2 _ (by omega) (FK2.tr setM_0) (addF_ok og.1 ot.1 e2) (fun h => by omega) (fun _ => ⟨ew, rfl, rfl⟩) ms2 ov2 hres⟩
        · rw [if_pos rfl] at e2
          rw [e2] at hres
          exact ⟨sK2.1, mixed_over sK2.1 (by rw [hIs_i, if_pos rfl]) (fin_ends (d := d + 3) sm (FK2.tr over_0) hs hres.symm hq)⟩
    · rw [e] at hres
      have ho : hI (setM (sI K 1321 m 0 (1 : Int32)) m t) 1321 m 0 = 1 := by
        show hI (sI K 1321 m 0 (1 : Int32)) 1321 m 0 = 1
        rw [hIs_i, if_pos rfl]
      refine ⟨sK.1, fun _ => mixed_over sK.1 ho (fin_ends (d := d + 3) sm (FK.tr (over_0.tr setM_0)) hs hres.symm hq), fun h => ?_⟩
      rw [ho] at h
      exact absurd h (by decide)
/-- what a mixed measure comes to -/
def mmR (k : Nat) (F : Nat → Option Nat) (U : Nat → UV) (th : Nat → Nat) : JR := if ∀ i, i < k → (F i).isSome = true then jMixed k (uX F U) th else .inl (-8)
theorem sng1 {u : UV} {j : Nat} (h : okU u) (hj : j < 5) : (0 : Int32) + (1 : Int32) * u.2.1 j = u.2.1 j := by
  have := h.2.2.2.1 j hj
  rw [Int32.zero_add, one_mul' (by omega)]
theorem K_mixed {d : Nat} {q : HP → Int32 → Prop} {H : HP} {m n k nu : Nat} {F : Nat → Option Nat} {th : Nat → Nat} {U : Nat → UV} (hM : MU H m nu U) (hok : ∀ i, okU (U i)) (hth : ∀ i, th i < 1000000000) (s : MMx H m k nu F th) (hk1 : 1 ≤ k) (hn : n < 64) (hs : hI H 1341 m 0 = Int32.ofNat n) (hq : ∀ H' r, MJO H m n 0 (mmR k F U th) H' r → q H' r) : CI (d + 5) 0 0 mX12_mixed [rv (some m)] H q := by
  obtain ⟨sm, hM1, hn20, hU⟩ := id hM
  refine C_X12_mixed ?_
  unfold wb_X12_mixed_0
  refine ⟨sm.1, K_wrongMixed (d := d + 1) hM hok s hk1 ⟨fun c => ⟨sm.1, K_clears (d := d + 3) sm fun H1 F1 ms ov => ?_⟩, fun c => ⟨sm.1, fin_ends (d := d + 3) sm Fr.rf hs ?_ hq⟩⟩⟩
  · have ha : ∀ i, i < k → (F i).isSome = true := Classical.byContradiction fun h => by
      unfold mmW at c
      rw [if_neg h] at c
      exact absurd c (by decide)
    have cw : mixW k (uX F U) = 0 := by
      unfold mmW at c
      rw [if_pos ha] at c; exact c
    have hr : mmR k F U th = orR (uX F U 0).2.1 (mixF (uX F U) th k 0 (0, 1)) := by
      unfold mmR jMixed
      rw [if_pos ha, if_pos cw]
    rw [hr] at hq
    have F1' : Fr (Mg0 m) H H1 := F1.mono fun g x k => clr_0 k
    have s1 := fr_shM F1 sm
    have sM1 := fr_MMx0 F1' s
    obtain ⟨j, j1, j2, j3, j4⟩ := MMx_at sM1 ha (i := 0) (by omega)
    obtain ⟨a1, a2, a3, a4⟩ := mA_unitOf s1
    have eu : uX F U 0 = U j := congrArg U j4
    have ec : (0 : Int32).toNatClampNeg = 0 := rfl
    refine ⟨s1.1, m + 26, a1, a2, by rw [a4]; exact vpi_of (n := 0) (m := 4) (by decide) (by decide), ?_⟩
    rw [a3, ec, j3]
    refine K_sums (d := d + 3) s1 (by omega) (fr_MUn0 F1' (hU j j1)) ms fun H2 F2 ms2 => ?_
    have F2' : Fr (Mg0 m) H H2 := F1'.tr (F2.mono fun g x k => Or.inl k)
    have e0 : (0 : Int32) = Int32.ofNat 0 := rfl
    rw [e0]
    rw [eu] at hq
    refine mixed_run (P := (U j).2.1) hM hok hth s hk1 ha hn hs hq k 0 (0, 1) 0 1 H2 rfl F2' okF_01 (fun _ => rfl) (fun h => by omega) (fun i hi => ?_) ?_ rfl
    · rw [ms2 i hi]; exact sng1 (hok j) hi
    · rw [F2.2.2.2.2.1 _ _ (fun k => by omega)]; exact ov
  · unfold mmR
    unfold mmW at c ⊢
    by_cases ha : ∀ i, i < k → (F i).isSome = true
    · rw [if_pos ha, if_pos ha]
      rw [if_pos ha] at c
      unfold jMixed
      rw [if_neg c]
    · rw [if_neg ha, if_neg ha]
