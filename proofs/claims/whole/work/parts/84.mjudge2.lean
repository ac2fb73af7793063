
/-! ===== the reference: numbers and single measures judged ===== -/
theorem fr_MUn {S : Nat → Nat → Prop} {H H' : HP} {m i : Nat} {u : UV} (h : Fr S H H') (h1 : ∀ g a, m + 1 ≤ a → a ≤ m + 6 → ¬ S g a) (s : MUn H m i u) : MUn H' m i u := by
  obtain ⟨u1, u2, u3, u4, u5, u6, u7⟩ := s
  have hi := h.2.2.2.2.1
  have hl := h.2.2.2.2.2.1
  refine ⟨fun x hx => ?_, fun x k1 k2 => ?_, fun x hx => ?_, ?_, ?_, ?_, ?_⟩
  · rw [hi _ _ (h1 _ _ (by omega) (by omega))]; exact u1 x hx
  · rw [hi _ _ (h1 _ _ (by omega) (by omega))]; exact u2 x k1 k2
  · rw [hi _ _ (h1 _ _ (by omega) (by omega))]; exact u3 x hx
  · rw [hl _ _ (h1 _ _ (by omega) (by omega))]; exact u4
  · rw [hl _ _ (h1 _ _ (by omega) (by omega))]; exact u5
  · rw [hl _ _ (h1 _ _ (by omega) (by omega))]; exact u6
  · rw [hl _ _ (h1 _ _ (by omega) (by omega))]; exact u7
theorem fr_MUn0 {H H' : HP} {m i : Nat} {u : UV} (h : Fr (Mg0 m) H H') (s : MUn H m i u) : MUn H' m i u := fr_MUn h (fun g a k1 k2 k3 => by omega) s
theorem clr_0 {m g a : Nat} (k : ClrS m g a) : Mg0 m g a := by
  rcases k with k | k
  · exact Or.inl k
  · exact Or.inr ⟨Or.inl k.1, k.2⟩
theorem setM_0 {H : HP} {m : Nat} {f : FR} : Fr (Mg0 m) H (setM H m f) := Fr_setM (Or.inr ⟨Or.inr (Or.inl rfl), rfl⟩) (Or.inr ⟨Or.inr (Or.inr rfl), rfl⟩)
theorem over_0 {H : HP} {m : Nat} {x : Int32} : Fr (Mg0 m) H (sI H 1321 m 0 x) := Fr_sI (Or.inr ⟨Or.inl rfl, rfl⟩)
theorem v_th {v : Int64} {th : Nat} (hv : v.toInt = th) (ht : th < 1000000000) : redF v 1000 = thF th := by
  have e : v = Int64.ofInt th := i64_ext (by rw [hv]; exact (i64_of (by omega) (by omega)).symm)
  rw [e]; rfl
theorem K_plain {d : Nat} {q : HP → Int32 → Prop} {H : HP} {m n th : Nat} {v : Int64} (sm : shM H m) (hn : n < 64) (hs : hI H 1341 m 0 = Int32.ofNat n) (hv : v.toInt = th) (ht : th < 1000000000) (hq : ∀ H' r, MJO H m n 0 (.inr (fun _ => 0, thF th)) H' r → q H' r) : CI (d + 4) 0 0 mX12_plain [rv (some m), .long v] H q := by
  refine C_X12_plain ?_
  unfold wb_X12_plain_0
  refine ⟨sm.1, K_clears (d := d + 2) sm fun H1 F1 ms ov => ?_⟩
  have F1' : Fr (Mg0 m) H H1 := F1.mono fun g x k => clr_0 k
  have s1 := fr_shM F1 sm
  refine ⟨s1.1, K_becomes s1.1 (by omega) (by rw [e1000]; omega) ⟨s1.1, ?_⟩⟩
  rw [v_th hv ht]
  exact fin_step (d := d + 2) (k := 0) sm (F1'.tr setM_0) hn hs (fun j hj => ms j hj) getM_setM rfl hq
theorem measured_over {d : Nat} {q : HP → Int32 → Prop} {H : HP} {m : Nat} {x3 x4 x5 : Int32} (ht : tg H m = 13) (ho : hI H 1321 m 0 = 1) (hend : CI (d + 4) 0 0 mX12_ends [rv (some m), .int (-15 : Int32)] H (fun H2 r3 => q H2 r3)) : L_X12_measured_70 (d + 4) q m x3 x4 x5 H := by
  have no : ¬ (1 : Int32) = 0 := by decide
  refine T_X12_measured_70 ?_
  unfold wb_X12_measured_70
  rw [ho]
  exact ⟨fun _ => ⟨ht, fun _ => ⟨fun h => absurd h no, fun _ => hend⟩, fun h => absurd h no⟩, fun _ => ⟨ht, fun _ => ⟨fun _ => ⟨fun h => absurd h no, fun _ => hend⟩, fun h => absurd h no⟩, fun h => absurd h no⟩⟩
theorem measured_loop {d : Nat} {q : HP → Int32 → Prop} {H0 : HP} {m n iu g : Nat} {u : UV} {P : Nat → Int32} {res : JR} (sm : shM H0 m) (hn : n < 64) (hs : hI H0 1341 m 0 = Int32.ofNat n) (hi20 : iu < 20) (hu : MUn H0 m iu u) (ou : okU u) (hg : g ≤ 4) (hq : ∀ H' r, MJO H0 m n 0 res H' r → q H' r) : ∀ (k i : Nat) (f : FR) (H : HP), k + i = g → Fr (Mg0 m) H0 H → getM H m = f → okF f → MS H m P → hI H 1321 m 0 = 0 → (match powF u.2.2.1 k f with
      | none => .inl (-15)
      | some f => orR P (addF f.1 f.2 u.2.2.2.1 u.2.2.2.2)) = res → L_X12_measured_70 (d + 4) q m (Int32.ofNat iu) (Int32.ofNat g) (Int32.ofNat i) H := by
  intro k
  induction k with
  | zero =>
    intro i f H hi hF hf of ms hov hres
    have sm' := fr_shM hF sm
    have hu' := fr_MUn0 hF hu
    have hres' : orR P (addF f.1 f.2 u.2.2.2.1 u.2.2.2.2) = res := hres
    obtain ⟨a1, a2, a3, a4⟩ := mA_offsetUp sm'
    obtain ⟨b1, b2, b3, b4⟩ := mA_offsetLow sm'
    have vpu : vp_in (Int32.ofNat iu) 20 := vpi_of hi20 (by decide)
    have ef1 : hL H 1319 m 0 = f.1 := congrArg Prod.fst hf
    have ef2 : hL H 1320 m 0 = f.2 := congrArg Prod.snd hf
    refine T_X12_measured_70 ?_
    unfold wb_X12_measured_70
    rw [iN_le (by omega) (by omega), hov]
    refine ⟨fun _ => ⟨sm'.1, fun h => absurd rfl h, fun _ => K_mhasOffset (d := d + 3) sm' hi20 hu' ⟨fun c => ?_, fun c => ?_⟩⟩, fun h => by omega⟩
    · have h0 : u.2.2.2.1 = 0 := Classical.byContradiction fun k => by
        have := of_decide_eq_false c; exact this k
      have h1 : u.2.2.2.2 = 1 := i64_ext (by rw [okF_z ou.2.2.2.2.2.2 (by rw [h0]; rfl)]; rfl)
      rw [h0, h1, addF_0 of] at hres'
      rw [hov]
      exact ⟨sm'.1, fun _ => fin_step (d := d + 3) (k := 0) sm hF hn hs ms hf hres' hq, fun h => absurd rfl h⟩
    · refine ⟨sm'.1, m + 5, a1, a2, by rw [a4]; exact vpu, m + 6, b1, b2, by rw [b4]; exact vpu, ?_⟩
      rw [a3, b3, iN_cl (by omega), hu'.2.2.2.2.2.1, hu'.2.2.2.2.2.2, ef1, ef2]
      refine K_plus sm'.1 hov of.1 ou.2.2.2.2.2.2.1 ou.2.2.2.2.2.2.2.1 (Or.inl rfl) (fun g' e => ?_) (fun e => ?_)
      · rw [if_pos rfl] at e
        rw [e] at hres'
        have ho : hI (setM H m g') 1321 m 0 = 0 := hov
        rw [ho]
        exact ⟨sm'.1, fun _ => fin_step (d := d + 3) (k := 0) sm (hF.tr setM_0) hn hs ms getM_setM hres' hq, fun h => absurd rfl h⟩
      · rw [if_pos rfl] at e
        rw [e] at hres'
        have ho : hI (sI H 1321 m 0 (1 : Int32)) 1321 m 0 = 1 := by rw [hIs_i, if_pos rfl]
        rw [ho]
        exact ⟨sm'.1, fun h => absurd h (by decide), fun _ => fin_ends (d := d + 3) sm (hF.tr over_0) hs hres'.symm hq⟩
  | succ k ih =>
    intro i f H hi hF hf of ms hov hres
    have sm' := fr_shM hF sm
    have hu' := fr_MUn0 hF hu
    obtain ⟨a1, a2, a3, a4⟩ := mA_factorUp sm'
    obtain ⟨b1, b2, b3, b4⟩ := mA_factorLow sm'
    have vpu : vp_in (Int32.ofNat iu) 20 := vpi_of hi20 (by decide)
    have ef1 : hL H 1319 m 0 = f.1 := congrArg Prod.fst hf
    have ef2 : hL H 1320 m 0 = f.2 := congrArg Prod.snd hf
    refine T_X12_measured_70 ?_
    unfold wb_X12_measured_70
    rw [iN_le (by omega) (by omega), hov]
    refine ⟨fun h => by omega, fun _ => ⟨sm'.1, fun h => absurd rfl h, fun _ => ⟨m + 3, a1, a2, by rw [a4]; exact vpu, m + 4, b1, b2, by rw [b4]; exact vpu, ?_⟩⟩⟩
    rw [a3, b3, iN_cl (by omega), hu'.2.2.2.1, hu'.2.2.2.2.1, ef1, ef2]
    unfold powF at hres
    have fac := ou.2.2.2.2.1
    refine K_times (d := d + 1) sm'.1 (Or.inl hov) of fac.2.1 fac.1 (fun c0 => okF_z fac c0) (fun g' e => ?_) (fun e g' => ?_)
    · rw [e] at hres
      rw [iN_inc (by omega)]
      exact ih (i + 1) g' _ (by omega) (hF.tr setM_0) getM_setM (mulF_ok of fac.2.1 fac.1 fac.2.2 e) ms hov hres
    · rw [e] at hres
      have ho : hI (setM (sI H 1321 m 0 (1 : Int32)) m g') 1321 m 0 = 1 := by
        show hI (sI H 1321 m 0 (1 : Int32)) 1321 m 0 = 1
        rw [hIs_i, if_pos rfl]
      exact measured_over sm'.1 ho (fin_ends (d := d + 3) sm (hF.tr (over_0.tr setM_0)) hs hres.symm hq)
theorem sng_comm {u : UV} {g j : Nat} : (0 : Int32) + Int32.ofNat g * u.2.1 j = sngP u g j := by
  unfold sngP
  rw [Int32.zero_add, Int32.mul_comm]
theorem K_measured {d : Nat} {q : HP → Int32 → Prop} {H : HP} {m n g th : Nat} {v : Int64} {x : Int32} {F : Option Nat} {U : Nat → UV} {nu : Nat} (hM : MU H m nu U) (hok : ∀ i, okU (U i)) (hn : n < 64) (hs : hI H 1341 m 0 = Int32.ofNat n) (hv : v.toInt = th) (ht : th < 1000000000) (hg : 1 ≤ g ∧ g ≤ 4) (hx : (F = none ∧ x = -1) ∨ ∃ j, j < nu ∧ F = some j ∧ x = Int32.ofNat j) (hq : ∀ H' r, MJO H m n 0 (match F with
      | none => .inl (-8)
      | some j => jSingle (U j) g th) H' r → q H' r) : CI (d + 5) 0 0 mX12_measured [rv (some m), .long v, .int x, .int (Int32.ofNat g)] H q := by
  obtain ⟨sm, -, hn20, hU⟩ := hM
  have e1 : (1 : Int32) = Int32.ofNat 1 := rfl
  have e0 : (0 : Int32) = Int32.ofNat 0 := rfl
  have e18 : (18 : Int32) = Int32.ofNat 18 := rfl
  refine C_X12_measured ?_
  unfold wb_X12_measured_0
  refine ⟨sm.1, K_clears (d := d + 3) sm fun H1 F1 ms ov => ?_⟩
  have F1' : Fr (Mg0 m) H H1 := F1.mono fun g x k => clr_0 k
  have s1 := fr_shM F1 sm
  rcases hx with ⟨hF, hx⟩ | ⟨j, hj, hF, hx⟩
  · subst hx; subst hF
    exact ⟨fun h => absurd h (by decide), fun _ => ⟨s1.1, fin_ends (d := d + 3) sm F1' hs rfl hq⟩⟩
  · subst hx; subst hF
    have hu1 := fr_MUn0 F1' (hU j hj)
    have ou := hok j
    have hq' : ∀ H' r, MJO H m n 0 (jSingle (U j) g th) H' r → q H' r := hq
    have rest : ∀ K, Fr (Mg0 m) H K → MS K m (fun _ => 0) → hI K 1321 m 0 = 0 → ¬ (offU (U j) = true ∧ 1 < g) → tg K m = 13 ∧ (CV (d + 4) 0 0 mX12_sums [rv (some m), .int (Int32.ofNat j), .int (Int32.ofNat g)] K (fun H3 => tg H3 m = 13 ∧ (CZ (d + 4) 0 0 mX12_isWide [rv (some m), .int (18 : Int32)] H3 (fun H5 b7 => (b7 = false → tg H5 m = 13 ∧ (CV (d + 4) 0 0 mX12_becomes [rv (some m), .long v, .long (1000 : Int64)] H5 (fun H8 => L_X12_measured_70 (d + 4) q m (Int32.ofNat j) (Int32.ofNat g) (0 : Int32) H8))) ∧ (b7 = true → tg H5 m = 13 ∧ (CI (d + 4) 0 0 mX12_ends [rv (some m), .int (-12 : Int32)] H5 (fun H10 r12 => q H10 r12))))))) := fun K FK msK ovK hno => by
      have sK := fr_shM FK sm
      have huK := fr_MUn0 FK (hU j hj)
      refine ⟨sK.1, K_sums (d := d + 3) sK (by omega) huK msK fun H3 F3 ms3 => ?_⟩
      have F3' : Fr (Mg0 m) H H3 := FK.tr (F3.mono fun g x k => Or.inl k)
      have s3 := fr_shM F3' sm
      have ms3' : MS H3 m (sngP (U j) g) := fun i hi => by rw [ms3 i hi]; exact sng_comm
      have ov3 : hI H3 1321 m 0 = 0 := by rw [F3.2.2.2.2.1 _ _ (fun k => by omega)]; exact ovK
      rw [e18]
      unfold jSingle at hq'
      rw [if_neg hno] at hq'
      refine ⟨s3.1, K_isWide (d := d + 2) s3 ms3' (fun i hi => by have := sng_in ou hg.2 i hi; omega) (by decide) ⟨fun c => ⟨s3.1, ?_⟩, fun c => ⟨s3.1, ?_⟩⟩⟩
      · refine K_becomes (d := d + 1) s3.1 (by omega) (by rw [e1000]; omega) ?_
        rw [v_th hv ht, e0]
        refine measured_loop sm hn hs (by omega) (hU j hj) ou hg.2 hq' g 0 (thF th) _ rfl (F3'.tr setM_0) getM_setM (thF_ok ht) ms3' ov3 ?_
        have c' : ¬ wide 5 (sngP (U j) g) 18 = true := by rw [c]; decide
        rw [if_neg c']
        cases powF (U j).2.2.1 g (thF th) <;> rfl
      · exact fin_ends (d := d + 3) sm F3' hs (by rw [if_pos c]) hq'
    rw [e0, iN_le (by omega) (by omega), e1, iN_le (by omega) (by omega)]
    refine ⟨fun _ => ⟨fun hg1 => ?_, fun hg1 => ⟨s1.1, K_mhasOffset (d := d + 3) s1 (by omega) hu1 ⟨fun c => ?_, fun c => ⟨s1.1, ?_⟩⟩⟩⟩, fun h => absurd (Nat.zero_le _) h⟩
    · exact rest H1 F1' ms ov (fun k => by omega)
    · exact rest H1 F1' ms ov (fun k => by rw [k.1] at c; cases c)
    · exact fin_ends (d := d + 3) sm F1' hs (by show jSingle (U j) g th = _; unfold jSingle; rw [if_pos ⟨c, by omega⟩]) hq'
