
/-! ===== the reference made ===== -/
theorem Ext_Fr {S : Nat → Nat → Prop} {P : Nat → Prop} {H H' : HP} (F : Fr S H H') (h : ∀ g x, S g x → P x) : Ext P H H' := by
  obtain ⟨f1, f2, f3, f4, f5, f6, f7, f8, f9⟩ := F
  refine ⟨by rw [f3]; exact Nat.le_refl _, f4, fun a _ => by rw [f1], fun g a _ k => f5 g a (fun s => k (h g a s)), fun g a _ k => f6 g a (fun s => k (h g a s)), fun g a _ k => f7 g a (fun s => k (h g a s)), fun g a _ k => f8 g a (fun s => k (h g a s)), fun g a _ k => f9 g a (fun s => k (h g a s)), fun g a _ _ => by rw [f2]⟩
theorem mi388_loop {d m : Nat} {q : HP → Prop} {H0 : HP} (hq : ∀ H', Fr (OneS 5120 (m + 31)) H0 H' → (∀ j, j < 4 → hI H' 5120 (m + 31) j = -1) → L_X12_init_408 d 0 0 q m 0 H') : ∀ (r i : Nat) (H : HP), r + i = 4 → shM H m → Fr (OneS 5120 (m + 31)) H0 H → (∀ j, j < i → hI H 5120 (m + 31) j = -1) → L_X12_init_388 d 0 0 q m (Int32.ofNat i) H := by
  have e4 : (4 : Int32) = Int32.ofNat 4 := rfl
  intro r
  induction r with
  | zero =>
    intro i H e sm F h
    refine T_X12_init_388 ?_
    unfold wb_X12_init_388
    rw [e4, iN_le (by omega) (by omega)]
    exact ⟨fun _ => hq H F (fun j hj => h j (by omega)), fun k => by omega⟩
  | succ r ih =>
    intro i H e sm F h
    refine T_X12_init_388 ?_
    unfold wb_X12_init_388
    obtain ⟨x1, x2, x3, x4⟩ := mA_sort sm
    rw [e4, iN_le (by omega) (by omega)]
    refine ⟨fun k => by omega, fun _ => ⟨sm.1, m + 31, x1, x2, by rw [x4]; exact vpi_of (by omega) (by decide), ?_⟩⟩
    rw [x3, iN_cl (by omega), iN_inc (by omega)]
    have F1 : Fr (OneS 5120 (m + 31)) H (sI H 5120 (m + 31) i (-1)) := Fr_sI ⟨rfl, rfl⟩
    refine ih (i + 1) _ (by omega) (fr_shM F1 sm) (F.tr F1) (fun j hj => ?_)
    rw [hIs_i]
    by_cases ej : j = i
    · rw [if_pos ej]
    · rw [if_neg ej]; exact h j (by omega)
theorem mi408_loop {d m : Nat} {q : HP → Prop} {H0 : HP} (hq : ∀ H', Fr (OneS 5184 (m + 35)) H0 H' → (∀ j, j < 18 → hI H' 5184 (m + 35) j = -1) → q H') : ∀ (r i : Nat) (H : HP), r + i = 18 → shM H m → Fr (OneS 5184 (m + 35)) H0 H → (∀ j, j < i → hI H 5184 (m + 35) j = -1) → L_X12_init_408 d 0 0 q m (Int32.ofNat i) H := by
  have e4 : (18 : Int32) = Int32.ofNat 18 := rfl
  intro r
  induction r with
  | zero =>
    intro i H e sm F h
    refine T_X12_init_408 ?_
    unfold wb_X12_init_408
    rw [e4, iN_le (by omega) (by omega)]
    exact ⟨fun _ => hq H F (fun j hj => h j (by omega)), fun k => by omega⟩
  | succ r ih =>
    intro i H e sm F h
    refine T_X12_init_408 ?_
    unfold wb_X12_init_408
    obtain ⟨x1, x2, x3, x4⟩ := mA_rackKind sm
    rw [e4, iN_le (by omega) (by omega)]
    refine ⟨fun k => by omega, fun _ => ⟨sm.1, m + 35, x1, x2, by rw [x4]; exact vpi_of (by omega) (by decide), ?_⟩⟩
    rw [x3, iN_cl (by omega), iN_inc (by omega)]
    have F1 : Fr (OneS 5184 (m + 35)) H (sI H 5184 (m + 35) i (-1)) := Fr_sI ⟨rfl, rfl⟩
    refine ih (i + 1) _ (by omega) (fr_shM F1 sm) (F.tr F1) (fun j hj => ?_)
    rw [hIs_i]
    by_cases ej : j = i
    · rw [if_pos ej]
    · rw [if_neg ej]; exact h j (by omega)
theorem mi294 {d m : Nat} {q : HP → Prop} {H0 : HP} (sm : shM H0 m) (b0 : B294 H0 m 0) (hq : ∀ H', Fr (M16 m) H0 H' → B294 H' m 5 → L_X12_init_388 d 0 0 q m 0 H') : L_X12_init_294 d 0 0 q m 0 H0 := by
  have st : ∀ i, i < 5 → ∀ H, Fr (M16 m) H0 H → B294 H m i → shM (bsH H m i (lett i)) m ∧ Fr (M16 m) H0 (bsH H m i (lett i)) ∧ B294 (bsH H m i (lett i)) m (i + 1) := fun i hi H F b => ⟨fr_shM (F.tr Fr_bs) sm, F.tr Fr_bs, B294_s hi b⟩
  have i0 : (0 : Int32) = Int32.ofNat 0 := rfl
  refine T_X12_init_294 ?_
  unfold wb_X12_init_294
  refine ⟨fun k => absurd k (by decide), fun _ => ⟨sm.1, fun k => absurd rfl k, fun _ => bs_body (i := 0) (c := 109) sm (by omega) ?_⟩⟩
  obtain ⟨s1, F1, b1⟩ := st 0 (by omega) H0 Fr.rf b0
  have s1' : shM (bsH H0 m 0 109) m := s1
  have F1' : Fr (M16 m) H0 (bsH H0 m 0 109) := F1
  have b1' : B294 (bsH H0 m 0 109) m 1 := b1
  clear s1 F1 b1
  generalize bsH H0 m 0 109 = H1 at *
  refine T_X12_init_294 ?_
  unfold wb_X12_init_294
  refine ⟨fun k => absurd k (by decide), fun _ => ⟨s1'.1, fun _ => ⟨fun k => absurd rfl k, fun _ => bs_body (i := 1) (c := 103) s1' (by omega) ?_⟩, fun k => absurd k (by decide)⟩⟩
  obtain ⟨s2, F2, b2⟩ := st 1 (by omega) H1 F1' b1'
  have s2' : shM (bsH H1 m 1 103) m := s2
  have F2' : Fr (M16 m) H0 (bsH H1 m 1 103) := F2
  have b2' : B294 (bsH H1 m 1 103) m 2 := b2
  clear s2 F2 b2
  generalize bsH H1 m 1 103 = H2 at *
  refine T_X12_init_294 ?_
  unfold wb_X12_init_294
  refine ⟨fun k => absurd k (by decide), fun _ => ⟨s2'.1, fun _ => ⟨fun _ => ⟨fun k => absurd rfl k, fun _ => bs_body (i := 2) (c := 115) s2' (by omega) ?_⟩, fun k => absurd k (by decide)⟩, fun k => absurd k (by decide)⟩⟩
  obtain ⟨s3, F3, b3⟩ := st 2 (by omega) H2 F2' b2'
  have s3' : shM (bsH H2 m 2 115) m := s3
  have F3' : Fr (M16 m) H0 (bsH H2 m 2 115) := F3
  have b3' : B294 (bsH H2 m 2 115) m 3 := b3
  clear s3 F3 b3
  generalize bsH H2 m 2 115 = H3 at *
  refine T_X12_init_294 ?_
  unfold wb_X12_init_294
  refine ⟨fun k => absurd k (by decide), fun _ => ⟨s3'.1, fun _ => ⟨fun _ => ⟨fun _ => ⟨fun k => absurd rfl k, fun _ => bs_body (i := 3) (c := 107) s3' (by omega) ?_⟩, fun k => absurd k (by decide)⟩, fun k => absurd k (by decide)⟩, fun k => absurd k (by decide)⟩⟩
  obtain ⟨s4, F4, b4⟩ := st 3 (by omega) H3 F3' b3'
  have s4' : shM (bsH H3 m 3 107) m := s4
  have F4' : Fr (M16 m) H0 (bsH H3 m 3 107) := F4
  have b4' : B294 (bsH H3 m 3 107) m 4 := b4
  clear s4 F4 b4
  generalize bsH H3 m 3 107 = H4 at *
  refine T_X12_init_294 ?_
  unfold wb_X12_init_294
  refine ⟨fun k => absurd k (by decide), fun _ => ⟨s4'.1, fun _ => ⟨fun _ => ⟨fun _ => ⟨fun _ => bs_body (i := 4) (c := 97) s4' (by omega) ?_, fun k => absurd k (by decide)⟩, fun k => absurd k (by decide)⟩, fun k => absurd k (by decide)⟩, fun k => absurd k (by decide)⟩⟩
  obtain ⟨s5, F5, b5⟩ := st 4 (by omega) H4 F4' b4'
  have s5' : shM (bsH H4 m 4 97) m := s5
  have F5' : Fr (M16 m) H0 (bsH H4 m 4 97) := F5
  have b5' : B294 (bsH H4 m 4 97) m 5 := b5
  refine T_X12_init_294 ?_
  unfold wb_X12_init_294
  exact ⟨fun _ => hq _ F5' b5', fun k => absurd (show (5 : Int32) ≤ Int32.ofNat (4 + 1) by decide) k⟩
def TR0 : TRs := fun _ => (-1, 0, fun _ => none, fun _ => none)
def RK0 : RKt := fun _ _ => (-1, 0)
def CL0 : CLM := (0, fun _ => 0, fun _ => 0, fun _ => 0, fun _ => 0)
theorem okTR_0 : okTR TR0 := fun _ => ⟨Or.inl rfl, Nat.zero_le _, (fun _ _ e => by cases e), (fun _ _ e => by cases e)⟩
theorem okRK_0 : okRK RK0 := fun _ _ => Or.inl rfl
theorem K_minit {d m : Nat} {q : HP → Prop} {H : HP} (ht : tg H m = 13) (hn : hN H = m + 1) (hlim : m + 40 < scrA) (hz0 : ∀ g, hI H g m 0 = 0) (hq : ∀ H', Ext (fun x => x = m) H H' → hN H' = m + 37 → MU H' m 5 baseU → MCl H' m CL0 → (∀ T : TP, T.1 = 0 → MT0 H' m T) → (∀ P, MPr H' m false P) → (∀ n U C, MKp H' m false n U C) → MTr H' m TR0 → MRk H' m RK0 → q H') : CV (d + 1) 36 1816 mX12_init [rv (some m)] H q := by
  refine C_X12_init ?_
  refine minit_rows ht hn hlim hz0 fun H1 E1 r1 v1 v0 => ?_
  have sm := shM_rows r1
  obtain ⟨n1, t1, -, z1⟩ := r1
  have zz : ∀ x, m < x → x < m + 37 → ∀ g i, hI H1 g x i = 0 ∧ hL H1 g x i = 0 := fun x h1 h2 => z1 x h1 (by omega)
  refine mi294 sm ⟨fun x => ?_, fun x => ?_, fun x => ?_, fun x => ?_, fun x => ?_, fun x => ?_⟩ fun H2 F2 b2 => ?_
  · rw [(zz (m + 1) (by omega) (by omega) _ _).1, if_neg (fun k => by omega)]
  · rw [(zz (m + 2) (by omega) (by omega) _ _).1, if_neg (fun k => by omega)]
  · rw [(zz (m + 3) (by omega) (by omega) _ _).2, if_neg (by omega)]
  · rw [(zz (m + 4) (by omega) (by omega) _ _).2, if_neg (by omega)]
  · exact (zz (m + 5) (by omega) (by omega) _ _).2
  · rw [(zz (m + 6) (by omega) (by omega) _ _).2, if_neg (by omega)]
  · have s2 := fr_shM F2 sm
    refine mi388_loop (m := m) (fun H3 F3 h3 => ?_) 4 0 H2 (by omega) s2 Fr.rf (fun j hj => by omega)
    have s3 := fr_shM F3 s2
    refine mi408_loop (m := m) (fun H4 F4 h4 => ?_) 18 0 H3 (by omega) s3 Fr.rf (fun j hj => by omega)
    have s4 := fr_shM F4 s3
    have G : Fr (fun _ x => m + 1 ≤ x ∧ x ≤ m + 36) H1 H4 := ((F2.mono (fun g x k => ⟨by omega, by omega⟩)).tr (F3.mono (fun g x k => ⟨by omega, by omega⟩))).tr (F4.mono (fun g x k => ⟨by omega, by omega⟩))
    have gm : ∀ g, hI H4 g m 0 = hI H1 g m 0 := fun g => by rw [G.2.2.2.2.1 _ _ (fun k => by omega)]
    have EE : Ext (fun x => x = m) H H4 := by
      have e2 : Ext (fun x => m + 1 ≤ x) H1 H4 := Ext_Fr G (fun g x k => k.1)
      exact E1.tr e2 (fun x hx k => by omega)
    refine hq H4 EE (by rw [G.2.2.1]; omega) ⟨s4, by rw [gm]; exact v1, by omega, fun i hi => ?_⟩ ⟨by rw [gm, v0 _ (by decide)]; rfl, fun i hi => absurd hi (Nat.not_lt_zero i)⟩ (fun T hT => ⟨s4, by rw [gm, v0 _ (by decide), hT]; rfl, by omega, fun i hi => by omega⟩) (fun P => ⟨by rw [gm, v0 _ (by decide)]; rfl, fun k => by cases k⟩) (fun n U C => ⟨by rw [gm, v0 _ (by decide)]; rfl, fun k => by cases k⟩) (fun t ht => ⟨?_, ?_, fun k => absurd (show (-1 : Int32) = 0 from k) (by decide), fun k => absurd (show (-1 : Int32) = 1 from k) (by decide)⟩) (fun r hr i hi => ⟨h4 _ (by omega), ?_⟩)
    · exact fr_MUn F4 (fun g a k1 k2 k3 => by omega) (fr_MUn F3 (fun g a k1 k2 k3 => by omega) (B294_u b2 i hi))
    · rw [F4.2.2.2.2.1 _ _ (fun k => by omega)]; exact h3 t ht
    · rw [F4.2.2.2.2.1 _ _ (fun k => by omega), F3.2.2.2.2.1 _ _ (fun k => by omega), F2.2.2.2.2.1 _ _ (fun k => by omega), (zz (m + 32) (by omega) (by omega) _ _).1]; rfl
    · rw [F4.2.2.2.2.1 _ _ (fun k => by omega), F3.2.2.2.2.1 _ _ (fun k => by omega), F2.2.2.2.2.1 _ _ (fun k => by omega), (zz (m + 36) (by omega) (by omega) _ _).1]; rfl
