
/-! ===== the class: units found, mixed measures refused ===== -/
theorem K_isShifted {d : Nat} {q : HP → Bool → Prop} {H : HP} {b : Nat} {sh en : Bool} (ht : tg H b = 7) (h1 : hI H 704 b 0 = bI sh) (h2 : hI H 703 b 0 = bI en) (hq : q H (sh && !en)) : CZ (d + 1) 0 0 mX6_isShiftedItself [rv (some b)] H q := by
  refine C_X6_isShiftedItself ?_
  unfold wb_X6_isShiftedItself_0
  rw [h1, h2]
  cases sh <;> cases en
  · exact ⟨ht, fun _ => hq, fun c => absurd rfl c⟩
  · exact ⟨ht, fun _ => hq, fun c => absurd rfl c⟩
  · exact ⟨ht, fun c => absurd c (by decide), fun _ => ⟨fun c => absurd rfl c, fun _ => hq⟩⟩
  · exact ⟨ht, fun c => absurd c (by decide), fun _ => ⟨fun _ => hq, fun c => absurd c (by decide)⟩⟩
abbrev FoS (a : Nat) : Nat → Nat → Prop := fun g x => g = 4630 ∧ x = a + 2
theorem findU_loop {d : Nat} {q : HP → Bool → Prop} {H0 : HP} {a b t p cu n : Nat} {T : TP} {U : Nat → UV} {R : PRow} (s : shProof H0 a) (ss : shStep H0 b) (hc : CT H0 t T p) (hu : CU H0 cu n U) (hok : ∀ i, okU (U i)) (sp : SPr H0 b R) (ok : okP T R) (hcu : cu + 102 ≤ a) (hab : a + 4 ≤ b)
    (h1 : allU (wF T n U) R → ∀ H', Fr (FoS a) H0 H' → (∀ i, i < R.1 → hR H' 4630 (a + 2) i = some (cu + 2 + 5 * ((fR (wF T n U) R i).getD 0))) → q H' true) (h0 : ¬ allU (wF T n U) R → ∀ H', Fr (FoS a) H0 H' → q H' false) : ∀ (k i : Nat) (H : HP), k + i = R.1 → Fr (FoS a) H0 H → (∀ j, j < i → (fR (wF T n U) R j).isSome = true ∧ hR H 4630 (a + 2) j = some (cu + 2 + 5 * ((fR (wF T n U) R j).getD 0))) → L_X4_findUnits_3 (d + 3) q a (some b) (some t) (some cu) (Int32.ofNat i) H := by
  have hm := ok.1
  have hn := hu.2.2.1
  have e4 : (4 : Int32) = Int32.ofNat 4 := rfl
  intro k
  induction k with
  | zero =>
    intro i H hi hF hj
    have sp' := fr_SPr hF (fun g x k1 k2 k3 => by omega) sp
    refine T_X4_findUnits_3 ?_
    unfold wb_X4_findUnits_3
    refine ⟨b, rfl, by rw [fr_tg hF]; exact ss.1, fun _ => h1 (fun j k => (hj j (by omega)).1) H hF (fun j k => (hj j (by omega)).2), fun h => ?_⟩
    rw [sp'.1, iN_le (by omega) (by omega)] at h
    omega
  | succ k ih =>
    intro i H hi hF hj
    have sp' := fr_SPr hF (fun g x k1 k2 k3 => by omega) sp
    have ss' := fr_shStep hF ss
    have hc' := fr_CT hF (fun k => by omega) (fun k => by omega) (fun k => by omega) hc
    have hu' := fr_CU hF (fun g x k1 k2 k3 => by omega) hu
    have s' := fr_shProof hF (fun k => by omega) s
    obtain ⟨s1, s2, s3, s4, s5, s6, s7, s8⟩ := s'
    obtain ⟨x1, x2, x3, x4⟩ := sA_3 ss'
    obtain ⟨y1, y2, y3, y4⟩ := sA_4 ss'
    obtain ⟨o1, o2⟩ := ok.2.2.2.2.1 i (by omega)
    obtain ⟨f1, f2⟩ := sp'.2.2.2 i (by omega)
    have isf : isA H (a + 2) 6 := isA_of s5 (by decide) (by decide)
    have vp4 : vp_in (Int32.ofNat i) 4 := vpi_of (by omega) (by decide)
    refine T_X4_findUnits_3 ?_
    unfold wb_X4_findUnits_3
    refine ⟨b, rfl, ss'.1, fun h => ?_, fun _ => ⟨fun h => ?_, fun _ => ⟨s1, b + 3, x1, x2, by rw [x4]; exact vp4, b + 4, y1, y2, by rw [y4]; exact vp4, cu, rfl, hu'.1.1, ?_⟩⟩⟩
    · rw [sp'.1, iN_le (by omega) (by omega)] at h
      omega
    · rw [e4, iN_le (by omega) (by omega)] at h
      omega
    · rw [x3, y3, iN_cl (by omega), f1, f2]
      have fin : ∀ r : Option Nat, (∀ x, r = some x → tg H x = 10) → (r = none → ¬ allU (wF T n U) R) → (∀ x, r = some x → (fR (wF T n U) R i).isSome = true ∧ x = cu + 2 + 5 * ((fR (wF T n U) R i).getD 0)) → ∃ a17, (hC H 505 a) = some a17 ∧ (isA H a17 6 ∧ (vp_in (Int32.ofNat i) (ln H a17) ∧ ((∀ x, r = some x → tg H x = 10) ∧ (tg (sR H (tg H a17) a17 i r) a = 5 ∧ (∃ a22, (hC (sR H (tg H a17) a17 i r) 505 a) = some a22 ∧ (isA (sR H (tg H a17) a17 i r) a22 6 ∧ (vp_in (Int32.ofNat i) (ln (sR H (tg H a17) a17 i r) a22) ∧ (((hR (sR H (tg H a17) a17 i r) (tg (sR H (tg H a17) a17 i r) a22) a22 i) = none → q (sR H (tg H a17) a17 i r) false) ∧ (∀ a25, (hR (sR H (tg H a17) a17 i r) (tg (sR H (tg H a17) a17 i r) a22) a22 i) = some a25 → L_X4_findUnits_3 (d + 3) q a (some b) (some t) (some cu) (Int32.ofNat i + 1) (sR H (tg H a17) a17 i r)))))))))) := fun r k1 k2 k3 => by
        have et : tg H (a + 2) = 4630 := tg_of s5
        have F2 : Fr (FoS a) H (sR H 4630 (a + 2) i r) := Fr_sR ⟨rfl, rfl⟩
        have eg : hR (sR H 4630 (a + 2) i r) 4630 (a + 2) i = r := by
          rw [hR_sR, u3_get, if_pos ⟨rfl, rfl, rfl⟩]
        refine ⟨a + 2, s4, isf, by rw [ln_of s5]; exact vp4, k1, s1, a + 2, s4, isf, by show vp_in _ (ln H (a + 2)); rw [ln_of s5]; exact vp4, ?_⟩
        have et2 : tg (sR H (tg H (a + 2)) (a + 2) i r) (a + 2) = 4630 := et
        rw [et2, et, eg]
        refine ⟨fun c => h0 (k2 c) _ (hF.tr F2), fun x c => ?_⟩
        obtain ⟨z1, z2⟩ := k3 x c
        rw [iN_inc (by omega)]
        refine ih (i + 1) _ (by omega) (hF.tr F2) fun j hj' => ?_
        by_cases e : j = i
        · subst e
          rw [eg, c, z2]; exact ⟨z1, rfl⟩
        · obtain ⟨w1, w2⟩ := hj j (by omega)
          refine ⟨w1, ?_⟩
          rw [hR_sR, u3_get, if_neg (fun k => e k.2.2), w2]
      rcases wF_cases (T := T) (n := n) (U := U) (fr := R.2.2.1 i) (many := R.2.2.2.1 i) hn with ⟨w1, w2⟩ | ⟨j, w0, w1, w2⟩
      · refine K_numberOf hc' hu' (fun i _ => hok i) o1 ⟨hu'.1.1, ?_⟩
        rw [w2]
        refine K_at hu' (fun j hj e => ?_) (fun _ => fin none (fun x k => (by cases k)) (fun _ k => ?_) (fun x k => (by cases k)))
        · have := congrArg Int32.toInt e
          rw [iN_toInt (by omega)] at this
          have e1 : (-1 : Int32).toInt = -1 := rfl
          omega
        · have := k i (by omega)
          rw [fR, w1] at this; cases this
      · refine K_numberOf hc' hu' (fun i _ => hok i) o1 ⟨hu'.1.1, ?_⟩
        rw [w2]
        refine K_at hu' (fun j' hj' e => ?_) (fun h => ?_)
        · have ej : j' = j := by
            have := congrArg Int32.toInt e
            rw [iN_toInt (by omega), iN_toInt (by omega)] at this
            omega
          subst ej
          have ef : fR (wF T n U) R i = some j' := w1
          refine fin _ (fun x k => ?_) (fun k => (by cases k)) (fun x k => ?_)
          · injection k with k
            subst k
            exact (hu'.1.2.2.2 j' (by omega)).2.1
          · injection k with k
            rw [ef]
            exact ⟨rfl, k.symm⟩
        · rw [iN_toInt (by omega)] at h
          omega
theorem K_findUnits {d : Nat} {q : HP → Bool → Prop} {H : HP} {a b t p cu n : Nat} {T : TP} {U : Nat → UV} {R : PRow} (s : shProof H a) (ss : shStep H b) (hc : CT H t T p) (hu : CU H cu n U) (hok : ∀ i, okU (U i)) (sp : SPr H b R) (ok : okP T R) (hcu : cu + 102 ≤ a) (hab : a + 4 ≤ b)
    (h1 : allU (wF T n U) R → ∀ H', Fr (FoS a) H H' → (∀ i, i < R.1 → hR H' 4630 (a + 2) i = some (cu + 2 + 5 * ((fR (wF T n U) R i).getD 0))) → q H' true) (h0 : ¬ allU (wF T n U) R → ∀ H', Fr (FoS a) H H' → q H' false) : CZ (d + 4) 0 0 mX4_findUnits [rv (some a), rv (some b), rv (some t), rv (some cu)] H q := by
  refine C_X4_findUnits ?_
  unfold wb_X4_findUnits_0
  exact findU_loop s ss hc hu hok sp ok hcu hab h1 h0 R.1 0 H rfl Fr.rf fun j hj => by omega
/-! what is in the row of units found -/
def Fnd (H : HP) (fo m : Nat) (ad : Nat → Nat) (u : Nat → UV) : Prop := hT H fo = (4630, 4) ∧ ∀ i, i < m → hR H 4630 fo i = some (ad i) ∧ shUnit H (ad i) ∧ CUn H (ad i) (u i) ∧ okU (u i)
theorem mixRef_loopC {d : Nat} {q : HP → Int32 → Prop} {H : HP} {b fo m : Nat} {ad : Nat → Nat} {u : Nat → UV} (ht : tg H b = 7) (h5 : hI H 705 b 0 = Int32.ofNat m) (hm : m ≤ 4) (hf : Fnd H fo m ad u) (h0 : mixC m u → q H 0) (h1 : ¬ mixC m u → q H (-14)) : ∀ (k i : Nat), k + i = m → 1 ≤ i → (∀ j, j < i → 1 ≤ j → ltL (u j).2.2.1.1 (u j).2.2.1.2 (u (j - 1)).2.2.1.1 (u (j - 1)).2.2.1.2 = true) → L_X6_mixedRefusal_71 (d + 2) q b (some fo) (Int32.ofNat i) H := by
  have e4 : (4 : Int32) = Int32.ofNat 4 := rfl
  intro k
  induction k with
  | zero =>
    intro i hi h1i hj
    refine T_X6_mixedRefusal_71 ?_
    unfold wb_X6_mixedRefusal_71
    rw [h5, iN_le (by omega) (by omega)]
    exact ⟨ht, fun _ => h0 fun j k1 k2 => hj j (by omega) k2, fun h => by omega⟩
  | succ k ih =>
    intro i hi h1i hj
    obtain ⟨f1, f2, f3, f4⟩ := hf.2 i (by omega)
    obtain ⟨g1, g2, g3, g4⟩ := hf.2 (i - 1) (by omega)
    refine T_X6_mixedRefusal_71 ?_
    unfold wb_X6_mixedRefusal_71
    have em : Int32.ofNat i - 1 = Int32.ofNat (i - 1) := by
      have e1 : (1 : Int32).toInt = 1 := rfl
      refine i32_ext ?_
      rw [i32_subx] <;> rw [iN_toInt (by omega), e1]
      · rw [iN_toInt (by omega)]; omega
      · omega
      · omega
    rw [h5, iN_le (by omega) (by omega), e4, iN_le (by omega) (by omega), em, iN_cl (by omega), iN_cl (by omega)]
    refine ⟨ht, fun h => by omega, fun _ => ⟨fun h => by omega, fun _ => ⟨fo, rfl, isA_of hf.1 (by decide) (by decide), by rw [ln_of hf.1]; exact vpi_of (by omega) (by decide), ad i, by rw [tg_of hf.1]; exact f1, f2.1, by rw [ln_of hf.1]; exact vpi_of (by omega) (by decide), ad (i - 1), by rw [tg_of hf.1]; exact g1, g2.1, ?_⟩⟩⟩
    obtain ⟨a1, a2, a3, a4, a5, a6, a7, a8, a9⟩ := f2
    obtain ⟨b1, b2, b3, b4, b5, b6, b7, b8, b9⟩ := g2
    have ef := f3.2.2.2.1
    have eg := g3.2.2.2.1
    have ef1 : hL H 400 (ad i + 3) 0 = (u i).2.2.1.1 := congrArg Prod.fst ef
    have ef2 : hL H 401 (ad i + 3) 0 = (u i).2.2.1.2 := congrArg Prod.snd ef
    have eg1 : hL H 400 (ad (i - 1) + 3) 0 = (u (i - 1)).2.2.1.1 := congrArg Prod.fst eg
    have eg2 : hL H 401 (ad (i - 1) + 3) 0 = (u (i - 1)).2.2.1.2 := congrArg Prod.snd eg
    refine ⟨ad i + 3, a6, a7, ?_⟩
    rw [a6, b6]
    refine K_compareWith a7 b7 (by rw [ef2]; exact f4.2.2.2.2.1.1) (by rw [eg2]; exact g4.2.2.2.2.1.1) fun r hr => ?_
    rw [ef1, ef2, eg1, eg2] at hr
    have hlt : r < 0 ↔ ltL (u i).2.2.1.1 (u i).2.2.1.2 (u (i - 1)).2.2.1.1 (u (i - 1)).2.2.1.2 = true := by
      rw [i32_lt, hr, i32_0]; exact cmL_lt
    refine ⟨fun c => ?_, fun c => h1 fun k => c (hlt.mpr (k i (by omega) h1i))⟩
    rw [iN_inc (by omega)]
    refine ih (i + 1) (by omega) (by omega) fun j k1 k2 => ?_
    by_cases e : j = i
    · subst e; exact hlt.mp c
    · exact hj j (by omega) k2
theorem mixRef_loopB {d : Nat} {q : HP → Int32 → Prop} {H : HP} {b fo m : Nat} {ad : Nat → Nat} {u : Nat → UV} (ht : tg H b = 7) (h5 : hI H 705 b 0 = Int32.ofNat m) (hm : m ≤ 4) (hm1 : 1 ≤ m) (hf : Fnd H fo m ad u) (h0 : mixB m u → L_X6_mixedRefusal_71 (d + 2) q b (some fo) 1 H) (h1 : ¬ mixB m u → q H (-13)) : ∀ (k i : Nat), k + i = m → 1 ≤ i → (∀ j, j < i → 1 ≤ j → eq5 (u j).2.1 (u 0).2.1 = true) → L_X6_mixedRefusal_35 (d + 2) q b (some fo) (Int32.ofNat i) H := by
  have e4 : (4 : Int32) = Int32.ofNat 4 := rfl
  intro k
  induction k with
  | zero =>
    intro i hi h1i hj
    refine T_X6_mixedRefusal_35 ?_
    unfold wb_X6_mixedRefusal_35
    rw [h5, iN_le (by omega) (by omega)]
    exact ⟨ht, fun _ => h0 fun j k1 k2 => hj j (by omega) k2, fun h => by omega⟩
  | succ k ih =>
    intro i hi h1i hj
    obtain ⟨f1, f2, f3, f4⟩ := hf.2 i (by omega)
    obtain ⟨g1, g2, g3, g4⟩ := hf.2 0 (by omega)
    refine T_X6_mixedRefusal_35 ?_
    unfold wb_X6_mixedRefusal_35
    have ec : (0 : Int32).toNatClampNeg = 0 := rfl
    rw [h5, iN_le (by omega) (by omega), e4, iN_le (by omega) (by omega), iN_cl (by omega), ec]
    refine ⟨ht, fun h => by omega, fun _ => ⟨fun h => by omega, fun _ => ⟨fo, rfl, isA_of hf.1 (by decide) (by decide), by rw [ln_of hf.1]; exact vpi_of (by omega) (by decide), by rw [ln_of hf.1]; exact vpi_of (n := 0) (m := 4) (by omega) (by decide), ad i, by rw [tg_of hf.1]; exact f1, f2.1, ?_⟩⟩⟩
    rw [tg_of hf.1, f1, g1]
    refine K_isLike f2 g2 f3 g3 ⟨fun c => ?_, fun c => h1 fun k => ?_⟩
    · rw [iN_inc (by omega)]
      refine ih (i + 1) (by omega) (by omega) fun j k1 k2 => ?_
      by_cases e : j = i
      · subst e; exact c
      · exact hj j (by omega) k2
    · rw [k i (by omega) h1i] at c; cases c
theorem mixRef_loopA {d : Nat} {q : HP → Int32 → Prop} {H : HP} {b fo m : Nat} {ad : Nat → Nat} {u : Nat → UV} (ht : tg H b = 7) (h5 : hI H 705 b 0 = Int32.ofNat m) (hm : m ≤ 4) (hf : Fnd H fo m ad u) (h0 : mixA m u → L_X6_mixedRefusal_35 (d + 2) q b (some fo) 1 H) (h1 : ¬ mixA m u → q H (-10)) : ∀ (k i : Nat), k + i = m → (∀ j, j < i → offU (u j) = false) → L_X6_mixedRefusal_2 (d + 2) q b (some fo) (Int32.ofNat i) H := by
  have e4 : (4 : Int32) = Int32.ofNat 4 := rfl
  intro k
  induction k with
  | zero =>
    intro i hi hj
    refine T_X6_mixedRefusal_2 ?_
    unfold wb_X6_mixedRefusal_2
    rw [h5, iN_le (by omega) (by omega)]
    exact ⟨ht, fun _ => h0 fun j k1 => hj j (by omega), fun h => by omega⟩
  | succ k ih =>
    intro i hi hj
    obtain ⟨f1, f2, f3, f4⟩ := hf.2 i (by omega)
    refine T_X6_mixedRefusal_2 ?_
    unfold wb_X6_mixedRefusal_2
    rw [h5, iN_le (by omega) (by omega), e4, iN_le (by omega) (by omega), iN_cl (by omega)]
    refine ⟨ht, fun h => by omega, fun _ => ⟨fun h => by omega, fun _ => ⟨fo, rfl, isA_of hf.1 (by decide) (by decide), by rw [ln_of hf.1]; exact vpi_of (by omega) (by decide), ad i, by rw [tg_of hf.1]; exact f1, f2.1, ?_⟩⟩⟩
    rw [tg_of hf.1, f1]
    refine K_hasOffset f2 f3 ⟨fun c => ?_, fun c => h1 fun k => ?_⟩
    · rw [iN_inc (by omega)]
      refine ih (i + 1) (by omega) fun j k1 => ?_
      by_cases e : j = i
      · subst e; exact c
      · exact hj j (by omega)
    · rw [k i (by omega)] at c; cases c
theorem K_mixedRefusal {d : Nat} {q : HP → Int32 → Prop} {H : HP} {b fo m : Nat} {ad : Nat → Nat} {u : Nat → UV} (ht : tg H b = 7) (h5 : hI H 705 b 0 = Int32.ofNat m) (hm : m ≤ 4) (hm1 : 1 ≤ m) (hf : Fnd H fo m ad u) (hq : q H (mixW m u)) : CI (d + 3) 0 0 mX6_mixedRefusal [rv (some b), rv (some fo)] H q := by
  refine C_X6_mixedRefusal ?_
  unfold wb_X6_mixedRefusal_0
  unfold mixW at hq
  have e1 : (1 : Int32) = Int32.ofNat 1 := rfl
  refine mixRef_loopA ht h5 hm hf (fun cA => ?_) (fun cA => ?_) m 0 rfl (fun j hj => by omega)
  · rw [if_pos cA] at hq
    rw [e1]
    refine mixRef_loopB ht h5 hm hm1 hf (fun cB => ?_) (fun cB => ?_) (m - 1) 1 (by omega) (Nat.le_refl _) (fun j k1 k2 => by omega)
    · rw [if_pos cB] at hq
      rw [e1]
      refine mixRef_loopC ht h5 hm hf (fun cC => ?_) (fun cC => ?_) (m - 1) 1 (by omega) (Nat.le_refl _) (fun j k1 k2 => by omega)
      · rwa [if_pos cC] at hq
      · rwa [if_neg cC] at hq
    · rwa [if_neg cB] at hq
  · rwa [if_neg cA] at hq
