
/-! ===== whether claims are true, on both sides ===== -/
def truF (u v : UV) (p q : Int32) : Int32 := if eq5 u.2.1 v.2.1 = true ∧ offU u = false ∧ offU v = false then (match mulF (redF p.toInt64 q.toInt64).1 (redF p.toInt64 q.toInt64).2 v.2.2.1.1 v.2.2.1.2 with
  | none => -15
  | some f => if f = u.2.2.1 then 1 else 0) else 0
def truC (U : Nat → UV) (C : CLM) (i : Nat) : Int32 := truF (U (CX C i)) (U (CY C i)) (CP C i) (CQ C i)
theorem truF_cases (u v : UV) (p q : Int32) : truF u v p q = 0 ∨ truF u v p q = 1 ∨ truF u v p q = -15 := by
  unfold truF
  split
  · split
    · exact Or.inr (Or.inr rfl)
    · split
      · exact Or.inr (Or.inl rfl)
      · exact Or.inl rfl
  · exact Or.inl rfl
def trusF (U : Nat → UV) (C : CLM) : Nat → Nat → Int32 → Int32
  | 0, _, a => a
  | n + 1, i, a => if truC U C i = -15 then -15 else trusF U C n (i + 1) (a + truC U C i)
theorem trusF_succ (U : Nat → UV) (C : CLM) (n i : Nat) (a : Int32) : trusF U C (n + 1) i a = if truC U C i = -15 then -15 else trusF U C n (i + 1) (a + truC U C i) := rfl
theorem okCl_tld {n i : Nat} {C : CLM} (okc : okCl n C) (hi : i < C.1) : CX C i < n ∧ CY C i < n ∧ tldN (CP C i) ∧ tldN (CQ C i) := by
  obtain ⟨o1, o2, o3, o4, o5, o6, o7⟩ := okc.2 i hi
  exact ⟨o1, o2, ⟨o4, o5⟩, ⟨o6, o7⟩⟩
theorem inN_nat {n j : Nat} (hn : n ≤ 20) (h : j < n) : inN n (Int32.ofNat j) ∧ (Int32.ofNat j).toInt.toNat = j := inN_of hn h rfl
theorem K_truthOf {d n i : Nat} {q : HP → Int32 → Prop} {H : HP} {U : Nat → UV} {C : CLM} (s : shP H) (hu : CU H 3 n U) (hok : ∀ i, okU (U i)) (okc : okCl n C) (hc : CCl H 105 C) (hi : i < C.1) (hq : ∀ H', Fr AnS H H' → q H' (truC U C i)) : CI (d + 4) 0 0 mX11_truthOf [rv (some 0), .int (Int32.ofNat i)] H q := by
  obtain ⟨s1, s2, s3, s4, -, -, -, -, -, -, s10, -, -, -, -, -, s11, s12⟩ := id s
  have hn20 := hu.2.2.1
  have hC16 := okc.1
  obtain ⟨o1, o2, o3, o4⟩ := okCl_tld okc hi
  obtain ⟨x1, x2, x3, x4⟩ := cA_x hc.1
  obtain ⟨y1, y2, y3, y4⟩ := cA_y hc.1
  obtain ⟨p1, p2, p3, p4⟩ := cA_p hc.1
  obtain ⟨q1, q2, q3, q4⟩ := cA_q hc.1
  obtain ⟨r1, r2, r3, r4⟩ := hc.2.1.2 i hi
  have in16 : vp_in (Int32.ofNat i) 16 := vpi_of (by omega) (by decide)
  obtain ⟨ix, ixn⟩ := inN_nat hn20 o1
  obtain ⟨iy, iyn⟩ := inN_nat hn20 o2
  refine C_X11_truthOf ?_
  unfold wb_X11_truthOf_0
  rw [s4, s3]
  refine ⟨s1, 105, rfl, hc.1.1, 105 + 1, x1, x2, by rw [x4]; exact in16, 3, rfl, hu.1.1, ?_⟩
  rw [x3, iN_cl (by omega), r1]
  refine K_at3 (d := d + 2) hu fun o a1 b1 t1 => ⟨s1, 105, s4, hc.1.1, 105 + 2, y1, y2, by rw [y4]; exact in16, 3, s3, hu.1.1, ?_⟩
  rw [s3, y3, r2]
  refine K_at3 (d := d + 2) hu fun o2 a2 b2 t2 => ?_
  rw [a1 ix, a2 iy]
  obtain ⟨shx, cx⟩ := adU_sh hu ix
  obtain ⟨shy, cy⟩ := adU_sh hu iy
  have eux : unA U (Int32.ofNat (CX C i)) = U (CX C i) := by unfold unA; rw [ixn]
  have euy : unA U (Int32.ofNat (CY C i)) = U (CY C i) := by unfold unA; rw [iyn]
  have hlx : adU (Int32.ofNat (CX C i)) + 5 ≤ 105 := by unfold adU; rw [ixn]; omega
  have hly : adU (Int32.ofNat (CY C i)) + 5 ≤ 105 := by unfold adU; rw [iyn]; omega
  rw [eux] at cx
  rw [euy] at cy
  generalize adU (Int32.ofNat (CX C i)) = ax at shx cx hlx ⊢
  generalize adU (Int32.ofNat (CY C i)) = ay at shy cy hly ⊢
  have okx := hok (CX C i)
  have oky := hok (CY C i)
  have h0 := hq H Fr.rf
  unfold truC truF at h0 hq
  refine ⟨fun k => (by cases k), fun a ha => ⟨fun k => (by cases k), fun b hb => ?_⟩⟩
  injection ha with ha
  subst ha
  injection hb with hb
  subst hb
  refine ⟨shx.1, K_isLike (d := d + 1) shx shy cx cy ⟨fun hl => ?_, fun hl => ⟨shx.1, K_hasOffset (d := d + 2) shx cx ⟨fun ho => ?_, fun ho => ⟨shy.1, K_hasOffset (d := d + 2) shy cy ⟨fun ho2 => ⟨s1, 105, s4, hc.1.1, 105 + 3, p1, p2, by rw [p4]; exact in16, 105 + 4, q1, q2, by rw [q4]; exact in16, 1094, s10, s11, ?_⟩, fun ho2 => ?_⟩⟩⟩⟩⟩⟩
  · rw [if_neg (fun k => by have := k.1; rw [hl] at this; cases this)] at h0; exact h0
  · rw [if_neg (fun k => by have := k.2.1; rw [ho] at this; cases this)] at h0; exact h0
  · obtain ⟨c1, c2⟩ := tld_red o3 o4
    rw [s10, p3, q3, r3, r4]
    refine K_set (d := d + 1) s11 c1 c2 ?_
    have or0 := redF_ok c1 c2
    generalize redF (CP C i).toInt64 (CQ C i).toInt64 = f0 at or0 hq ⊢
    have F1 : Fr AnS H (setF H 1094 f0) := Fr_setF ⟨Or.inl rfl, rfl⟩ ⟨Or.inr rfl, rfl⟩
    have g1 : getF (setF H 1094 f0) 1094 = f0 := getF_setF
    generalize setF H 1094 f0 = A at F1 g1 ⊢
    have eC : ∀ g a, hC A g a = hC H g a := fun g a => by rw [F1.2.1]
    have eT : ∀ a, tg A a = tg H a := fun a => fr_tg F1 a
    obtain ⟨w1, w2, w3, w4, w5, w6, w7, w8, w9⟩ := id shy
    obtain ⟨v1, v2, v3, v4, v5, v6, v7, v8, v9⟩ := id shx
    have o3' : getF A (ay + 3) = (U (CY C i)).2.2.1 := by rw [fr_getF F1 (fun k => by omega) (fun k => by omega)]; exact cy.2.2.2.1
    rw [eC 1213, s10, eC 1003, w6]
    refine ⟨by rw [eT]; exact s1, by rw [eT]; exact w1, 1094, rfl, by rw [eT]; exact s11, ?_⟩
    refine K_multiply (d := d) (by rw [eT]; exact s11) (by rw [eT]; exact w7) (by rw [g1]; exact or0) (by rw [o3']; exact oky.2.2.2.2.1) (fun g og hg => ⟨fun _ => ?_, fun k => (by cases k)⟩) (fun hg => ⟨fun k => (by cases k), fun _ => ?_⟩)
    · rw [getF_1 g1, getF_2 g1, getF_1 o3', getF_2 o3'] at hg
      have F2 : Fr AnS A (setF A 1094 g) := Fr_setF ⟨Or.inl rfl, rfl⟩ ⟨Or.inr rfl, rfl⟩
      have g2 : getF (setF A 1094 g) 1094 = g := getF_setF
      generalize setF A 1094 g = B at F2 g2 ⊢
      have FB := F1.tr F2
      have hqB := hq B FB
      rw [if_pos ⟨hl, ho, ho2⟩, hg] at hqB
      simp only at hqB
      have ox : getF B (ax + 3) = (U (CX C i)).2.2.1 := by rw [fr_getF FB (fun k => by omega) (fun k => by omega)]; exact cx.2.2.2.1
      rw [FB.2.1, s10, v6]
      refine ⟨by rw [fr_tg FB]; exact s1, by rw [fr_tg FB]; exact v1, 1094, rfl, by rw [fr_tg FB]; exact s11, ?_⟩
      refine K_compareWith (d := d + 1) (by rw [fr_tg FB]; exact s11) (by rw [fr_tg FB]; exact v7) (by rw [getF_2 g2]; exact og.1) (by rw [getF_2 ox]; exact okx.2.2.2.2.1.1) fun r hr => ?_
      rw [getF_1 g2, getF_2 g2, getF_1 ox, getF_2 ox] at hr
      have hce := cmL_eq og okx.2.2.2.2.1
      refine ⟨fun h => ?_, fun h => ?_⟩
      · rw [if_neg (fun k => h (i32_ext (by rw [hr, hce.mpr k]; rfl)))] at hqB; exact hqB
      · rw [if_pos (hce.mp (by rw [← hr, h]; rfl))] at hqB; exact hqB
    · rw [getF_1 g1, getF_2 g1, getF_1 o3', getF_2 o3'] at hg
      have := hq A F1
      rw [if_pos ⟨hl, ho, ho2⟩, hg] at this; exact this
  · rw [if_neg (fun k => by have := k.2.2; rw [ho2] at this; cases this)] at h0; exact h0
theorem trueClaims_loop {d n : Nat} {q : HP → Int32 → Prop} {H0 : HP} {U : Nat → UV} {C : CLM} (s : shP H0) (hu : CU H0 3 n U) (hok : ∀ i, okU (U i)) (okc : okCl n C) (hc : CCl H0 105 C) (hq : ∀ H', Fr AnS H0 H' → q H' (trusF U C C.1 0 0)) : ∀ (k i : Nat) (a : Int32) (H : HP), k + i = C.1 → Fr AnS H0 H → trusF U C C.1 0 0 = trusF U C k i a → L_X11_trueClaims_4 (d + 4) q 0 a (Int32.ofNat i) H := by
  obtain ⟨s1, s2, s3, s4, -⟩ := id s
  have hC16 := okc.1
  intro k
  induction k with
  | zero =>
    intro i a H hi F he
    refine T_X11_trueClaims_4 ?_
    unfold wb_X11_trueClaims_4
    have cH : CCl H 105 C := fr_CCl F (fun g b k1 k2 k => by omega) hc
    have e : i = C.1 := by omega
    subst e
    refine ⟨by rw [fr_tg F]; exact s1, 105, by rw [F.2.1]; exact s4, cH.1.1, ?_⟩
    rw [cH.2.1.1, iN_le (by omega) (by omega)]
    refine ⟨fun _ => ?_, fun h => by omega⟩
    have := hq H F
    rw [he] at this; exact this
  | succ k ih =>
    intro i a H hi F he
    refine T_X11_trueClaims_4 ?_
    unfold wb_X11_trueClaims_4
    have cH : CCl H 105 C := fr_CCl F (fun g b k1 k2 k => by omega) hc
    have uH : CU H 3 n U := fr_CU F (fun g b k1 k2 k => by omega) hu
    have sH : shP H := by
      unfold shP at s ⊢
      rw [F.1, F.2.1, fr_tg F, fr_tg F, fr_tg F]; exact s
    refine ⟨by rw [fr_tg F]; exact s1, 105, by rw [F.2.1]; exact s4, cH.1.1, ?_⟩
    rw [cH.2.1.1, iN_le (by omega) (by omega)]
    refine ⟨fun h => by omega, fun _ => ?_⟩
    rw [trusF_succ] at he
    refine K_truthOf (d := d) sH uH hok okc cH (by omega) fun H' F' => ⟨fun h => ?_, fun h => ?_⟩
    · rw [if_neg h] at he
      rw [iN_inc (by omega)]
      exact ih (i + 1) _ H' (by omega) (F.tr F') he
    · rw [if_pos h] at he
      have := hq H' (F.tr F')
      rw [he] at this; exact this
theorem K_trueClaims {d n : Nat} {q : HP → Int32 → Prop} {H : HP} {U : Nat → UV} {C : CLM} (s : shP H) (hu : CU H 3 n U) (hok : ∀ i, okU (U i)) (okc : okCl n C) (hc : CCl H 105 C) (hq : ∀ H', Fr AnS H H' → q H' (trusF U C C.1 0 0)) : CI (d + 5) 0 0 mX11_trueClaims [rv (some 0)] H q := by
  refine C_X11_trueClaims ?_
  unfold wb_X11_trueClaims_0
  exact trueClaims_loop (d := d) s hu hok okc hc hq C.1 0 0 H rfl Fr.rf rfl
theorem K_isTrue {d n m i : Nat} {q : HP → Int32 → Prop} {H : HP} {U : Nat → UV} {C : CLM} (hu : MU H m n U) (hok : ∀ i, okU (U i)) (okc : okCl n C) (hc : MCl H m C) (hi : i < C.1) (hq : ∀ H', Fr (UpS m) H H' → q H' (truC U C i)) : CI (d + 4) 0 0 mX12_isTrue [rv (some m), .int (Int32.ofNat i)] H q := by
  have sm := hu.1
  have hn20 := hu.2.2.1
  have hC16 := okc.1
  obtain ⟨o1, o2, o3, o4⟩ := okCl_tld okc hi
  obtain ⟨a1, a2, a3, a4⟩ := mA_claim sm
  obtain ⟨r1, r2, r3, r4⟩ := hc.2 i hi
  have e4 : (4 : Int32) = Int32.ofNat 4 := rfl
  have e2 : (2 : Int32) = Int32.ofNat 2 := rfl
  have e3 : (3 : Int32) = Int32.ofNat 3 := rfl
  have b0 : (4 : Int32) * Int32.ofNat i = Int32.ofNat (4 * i) := by rw [e4, iN_mul (by omega) (by omega) (by omega)]
  have b1 : (4 : Int32) * Int32.ofNat i + 1 = Int32.ofNat (4 * i + 1) := by rw [b0, iN_inc (by omega)]
  have b2 : (4 : Int32) * Int32.ofNat i + 2 = Int32.ofNat (4 * i + 2) := by rw [b0, e2, iN_add (by omega)]
  have b3 : (4 : Int32) * Int32.ofNat i + 3 = Int32.ofNat (4 * i + 3) := by rw [b0, e3, iN_add (by omega)]
  refine C_X12_isTrue ?_
  unfold wb_X12_isTrue_0
  rw [b1, b2, b3, b0]
  have cux := hu.2.2.2 _ o1
  have cuy := hu.2.2.2 _ o2
  have h0 := hq H Fr.rf
  unfold truC truF at h0 hq
  refine ⟨sm.1, m + 7, a1, a2, by rw [a4]; exact vpi_of (by omega) (by decide), by rw [a4]; exact vpi_of (by omega) (by decide), ?_⟩
  rw [a3, iN_cl (n := 4 * i) (by omega), iN_cl (n := 4 * i + 1) (by omega), r1, r2]
  refine K_areLike (d := d + 2) sm (by omega) (by omega) cux cuy ⟨fun hl => ?_, fun hl => ⟨sm.1, K_mhasOffset (d := d + 2) sm (by omega) cux ⟨fun ho => ?_, fun ho => ⟨sm.1, K_mhasOffset (d := d + 2) sm (by omega) cuy ⟨fun ho2 => ⟨sm.1, ?_⟩, fun ho2 => ?_⟩⟩⟩⟩⟩
  · rw [if_neg (fun k => by have := k.1; rw [hl] at this; cases this)] at h0; exact h0
  · rw [if_neg (fun k => by have := k.2.1; rw [ho] at this; cases this)] at h0; exact h0
  · have F0 : Fr (UpS m) H (sI H 1321 m 0 (0 : Int32)) := Fr_sI ⟨rfl, Or.inr (Or.inr rfl)⟩
    have z0 : hI (sI H 1321 m 0 (0 : Int32)) 1321 m 0 = 0 := by rw [hIs_i, if_pos rfl]
    generalize sI H 1321 m 0 (0 : Int32) = A at F0 z0 ⊢
    have sA := fr_shM F0 sm
    obtain ⟨a1, a2, a3, a4⟩ := mA_claim sA
    obtain ⟨-, -, r3, r4⟩ := (fr_MCl F0 (fun k => by omega) (fun k => by omega) hc).2 i hi
    obtain ⟨c1, c2⟩ := tld_red o3 o4
    refine ⟨m + 7, a1, a2, by rw [a4]; exact vpi_of (by omega) (by decide), by rw [a4]; exact vpi_of (by omega) (by decide), ?_⟩
    rw [a3, iN_cl (n := 4 * i + 2) (by omega), iN_cl (n := 4 * i + 3) (by omega), r3, r4]
    refine K_becomes (d := d) sA.1 c1 c2 ?_
    have or0 := redF_ok c1 c2
    generalize redF (CP C i).toInt64 (CQ C i).toInt64 = f0 at or0 hq ⊢
    have F1 : Fr (UpS m) A (setM A m f0) := Fr_setM ⟨rfl, Or.inl rfl⟩ ⟨rfl, Or.inr (Or.inl rfl)⟩
    have g1 : getM (setM A m f0) m = f0 := getM_setM
    have z1 : hI (setM A m f0) 1321 m 0 = 0 := z0
    generalize setM A m f0 = B at F1 g1 z1 ⊢
    have FB := F0.tr F1
    have sB := fr_shM FB sm
    have uB : MU B m n U := fr_MU FB (fun k => by omega) (fun g x k1 k2 k => by omega) hu
    obtain ⟨-, -, -, u4, u5, -⟩ := uB.2.2.2 _ o2
    obtain ⟨x1, x2, x3, x4⟩ := mA_factorUp sB
    obtain ⟨y1, y2, y3, y4⟩ := mA_factorLow sB
    refine ⟨sB.1, m + 3, x1, x2, by rw [x4]; exact vpi_of (by omega) (by decide), m + 4, y1, y2, by rw [y4]; exact vpi_of (by omega) (by decide), ?_⟩
    rw [x3, y3, iN_cl (n := CY C i) (by omega), u4, u5, getM_1 g1, getM_2 g1]
    have p1 : okF ((U (CY C i)).2.2.1.1, (U (CY C i)).2.2.1.2) := (hok (CY C i)).2.2.2.2.1
    have p1' : 0 < (U (CY C i)).2.2.1.1.toInt := (hok (CY C i)).2.2.2.2.2.1
    refine K_times (d := d) sB.1 (Or.inl z1) or0 p1.2.1 p1.1 (fun k => by omega) (fun f hf => ⟨sB.1, fun _ => ?_, fun k => absurd z1 k⟩) (fun hf f => ⟨sB.1, fun k => ?_, fun _ => ?_⟩)
    · have F2 : Fr (UpS m) B (setM B m f) := Fr_setM ⟨rfl, Or.inl rfl⟩ ⟨rfl, Or.inr (Or.inl rfl)⟩
      have g2 : getM (setM B m f) m = f := getM_setM
      have hqB := hq (setM B m f) (FB.tr F2)
      generalize setM B m f = D at F2 g2 hqB ⊢
      rw [if_pos ⟨hl, ho, ho2⟩, hf] at hqB
      simp only at hqB
      have sD := fr_shM F2 sB
      have uD : MU D m n U := fr_MU F2 (fun k => by omega) (fun g x k1 k2 k => by omega) uB
      obtain ⟨-, -, -, w4, w5, -⟩ := uD.2.2.2 _ o1
      obtain ⟨x1, x2, x3, x4⟩ := mA_factorUp sD
      obtain ⟨y1, y2, y3, y4⟩ := mA_factorLow sD
      refine ⟨m + 3, x1, x2, by rw [x4]; exact vpi_of (by omega) (by decide), ?_⟩
      rw [x3, iN_cl (n := CX C i) (by omega), w4, getM_1 g2]
      refine ⟨fun h => ?_, fun h => ⟨m + 4, y1, y2, by rw [y4]; exact vpi_of (by omega) (by decide), ?_⟩⟩
      · rw [if_neg (fun k => h (congrArg Prod.fst k))] at hqB; exact hqB
      · rw [y3, w5, getM_2 g2]
        refine ⟨fun h' => ?_, fun h' => ?_⟩
        · rw [if_neg (fun k => h' (congrArg Prod.snd k))] at hqB; exact hqB
        · rw [if_pos (Prod.ext h h')] at hqB; exact hqB
    · have z : hI (setM (sI B 1321 m 0 1) m f) 1321 m 0 = 1 := by
        show hI (sI B 1321 m 0 1) 1321 m 0 = 1
        rw [hIs_i, if_pos rfl]
      rw [z] at k; exact absurd k (by decide)
    · have := hq _ (FB.tr ((Fr_sI (H := B) (g := 1321) (a := m) (i := 0) (v := 1) ⟨rfl, Or.inr (Or.inr rfl)⟩).tr (Fr_setM (f := f) ⟨rfl, Or.inl rfl⟩ ⟨rfl, Or.inr (Or.inl rfl)⟩)))
      rw [if_pos ⟨hl, ho, ho2⟩, hf] at this; exact this
  · rw [if_neg (fun k => by have := k.2.2; rw [ho2] at this; cases this)] at h0; exact h0
theorem trues_loop {d n m : Nat} {q : HP → Int32 → Prop} {H0 : HP} {U : Nat → UV} {C : CLM} (hu : MU H0 m n U) (hok : ∀ i, okU (U i)) (okc : okCl n C) (hc : MCl H0 m C) (hq : ∀ H', Fr (UpS m) H0 H' → q H' (trusF U C C.1 0 0)) : ∀ (k i : Nat) (a : Int32) (H : HP), k + i = C.1 → Fr (UpS m) H0 H → trusF U C C.1 0 0 = trusF U C k i a → L_X12_trues_4 (d + 4) q m a (Int32.ofNat i) H := by
  have hC16 := okc.1
  intro k
  induction k with
  | zero =>
    intro i a H hi F he
    refine T_X12_trues_4 ?_
    unfold wb_X12_trues_4
    have cH : MCl H m C := fr_MCl F (fun k => by omega) (fun k => by omega) hc
    have e : i = C.1 := by omega
    subst e
    rw [cH.1, iN_le (by omega) (by omega)]
    refine ⟨(fr_shM F hu.1).1, fun _ => ?_, fun h => by omega⟩
    have := hq H F
    rw [he] at this; exact this
  | succ k ih =>
    intro i a H hi F he
    refine T_X12_trues_4 ?_
    unfold wb_X12_trues_4
    have cH : MCl H m C := fr_MCl F (fun k => by omega) (fun k => by omega) hc
    have uH : MU H m n U := fr_MU F (fun k => by omega) (fun g x k1 k2 k => by omega) hu
    rw [cH.1, iN_le (by omega) (by omega)]
    refine ⟨uH.1.1, fun h => by omega, fun _ => ?_⟩
    rw [trusF_succ] at he
    refine K_isTrue (d := d) uH hok okc cH (by omega) fun H' F' => ⟨fun h => ?_, fun h => ?_⟩
    · rw [if_neg h] at he
      rw [iN_inc (by omega)]
      exact ih (i + 1) _ H' (by omega) (F.tr F') he
    · rw [if_pos h] at he
      have := hq H' (F.tr F')
      rw [he] at this; exact this
theorem K_trues {d n m : Nat} {q : HP → Int32 → Prop} {H : HP} {U : Nat → UV} {C : CLM} (hu : MU H m n U) (hok : ∀ i, okU (U i)) (okc : okCl n C) (hc : MCl H m C) (hq : ∀ H', Fr (UpS m) H H' → q H' (trusF U C C.1 0 0)) : CI (d + 5) 0 0 mX12_trues [rv (some m)] H q := by
  refine C_X12_trues ?_
  unfold wb_X12_trues_0
  exact trues_loop (d := d) hu hok okc hc hq C.1 0 0 H rfl Fr.rf rfl
