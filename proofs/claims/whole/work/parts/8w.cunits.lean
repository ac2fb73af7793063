
/-! ===== the class: name, power, scale, ratio, nearest ===== -/
def unA (U : Nat → UV) (x : Int32) : UV := U x.toInt.toNat
def nameA (n : Nat) (U : Nat → UV) (x i : Int32) : Int32 := if inN n x ∧ -1 ≤ i.toInt ∧ i.toInt < ((unA U x).1.1 : Int) then (if i = -1 then Int32.ofNat (unA U x).1.1 else (unA U x).1.2 i.toInt.toNat) else -1
def powerA (n : Nat) (U : Nat → UV) (x b : Int32) : Int32 := if inN n x ∧ 0 ≤ b.toInt ∧ b.toInt < 5 then (unA U x).2.1 b.toInt.toNat + 10 else -1
def scaleA (n : Nat) (U : Nat → UV) (x w p : Int32) : Int64 := if inN n x ∧ 0 ≤ w.toInt ∧ w.toInt ≤ 1 then partA (some (if w = 0 then (unA U x).2.2.1 else (unA U x).2.2.2)) p else -9223372036854775808
def ratioG (n : Nat) (U : Nat → UV) (x y : Int32) : Option FR := if inN n x ∧ inN n y ∧ eq5 (unA U x).2.1 (unA U y).2.1 = true ∧ offU (unA U x) = false ∧ offU (unA U y) = false then divF (unA U y).2.2.1.1 (unA U y).2.2.1.2 (unA U x).2.2.1.1 (unA U x).2.2.1.2 else none
abbrev tldN (p : Int32) : Prop := 1 ≤ p.toInt ∧ p.toInt ≤ 999999
def nearestA (n : Nat) (U : Nat → UV) (x p q : Int32) : Int32 := if inN n x then (if tldN p ∧ tldN q then (match mulF (redF p.toInt64 q.toInt64).1 (redF p.toInt64 q.toInt64).2 (unA U x).2.2.1.1 (unA U x).2.2.1.2 with
  | none => -5
  | some f => nbI (nearF (nearP U (unA U x) f) (nearB U) n 0 none)) else -2) else -1
theorem adU_sh {H : HP} {n : Nat} {U : Nat → UV} {x : Int32} (hu : CU H 3 n U) (hx : inN n x) : shUnit H (adU x) ∧ CUn H (adU x) (unA U x) := by
  have := hx.1; have := hx.2; have := hu.2.2.1
  exact ⟨(hu.1.2.2.2 x.toInt.toNat (by omega)).2, hu.2.2.2 x.toInt.toNat (by omega)⟩
theorem i32_m1 : (-1 : Int32).toInt = -1 := rfl
theorem K_cname {d n : Nat} {q : HP → Int32 → Prop} {H : HP} {U : Nat → UV} {x i : Int32} (s : shP H) (hu : CU H 3 n U) (hok : ∀ i, okU (U i)) (hq : q H (nameA n U x i)) : CI (d + 2) 0 0 mX11_name [rv (some 0), .int x, .int i] H q := by
  obtain ⟨s1, s2, s3, -⟩ := id s
  refine C_X11_name ?_
  unfold wb_X11_name_0
  rw [s3]
  unfold nameA at hq
  refine ⟨s1, 3, rfl, hu.1.1, K_at3 (d := d) hu fun o p1 n1 t1 => ?_⟩
  by_cases hx : inN n x
  · rw [p1 hx]
    obtain ⟨⟨y1, y2, y3, -⟩, u1, u2, -⟩ := adU_sh hu hx
    have h4 := (hok x.toInt.toNat).2.1
    have h4' : (unA U x).1.1 ≤ 4 := h4
    have ul := iN_toInt (n := (unA U x).1.1) (by omega)
    refine ⟨fun k => (by cases k), fun a ha => ?_⟩
    injection ha with ha
    subst ha
    rw [u1, i32_lt, i32_lt, ul, i32_m1]
    refine ⟨fun h => ?_, fun h => ⟨y1, fun h2 => ⟨fun h3 => ⟨adU x + 1, y2, isA_of y3 (by decide) (by decide), ?_, ?_⟩, fun h3 => ?_⟩, fun h2 => ?_⟩⟩
    · rw [if_neg (fun k => by omega)] at hq; exact hq
    · have : i.toInt ≠ -1 := fun k => h3 (i32_ext (by rw [k]; rfl))
      rw [ln_of y3]; exact vpi_i (by omega) (by omega)
    · have : i.toInt ≠ -1 := fun k => h3 (i32_ext (by rw [k]; rfl))
      have ec : i.toNatClampNeg = i.toInt.toNat := rfl
      rw [if_pos ⟨hx, by omega, h2⟩, if_neg h3] at hq
      rw [tg_of y3, ec, u2 _ (by omega)]; exact hq
    · rw [if_pos ⟨hx, by omega, h2⟩, if_pos h3] at hq; exact hq
    · rw [if_neg (fun k => by omega)] at hq; exact hq
  · rw [n1 hx]
    rw [if_neg (fun k => hx k.1)] at hq
    exact ⟨fun _ => hq, fun a ha => (by cases ha)⟩
theorem K_cpower {d n : Nat} {q : HP → Int32 → Prop} {H : HP} {U : Nat → UV} {x b : Int32} (s : shP H) (hu : CU H 3 n U) (hq : q H (powerA n U x b)) : CI (d + 2) 0 0 mX11_power [rv (some 0), .int x, .int b] H q := by
  obtain ⟨s1, s2, s3, -⟩ := id s
  have e5 : (5 : Int32).toInt = 5 := rfl
  refine C_X11_power ?_
  unfold wb_X11_power_0
  rw [s3]
  unfold powerA at hq
  refine ⟨s1, 3, rfl, hu.1.1, K_at3 (d := d) hu fun o p1 n1 t1 => ?_⟩
  by_cases hx : inN n x
  · rw [p1 hx]
    obtain ⟨⟨y1, -, -, y4, y5, -⟩, u1, u2, u3, -⟩ := adU_sh hu hx
    refine ⟨fun k => (by cases k), fun a ha => ?_⟩
    injection ha with ha
    subst ha
    rw [i32_lt, i32_lt, i32_0, e5]
    refine ⟨fun h => ?_, fun h => ⟨fun h2 => ⟨y1, adU x + 2, y4, isA_of y5 (by decide) (by decide), ?_, ?_⟩, fun h2 => ?_⟩⟩
    · rw [if_neg (fun k => by omega)] at hq; exact hq
    · rw [ln_of y5]; exact vpi_i (by omega) (by omega)
    · have ec : b.toNatClampNeg = b.toInt.toNat := rfl
      rw [if_pos ⟨hx, by omega, h2⟩] at hq
      rw [tg_of y5, ec, u3 _ (by omega)]; exact hq
    · rw [if_neg (fun k => by omega)] at hq; exact hq
  · rw [n1 hx]
    rw [if_neg (fun k => hx k.1)] at hq
    exact ⟨fun _ => hq, fun a ha => (by cases ha)⟩
theorem K_cscale {d n : Nat} {q : HP → Int64 → Prop} {H : HP} {U : Nat → UV} {x w p : Int32} (s : shP H) (hu : CU H 3 n U) (hq : q H (scaleA n U x w p)) : CJ (d + 2) 0 0 mX11_scale [rv (some 0), .int x, .int w, .int p] H q := by
  obtain ⟨s1, s2, s3, -⟩ := id s
  have e1 : (1 : Int32).toInt = 1 := rfl
  refine C_X11_scale ?_
  unfold wb_X11_scale_0
  rw [s3]
  unfold scaleA at hq
  refine ⟨s1, 3, rfl, hu.1.1, K_at3 (d := d) hu fun o p1 n1 t1 => ?_⟩
  by_cases hx : inN n x
  · rw [p1 hx]
    obtain ⟨⟨y1, -, -, -, -, y6, y7, y8, y9⟩, u1, u2, u3, u4, u5, -⟩ := adU_sh hu hx
    refine ⟨fun k => (by cases k), fun a ha => ?_⟩
    injection ha with ha
    subst ha
    rw [i32_lt, i32_le, i32_0, e1]
    refine ⟨fun h => ?_, fun h => ⟨fun h2 => ⟨fun h3 => ⟨y1, adU x + 4, y8, y9, ?_⟩, fun h3 => ⟨y1, adU x + 3, y6, y7, ?_⟩⟩, fun h2 => ?_⟩⟩
    · rw [if_neg (fun k => by omega)] at hq; exact hq
    · rw [if_pos ⟨hx, by omega, h2⟩, if_neg h3] at hq
      rw [y8]
      refine K_part y9 ?_
      rw [getF_1 u5, getF_2 u5]; exact hq
    · rw [if_pos ⟨hx, by omega, h2⟩, if_pos h3] at hq
      rw [y6]
      refine K_part y7 ?_
      rw [getF_1 u4, getF_2 u4]; exact hq
    · rw [if_neg (fun k => by omega)] at hq; exact hq
  · rw [n1 hx]
    rw [if_neg (fun k => hx k.1)] at hq
    exact ⟨fun _ => hq, fun a ha => (by cases ha)⟩
theorem K_cratio {d n : Nat} {q : HP → Int64 → Prop} {H : HP} {U : Nat → UV} {x y p : Int32} (s : shP H) (hu : CU H 3 n U) (hok : ∀ i, okU (U i)) (hq : ∀ H', Fr AnS H H' → q H' (partA (ratioG n U x y) p)) : CJ (d + 4) 0 0 mX11_ratio [rv (some 0), .int x, .int y, .int p] H q := by
  obtain ⟨s1, s2, s3, -, -, -, -, -, -, -, s10, -, -, -, -, -, s11, s12⟩ := id s
  refine C_X11_ratio ?_
  unfold wb_X11_ratio_0
  rw [s3]
  have no : ratioG n U x y = none → q H (-9223372036854775808) := fun h => by
    have := hq H Fr.rf
    rw [h] at this; exact this
  refine ⟨s1, 3, rfl, hu.1.1, K_at3 (d := d + 2) hu fun o p1 n1 t1 => ⟨s1, 3, s3, hu.1.1, ?_⟩⟩
  rw [s3]
  refine K_at3 (d := d + 2) hu fun o2 p2 n2 t2 => ?_
  by_cases hx : inN n x
  · rw [p1 hx]
    obtain ⟨shx, cx⟩ := adU_sh hu hx
    refine ⟨fun k => (by cases k), fun a ha => ?_⟩
    injection ha with ha
    subst ha
    by_cases hy : inN n y
    · rw [p2 hy]
      obtain ⟨shy, cy⟩ := adU_sh hu hy
      have okx : okU (unA U x) := hok _
      have oky : okU (unA U y) := hok _
      refine ⟨fun k => (by cases k), fun b hb => ?_⟩
      injection hb with hb
      subst hb
      refine ⟨shx.1, K_isLike (d := d + 1) shx shy cx cy ⟨fun hl => no ?_, fun hl => ⟨shx.1, K_hasOffset (d := d + 2) shx cx ⟨fun ho => no ?_, fun ho => ⟨shy.1, K_hasOffset (d := d + 2) shy cy ⟨fun ho2 => ⟨s1, shy.1, 1094, s10, s11, ?_⟩, fun ho2 => no ?_⟩⟩⟩⟩⟩⟩
      · unfold ratioG; rw [if_neg (fun k => by have := k.2.2.1; rw [hl] at this; cases this)]
      · unfold ratioG; rw [if_neg (fun k => by have := k.2.2.2.1; rw [ho] at this; cases this)]
      · have eg : ratioG n U x y = divF (unA U y).2.2.1.1 (unA U y).2.2.1.2 (unA U x).2.2.1.1 (unA U x).2.2.1.2 := by unfold ratioG; rw [if_pos ⟨hx, hy, hl, ho, ho2⟩]
        obtain ⟨y1, y2, y3, y4, y5, y6, y7, y8, y9⟩ := shy
        obtain ⟨x1, x2, x3, x4, x5, x6, x7, x8, x9⟩ := shx
        rw [s10, y6]
        refine K_copy (d := d + 2) s11 y7 ?_
        rw [cy.2.2.2.1]
        have F1 : Fr AnS H (setF H 1094 (unA U y).2.2.1) := Fr_setF ⟨Or.inl rfl, rfl⟩ ⟨Or.inr rfl, rfl⟩
        have g1 : getF (setF H 1094 (unA U y).2.2.1) 1094 = (unA U y).2.2.1 := getF_setF
        generalize setF H 1094 (unA U y).2.2.1 = A at F1 g1 ⊢
        have eC : ∀ g a, hC A g a = hC H g a := fun g a => by rw [F1.2.1]
        have eT : ∀ a, tg A a = tg H a := fun a => fr_tg F1 a
        have hax : adU x + 3 ≠ 1094 := by unfold adU; have := hx.1; have := hx.2; have := hu.2.2.1; omega
        have o3 : getF A (adU x + 3) = (unA U x).2.2.1 := by rw [fr_getF F1 (fun k => hax k.2) (fun k => hax k.2)]; exact cx.2.2.2.1
        rw [eC 1213, s10, eC 1003, x6]
        refine ⟨by rw [eT]; exact s1, by rw [eT]; exact x1, 1094, rfl, by rw [eT]; exact s11, ?_⟩
        refine K_divide (d := d) (by rw [eT]; exact s11) (by rw [eT]; exact x7) (by rw [g1]; exact oky.2.2.2.2.1) (by rw [o3]; exact okx.2.2.2.2.1) (fun g og hg => ⟨fun k => (by cases k), fun _ => ?_⟩) (fun hg => ⟨fun _ => ?_, fun k => (by cases k)⟩)
        · rw [getF_1 g1, getF_2 g1, getF_1 o3, getF_2 o3] at hg
          have F2 : Fr AnS A (setF A 1094 g) := Fr_setF ⟨Or.inl rfl, rfl⟩ ⟨Or.inr rfl, rfl⟩
          have g2 : getF (setF A 1094 g) 1094 = g := getF_setF
          generalize setF A 1094 g = B at F2 g2 ⊢
          have FB := F1.tr F2
          have := hq B FB
          rw [eg, hg] at this
          rw [FB.2.1, s10]
          refine ⟨by rw [fr_tg FB]; exact s1, 1094, rfl, by rw [fr_tg FB]; exact s11, K_part (d := d + 2) (by rw [fr_tg FB]; exact s11) ?_⟩
          rw [getF_1 g2, getF_2 g2]; exact this
        · rw [getF_1 g1, getF_2 g1, getF_1 o3, getF_2 o3] at hg
          have := hq A F1
          rw [eg, hg] at this; exact this
      · unfold ratioG; rw [if_neg (fun k => by have := k.2.2.2.2; rw [ho2] at this; cases this)]
    · rw [n2 hy]
      refine ⟨fun _ => no ?_, fun b hb => (by cases hb)⟩
      unfold ratioG; rw [if_neg (fun k => hy k.2.1)]
  · rw [n1 hx]
    refine ⟨fun _ => no ?_, fun a ha => (by cases ha)⟩
    unfold ratioG; rw [if_neg (fun k => hx k.1)]
theorem tld_red {p q : Int32} (hp : tldN p) (hq : tldN q) : p.toInt64.toInt ≠ -9223372036854775808 ∧ 0 < q.toInt64.toInt := by
  rw [i64_of32, i64_of32]
  have := hp.1; have := hq.1
  exact ⟨by omega, by omega⟩
theorem K_cnearest {d n : Nat} {q : HP → Int32 → Prop} {H : HP} {U : Nat → UV} {x p r : Int32} (s : shP H) (hu : CU H 3 n U) (hok : ∀ i, okU (U i)) (hq : ∀ H', Fr AnS H H' → q H' (nearestA n U x p r)) : CI (d + 4) 0 0 mX11_nearest [rv (some 0), .int x, .int p, .int r] H q := by
  obtain ⟨s1, s2, s3, -, -, -, -, -, -, -, s10, -, -, -, -, -, s11, s12⟩ := id s
  refine C_X11_nearest ?_
  unfold wb_X11_nearest_0
  rw [s3]
  unfold nearestA at hq
  refine ⟨s1, 3, rfl, hu.1.1, K_at3 (d := d + 2) hu fun o p1 n1 t1 => ?_⟩
  by_cases hx : inN n x
  · rw [p1 hx]
    obtain ⟨shx, cx⟩ := adU_sh hu hx
    have okx : okU (unA U x) := hok _
    rw [if_pos hx] at hq
    refine ⟨fun k => (by cases k), fun a ha => ?_⟩
    injection ha with ha
    subst ha
    refine K_isTold (d := d + 2) (fun tp => ⟨fun k => (by cases k), fun _ => K_isTold (d := d + 2) (fun tq => ⟨fun _ => ⟨s1, 1094, s10, s11, ?_⟩, fun k => (by cases k)⟩) (fun tq => ⟨fun k => (by cases k), fun _ => ?_⟩)⟩) (fun tp => ⟨fun _ => ?_, fun k => (by cases k)⟩)
    · rw [if_pos ⟨tp, tq⟩] at hq
      obtain ⟨c1, c2⟩ := tld_red tp tq
      obtain ⟨x1, x2, x3, x4, x5, x6, x7, x8, x9⟩ := id shx
      rw [s10]
      refine K_set (d := d + 1) s11 c1 c2 ?_
      have or0 := redF_ok c1 c2
      generalize redF p.toInt64 r.toInt64 = f0 at or0 hq ⊢
      have F1 : Fr AnS H (setF H 1094 f0) := Fr_setF ⟨Or.inl rfl, rfl⟩ ⟨Or.inr rfl, rfl⟩
      have g1 : getF (setF H 1094 f0) 1094 = f0 := getF_setF
      generalize setF H 1094 f0 = A at F1 g1 ⊢
      have eC : ∀ g a, hC A g a = hC H g a := fun g a => by rw [F1.2.1]
      have eT : ∀ a, tg A a = tg H a := fun a => fr_tg F1 a
      have hlow : adU x + 5 ≤ 105 := by unfold adU; have := hx.1; have := hx.2; have := hu.2.2.1; omega
      have o3 : getF A (adU x + 3) = (unA U x).2.2.1 := by rw [fr_getF F1 (fun k => by omega) (fun k => by omega)]; exact cx.2.2.2.1
      rw [eC 1213, s10, eC 1003, x6]
      refine ⟨by rw [eT]; exact s1, by rw [eT]; exact x1, 1094, rfl, by rw [eT]; exact s11, ?_⟩
      refine K_multiply (d := d) (by rw [eT]; exact s11) (by rw [eT]; exact x7) (by rw [g1]; exact or0) (by rw [o3]; exact okx.2.2.2.2.1) (fun g og hg => ⟨fun k => (by cases k), fun _ => ?_⟩) (fun hg => ⟨fun _ => ?_, fun k => (by cases k)⟩)
      · rw [getF_1 g1, getF_2 g1, getF_1 o3, getF_2 o3] at hg
        have F2 : Fr AnS A (setF A 1094 g) := Fr_setF ⟨Or.inl rfl, rfl⟩ ⟨Or.inr rfl, rfl⟩
        have g2 : getF (setF A 1094 g) 1094 = g := getF_setF
        generalize setF A 1094 g = B at F2 g2 ⊢
        have FB := F1.tr F2
        have hqB := hq B FB
        rw [hg] at hqB
        have uB : CU B 3 n U := fr_CU FB (fun g x k1 k2 k => by omega) hu
        obtain ⟨shB, cB⟩ := adU_sh uB hx
        rw [FB.2.1, s3, s10]
        refine ⟨by rw [fr_tg FB]; exact s1, 3, rfl, uB.1.1, K_nearestBelow (d := d) uB (fun i _ => hok i) shB cB (by rw [fr_tg FB]; exact s11) (by rw [getF_2 g2]; exact og.1) ?_⟩
        rw [g2]; exact hqB
      · rw [getF_1 g1, getF_2 g1, getF_1 o3, getF_2 o3] at hg
        have := hq A F1
        rw [hg] at this; exact this
    · rw [if_neg (fun k => tq k.2)] at hq
      exact hq H Fr.rf
    · rw [if_neg (fun k => tp k.1)] at hq
      exact hq H Fr.rf
  · rw [n1 hx]
    rw [if_neg hx] at hq
    exact ⟨fun _ => hq H Fr.rf, fun a ha => (by cases ha)⟩
