
/-! ===== the class: parted ===== -/
theorem K_at3 {d n : Nat} {q : HP → Option Nat → Prop} {H : HP} {U : Nat → UV} {x : Int32} (hu : CU H 3 n U) (hq : ∀ o : Option Nat, (inN n x → o = some (adU x)) → (¬ inN n x → o = none) → (∀ y, o = some y → tg H y = 10) → q H o) : CR (d + 1) 0 0 mX10_at [rv (some 3), .int x] H q := by
  refine K_at hu (fun i hi e => ?_) (fun h => ?_)
  · obtain ⟨i1, i2⟩ := inN_of hu.2.2.1 hi e
    refine hq _ (fun _ => ?_) (fun k => absurd i1 k) (fun y hy => ?_)
    · unfold adU; rw [i2]
    · injection hy with hy
      subst hy
      exact (hu.1.2.2.2 i (by have := hu.2.2.1; omega)).2.1
  · exact hq none (fun k => absurd k (notN h)) (fun _ => rfl) (fun y hy => by cases hy)
abbrev PtdS : Nat → Nat → Prop := fun g x => PtS g x ∨ (g = 4598 ∧ x = 1096)
theorem parted_core {d n many : Nat} {q : HP → Int64 → Prop} {H : HP} {pr : Bool} {P : PG} {U : Nat → UV} {a b c k w : Int32} (s : shP H) (cp : CPr H pr P) (ok : okPG P) (hu : CU H 3 n U) (hok : ∀ i, okU (U i)) (h1 : 1 ≤ many) (h3 : many ≤ 3) (hm : many = mny b c) (hq : ∀ H', Fr PtdS H H' → q H' (partA (partedG pr P n U a b c k) w)) : wb_X11_parted_33 (d + 4) q 0 a b c k w (Int32.ofNat many) H := by
  obtain ⟨s1, s2, s3, -, -, -, -, -, -, -, s10, s11, s12, -, -, s15, s16, s17⟩ := id s
  unfold wb_X11_parted_33
  rw [s3]
  refine ⟨s1, 3, rfl, hu.1.1, K_at3 (d := d + 3) hu fun o1 p1 n1 t1 => ⟨1096, s12, isA_of s15 (by decide) (by decide), by rw [ln_of s15]; exact vpi_of (n := 0) (m := 3) (by decide) (by decide), t1, ?_⟩⟩
  have ez : (0 : Int32).toNatClampNeg = 0 := rfl
  have e1 : (1 : Int32).toNatClampNeg = 1 := rfl
  have e2 : (2 : Int32).toNatClampNeg = 2 := rfl
  rw [tg_of s15, ez, e1, e2]
  have F1 : Fr PtdS H (sR H 4598 1096 0 o1) := Fr_sR (Or.inr ⟨rfl, rfl⟩)
  have r10 : hR (sR H 4598 1096 0 o1) 4598 1096 0 = o1 := by
    simp only [hRs, Nat.reduceEqDiff, false_and, if_false, and_self, if_true]
  generalize sR H 4598 1096 0 o1 = A at F1 r10 ⊢
  have aT : ∀ a, tg A a = tg H a := fun a => fr_tg F1 a
  have aC : ∀ g a, hC A g a = hC H g a := fun g a => by rw [F1.2.1]
  have uA : CU A 3 n U := fr_CU F1 (fun g x k1 k2 k => by omega) hu
  have sA : hT A 1096 = (4598, 3) := by rw [F1.1]; exact s15
  rw [aC 1201, s3, aC 1215, s12]
  refine ⟨by rw [aT]; exact s1, 3, rfl, uA.1.1, K_at3 (d := d + 3) uA fun o2 p2 n2 t2 => ⟨1096, rfl, isA_of sA (by decide) (by decide), by rw [ln_of sA]; exact vpi_of (n := 1) (m := 3) (by decide) (by decide), t2, ?_⟩⟩
  rw [tg_of sA]
  have F2 : Fr PtdS A (sR A 4598 1096 1 o2) := Fr_sR (Or.inr ⟨rfl, rfl⟩)
  have r20 : hR (sR A 4598 1096 1 o2) 4598 1096 0 = o1 := by
    simp only [hRs, Nat.reduceEqDiff, false_and, and_false, if_false, and_self, if_true]; exact r10
  have r21 : hR (sR A 4598 1096 1 o2) 4598 1096 1 = o2 := by
    simp only [hRs, Nat.reduceEqDiff, false_and, if_false, and_self, if_true]
  generalize sR A 4598 1096 1 o2 = B at F2 r20 r21 ⊢
  have FB := F1.tr F2
  have bT : ∀ a, tg B a = tg H a := fun a => fr_tg FB a
  have bC : ∀ g a, hC B g a = hC H g a := fun g a => by rw [FB.2.1]
  have uB : CU B 3 n U := fr_CU FB (fun g x k1 k2 k => by omega) hu
  have sB : hT B 1096 = (4598, 3) := by rw [FB.1]; exact s15
  rw [bC 1201, s3, bC 1215, s12]
  refine ⟨by rw [bT]; exact s1, 3, rfl, uB.1.1, K_at3 (d := d + 3) uB fun o3 p3 n3 t3 => ⟨1096, rfl, isA_of sB (by decide) (by decide), by rw [ln_of sB]; exact vpi_of (n := 2) (m := 3) (by decide) (by decide), t3, ?_⟩⟩
  rw [tg_of sB]
  have F3 : Fr PtdS B (sR B 4598 1096 2 o3) := Fr_sR (Or.inr ⟨rfl, rfl⟩)
  have r30 : hR (sR B 4598 1096 2 o3) 4598 1096 0 = o1 := by
    simp only [hRs, Nat.reduceEqDiff, false_and, and_false, if_false, and_self, if_true]; exact r20
  have r31 : hR (sR B 4598 1096 2 o3) 4598 1096 1 = o2 := by
    simp only [hRs, Nat.reduceEqDiff, false_and, and_false, if_false, and_self, if_true]; exact r21
  have r32 : hR (sR B 4598 1096 2 o3) 4598 1096 2 = o3 := by
    simp only [hRs, Nat.reduceEqDiff, false_and, if_false, and_self, if_true]
  generalize sR B 4598 1096 2 o3 = D at F3 r30 r31 r32 ⊢
  have FD := FB.tr F3
  have dT : ∀ a, tg D a = tg H a := fun a => fr_tg FD a
  have dC : ∀ g a, hC D g a = hC H g a := fun g a => by rw [FD.2.1]
  have uD : CU D 3 n U := fr_CU FD (fun g x k1 k2 k => by omega) hu
  have cD : CPr D pr P := fr_CPr ok FD (fun k => by omega) (fun k => by omega) (fun k => by omega) (fun g x k1 k2 k => by omega) cp
  have shD : shP D := by
    unfold shP at s ⊢
    rw [FD.1, FD.2.1, dT, dT, dT]; exact s
  have spD : SPL D n (us3 a b c) := fun i hi => by
    have h : i = 0 ∨ i = 1 ∨ i = 2 := by omega
    rcases h with rfl | rfl | rfl
    · rw [r30]; exact ⟨p1, n1⟩
    · rw [r31]; exact ⟨p2, n2⟩
    · rw [r32]; exact ⟨p3, n3⟩
  have no : partedG pr P n U a b c k = none → q D (-9223372036854775808) := fun h => by
    have := hq D FD
    rw [h] at this; exact this
  have hmi := iN_toInt (n := many) (by omega)
  rw [i32_lt, i32_le, hmi, i32_0]
  refine ⟨by rw [dT]; exact s1, K_resultSide (d := d + 1) shD cD ok (fun la hp hla1 hla2 cf => ?_) (fun hp => ?_)⟩
  · cases hs : sideP P 0 with
    | none =>
      have hn : partedG pr P n U a b c k = none := by unfold partedG; rw [if_pos hp, hs]
      exact ⟨fun _ => no hn, fun _ => ⟨fun _ => no hn, fun _ => ⟨fun _ => no hn, fun y hy => (by cases hy)⟩⟩⟩
    | some i =>
      have eg : partedG pr P n U a b c k = partedV (gV P i) n U (us3 a b c) many k := by unfold partedG; rw [if_pos hp, hs, hm]
      have hi := sideP_lt ok hs
      have ov := okV_at ok hs
      have h60 : gH P ≤ 60 := by have := ok.2.1; have := ok.2.2.1; omega
      have di := stA_d la i
      have ss := (cf.1.2.2.2.2.2.2.2 i (by omega)).2
      obtain ⟨z1, -, -, -, -, -, -, -, -, z2, z3, z4, z5⟩ := id ss
      have jv : JV5 D (stA la i) (gV P i) := (cf.2.1.2.2.2.2.2 i hi).1
      refine ⟨fun h => no ?_, fun h => ⟨fun h' => no ?_, fun h' => ⟨fun hy => (by cases hy), fun y hy => ?_⟩⟩⟩
      · rw [eg]; unfold partedV
        rw [if_neg (fun k => by have := k.1.1; omega)]
      · rw [eg]; unfold partedV
        rw [if_neg (fun k => by have := k.1.2; omega)]
      · have hy : some (stA la i) = some y := hy
        injection hy with hy
        subst hy
        have hkk : k = Int32.ofNat k.toInt.toNat := iN_inj (by omega) (by omega)
        refine ⟨z1, stA la i + 6, z4, z5, ?_⟩
        rw [getF_1 jv.2, i64_lt, i64_0]
        refine ⟨fun hneg => no ?_, fun hnn => ⟨by rw [dT]; exact s1, ?_⟩⟩
        · rw [eg]; unfold partedV
          rw [if_neg (fun k => by have := k.2.2; omega)]
        · refine K_splits (d := d + 1) shD uD hok spD h3 ss jv (fun hsp => ⟨fun _ => ⟨by rw [dT]; exact s1, ?_⟩, fun k => (by cases k)⟩) (fun hsp => ⟨fun k => (by cases k), fun _ => no ?_⟩)
          · have ep : partedG pr P n U a b c k = prtF (fun i => U (us3 a b c i).toInt.toNat) many k.toInt.toNat many 0 (gV P i).2 := by
              rw [eg]; unfold partedV
              rw [if_pos ⟨⟨by omega, by omega⟩, hsp, by omega⟩]
            have hcall := K_cpartOf (d := d) (q := fun H38 b40 => (b40 = false → q H38 (-9223372036854775808 : Int64)) ∧ (b40 = true → tg H38 0 = 12 ∧ (∃ a43, (hC H38 1213 0) = some a43 ∧ (tg H38 a43 = 4 ∧ (CJ (d + 4) 0 0 mX3_part [rv (hC H38 1213 0), .int w] H38 (fun H42 r45 => q H42 r45)))))) shD uD hok spD h3 (kk := k.toInt.toNat) (by omega) hsp ss jv ov (fun f of hf H' F' g' => ⟨fun k => (by cases k), fun _ => ?_⟩) (fun hf H' F' => ⟨fun _ => ?_, fun k => (by cases k)⟩)
            · rw [← hkk] at hcall; exact hcall
            · have F9 := FD.tr (F'.mono fun g x k => (Or.inl k : PtdS g x))
              have := hq H' F9
              rw [ep, hf] at this
              refine ⟨by rw [fr_tg F9]; exact s1, 1094, by rw [F9.2.1]; exact s10, by rw [fr_tg F9]; exact s16, ?_⟩
              rw [F9.2.1, s10]
              refine K_part (d := d + 3) (by rw [fr_tg F9]; exact s16) ?_
              rw [getF_1 g', getF_2 g']; exact this
            · have F9 := FD.tr (F'.mono fun g x k => (Or.inl k : PtdS g x))
              have := hq H' F9
              rw [ep, hf] at this; exact this
          · rw [eg]; unfold partedV
            rw [if_neg (fun k => hsp k.2.1)]
  · have hn : partedG pr P n U a b c k = none := by
      unfold partedG; rw [if_neg (fun k => by rw [hp] at k; cases k)]
    exact ⟨fun _ => no hn, fun _ => ⟨fun _ => no hn, fun _ => ⟨fun _ => no hn, fun y hy => (by cases hy)⟩⟩⟩
theorem K_cparted {d n : Nat} {q : HP → Int64 → Prop} {H : HP} {pr : Bool} {P : PG} {U : Nat → UV} {a b c k w : Int32} (s : shP H) (cp : CPr H pr P) (ok : okPG P) (hu : CU H 3 n U) (hok : ∀ i, okU (U i)) (hq : ∀ H', Fr PtdS H H' → q H' (partA (partedG pr P n U a b c k) w)) : CJ (d + 5) 0 0 mX11_parted [rv (some 0), .int a, .int b, .int c, .int k, .int w] H q := by
  refine C_X11_parted ?_
  unfold wb_X11_parted_0
  have m1 : b = -1 → c = -1 → wb_X11_parted_33 (d + 4) q 0 a b c k w (1 : Int32) H := fun hb hc => parted_core (d := d) (many := 1) s cp ok hu hok (by decide) (by decide) (by unfold mny; rw [if_pos hc, if_pos hb]) hq
  have m2 : ¬ b = -1 → c = -1 → wb_X11_parted_33 (d + 4) q 0 a b c k w (2 : Int32) H := fun hb hc => parted_core (d := d) (many := 2) s cp ok hu hok (by decide) (by decide) (by unfold mny; rw [if_pos hc, if_neg hb]) hq
  have m3 : ¬ b = -1 → ¬ c = -1 → wb_X11_parted_33 (d + 4) q 0 a b c k w (3 : Int32) H := fun hb hc => parted_core (d := d) (many := 3) s cp ok hu hok (by decide) (by decide) (by unfold mny; rw [if_neg hc]) hq
  refine ⟨fun hb => ⟨fun hb' => ⟨fun hc => m3 hb hc, fun hc => m2 hb hc⟩, fun hb' => absurd hb' hb⟩, fun hb => ⟨fun hc => ⟨fun hb' => absurd hb hb', fun hb' => m1 hb hc⟩, fun hc => ?_⟩⟩
  have hn : partedG pr P n U a b c k = none := by
    unfold partedG
    by_cases hp : pr = true
    · rw [if_pos hp]
      cases sideP P 0 with
      | none => rfl
      | some i =>
        show partedV _ _ _ _ _ _ = none
        unfold partedV
        have hm : mny b c = 3 := by unfold mny; rw [if_neg hc]
        rw [hm]
        refine if_neg fun k => ?_
        have := (k.2.1 1 (by decide)).1.1
        have e : us3 a b c 1 = -1 := by unfold us3; rw [if_neg (by decide), if_pos rfl]; exact hb
        rw [e] at this
        exact absurd this (by decide)
    · rw [if_neg hp]
  have := hq H Fr.rf
  rw [hn] at this; exact this
