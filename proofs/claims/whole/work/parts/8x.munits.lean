
/-! ===== the reference: name, power, scale, ratio, nearest ===== -/
theorem part_nn {a b : Int64} (ha : a.toInt ≠ -9223372036854775808) (hb : 0 < b.toInt) : (0 ≤ a.toInt → 0 ≤ (a / gcL a b).toInt) ∧ (0 < a.toInt → 0 < (a / gcL a b).toInt) := by
  obtain ⟨g, a', b', g1, -, g3, -, g5, -⟩ := gcL_spec ha hb
  rw [g5, g3]
  refine ⟨fun h => Classical.byContradiction fun k => ?_, fun h => Classical.byContradiction fun k => ?_⟩
  · have := Int.mul_neg_of_pos_of_neg g1 (show a' < 0 by omega)
    omega
  · have := Int.mul_nonneg (show 0 ≤ g by omega) (show 0 ≤ -a' by omega)
    rw [Int.mul_neg] at this; omega
theorem mulF_sg {a b c d : Int64} {f : FR} (h1 : okF (a, b)) (hc : c.toInt ≠ -9223372036854775808) (hd : 0 < d.toInt) (h : mulF a b c d = some f) : (0 ≤ a.toInt → 0 ≤ c.toInt → 0 ≤ f.1.toInt) ∧ (0 < a.toInt → 0 < c.toInt → 0 < f.1.toInt) := by
  have h10 : 0 < b.toInt := h1.1
  have h11 : a.toInt ≠ -9223372036854775808 := h1.2.1
  obtain ⟨p1, p2⟩ := part_nn h11 hd
  obtain ⟨r1, r2⟩ := part_nn hc h10
  unfold mulF at h
  split at h
  · rename_i hf
    cases h
    show (0 ≤ a.toInt → 0 ≤ c.toInt → 0 ≤ (prL (a / gcL a d) (c / gcL c b)).toInt) ∧ (0 < a.toInt → 0 < c.toInt → 0 < (prL (a / gcL a d) (c / gcL c b)).toInt)
    rw [prL_fit hf.1]
    exact ⟨fun x y => Int.mul_nonneg (p1 x) (r1 y), fun x y => Int.mul_pos (p2 x) (r2 y)⟩
  · cases h
theorem mulF_nn {a b c d : Int64} {f : FR} (h1 : okF (a, b)) (hc : 0 < c.toInt) (hd : 0 < d.toInt) (ha : 0 ≤ a.toInt) (h : mulF a b c d = some f) : 0 ≤ f.1.toInt := (mulF_sg h1 (by omega) hd h).1 ha (by omega)
theorem unA_of {n j : Nat} {U : Nat → UV} {x : Int32} (hn : n ≤ 20) (hj : j < n) (e : x = Int32.ofNat j) : inN n x ∧ unA U x = U j := by
  obtain ⟨i1, i2⟩ := inN_of hn hj e
  exact ⟨i1, by unfold unA; rw [i2]⟩
theorem K_mname {d n m : Nat} {q : HP → Int32 → Prop} {H : HP} {U : Nat → UV} {x i : Int32} (hu : MU H m n U) (hok : ∀ i, okU (U i)) (hq : q H (nameA n U x i)) : CI (d + 3) 0 0 mX12_name [rv (some m), .int x, .int i] H q := by
  have sm := hu.1
  refine C_X12_name ?_
  unfold wb_X12_name_0
  unfold nameA at hq
  have em1 : (-1 : Int64).toInt = -1 := rfl
  refine ⟨sm.1, K_isUnit (d := d) hu (fun j hj e => ⟨fun k => (by cases k), fun _ => ⟨sm.1, ?_⟩⟩) (fun h => ⟨fun _ => ?_, fun k => (by cases k)⟩)⟩
  · obtain ⟨i1, i2⟩ := unA_of (U := U) hu.2.2.1 hj e
    have hj20 : j < 20 := by have := hu.2.2.1; omega
    rw [i2] at hq
    have ok := hok j
    have h4 := ok.2.1
    have cu := hu.2.2.2 j hj
    subst e
    refine K_lettersOf (d := d + 1) sm hj20 cu ok ?_
    refine K_isIn (d := d + 1) ?_
    rw [i64_of32, i64_of32, held_last (by omega), em1]
    refine ⟨fun hb => ?_, fun hb => ?_⟩
    · have hb := of_decide_eq_true hb
      rw [if_pos ⟨i1, hb.1, by omega⟩] at hq
      obtain ⟨a1, a2, a3, a4⟩ := mA_name sm
      rw [i32_le, i32_0]
      refine ⟨fun h0 => ⟨sm.1, m + 1, a1, a2, ?_, ?_⟩, fun h0 => ⟨sm.1, ?_⟩⟩
      · have ei : i = Int32.ofNat i.toInt.toNat := iN_inj (by omega) (by omega)
        rw [ei, ix4 (by omega), a4]; exact vpi_of (by omega) (by decide)
      · have ei : i = Int32.ofNat i.toInt.toNat := iN_inj (by omega) (by omega)
        have hne : ¬ i = -1 := fun k => by rw [k] at h0; exact absurd h0 (by decide)
        rw [if_neg hne] at hq
        have hc := cu.1 i.toInt.toNat (by omega)
        have ex : (4 : Int32) * Int32.ofNat j + i = Int32.ofNat (4 * j + i.toInt.toNat) := by
          rw [← ix4 (by omega), ← ei]
        rw [ex, a3, iN_cl (by omega), hc]; exact hq
      · have he : i = -1 := i32_ext (by rw [i32_m1]; omega)
        rw [if_pos he] at hq
        exact K_lettersOf (d := d + 1) sm hj20 cu ok hq
    · have hb := of_decide_eq_false hb
      rw [if_neg (fun k => hb ⟨k.2.1, by omega⟩)] at hq; exact hq
  · rw [if_neg (fun k => notN h k.1)] at hq; exact hq
theorem K_mpower {d n m : Nat} {q : HP → Int32 → Prop} {H : HP} {U : Nat → UV} {x b : Int32} (hu : MU H m n U) (hq : q H (powerA n U x b)) : CI (d + 3) 0 0 mX12_power [rv (some m), .int x, .int b] H q := by
  have sm := hu.1
  refine C_X12_power ?_
  unfold wb_X12_power_0
  unfold powerA at hq
  have e4 : (4 : Int64).toInt = 4 := rfl
  refine ⟨sm.1, K_isUnit (d := d) hu (fun j hj e => ⟨fun k => (by cases k), fun _ => K_isIn (d := d + 1) ?_⟩) (fun h => ⟨fun _ => ?_, fun k => (by cases k)⟩)⟩
  · obtain ⟨i1, i2⟩ := unA_of (U := U) hu.2.2.1 hj e
    have hj20 : j < 20 := by have := hu.2.2.1; omega
    rw [i2] at hq
    have cu := hu.2.2.2 j hj
    obtain ⟨a1, a2, a3, a4⟩ := mA_power sm
    subst e
    rw [i64_of32, i64_0, e4]
    refine ⟨fun hb => ?_, fun hb => ⟨sm.1, m + 2, a1, a2, ?_, ?_⟩⟩
    · have hb := of_decide_eq_false hb
      rw [if_neg (fun k => hb ⟨k.2.1, by omega⟩)] at hq; exact hq
    · have hb := of_decide_eq_true hb
      have eb : b = Int32.ofNat b.toInt.toNat := iN_inj (by omega) (by omega)
      rw [eb, ix5 (by omega), a4]; exact vpi_of (by omega) (by decide)
    · have hb := of_decide_eq_true hb
      have eb : b = Int32.ofNat b.toInt.toNat := iN_inj (by omega) (by omega)
      have ex : (5 : Int32) * Int32.ofNat j + b = Int32.ofNat (5 * j + b.toInt.toNat) := by
        rw [← ix5 (by omega), ← eb]
      rw [if_pos ⟨i1, hb.1, by omega⟩] at hq
      rw [ex, a3, iN_cl (by omega), cu.2.2.1 _ (by omega)]; exact hq
  · rw [if_neg (fun k => notN h k.1)] at hq; exact hq
theorem K_mscale {d n m : Nat} {q : HP → Int64 → Prop} {H : HP} {U : Nat → UV} {x w p : Int32} (hu : MU H m n U) (hq : q H (scaleA n U x w p)) : CJ (d + 3) 0 0 mX12_scale [rv (some m), .int x, .int w, .int p] H q := by
  have sm := hu.1
  refine C_X12_scale ?_
  unfold wb_X12_scale_0
  unfold scaleA at hq
  have e1 : (1 : Int64).toInt = 1 := rfl
  refine ⟨sm.1, K_isUnit (d := d) hu (fun j hj e => ⟨fun k => (by cases k), fun _ => K_isIn (d := d + 1) ?_⟩) (fun h => ⟨fun _ => ?_, fun k => (by cases k)⟩)⟩
  · obtain ⟨i1, i2⟩ := unA_of (U := U) hu.2.2.1 hj e
    have hj20 : j < 20 := by have := hu.2.2.1; omega
    rw [i2] at hq
    obtain ⟨-, -, -, u4, u5, u6, u7⟩ := hu.2.2.2 j hj
    obtain ⟨a1, a2, a3, a4⟩ := mA_factorUp sm
    obtain ⟨b1, b2, b3, b4⟩ := mA_factorLow sm
    obtain ⟨c1, c2, c3, c4⟩ := mA_offsetUp sm
    obtain ⟨d1, d2, d3, d4⟩ := mA_offsetLow sm
    subst e
    rw [i64_of32, i64_0, e1]
    have part1 : ∀ f : FR, (p = 0 ∨ p = 1) → partA (some f) p = if p = 0 then f.1 else f.2 := fun f hp => by
      show (if p = 0 then f.1 else if p = 1 then f.2 else _) = _
      by_cases h0 : p = 0
      · rw [if_pos h0, if_pos h0]
      · rw [if_neg h0, if_neg h0, if_pos (hp.resolve_left h0)]
    refine ⟨fun hb => ?_, fun hb => K_isPart (d := d) (fun hp => ⟨fun _ => ⟨fun hw => ⟨sm.1, m + 5, c1, c2, by rw [c4]; exact vpi_of hj20 (by decide), m + 6, d1, d2, by rw [d4]; exact vpi_of hj20 (by decide), K_partOf (d := d + 1) ?_⟩, fun hw => ⟨sm.1, m + 3, a1, a2, by rw [a4]; exact vpi_of hj20 (by decide), m + 4, b1, b2, by rw [b4]; exact vpi_of hj20 (by decide), K_partOf (d := d + 1) ?_⟩⟩, fun k => (by cases k)⟩) (fun hp => ⟨fun k => (by cases k), fun _ => ?_⟩)⟩
    · have hb := of_decide_eq_false hb
      rw [if_neg (fun k => hb k.2)] at hq; exact hq
    · have hb := of_decide_eq_true hb
      rw [if_pos ⟨i1, hb⟩, if_neg hw, part1 _ hp] at hq
      rw [c3, d3, iN_cl (by omega), u6, u7]; exact hq
    · have hb := of_decide_eq_true hb
      rw [if_pos ⟨i1, hb⟩, if_pos hw, part1 _ hp] at hq
      rw [a3, b3, iN_cl (by omega), u4, u5]; exact hq
    · have hb := of_decide_eq_true hb
      rw [if_pos ⟨i1, hb⟩] at hq
      unfold partA at hq
      simp only at hq
      rw [if_neg (fun k => hp (Or.inl k)), if_neg (fun k => hp (Or.inr k))] at hq; exact hq
  · rw [if_neg (fun k => notN h k.1)] at hq; exact hq
theorem K_mratio {d n m : Nat} {q : HP → Int64 → Prop} {H : HP} {U : Nat → UV} {x y p : Int32} (hu : MU H m n U) (hok : ∀ i, okU (U i)) (hq : ∀ H', Fr (UpS m) H H' → q H' (partA (ratioG n U x y) p)) : CJ (d + 5) 0 0 mX12_ratio [rv (some m), .int x, .int y, .int p] H q := by
  have sm := hu.1
  refine C_X12_ratio ?_
  unfold wb_X12_ratio_0
  have no : ratioG n U x y = none → q H (-9223372036854775808) := fun h => by
    have := hq H Fr.rf
    rw [h] at this; exact this
  refine ⟨sm.1, K_isUnit (d := d + 2) hu (fun i hi e => ⟨fun k => (by cases k), fun _ => ⟨sm.1, K_isUnit (d := d + 2) hu (fun j hj e' => ⟨fun k => (by cases k), fun _ => K_isPart (d := d + 2) (fun hp => ⟨fun k => (by cases k), fun _ => ⟨sm.1, ?_⟩⟩) (fun hp => ⟨fun _ => ?_, fun k => (by cases k)⟩)⟩) (fun h => ⟨fun _ => no ?_, fun k => (by cases k)⟩)⟩⟩) (fun h => ⟨fun _ => no ?_, fun k => (by cases k)⟩)⟩
  · obtain ⟨x1, x2⟩ := unA_of (U := U) hu.2.2.1 hi e
    obtain ⟨y1, y2⟩ := unA_of (U := U) hu.2.2.1 hj e'
    have hi20 : i < 20 := by have := hu.2.2.1; omega
    have hj20 : j < 20 := by have := hu.2.2.1; omega
    have cui := hu.2.2.2 i hi
    have cuj := hu.2.2.2 j hj
    subst e
    subst e'
    refine K_areLike (d := d + 3) sm hi20 hj20 cui cuj ⟨fun hl => no ?_, fun hl => ⟨sm.1, K_mhasOffset (d := d + 3) sm hi20 cui ⟨fun ho => no ?_, fun ho => ⟨sm.1, K_mhasOffset (d := d + 3) sm hj20 cuj ⟨fun ho2 => ⟨sm.1, ?_⟩, fun ho2 => no ?_⟩⟩⟩⟩⟩
    · unfold ratioG; rw [x2, y2, if_neg (fun k => by have := k.2.2.1; rw [hl] at this; cases this)]
    · unfold ratioG; rw [x2, y2, if_neg (fun k => by have := k.2.2.2.1; rw [ho] at this; cases this)]
    · have eg : ratioG n U (Int32.ofNat i) (Int32.ofNat j) = divF (U j).2.2.1.1 (U j).2.2.1.2 (U i).2.2.1.1 (U i).2.2.1.2 := by unfold ratioG; rw [x2, y2, if_pos ⟨x1, y1, hl, ho, ho2⟩]
      have F0 : Fr (UpS m) H (sI H 1321 m 0 (0 : Int32)) := Fr_sI ⟨rfl, Or.inr (Or.inr rfl)⟩
      have z0 : hI (sI H 1321 m 0 (0 : Int32)) 1321 m 0 = 0 := by rw [hIs_i, if_pos rfl]
      generalize sI H 1321 m 0 (0 : Int32) = A at F0 z0 ⊢
      have sA := fr_shM F0 sm
      obtain ⟨a1, a2, a3, a4⟩ := mA_factorUp sA
      obtain ⟨b1, b2, b3, b4⟩ := mA_factorLow sA
      have hl' := F0.2.2.2.2.2.1
      refine ⟨m + 3, a1, a2, by rw [a4]; exact vpi_of hj20 (by decide), m + 4, b1, b2, by rw [b4]; exact vpi_of hj20 (by decide), by rw [a4]; exact vpi_of hi20 (by decide), by rw [b4]; exact vpi_of hi20 (by decide), ?_⟩
      rw [a3, b3, iN_cl (n := i) (by omega), iN_cl (n := j) (by omega), hl' _ _ (fun k => by omega), hl' _ _ (fun k => by omega), cui.2.2.2.1, cui.2.2.2.2.1, cuj.2.2.2.1, cuj.2.2.2.2.1]
      have p1 : okF ((U i).2.2.1.1, (U i).2.2.1.2) := (hok i).2.2.2.2.1
      have p1' : 0 < (U i).2.2.1.1.toInt := (hok i).2.2.2.2.2.1
      have p2 : okF ((U j).2.2.1.1, (U j).2.2.1.2) := (hok j).2.2.2.2.1
      have part1 : ∀ f : FR, partA (some f) p = if p = 0 then f.1 else f.2 := fun f => by
        show (if p = 0 then f.1 else if p = 1 then f.2 else _) = _
        by_cases h0 : p = 0
        · rw [if_pos h0, if_pos h0]
        · rw [if_neg h0, if_neg h0, if_pos (hp.resolve_left h0)]
      refine K_by (d := d) sA.1 (Or.inl z0) p2 p1.2.1 p1.1 (by omega) (fun f hf => ⟨sA.1, ?_⟩) (fun hf f => ⟨sA.1, ?_⟩)
      · have FU : Fr (UpS m) A (setM A m f) := Fr_setM ⟨rfl, Or.inl rfl⟩ ⟨rfl, Or.inr (Or.inl rfl)⟩
        have g1 : getM (setM A m f) m = f := getM_setM
        have z1 : hI (setM A m f) 1321 m 0 = 0 := z0
        generalize setM A m f = B at FU g1 z1 ⊢
        have := hq B (F0.tr FU)
        rw [eg, hf, part1] at this
        refine K_latest (d := d + 2) (fr_shM FU sA) (fun _ => ?_) (fun k => absurd z1 k)
        rw [getM_1 g1, getM_2 g1]; exact this
      · have FO : Fr (UpS m) A (sI A 1321 m 0 1) := Fr_sI ⟨rfl, Or.inr (Or.inr rfl)⟩
        have FU : Fr (UpS m) (sI A 1321 m 0 1) (setM (sI A 1321 m 0 1) m f) := Fr_setM ⟨rfl, Or.inl rfl⟩ ⟨rfl, Or.inr (Or.inl rfl)⟩
        have z1 : hI (setM (sI A 1321 m 0 1) m f) 1321 m 0 = 1 := by
          show hI (sI A 1321 m 0 1) 1321 m 0 = 1
          rw [hIs_i, if_pos rfl]
        generalize setM (sI A 1321 m 0 1) m f = B at FU z1 ⊢
        have FB := F0.tr (FO.tr FU)
        have := hq B FB
        rw [eg, hf] at this
        exact K_latest (d := d + 2) (fr_shM FB sm) (fun k => (by rw [z1] at k; exact absurd k (by decide))) (fun _ => this)
    · unfold ratioG; rw [x2, y2, if_neg (fun k => by have := k.2.2.2.2; rw [ho2] at this; cases this)]
  · have := hq H Fr.rf
    cases ho : ratioG n U x y with
    | none => rw [ho] at this; exact this
    | some f =>
      rw [ho] at this
      unfold partA at this
      simp only at this
      rw [if_neg (fun k => hp (Or.inl k)), if_neg (fun k => hp (Or.inr k))] at this; exact this
  · unfold ratioG; rw [if_neg (fun k => notN h k.2.1)]
  · unfold ratioG; rw [if_neg (fun k => notN h k.1)]
theorem K_mnearest {d n m : Nat} {q : HP → Int32 → Prop} {H : HP} {U : Nat → UV} {x p r : Int32} (hu : MU H m n U) (hok : ∀ i, okU (U i)) (hq : ∀ H', Fr (UpS m) H H' → q H' (nearestA n U x p r)) : CI (d + 4) 0 0 mX12_nearest [rv (some m), .int x, .int p, .int r] H q := by
  have sm := hu.1
  refine C_X12_nearest ?_
  unfold wb_X12_nearest_0
  unfold nearestA at hq
  have e1 : (1 : Int64).toInt = 1 := rfl
  have e9 : (999999 : Int64).toInt = 999999 := rfl
  refine ⟨sm.1, K_isUnit (d := d + 1) hu (fun j hj e => ⟨fun _ => K_isIn (d := d + 2) ?_, fun k => (by cases k)⟩) (fun h => ⟨fun k => (by cases k), fun _ => ?_⟩)⟩
  · obtain ⟨i1, i2⟩ := unA_of (U := U) hu.2.2.1 hj e
    have hj20 : j < 20 := by have := hu.2.2.1; omega
    rw [i2] at hq
    rw [i64_of32, e1, e9]
    refine ⟨fun hb => ?_, fun hb => K_isIn (d := d + 2) ?_⟩
    · have hb := of_decide_eq_false hb
      have := hq H Fr.rf
      rw [if_pos i1, if_neg (fun k => hb k.1)] at this; exact this
    · have tp : tldN p := of_decide_eq_true hb
      rw [i64_of32, e1, e9]
      refine ⟨fun hb2 => ⟨sm.1, ?_⟩, fun hb2 => ?_⟩
      · have tq : tldN r := of_decide_eq_true hb2
        obtain ⟨c1, c2⟩ := tld_red tp tq
        have or0 := redF_ok c1 c2
        have hp0 : 0 ≤ (redF p.toInt64 r.toInt64).1.toInt := by
          have hgs := gcL_spec c1 c2
          obtain ⟨g, a', b', g1, -, g3, g4, g5, g6, -⟩ := hgs
          show 0 ≤ (p.toInt64 / gcL p.toInt64 r.toInt64).toInt
          rw [g5]
          have hpp : 0 ≤ p.toInt64.toInt := by rw [i64_of32]; have := tp.1; omega
          rw [g3] at hpp
          exact Classical.byContradiction fun k => by
            have := Int.mul_neg_of_pos_of_neg g1 (show a' < 0 by omega)
            omega
        have F0 : Fr (UpS m) H (sI H 1321 m 0 (0 : Int32)) := Fr_sI ⟨rfl, Or.inr (Or.inr rfl)⟩
        have z0 : hI (sI H 1321 m 0 (0 : Int32)) 1321 m 0 = 0 := by rw [hIs_i, if_pos rfl]
        generalize sI H 1321 m 0 (0 : Int32) = A at F0 z0 ⊢
        have sA := fr_shM F0 sm
        refine K_becomes (d := d) sA.1 c1 c2 ?_
        generalize redF p.toInt64 r.toInt64 = f0 at or0 hp0 hq ⊢
        have F1 : Fr (UpS m) A (setM A m f0) := Fr_setM ⟨rfl, Or.inl rfl⟩ ⟨rfl, Or.inr (Or.inl rfl)⟩
        have g1 : getM (setM A m f0) m = f0 := getM_setM
        have z1 : hI (setM A m f0) 1321 m 0 = 0 := z0
        generalize setM A m f0 = B at F1 g1 z1 ⊢
        have FB := F0.tr F1
        have sB := fr_shM FB sm
        have uB : MU B m n U := fr_MU FB (fun k => by omega) (fun g x k1 k2 k => by omega) hu
        obtain ⟨-, -, -, u4, u5, -⟩ := uB.2.2.2 j hj
        obtain ⟨a1, a2, a3, a4⟩ := mA_factorUp sB
        obtain ⟨b1, b2, b3, b4⟩ := mA_factorLow sB
        subst e
        refine ⟨sB.1, m + 3, a1, a2, by rw [a4]; exact vpi_of hj20 (by decide), m + 4, b1, b2, by rw [b4]; exact vpi_of hj20 (by decide), ?_⟩
        rw [a3, b3, iN_cl (n := j) (by omega), u4, u5, getM_1 g1, getM_2 g1]
        have p1 : okF ((U j).2.2.1.1, (U j).2.2.1.2) := (hok j).2.2.2.2.1
        have p1' : 0 < (U j).2.2.1.1.toInt := (hok j).2.2.2.2.2.1
        refine K_times (d := d) sB.1 (Or.inl z1) or0 p1.2.1 p1.1 (fun k => by omega) (fun f hf => ⟨sB.1, fun _ => ?_, fun k => absurd z1 k⟩) (fun hf f => ⟨sB.1, fun k => ?_, fun _ => ?_⟩)
        · have of := mulF_ok or0 p1.2.1 p1.1 p1.2.2 hf
          have F2 : Fr (UpS m) B (setM B m f) := Fr_setM ⟨rfl, Or.inl rfl⟩ ⟨rfl, Or.inr (Or.inl rfl)⟩
          have g2 : getM (setM B m f) m = f := getM_setM
          have hqB := hq (setM B m f) (FB.tr F2)
          generalize setM B m f = D at F2 g2 hqB ⊢
          rw [if_pos i1, if_pos ⟨tp, tq⟩, hf] at hqB
          have uD : MU D m n U := fr_MU F2 (fun k => by omega) (fun g x k1 k2 k => by omega) uB
          have hf0 : 0 ≤ f.1.toInt := mulF_nn or0 p1' p1.1 hp0 hf
          refine mnear_loop (d := d + 1) uD (fun i _ => hok i) hj (by rw [getM_2 g2]; exact of.1) (by rw [getM_1 g2]; exact hf0) n 0 none rfl (fun j hj => by cases hj) ?_
          rw [g2]; exact hqB
        · have z : hI (setM (sI B 1321 m 0 1) m f) 1321 m 0 = 1 := by
            show hI (sI B 1321 m 0 1) 1321 m 0 = 1
            rw [hIs_i, if_pos rfl]
          rw [z] at k; exact absurd k (by decide)
        · have := hq _ (FB.tr ((Fr_sI (H := B) (g := 1321) (a := m) (i := 0) (v := 1) ⟨rfl, Or.inr (Or.inr rfl)⟩).tr (Fr_setM (f := f) ⟨rfl, Or.inl rfl⟩ ⟨rfl, Or.inr (Or.inl rfl)⟩)))
          rw [if_pos i1, if_pos ⟨tp, tq⟩, hf] at this; exact this
      · have hb2 := of_decide_eq_false hb2
        have := hq H Fr.rf
        rw [if_pos i1, if_neg (fun k => hb2 k.2)] at this; exact this
  · have := hq H Fr.rf
    rw [if_neg (notN h)] at this; exact this
