
/-! ===== the reference: results told in units ===== -/
theorem K_result {d m : Nat} {q : HP → Int32 → Prop} {H : HP} {pr : Bool} {P : PG} {x : Int32} (sm : shM H m) (c : MPr H m pr P) (ok : okPG P) (h1 : ∀ k : Nat, pr = true → sideP P x = some k → q H (Int32.ofNat k)) (h0 : (pr = true → sideP P x = none) → q H (-1)) : CI (d + 2) 0 0 mX12_result [rv (some m), .int x] H q := by
  refine C_X12_result ?_
  unfold wb_X12_result_0
  rw [c.1, bI_nz, bI_z]
  refine ⟨sm.1, fun hp => h0 (fun k => by rw [hp] at k; cases k), fun hp => ?_⟩
  obtain ⟨⟨j1, j2, j3⟩, c2, c3⟩ := c.2 hp
  have j1 : hI H 1341 m 0 = Int32.ofNat (gH P) := j1
  have j2 : hI H 1342 m 0 = gW P := j2
  have h60 : gH P ≤ 60 := by have := ok.2.1; have := ok.2.2.1; omega
  have e1 : (1 : Int64).toInt = 1 := rfl
  rw [j2, c2, bI_nz, bI_z]
  unfold sideP at h1 h0
  refine ⟨fun hw => ?_, fun hw => ⟨fun hE => ?_, fun hE => ?_⟩⟩
  · rw [if_neg hw] at h0; exact h0 (fun _ => rfl)
  · rw [if_pos hw, if_neg (by rw [hE]; decide)] at h1
    rw [if_pos hw, if_neg (by rw [hE]; decide)] at h0
    refine K_isIn (d := d) ?_
    rw [i64_of32, i64_0, c2, bI_nz, bI_z, j1]
    refine ⟨fun hb => ⟨sm.1, fun k => (by rw [hE] at k; cases k), fun _ => ?_⟩, fun hb => ?_⟩
    · have hb := of_decide_eq_true hb
      have hx : x = 0 := i32_ext (by rw [i32_0]; omega)
      have e := ok.2.2.2.1 hw
      have g1 := ok.1
      have ee : Int32.ofNat (gH P) - (1 : Int32) = Int32.ofNat ((gS P).1 - 1) := iN_inj (by omega) (by rw [held_last (by omega)]; omega)
      rw [ee]
      exact h1 _ hp (if_pos hx)
    · have hb := of_decide_eq_false hb
      exact h0 fun _ => if_neg (fun k => hb (by rw [k, i32_0]; omega))
  · rw [if_pos hw, if_pos hE] at h1
    rw [if_pos hw, if_pos hE] at h0
    obtain ⟨l1, l2⟩ := c3 hE hw
    refine K_isIn (d := d) ?_
    rw [i64_of32, i64_0, e1, c2, bI_nz, bI_z, l1, l2]
    refine ⟨fun hb => ⟨sm.1, fun _ => ⟨fun hx => ?_, fun hx => ?_⟩, fun k => (by rw [hE] at k; cases k)⟩, fun hb => ?_⟩
    · have hb := of_decide_eq_true hb
      have hx1 : x = 1 := i32_ext (by
        have : x.toInt ≠ 0 := fun k => hx (i32_ext (by rw [k]; rfl))
        rw [i32_1]; omega)
      refine h1 _ hp ?_
      rw [if_neg hx, if_pos hx1]
    · exact h1 _ hp (if_pos hx)
    · have hb := of_decide_eq_false hb
      refine h0 fun _ => ?_
      rw [if_neg (fun k => hb (by rw [k, i32_0]; omega)), if_neg (fun k => hb (by rw [k, i32_1]; omega))]
theorem isOf_loop {d : Nat} {q : HP → Bool → Prop} {H : HP} {m i j k : Nat} {u : UV} {v : JV} (sm : shM H m) (hi : i < 20) (hj : j < 64) (hu : MUn H m i u) (hv : MJR H m j k v) : ∀ (r b : Nat) (c : Bool), r + b = 5 → (∀ r : Bool, (r = true ↔ c = true ∧ ∀ x, x < 5 → b ≤ x → v.1 x = u.2.1 x) → q H r) → L_X12_isOf_5 d q m (Int32.ofNat i) (Int32.ofNat j) (bI c) (Int32.ofNat b) H := by
  have e5 : (5 : Int32) = Int32.ofNat 5 := rfl
  obtain ⟨a1, a2, a3, a4⟩ := mA_power sm
  obtain ⟨b1, b2, b3, b4⟩ := mA_dimension sm
  obtain ⟨-, -, u3, -⟩ := hu
  obtain ⟨-, v2, -⟩ := hv
  intro r
  induction r with
  | zero =>
    intro b c hb hq
    refine T_X12_isOf_5 ?_
    unfold wb_X12_isOf_5
    have e5' : ((5 : Int32) ≤ Int32.ofNat b) ↔ 5 ≤ b := by rw [e5, iN_le (by omega) (by omega)]
    rw [e5']
    exact ⟨fun _ => ⟨c, rfl, hq c ⟨fun h => ⟨h, fun x h1 h2 => by omega⟩, fun h => h.1⟩⟩, fun h => by omega⟩
  | succ r ih =>
    intro b c hb hq
    refine T_X12_isOf_5 ?_
    unfold wb_X12_isOf_5
    have e5' : ((5 : Int32) ≤ Int32.ofNat b) ↔ 5 ≤ b := by rw [e5, iN_le (by omega) (by omega)]
    rw [e5', ix5 (by omega), ix5 (by omega)]
    refine ⟨fun h => by omega, fun _ => ⟨sm.1, m + 2, a1, a2, ?_, m + 22, b1, b2, ?_, ?_⟩⟩
    · rw [a4]; exact vpi_of (by omega) (by omega)
    · rw [b4]; exact vpi_of (by omega) (by omega)
    · rw [a3, b3, iN_cl (by omega), iN_cl (by omega), u3 b (by omega), v2 b (by omega), iN_inc (by omega)]
      have oc : okZ (bI c) := by cases c; exact Or.inl rfl; exact Or.inr rfl
      refine ⟨fun h => ?_, fun h => ?_⟩
      · rw [(bI_and oc).1]
        refine ih (b + 1) false (by omega) fun r hr => hq r (hr.trans ?_)
        exact ⟨fun k => absurd k.1 (by decide), fun k => absurd (k.2 b (by omega) (Nat.le_refl _)).symm h⟩
      · rw [(bI_and oc).2]
        refine ih (b + 1) c (by omega) fun r hr => hq r (hr.trans ?_)
        refine ⟨fun k => ⟨k.1, fun x h1 h2 => ?_⟩, fun k => ⟨k.1, fun x h1 h2 => k.2 x h1 (by omega)⟩⟩
        by_cases e : x = b
        · rw [e]; exact h.symm
        · exact k.2 x h1 (by omega)
theorem K_isOf {d : Nat} {q : HP → Bool → Prop} {H : HP} {m i j k : Nat} {u : UV} {v : JV} (sm : shM H m) (hi : i < 20) (hj : j < 64) (hu : MUn H m i u) (hv : MJR H m j k v) (hq : q H (eq5 v.1 u.2.1)) : CZ (d + 1) 0 0 mX12_isOf [rv (some m), .int (Int32.ofNat i), .int (Int32.ofNat j)] H q := by
  refine C_X12_isOf ?_
  unfold wb_X12_isOf_0
  refine isOf_loop sm hi hj hu hv 5 0 true rfl fun r hr => ?_
  have : r = eq5 v.1 u.2.1 := by
    rw [Bool.eq_iff_iff, hr, eq5_iff]
    exact ⟨fun k x h => k.2 x h (Nat.zero_le _), fun k => ⟨rfl, fun x h _ => k x h⟩⟩
  rw [this]; exact hq
abbrev UpS (m : Nat) : Nat → Nat → Prop := fun g x => x = m ∧ (g = 1319 ∨ g = 1320 ∨ g = 1321)
theorem getM_1 {H : HP} {m : Nat} {f : FR} (h : getM H m = f) : hL H 1319 m 0 = f.1 := congrArg Prod.fst h
theorem getM_2 {H : HP} {m : Nat} {f : FR} (h : getM H m = f) : hL H 1320 m 0 = f.2 := congrArg Prod.snd h
theorem K_isToldIn {d m n : Nat} {q : HP → Bool → Prop} {H : HP} {pr : Bool} {P : PG} {U : Nat → UV} {x u : Int32} (sm : shM H m) (c : MPr H m pr P) (ok : okPG P) (hu : MU H m n U) (hok : ∀ i, okU (U i))
    (h1 : ∀ f, toldG pr P n U x u = some f → ∀ H', Fr (UpS m) H H' → getM H' m = f → q H' true) (h0 : toldG pr P n U x u = none → ∀ H', Fr (UpS m) H H' → q H' false) : CZ (d + 5) 0 0 mX12_isToldIn [rv (some m), .int x, .int u] H q := by
  have h60 : gH P ≤ 60 := by have := ok.2.1; have := ok.2.2.1; omega
  refine C_X12_isToldIn ?_
  unfold wb_X12_isToldIn_0
  refine ⟨sm.1, K_result (d := d + 2) sm c ok (fun k hp hs => ⟨fun hn => ?_, fun _ => ⟨sm.1, K_isUnit (d := d + 2) hu (fun i hi e => ⟨fun k => (by cases k), fun _ => ⟨sm.1, ?_⟩⟩) (fun h => ⟨fun _ => h0 ?_ H Fr.rf, fun k => (by cases k)⟩)⟩⟩) (fun hn => ⟨fun _ => h0 ?_ H Fr.rf, fun k => absurd (by decide) k⟩)⟩
  · have hk := sideP_lt ok hs
    have := iN_toInt (n := k) (by omega)
    rw [i32_lt, this, i32_0] at hn; omega
  · obtain ⟨i1, i2⟩ := inN_of hu.2.2.1 hi e
    have ef : toldG pr P n U x u = toldV (gV P k) (U i) := by
      unfold toldG toldF
      rw [if_pos ⟨hp, i1⟩, i2, hs]
    have hk := sideP_lt ok hs
    have ov := okV_at ok hs
    obtain ⟨⟨j1, j2, j3⟩, c2, c3⟩ := c.2 hp
    obtain ⟨r1, r2⟩ := j3 k hk
    have r1 : MJR H m k (gK P k) (gV P k) := r1
    obtain ⟨-, -, rU, rL⟩ := id r1
    have hu' := hu.2.2.2 i hi
    obtain ⟨-, -, -, u4, u5, u6, u7⟩ := id hu'
    obtain ⟨-, -, -, -, p1, p2, p3⟩ := hok i
    have hi20 : i < 20 := by have := hu.2.2.1; omega
    subst e
    refine K_isOf (d := d + 3) sm hi20 (by omega) hu' r1 ⟨fun hb => ⟨sm.1, ?_⟩, fun hb => h0 ?_ H Fr.rf⟩
    · have hb : eq5 (gV P k).1 (U i).2.1 = true := hb
      unfold toldV at ef
      rw [if_pos hb] at ef
      have F0 : Fr (UpS m) H (sI H 1321 m 0 (0 : Int32)) := Fr_sI ⟨rfl, Or.inr (Or.inr rfl)⟩
      have z0 : hI (sI H 1321 m 0 (0 : Int32)) 1321 m 0 = 0 := by rw [hIs_i, if_pos rfl]
      generalize sI H 1321 m 0 (0 : Int32) = A at F0 z0 ⊢
      have sA := fr_shM F0 sm
      obtain ⟨a1, a2, a3, a4⟩ := mA_valueUp sA
      obtain ⟨b1, b2, b3, b4⟩ := mA_valueLow sA
      obtain ⟨o1, o2, o3, o4⟩ := mA_offsetUp sA
      obtain ⟨l1, l2, l3, l4⟩ := mA_offsetLow sA
      have hl := F0.2.2.2.2.2.1
      refine ⟨m + 23, a1, a2, by rw [a4]; exact vpi_of (by omega) (by decide), m + 24, b1, b2, by rw [b4]; exact vpi_of (by omega) (by decide), m + 5, o1, o2, by rw [o4]; exact vpi_of hi20 (by decide), m + 6, l1, l2, by rw [l4]; exact vpi_of hi20 (by decide), ?_⟩
      rw [a3, b3, o3, l3, iN_cl (by omega), iN_cl (by omega), hl _ _ (fun k => by omega), hl _ _ (fun k => by omega), hl _ _ (fun k => by omega), hl _ _ (fun k => by omega), rU, rL, u6, u7]
      have e11 : ¬ ((-1 : Int32) = 1) := by decide
      have ov1 : okF ((gV P k).2.1, (gV P k).2.2) := ov.2
      have p31 : okF ((U i).2.2.2.1, (U i).2.2.2.2) := p3
      refine K_plus (d := d) sA.1 z0 ov1.1 p31.1 p31.2.1 (Or.inr rfl) (fun f hf => ⟨?_, ?_, ?_⟩) (fun hf => ⟨?_, ?_, ?_⟩)
      · exact sA.1
      · intro hz; exact absurd z0 hz
      · intro _
        rw [if_neg e11] at hf
        rw [hf] at ef
        simp only at ef
        have F1 : Fr (UpS m) A (setM A m f) := Fr_setM ⟨rfl, Or.inl rfl⟩ ⟨rfl, Or.inr (Or.inl rfl)⟩
        have g1 : getM (setM A m f) m = f := getM_setM
        have z1 : hI (setM A m f) 1321 m 0 = 0 := z0
        generalize setM A m f = B at F1 g1 z1 ⊢
        have sB := fr_shM F1 sA
        obtain ⟨x1, x2, x3, x4⟩ := mA_factorUp sB
        obtain ⟨y1, y2, y3, y4⟩ := mA_factorLow sB
        have hl2 := (F0.tr F1).2.2.2.2.2.1
        refine ⟨m + 3, x1, x2, by rw [x4]; exact vpi_of hi20 (by decide), m + 4, y1, y2, by rw [y4]; exact vpi_of hi20 (by decide), ?_⟩
        rw [x3, y3, hl2 4675 (m + 3) (fun k => by omega), hl2 4691 (m + 4) (fun k => by omega), u4, u5, getM_1 g1, getM_2 g1]
        have of : okF (f.1, f.2) := addF_ok ov1.1 p31.1 hf
        have p11 : okF ((U i).2.2.1.1, (U i).2.2.1.2) := p1
        refine K_by (d := d) sB.1 (Or.inl z1) of p11.2.1 p11.1 (by omega) (fun g hg => ⟨sB.1, fun k => absurd z1 k, fun _ => ?_⟩) (fun hg g => ⟨sB.1, fun _ => ?_, fun k => ?_⟩)
        · rw [hg] at ef
          exact h1 g ef _ ((F0.tr F1).tr (Fr_setM ⟨rfl, Or.inl rfl⟩ ⟨rfl, Or.inr (Or.inl rfl)⟩)) getM_setM
        · rw [hg] at ef
          exact h0 ef _ ((F0.tr F1).tr ((Fr_sI ⟨rfl, Or.inr (Or.inr rfl)⟩).tr (Fr_setM ⟨rfl, Or.inl rfl⟩ ⟨rfl, Or.inr (Or.inl rfl)⟩)))
        · have z : hI (setM (sI B 1321 m 0 1) m g) 1321 m 0 = 1 := by
            show hI (sI B 1321 m 0 1) 1321 m 0 = 1
            rw [hIs_i, if_pos rfl]
          rw [z] at k; exact absurd k (by decide)
      · exact sA.1
      · intro _
        rw [if_neg e11] at hf
        rw [hf] at ef
        have z : hI (sI A 1321 m 0 1) 1321 m 0 = 1 := by rw [hIs_i, if_pos rfl]
        refine ⟨fun _ => h0 ef _ (F0.tr (Fr_sI ⟨rfl, Or.inr (Or.inr rfl)⟩)), fun k => ?_⟩
        rw [z] at k; exact absurd k (by decide)
      · intro k
        have z : hI (sI A 1321 m 0 1) 1321 m 0 = 1 := by rw [hIs_i, if_pos rfl]
        rw [z] at k; exact absurd k (by decide)
    · have hb : ¬ eq5 (gV P k).1 (U i).2.1 = true := by
        have hb : eq5 (gV P k).1 (U i).2.1 = false := hb
        rw [hb]; decide
      rw [ef]; unfold toldV; rw [if_neg hb]
  · unfold toldG
    rw [if_neg (fun k => notN h k.2)]
  · unfold toldG
    by_cases hc : pr = true ∧ inN n u
    · rw [if_pos hc]; unfold toldF; rw [hn hc.1]
    · rw [if_neg hc]
theorem K_min_ {d m n : Nat} {q : HP → Int64 → Prop} {H : HP} {pr : Bool} {P : PG} {U : Nat → UV} {x u w : Int32} (sm : shM H m) (c : MPr H m pr P) (ok : okPG P) (hu : MU H m n U) (hok : ∀ i, okU (U i)) (hq : ∀ H', Fr (UpS m) H H' → q H' (partA (toldG pr P n U x u) w)) : CJ (d + 6) 0 0 mX12_in [rv (some m), .int x, .int u, .int w] H q := by
  refine C_X12_in ?_
  unfold wb_X12_in_0
  refine K_isPart (d := d + 3) (fun hw => ⟨fun k => (by cases k), fun _ => ⟨sm.1, K_isToldIn (d := d) sm c ok hu hok (fun f hf H' F' g' => ⟨fun k => (by cases k), fun _ => ⟨by rw [fr_tg F']; exact sm.1, K_partOf (d := d + 4) ?_⟩⟩) (fun hf H' F' => ⟨fun _ => ?_, fun k => (by cases k)⟩)⟩⟩) (fun hw => ⟨fun _ => ?_, fun k => (by cases k)⟩)
  · have := hq H' F'
    rw [hf] at this
    unfold partA at this
    simp only at this
    rw [getM_1 g', getM_2 g']
    by_cases h0 : w = 0
    · rw [if_pos h0] at this ⊢; exact this
    · rw [if_neg h0] at this ⊢
      rw [if_pos (hw.resolve_left h0)] at this; exact this
  · have := hq H' F'
    rw [hf] at this; exact this
  · have := hq H Fr.rf
    unfold partA at this
    cases ho : toldG pr P n U x u with
    | none => rw [ho] at this; exact this
    | some f =>
      rw [ho] at this
      simp only at this
      rw [if_neg (fun k => hw (Or.inl k)), if_neg (fun k => hw (Or.inr k))] at this; exact this
theorem K_mbits {d m n : Nat} {q : HP → Int64 → Prop} {H : HP} {pr : Bool} {P : PG} {U : Nat → UV} {x u w : Int32} (sm : shM H m) (c : MPr H m pr P) (ok : okPG P) (hu : MU H m n U) (hok : ∀ i, okU (U i)) (hq : ∀ H', Fr (UpS m) H H' → q H' (bitsA (toldG pr P n U x u) w)) : CJ (d + 6) 0 0 mX12_bits [rv (some m), .int x, .int u, .int w] H q := by
  refine C_X12_bits ?_
  unfold wb_X12_bits_0
  have e1 : (1 : Int64).toInt = 1 := rfl
  refine K_isIn (d := d + 4) ?_
  rw [i64_of32, i64_0, e1]
  refine ⟨fun hb => ?_, fun hb => ⟨sm.1, K_isToldIn (d := d) sm c ok hu hok (fun f hf H' F' g' => ⟨fun _ => ⟨by rw [fr_tg F']; exact sm.1, fun r hr => ?_⟩, fun k => (by cases k)⟩) (fun hf H' F' => ⟨fun k => (by cases k), fun _ => ?_⟩)⟩⟩
  · have hb := of_decide_eq_false hb
    have := hq H Fr.rf
    unfold bitsA at this
    rw [if_neg hb] at this; exact this
  · have hb := of_decide_eq_true hb
    have h := hq H' F'
    have hp := (toldG_ok ok hok hf).1
    unfold bitsA at h
    rw [if_pos hb, hf] at h
    simp only at h
    rw [getM_1 g', getM_2 g'] at hr
    have hn := asD_nn hp
    have er := ali64 (x := asD f) hr hn
    subst er
    have hn2 := d2f_nn hn
    refine ⟨fun h3 => fun r2 hr2 => ?_, fun h3 => ?_⟩
    · have er := ali32 hr2 hn2
      subst er
      rw [if_neg h3] at h
      exact K_ftib (d := d + 3) fun r hr => (by rw [hr]; exact h)
    · rw [if_pos h3] at h
      exact K_dtlb (d := d + 3) h
  · have hb := of_decide_eq_true hb
    have h := hq H' F'
    unfold bitsA at h
    rw [if_pos hb, hf] at h; exact h
