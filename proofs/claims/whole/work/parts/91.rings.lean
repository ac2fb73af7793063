
/-! ===== claimOf, rings, by on both sides ===== -/
def claimOfR (U : Nat → UV) (C : CLM) (i : Nat) (w : Int32) : Int32 := if w = 0 then Int32.ofNat (CX C i) else if w = 1 then Int32.ofNat (CY C i) else if w = 2 then CP C i else if w = 3 then CQ C i else if w = 4 then vdF C i else if w = 5 then truC U C i else -1
def claimOfA (U : Nat → UV) (C : CLM) (x w : Int32) : Int32 := if inN C.1 x then claimOfR U C x.toInt.toNat w else -1
theorem i32_ne {x y : Int32} (h : x.toInt < y.toInt ∨ y.toInt < x.toInt) : ¬ x = y := fun k => by rw [k] at h; omega
theorem i32_2 : (2 : Int32).toInt = 2 := rfl
theorem i32_3 : (3 : Int32).toInt = 3 := rfl
theorem i32_4 : (4 : Int32).toInt = 4 := rfl
theorem i32_5 : (5 : Int32).toInt = 5 := rfl
theorem K_cclaimOf {d n : Nat} {q : HP → Int32 → Prop} {H : HP} {U : Nat → UV} {C : CLM} {x w : Int32} (s : shP H) (hu : CU H 3 n U) (hok : ∀ i, okU (U i)) (okc : okCl n C) (hc : CCl H 105 C) (hq : ∀ H', Fr AnS H H' → q H' (claimOfA U C x w)) : CI (d + 5) 0 0 mX11_claimOf [rv (some 0), .int x, .int w] H q := by
  obtain ⟨s1, s2, s3, s4, -⟩ := id s
  have hC16 := okc.1
  refine C_X11_claimOf ?_
  unfold wb_X11_claimOf_0
  have h0 := hq H Fr.rf
  unfold claimOfA at h0 hq
  rw [s4, i32_lt, i32_0]
  refine ⟨fun h => ?_, fun h => ⟨s1, 105, rfl, hc.1.1, ?_⟩⟩
  · rw [if_neg (fun k => by omega)] at h0; exact h0
  rw [hc.2.1.1, i32_lt, iN_toInt (by omega)]
  refine ⟨fun h2 => ?_, fun h2 => ?_⟩
  · have hx : inN C.1 x := ⟨by omega, h2⟩
    have ex := inN_eq (n := C.1) (by omega) hx
    have hlt := inN_lt hx
    rw [if_pos hx] at h0
    have hq1 : ∀ H', Fr AnS H H' → q H' (claimOfR U C x.toInt.toNat w) := fun H' F' => by
      have := hq H' F'
      rw [if_pos hx] at this; exact this
    clear hq
    generalize x.toInt.toNat = i at ex hlt h0 hq1
    subst ex
    unfold claimOfR at h0 hq1
    obtain ⟨x1, x2, x3, x4⟩ := cA_x hc.1
    obtain ⟨y1, y2, y3, y4⟩ := cA_y hc.1
    obtain ⟨p1, p2, p3, p4⟩ := cA_p hc.1
    obtain ⟨q1, q2, q3, q4⟩ := cA_q hc.1
    obtain ⟨v1, v2, v3, v4⟩ := cA_v hc.1
    obtain ⟨r1, r2, r3, r4⟩ := hc.2.1.2 i hlt
    have r5 := hc.2.2.2.2 i hlt
    have in16 : vp_in (Int32.ofNat i) 16 := vpi_of (by omega) (by decide)
    refine ⟨fun h => ?_, fun h => ?_, fun h => ?_, fun h => ?_, fun h => ?_, fun h => ?_, fun h => ?_⟩
    · rw [if_neg (i32_ne (by rw [i32_0]; omega)), if_neg (i32_ne (by rw [i32_1]; omega)), if_neg (i32_ne (by rw [i32_2]; omega)), if_neg (i32_ne (by rw [i32_3]; omega)), if_neg (i32_ne (by rw [i32_4]; omega)), if_neg (i32_ne (by rw [i32_5]; omega))] at h0; exact h0
    · rw [if_pos h] at h0
      refine ⟨105 + 1, x1, x2, by rw [x4]; exact in16, ?_⟩
      rw [x3, iN_cl (by omega), r1]; exact h0
    · subst h
      rw [if_neg (by decide), if_pos rfl] at h0
      refine ⟨105 + 2, y1, y2, by rw [y4]; exact in16, ?_⟩
      rw [y3, iN_cl (by omega), r2]; exact h0
    · subst h
      rw [if_neg (by decide), if_neg (by decide), if_pos rfl] at h0
      refine ⟨105 + 3, p1, p2, by rw [p4]; exact in16, ?_⟩
      rw [p3, iN_cl (by omega), r3]; exact h0
    · subst h
      rw [if_neg (by decide), if_neg (by decide), if_neg (by decide), if_pos rfl] at h0
      refine ⟨105 + 4, q1, q2, by rw [q4]; exact in16, ?_⟩
      rw [q3, iN_cl (by omega), r4]; exact h0
    · subst h
      rw [if_neg (by decide), if_neg (by decide), if_neg (by decide), if_neg (by decide), if_pos rfl] at h0
      refine ⟨105 + 6, v1, v2, by rw [v4]; exact in16, ?_⟩
      rw [v3, iN_cl (by omega), r5]; exact h0
    · subst h
      refine K_truthOf (d := d) s hu hok okc hc hlt fun H' F' => ?_
      have := hq1 H' F'
      rw [if_neg (by decide), if_neg (by decide), if_neg (by decide), if_neg (by decide), if_neg (by decide), if_pos rfl] at this; exact this
  · rw [if_neg (fun k => by omega)] at h0; exact h0
abbrev TuS (m : Nat) : Nat → Nat → Prop := fun g x => TeS m g x ∨ UpS m g x
theorem K_mclaimOf {d n m : Nat} {q : HP → Int32 → Prop} {H : HP} {U : Nat → UV} {C : CLM} {x w : Int32} (hu : MU H m n U) (hok : ∀ i, okU (U i)) (okc : okCl n C) (hc : MCl H m C) (hq : ∀ H', Fr (TuS m) H H' → q H' (claimOfA U C x w)) : CI (d + 6) 0 0 mX12_claimOf [rv (some m), .int x, .int w] H q := by
  have sm := hu.1
  have hn20 := hu.2.2.1
  have hC16 := okc.1
  refine C_X12_claimOf ?_
  unfold wb_X12_claimOf_0
  have h0 := hq H Fr.rf
  unfold claimOfA at h0 hq
  have e5 : (5 : Int64).toInt = 5 := rfl
  refine ⟨sm.1, K_isIn (d := d + 4) ?_⟩
  rw [i64_of32, i64_of32, hc.1, held_last (by omega), i64_0]
  refine ⟨fun hb => ?_, fun hb => K_isIn (d := d + 4) ?_⟩
  · have hb := of_decide_eq_false hb
    rw [if_neg (fun k => hb ⟨k.1, by have := k.2; omega⟩)] at h0; exact h0
  · have hb := of_decide_eq_true hb
    have hx : inN C.1 x := ⟨hb.1, by omega⟩
    have ex := inN_eq (n := C.1) (by omega) hx
    have hlt := inN_lt hx
    rw [if_pos hx] at h0
    have hq1 : ∀ H', Fr (TuS m) H H' → q H' (claimOfR U C x.toInt.toNat w) := fun H' F' => by
      have := hq H' F'
      rw [if_pos hx] at this; exact this
    clear hq
    generalize x.toInt.toNat = i at ex hlt h0 hq1
    subst ex
    unfold claimOfR at h0 hq1
    rw [i64_of32, i64_0, e5]
    refine ⟨fun hb2 => ?_, fun hb2 => ?_⟩
    · have hb2 := of_decide_eq_true hb2
      rw [i32_le, i32_4]
      refine ⟨fun h4 => ⟨fun h5 => ⟨sm.1, ?_⟩, fun h5 => ⟨sm.1, ?_⟩⟩, fun h4 => ⟨sm.1, ?_⟩⟩
      · have hw : w = 4 := i32_ext (by
          have : w.toInt ≠ 5 := fun k => h5 (i32_ext (by rw [k]; rfl))
          rw [i32_4]; omega)
        subst hw
        refine K_tells (d := d) okc hn20 sm hc fun H' F' ht => ?_
        have hqH := hq1 H' (F'.mono fun g x k => Or.inl k)
        rw [if_neg (by decide), if_neg (by decide), if_neg (by decide), if_neg (by decide), if_pos rfl] at hqH
        have sm' := fr_shM F' sm
        obtain ⟨t1, t2, t3, t4⟩ := mA_told sm'
        have hv := (vd_te (C := C) i).2.2.2.2
        have in16 : vp_in (Int32.ofNat i) (ln H' (m + 28)) := by rw [t4]; exact vpi_of (by omega) (by decide)
        refine ⟨sm'.1, m + 28, t1, t2, in16, ?_⟩
        rw [t3, iN_cl (by omega), ht i hlt]
        rw [hv] at hqH
        refine ⟨fun k => ⟨in16, fun k2 => ?_, fun k2 => ?_⟩, fun k => ?_⟩
        · rw [if_neg k, if_neg k2] at hqH; exact hqH
        · rw [if_neg k, if_pos k2] at hqH; exact hqH
        · rw [if_pos k] at hqH; exact hqH
      · subst h5
        refine K_isTrue (d := d + 1) hu hok okc hc hlt fun H' F' => ?_
        have := hq1 H' (F'.mono fun g x k => Or.inr k)
        rw [if_neg (by decide), if_neg (by decide), if_neg (by decide), if_neg (by decide), if_neg (by decide), if_pos rfl] at this; exact this
      · obtain ⟨a1, a2, a3, a4⟩ := mA_claim sm
        obtain ⟨r1, r2, r3, r4⟩ := hc.2 i hlt
        have ew : w = Int32.ofNat w.toInt.toNat := iN_inj (by omega) (by omega)
        have eI : (4 : Int32) * Int32.ofNat i + w = Int32.ofNat (4 * i + w.toInt.toNat) := by rw [← ix4 (by omega), ← ew]
        refine ⟨m + 7, a1, a2, by rw [eI, a4]; exact vpi_of (by omega) (by decide), ?_⟩
        rw [eI, a3, iN_cl (by omega)]
        have h : w.toInt.toNat = 0 ∨ w.toInt.toNat = 1 ∨ w.toInt.toNat = 2 ∨ w.toInt.toNat = 3 := by omega
        rcases h with h | h | h | h
        · rw [h] at ew ⊢
          subst ew
          rw [if_pos (by decide)] at h0
          show q H (hI H 4736 (m + 7) (4 * i)); rw [r1]; exact h0
        · rw [h] at ew ⊢
          subst ew
          rw [if_neg (by decide), if_pos (by decide)] at h0
          rw [r2]; exact h0
        · rw [h] at ew ⊢
          subst ew
          rw [if_neg (by decide), if_neg (by decide), if_pos (by decide)] at h0
          rw [r3]; exact h0
        · rw [h] at ew ⊢
          subst ew
          rw [if_neg (by decide), if_neg (by decide), if_neg (by decide), if_pos (by decide)] at h0
          rw [r4]; exact h0
    · have hb2 := of_decide_eq_false hb2
      rw [if_neg (i32_ne (by rw [i32_0]; omega)), if_neg (i32_ne (by rw [i32_1]; omega)), if_neg (i32_ne (by rw [i32_2]; omega)), if_neg (i32_ne (by rw [i32_3]; omega)), if_neg (i32_ne (by rw [i32_4]; omega)), if_neg (i32_ne (by rw [i32_5]; omega))] at h0; exact h0
def ringsA (n : Nat) (U : Nat → UV) (C : CLM) (w : Int32) : Int32 := if w = 0 then (if 0 < cntB (teB C (-15)) C.1 then -15 else Int32.ofNat (cntB (teB C 2) C.1)) else if w = 1 then (if 0 < cntB (teB C (-15)) C.1 then -15 else Int32.ofNat (cntB (teB C 1) C.1)) else if w = 2 then trusF U C C.1 0 0 else if w = 3 then Int32.ofNat n - Int32.ofNat (cntB (teB C 0) C.1) else -1
theorem K_crings {d n : Nat} {q : HP → Int32 → Prop} {H : HP} {U : Nat → UV} {C : CLM} {w : Int32} (s : shP H) (hu : CU H 3 n U) (hok : ∀ i, okU (U i)) (okc : okCl n C) (hc : CCl H 105 C) (hq : ∀ H', Fr AnS H H' → q H' (ringsA n U C w)) : CI (d + 6) 0 0 mX11_rings [rv (some 0), .int w] H q := by
  obtain ⟨s1, s2, s3, s4, -⟩ := id s
  have hC16 := okc.1
  refine C_X11_rings ?_
  unfold wb_X11_rings_0
  have h0 := hq H Fr.rf
  unfold ringsA at h0 hq
  rw [s4, s3]
  have yes : (∃ i, i < C.1 ∧ vdF C i = -15) → 0 < cntB (teB C (-15)) C.1 := fun h => (cnt_over C.1).mpr h
  have no : (∀ i, i < C.1 → ¬ vdF C i = -15) → ¬ 0 < cntB (teB C (-15)) C.1 := fun h k => by
    obtain ⟨j, hj, he⟩ := (cnt_over C.1).mp k
    exact h j hj he
  refine ⟨fun h => ?_, fun h => ?_, fun h => ?_, fun h => ?_, fun h => ?_⟩
  · rw [if_neg (i32_ne (by rw [i32_0]; omega)), if_neg (i32_ne (by rw [i32_1]; omega)), if_neg (i32_ne (by rw [i32_2]; omega)), if_neg (i32_ne (by rw [i32_3]; omega))] at h0; exact h0
  · subst h
    rw [if_pos rfl] at h0
    refine ⟨s1, 105, rfl, hc.1.1, K_isOver (d := d + 4) okc hc (fun h => ⟨fun k => (by cases k), fun _ => ?_⟩) (fun h => ⟨fun _ => ⟨s1, 105, s4, hc.1.1, ?_⟩, fun k => (by cases k)⟩)⟩
    · rw [if_pos (yes h)] at h0; exact h0
    · rw [if_neg (no h)] at h0
      rw [s4]
      refine K_against (d := d + 4) okc hc ?_
      rw [cnt_ag]; exact h0
  · subst h
    rw [if_neg (by decide), if_pos rfl] at h0
    refine ⟨s1, 105, rfl, hc.1.1, K_isOver (d := d + 4) okc hc (fun h => ⟨fun k => (by cases k), fun _ => ?_⟩) (fun h => ⟨fun _ => ⟨s1, 105, s4, hc.1.1, ?_⟩, fun k => (by cases k)⟩)⟩
    · rw [if_pos (yes h)] at h0; exact h0
    · rw [if_neg (no h)] at h0
      rw [s4]
      refine K_joining (d := d + 4) okc hc ⟨s1, 105, s4, hc.1.1, ?_⟩
      rw [s4]
      refine K_against (d := d + 4) okc hc ?_
      rw [hc.2.1.1, cnt_ag, cnt_jn]
      have all := cnt_all (C := C) C.1 fun j hj k => h j hj ((vd_te j).2.1.mpr k)
      have e : Int32.ofNat C.1 - Int32.ofNat (cntB (teB C 0) C.1) - Int32.ofNat (cntB (teB C 2) C.1) = Int32.ofNat (cntB (teB C 1) C.1) := by
        refine iN_inj (by omega) ?_
        have a0 := iN_toInt (n := C.1) (by omega)
        have a1 := iN_toInt (n := cntB (teB C 0) C.1) (by omega)
        have a2 := iN_toInt (n := cntB (teB C 2) C.1) (by omega)
        have b1 : (Int32.ofNat C.1 - Int32.ofNat (cntB (teB C 0) C.1)).toInt = (C.1 : Int) - cntB (teB C 0) C.1 := by
          rw [i32_subx] <;> rw [a0, a1] <;> omega
        rw [i32_subx] <;> rw [b1, a2] <;> omega
      rw [e]; exact h0
  · subst h
    refine ⟨s1, K_trueClaims (d := d) s hu hok okc hc fun H' F' => ?_⟩
    have := hq H' F'
    rw [if_neg (by decide), if_neg (by decide), if_pos rfl] at this; exact this
  · subst h
    rw [if_neg (by decide), if_neg (by decide), if_neg (by decide), if_pos rfl] at h0
    refine ⟨s1, 3, rfl, hu.1.1, 105, rfl, hc.1.1, K_joining (d := d + 4) okc hc ?_⟩
    rw [hu.2.1, cnt_jn]; exact h0
theorem K_mrings {d n m : Nat} {q : HP → Int32 → Prop} {H : HP} {U : Nat → UV} {C : CLM} {w : Int32} (hu : MU H m n U) (hok : ∀ i, okU (U i)) (okc : okCl n C) (hc : MCl H m C) (hq : ∀ H', Fr (TuS m) H H' → q H' (ringsA n U C w)) : CI (d + 6) 0 0 mX12_rings [rv (some m), .int w] H q := by
  have sm := hu.1
  have hn20 := hu.2.2.1
  have hC16 := okc.1
  refine C_X12_rings ?_
  unfold wb_X12_rings_0
  have h0 := hq H Fr.rf
  unfold ringsA at h0 hq
  have e3 : (3 : Int64).toInt = 3 := rfl
  refine K_isIn (d := d + 4) ?_
  rw [i64_of32, i64_0, e3]
  refine ⟨fun hb => ⟨fun h2 => ⟨sm.1, K_tells (d := d) okc hn20 sm hc fun H' F' ht => ?_⟩, fun h2 => ⟨sm.1, ?_⟩⟩, fun hb => ?_⟩
  · have hb := of_decide_eq_true hb
    have hqH := hq H' (F'.mono fun g x k => Or.inl k)
    have sm' := fr_shM F' sm
    have c' : MCl H' m C := fr_MCl F' (fun k => by rcases k with k | k | k <;> omega) (fun k => by rcases k with k | k | k <;> omega) hc
    have u' : MU H' m n U := fr_MU F' (fun k => by rcases k with k | k | k <;> omega) (fun g x k1 k2 k => by rcases k with k | k | k <;> omega) hu
    refine ⟨fun h3 => ⟨sm'.1, K_tolds (d := d + 4) okc sm' c' ht ?_⟩, fun h3 => ⟨sm'.1, K_tolds (d := d + 4) okc sm' c' ht ?_⟩⟩
    · have hle := cntB_le (teB C (-15)) C.1
      rw [i32_le, i32_0, iN_toInt (by omega)]
      refine ⟨fun hz => ⟨fun hw => ⟨sm'.1, K_tolds (d := d + 4) okc sm' c' ht ?_⟩, fun hw => ⟨sm'.1, K_tolds (d := d + 4) okc sm' c' ht ?_⟩⟩, fun hz => ?_⟩
      · have w1 : w = 1 := i32_ext (by
          have n0 : w.toInt ≠ 0 := fun k => hw (i32_ext (by rw [k]; rfl))
          have n2 : w.toInt ≠ 2 := fun k => h2 (i32_ext (by rw [k]; rfl))
          have n3 : w.toInt ≠ 3 := fun k => h3 (i32_ext (by rw [k]; rfl))
          rw [i32_1]; omega)
        rw [if_neg hw, if_pos w1, if_neg (by omega)] at hqH; exact hqH
      · rw [if_pos hw, if_neg (by omega)] at hqH; exact hqH
      · by_cases hw : w = 0
        · rw [if_pos hw, if_pos (by omega)] at hqH; exact hqH
        · have w1 : w = 1 := i32_ext (by
            have n0 : w.toInt ≠ 0 := fun k => hw (i32_ext (by rw [k]; rfl))
            have n2 : w.toInt ≠ 2 := fun k => h2 (i32_ext (by rw [k]; rfl))
            have n3 : w.toInt ≠ 3 := fun k => h3 (i32_ext (by rw [k]; rfl))
            rw [i32_1]; omega)
          rw [if_neg hw, if_pos w1, if_pos (by omega)] at hqH; exact hqH
    · subst h3
      rw [if_neg (by decide), if_neg (by decide), if_neg (by decide), if_pos rfl] at hqH
      rw [u'.2.1]; exact hqH
  · subst h2
    refine K_trues (d := d) hu hok okc hc fun H' F' => ?_
    have := hq H' (F'.mono fun g x k => Or.inr k)
    rw [if_neg (by decide), if_neg (by decide), if_pos rfl] at this; exact this
  · have hb := of_decide_eq_false hb
    rw [if_neg (i32_ne (by rw [i32_0]; omega)), if_neg (i32_ne (by rw [i32_1]; omega)), if_neg (i32_ne (by rw [i32_2]; omega)), if_neg (i32_ne (by rw [i32_3]; omega))] at h0; exact h0
def byG (n : Nat) (C : CLM) (x y : Int32) : Option FR := if (inN n x ∧ inN n y) ∧ lab (CX C) (CY C) C.1 x.toInt.toNat = lab (CX C) (CY C) C.1 y.toInt.toNat then wayF C (pth (CX C) (CY C) C.1 x.toInt.toNat y.toInt.toNat) (1, 1) else none
theorem K_cby {d n : Nat} {q : HP → Int64 → Prop} {H : HP} {U : Nat → UV} {C : CLM} {x y w : Int32} (s : shP H) (hu : CU H 3 n U) (okc : okCl n C) (hc : CCl H 105 C) (hq : ∀ H', Fr (GoS 105) H H' → q H' (partA (byG n C x y) w)) : CJ (d + 5) 0 0 mX11_by [rv (some 0), .int x, .int y, .int w] H q := by
  obtain ⟨s1, s2, s3, s4, -⟩ := id s
  have hn20 := hu.2.2.1
  refine C_X11_by ?_
  unfold wb_X11_by_0
  have no : byG n C x y = none → q H (-9223372036854775808) := fun h => by
    have := hq H Fr.rf
    rw [h] at this; exact this
  rw [s3]
  refine ⟨s1, 3, rfl, hu.1.1, K_at3 (d := d + 3) hu fun o a1 b1 t1 => ?_⟩
  by_cases hx : inN n x
  · rw [a1 hx]
    refine ⟨fun k => (by cases k), fun a ha => ⟨s1, 3, s3, hu.1.1, ?_⟩⟩
    rw [s3]
    refine K_at3 (d := d + 3) hu fun o2 a2 b2 t2 => ?_
    by_cases hy : inN n y
    · rw [a2 hy]
      refine ⟨fun k => (by cases k), fun b hb => ⟨s1, 105, s4, hc.1.1, ?_⟩⟩
      have ex := inN_eq hn20 hx
      have ey := inN_eq hn20 hy
      have lx := inN_lt hx
      have ly := inN_lt hy
      have eb : byG n C x y = if lab (CX C) (CY C) C.1 x.toInt.toNat = lab (CX C) (CY C) C.1 y.toInt.toNat then wayF C (pth (CX C) (CY C) C.1 x.toInt.toNat y.toInt.toNat) (1, 1) else none := by
        unfold byG
        by_cases hl : lab (CX C) (CY C) C.1 x.toInt.toNat = lab (CX C) (CY C) C.1 y.toInt.toNat
        · rw [if_pos ⟨⟨hx, hy⟩, hl⟩, if_pos hl]
        · rw [if_neg (fun k => hl k.2), if_neg hl]
      rw [eb] at hq
      generalize x.toInt.toNat = i at ex lx hq
      generalize y.toInt.toNat = j at ey ly hq
      rw [ex, ey, s4]
      have sp : SpI H 105 C (fun u => hI H 4336 (105 + 8) u) := ⟨hc.1, hc.2.1, hc.2.2.1, fun u _ => rfl⟩
      refine K_goFrom (d := d) okc hn20 (by omega) (by omega) sp hc.2.2.2.1 (fun hl H' F' _ => ⟨fun _ => ?_, fun k => absurd k (by decide)⟩) (fun hl H' g hg F' sp' g' og => ⟨fun k => absurd rfl k, fun _ => ?_⟩) (fun hl H' hg F' _ => ⟨fun _ => ?_, fun k => absurd k (by decide)⟩)
      · have := hq H' F'
        rw [if_neg hl] at this; exact this
      · have := hq H' F'
        rw [if_pos hl, hg] at this
        have w1 := hc.1.2.2.2.2.2.2.2.2.2.1
        refine ⟨by rw [fr_tg F']; exact s1, 105, by rw [F'.2.1]; exact s4, by rw [fr_tg F']; exact hc.1.1, 105 + 9, by rw [F'.2.1]; exact w1.1, by rw [fr_tg F']; exact w1.2, ?_⟩
        rw [F'.2.1, w1.1]
        refine K_part (d := d + 3) (by rw [fr_tg F']; exact w1.2) ?_
        rw [getF_1 g', getF_2 g']; exact this
      · have := hq H' F'
        rw [if_pos hl, hg] at this; exact this
    · rw [b2 hy]
      refine ⟨fun _ => no ?_, fun b hb => (by cases hb)⟩
      unfold byG; rw [if_neg (fun k => hy k.1.2)]
  · rw [b1 hx]
    refine ⟨fun _ => no ?_, fun b hb => (by cases hb)⟩
    unfold byG; rw [if_neg (fun k => hx k.1.1)]
theorem K_mby {d n m : Nat} {q : HP → Int64 → Prop} {H : HP} {U : Nat → UV} {C : CLM} {x y w : Int32} (hu : MU H m n U) (okc : okCl n C) (hc : MCl H m C) (hq : ∀ H', Fr (TuS m) H H' → q H' (partA (byG n C x y) w)) : CJ (d + 6) 0 0 mX12_by_ [rv (some m), .int x, .int y, .int w] H q := by
  have sm := hu.1
  have hn20 := hu.2.2.1
  refine C_X12_by_ ?_
  unfold wb_X12_by__0
  have no : byG n C x y = none → q H (-9223372036854775808) := fun h => by
    have := hq H Fr.rf
    rw [h] at this; exact this
  refine ⟨sm.1, K_isUnit (d := d + 3) hu (fun i hi e => ⟨fun k => (by cases k), fun _ => ⟨sm.1, K_isUnit (d := d + 3) hu (fun j hj e' => ⟨fun k => (by cases k), fun _ => K_isPart (d := d + 3) (fun hp => ⟨fun _ => ⟨sm.1, K_tells (d := d) okc hn20 sm hc fun H1 F1 ht => ?_⟩, fun k => (by cases k)⟩) (fun hp => ⟨fun k => (by cases k), fun _ => ?_⟩)⟩) (fun h => ⟨fun _ => no ?_, fun k => (by cases k)⟩)⟩⟩) (fun h => ⟨fun _ => no ?_, fun k => (by cases k)⟩)⟩
  · obtain ⟨x1, x2⟩ := inN_of hn20 hi e
    obtain ⟨y1, y2⟩ := inN_of hn20 hj e'
    have eb : byG n C x y = if lab (CX C) (CY C) C.1 i = lab (CX C) (CY C) C.1 j then wayF C (pth (CX C) (CY C) C.1 i j) (1, 1) else none := by
      unfold byG
      rw [x2, y2]
      by_cases hl : lab (CX C) (CY C) C.1 i = lab (CX C) (CY C) C.1 j
      · rw [if_pos ⟨⟨x1, y1⟩, hl⟩, if_pos hl]
      · rw [if_neg (fun k => hl k.2), if_neg hl]
    rw [eb] at hq
    subst e
    subst e'
    have s1 := fr_shM F1 sm
    have c1 : MCl H1 m C := fr_MCl F1 (fun k => by rcases k with k | k | k <;> omega) (fun k => by rcases k with k | k | k <;> omega) hc
    have sp : MBI H1 m C.1 C (fun u => hI H1 5088 (m + 29) u) := ⟨s1, c1, ht, fun u _ => rfl⟩
    have T1 : Fr (TuS m) H H1 := F1.mono fun g x k => Or.inl k
    have part1 : ∀ f : FR, partA (some f) w = if w = 0 then f.1 else f.2 := fun f => by
      show (if w = 0 then f.1 else if w = 1 then f.2 else _) = _
      by_cases h0 : w = 0
      · rw [if_pos h0, if_pos h0]
      · rw [if_neg h0, if_neg h0, if_pos (hp.resolve_left h0)]
    rw [c1.1]
    refine ⟨s1.1, K_areBound (d := d + 4) okc hn20 (Nat.le_refl _) (by omega) (by omega) sp fun H2 N b sp2 F2 hP hr hl => ⟨fun hb => ⟨sp2.1.1, ?_⟩, fun hb => ?_⟩⟩
    · have T2 : Fr (TuS m) H H2 := T1.tr (F2.mono fun g x k => Or.inl (Or.inr (Or.inl k)))
      have hl' := hl.mp hb
      refine K_goes (d := d + 1) okc hn20 (Nat.le_refl _) (by omega) (by omega) hP (hr.mp hb) sp2 (fun H3 g hg sp3 F3 g3 og z3 => ⟨sp3.1.1, ?_⟩) (fun H3 hg sp3 F3 z3 => ⟨sp3.1.1, ?_⟩)
      · have := hq H3 (T2.tr (F3.mono fun g x k => Or.inr k))
        rw [if_pos hl', hg, part1] at this
        refine K_latest (d := d + 3) sp3.1 (fun _ => ?_) (fun k => absurd z3 k)
        rw [getM_1 g3, getM_2 g3]; exact this
      · have := hq H3 (T2.tr (F3.mono fun g x k => Or.inr k))
        rw [if_pos hl', hg] at this
        exact K_latest (d := d + 3) sp3.1 (fun k => (by rw [z3] at k; exact absurd k (by decide))) (fun _ => this)
    · have T2 : Fr (TuS m) H H2 := T1.tr (F2.mono fun g x k => Or.inl (Or.inr (Or.inl k)))
      have := hq H2 T2
      rw [if_neg (fun k => by have := hl.mpr k; rw [hb] at this; cases this)] at this; exact this
  · have := hq H Fr.rf
    cases ho : byG n C x y with
    | none => rw [ho] at this; exact this
    | some f =>
      rw [ho] at this
      unfold partA at this
      simp only at this
      rw [if_neg (fun k => hp (Or.inl k)), if_neg (fun k => hp (Or.inr k))] at this; exact this
  · unfold byG; rw [if_neg (fun k => notN h k.1.2)]
  · unfold byG; rw [if_neg (fun k => notN h k.1.1)]
