
/-! ===== claim, unclaim on both sides ===== -/
abbrev clmB (n : Nat) (x y : Int32) : Prop := inN n x ∧ inN n y ∧ x ≠ y
def claimA (n : Nat) (C : CLM) (x y p q : Int32) : Int32 := if clmB n x y then (if tldN p ∧ tldN q then (if C.1 < 16 then Int32.ofNat (C.1 + 1) else -4) else -2) else -1
def claimC (n : Nat) (C : CLM) (x y p q : Int32) : CLM := if clmB n x y ∧ (tldN p ∧ tldN q) ∧ C.1 < 16 then addC C x.toInt.toNat y.toInt.toNat p q else C
theorem okCl_add {n : Nat} {C : CLM} {x y : Nat} {p q : Int32} (h : okCl n C) (hl : C.1 < 16) (hx : x < n) (hy : y < n) (hxy : x ≠ y) (hp : tldN p) (hq : tldN q) : okCl n (addC C x y p q) := by
  refine ⟨hl, fun i hi => ?_⟩
  have hi : i < C.1 + 1 := hi
  show putC (CX C) C.1 x i < n ∧ putC (CY C) C.1 y i < n ∧ putC (CX C) C.1 x i ≠ putC (CY C) C.1 y i ∧ 1 ≤ (putC (CP C) C.1 p i).toInt ∧ (putC (CP C) C.1 p i).toInt ≤ 999999 ∧ 1 ≤ (putC (CQ C) C.1 q i).toInt ∧ (putC (CQ C) C.1 q i).toInt ≤ 999999
  unfold putC
  by_cases e : i = C.1
  · rw [if_pos e, if_pos e, if_pos e, if_pos e]
    exact ⟨hx, hy, hxy, hp.1, hp.2, hq.1, hq.2⟩
  · rw [if_neg e, if_neg e, if_neg e, if_neg e]
    exact h.2 i (by omega)
theorem inN_lt {n : Nat} {x : Int32} (h : inN n x) : x.toInt.toNat < n := by have := h.1; have := h.2; omega
theorem inN_ne {n : Nat} {x y : Int32} (hn : n ≤ 20) (hx : inN n x) (hy : inN n y) (h : x ≠ y) : x.toInt.toNat ≠ y.toInt.toNat := fun k => h (by rw [inN_eq hn hx, inN_eq hn hy, k])
theorem okCl_claim {n : Nat} {C : CLM} {x y p q : Int32} (hn : n ≤ 20) (h : okCl n C) : okCl n (claimC n C x y p q) := by
  unfold claimC
  by_cases hc : clmB n x y ∧ (tldN p ∧ tldN q) ∧ C.1 < 16
  · rw [if_pos hc]
    exact okCl_add h hc.2.2 (inN_lt hc.1.1) (inN_lt hc.1.2.1) (inN_ne hn hc.1.1 hc.1.2.1 hc.1.2.2) hc.2.1.1 hc.2.1.2
  · rw [if_neg hc]; exact h
theorem K_cclaim {d n : Nat} {q : HP → Int32 → Prop} {H : HP} {U : Nat → UV} {C : CLM} {x y p r : Int32} (s : shP H) (hu : CU H 3 n U) (okc : okCl n C) (hc : CCl H 105 C) (hq : ∀ H', Fr (ClS 105) H H' → CCl H' 105 (claimC n C x y p r) → q H' (claimA n C x y p r)) : CI (d + 8) 0 0 mX11_claim [rv (some 0), .int x, .int y, .int p, .int r] H q := by
  obtain ⟨s1, s2, s3, s4, -⟩ := id s
  have hn20 := hu.2.2.1
  refine C_X11_claim ?_
  unfold wb_X11_claim_0
  rw [s3]
  have h0 := hq H Fr.rf
  unfold claimA claimC at h0 hq
  refine ⟨s1, 3, rfl, hu.1.1, K_at3 (d := d + 6) hu fun o p1 n1 t1 => ?_⟩
  by_cases hx : inN n x
  · rw [p1 hx]
    refine ⟨fun k => (by cases k), fun a ha => ⟨s1, 3, s3, hu.1.1, ?_⟩⟩
    rw [s3]
    refine K_at3 (d := d + 6) hu fun o2 p2 n2 t2 => ?_
    by_cases hy : inN n y
    · rw [p2 hy]
      refine ⟨fun k => (by cases k), fun b hb => ⟨fun hne => ?_, fun he => ?_⟩⟩
      · have hB : clmB n x y := ⟨hx, hy, hne⟩
        refine K_isTold (d := d + 6) (fun tp => ⟨fun k => (by cases k), fun _ => K_isTold (d := d + 6) (fun tq => ⟨fun _ => ⟨s1, 105, s4, hc.1.1, ?_⟩, fun k => (by cases k)⟩) (fun tq => ⟨fun k => (by cases k), fun _ => ?_⟩)⟩) (fun tp => ⟨fun _ => ?_, fun k => (by cases k)⟩)
        · have ex := inN_eq hn20 hx
          have ey := inN_eq hn20 hy
          rw [s4, ex, ey]
          refine K_clappend (d := d) hn20 okc hc.1 hc.2.1 (fun hl => okCl_add okc hl (inN_lt hx) (inN_lt hy) (inN_ne hn20 hx hy hne) tp tq) (fun hl H' F' c' => ⟨fun k => (by cases k), fun _ => ⟨by rw [fr_tg F']; exact s1, 105, by rw [F'.2.1]; exact s4, c'.1.1, ?_⟩⟩) (fun h16 => ⟨fun _ => ?_, fun k => (by cases k)⟩)
          · have := hq H' F'
            rw [if_pos ⟨hB, ⟨tp, tq⟩, hl⟩, if_pos hB, if_pos ⟨tp, tq⟩, if_pos hl] at this
            rw [c'.2.1.1]
            exact this c'
          · rw [if_neg (fun k => by omega), if_pos hB, if_pos ⟨tp, tq⟩, if_neg (by omega)] at h0
            exact h0 hc
        · rw [if_neg (fun k => tq k.2.1.2), if_pos hB, if_neg (fun k => tq k.2)] at h0
          exact h0 hc
        · rw [if_neg (fun k => tp k.2.1.1), if_pos hB, if_neg (fun k => tp k.1)] at h0
          exact h0 hc
      · rw [if_neg (fun k => k.1.2.2 he), if_neg (fun k => k.2.2 he)] at h0
        exact h0 hc
    · rw [n2 hy]
      rw [if_neg (fun k => hy k.1.2.1), if_neg (fun k => hy k.2.1)] at h0
      exact ⟨fun _ => h0 hc, fun b hb => (by cases hb)⟩
  · rw [n1 hx]
    rw [if_neg (fun k => hx k.1.1), if_neg (fun k => hx k.1)] at h0
    exact ⟨fun _ => h0 hc, fun b hb => (by cases hb)⟩
theorem MCl_add {H E : HP} {m : Nat} {C : CLM} {x y : Nat} {p r : Int32} (h : MCl H m C) (h1 : hI E 1307 m 0 = Int32.ofNat (C.1 + 1)) (hv : ∀ i, hI E 4736 (m + 7) i = if i = 4 * C.1 + 3 then r else if i = 4 * C.1 + 2 then p else if i = 4 * C.1 + 1 then Int32.ofNat y else if i = 4 * C.1 then Int32.ofNat x else hI H 4736 (m + 7) i) : MCl E m (addC C x y p r) := by
  refine ⟨h1, fun i hi => ?_⟩
  have hi : i < C.1 + 1 := hi
  show _ = Int32.ofNat (putC (CX C) C.1 x i) ∧ _ = Int32.ofNat (putC (CY C) C.1 y i) ∧ _ = putC (CP C) C.1 p i ∧ _ = putC (CQ C) C.1 r i
  unfold putC
  rw [hv, hv, hv, hv]
  by_cases e : i = C.1
  · subst e
    refine ⟨?_, ?_, ?_, ?_⟩
    · rw [if_neg (by omega), if_neg (by omega), if_neg (by omega), if_pos rfl, if_pos rfl]
    · rw [if_neg (by omega), if_neg (by omega), if_pos rfl, if_pos rfl]
    · rw [if_neg (by omega), if_pos rfl, if_pos rfl]
    · rw [if_pos rfl, if_pos rfl]
  · rw [if_neg e, if_neg e, if_neg e, if_neg e]
    obtain ⟨a1, a2, a3, a4⟩ := h.2 i (by omega)
    refine ⟨?_, ?_, ?_, ?_⟩
    · rw [if_neg (by omega), if_neg (by omega), if_neg (by omega), if_neg (by omega)]; exact a1
    · rw [if_neg (by omega), if_neg (by omega), if_neg (by omega), if_neg (by omega)]; exact a2
    · rw [if_neg (by omega), if_neg (by omega), if_neg (by omega), if_neg (by omega)]; exact a3
    · rw [if_neg (by omega), if_neg (by omega), if_neg (by omega), if_neg (by omega)]; exact a4
theorem K_mclaim {d n m : Nat} {q : HP → Int32 → Prop} {H : HP} {U : Nat → UV} {C : CLM} {x y p r : Int32} (hu : MU H m n U) (okc : okCl n C) (hc : MCl H m C) (hq : ∀ H', Fr (CmS m) H H' → MCl H' m (claimC n C x y p r) → q H' (claimA n C x y p r)) : CI (d + 3) 0 0 mX12_claim [rv (some m), .int x, .int y, .int p, .int r] H q := by
  have sm := hu.1
  have hn20 := hu.2.2.1
  have hC16 := okc.1
  refine C_X12_claim ?_
  unfold wb_X12_claim_0
  have e1 : (1 : Int64).toInt = 1 := rfl
  have e9 : (999999 : Int64).toInt = 999999 := rfl
  have h0 := hq H Fr.rf
  unfold claimA claimC at h0 hq
  refine ⟨sm.1, K_isUnit (d := d) hu (fun i hi e => ⟨fun k => (by cases k), fun _ => ⟨sm.1, K_isUnit (d := d) hu (fun j hj e' => ⟨fun k => (by cases k), fun _ => ⟨fun hne => K_isIn (d := d + 1) ?_, fun he => ?_⟩⟩) (fun h => ⟨fun _ => ?_, fun k => (by cases k)⟩)⟩⟩) (fun h => ⟨fun _ => ?_, fun k => (by cases k)⟩)⟩
  · obtain ⟨x1, x2⟩ := inN_of hn20 hi e
    obtain ⟨y1, y2⟩ := inN_of hn20 hj e'
    have hB : clmB n x y := ⟨x1, y1, hne⟩
    rw [i64_of32, e1, e9]
    refine ⟨fun hb => ?_, fun hb => K_isIn (d := d + 1) ?_⟩
    · have tp : ¬ tldN p := of_decide_eq_false hb
      rw [if_neg (fun k => tp k.2.1.1), if_pos hB, if_neg (fun k => tp k.1)] at h0
      exact h0 hc
    · have tp : tldN p := of_decide_eq_true hb
      rw [i64_of32, e1, e9]
      refine ⟨fun hb2 => ⟨sm.1, ?_⟩, fun hb2 => ?_⟩
      · have tq : tldN r := of_decide_eq_true hb2
        have e16 : (16 : Int32) = Int32.ofNat 16 := rfl
        have e4 : (4 : Int32) = Int32.ofNat 4 := rfl
        have a4C : (4 : Int32) * Int32.ofNat C.1 = Int32.ofNat (4 * C.1) := by rw [e4, iN_mul (by omega) (by omega) (by omega)]
        have e2 : (2 : Int32) = Int32.ofNat 2 := rfl
        have e3 : (3 : Int32) = Int32.ofNat 3 := rfl
        have b1 : (4 : Int32) * Int32.ofNat C.1 + 1 = Int32.ofNat (4 * C.1 + 1) := by rw [a4C, iN_inc (by omega)]
        have b2 : (4 : Int32) * Int32.ofNat C.1 + 2 = Int32.ofNat (4 * C.1 + 2) := by rw [a4C, e2, iN_add (by omega)]
        have b3 : (4 : Int32) * Int32.ofNat C.1 + 3 = Int32.ofNat (4 * C.1 + 3) := by rw [a4C, e3, iN_add (by omega)]
        have FI : ∀ B i x, Fr (CmS m) B (sI B 4736 (m + 7) i x) := fun B i x => Fr_sI (Or.inr ⟨rfl, rfl⟩)
        rw [hc.1, e16, iN_eq (by omega) (by omega), a4C]
        refine ⟨fun hl => ?_, fun hl => ?_⟩
        · obtain ⟨a1, a2, a3, a4⟩ := mA_claim sm
          refine ⟨m + 7, a1, a2, by rw [a4]; exact vpi_of (by omega) (by decide), ?_⟩
          rw [a3, iN_cl (by omega)]
          have F1 := FI H (4 * C.1) x
          have v1 : ∀ i, hI (sI H 4736 (m + 7) (4 * C.1) x) 4736 (m + 7) i = if i = 4 * C.1 then x else hI H 4736 (m + 7) i := fun i => hIs_i _ _ _ _ _ _
          have c1 : hI (sI H 4736 (m + 7) (4 * C.1) x) 1307 m 0 = Int32.ofNat C.1 := by rw [hIs_g _ _ _ _ _ _ (by decide)]; exact hc.1
          generalize sI H 4736 (m + 7) (4 * C.1) x = A at F1 v1 c1 ⊢
          have sA := fr_shM F1 sm
          obtain ⟨a1, a2, a3, a4⟩ := mA_claim sA
          rw [c1, b1]
          refine ⟨m + 7, a1, a2, by rw [a4]; exact vpi_of (by omega) (by decide), fun B hB' => ?_⟩
          rw [a3, iN_cl (by omega)] at hB'
          have F2 : Fr (CmS m) A B := hB' ▸ FI A (4 * C.1 + 1) y
          have v2 : ∀ i, hI B 4736 (m + 7) i = if i = 4 * C.1 + 1 then y else hI A 4736 (m + 7) i := fun i => by rw [← hB']; exact hIs_i _ _ _ _ _ _
          have c2 : hI B 1307 m 0 = Int32.ofNat C.1 := by rw [← hB', hIs_g _ _ _ _ _ _ (by decide)]; exact c1
          clear hB'
          have sB := fr_shM F2 sA
          obtain ⟨a1, a2, a3, a4⟩ := mA_claim sB
          rw [c2, b2]
          refine ⟨m + 7, a1, a2, by rw [a4]; exact vpi_of (by omega) (by decide), ?_⟩
          rw [a3, iN_cl (by omega)]
          have F3 := FI B (4 * C.1 + 2) p
          have v3 : ∀ i, hI (sI B 4736 (m + 7) (4 * C.1 + 2) p) 4736 (m + 7) i = if i = 4 * C.1 + 2 then p else hI B 4736 (m + 7) i := fun i => hIs_i _ _ _ _ _ _
          have c3 : hI (sI B 4736 (m + 7) (4 * C.1 + 2) p) 1307 m 0 = Int32.ofNat C.1 := by rw [hIs_g _ _ _ _ _ _ (by decide)]; exact c2
          generalize sI B 4736 (m + 7) (4 * C.1 + 2) p = D at F3 v3 c3 ⊢
          have sD := fr_shM F3 sB
          obtain ⟨a1, a2, a3, a4⟩ := mA_claim sD
          rw [c3, b3]
          refine ⟨m + 7, a1, a2, by rw [a4]; exact vpi_of (by omega) (by decide), fun E hE => ?_⟩
          rw [a3, iN_cl (by omega)] at hE
          have F4 : Fr (CmS m) D E := hE ▸ FI D (4 * C.1 + 3) r
          have v4 : ∀ i, hI E 4736 (m + 7) i = if i = 4 * C.1 + 3 then r else hI D 4736 (m + 7) i := fun i => by rw [← hE]; exact hIs_i _ _ _ _ _ _
          have c4 : hI E 1307 m 0 = Int32.ofNat C.1 := by rw [← hE, hIs_g _ _ _ _ _ _ (by decide)]; exact c3
          clear hE
          rw [c4, iN_inc (by omega)]
          have F5 : Fr (CmS m) E (sI E 1307 m 0 (Int32.ofNat (C.1 + 1))) := Fr_sI (Or.inl ⟨rfl, rfl⟩)
          have v5 : ∀ i, hI (sI E 1307 m 0 (Int32.ofNat (C.1 + 1))) 4736 (m + 7) i = hI E 4736 (m + 7) i := fun i => by rw [hIs_g _ _ _ _ _ _ (by decide)]
          have c5 : hI (sI E 1307 m 0 (Int32.ofNat (C.1 + 1))) 1307 m 0 = Int32.ofNat (C.1 + 1) := by rw [hIs_i, if_pos rfl]
          generalize sI E 1307 m 0 (Int32.ofNat (C.1 + 1)) = G at F5 v5 c5 ⊢
          have hl : C.1 < 16 := by omega
          have := hq G (F1.tr (F2.tr (F3.tr (F4.tr F5))))
          rw [if_pos ⟨hB, ⟨tp, tq⟩, hl⟩, if_pos hB, if_pos ⟨tp, tq⟩, if_pos hl] at this
          rw [c5]
          refine this (MCl_add hc c5 fun i => ?_)
          rw [v5, v4, v3, v2, v1, x2, y2, ← e, ← e']
        · rw [if_neg (fun k => by omega), if_pos hB, if_pos ⟨tp, tq⟩, if_neg (by omega)] at h0
          exact h0 hc
      · have tq : ¬ tldN r := of_decide_eq_false hb2
        rw [if_neg (fun k => tq k.2.1.2), if_pos hB, if_neg (fun k => tq k.2)] at h0
        exact h0 hc
  · rw [if_neg (fun k => k.1.2.2 he), if_neg (fun k => k.2.2 he)] at h0
    exact h0 hc
  · rw [if_neg (fun k => notN h k.1.2.1), if_neg (fun k => notN h k.2.1)] at h0
    exact h0 hc
  · rw [if_neg (fun k => notN h k.1.1), if_neg (fun k => notN h k.1)] at h0
    exact h0 hc
def unclaimA (C : CLM) (x : Int32) : Int32 := if inN C.1 x then Int32.ofNat (C.1 - 1) else -1
def unclaimC (C : CLM) (x : Int32) : CLM := if inN C.1 x then delC C x.toInt.toNat else C
theorem okCl_un {n : Nat} {C : CLM} {x : Int32} (h : okCl n C) : okCl n (unclaimC C x) := by
  unfold unclaimC
  split
  · exact okCl_del h
  · exact h
theorem K_cunclaim {d n : Nat} {q : HP → Int32 → Prop} {H : HP} {C : CLM} {x : Int32} (s : shP H) (hn20 : n ≤ 20) (okc : okCl n C) (hc : CCl H 105 C) (hq : ∀ H', Fr (ClS 105) H H' → CCl H' 105 (unclaimC C x) → q H' (unclaimA C x)) : CI (d + 8) 0 0 mX11_unclaim [rv (some 0), .int x] H q := by
  obtain ⟨s1, s2, s3, s4, -⟩ := id s
  have hC16 := okc.1
  refine C_X11_unclaim ?_
  unfold wb_X11_unclaim_0
  have h0 := hq H Fr.rf
  unfold unclaimA unclaimC at h0 hq
  rw [i32_lt, i32_0, s4]
  refine ⟨fun h => ?_, fun h => ⟨s1, 105, rfl, hc.1.1, ?_⟩⟩
  · rw [if_neg (fun k => by omega), if_neg (fun k => by omega)] at h0
    exact h0 hc
  · rw [hc.2.1.1, i32_lt, iN_toInt (by omega)]
    refine ⟨fun h2 => ?_, fun h2 => ?_⟩
    · have hx : inN C.1 x := ⟨by omega, h2⟩
      have ex := inN_eq (n := C.1) (by omega) hx
      have hcall := K_clremove (d := d) (q := fun H4 => tg H4 0 = 12 ∧ (∃ a6, (hC H4 1202 0) = some a6 ∧ (tg H4 a6 = 1 ∧ (q H4 (hI H4 104 a6 0))))) hn20 okc (inN_lt hx) hc.1 hc.2.1 fun H' F' c' => ⟨by rw [fr_tg F']; exact s1, 105, by rw [F'.2.1]; exact s4, c'.1.1, ?_⟩
      · rw [← ex] at hcall; exact hcall
      · have := hq H' F'
        rw [if_pos hx, if_pos hx] at this
        rw [c'.2.1.1]
        exact this c'
    · rw [if_neg (fun k => by omega), if_neg (fun k => by omega)] at h0
      exact h0 hc
theorem K_munclaim {d n m : Nat} {q : HP → Int32 → Prop} {H : HP} {C : CLM} {x : Int32} (sm : shM H m) (okc : okCl n C) (hc : MCl H m C) (hq : ∀ H', Fr (CmS m) H H' → MCl H' m (unclaimC C x) → q H' (unclaimA C x)) : CI (d + 2) 0 0 mX12_unclaim [rv (some m), .int x] H q := by
  have hC16 := okc.1
  unfold unclaimA unclaimC at hq
  refine K_unclaim (d := d) okc sm hc (fun g hg e H' F' c' => ?_) (fun h => ?_)
  · obtain ⟨i1, i2⟩ := inN_of (n := C.1) (by omega) hg e
    have := hq H' F'
    rw [if_pos i1, if_pos i1, i2] at this
    exact this c'
  · have := hq H Fr.rf
    rw [if_neg (notN h), if_neg (notN h)] at this
    exact this hc
