
/-! ===== the reference: parted ===== -/
theorem inN_eq {n : Nat} {x : Int32} (hn : n ≤ 20) (h : inN n x) : x = Int32.ofNat x.toInt.toNat := by
  have := h.1; have := h.2
  exact iN_inj (by omega) (by omega)
theorem mayPart_loop {d n m many st kk : Nat} {q : HP → Bool → Prop} {H : HP} {U : Nat → UV} {us : Nat → Int32} {v : JV} (sm : shM H m) (hu : MU H m n U) (hok : ∀ i, okU (U i)) (hin : ∀ i, i < 3 → hI H 5056 (m + 27) i = us i) (h3 : many ≤ 3) (hst : st < 64) (rj : MJR H m st kk v) (h1 : splA n U us v many → q H true) (h0 : ¬ splA n U us v many → q H false) : ∀ (k i : Nat), k + i = many → (∀ j, j < i → splC n U us v j) → L_X12_mayPart_2 (d + 2) q m (Int32.ofNat st) (Int32.ofNat many) (Int32.ofNat i) H := by
  obtain ⟨a1, a2, a3, a4⟩ := mA_into sm
  have hn20 := hu.2.2.1
  intro k
  induction k with
  | zero =>
    intro i hi hd
    refine T_X12_mayPart_2 ?_
    unfold wb_X12_mayPart_2
    rw [iN_le (by omega) (by omega)]
    have e : i = many := by omega
    subst e
    exact ⟨fun _ => h1 hd, fun h => by omega⟩
  | succ k ih =>
    intro i hi hd
    have bad : ¬ splC n U us v i → q H false := fun h => h0 fun k => h (k i (by omega))
    have hv : vp_in (Int32.ofNat i) (ln H (m + 27)) := by rw [a4]; exact vpi_of (by omega) (by decide)
    have e0 : (0 : Int32) = Int32.ofNat 0 := rfl
    refine T_X12_mayPart_2 ?_
    unfold wb_X12_mayPart_2
    rw [iN_le (by omega) (by omega), e0, iN_le (by omega) (by omega), iN_inc (by omega)]
    refine ⟨fun h => by omega, fun _ => ⟨sm.1, m + 27, a1, a2, hv, ?_⟩⟩
    rw [a3, iN_cl (by omega), hin i (by omega)]
    refine K_isUnit (d := d) hu (fun j hj e => ⟨fun k => (by cases k), fun _ => ⟨sm.1, m + 27, a1, a2, hv, ?_⟩⟩) (fun h => ⟨fun _ => bad fun k => notN h k.1, fun k => (by cases k)⟩)
    obtain ⟨i1, i2⟩ := inN_of hn20 hj e
    have hj20 : j < 20 := by omega
    rw [a3, hin i (by omega), e]
    refine K_isOf (d := d + 1) sm hj20 hst (hu.2.2.2 j hj) rj ⟨fun hb => bad fun k => ?_, fun hb => ⟨sm.1, m + 27, a1, a2, hv, ?_⟩⟩
    · have hb : eq5 v.1 (U j).2.1 = false := hb
      have := k.2.2.1
      rw [i2, eq5_comm, hb] at this; cases this
    · have hb : eq5 v.1 (U j).2.1 = true := hb
      rw [a3, hin i (by omega), e]
      refine K_mhasOffset (d := d + 1) sm hj20 (hu.2.2.2 j hj) ⟨fun ho => bad fun k => ?_, fun ho => ⟨fun hi0 => ?_, fun hi0 => ⟨sm.1, m + 27, a1, a2, hv, ?_, ?_⟩⟩⟩
      · have := k.2.1
        rw [i2, ho] at this; cases this
      · refine ih (i + 1) (by omega) fun x hx => ?_
        have : x = i := by omega
        rw [this]
        exact ⟨i1, by rw [i2]; exact ho, by rw [i2, eq5_comm]; exact hb, fun k => by omega⟩
      · have ee : Int32.ofNat i - (1 : Int32) = Int32.ofNat (i - 1) := iN_inj (by omega) (by rw [held_last (by omega)]; omega)
        rw [ee, a4]; exact vpi_of (by omega) (by decide)
      · have ee : Int32.ofNat i - (1 : Int32) = Int32.ofNat (i - 1) := iN_inj (by omega) (by rw [held_last (by omega)]; omega)
        have hp := (hd (i - 1) (by omega)).1
        have ep := inN_eq hn20 hp
        have hlt : (us (i - 1)).toInt.toNat < n := by have := hp.1; have := hp.2; omega
        rw [ee, a3, iN_cl (by omega), hin i (by omega), hin (i - 1) (by omega), e, ep]
        refine K_isLesser (d := d) sm hj20 (by omega) (hu.2.2.2 j hj) (hu.2.2.2 _ hlt) (hok j) (hok _) ⟨fun hb2 => ?_, fun hb2 => bad fun k => ?_⟩
        · refine ih (i + 1) (by omega) fun x hx => ?_
          by_cases ex : x = i
          · rw [ex]
            exact ⟨i1, by rw [i2]; exact ho, by rw [i2, eq5_comm]; exact hb, fun _ => by rw [i2]; exact hb2⟩
          · exact hd x (by omega)
        · have := k.2.2.2 (by omega)
          rw [i2, hb2] at this; cases this
abbrev PmS (m : Nat) : Nat → Nat → Prop := fun g x => UpS m g x ∨ (g = 5056 ∧ x = m + 27)
theorem parted_loop {d n m many : Nat} {q : HP → Int64 → Prop} {H0 : HP} {U : Nat → UV} {us : Nat → Int32} {v : JV} {kk : Nat} {w : Int32} (sm : shM H0 m) (hu : MU H0 m n U) (hok : ∀ i, okU (U i)) (hin : ∀ i, i < 3 → hI H0 5056 (m + 27) i = us i) (h3 : many ≤ 3) (hk : kk < many) (hs : splA n U us v many) (hw : w = 0 ∨ w = 1) (hq : ∀ H', Fr (UpS m) H0 H' → q H' (partA (prtF (fun i => U (us i).toInt.toNat) many kk many 0 v.2) w)) : ∀ (r j : Nat) (H : HP) (l : FR), r + j = many → j ≤ kk → Fr (UpS m) H0 H → hI H 1321 m 0 = 0 → okF l → prtF (fun i => U (us i).toInt.toNat) many kk many 0 v.2 = prtF (fun i => U (us i).toInt.toNat) many kk r j l → L_X12_parted_130 (d + 4) q m (Int32.ofNat kk) w (Int32.ofNat many) l.1 l.2 (Int32.ofNat j) H := by
  have hn20 := hu.2.2.1
  have part1 : ∀ f : FR, partA (some f) w = if w = 0 then f.1 else f.2 := fun f => by
    show (if w = 0 then f.1 else if w = 1 then f.2 else _) = _
    by_cases h0 : w = 0
    · rw [if_pos h0, if_pos h0]
    · rw [if_neg h0, if_neg h0, if_pos (hw.resolve_left h0)]
  intro r
  induction r with
  | zero => intro j H l hr hj; omega
  | succ r ih =>
    intro j H l hr hj F z0 ol hp
    refine T_X12_parted_130 ?_
    unfold wb_X12_parted_130
    have hi := (hs j (by omega)).1
    have ej := inN_eq hn20 hi
    have hlt : (us j).toInt.toNat < n := by have := hi.1; have := hi.2; omega
    generalize hu' : (us j).toInt.toNat = u at ej hlt
    have u20 : u < 20 := by omega
    have sH := fr_shM F sm
    obtain ⟨a1, a2, a3, a4⟩ := mA_into sH
    obtain ⟨x1, x2, x3, x4⟩ := mA_factorUp sH
    obtain ⟨y1, y2, y3, y4⟩ := mA_factorLow sH
    obtain ⟨-, -, -, u4, u5, -, -⟩ := hu.2.2.2 u hlt
    obtain ⟨-, -, -, -, p1, p2, p3⟩ := hok u
    have p1' : okF ((U u).2.2.1.1, (U u).2.2.1.2) := p1
    have hl := F.2.2.2.2.2.1
    have hin' : hI H 5056 (m + 27) j = Int32.ofNat u := by
      rw [F.2.2.2.2.1 _ _ (fun k => by omega), hin j (by omega)]; exact ej
    rw [i32_lt, iN_toInt (by omega), iN_toInt (by omega)]
    refine ⟨fun h => by omega, fun _ => ⟨sH.1, m + 27, a1, a2, by rw [a4]; exact vpi_of (by omega) (by decide), ?_⟩⟩
    rw [a3, iN_cl (n := j) (by omega), hin']
    refine ⟨m + 3, x1, x2, by rw [x4]; exact vpi_of u20 (by decide), m + 4, y1, y2, by rw [y4]; exact vpi_of u20 (by decide), ?_⟩
    rw [x3, y3, iN_cl (n := u) (by omega), hl _ _ (fun k => by omega), hl _ _ (fun k => by omega), u4, u5]
    have ef := hp
    rw [prtF_succ] at ef
    rw [hu'] at ef
    have nz : ∀ B f, hI (setM (sI B 1321 m 0 1) m f) 1321 m 0 = 1 := fun B f => by
      show hI (sI B 1321 m 0 1) 1321 m 0 = 1
      rw [hIs_i, if_pos rfl]
    have FU : ∀ B f, Fr (UpS m) B (setM B m f) := fun B f => Fr_setM ⟨rfl, Or.inl rfl⟩ ⟨rfl, Or.inr (Or.inl rfl)⟩
    have FO : ∀ B, Fr (UpS m) B (sI B 1321 m 0 1) := fun B => Fr_sI ⟨rfl, Or.inr (Or.inr rfl)⟩
    refine K_by (d := d) sH.1 (Or.inl z0) ol p1'.2.1 p1'.1 (by omega) (fun f hf => ?_) (fun hf f => ⟨sH.1, fun k => ?_, fun _ => ?_⟩)
    · rw [hf] at ef
      simp only at ef
      have of : okF f := divF_ok ol p1' hf
      have F1 := FU H f
      have g1 : getM (setM H m f) m = f := getM_setM
      have z1 : hI (setM H m f) 1321 m 0 = 0 := z0
      generalize setM H m f = A at F1 g1 z1 ⊢
      have FA := F.tr F1
      have sA := fr_shM FA sm
      have ejk : Int32.ofNat j = Int32.ofNat kk ↔ j = kk := iN_eq (by omega) (by omega)
      have em : Int32.ofNat j = Int32.ofNat many - (1 : Int32) ↔ j + 1 = many := by
        have ee : Int32.ofNat many - (1 : Int32) = Int32.ofNat (many - 1) := iN_inj (by omega) (by rw [held_last (by omega)]; omega)
        rw [ee, iN_eq (by omega) (by omega)]; omega
      rw [ejk, em, getM_1 g1, getM_2 g1]
      refine ⟨sA.1, fun _ => ⟨fun hne => ⟨fun k => ?_, fun hjk => ?_, fun hjk => ?_⟩, fun he => K_partOf (d := d + 3) ?_⟩, fun k => absurd z1 k⟩
      · have := of.1; rw [k] at this; exact absurd this (by decide)
      · rw [if_neg hjk] at ef
        obtain ⟨b1, b2, b3, b4⟩ := mA_factorUp sA
        obtain ⟨c1, c2, c3, c4⟩ := mA_factorLow sA
        have hlA := FA.2.2.2.2.2.1
        refine ⟨m + 3, b1, b2, by rw [b4]; exact vpi_of u20 (by decide), m + 4, c1, c2, by rw [c4]; exact vpi_of u20 (by decide), ?_⟩
        rw [b3, c3, hlA _ _ (fun k => by omega), hlA _ _ (fun k => by omega), u4, u5]
        refine K_times (d := d + 1) sA.1 (Or.inl z1) (cut_ok of) p1'.2.1 p1'.1 (fun k => by omega) (fun t ht => ⟨sA.1, fun k => absurd z1 k, fun _ => ?_⟩) (fun ht t => ⟨sA.1, fun _ => ⟨fun k => ?_, fun _ => ?_⟩, fun k => ?_⟩)
        · rw [ht] at ef
          simp only at ef
          have ot : okF (t.1, t.2) := mulF_ok (cut_ok of) p1'.2.1 p1'.1 p1'.2.2 ht
          have F2 := FU A t
          have g2 : getM (setM A m t) m = t := getM_setM
          have z2 : hI (setM A m t) 1321 m 0 = 0 := z1
          generalize setM A m t = B at F2 g2 z2 ⊢
          have FB := FA.tr F2
          have sB := fr_shM FB sm
          rw [getM_1 g2, getM_2 g2]
          have e11 : ¬ ((-1 : Int32) = 1) := by decide
          refine K_plus (d := d) sB.1 z2 ol.1 ot.1 ot.2.1 (Or.inr rfl) (fun f' hf' => ⟨sB.1, fun _ => ?_, fun k => absurd z2 k⟩) (fun hf' => ⟨sB.1, fun k => ?_, fun _ => ?_⟩)
          · rw [if_neg e11] at hf'
            rw [hf'] at ef
            have g3 : getM (setM B m f') m = f' := getM_setM
            have z3 : hI (setM B m f') 1321 m 0 = 0 := z2
            have F3 := FU B f'
            rw [iN_inc (by omega), getM_1 g3, getM_2 g3]
            exact ih (j + 1) _ f' (by omega) (by omega) (FB.tr F3) z3 (addF_ok ol.1 ot.1 hf') ef
          · have z : hI (sI B 1321 m 0 1) 1321 m 0 = 1 := by rw [hIs_i, if_pos rfl]
            rw [z] at k; exact absurd k (by decide)
          · rw [if_neg e11] at hf'
            rw [hf'] at ef
            have := hq _ (FB.tr (FO B))
            rw [ef] at this; exact this
        · rw [nz A t] at k; exact absurd k (by decide)
        · rw [ht] at ef
          have := hq _ (FA.tr ((FO A).tr (FU _ t)))
          rw [ef] at this; exact this
        · rw [nz A t] at k; exact absurd k (by decide)
      · rw [if_pos hjk, if_neg hne] at ef
        have := hq A FA
        rw [ef, part1] at this
        refine ⟨fun h0 => ?_, fun h0 => ?_⟩
        · rw [if_neg h0] at this; exact this
        · rw [if_pos h0] at this; exact this
      · rw [if_pos (by omega), if_pos he] at ef
        have := hq A FA
        rw [ef, part1] at this; exact this
    · rw [nz H f] at k; exact absurd k (by decide)
    · rw [hf] at ef
      have := hq _ (F.tr ((FO H).tr (FU _ f)))
      rw [ef] at this; exact this
theorem mparted_core {d n m many : Nat} {q : HP → Int64 → Prop} {H : HP} {pr : Bool} {P : PG} {U : Nat → UV} {a b c k w x6 : Int32} (sm : shM H m) (cp : MPr H m pr P) (ok : okPG P) (hu : MU H m n U) (hok : ∀ i, okU (U i)) (h1 : 1 ≤ many) (h3 : many ≤ 3) (hm : many = mny b c) (h6 : (∃ i : Nat, pr = true ∧ sideP P 0 = some i ∧ x6 = Int32.ofNat i) ∨ ((pr = true → sideP P 0 = none) ∧ x6 = -1)) (hq : ∀ H', Fr (PmS m) H H' → q H' (partA (partedG pr P n U a b c k) w)) : wb_X12_parted_26 (d + 6) q m a b c k w x6 (Int32.ofNat many) H := by
  unfold wb_X12_parted_26
  obtain ⟨a1, a2, a3, a4⟩ := mA_into sm
  have ez : (0 : Int32).toNatClampNeg = 0 := rfl
  have e1 : (1 : Int32).toNatClampNeg = 1 := rfl
  have e2 : (2 : Int32).toNatClampNeg = 2 := rfl
  have FI : ∀ B i x, Fr (PmS m) B (sI B 5056 (m + 27) i x) := fun B i x => Fr_sI (Or.inr ⟨rfl, rfl⟩)
  have v0 : vp_in (0 : Int32) 3 := vpi_of (n := 0) (m := 3) (by decide) (by decide)
  have v1 : vp_in (1 : Int32) 3 := vpi_of (n := 1) (m := 3) (by decide) (by decide)
  have v2 : vp_in (2 : Int32) 3 := vpi_of (n := 2) (m := 3) (by decide) (by decide)
  refine ⟨sm.1, m + 27, a1, a2, by rw [a4]; exact v0, ?_⟩
  rw [a3, ez, e1, e2]
  have F1 := FI H 0 a
  have r10 : hI (sI H 5056 (m + 27) 0 a) 5056 (m + 27) 0 = a := by rw [hIs_i, if_pos rfl]
  generalize sI H 5056 (m + 27) 0 a = A at F1 r10 ⊢
  have sA := fr_shM F1 sm
  obtain ⟨b1, b2, b3, b4⟩ := mA_into sA
  refine ⟨m + 27, b1, b2, by rw [b4]; exact v1, ?_⟩
  rw [b3]
  have F2 := FI A 1 b
  have r20 : hI (sI A 5056 (m + 27) 1 b) 5056 (m + 27) 0 = a := by rw [hIs_i, if_neg (by decide)]; exact r10
  have r21 : hI (sI A 5056 (m + 27) 1 b) 5056 (m + 27) 1 = b := by rw [hIs_i, if_pos rfl]
  generalize sI A 5056 (m + 27) 1 b = B at F2 r20 r21 ⊢
  have sB := fr_shM F2 sA
  obtain ⟨c1, c2, c3, c4⟩ := mA_into sB
  refine ⟨m + 27, c1, c2, by rw [c4]; exact v2, fun D hD => ?_⟩
  rw [c3] at hD
  have F3 : Fr (PmS m) B D := hD ▸ FI B 2 c
  have r30 : hI D 5056 (m + 27) 0 = a := by rw [← hD, hIs_i, if_neg (by decide)]; exact r20
  have r31 : hI D 5056 (m + 27) 1 = b := by rw [← hD, hIs_i, if_neg (by decide)]; exact r21
  have r32 : hI D 5056 (m + 27) 2 = c := by rw [← hD, hIs_i, if_pos rfl]
  clear hD
  have FD := F1.tr (F2.tr F3)
  have sD := fr_shM FD sm
  have uD : MU D m n U := fr_MU FD (fun k => by omega) (fun g x k1 k2 k => by omega) hu
  have cD : MPr D m pr P := fr_MPr FD (fun g k1 k2 k => by omega) (fun k => by omega) (fun k => by omega) (fun k => by omega) (fun k => by omega) cp
  have hin : ∀ i, i < 3 → hI D 5056 (m + 27) i = us3 a b c i := fun i hi => by
    have h : i = 0 ∨ i = 1 ∨ i = 2 := by omega
    rcases h with rfl | rfl | rfl
    · exact r30
    · exact r31
    · exact r32
  have no : partedG pr P n U a b c k = none → q D (-9223372036854775808) := fun h => by
    have := hq D FD
    rw [h] at this; exact this
  rcases h6 with ⟨i, hp, hs, rfl⟩ | ⟨hs, rfl⟩
  · have eg : partedG pr P n U a b c k = partedV (gV P i) n U (us3 a b c) many k := by unfold partedG; rw [if_pos hp, hs, hm]
    have hi := sideP_lt ok hs
    have ov := okV_at ok hs
    have h60 : gH P ≤ 60 := by have := ok.2.1; have := ok.2.2.1; omega
    obtain ⟨⟨j1, j2, j3⟩, -, -⟩ := cD.2 hp
    have rj : MJR D m i (gK P i) (gV P i) := (j3 i hi).1
    have hii := iN_toInt (n := i) (by omega)
    refine ⟨fun h => (by rw [i32_lt, hii, i32_0] at h; omega), fun _ => K_isPart (d := d + 4) (fun hw => ⟨fun k => (by cases k), fun _ => K_isIn (d := d + 5) ?_⟩) (fun hw => ⟨fun _ => ?_, fun k => (by cases k)⟩)⟩
    · rw [i64_of32, i64_0, i64_of32, held_last (by omega)]
      refine ⟨fun hb => no ?_, fun hb => ⟨sD.1, ?_⟩⟩
      · have hb := of_decide_eq_false hb
        rw [eg]; unfold partedV
        rw [if_neg (fun k => hb ⟨k.1.1, by have := k.1.2; omega⟩)]
      · have hb := of_decide_eq_true hb
        have hkk : k = Int32.ofNat k.toInt.toNat := iN_inj (by omega) (by omega)
        refine C_X12_mayPart ?_
        unfold wb_X12_mayPart_0
        refine mayPart_loop (d := d + 3) sD uD hok hin h3 (by omega) rj (fun hsp => ⟨fun k => (by cases k), fun _ => ⟨sD.1, ?_⟩⟩) (fun hsp => ⟨fun _ => no ?_, fun k => (by cases k)⟩) many 0 rfl (fun j hj => by omega)
        · obtain ⟨x1, x2, x3, x4⟩ := mA_valueUp sD
          obtain ⟨y1, y2, y3, y4⟩ := mA_valueLow sD
          have hvp : vp_in (Int32.ofNat i) (ln D (m + 23)) := by rw [x4]; exact vpi_of (by omega) (by decide)
          refine ⟨m + 23, x1, x2, hvp, ?_⟩
          rw [x3, iN_cl (by omega), rj.2.2.1, i64_le, i64_0]
          refine ⟨fun hnn => ⟨hvp, m + 24, y1, y2, by rw [y4]; exact vpi_of (by omega) (by decide), ?_⟩, fun hneg => no ?_⟩
          · have ep : partedG pr P n U a b c k = prtF (fun i => U (us3 a b c i).toInt.toNat) many k.toInt.toNat many 0 (gV P i).2 := by
              rw [eg]; unfold partedV
              rw [if_pos ⟨⟨by omega, by omega⟩, hsp, hnn⟩]
            rw [y3, rj.2.2.2]
            have F4 : Fr (UpS m) D (sI D 1321 m 0 (0 : Int32)) := Fr_sI ⟨rfl, Or.inr (Or.inr rfl)⟩
            have z4 : hI (sI D 1321 m 0 (0 : Int32)) 1321 m 0 = 0 := by rw [hIs_i, if_pos rfl]
            have hcall := parted_loop (d := d + 2) (q := q) (w := w) (kk := k.toInt.toNat) sD uD hok hin h3 (by omega) hsp hw (fun H' F' => by
              have := hq H' (FD.tr (F'.mono fun g x k => (Or.inl k : PmS m g x)))
              rw [ep] at this; exact this) many 0 (sI D 1321 m 0 (0 : Int32)) (gV P i).2 rfl (Nat.zero_le _) F4 z4 ov.2 rfl
            rw [← hkk] at hcall; exact hcall
          · rw [eg]; unfold partedV
            rw [if_neg (fun k => hneg k.2.2)]
        · rw [eg]; unfold partedV
          rw [if_neg (fun k => hsp k.2.1)]
    · have := hq D FD
      cases ho : partedG pr P n U a b c k with
      | none => rw [ho] at this; exact this
      | some f =>
        rw [ho] at this
        unfold partA at this
        simp only at this
        rw [if_neg (fun k => hw (Or.inl k)), if_neg (fun k => hw (Or.inr k))] at this; exact this
  · refine ⟨fun _ => no ?_, fun h => absurd (by decide) h⟩
    unfold partedG
    by_cases hp : pr = true
    · rw [if_pos hp, hs hp]
    · rw [if_neg hp]
theorem K_mparted {d n m : Nat} {q : HP → Int64 → Prop} {H : HP} {pr : Bool} {P : PG} {U : Nat → UV} {a b c k w : Int32} (sm : shM H m) (cp : MPr H m pr P) (ok : okPG P) (hu : MU H m n U) (hok : ∀ i, okU (U i)) (hq : ∀ H', Fr (PmS m) H H' → q H' (partA (partedG pr P n U a b c k) w)) : CJ (d + 7) 0 0 mX12_parted [rv (some m), .int a, .int b, .int c, .int k, .int w] H q := by
  refine C_X12_parted ?_
  unfold wb_X12_parted_0
  have m1 : ∀ x6, ((∃ i : Nat, pr = true ∧ sideP P 0 = some i ∧ x6 = Int32.ofNat i) ∨ ((pr = true → sideP P 0 = none) ∧ x6 = -1)) → b = -1 → c = -1 → wb_X12_parted_26 (d + 6) q m a b c k w x6 (1 : Int32) H := fun x6 h6 hb hc => mparted_core (d := d) (many := 1) sm cp ok hu hok (by decide) (by decide) (by unfold mny; rw [if_pos hc, if_pos hb]) h6 hq
  have m2 : ∀ x6, ((∃ i : Nat, pr = true ∧ sideP P 0 = some i ∧ x6 = Int32.ofNat i) ∨ ((pr = true → sideP P 0 = none) ∧ x6 = -1)) → ¬ b = -1 → c = -1 → wb_X12_parted_26 (d + 6) q m a b c k w x6 (2 : Int32) H := fun x6 h6 hb hc => mparted_core (d := d) (many := 2) sm cp ok hu hok (by decide) (by decide) (by unfold mny; rw [if_pos hc, if_neg hb]) h6 hq
  have m3 : ∀ x6, ((∃ i : Nat, pr = true ∧ sideP P 0 = some i ∧ x6 = Int32.ofNat i) ∨ ((pr = true → sideP P 0 = none) ∧ x6 = -1)) → ¬ c = -1 → wb_X12_parted_26 (d + 6) q m a b c k w x6 (3 : Int32) H := fun x6 h6 hc => mparted_core (d := d) (many := 3) sm cp ok hu hok (by decide) (by decide) (by unfold mny; rw [if_neg hc]) h6 hq
  refine ⟨sm.1, K_result (d := d + 4) sm cp ok (fun i hp hs => ?_) (fun hn => ?_)⟩
  · have h6 : (∃ j : Nat, pr = true ∧ sideP P 0 = some j ∧ Int32.ofNat i = Int32.ofNat j) ∨ ((pr = true → sideP P 0 = none) ∧ Int32.ofNat i = -1) := Or.inl ⟨i, hp, hs, rfl⟩
    exact ⟨fun hc => ⟨fun hb => m1 _ h6 hb hc, fun hb => m2 _ h6 hb hc⟩, fun hc => m3 _ h6 hc⟩
  · have h6 : (∃ j : Nat, pr = true ∧ sideP P 0 = some j ∧ (-1 : Int32) = Int32.ofNat j) ∨ ((pr = true → sideP P 0 = none) ∧ (-1 : Int32) = -1) := Or.inr ⟨hn, rfl⟩
    exact ⟨fun hc => ⟨fun hb => m1 _ h6 hb hc, fun hb => m2 _ h6 hb hc⟩, fun hc => m3 _ h6 hc⟩
