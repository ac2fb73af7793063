
/-! ===== building the reference: what its arrays hold at first ===== -/
def lett (i : Nat) : Int32 := if i = 0 then 109 else if i = 1 then 103 else if i = 2 then 115 else if i = 3 then 107 else 97
def baseU (i : Nat) : UV := ((1, fun _ => lett i), (fun j => if j = i then 1 else 0), (1, 1), (0, 1))
def B294 (H : HP) (m i : Nat) : Prop := (∀ x, hI H 4640 (m + 1) x = if 4 * (x / 4) = x ∧ x / 4 < i then lett (x / 4) else 0) ∧ (∀ x, hI H 4656 (m + 2) x = if x / 5 < i ∧ x % 5 = x / 5 then 1 else 0) ∧ (∀ x, hL H 4675 (m + 3) x = if x < i then 1 else 0) ∧ (∀ x, hL H 4691 (m + 4) x = if x < i then 1 else 0) ∧ (∀ x, hL H 4707 (m + 5) x = 0) ∧ (∀ x, hL H 4723 (m + 6) x = if x < i then 1 else 0)
def bsH (H : HP) (m i : Nat) (c : Int32) : HP := sL (sL (sL (sI (sI H 4640 (m + 1) (4 * i) c) 4656 (m + 2) (5 * i + i) 1) 4675 (m + 3) i 1) 4691 (m + 4) i 1) 4723 (m + 6) i 1
abbrev M16 (m : Nat) : Nat → Nat → Prop := fun _ x => m + 1 ≤ x ∧ x ≤ m + 6
theorem Fr_bs {H : HP} {m i : Nat} {c : Int32} : Fr (M16 m) H (bsH H m i c) := ((((Fr_sI ⟨by omega, by omega⟩).tr (Fr_sI ⟨by omega, by omega⟩)).tr (Fr_sL ⟨by omega, by omega⟩)).tr (Fr_sL ⟨by omega, by omega⟩)).tr (Fr_sL ⟨by omega, by omega⟩)
theorem B294_s {H : HP} {m i : Nat} (hi : i < 5) (h : B294 H m i) : B294 (bsH H m i (lett i)) m (i + 1) := by
  obtain ⟨h1, h2, h3, h4, h5, h6⟩ := h
  have g1 : ∀ x, hI (bsH H m i (lett i)) 4640 (m + 1) x = if x = 4 * i then lett i else hI H 4640 (m + 1) x := fun x => by
    show hI (sI (sI H 4640 (m + 1) (4 * i) (lett i)) 4656 (m + 2) (5 * i + i) 1) 4640 (m + 1) x = _
    rw [hIs_g _ _ _ _ _ _ (by decide), hIs_i]
  have g2 : ∀ x, hI (bsH H m i (lett i)) 4656 (m + 2) x = if x = 5 * i + i then 1 else hI H 4656 (m + 2) x := fun x => by
    show hI (sI (sI H 4640 (m + 1) (4 * i) (lett i)) 4656 (m + 2) (5 * i + i) 1) 4656 (m + 2) x = _
    rw [hIs_i, hIs_g _ _ _ _ _ _ (by decide)]
  have gl : ∀ g a x, hL (bsH H m i (lett i)) g a x = if g = 4723 ∧ a = m + 6 ∧ x = i then 1 else if g = 4691 ∧ a = m + 4 ∧ x = i then 1 else if g = 4675 ∧ a = m + 3 ∧ x = i then 1 else hL H g a x := fun g a x => by
    unfold bsH
    rw [hLs, hLs, hLs]
    rfl
  refine ⟨fun x => ?_, fun x => ?_, fun x => ?_, fun x => ?_, fun x => ?_, fun x => ?_⟩
  · rw [g1, h1]
    by_cases e : x = 4 * i
    · have e2 : x / 4 = i := by omega
      rw [if_pos e, if_pos ⟨by omega, by omega⟩, e2]
    · rw [if_neg e]
      by_cases k : 4 * (x / 4) = x ∧ x / 4 < i
      · rw [if_pos k, if_pos ⟨k.1, by omega⟩]
      · rw [if_neg k, if_neg (fun z => k ⟨z.1, by omega⟩)]
  · rw [g2, h2]
    by_cases e : x = 5 * i + i
    · rw [if_pos e, if_pos ⟨by omega, by omega⟩]
    · rw [if_neg e]
      by_cases k : x / 5 < i ∧ x % 5 = x / 5
      · rw [if_pos k, if_pos ⟨by omega, k.2⟩]
      · rw [if_neg k, if_neg (fun z => k ⟨by omega, z.2⟩)]
  · rw [gl, h3, if_neg (fun k => by omega), if_neg (fun k => by omega)]
    by_cases e : x = i
    · rw [if_pos ⟨rfl, rfl, e⟩, if_pos (by omega)]
    · rw [if_neg (fun k => e k.2.2)]
      by_cases k : x < i
      · rw [if_pos k, if_pos (by omega)]
      · rw [if_neg k, if_neg (by omega)]
  · rw [gl, h4, if_neg (fun k => by omega)]
    by_cases e : x = i
    · rw [if_pos ⟨rfl, rfl, e⟩, if_pos (by omega)]
    · rw [if_neg (fun k => e k.2.2), if_neg (fun k => by omega)]
      by_cases k : x < i
      · rw [if_pos k, if_pos (by omega)]
      · rw [if_neg k, if_neg (by omega)]
  · rw [gl, h5, if_neg (fun k => by omega), if_neg (fun k => by omega), if_neg (fun k => by omega)]
  · rw [gl, h6]
    by_cases e : x = i
    · rw [if_pos ⟨rfl, rfl, e⟩, if_pos (by omega)]
    · rw [if_neg (fun k => e k.2.2), if_neg (fun k => by omega), if_neg (fun k => by omega)]
      by_cases k : x < i
      · rw [if_pos k, if_pos (by omega)]
      · rw [if_neg k, if_neg (by omega)]
theorem B294_u {H : HP} {m : Nat} (h : B294 H m 5) : ∀ i, i < 5 → MUn H m i (baseU i) := fun i hi => by
  obtain ⟨h1, h2, h3, h4, h5, h6⟩ := h
  refine ⟨fun j hj => ?_, fun j j1 j2 => ?_, fun j hj => ?_, ?_, ?_, ?_, ?_⟩
  · have hj : j < 1 := hj
    rw [h1, if_pos ⟨by omega, by omega⟩]
    show lett ((4 * i + j) / 4) = lett i
    rw [show (4 * i + j) / 4 = i by omega]
  · have j1 : 1 ≤ j := j1
    rw [h1, if_neg (fun k => by omega)]
  · rw [h2]
    show (if (5 * i + j) / 5 < 5 ∧ (5 * i + j) % 5 = (5 * i + j) / 5 then (1 : Int32) else 0) = if j = i then 1 else 0
    by_cases e : j = i
    · rw [if_pos e, if_pos ⟨by omega, by omega⟩]
    · rw [if_neg e, if_neg (fun k => by omega)]
  · rw [h3, if_pos hi]; rfl
  · rw [h4, if_pos hi]; rfl
  · rw [h5]; rfl
  · rw [h6, if_pos hi]; rfl
theorem bs_body {d ca sa i m : Nat} {q : HP → Prop} {H : HP} {c : Int32} (sm : shM H m) (hi : i < 5) (hq : L_X12_init_294 d ca sa q m (Int32.ofNat (i + 1)) (bsH H m i c)) : ∃ a2, (hC H 1301 m) = some a2 ∧ (isA H a2 0 ∧ (vp_in ((4 : Int32) * (Int32.ofNat i)) (ln H a2) ∧ (∃ a5, (hC (sI H (tg H a2) a2 ((4 : Int32) * (Int32.ofNat i)).toNatClampNeg c) 1302 m) = some a5 ∧ (isA (sI H (tg H a2) a2 ((4 : Int32) * (Int32.ofNat i)).toNatClampNeg c) a5 0 ∧ (vp_in (((5 : Int32) * (Int32.ofNat i)) + (Int32.ofNat i)) (ln (sI H (tg H a2) a2 ((4 : Int32) * (Int32.ofNat i)).toNatClampNeg c) a5) ∧ (∀ H8, (sI (sI H (tg H a2) a2 ((4 : Int32) * (Int32.ofNat i)).toNatClampNeg c) (tg (sI H (tg H a2) a2 ((4 : Int32) * (Int32.ofNat i)).toNatClampNeg c) a5) a5 (((5 : Int32) * (Int32.ofNat i)) + (Int32.ofNat i)).toNatClampNeg (1 : Int32)) = H8 → (∃ a13, (hC H8 1303 m) = some a13 ∧ (isA H8 a13 3 ∧ (vp_in (Int32.ofNat i) (ln H8 a13) ∧ (∃ a16, (hC (sL H8 (tg H8 a13) a13 (Int32.ofNat i).toNatClampNeg (1 : Int64)) 1304 m) = some a16 ∧ (isA (sL H8 (tg H8 a13) a13 (Int32.ofNat i).toNatClampNeg (1 : Int64)) a16 3 ∧ (vp_in (Int32.ofNat i) (ln (sL H8 (tg H8 a13) a13 (Int32.ofNat i).toNatClampNeg (1 : Int64)) a16) ∧ (∃ a19, (hC (sL (sL H8 (tg H8 a13) a13 (Int32.ofNat i).toNatClampNeg (1 : Int64)) (tg (sL H8 (tg H8 a13) a13 (Int32.ofNat i).toNatClampNeg (1 : Int64)) a16) a16 (Int32.ofNat i).toNatClampNeg (1 : Int64)) 1306 m) = some a19 ∧ (isA (sL (sL H8 (tg H8 a13) a13 (Int32.ofNat i).toNatClampNeg (1 : Int64)) (tg (sL H8 (tg H8 a13) a13 (Int32.ofNat i).toNatClampNeg (1 : Int64)) a16) a16 (Int32.ofNat i).toNatClampNeg (1 : Int64)) a19 3 ∧ (vp_in (Int32.ofNat i) (ln (sL (sL H8 (tg H8 a13) a13 (Int32.ofNat i).toNatClampNeg (1 : Int64)) (tg (sL H8 (tg H8 a13) a13 (Int32.ofNat i).toNatClampNeg (1 : Int64)) a16) a16 (Int32.ofNat i).toNatClampNeg (1 : Int64)) a19) ∧ (∀ H22, (sL (sL (sL H8 (tg H8 a13) a13 (Int32.ofNat i).toNatClampNeg (1 : Int64)) (tg (sL H8 (tg H8 a13) a13 (Int32.ofNat i).toNatClampNeg (1 : Int64)) a16) a16 (Int32.ofNat i).toNatClampNeg (1 : Int64)) (tg (sL (sL H8 (tg H8 a13) a13 (Int32.ofNat i).toNatClampNeg (1 : Int64)) (tg (sL H8 (tg H8 a13) a13 (Int32.ofNat i).toNatClampNeg (1 : Int64)) a16) a16 (Int32.ofNat i).toNatClampNeg (1 : Int64)) a19) a19 (Int32.ofNat i).toNatClampNeg (1 : Int64)) = H22 → (L_X12_init_294 d ca sa q m ((Int32.ofNat i) + 1) H22))))))))))))))))) := by
  obtain ⟨a1, a2, a3, a4⟩ := mA_name sm
  rw [ix4a (by omega), ix5 (by omega), iN_inc (by omega)]
  refine ⟨m + 1, a1, a2, by rw [a4]; exact vpi_of (by omega) (by decide), ?_⟩
  rw [a3, iN_cl (by omega)]
  have s1 : shM (sI H 4640 (m + 1) (4 * i) c) m := sm
  obtain ⟨b1, b2, b3, b4⟩ := mA_power s1
  refine ⟨m + 2, b1, b2, by rw [b4]; exact vpi_of (by omega) (by decide), fun H8 e8 => ?_⟩
  rw [b3, iN_cl (by omega)] at e8
  rw [iN_cl (by omega)]
  subst e8
  have s2 : shM (sI (sI H 4640 (m + 1) (4 * i) c) 4656 (m + 2) (5 * i + i) 1) m := sm
  obtain ⟨c1, c2, c3, c4⟩ := mA_factorUp s2
  refine ⟨m + 3, c1, c2, by rw [c4]; exact vpi_of (by omega) (by decide), ?_⟩
  rw [c3]
  have s3 : shM (sL (sI (sI H 4640 (m + 1) (4 * i) c) 4656 (m + 2) (5 * i + i) 1) 4675 (m + 3) i 1) m := sm
  obtain ⟨d1, d2, d3, d4⟩ := mA_factorLow s3
  refine ⟨m + 4, d1, d2, by rw [d4]; exact vpi_of (by omega) (by decide), ?_⟩
  rw [d3]
  have s4 : shM (sL (sL (sI (sI H 4640 (m + 1) (4 * i) c) 4656 (m + 2) (5 * i + i) 1) 4675 (m + 3) i 1) 4691 (m + 4) i 1) m := sm
  obtain ⟨f1, f2, f3, f4⟩ := mA_offsetLow s4
  refine ⟨m + 6, f1, f2, by rw [f4]; exact vpi_of (by omega) (by decide), fun H22 e22 => ?_⟩
  rw [f3] at e22
  subst e22
  exact hq
