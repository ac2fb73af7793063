
/-! ===== units: name, powers, factor, offset ===== -/
abbrev UV : Type := (Nat × (Nat → Int32)) × (Nat → Int32) × FR × FR
def okU (u : UV) : Prop := 1 ≤ u.1.1 ∧ u.1.1 ≤ 4 ∧ (∀ j, j < u.1.1 → isLet (u.1.2 j) = true) ∧ (∀ j, j < 5 → -9 ≤ (u.2.1 j).toInt ∧ (u.2.1 j).toInt ≤ 9) ∧ okF u.2.2.1 ∧ 0 < u.2.2.1.1.toInt ∧ okF u.2.2.2
def shUnit (H : HP) (a : Nat) : Prop := tg H a = 10 ∧ hC H 1000 a = some (a + 1) ∧ hT H (a + 1) = (4193, 4) ∧ hC H 1002 a = some (a + 2) ∧ hT H (a + 2) = (4208, 5) ∧ hC H 1003 a = some (a + 3) ∧ tg H (a + 3) = 4 ∧ hC H 1004 a = some (a + 4) ∧ tg H (a + 4) = 4
def CUn (H : HP) (a : Nat) (u : UV) : Prop := hI H 1001 a 0 = Int32.ofNat u.1.1 ∧ (∀ j, j < u.1.1 → hI H 4193 (a + 1) j = u.1.2 j) ∧ (∀ j, j < 5 → hI H 4208 (a + 2) j = u.2.1 j) ∧ getF H (a + 3) = u.2.2.1 ∧ getF H (a + 4) = u.2.2.2 ∧ (∀ j, j < 4 → -128 ≤ (hI H 4193 (a + 1) j).toInt ∧ (hI H 4193 (a + 1) j).toInt ≤ 127)
def shUnits (H : HP) (a : Nat) : Prop := tg H a = 11 ∧ hC H 1100 a = some (a + 1) ∧ hT H (a + 1) = (4358, 20) ∧ ∀ i, i < 20 → hR H 4358 (a + 1) i = some (a + 2 + 5 * i) ∧ shUnit H (a + 2 + 5 * i)
def CU (H : HP) (a n : Nat) (U : Nat → UV) : Prop := shUnits H a ∧ hI H 1101 a 0 = Int32.ofNat n ∧ n ≤ 20 ∧ ∀ i, i < n → CUn H (a + 2 + 5 * i) (U i)
def eqN (n : Nat) (f g : Nat → Int32) : Bool := decide (∀ j, j < n → f j = g j)
abbrev eq5 (f g : Nat → Int32) : Bool := eqN 5 f g
theorem eq5_iff {f g : Nat → Int32} : eq5 f g = true ↔ ∀ j, j < 5 → f j = g j := decide_eq_true_iff
theorem equalRows_loop {d : Nat} {q : HP → Bool → Prop} {H : HP} {a b t t' : Nat} {f g : Nat → Int32} (ha : hT H a = (t, 5)) (hb : hT H b = (t', 5)) (ht : 4096 ≤ t) (ht' : 4096 ≤ t') (he : t % 16 = 0) (he' : t' % 16 = 0) (hf : ∀ j, j < 5 → hI H t a j = f j) (hg : ∀ j, j < 5 → hI H t' b j = g j) : ∀ (n j : Nat), n + j = 5 → (∀ b : Bool, (b = true ↔ ∀ i, i < 5 → j ≤ i → f i = g i) → q H b) → L_X11_equalRows_2 d q (some a) (some b) (Int32.ofNat j) H := by
  have e5 : (5 : Int32) = Int32.ofNat 5 := rfl
  intro n
  induction n with
  | zero =>
    intro j hj hq
    refine T_X11_equalRows_2 ?_
    unfold wb_X11_equalRows_2
    rw [e5, iN_le (by omega) (by omega)]
    exact ⟨fun _ => hq true ⟨fun _ i h1 h2 => by omega, fun _ => rfl⟩, fun h => by omega⟩
  | succ n ih =>
    intro j hj hq
    refine T_X11_equalRows_2 ?_
    unfold wb_X11_equalRows_2
    rw [e5, iN_le (by omega) (by omega)]
    refine ⟨fun h => by omega, fun _ => ⟨a, rfl, isA_of ha ht he, ?_, b, rfl, isA_of hb ht' he', ?_, ?_⟩⟩
    · rw [ln_of ha]; exact vpi_of (by omega) (by omega)
    · rw [ln_of hb]; exact vpi_of (by omega) (by omega)
    · rw [tg_of ha, tg_of hb, iN_cl (by omega), hf j (by omega), hg j (by omega), iN_inc (by omega)]
      refine ⟨fun h => ih (j + 1) (by omega) fun b hb => hq b (hb.trans ?_), fun h => hq false ?_⟩
      · refine ⟨fun k i h1 h2 => ?_, fun k i h1 h2 => k i h1 (by omega)⟩
        by_cases e : i = j
        · rw [e]; exact h
        · exact k i h1 (by omega)
      · exact ⟨fun k => (by cases k), fun k => absurd (k j (by omega) (Nat.le_refl _)) h⟩
theorem K_equalRows {d : Nat} {q : HP → Bool → Prop} {H : HP} {a b t t' : Nat} {f g : Nat → Int32} (ha : hT H a = (t, 5)) (hb : hT H b = (t', 5)) (ht : 4096 ≤ t) (ht' : 4096 ≤ t') (he : t % 16 = 0) (he' : t' % 16 = 0) (hf : ∀ j, j < 5 → hI H t a j = f j) (hg : ∀ j, j < 5 → hI H t' b j = g j) (hq : q H (eq5 f g)) : CZ (d + 1) 0 0 mX11_equalRows [rv (some a), rv (some b)] H q := by
  refine C_X11_equalRows ?_
  unfold wb_X11_equalRows_0
  refine equalRows_loop ha hb ht ht' he he' hf hg 5 0 rfl fun b hb => ?_
  have : b = eq5 f g := by
    rw [Bool.eq_iff_iff, hb, eq5_iff]
    exact ⟨fun k i h => k i h (Nat.zero_le _), fun k i h _ => k i h⟩
  rw [this]; exact hq
theorem K_isLike {d : Nat} {q : HP → Bool → Prop} {H : HP} {a b : Nat} {u v : UV} (sa : shUnit H a) (sb : shUnit H b) (ha : CUn H a u) (hb : CUn H b v) (hq : q H (eq5 u.2.1 v.2.1)) : CZ (d + 2) 0 0 mX9_isLike [rv (some a), rv (some b)] H q := by
  obtain ⟨a1, a2, a3, a4, a5, a6, a7, a8, a9⟩ := sa
  obtain ⟨b1, b2, b3, b4, b5, b6, b7, b8, b9⟩ := sb
  refine C_X9_isLike ?_
  unfold wb_X9_isLike_0
  refine ⟨a1, b, rfl, b1, ?_⟩
  rw [a4, b4]
  exact K_equalRows a5 b5 (by decide) (by decide) (by decide) (by decide) ha.2.2.1 hb.2.2.1 hq
def offU (u : UV) : Bool := decide (u.2.2.2.1 ≠ 0)
theorem K_hasOffset {d : Nat} {q : HP → Bool → Prop} {H : HP} {a : Nat} {u : UV} (sa : shUnit H a) (ha : CUn H a u) (hq : q H (offU u)) : CZ (d + 1) 0 0 mX9_hasOffset [rv (some a)] H q := by
  obtain ⟨a1, a2, a3, a4, a5, a6, a7, a8, a9⟩ := sa
  obtain ⟨u1, u2, u3, u4, u5, u6⟩ := ha
  refine C_X9_hasOffset ?_
  unfold wb_X9_hasOffset_0
  have e : hL H 400 (a + 4) 0 = u.2.2.2.1 := congrArg Prod.fst u5
  unfold offU at hq
  refine ⟨a1, a + 4, a8, a9, ?_⟩
  rw [e]
  refine ⟨fun h => ?_, fun h => ?_⟩
  · rwa [decide_eq_false (fun k => k h)] at hq
  · rwa [decide_eq_true h] at hq
/-- whether a name stands on the tape from a place on -/
def nmEq (u : UV) (T : TP) (fr many : Nat) : Bool := decide (u.1.1 = many ∧ ∀ j, j < many → T.2 (fr + j) = u.1.2 j)
theorem holds_loop {d : Nat} {q : HP → Bool → Prop} {H : HP} {a b p fr many : Nat} {T : TP} {u : UV} (h : CT H a T p) (hb : hT H b = (4193, 4)) (hu : ∀ j, j < many → hI H 4193 b j = u.1.2 j) (hm : many ≤ 4) (hfr : fr + many ≤ T.1) : ∀ (n j : Nat), n + j = many → q H (decide (∀ i, i < many → j ≤ i → T.2 (fr + i) = u.1.2 i)) → L_X7_holds_25 d q a (some b) (Int32.ofNat many) (Int32.ofNat fr) (Int32.ofNat j) H := by
  obtain ⟨⟨s1, s2, s3⟩, h2, h3, h4, h5, h6⟩ := h
  intro n
  induction n with
  | zero =>
    intro j hj hq
    refine T_X7_holds_25 ?_
    unfold wb_X7_holds_25
    rw [iN_le (by omega) (by omega)]
    rw [decide_eq_true (fun i h1 h2 => by omega)] at hq
    exact ⟨fun _ => hq, fun h => by omega⟩
  | succ n ih =>
    intro j hj hq
    refine T_X7_holds_25 ?_
    unfold wb_X7_holds_25
    rw [iN_le (by omega) (by omega), iN_add (by omega)]
    refine ⟨fun h => by omega, fun _ => ⟨s1, a + 1, s2, isA_of s3 (by decide) (by decide), ?_, b, rfl, isA_of hb (by decide) (by decide), ?_, ?_⟩⟩
    · rw [ln_of s3]; exact vpi_of (by omega) (by omega)
    · rw [ln_of hb]; exact vpi_of (by omega) (by omega)
    · rw [tg_of s3, tg_of hb, iN_cl (by omega), iN_cl (by omega), (h6 (fr + j) (by omega)).1, hu j (by omega), iN_inc (by omega)]
      refine ⟨fun h => ih (j + 1) (by omega) ?_, fun h => ?_⟩
      · have : (∀ i, i < many → j + 1 ≤ i → T.2 (fr + i) = u.1.2 i) ↔ (∀ i, i < many → j ≤ i → T.2 (fr + i) = u.1.2 i) := by
          refine ⟨fun k i h1 h2 => ?_, fun k i h1 h2 => k i h1 (by omega)⟩
          by_cases e : i = j
          · rw [e]; exact h
          · exact k i h1 (by omega)
        simp only [this]
        exact hq
      · rwa [decide_eq_false (fun k => h (k j (by omega) (Nat.le_refl _)))] at hq
theorem K_isNamed {d : Nat} {q : HP → Bool → Prop} {H : HP} {a t p fr many : Nat} {T : TP} {u : UV} (h : CT H t T p) (sa : shUnit H a) (ha : CUn H a u) (h4 : u.1.1 ≤ 4) (hfr : fr + many ≤ T.1) (hq : q H (nmEq u T fr many)) : CZ (d + 2) 0 0 mX9_isNamed [rv (some a), rv (some t), .int (Int32.ofNat fr), .int (Int32.ofNat many)] H q := by
  obtain ⟨a1, a2, a3, a4, a5, a6, a7, a8, a9⟩ := sa
  obtain ⟨u1, u2, u3, u4, u5, u6⟩ := ha
  have h' := h
  obtain ⟨⟨s1, s2, s3⟩, t2, t3, t4, t5, t6⟩ := h'
  refine C_X9_isNamed ?_
  unfold wb_X9_isNamed_0
  unfold nmEq at hq
  rw [u1, iN_eq (by omega) (by omega)]
  refine ⟨a1, fun k => ?_, fun k => ⟨t, rfl, s1, ?_⟩⟩
  · rwa [decide_eq_false (fun e => k e.1.symm)] at hq
  · rw [a2, ← k]
    refine C_X7_holds ?_
    unfold wb_X7_holds_0
    rw [t2, i32_lt, iN_toInt (by omega), i32_0, iN_add (by omega), iN_lt (by omega) (by omega)]
    refine ⟨fun h => by omega, fun _ => ⟨s1, fun h => by omega, fun _ => ⟨a + 1, rfl, ?_⟩⟩⟩
    rw [ln_of a3, iN_le (by omega) (by omega), tg_of a3]
    refine ⟨by decide, fun _ => ?_, fun h => by omega⟩
    refine holds_loop (u := u) h a3 (fun j hj => u2 j (by omega)) (by omega) hfr many 0 (by omega) ?_
    have : (∀ i, i < many → 0 ≤ i → T.2 (fr + i) = u.1.2 i) ↔ (u.1.1 = many ∧ ∀ j, j < many → T.2 (fr + j) = u.1.2 j) := ⟨fun e => ⟨k.symm, fun j hj => e j hj (Nat.zero_le _)⟩, fun e i hi _ => e.2 i hi⟩
    simp only [this]
    generalize decide (u.1.1 = many ∧ ∀ j, j < many → T.2 (fr + j) = u.1.2 j) = b at hq ⊢
    exact ⟨fun e => by rw [e] at hq; exact hq, fun e => by rw [e] at hq; exact hq⟩
/-- the first that has a property, or -1 -/
def whoF (P : Nat → Bool) : Nat → Nat → Int32
  | 0, _ => -1
  | n + 1, i => if P i = true then Int32.ofNat i else whoF P n (i + 1)
theorem numberOf_loop {d : Nat} {q : HP → Int32 → Prop} {H : HP} {a n t p fr many : Nat} {T : TP} {U : Nat → UV} (h : CT H t T p) (hu : CU H a n U) (hok : ∀ i, i < n → okU (U i)) (hfr : fr + many ≤ T.1) : ∀ (k i : Nat), k + i = n → q H (whoF (fun i => nmEq (U i) T fr many) k i) → L_X10_numberOf_3 (d + 2) q a (some t) (Int32.ofNat fr) (Int32.ofNat many) (Int32.ofNat i) H := by
  obtain ⟨⟨s1, s2, s3, s4⟩, h2, h3, h4⟩ := hu
  have e20 : (20 : Int32) = Int32.ofNat 20 := rfl
  intro k
  induction k with
  | zero =>
    intro i hi hq
    refine T_X10_numberOf_3 ?_
    unfold wb_X10_numberOf_3
    rw [h2, iN_le (by omega) (by omega)]
    exact ⟨s1, fun _ => hq, fun h => by omega⟩
  | succ k ih =>
    intro i hi hq
    obtain ⟨r1, r2⟩ := s4 i (by omega)
    refine T_X10_numberOf_3 ?_
    unfold wb_X10_numberOf_3
    rw [h2, iN_le (by omega) (by omega), e20, iN_le (by omega) (by omega), iN_cl (by omega)]
    refine ⟨s1, fun h => by omega, fun _ => ⟨fun h => by omega, fun _ => ⟨a + 1, s2, isA_of s3 (by decide) (by decide), ?_, a + 2 + 5 * i, ?_, r2.1, ?_⟩⟩⟩
    · rw [ln_of s3]; exact vpi_of (by omega) (by omega)
    · rw [tg_of s3]; exact r1
    · rw [tg_of s3, r1, iN_inc (by omega)]
      refine K_isNamed h r2 (h4 i (by omega)) (hok i (by omega)).2.1 hfr ⟨fun c => ?_, fun c => ?_⟩
      · rw [whoF, if_neg (by rw [c]; decide)] at hq
        exact ih (i + 1) (by omega) hq
      · rwa [whoF, if_pos c] at hq
theorem K_numberOf {d : Nat} {q : HP → Int32 → Prop} {H : HP} {a n t p fr many : Nat} {T : TP} {U : Nat → UV} (h : CT H t T p) (hu : CU H a n U) (hok : ∀ i, i < n → okU (U i)) (hfr : fr + many ≤ T.1) (hq : q H (whoF (fun i => nmEq (U i) T fr many) n 0)) : CI (d + 3) 0 0 mX10_numberOf [rv (some a), rv (some t), .int (Int32.ofNat fr), .int (Int32.ofNat many)] H q := by
  refine C_X10_numberOf ?_
  unfold wb_X10_numberOf_0
  exact numberOf_loop h hu hok hfr n 0 rfl hq
theorem K_at {d : Nat} {q : HP → Option Nat → Prop} {H : HP} {a n : Nat} {U : Nat → UV} {x : Int32} (hu : CU H a n U) (h1 : ∀ i : Nat, i < n → x = Int32.ofNat i → q H (some (a + 2 + 5 * i))) (h0 : (x.toInt < 0 ∨ (n : Int) ≤ x.toInt) → q H none) : CR (d + 1) 0 0 mX10_at [rv (some a), .int x] H q := by
  obtain ⟨⟨s1, s2, s3, s4⟩, h2, h3, h4⟩ := hu
  have e20 : (20 : Int32).toInt = 20 := rfl
  refine C_X10_at ?_
  unfold wb_X10_at_0
  simp only [i32_lt, i32_le, h2, iN_toInt (n := n) (by omega), e20, i32_0]
  refine ⟨fun c => h0 (Or.inl c), fun c => ⟨s1, fun c2 => h0 (Or.inr c2), fun c2 => ⟨fun c3 => ⟨a + 1, s2, isA_of s3 (by decide) (by decide), ?_, ?_⟩, fun c3 => h0 (Or.inr (by omega))⟩⟩⟩
  · rw [ln_of s3]; exact vpi_i (by omega) (by omega)
  · have ex : x = Int32.ofNat x.toInt.toNat := iN_inj (by omega) (by omega)
    have ec : x.toNatClampNeg = x.toInt.toNat := rfl
    rw [tg_of s3, ec, (s4 x.toInt.toNat (by omega)).1]
    exact h1 _ (by omega) ex
