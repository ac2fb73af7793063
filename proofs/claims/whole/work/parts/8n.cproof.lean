
/-! ===== what a proof is, for both sides ===== -/
theorem hRs (H : HP) (g a i : Nat) (v : Option Nat) (g' a' i' : Nat) : hR (sR H g a i v) g' a' i' = if g' = g ∧ a' = a ∧ i' = i then v else hR H g' a' i' := rfl
def sgE (x0 : Int64) : Int32 := (((x0 >>> ((63 : Int32).toInt64 &&& 63)) ||| (((-x0).toUInt64 >>> ((63 : Int32).toInt64.toUInt64 &&& Int64.toUInt64 63)).toInt64)).toInt32)
theorem sgE_bits (x : Int64) : (sgE x).toBitVec = ((x.toBitVec.sshiftRight 63) ||| ((-x.toBitVec) >>> 63)).signExtend 32 := by
  have m1 : (63 : Int32).toInt64 &&& 63 = (63 : Int64) := by decide
  have m2 : (63 : Int32).toInt64.toUInt64 &&& Int64.toUInt64 63 = (63 : UInt64) := by decide
  unfold sgE
  rw [m1, m2]
  have n1 : (x >>> (63 : Int64)).toBitVec = x.toBitVec.sshiftRight 63 := by
    rw [Int64.toBitVec_shiftRight]
    have : (63 : Int64).toBitVec.smod 64 = 63#64 := by decide
    rw [this, BitVec.sshiftRight_eq']
    rfl
  have n2 : ((-x).toUInt64 >>> (63 : UInt64)).toInt64.toBitVec = (-x.toBitVec) >>> 63 := by
    show ((-x).toUInt64 >>> (63 : UInt64)).toBitVec = _
    rw [UInt64.toBitVec_shiftRight]
    have : (63 : UInt64).toBitVec % 64 = 63#64 := by decide
    rw [this]
    rfl
  rw [Int64.toBitVec_toInt32, Int64.toBitVec_or, n1, n2]
theorem sgE_eq (x : Int64) : sgE x = if x.toInt < 0 then -1 else if x.toInt = 0 then 0 else 1 := by
  have hb := sgE_bits x
  have e : ∀ y : Int32, (sgE x).toBitVec = y.toBitVec → sgE x = y := fun y h => Int32.toBitVec_inj.mp h
  have hbit : ∀ i, i < 32 → (sgE x).toBitVec.getLsbD i = (x.toBitVec.msb || (decide (i = 0) && (-x.toBitVec).msb)) := fun i hi => by
    rw [hb, BitVec.getLsbD_signExtend, if_pos (show i < 64 by omega), BitVec.getLsbD_or, BitVec.getLsbD_sshiftRight, BitVec.getLsbD_ushiftRight]
    have c1 : ¬ (64 ≤ i) := by omega
    by_cases h0 : i = 0
    · subst h0
      simp [BitVec.msb_eq_getLsbD_last]
    · have c2 : ¬ (63 + i < 64) := by omega
      have c3 : (-x.toBitVec).getLsbD (63 + i) = false := BitVec.getLsbD_of_ge _ _ (by omega)
      rw [c3]
      simp [hi, h0, c1, c2]
  have hm : x.toBitVec.msb = decide (x.toInt < 0) := by
    show _ = decide (x.toBitVec.toInt < 0)
    rw [BitVec.msb_eq_toInt]
  by_cases hn : x.toInt < 0
  · rw [if_pos hn]
    refine e _ (BitVec.eq_of_getLsbD_eq fun i hi => ?_)
    rw [hbit i hi, hm, decide_eq_true hn]
    have : (-1 : Int32).toBitVec = BitVec.allOnes 32 := by decide
    rw [this, BitVec.getLsbD_allOnes, decide_eq_true hi]; rfl
  · rw [if_neg hn]
    by_cases h0 : x.toInt = 0
    · rw [if_pos h0]
      have hx : x = 0 := Int64.toInt_inj.mp (by rw [h0]; rfl)
      rw [hx]; decide
    · rw [if_neg h0]
      have hmn : (-x.toBitVec).msb = true := by
        rw [BitVec.msb_neg]
        have a1 : x.toBitVec ≠ 0#64 := fun k => h0 (by show x.toBitVec.toInt = 0; rw [k]; decide)
        have a2 : x.toBitVec ≠ BitVec.intMin 64 := fun k => hn (by show x.toBitVec.toInt < 0; rw [k]; decide)
        rw [hm, decide_eq_false hn]
        simp [a1, a2]
      refine e _ (BitVec.eq_of_getLsbD_eq fun i hi => ?_)
      rw [hbit i hi, hm, decide_eq_false hn, hmn]
      have : (1 : Int32).toBitVec = 1#32 := by decide
      rw [this, BitVec.getLsbD_one]
      simp
theorem K_compareL {d : Nat} {q : HP → Int32 → Prop} {H : HP} {x : Int64} (hq : q H (sgE x)) : CI (d + 1) 0 0 mJ13_compare_74951 [.long x, .long (0 : Int64)] H q := by
  refine C_J13_compare_74951 ?_
  unfold wb_J13_compare_74951_0
  rw [i64_le, i64_eq, i64_0]
  rw [sgE_eq] at hq
  refine ⟨fun h => ⟨fun h2 => ?_, fun h2 => ?_⟩, fun h => ?_⟩
  · rw [if_neg (by omega), if_neg h2] at hq; exact hq
  · rw [if_neg (by omega), if_pos h2] at hq; exact hq
  · rw [if_pos (by omega)] at hq; exact hq
theorem K_signum {d : Nat} {q : HP → Int32 → Prop} {H : HP} {x : Int64} (hq : q H (sgE x)) : CI (d + 1) 0 0 mJ13_signum_95d88 [.long x] H q := by
  refine C_J13_signum_95d88 ?_
  unfold wb_J13_signum_95d88_0
  exact hq
/-- a proof: rows, whether with a sign of equality, its sides, what was judged -/
abbrev PG : Type := PS × Bool × Nat × Nat × JS
def gS (P : PG) : PS := P.1
def gE (P : PG) : Bool := P.2.1
def gL (P : PG) : Nat := P.2.2.1
def gR (P : PG) : Nat := P.2.2.2.1
def gJ (P : PG) : JS := P.2.2.2.2
def gW (P : PG) : Int32 := P.2.2.2.2.1
def gH (P : PG) : Nat := P.2.2.2.2.2.1
def gV (P : PG) : Nat → JV := P.2.2.2.2.2.2
def gK (P : PG) (i : Nat) : Nat := (P.1.2 i).1
def okPG (P : PG) : Prop := 1 ≤ (gS P).1 ∧ (gS P).1 ≤ 60 ∧ gH P ≤ (gS P).1 ∧ (gW P = 0 → gH P = (gS P).1) ∧ (∀ i, i < (gS P).1 → gK P i ≤ 5) ∧ (gE P = true → (gS P).2 ((gS P).1 - 1) = opR 5 (gL P) (gR P) ∧ gL P < (gS P).1 - 1 ∧ gR P < (gS P).1 - 1) ∧ ∀ i, i < gH P → okV (gV P i)
theorem pF_okPG {T : TP} {st : PS} {eq : Bool} {l r n : Nat} {U : Nat → UV} (hU : ∀ i, okU (U i)) (h : pF T = .inr (st, eq, l, r)) (h60 : st.1 ≤ 60) (hv : ∀ i, i < (jA (wF T n U) U st st.1).2.1 → okV ((jA (wF T n U) U st st.1).2.2 i)) : okPG (st, eq, l, r, jA (wF T n U) U st st.1) := by
  obtain ⟨o1, o2, o3⟩ := pF_ok h
  have hj := jA_held (F := wF T n U) (U := U) (st := st) st.1
  refine ⟨o2, h60, hj.1, hj.2, fun i hi => ?_, o3, hv⟩
  rcases o1 i hi with k | k
  · show (st.2 i).1 ≤ 5
    rw [k.1]; decide
  · exact k.2.1
/-- a side of what is held -/
def sideP (P : PG) (x : Int32) : Option Nat := if gW P = 0 then (if gE P = true then (if x = 0 then some (gL P) else if x = 1 then some (gR P) else none) else (if x = 0 then some ((gS P).1 - 1) else none)) else none
def agreeP (P : PG) : Bool := decide (gW P = 0) && gE P && decide ((gV P (gH P - 1)).2.1 = 0)
def partsP (P : PG) : Nat := cntB (fun i => decide (gK P i = 0)) (gH P)
theorem sideP_lt {P : PG} (ok : okPG P) {x : Int32} {i : Nat} (h : sideP P x = some i) : i < gH P := by
  obtain ⟨o1, o2, o3, o4, o5, o6, o7⟩ := ok
  unfold sideP at h
  by_cases hw : gW P = 0
  · rw [if_pos hw] at h
    have := o4 hw
    by_cases he : gE P = true
    · rw [if_pos he] at h
      obtain ⟨-, e2, e3⟩ := o6 he
      by_cases h0 : x = 0
      · rw [if_pos h0] at h; injection h with h; omega
      · rw [if_neg h0] at h
        by_cases h1 : x = 1
        · rw [if_pos h1] at h; injection h with h; omega
        · rw [if_neg h1] at h; cases h
    · rw [if_neg he] at h
      by_cases h0 : x = 0
      · rw [if_pos h0] at h; injection h with h; omega
      · rw [if_neg h0] at h; cases h
  · rw [if_neg hw] at h; cases h
/-! ===== the class: what it answers of a proof ===== -/
def CPf (H : HP) (a : Nat) (P : PG) : Prop := shProof H a ∧ PVd H a (gS P) (gJ P) ∧ hI H 504 a 0 = bI (gE P)
theorem fr_CPf {S : Nat → Nat → Prop} {H H' : HP} {a : Nat} {P : PG} (ok : okPG P) (h : Fr S H H') (h1 : ∀ g x, a ≤ x → x < a + 424 → ¬ S g x) (s : CPf H a P) : CPf H' a P := by
  obtain ⟨s1, s2, s3⟩ := s
  refine ⟨fr_shProof h (h1 _ _ (by omega) (by omega)) s1, fr_PVd h h1 ok.2.2.1 s2, ?_⟩
  rw [h.2.2.2.2.1 _ _ (h1 _ _ (by omega) (by omega))]; exact s3
theorem K_heldStep {d : Nat} {q : HP → Option Nat → Prop} {H : HP} {a k : Nat} {x : Int32} (sp : shProof H a) (hk : hI H 502 a 0 = Int32.ofNat k) (h60 : k ≤ 60) (h1 : ∀ i : Nat, i < k → x = Int32.ofNat i → q H (some (stA a i))) (h0 : (x.toInt < 0 ∨ (k : Int) ≤ x.toInt) → q H none) : CR (d + 1) 0 0 mX4_heldStep [rv (some a), .int x] H q := by
  obtain ⟨s1, s2, s3, s4, s5, s6, s7, s8⟩ := sp
  have e60 : (60 : Int32).toInt = 60 := rfl
  refine C_X4_heldStep ?_
  unfold wb_X4_heldStep_0
  rw [hk, i32_lt, i32_le, i32_lt, i32_0, iN_toInt (by omega), e60]
  refine ⟨fun h => h0 (Or.inl h), fun h => ⟨s1, fun h2 => h0 (Or.inr h2), fun h2 => ⟨fun h3 => ⟨a + 1, s2, isA_of s3 (by decide) (by decide), ?_, ?_⟩, fun h3 => (by omega)⟩⟩⟩
  · rw [ln_of s3]; exact vpi_i (by omega) (by omega)
  · have ec : x.toNatClampNeg = x.toInt.toNat := rfl
    rw [tg_of s3, ec, (s8 x.toInt.toNat (by omega)).1]
    exact h1 _ (by omega) (iN_inj (by omega) (by omega))
theorem K_isHeld {d : Nat} {q : HP → Bool → Prop} {H : HP} {a : Nat} (sp : tg H a = 5) (h1 : hI H 503 a 0 = 0 → q H true) (h0 : ¬ hI H 503 a 0 = 0 → q H false) : CZ (d + 1) 0 0 mX4_isHeld [rv (some a)] H q := by
  refine C_X4_isHeld ?_
  unfold wb_X4_isHeld_0
  exact ⟨sp, h0, h1⟩
theorem held_last {k : Nat} (h : k ≤ 60) : (Int32.ofNat k - (1 : Int32)).toInt = (k : Int) - 1 := by
  rw [i32_subx] <;> rw [iN_toInt (by omega), i32_1] <;> omega
theorem K_side {d : Nat} {q : HP → Option Nat → Prop} {H : HP} {a : Nat} {P : PG} {x : Int32} (ok : okPG P) (s : CPf H a P) (hq : q H ((sideP P x).map (stA a))) : CR (d + 2) 0 0 mX4_side [rv (some a), .int x] H q := by
  obtain ⟨s1, s2, s3⟩ := s
  obtain ⟨p1, p2, p3, p4, p5, p6⟩ := s2
  obtain ⟨o1, o2, o3, o4, o5, o6, o7⟩ := ok
  have p3 : hI H 502 a 0 = Int32.ofNat (gH P) := p3
  have p4 : hI H 503 a 0 = gW P := p4
  have hl := held_last (k := gH P) (by omega)
  refine C_X4_side ?_
  unfold wb_X4_side_0
  rw [p3]
  unfold sideP at hq
  refine ⟨s1.1, K_heldStep (d := d) s1 p3 (by omega) (fun i hi e => ⟨fun k => (by cases k), fun b hb => ⟨s1.1, K_isHeld s1.1 (fun hw => ⟨fun k => (by cases k), fun _ => ?_⟩) (fun hw => ⟨fun _ => ?_, fun k => (by cases k)⟩)⟩⟩) (fun h => ⟨fun _ => ?_, fun b hb => (by cases hb)⟩)⟩
  · rw [p4] at hw
    have ei : i = (gS P).1 - 1 := by
      have := o4 hw
      rw [e, iN_toInt (by omega)] at hl; omega
    injection hb with hb
    subst hb
    rw [if_pos hw] at hq
    have h2 := (s1.2.2.2.2.2.2.2 i (by omega)).2
    have e1 : (1 : Int32).toInt = 1 := rfl
    rw [i32_lt, i32_le, i32_0, e1]
    have z3 : hI H 504 a 0 = 0 ↔ ¬ gE P = true := by
      rw [s3]
      cases gE P with
      | false => exact ⟨fun _ k => (by cases k), fun _ => rfl⟩
      | true => exact ⟨fun k => absurd k (by decide), fun k => absurd rfl k⟩
    have hne : ∀ y : Int32, (x.toInt < y.toInt ∨ y.toInt < x.toInt) → ¬ x = y := fun y h k => by rw [k] at h; omega
    refine ⟨fun h => ?_, fun h => ⟨fun h' => ⟨s1.1, fun hE => ?_, fun hE => ?_⟩, fun h' => ?_⟩⟩
    · have n0 := hne 0 (by rw [i32_0]; omega)
      have n1 := hne 1 (by rw [i32_1]; omega)
      rw [if_neg n0, if_neg n1, if_neg n0, ite_self] at hq; exact hq
    · have hE' : gE P = true := Classical.byContradiction fun k => hE (z3.mpr k)
      obtain ⟨k1, k2, k3⟩ := o6 hE'
      rw [if_pos hE'] at hq
      obtain ⟨-, -, -, r4⟩ := p5 i (by omega)
      rw [ei, k1] at r4
      obtain ⟨r5, r6, -⟩ := r4 (show (5 : Nat) ≠ 0 by decide)
      refine ⟨fun h0 => ⟨h2.1, ?_⟩, fun h0 => ⟨h2.1, ?_⟩⟩
      · have h1 : x = 1 := i32_ext (by
          have : x.toInt ≠ 0 := fun k => h0 (i32_ext (by rw [k]; rfl))
          rw [i32_1]; omega)
        rw [if_neg h0, if_pos h1] at hq
        rw [ei, r6]; exact hq
      · rw [if_pos h0] at hq
        rw [ei, r5]; exact hq
    · rw [if_neg (z3.mp hE)] at hq
      refine ⟨fun h0 => ?_, fun h0 => ?_⟩
      · rw [if_neg h0] at hq; exact hq
      · rw [if_pos h0] at hq
        rw [ei]; exact hq
    · have n0 := hne 0 (by rw [i32_0]; omega)
      have n1 := hne 1 (by rw [i32_1]; omega)
      rw [if_neg n0, if_neg n1, if_neg n0, ite_self] at hq; exact hq
  · rw [p4] at hw
    rw [if_neg hw] at hq; exact hq
  · have hw : ¬ gW P = 0 := fun k => by have := o4 k; omega
    rw [if_neg hw] at hq; exact hq
theorem K_sidesAgree {d : Nat} {q : HP → Bool → Prop} {H : HP} {a : Nat} {P : PG} (ok : okPG P) (s : CPf H a P) (hq : q H (agreeP P)) : CZ (d + 2) 0 0 mX4_sidesAgree [rv (some a)] H q := by
  obtain ⟨s1, s2, s3⟩ := s
  obtain ⟨p1, p2, p3, p4, p5, p6⟩ := s2
  obtain ⟨o1, o2, o3, o4, o5, o6, o7⟩ := ok
  have p3 : hI H 502 a 0 = Int32.ofNat (gH P) := p3
  have p4 : hI H 503 a 0 = gW P := p4
  have hl := held_last (k := gH P) (by omega)
  refine C_X4_sidesAgree ?_
  unfold wb_X4_sidesAgree_0
  rw [p3]
  unfold agreeP at hq
  refine ⟨s1.1, K_heldStep (d := d) s1 p3 (by omega) (fun i hi e => ⟨fun k => (by cases k), fun b hb => ⟨s1.1, K_isHeld s1.1 (fun hw => ⟨fun k => (by cases k), fun _ => ⟨s1.1, fun hE => ?_, fun hE => ?_⟩⟩) (fun hw => ⟨fun _ => ?_, fun k => (by cases k)⟩)⟩⟩) (fun h => ⟨fun _ => ?_, fun b hb => (by cases hb)⟩)⟩
  · have hE' : gE P = false := by
      rw [s3] at hE
      cases h : gE P with
      | false => rfl
      | true => rw [h] at hE; exact absurd hE (by decide)
    rw [hE', Bool.and_false, Bool.false_and] at hq; exact hq
  · rw [p4] at hw
    have hE' : gE P = true := by
      rw [s3] at hE
      cases h : gE P with
      | true => rfl
      | false => rw [h] at hE; exact absurd rfl hE
    have ei : i = gH P - 1 := by
      rw [e, iN_toInt (by omega)] at hl; omega
    injection hb with hb
    subst hb
    have h2 := (s1.2.2.2.2.2.2.2 i (by omega)).2
    have hv : getF H (stA a i + 6) = (gV P i).2 := (p6 i hi).1.2
    have hv1 : hL H 400 (stA a i + 6) 0 = (gV P i).2.1 := congrArg Prod.fst hv
    obtain ⟨h2a, -, -, -, -, -, -, -, -, -, -, h2b, h2c⟩ := h2
    rw [decide_eq_true hw, hE', Bool.true_and, Bool.true_and, ← ei] at hq
    refine ⟨h2a, _, h2b, h2c, fun hz => ?_, fun hz => ?_⟩
    · rw [hv1] at hz
      rw [decide_eq_false hz] at hq; exact hq
    · rw [hv1] at hz
      rw [decide_eq_true hz] at hq; exact hq
  · rw [p4] at hw
    rw [decide_eq_false hw, Bool.false_and, Bool.false_and] at hq; exact hq
  · have hw : ¬ gW P = 0 := fun k => by have := o4 k; omega
    rw [decide_eq_false hw, Bool.false_and, Bool.false_and] at hq; exact hq
theorem heldParts_loop {d : Nat} {q : HP → Int32 → Prop} {H : HP} {a : Nat} {P : PG} (ok : okPG P) (s : CPf H a P) (hq : q H (Int32.ofNat (partsP P))) : ∀ (k i : Nat), k + i = gH P → L_X4_heldParts_4 d q a (Int32.ofNat (cntB (fun i => decide (gK P i = 0)) i)) (Int32.ofNat i) H := by
  obtain ⟨s1, s2, s3⟩ := s
  obtain ⟨p1, p2, p3, p4, p5, p6⟩ := s2
  obtain ⟨o1, o2, o3, o4, o5, o6, o7⟩ := ok
  obtain ⟨t1, t2, t3, t4, t5, t6, t7, t8⟩ := s1
  have p3 : hI H 502 a 0 = Int32.ofNat (gH P) := p3
  have e60 : (60 : Int32) = Int32.ofNat 60 := rfl
  intro k
  induction k with
  | zero =>
    intro i hi
    refine T_X4_heldParts_4 ?_
    unfold wb_X4_heldParts_4
    rw [p3, iN_le (by omega) (by omega)]
    have e : i = gH P := by omega
    subst e
    exact ⟨t1, fun _ => hq, fun h => by omega⟩
  | succ k ih =>
    intro i hi
    have hle := cntB_le (fun i => decide (gK P i = 0)) i
    have nx := ih (i + 1) (by omega)
    obtain ⟨r1, -⟩ := p5 i (by omega)
    refine T_X4_heldParts_4 ?_
    unfold wb_X4_heldParts_4
    rw [p3, iN_le (by omega) (by omega), e60, iN_le (by omega) (by omega)]
    refine ⟨t1, fun h => by omega, fun _ => ⟨fun h => by omega, fun _ => ⟨a + 1, t2, isA_of t3 (by decide) (by decide), by rw [ln_of t3]; exact vpi_of (by omega) (by decide), stA a i, ?_, (t8 i (by omega)).2.1, ?_⟩⟩⟩
    · rw [tg_of t3, iN_cl (by omega)]; exact (t8 i (by omega)).1
    · rw [r1, iN_inc (by omega), Int32.add_zero, iN_inc (by omega)]
      unfold cntB at nx
      have h5 := o5 i (by omega)
      have h5 : (P.1.2 i).1 ≤ 5 := h5
      have ez : Int32.ofNat ((gS P).2 i).1 = 0 ↔ gK P i = 0 := by
        show Int32.ofNat (P.1.2 i).1 = Int32.ofNat 0 ↔ (P.1.2 i).1 = 0
        exact ⟨fun h => by
          have := congrArg Int32.toInt h
          rw [iN_toInt (by omega), iN_toInt (by omega)] at this; omega, fun h => by rw [h]⟩
      rw [ez]
      refine ⟨fun h => ?_, fun h => ?_⟩
      · rw [if_neg (by simpa using h)] at nx; exact nx
      · rw [if_pos (by simpa using h)] at nx; exact nx
theorem K_heldParts {d : Nat} {q : HP → Int32 → Prop} {H : HP} {a : Nat} {P : PG} (ok : okPG P) (s : CPf H a P) (hq : q H (Int32.ofNat (partsP P))) : CI (d + 1) 0 0 mX4_heldParts [rv (some a)] H q := by
  refine C_X4_heldParts ?_
  unfold wb_X4_heldParts_0
  exact heldParts_loop ok s hq (gH P) 0 rfl
