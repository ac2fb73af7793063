
/-! ===== units: the reference's rows ===== -/
def MUn (H : HP) (m i : Nat) (u : UV) : Prop := (∀ j, j < u.1.1 → hI H 4640 (m + 1) (4 * i + j) = u.1.2 j) ∧ (∀ j, u.1.1 ≤ j → j < 4 → hI H 4640 (m + 1) (4 * i + j) = 0) ∧ (∀ j, j < 5 → hI H 4656 (m + 2) (5 * i + j) = u.2.1 j) ∧ hL H 4675 (m + 3) i = u.2.2.1.1 ∧ hL H 4691 (m + 4) i = u.2.2.1.2 ∧ hL H 4707 (m + 5) i = u.2.2.2.1 ∧ hL H 4723 (m + 6) i = u.2.2.2.2
def MU (H : HP) (m n : Nat) (U : Nat → UV) : Prop := shM H m ∧ hI H 1300 m 0 = Int32.ofNat n ∧ n ≤ 20 ∧ ∀ i, i < n → MUn H m i (U i)
theorem iN_mul {a b : Nat} (h : a * b < 2147483648) (ha : a < 2147483648) (hb : b < 2147483648) : Int32.ofNat a * Int32.ofNat b = Int32.ofNat (a * b) := by
  refine iN_inj h ?_
  have h1 := iN_toInt ha
  have h2 := iN_toInt hb
  have e : ((a * b : Nat) : Int) = (a : Int) * b := by simp
  rw [i32_mulx] <;> rw [h1, h2, ← e] <;> omega
theorem ix4 {i j : Nat} (h : 4 * i + j < 2147483648) : (4 : Int32) * Int32.ofNat i + Int32.ofNat j = Int32.ofNat (4 * i + j) := by
  have e : (4 : Int32) = Int32.ofNat 4 := rfl
  rw [e, iN_mul (by omega) (by omega) (by omega), iN_add h]
theorem ix5 {i j : Nat} (h : 5 * i + j < 2147483648) : (5 : Int32) * Int32.ofNat i + Int32.ofNat j = Int32.ofNat (5 * i + j) := by
  have e : (5 : Int32) = Int32.ofNat 5 := rfl
  rw [e, iN_mul (by omega) (by omega) (by omega), iN_add h]
theorem isLet_ne {x : Int32} (h : isLet x = true) : ¬ x = 0 := fun e => by rw [e] at h; exact absurd h (by decide)
theorem lettersOf_loop {d : Nat} {q : HP → Int32 → Prop} {H : HP} {m i : Nat} {u : UV} (sm : shM H m) (hi : i < 20) (hu : MUn H m i u) (hok : okU u) (hq : q H (Int32.ofNat u.1.1)) : ∀ (k j : Nat), k + j = u.1.1 → L_X12_lettersOf_2 d q m (Int32.ofNat i) (Int32.ofNat j) H := by
  have e4 : (4 : Int32) = Int32.ofNat 4 := rfl
  obtain ⟨o1, o2, o3, -⟩ := id hok
  obtain ⟨u1, u2, -⟩ := id hu
  obtain ⟨a1, a2, a3, a4⟩ := mA_name sm
  have step : ∀ j, j < 4 → (hI H 4640 (m + 1) (4 * i + j) = 0 → q H (Int32.ofNat j)) → (¬ hI H 4640 (m + 1) (4 * i + j) = 0 → L_X12_lettersOf_2 d q m (Int32.ofNat i) (Int32.ofNat (j + 1)) H) → L_X12_lettersOf_2 d q m (Int32.ofNat i) (Int32.ofNat j) H := by
    intro j hj h1 h2
    refine T_X12_lettersOf_2 ?_
    unfold wb_X12_lettersOf_2
    rw [ix4 (by omega), e4, iN_le (by omega) (by omega)]
    refine ⟨fun h => by omega, fun _ => ⟨sm.1, m + 1, a1, a2, ?_, ?_⟩⟩
    · rw [a4]; exact vpi_of (by omega) (by omega)
    · rw [a3, iN_cl (by omega), iN_inc (by omega)]
      exact ⟨h1, h2⟩
  intro k
  induction k with
  | zero =>
    intro j hj
    have : j = u.1.1 := by omega
    subst this
    by_cases h4 : u.1.1 = 4
    · refine T_X12_lettersOf_2 ?_
      unfold wb_X12_lettersOf_2
      rw [e4, iN_le (by omega) (by omega)]
      exact ⟨fun _ => hq, fun h => by omega⟩
    · exact step _ (by omega) (fun _ => hq) (fun h => absurd (u2 _ (Nat.le_refl _) (by omega)) h)
  | succ k ih =>
    intro j hj
    refine step j (by omega) (fun h => ?_) (fun _ => ih (j + 1) (by omega))
    rw [u1 j (by omega)] at h
    exact absurd h (isLet_ne (o3 j (by omega)))
theorem K_lettersOf {d : Nat} {q : HP → Int32 → Prop} {H : HP} {m i : Nat} {u : UV} (sm : shM H m) (hi : i < 20) (hu : MUn H m i u) (hok : okU u) (hq : q H (Int32.ofNat u.1.1)) : CI (d + 1) 0 0 mX12_lettersOf [rv (some m), .int (Int32.ofNat i)] H q := by
  refine C_X12_lettersOf ?_
  unfold wb_X12_lettersOf_0
  exact lettersOf_loop sm hi hu hok hq u.1.1 0 (by omega)
theorem K_isUnit {d : Nat} {q : HP → Bool → Prop} {H : HP} {m n : Nat} {U : Nat → UV} {x : Int32} (h : MU H m n U) (h1 : ∀ i : Nat, i < n → x = Int32.ofNat i → q H true) (h0 : (x.toInt < 0 ∨ (n : Int) ≤ x.toInt) → q H false) : CZ (d + 2) 0 0 mX12_isUnit [rv (some m), .int x] H q := by
  obtain ⟨sm, c2, c3, c4⟩ := h
  refine C_X12_isUnit ?_
  unfold wb_X12_isUnit_0
  have hn := iN_toInt (n := n) (by omega)
  have e : (Int32.ofNat n - (1 : Int32)).toInt = n - 1 := by
    rw [i32_subx] <;> rw [hn, i32_1] <;> omega
  refine ⟨sm.1, K_isIn ?_⟩
  rw [c2, i64_of32, i64_of32, e, i64_0]
  by_cases hx : 0 ≤ x.toInt ∧ x.toInt ≤ (n : Int) - 1
  · rw [decide_eq_true hx]
    exact h1 x.toInt.toNat (by omega) (iN_inj (by omega) (by omega))
  · rw [decide_eq_false hx]
    exact h0 (by omega)
theorem K_mhasOffset {d : Nat} {q : HP → Bool → Prop} {H : HP} {m i : Nat} {u : UV} (sm : shM H m) (hi : i < 20) (hu : MUn H m i u) (hq : q H (offU u)) : CZ (d + 1) 0 0 mX12_hasOffset [rv (some m), .int (Int32.ofNat i)] H q := by
  obtain ⟨a1, a2, a3, a4⟩ := mA_offsetUp sm
  obtain ⟨-, -, -, -, -, u6, -⟩ := hu
  refine C_X12_hasOffset ?_
  unfold wb_X12_hasOffset_0
  unfold offU at hq
  refine ⟨sm.1, m + 5, a1, a2, ?_, ?_⟩
  · rw [a4]; exact vpi_of (by omega) (by omega)
  · rw [a3, iN_cl (by omega), u6]
    refine ⟨fun h => ?_, fun h => ?_⟩
    · rwa [decide_eq_false (fun k => k h)] at hq
    · rwa [decide_eq_true h] at hq
theorem bI_and {x : Int32} (h : okZ x) : x &&& 0 = 0 ∧ x &&& 1 = x := by rcases h with rfl | rfl <;> decide
theorem areLike_loop {d : Nat} {q : HP → Bool → Prop} {H : HP} {m i j : Nat} {u v : UV} (sm : shM H m) (hi : i < 20) (hj : j < 20) (hu : MUn H m i u) (hv : MUn H m j v) : ∀ (k b : Nat) (c : Bool), k + b = 5 → (∀ r : Bool, (r = true ↔ c = true ∧ ∀ x, x < 5 → b ≤ x → u.2.1 x = v.2.1 x) → q H r) → L_X12_areLike_5 d q m (Int32.ofNat i) (Int32.ofNat j) (bI c) (Int32.ofNat b) H := by
  have e5 : (5 : Int32) = Int32.ofNat 5 := rfl
  obtain ⟨a1, a2, a3, a4⟩ := mA_power sm
  obtain ⟨-, -, u3, -⟩ := hu
  obtain ⟨-, -, v3, -⟩ := hv
  intro k
  induction k with
  | zero =>
    intro b c hb hq
    refine T_X12_areLike_5 ?_
    unfold wb_X12_areLike_5
    have e5' : ((5 : Int32) ≤ Int32.ofNat b) ↔ 5 ≤ b := by rw [e5, iN_le (by omega) (by omega)]
    rw [e5']
    exact ⟨fun _ => ⟨c, rfl, hq c ⟨fun h => ⟨h, fun x h1 h2 => by omega⟩, fun h => h.1⟩⟩, fun h => by omega⟩
  | succ k ih =>
    intro b c hb hq
    refine T_X12_areLike_5 ?_
    unfold wb_X12_areLike_5
    have e5' : ((5 : Int32) ≤ Int32.ofNat b) ↔ 5 ≤ b := by rw [e5, iN_le (by omega) (by omega)]
    rw [e5', ix5 (by omega), ix5 (by omega)]
    refine ⟨fun h => by omega, fun _ => ⟨sm.1, m + 2, a1, a2, ?_, ?_, ?_⟩⟩
    · rw [a4]; exact vpi_of (by omega) (by omega)
    · rw [a4]; exact vpi_of (by omega) (by omega)
    · rw [a3, iN_cl (by omega), iN_cl (by omega), u3 b (by omega), v3 b (by omega), iN_inc (by omega)]
      have oc : okZ (bI c) := by cases c; exact Or.inl rfl; exact Or.inr rfl
      refine ⟨fun h => ?_, fun h => ?_⟩
      · rw [(bI_and oc).1]
        refine ih (b + 1) false (by omega) fun r hr => hq r (hr.trans ?_)
        exact ⟨fun k => absurd k.1 (by decide), fun k => absurd (k.2 b (by omega) (Nat.le_refl _)) h⟩
      · rw [(bI_and oc).2]
        refine ih (b + 1) c (by omega) fun r hr => hq r (hr.trans ?_)
        refine ⟨fun k => ⟨k.1, fun x h1 h2 => ?_⟩, fun k => ⟨k.1, fun x h1 h2 => k.2 x h1 (by omega)⟩⟩
        by_cases e : x = b
        · rw [e]; exact h
        · exact k.2 x h1 (by omega)
theorem K_areLike {d : Nat} {q : HP → Bool → Prop} {H : HP} {m i j : Nat} {u v : UV} (sm : shM H m) (hi : i < 20) (hj : j < 20) (hu : MUn H m i u) (hv : MUn H m j v) (hq : q H (eq5 u.2.1 v.2.1)) : CZ (d + 1) 0 0 mX12_areLike [rv (some m), .int (Int32.ofNat i), .int (Int32.ofNat j)] H q := by
  refine C_X12_areLike ?_
  unfold wb_X12_areLike_0
  refine areLike_loop sm hi hj hu hv 5 0 true rfl fun r hr => ?_
  have : r = eq5 u.2.1 v.2.1 := by
    rw [Bool.eq_iff_iff, hr, eq5_iff]
    exact ⟨fun k x h => k.2 x h (Nat.zero_le _), fun k => ⟨rfl, fun x h _ => k x h⟩⟩
  rw [this]; exact hq
theorem K_isLesser {d : Nat} {q : HP → Bool → Prop} {H : HP} {m i j : Nat} {u v : UV} (sm : shM H m) (hi : i < 20) (hj : j < 20) (hu : MUn H m i u) (hv : MUn H m j v) (ou : okU u) (ov : okU v) (hq : q H (ltL u.2.2.1.1 u.2.2.1.2 v.2.2.1.1 v.2.2.1.2)) : CZ (d + 2) 0 0 mX12_isLesser [rv (some m), .int (Int32.ofNat i), .int (Int32.ofNat j)] H q := by
  obtain ⟨a1, a2, a3, a4⟩ := mA_factorUp sm
  obtain ⟨b1, b2, b3, b4⟩ := mA_factorLow sm
  obtain ⟨-, -, -, u4, u5, -⟩ := hu
  obtain ⟨-, -, -, v4, v5, -⟩ := hv
  obtain ⟨-, -, -, -, p1, p2, -⟩ := ou
  obtain ⟨-, -, -, -, r1, r2, -⟩ := ov
  refine C_X12_isLesser ?_
  unfold wb_X12_isLesser_0
  refine ⟨sm.1, m + 3, a1, a2, ?_, m + 4, b1, b2, ?_, ?_, ?_, ?_⟩
  · rw [a4]; exact vpi_of (by omega) (by omega)
  · rw [b4]; exact vpi_of (by omega) (by omega)
  · rw [a4]; exact vpi_of (by omega) (by omega)
  · rw [b4]; exact vpi_of (by omega) (by omega)
  · rw [a3, b3, iN_cl (by omega), iN_cl (by omega), u4, u5, v4, v5]
    exact K_isLess (by omega) p1.1 (by omega) r1.1 hq
