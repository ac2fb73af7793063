
/-! ===== racks ===== -/
def shRack (H : HP) (a : Nat) : Prop := tg H a = 6 ∧ hC H 601 a = some (a + 1) ∧ hT H (a + 1) = (4112, 6) ∧ hC H 602 a = some (a + 2) ∧ hT H (a + 2) = (4131, 6)
theorem ix6 {i j : Nat} (h : 6 * i + j < 2147483648) : (6 : Int32) * Int32.ofNat i + Int32.ofNat j = Int32.ofNat (6 * i + j) := by
  have e : (6 : Int32) = Int32.ofNat 6 := rfl
  rw [e, iN_mul (by omega) (by omega) (by omega), iN_add h]
/-- an int is a small natural, or it is not -/
theorem small_or {x : Int32} {n : Nat} (hn : n < 2147483648) : (∃ i : Nat, i < n ∧ x = Int32.ofNat i) ∨ (x.toInt < 0 ∨ (n : Int) ≤ x.toInt) := by
  by_cases h : x.toInt < 0 ∨ (n : Int) ≤ x.toInt
  · exact Or.inr h
  · exact Or.inl ⟨x.toInt.toNat, by omega, iN_inj (by omega) (by omega)⟩
theorem K_store {d : Nat} {q : HP → Bool → Prop} {H : HP} {a i : Nat} {k : Int32} {v : Int64} (s : shRack H a) (hi : i < 6) (h1 : (k = -1 ∨ hI H 600 a 0 = 2 ∨ hI H 600 a 0 = k) → q (sL (sI H 4112 (a + 1) i k) 4131 (a + 2) i v) true) (h0 : ¬ (k = -1 ∨ hI H 600 a 0 = 2 ∨ hI H 600 a 0 = k) → q H false) : CZ (d + 1) 0 0 mX5_store [rv (some a), .int (Int32.ofNat i), .int k, .long v] H q := by
  obtain ⟨s1, s2, s3, s4, s5⟩ := s
  have e6 : (6 : Int32) = Int32.ofNat 6 := rfl
  have w : (k = -1 ∨ hI H 600 a 0 = 2 ∨ hI H 600 a 0 = k) → ∃ a2, (hC H 601 a) = some a2 ∧ (isA H a2 0 ∧ (vp_in (Int32.ofNat i) (ln H a2) ∧ (∃ a5, (hC (sI H (tg H a2) a2 (Int32.ofNat i).toNatClampNeg k) 602 a) = some a5 ∧ (isA (sI H (tg H a2) a2 (Int32.ofNat i).toNatClampNeg k) a5 3 ∧ (vp_in (Int32.ofNat i) (ln (sI H (tg H a2) a2 (Int32.ofNat i).toNatClampNeg k) a5) ∧ (q (sL (sI H (tg H a2) a2 (Int32.ofNat i).toNatClampNeg k) (tg (sI H (tg H a2) a2 (Int32.ofNat i).toNatClampNeg k) a5) a5 (Int32.ofNat i).toNatClampNeg v) true)))))) := by
    intro h
    refine ⟨a + 1, s2, isA_of s3 (by decide) (by decide), ?_, a + 2, s4, isA_of (H := sI H (tg H (a + 1)) (a + 1) (Int32.ofNat i).toNatClampNeg k) s5 (by decide) (by decide), ?_, ?_⟩
    · rw [ln_of s3]; exact vpi_of hi (by decide)
    · rw [ln_of (H := sI H (tg H (a + 1)) (a + 1) (Int32.ofNat i).toNatClampNeg k) s5]; exact vpi_of hi (by decide)
    · rw [tg_of (H := sI H (tg H (a + 1)) (a + 1) (Int32.ofNat i).toNatClampNeg k) s5, tg_of s3, iN_cl (by omega)]
      exact h1 h
  refine C_X5_store ?_
  unfold wb_X5_store_0
  rw [i32_lt, iN_toInt (by omega), i32_0, e6, iN_le (by omega) (by omega)]
  refine ⟨fun h => by omega, fun _ => ⟨fun h => by omega, fun _ => ⟨fun h => ⟨s1, w (Or.inl h)⟩, fun h => ⟨s1, fun h2 => w (Or.inr (Or.inl h2)), fun h2 => ⟨fun h3 => w (Or.inr (Or.inr h3)), fun h3 => h0 ?_⟩⟩⟩⟩⟩
  rintro (k | k | k)
  · exact h k
  · exact h2 k
  · exact h3 k
theorem K_isPlace {d : Nat} {q : HP → Bool → Prop} {H : HP} {x : Int32} (h1 : ∀ i : Nat, i < 6 → x = Int32.ofNat i → q H true) (h0 : (x.toInt < 0 ∨ (6 : Int) ≤ x.toInt) → q H false) : CZ (d + 1) 0 0 mX11_isPlace [.int x] H q := by
  have e6 : (6 : Int32).toInt = 6 := rfl
  refine C_X11_isPlace ?_
  unfold wb_X11_isPlace_0
  rw [i32_lt, i32_le, i32_0, e6]
  refine ⟨fun h => h0 (Or.inl h), fun h => ⟨fun h2 => h0 (Or.inr h2), fun h2 => ?_⟩⟩
  exact h1 x.toInt.toNat (by omega) (iN_inj (by omega) (by omega))
theorem K_inN {d : Nat} {q : HP → Bool → Prop} {H : HP} {x : Int32} {n : Nat} {b : Int64} (hn : n < 2147483648) (hb : b.toInt = (n : Int) - 1) (h1 : ∀ i : Nat, i < n → x = Int32.ofNat i → q H true) (h0 : (x.toInt < 0 ∨ (n : Int) ≤ x.toInt) → q H false) : CZ (d + 1) 0 0 mX12_isIn [.long (x.toInt64), .long (0 : Int64), .long b] H q := by
  refine K_isIn ?_
  rw [i64_of32, i64_0, hb]
  by_cases hx : 0 ≤ x.toInt ∧ x.toInt ≤ (n : Int) - 1
  · rw [decide_eq_true hx]
    exact h1 x.toInt.toNat (by omega) (iN_inj (by omega) (by omega))
  · rw [decide_eq_false hx]
    exact h0 (by omega)
theorem K_misRack {d : Nat} {q : HP → Bool → Prop} {H : HP} {x : Int32} (h1 : ∀ i : Nat, i < 3 → x = Int32.ofNat i → q H true) (h0 : (x.toInt < 0 ∨ (3 : Int) ≤ x.toInt) → q H false) : CZ (d + 2) 0 0 mX12_isRack [.int x] H q := by
  refine C_X12_isRack ?_
  unfold wb_X12_isRack_0
  exact K_inN (n := 3) (by decide) rfl h1 h0
theorem K_misPlace {d : Nat} {q : HP → Bool → Prop} {H : HP} {x : Int32} (h1 : ∀ i : Nat, i < 6 → x = Int32.ofNat i → q H true) (h0 : (x.toInt < 0 ∨ (6 : Int) ≤ x.toInt) → q H false) : CZ (d + 2) 0 0 mX12_isPlace [.int x] H q := by
  refine C_X12_isPlace ?_
  unfold wb_X12_isPlace_0
  exact K_inN (n := 6) (by decide) rfl h1 h0
def rkM (H : HP) (m p : Nat) (k v : Int32) : HP := sI (sI H 5184 (m + 35) p k) 5200 (m + 36) p v
theorem K_stores {d : Nat} {q : HP → Int32 → Prop} {H : HP} {m r i : Nat} {k v : Int32} (sm : shM H m) (hr : r < 3) (hi : i < 6) (h1 : (r = 2 ∨ Int32.ofNat r = k) → q (rkM H m (6 * r + i) k v) 1) (h0 : ¬ (r = 2 ∨ Int32.ofNat r = k) → q H (-16)) : CI (d + 1) 0 0 mX12_stores [rv (some m), .int (Int32.ofNat r), .int (Int32.ofNat i), .int k, .int v] H q := by
  obtain ⟨a1, a2, a3, a4⟩ := mA_rackKind sm
  refine C_X12_stores ?_
  unfold wb_X12_stores_0
  have e2 : (2 : Int32) = Int32.ofNat 2 := rfl
  rw [ix6 (by omega)]
  have w : (r = 2 ∨ Int32.ofNat r = k) → ∃ a2, (hC H 1361 m) = some a2 ∧ (isA H a2 0 ∧ (vp_in (Int32.ofNat (6 * r + i)) (ln H a2) ∧ (∃ a5, (hC (sI H (tg H a2) a2 (Int32.ofNat (6 * r + i)).toNatClampNeg k) 1362 m) = some a5 ∧ (isA (sI H (tg H a2) a2 (Int32.ofNat (6 * r + i)).toNatClampNeg k) a5 0 ∧ (vp_in (Int32.ofNat (6 * r + i)) (ln (sI H (tg H a2) a2 (Int32.ofNat (6 * r + i)).toNatClampNeg k) a5) ∧ (∀ H8, (sI (sI H (tg H a2) a2 (Int32.ofNat (6 * r + i)).toNatClampNeg k) (tg (sI H (tg H a2) a2 (Int32.ofNat (6 * r + i)).toNatClampNeg k) a5) a5 (Int32.ofNat (6 * r + i)).toNatClampNeg v) = H8 → (q H8 (1 : Int32)))))))) := by
    intro h
    have sm2 : shM (sI H (tg H (m + 35)) (m + 35) (Int32.ofNat (6 * r + i)).toNatClampNeg k) m := sm
    obtain ⟨b1, b2, b3, b4⟩ := mA_rackNumber sm2
    refine ⟨m + 35, a1, a2, ?_, m + 36, b1, b2, ?_, fun H8 e => ?_⟩
    · rw [a4]; exact vpi_of (by omega) (by decide)
    · rw [b4]; exact vpi_of (by omega) (by decide)
    · rw [b3, a3, iN_cl (by omega)] at e
      rw [← e]
      exact h1 h
  rw [e2, iN_eq (by omega) (by omega)]
  exact ⟨fun h => ⟨sm.1, w (Or.inl h)⟩, fun h => ⟨fun h2 => ⟨sm.1, w (Or.inr h2)⟩, fun h2 => h0 (by rintro (k | k); exact h k; exact h2 k)⟩⟩
