
/-! ===== wide dimensions, sums of powers ===== -/
def wide (n : Nat) (f : Nat → Int32) (most : Nat) : Bool := !decide (∀ j, j < n → (f j).toInt.natAbs ≤ most)
theorem wide_iff {n : Nat} {f : Nat → Int32} {most : Nat} : wide n f most = true ↔ ¬ ∀ j, j < n → (f j).toInt.natAbs ≤ most := by
  unfold wide
  rw [Bool.not_eq_true', decide_eq_false_iff_not]
theorem goesBeyond_loop {d : Nat} {q : HP → Bool → Prop} {H : HP} {a t most : Nat} {f : Nat → Int32} (ha : hT H a = (t, 5)) (ht : 4096 ≤ t) (he : t % 16 = 0) (hf : ∀ j, j < 5 → hI H t a j = f j) (hb : ∀ j, j < 5 → (f j).toInt ≠ -2147483648) (hm : most < 1000) : ∀ (k j : Nat), k + j = 5 → (∀ r : Bool, (r = true ↔ ¬ ∀ x, x < 5 → j ≤ x → (f x).toInt.natAbs ≤ most) → q H r) → L_X11_goesBeyond_2 (d + 1) q (some a) (Int32.ofNat most) (Int32.ofNat j) H := by
  have e5 : (5 : Int32) = Int32.ofNat 5 := rfl
  intro k
  induction k with
  | zero =>
    intro j hj hq
    refine T_X11_goesBeyond_2 ?_
    unfold wb_X11_goesBeyond_2
    rw [e5, iN_le (by omega) (by omega)]
    exact ⟨fun _ => hq false ⟨fun h => (by cases h), fun h => absurd (fun x h1 h2 => by omega) h⟩, fun h => by omega⟩
  | succ k ih =>
    intro j hj hq
    refine T_X11_goesBeyond_2 ?_
    unfold wb_X11_goesBeyond_2
    rw [e5, iN_le (by omega) (by omega)]
    refine ⟨fun h => by omega, fun _ => ⟨a, rfl, isA_of ha ht he, ?_, ?_⟩⟩
    · rw [ln_of ha]; exact vpi_of (by omega) (by omega)
    · rw [tg_of ha, iN_cl (by omega), hf j (by omega), iN_inc (by omega)]
      refine K_absI (hb j (by omega)) fun y hy => ?_
      rw [i32_le, hy, iN_toInt (by omega)]
      refine ⟨fun h => ih (j + 1) (by omega) fun r hr => hq r (hr.trans (not_congr ?_)), fun h => hq true ⟨fun _ hall => ?_, fun _ => rfl⟩⟩
      · refine ⟨fun k x h1 h2 => ?_, fun k x h1 h2 => k x h1 (by omega)⟩
        by_cases e : x = j
        · rw [e]; omega
        · exact k x h1 (by omega)
      · have := hall j (by omega) (Nat.le_refl _)
        omega
theorem K_goesBeyond {d : Nat} {q : HP → Bool → Prop} {H : HP} {a t most : Nat} {f : Nat → Int32} (ha : hT H a = (t, 5)) (ht : 4096 ≤ t) (he : t % 16 = 0) (hf : ∀ j, j < 5 → hI H t a j = f j) (hb : ∀ j, j < 5 → (f j).toInt ≠ -2147483648) (hm : most < 1000) (hq : q H (wide 5 f most)) : CZ (d + 2) 0 0 mX11_goesBeyond [rv (some a), .int (Int32.ofNat most)] H q := by
  refine C_X11_goesBeyond ?_
  unfold wb_X11_goesBeyond_0
  refine goesBeyond_loop ha ht he hf hb hm 5 0 rfl fun r hr => ?_
  have : r = wide 5 f most := by
    rw [Bool.eq_iff_iff, hr, wide_iff]
    exact not_congr ⟨fun k x h => k x h (Nat.zero_le _), fun k x h _ => k x h⟩
  rw [this]; exact hq
/-- the row of sums -/
def MS (H : HP) (m : Nat) (f : Nat → Int32) : Prop := ∀ j, j < 5 → hI H 4944 (m + 20) j = f j
theorem or_B {c : Bool} : bI c ||| 0 = bI c ∧ bI c ||| 1 = bI true := by cases c <;> decide
theorem isWide_loop {d : Nat} {q : HP → Bool → Prop} {H : HP} {m most : Nat} {f : Nat → Int32} (sm : shM H m) (hf : MS H m f) (hb : ∀ j, j < 5 → (f j).toInt ≠ -2147483648) (hm : most < 1000) : ∀ (k j : Nat) (c : Bool), k + j = 5 → (∀ r : Bool, (r = true ↔ c = true ∨ ¬ ∀ x, x < 5 → j ≤ x → (f x).toInt.natAbs ≤ most) → q H r) → L_X12_isWide_4 (d + 1) q m (Int32.ofNat most) (bI c) (Int32.ofNat j) H := by
  obtain ⟨a1, a2, a3, a4⟩ := mA_sum sm
  have e5 : ∀ j, j < 100 → ((5 : Int32) ≤ Int32.ofNat j ↔ 5 ≤ j) := fun j hj => by
    have e5 : (5 : Int32) = Int32.ofNat 5 := rfl
    rw [e5, iN_le (by omega) (by omega)]
  intro k
  induction k with
  | zero =>
    intro j c hj hq
    refine T_X12_isWide_4 ?_
    unfold wb_X12_isWide_4
    rw [e5 j (by omega)]
    exact ⟨fun _ => ⟨c, rfl, hq c ⟨fun h => Or.inl h, fun h => h.elim id fun h => absurd (fun x h1 h2 => by omega) h⟩⟩, fun h => by omega⟩
  | succ k ih =>
    intro j c hj hq
    refine T_X12_isWide_4 ?_
    unfold wb_X12_isWide_4
    rw [e5 j (by omega)]
    refine ⟨fun h => by omega, fun _ => ⟨sm.1, m + 20, a1, a2, ?_, ?_⟩⟩
    · rw [a4]; exact vpi_of (by omega) (by omega)
    · rw [a3, iN_cl (by omega), hf j (by omega), iN_inc (by omega)]
      refine K_absI (hb j (by omega)) fun y hy => ?_
      rw [i32_le, hy, iN_toInt (by omega), or_B.1, or_B.2]
      refine ⟨fun h => ih (j + 1) c (by omega) fun r hr => hq r (hr.trans (or_congr Iff.rfl (not_congr ?_))), fun h => ih (j + 1) true (by omega) fun r hr => hq r (hr.trans ⟨fun _ => Or.inr fun hall => ?_, fun _ => Or.inl rfl⟩)⟩
      · refine ⟨fun k x h1 h2 => ?_, fun k x h1 h2 => k x h1 (by omega)⟩
        by_cases e : x = j
        · rw [e]; omega
        · exact k x h1 (by omega)
      · have := hall j (by omega) (Nat.le_refl _)
        omega
theorem K_isWide {d : Nat} {q : HP → Bool → Prop} {H : HP} {m most : Nat} {f : Nat → Int32} (sm : shM H m) (hf : MS H m f) (hb : ∀ j, j < 5 → (f j).toInt ≠ -2147483648) (hm : most < 1000) (hq : q H (wide 5 f most)) : CZ (d + 2) 0 0 mX12_isWide [rv (some m), .int (Int32.ofNat most)] H q := by
  refine C_X12_isWide ?_
  unfold wb_X12_isWide_0
  refine isWide_loop sm hf hb hm 5 0 false rfl fun r hr => ?_
  have : r = wide 5 f most := by
    rw [Bool.eq_iff_iff, hr, wide_iff]
    refine ⟨fun h => h.elim (fun h => by cases h) fun k hh => k fun x h _ => hh x h, fun h => Or.inr fun hh => h fun x hx => hh x hx (Nat.zero_le _)⟩
  rw [this]; exact hq
abbrev SumS : Nat → Nat → Nat → Prop := fun m g a => g = 4944 ∧ a = m + 20
theorem sums_loop {d : Nat} {q : HP → Prop} {H0 : HP} {m i : Nat} {t : Int32} {u : UV} {f : Nat → Int32} (hi : i < 20) (hq : ∀ H', Fr (SumS m) H0 H' → MS H' m (fun j => f j + t * u.2.1 j) → q H') : ∀ (k j : Nat) (H : HP), k + j = 5 → shM H m → MUn H m i u → Fr (SumS m) H0 H → MS H m (fun x => if x < j then f x + t * u.2.1 x else f x) → L_X12_sums_2 d q m (Int32.ofNat i) t (Int32.ofNat j) H := by
  have e5 : ∀ j, j < 100 → ((5 : Int32) ≤ Int32.ofNat j ↔ 5 ≤ j) := fun j hj => by
    have e5 : (5 : Int32) = Int32.ofNat 5 := rfl
    rw [e5, iN_le (by omega) (by omega)]
  intro k
  induction k with
  | zero =>
    intro j H hj sm hu hF hS
    refine T_X12_sums_2 ?_
    unfold wb_X12_sums_2
    rw [e5 j (by omega)]
    refine ⟨fun _ => hq H hF fun x hx => ?_, fun h => by omega⟩
    have := hS x hx
    simp only at this
    rwa [if_pos (by omega)] at this
  | succ k ih =>
    intro j H hj sm hu hF hS
    obtain ⟨a1, a2, a3, a4⟩ := mA_sum sm
    obtain ⟨b1, b2, b3, b4⟩ := mA_power sm
    refine T_X12_sums_2 ?_
    unfold wb_X12_sums_2
    rw [e5 j (by omega), ix5 (by omega)]
    refine ⟨fun h => by omega, fun _ => ⟨sm.1, m + 20, a1, a2, ?_, m + 2, b1, b2, ?_, ?_, ?_⟩⟩
    · rw [a4]; exact vpi_of (by omega) (by omega)
    · rw [b4]; exact vpi_of (by omega) (by omega)
    · rw [a4]; exact vpi_of (by omega) (by omega)
    · have hj5 := hS j (by omega)
      simp only [Nat.lt_irrefl, if_false] at hj5
      rw [a3, b3, iN_cl (by omega), iN_cl (by omega), iN_inc (by omega), hj5, hu.2.2.1 j (by omega)]
      have F1 : Fr (SumS m) H (sI H 4944 (m + 20) j (f j + t * u.2.1 j)) := Fr_sI ⟨rfl, rfl⟩
      refine ih (j + 1) _ (by omega) sm ?_ (hF.tr F1) fun x hx => ?_
      · obtain ⟨u1, u2, u3, u4, u5, u6, u7⟩ := hu
        have hi' := F1.2.2.2.2.1
        exact ⟨fun x hx => by rw [hi' _ _ (fun h => by omega)]; exact u1 x hx, fun x h1 h2 => by rw [hi' _ _ (fun h => by omega)]; exact u2 x h1 h2, fun x hx => by rw [hi' _ _ (fun h => by omega)]; exact u3 x hx, u4, u5, u6, u7⟩
      · show hI (sI H 4944 (m + 20) j (f j + t * u.2.1 j)) 4944 (m + 20) x = if x < j + 1 then f x + t * u.2.1 x else f x
        rw [hI_sI]
        by_cases e : x = j
        · subst e
          rw [u3_same, if_pos (by omega)]
        · rw [u3_i _ _ _ _ _ _ e]
          have := hS x hx
          simp only at this
          rw [this]
          by_cases hlt : x < j
          · rw [if_pos hlt, if_pos (by omega)]
          · rw [if_neg hlt, if_neg (by omega)]
theorem K_sums {d : Nat} {q : HP → Prop} {H : HP} {m i : Nat} {t : Int32} {u : UV} {f : Nat → Int32} (sm : shM H m) (hi : i < 20) (hu : MUn H m i u) (hS : MS H m f) (hq : ∀ H', Fr (SumS m) H H' → MS H' m (fun j => f j + t * u.2.1 j) → q H') : CV (d + 1) 0 0 mX12_sums [rv (some m), .int (Int32.ofNat i), .int t] H q := by
  refine C_X12_sums ?_
  unfold wb_X12_sums_0
  exact sums_loop hi hq 5 0 H rfl sm hu Fr.rf hS
theorem K_isPart {d : Nat} {q : HP → Bool → Prop} {H : HP} {x : Int32} (h1 : x = 0 ∨ x = 1 → q H true) (h0 : ¬ (x = 0 ∨ x = 1) → q H false) : CZ (d + 2) 0 0 mX12_isPart [.int x] H q := by
  refine C_X12_isPart ?_
  unfold wb_X12_isPart_0
  refine K_isIn ?_
  rw [i64_of32, i64_0, i64_1]
  have e : (x = 0 ∨ x = 1) ↔ (0 ≤ x.toInt ∧ x.toInt ≤ 1) := by
    rw [i32_eq, i32_eq, i32_0, i32_1]; omega
  by_cases h : 0 ≤ x.toInt ∧ x.toInt ≤ 1
  · rw [decide_eq_true h]; exact h1 (e.mpr h)
  · rw [decide_eq_false h]; exact h0 fun k => h (e.mp k)
theorem K_partOf {d : Nat} {q : HP → Int64 → Prop} {H : HP} {a b : Int64} {x : Int32} (h : q H (if x = 0 then a else b)) : CJ (d + 1) 0 0 mX12_partOf [.long a, .long b, .int x] H q := by
  refine C_X12_partOf ?_
  unfold wb_X12_partOf_0
  refine ⟨fun k => ?_, fun k => ?_⟩
  · rwa [if_neg k] at h
  · rwa [if_pos k] at h
