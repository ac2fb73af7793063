
theorem il_loop {d : Nat} {q : HP → Bool → Prop} {H : HP} : ∀ (n : Nat) (a b c e : Int64) (s : Int32), 0 ≤ a.toInt → 0 ≤ c.toInt → 0 < b.toInt → 0 < e.toInt → b.toInt ≤ n → (s = 0 ∨ s = 1) → q H (if s = 0 then decide (a.toInt * e.toInt < c.toInt * b.toInt) else decide (c.toInt * b.toInt < a.toInt * e.toInt)) → L_X12_isLess_17 d q a b c e s H := by
  intro n
  induction n with
  | zero => intro a b c e s ha hc hb he hn; omega
  | succ n ih =>
    intro a b c e s ha hc hb he hn hs hq
    have q1 := i64_divn ha hb
    have q2 := i64_divn hc he
    have r1 := i64_rem ha hb
    have r2 := i64_rem hc he
    have m1 := Int.emod_nonneg a.toInt (b := b.toInt) (by omega)
    have m2 := Int.emod_lt_of_pos a.toInt hb
    have m3 := Int.emod_nonneg c.toInt (b := e.toInt) (by omega)
    have m4 := Int.emod_lt_of_pos c.toInt he
    have hb0 : ¬ b = 0 := fun h => by rw [i64_zero] at h; omega
    have he0 : ¬ e = 0 := fun h => by rw [i64_zero] at h; omega
    have n10 : ¬ (1 : Int32) = 0 := by decide
    have n01 : ¬ (0 : Int32) = 1 := by decide
    refine T_X12_isLess_17 ?_
    unfold wb_X12_isLess_17
    refine ⟨hb0, he0, fun h => ⟨hb0, he0, ?_⟩, fun h => ⟨hb0, he0, ?_⟩⟩
    · have hh : a.toInt / b.toInt = c.toInt / e.toInt := by rw [← q1, ← q2, h]
      have ce := cross_eq (a := a.toInt) (b := b.toInt) (c := c.toInt) (d := e.toInt) hh
      generalize a - a / b * b = x at *
      generalize c - c / e * e = y at *
      rw [← r1, ← r2] at ce
      rw [← r1] at m1 m2
      rw [← r2] at m3 m4
      have x0 : x = 0 ↔ x.toInt = 0 := i64_zero
      have y0 : y = 0 ↔ y.toInt = 0 := i64_zero
      have fin : (x.toInt = 0 ∨ y.toInt = 0) → (s = 0 → (y = (0 : Int64) → q H false) ∧ (¬ y = (0 : Int64) → q H true)) ∧ (¬ s = 0 → (x = (0 : Int64) → q H false) ∧ (¬ x = (0 : Int64) → q H true)) := by
        intro hxy
        have hp1 : y.toInt ≠ 0 → 0 < y.toInt * b.toInt := fun h => Int.mul_pos (by omega) hb
        have hp2 : x.toInt ≠ 0 → 0 < x.toInt * e.toInt := fun h => Int.mul_pos (by omega) he
        have hz1 : y.toInt = 0 → y.toInt * b.toInt = 0 := fun h => by rw [h, Int.zero_mul]
        have hz2 : x.toInt = 0 → x.toInt * e.toInt = 0 := fun h => by rw [h, Int.zero_mul]
        refine ⟨fun h0 => ⟨fun h1 => ?_, fun h1 => ?_⟩, fun h0 => ⟨fun h1 => ?_, fun h1 => ?_⟩⟩
        · rw [if_pos h0, decide_eq_false] at hq
          · exact hq
          · rw [y0] at h1
            have := hz1 h1
            by_cases e0 : x.toInt = 0
            · have := hz2 e0; omega
            · have := hp2 e0; omega
        · rw [if_pos h0, decide_eq_true] at hq
          · exact hq
          · rw [y0] at h1
            have := hp1 h1
            have := hz2 (by omega)
            omega
        · rw [if_neg h0, decide_eq_false] at hq
          · exact hq
          · rw [x0] at h1
            have := hz2 h1
            by_cases e0 : y.toInt = 0
            · have := hz1 e0; omega
            · have := hp1 e0; omega
        · rw [if_neg h0, decide_eq_true] at hq
          · exact hq
          · rw [x0] at h1
            have := hp2 h1
            have := hz1 (by omega)
            omega
      refine ⟨fun hx => fin (Or.inl (x0.mp hx)), fun hx => ⟨fun hy => ⟨fun h1 => ?_, fun h1 => ?_⟩, fun hy => fin (Or.inr (y0.mp hy))⟩⟩
      all_goals
        have e5 : b.toInt * y.toInt = y.toInt * b.toInt := Int.mul_comm _ _
        have e6 : e.toInt * x.toInt = x.toInt * e.toInt := Int.mul_comm _ _
        rw [x0] at hx
        rw [y0] at hy
      · refine ih b x e y 0 (by omega) (by omega) (by omega) (by omega) (by omega) (Or.inl rfl) ?_
        rw [if_pos rfl, e5, e6]
        rw [if_neg h1] at hq
        have : decide (y.toInt * b.toInt < x.toInt * e.toInt) = decide (c.toInt * b.toInt < a.toInt * e.toInt) := by
          rw [decide_eq_decide]; omega
        rw [this]; exact hq
      · refine ih b x e y 1 (by omega) (by omega) (by omega) (by omega) (by omega) (Or.inr rfl) ?_
        rw [if_neg n10, e5, e6]
        rw [if_pos h1] at hq
        have : decide (x.toInt * e.toInt < y.toInt * b.toInt) = decide (a.toInt * e.toInt < c.toInt * b.toInt) := by
          rw [decide_eq_decide]; omega
        rw [this]; exact hq
    · rw [i64_le, q1, q2]
      have hne : ¬ a.toInt / b.toInt = c.toInt / e.toInt := fun k => h (i64_ext (by rw [q1, q2, k]))
      refine ⟨fun hle => ?_, fun hle => ?_⟩
      · have := cross_lt he hb (a := c.toInt) (c := a.toInt) (by omega)
        rcases hs with rfl | rfl
        · rw [if_pos rfl, decide_eq_false (by omega)] at hq
          exact ⟨fun _ => hq, fun k => absurd rfl k⟩
        · rw [if_neg n10, decide_eq_true (by omega)] at hq
          exact ⟨fun k => absurd k n01, fun _ => hq⟩
      · have := cross_lt hb he (a := a.toInt) (c := c.toInt) (by omega)
        rcases hs with rfl | rfl
        · rw [if_pos rfl, decide_eq_true (by omega)] at hq
          exact ⟨fun k => absurd k n10, fun _ => hq⟩
        · rw [if_neg n10, decide_eq_false (by omega)] at hq
          exact ⟨fun _ => hq, fun k => absurd rfl k⟩
theorem K_isLess {d : Nat} {q : HP → Bool → Prop} {H : HP} {a b c e : Int64} (ha : 0 ≤ a.toInt) (hb : 0 < b.toInt) (hc : 0 ≤ c.toInt) (he : 0 < e.toInt) (h1 : q H (ltL a b c e)) : CZ (d + 1) 0 0 mX12_isLess [.long a, .long b, .long c, .long e] H q := by
  refine C_X12_isLess ?_
  unfold wb_X12_isLess_0
  refine il_loop b.toInt.toNat a b c e 0 ha hc hb he (by omega) (Or.inl rfl) ?_
  rw [if_pos rfl]; exact h1
theorem cmL_lt {a b c e : Int64} : cmL a b c e < 0 ↔ ltL a b c e = true := by
  unfold cmL sgI ltL
  rw [decide_eq_true_iff]
  split
  · omega
  · split <;> omega
theorem cmL_gt {a b c e : Int64} : 0 < cmL a b c e ↔ ltL c e a b = true := by
  unfold cmL sgI ltL
  rw [decide_eq_true_iff]
  split
  · omega
  · split <;> omega
theorem cmL_eq {f g : FR} (hf : okF f) (hg : okF g) : cmL f.1 f.2 g.1 g.2 = 0 ↔ f = g := by
  constructor
  · intro h
    refine okF_eq hf hg ?_
    unfold cmL sgI at h
    split at h
    · omega
    · split at h <;> omega
  · rintro rfl
    unfold cmL
    rw [Int.sub_self]; rfl
