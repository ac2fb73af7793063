
theorem fr_units {S : Nat → Nat → Prop} {H H' : HP} {a : Nat} (h : Fr S H H') (h1 : ¬ S 4358 (a + 1)) (s : shUnits H a) : shUnits H' a := by
  obtain ⟨s1, s2, s3, s4⟩ := s
  refine ⟨by rw [fr_tg h]; exact s1, by rw [h.2.1]; exact s2, by rw [h.1]; exact s3, fun i hi => ⟨?_, fr_unit h (s4 i hi).2⟩⟩
  rw [h.2.2.2.2.2.2.2.2 _ _ h1]; exact (s4 i hi).1
theorem fr_CU {S : Nat → Nat → Prop} {H H' : HP} {a n : Nat} {U : Nat → UV} (h : Fr S H H') (h1 : ∀ g b, a ≤ b → b < a + 102 → ¬ S g b) (s : CU H a n U) : CU H' a n U := by
  obtain ⟨s1, s2, s3, s4⟩ := s
  refine ⟨fr_units h (h1 _ _ (by omega) (by omega)) s1, ?_, s3, fun i hi => fr_CUn h (fun g b k1 k2 => h1 g b (by omega) (by omega)) (s4 i hi)⟩
  rw [h.2.2.2.2.1 _ _ (h1 _ _ (by omega) (by omega))]; exact s2
theorem uscopy_loop {d : Nat} {q : HP → Prop} {H0 : HP} {a b n : Nat} {U : Nat → UV} (hok : ∀ i, i < n → okU (U i)) (hab : a + 102 ≤ b ∨ b + 102 ≤ a) (hq : ∀ H', Fr (fun _ x => a ≤ x ∧ x < a + 102 ∧ x ≠ a + 1) H0 H' → CU H' a n U → q H') : ∀ (k i : Nat) (H : HP), k + i = n → shUnits H a → CU H b n U → hI H 1101 a 0 = Int32.ofNat n → (∀ j, j < i → CUn H (a + 2 + 5 * j) (U j)) → Fr (fun _ x => a ≤ x ∧ x < a + 102 ∧ x ≠ a + 1) H0 H → L_X10_copy_10 (d + 2) q a (some b) (Int32.ofNat i) H := by
  have e20 : (20 : Int32) = Int32.ofNat 20 := rfl
  intro k
  induction k with
  | zero =>
    intro i H hi sa cb hn hj hF
    have hn20 := cb.2.2.1
    have : i = n := by omega
    subst this
    refine T_X10_copy_10 ?_
    unfold wb_X10_copy_10
    rw [hn, iN_le (by omega) (by omega)]
    exact ⟨sa.1, fun _ => hq H hF ⟨sa, hn, hn20, hj⟩, fun h => by omega⟩
  | succ k ih =>
    intro i H hi sa cb hn hj hF
    have hn20 := cb.2.2.1
    obtain ⟨s1, s2, s3, s4⟩ := id sa
    obtain ⟨⟨t1, t2, t3, t4⟩, c2, c3, c4⟩ := id cb
    refine T_X10_copy_10 ?_
    unfold wb_X10_copy_10
    rw [hn, iN_le (by omega) (by omega), e20, iN_le (by omega) (by omega), iN_cl (by omega), iN_inc (by omega)]
    refine ⟨s1, fun h => by omega, fun _ => ⟨fun h => by omega, fun _ => ⟨a + 1, s2, isA_of s3 (by decide) (by decide), ?_, b, rfl, t1, b + 1, t2, isA_of t3 (by decide) (by decide), ?_, a + 2 + 5 * i, ?_, (s4 i (by omega)).2.1, ?_⟩⟩⟩
    · rw [ln_of s3]; exact vpi_of (by omega) (by omega)
    · rw [ln_of t3]; exact vpi_of (by omega) (by omega)
    · rw [tg_of s3]; exact (s4 i (by omega)).1
    · rw [tg_of s3, tg_of t3, (s4 i (by omega)).1, (t4 i (by omega)).1]
      refine K_ucopy (s4 i (by omega)).2 (t4 i (by omega)).2 (c4 i (by omega)) (hok i (by omega)).2.1 (by omega) fun H' hF' hc => ?_
      have hF2 : Fr (fun _ x => a ≤ x ∧ x < a + 102 ∧ x ≠ a + 1) H H' := hF'.mono fun g x hx => ⟨by omega, by omega, by omega⟩
      refine ih (i + 1) H' (by omega) (fr_units hF2 (fun h => h.2.2 rfl) sa) (fr_CU hF2 (fun g x k1 k2 k3 => by omega) cb) ?_ (fun j hj' => ?_) (hF.tr hF2)
      · rw [hF'.2.2.2.2.1 _ _ (by omega)]; exact hn
      · by_cases e : j = i
        · rw [e]; exact hc
        · exact fr_CUn hF' (fun g x k1 k2 k3 => by omega) (hj j (by omega))
theorem K_uscopy {d : Nat} {q : HP → Prop} {H : HP} {a b n : Nat} {U : Nat → UV} (sa : shUnits H a) (cb : CU H b n U) (hok : ∀ i, i < n → okU (U i)) (hab : a + 102 ≤ b ∨ b + 102 ≤ a) (hq : ∀ H', Fr (fun _ x => a ≤ x ∧ x < a + 102 ∧ x ≠ a + 1) H H' → CU H' a n U → q H') : CV (d + 3) 0 0 mX10_copy [rv (some a), rv (some b)] H q := by
  refine C_X10_copy ?_
  unfold wb_X10_copy_0
  have F1 : Fr (fun _ x => a ≤ x ∧ x < a + 102 ∧ x ≠ a + 1) H (sI H 1101 a 0 (hI H 1101 b 0)) := Fr_sI ⟨by omega, by omega, by omega⟩
  refine ⟨b, rfl, cb.1.1, sa.1, uscopy_loop hok hab hq n 0 _ (by omega) sa (fr_CU F1 (fun g x k1 k2 k3 => by omega) cb) ?_ (fun j hj => by omega) F1⟩
  rw [hI_sI, u3_same]; exact cb.2.1
/-- the units with one more behind them -/
def addU (U : Nat → UV) (n : Nat) (u : UV) : Nat → UV := fun i => if i = n then u else U i
theorem K_uappend {d : Nat} {q : HP → Int32 → Prop} {H : HP} {a b n : Nat} {U : Nat → UV} {u : UV} (ca : CU H a n U) (sb : shUnit H b) (cb : CUn H b u) (h4 : u.1.1 ≤ 4) (hab : a + 102 ≤ b ∨ b + 5 ≤ a) (h1 : n < 20 → ∀ H', Fr (fun _ x => a ≤ x ∧ x < a + 102 ∧ x ≠ a + 1) H H' → CU H' a (n + 1) (addU U n u) → q H' (Int32.ofNat n)) (h0 : n = 20 → q H (-4)) : CI (d + 3) 0 0 mX10_append [rv (some a), rv (some b)] H q := by
  have e20 : (20 : Int32) = Int32.ofNat 20 := rfl
  obtain ⟨⟨s1, s2, s3, s4⟩, c2, c3, c4⟩ := id ca
  refine C_X10_append ?_
  unfold wb_X10_append_0
  rw [c2, e20, iN_lt (by omega) (by omega), iN_cl (by omega)]
  refine ⟨s1, fun hn => ⟨a + 1, s2, isA_of s3 (by decide) (by decide), ?_, a + 2 + 5 * n, ?_, (s4 n hn).2.1, ?_⟩, fun h => h0 (by omega)⟩
  · rw [ln_of s3]; exact vpi_of (by omega) (by omega)
  · rw [tg_of s3]; exact (s4 n hn).1
  · rw [tg_of s3, (s4 n hn).1]
    refine K_ucopy (s4 n hn).2 sb cb h4 (by omega) fun H' hF' hc => ⟨by rw [fr_tg hF']; exact s1, ?_⟩
    have hF2 : Fr (fun _ x => a ≤ x ∧ x < a + 102 ∧ x ≠ a + 1) H H' := hF'.mono fun g x hx => ⟨by omega, by omega, by omega⟩
    have e1 : hI H' 1101 a 0 = Int32.ofNat n := by rw [hF'.2.2.2.2.1 _ _ (by omega)]; exact c2
    rw [e1, iN_inc (by omega)]
    have e2 : hI (sI H' 1101 a 0 (Int32.ofNat (n + 1))) 1101 a 0 - (1 : Int32) = Int32.ofNat n := by
      rw [hI_sI, u3_same]
      refine iN_inj (by omega) ?_
      have := iN_toInt (n := n + 1) (by omega)
      rw [i32_subx] <;> rw [this, i32_1] <;> omega
    rw [e2]
    have F3 : Fr (fun _ x => x = a) H' (sI H' 1101 a 0 (Int32.ofNat (n + 1))) := Fr_sI rfl
    refine h1 hn _ (hF2.tr (F3.mono fun g x hx => ⟨by omega, by omega, by omega⟩)) ⟨fr_units F3 (by omega) (fr_units hF2 (fun h => h.2.2 rfl) ca.1), by rw [hI_sI, u3_same], by omega, fun i hi => ?_⟩
    refine fr_CUn F3 (fun g x k1 k2 k3 => by omega) ?_
    unfold addU
    by_cases e : i = n
    · rw [if_pos e, e]; exact hc
    · rw [if_neg e]; exact fr_CUn hF' (fun g x k1 k2 k3 => by omega) (c4 i (by omega))
