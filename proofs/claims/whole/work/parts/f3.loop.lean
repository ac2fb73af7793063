
/-! ===== the law's loop ===== -/
theorem Inv_tg {H : HP} (h : Inv H) : tg H 0 = 12 := by
  obtain ⟨n, U, C, T, pr, P, kp, nK, UK, CK, TT, K, ok, c, m⟩ := h
  exact c.1.1
theorem law_loop {q : HP → Bool → Prop} {L : Nat} {xs : Nat → Int32} {ca sa : Nat} (hL : L ≤ 3072) (hq : ∀ H', q H' true) : ∀ (r j : Nat) (H : HP), L < j + 6 * r + 6 → j ≤ L → hX H = (L, xs) → Inv H → L_L_law_18 100 ca sa q (some 0) (some 1118) (Int32.ofNat j) H := by
  have lm : (Int32.ofNat L - 6).toInt = (L : Int) - 6 := by
    have e0 := iN_toInt (n := L) (by omega)
    have e1 : (6 : Int32).toInt = 6 := rfl
    rw [Int32.toInt_sub, e0, e1]
    exact Int.bmod_eq_of_le (by omega) (by omega)
  intro r
  induction r with
  | zero =>
    intro j H hj hjL hx inv
    refine T_L_law_18 ?_
    unfold wb_L_law_18
    have e1 : (hX H).1 = L := by rw [hx]
    rw [e1]
    have hend : Int32.ofNat L - 6 < Int32.ofNat j := by
      rw [i32_lt, lm, iN_toInt (by omega)]; omega
    exact ⟨fun _ => hq H, fun k => absurd hend k⟩
  | succ r ih =>
    intro j H hj hjL hx inv
    refine T_L_law_18 ?_
    unfold wb_L_law_18
    have e1 : (hX H).1 = L := by rw [hx]
    refine ⟨fun _ => hq H, fun hend => ?_⟩
    have hend : j + 6 ≤ L := by
      rw [e1, i32_lt, lm, iN_toInt (by omega)] at hend; omega
    have w0 : vp_in (Int32.ofNat j) (hX H).1 := by rw [e1]; exact vpi_of (by omega) (by omega)
    have wk : ∀ k : Nat, k < 6 → vp_in (Int32.ofNat j + Int32.ofNat k) (hX H).1 := fun k hk => by
      rw [e1, iN_add (by omega)]; exact vpi_of (by omega) (by omega)
    have w1 : vp_in (Int32.ofNat j + 1) (hX H).1 := wk 1 (by decide)
    have w2 : vp_in (Int32.ofNat j + 2) (hX H).1 := wk 2 (by decide)
    have w3 : vp_in (Int32.ofNat j + 3) (hX H).1 := wk 3 (by decide)
    have w4 : vp_in (Int32.ofNat j + 4) (hX H).1 := wk 4 (by decide)
    have w5 : vp_in (Int32.ofNat j + 5) (hX H).1 := wk 5 (by decide)
    have t12 := Inv_tg inv
    have next : ∀ H8, hX H8 = hX H → Inv H8 → L_L_law_18 100 ca sa q (some 0) (some 1118) (Int32.ofNat j + 6) H8 := fun H8 h8 i8 => by
      have e6 : Int32.ofNat j + 6 = Int32.ofNat (j + 6) := iN_add (m := 6) (by omega)
      rw [e6]
      exact ih (j + 6) H8 (by omega) (by omega) (by rw [h8]; exact hx) i8
    refine ⟨w0, fun _ => next H rfl inv, fun _ => ?_, fun _ => ?_, fun _ => ?_, fun _ => ?_, fun _ => ?_, fun _ => ?_, fun _ => ?_, fun _ => ?_, fun _ => ?_, fun _ => ?_, fun _ => ?_, fun _ => ?_, fun _ => ?_, fun _ => ?_, fun _ => ?_, fun _ => ?_, fun _ => ?_, fun _ => ?_, fun _ => ?_, fun _ => ?_, fun _ => ?_, fun _ => ?_, fun _ => ?_, fun _ => ?_, fun _ => ?_, fun _ => ?_, fun _ => ?_, fun _ => ?_, fun _ => ?_, fun _ => ?_, fun _ => ?_, fun _ => ?_, fun _ => ?_, fun _ => ?_, fun _ => ?_, fun _ => ?_, fun _ => ?_⟩
    · refine ⟨w1, 0, rfl, t12, O_feed (d := 0) inv fun H3 ra h3 t13 k => ⟨by rw [h3]; exact w1, 1118, rfl, t13, ?_⟩⟩
      rw [h3]
      exact k _ fun H8 h8 i8 => ⟨fun _ => next H8 h8 i8, fun c => absurd rfl c⟩
    · refine ⟨0, rfl, t12, O_define (d := 0) inv fun H3 ra h3 t13 k => ⟨1118, rfl, t13, ?_⟩⟩
      exact k _ fun H8 h8 i8 => ⟨fun _ => next H8 h8 i8, fun c => absurd rfl c⟩
    · refine ⟨0, rfl, t12, O_drop (d := 0) inv fun H3 ra h3 t13 k => ⟨1118, rfl, t13, ?_⟩⟩
      exact k _ fun H8 h8 i8 => ⟨fun _ => next H8 h8 i8, fun c => absurd rfl c⟩
    · refine ⟨0, rfl, t12, O_find (d := 0) inv fun H3 ra h3 t13 k => ⟨1118, rfl, t13, ?_⟩⟩
      exact k _ fun H8 h8 i8 => ⟨fun _ => next H8 h8 i8, fun c => absurd rfl c⟩
    · refine ⟨w1, w2, 0, rfl, t12, O_name (d := 0) inv fun H3 ra h3 t13 k => ⟨by rw [h3]; exact w1, by rw [h3]; exact w2, 1118, rfl, t13, ?_⟩⟩
      rw [h3]
      exact k _ fun H8 h8 i8 => ⟨fun _ => next H8 h8 i8, fun c => absurd rfl c⟩
    · refine ⟨w1, w2, 0, rfl, t12, O_power (d := 0) inv fun H3 ra h3 t13 k => ⟨by rw [h3]; exact w1, by rw [h3]; exact w2, 1118, rfl, t13, ?_⟩⟩
      rw [h3]
      exact k _ fun H8 h8 i8 => ⟨fun _ => next H8 h8 i8, fun c => absurd rfl c⟩
    · refine ⟨w1, w2, w3, 0, rfl, t12, O_scale (d := 0) inv fun H3 ra h3 t13 k => ⟨by rw [h3]; exact w1, by rw [h3]; exact w2, by rw [h3]; exact w3, 1118, rfl, t13, ?_⟩⟩
      rw [h3]
      exact k _ fun H8 h8 i8 => ⟨fun _ => next H8 h8 i8, fun c => absurd rfl c⟩
    · refine ⟨w1, w2, w3, 0, rfl, t12, O_ratio (d := 0) inv fun H3 ra h3 t13 k => ⟨by rw [h3]; exact w1, by rw [h3]; exact w2, by rw [h3]; exact w3, 1118, rfl, t13, ?_⟩⟩
      rw [h3]
      exact k _ fun H8 h8 i8 => ⟨fun _ => next H8 h8 i8, fun c => absurd rfl c⟩
    · refine ⟨w1, w2, w3, 0, rfl, t12, O_nearest (d := 0) inv fun H3 ra h3 t13 k => ⟨by rw [h3]; exact w1, by rw [h3]; exact w2, by rw [h3]; exact w3, 1118, rfl, t13, ?_⟩⟩
      rw [h3]
      exact k _ fun H8 h8 i8 => ⟨fun _ => next H8 h8 i8, fun c => absurd rfl c⟩
    · refine ⟨0, rfl, t12, O_prove (d := 0) inv fun H3 ra h3 t13 k => ⟨1118, rfl, t13, ?_⟩⟩
      exact k _ fun H8 h8 i8 => ⟨fun _ => next H8 h8 i8, fun c => absurd rfl c⟩
    · refine ⟨w1, 0, rfl, t12, O_proof (d := 0) inv fun H3 ra h3 t13 k => ⟨by rw [h3]; exact w1, 1118, rfl, t13, ?_⟩⟩
      rw [h3]
      exact k _ fun H8 h8 i8 => ⟨fun _ => next H8 h8 i8, fun c => absurd rfl c⟩
    · refine ⟨w1, w2, 0, rfl, t12, O_step (d := 0) inv fun H3 ra h3 t13 k => ⟨by rw [h3]; exact w1, by rw [h3]; exact w2, 1118, rfl, t13, ?_⟩⟩
      rw [h3]
      exact k _ fun H8 h8 i8 => ⟨fun _ => next H8 h8 i8, fun c => absurd rfl c⟩
    · refine ⟨w1, w2, 0, rfl, t12, O_value (d := 0) inv fun H3 ra h3 t13 k => ⟨by rw [h3]; exact w1, by rw [h3]; exact w2, 1118, rfl, t13, ?_⟩⟩
      rw [h3]
      exact k _ fun H8 h8 i8 => ⟨fun _ => next H8 h8 i8, fun c => absurd rfl c⟩
    · refine ⟨w1, w2, 0, rfl, t12, O_same (d := 0) inv fun H3 ra h3 t13 k => ⟨by rw [h3]; exact w1, by rw [h3]; exact w2, 1118, rfl, t13, ?_⟩⟩
      rw [h3]
      exact k _ fun H8 h8 i8 => ⟨fun _ => next H8 h8 i8, fun c => absurd rfl c⟩
    · refine ⟨w1, w2, w3, 0, rfl, t12, O_in (d := 0) inv fun H3 ra h3 t13 k => ⟨by rw [h3]; exact w1, by rw [h3]; exact w2, by rw [h3]; exact w3, 1118, rfl, t13, ?_⟩⟩
      rw [h3]
      exact k _ fun H8 h8 i8 => ⟨fun _ => next H8 h8 i8, fun c => absurd rfl c⟩
    · refine ⟨w1, w2, w3, 0, rfl, t12, O_bits (d := 0) inv fun H3 ra h3 t13 k => ⟨by rw [h3]; exact w1, by rw [h3]; exact w2, by rw [h3]; exact w3, 1118, rfl, t13, ?_⟩⟩
      rw [h3]
      exact k _ fun H8 h8 i8 => ⟨fun _ => next H8 h8 i8, fun c => absurd rfl c⟩
    · refine ⟨w1, w2, w3, w4, w5, 0, rfl, t12, O_parted (d := 0) inv fun H3 ra h3 t13 k => ⟨by rw [h3]; exact w1, by rw [h3]; exact w2, by rw [h3]; exact w3, by rw [h3]; exact w4, by rw [h3]; exact w5, 1118, rfl, t13, ?_⟩⟩
      rw [h3]
      exact k _ fun H8 h8 i8 => ⟨fun _ => next H8 h8 i8, fun c => absurd rfl c⟩
    · refine ⟨w1, w2, w3, w4, 0, rfl, t12, O_claim (d := 0) inv fun H3 ra h3 t13 k => ⟨by rw [h3]; exact w1, by rw [h3]; exact w2, by rw [h3]; exact w3, by rw [h3]; exact w4, 1118, rfl, t13, ?_⟩⟩
      rw [h3]
      exact k _ fun H8 h8 i8 => ⟨fun _ => next H8 h8 i8, fun c => absurd rfl c⟩
    · refine ⟨w1, 0, rfl, t12, O_unclaim (d := 0) inv fun H3 ra h3 t13 k => ⟨by rw [h3]; exact w1, 1118, rfl, t13, ?_⟩⟩
      rw [h3]
      exact k _ fun H8 h8 i8 => ⟨fun _ => next H8 h8 i8, fun c => absurd rfl c⟩
    · refine ⟨w1, w2, 0, rfl, t12, O_claimOf (d := 0) inv fun H3 ra h3 t13 k => ⟨by rw [h3]; exact w1, by rw [h3]; exact w2, 1118, rfl, t13, ?_⟩⟩
      rw [h3]
      exact k _ fun H8 h8 i8 => ⟨fun _ => next H8 h8 i8, fun c => absurd rfl c⟩
    · refine ⟨w1, 0, rfl, t12, O_rings (d := 0) inv fun H3 ra h3 t13 k => ⟨by rw [h3]; exact w1, 1118, rfl, t13, ?_⟩⟩
      rw [h3]
      exact k _ fun H8 h8 i8 => ⟨fun _ => next H8 h8 i8, fun c => absurd rfl c⟩
    · refine ⟨w1, w2, w3, 0, rfl, t12, O_by (d := 0) inv fun H3 ra h3 t13 k => ⟨by rw [h3]; exact w1, by rw [h3]; exact w2, by rw [h3]; exact w3, 1118, rfl, t13, ?_⟩⟩
      rw [h3]
      exact k _ fun H8 h8 i8 => ⟨fun _ => next H8 h8 i8, fun c => absurd rfl c⟩
    · refine ⟨w1, w2, w3, 0, rfl, t12, O_track (d := 0) inv fun H3 ra h3 t13 k => ⟨by rw [h3]; exact w1, by rw [h3]; exact w2, by rw [h3]; exact w3, 1118, rfl, t13, ?_⟩⟩
      rw [h3]
      exact k _ fun H8 h8 i8 => ⟨fun _ => next H8 h8 i8, fun c => absurd rfl c⟩
    · refine ⟨w1, w2, w3, 0, rfl, t12, O_put (d := 0) inv fun H3 ra h3 t13 k => ⟨by rw [h3]; exact w1, by rw [h3]; exact w2, by rw [h3]; exact w3, 1118, rfl, t13, ?_⟩⟩
      rw [h3]
      exact k _ fun H8 h8 i8 => ⟨fun _ => next H8 h8 i8, fun c => absurd rfl c⟩
    · refine ⟨w1, w2, w3, w4, 0, rfl, t12, O_putBits (d := 0) inv fun H3 ra h3 t13 k => ⟨by rw [h3]; exact w1, by rw [h3]; exact w2, by rw [h3]; exact w3, by rw [h3]; exact w4, 1118, rfl, t13, ?_⟩⟩
      rw [h3]
      exact k _ fun H8 h8 i8 => ⟨fun _ => next H8 h8 i8, fun c => absurd rfl c⟩
    · refine ⟨w1, w2, 0, rfl, t12, O_item (d := 0) inv fun H3 ra h3 t13 k => ⟨by rw [h3]; exact w1, by rw [h3]; exact w2, 1118, rfl, t13, ?_⟩⟩
      rw [h3]
      exact k _ fun H8 h8 i8 => ⟨fun _ => next H8 h8 i8, fun c => absurd rfl c⟩
    · refine ⟨w1, w2, w3, 0, rfl, t12, O_change (d := 0) inv fun H3 ra h3 t13 k => ⟨by rw [h3]; exact w1, by rw [h3]; exact w2, by rw [h3]; exact w3, 1118, rfl, t13, ?_⟩⟩
      rw [h3]
      exact k _ fun H8 h8 i8 => ⟨fun _ => next H8 h8 i8, fun c => absurd rfl c⟩
    · refine ⟨w1, 0, rfl, t12, O_added (d := 0) inv fun H3 ra h3 t13 k => ⟨by rw [h3]; exact w1, 1118, rfl, t13, ?_⟩⟩
      rw [h3]
      exact k _ fun H8 h8 i8 => ⟨fun _ => next H8 h8 i8, fun c => absurd rfl c⟩
    · refine ⟨w1, w2, w3, 0, rfl, t12, O_cast (d := 0) inv fun H3 ra h3 t13 k => ⟨by rw [h3]; exact w1, by rw [h3]; exact w2, by rw [h3]; exact w3, 1118, rfl, t13, ?_⟩⟩
      rw [h3]
      exact k _ fun H8 h8 i8 => ⟨fun _ => next H8 h8 i8, fun c => absurd rfl c⟩
    · refine ⟨w1, w2, 0, rfl, t12, O_twin (d := 0) inv fun H3 ra h3 t13 k => ⟨by rw [h3]; exact w1, by rw [h3]; exact w2, 1118, rfl, t13, ?_⟩⟩
      rw [h3]
      exact k _ fun H8 h8 i8 => ⟨fun _ => next H8 h8 i8, fun c => absurd rfl c⟩
    · refine ⟨w1, w2, w3, 0, rfl, t12, O_hang (d := 0) inv fun H3 ra h3 t13 k => ⟨by rw [h3]; exact w1, by rw [h3]; exact w2, by rw [h3]; exact w3, 1118, rfl, t13, ?_⟩⟩
      rw [h3]
      exact k _ fun H8 h8 i8 => ⟨fun _ => next H8 h8 i8, fun c => absurd rfl c⟩
    · refine ⟨w1, w2, w3, 0, rfl, t12, O_hold (d := 0) inv fun H3 ra h3 t13 k => ⟨by rw [h3]; exact w1, by rw [h3]; exact w2, by rw [h3]; exact w3, 1118, rfl, t13, ?_⟩⟩
      rw [h3]
      exact k _ fun H8 h8 i8 => ⟨fun _ => next H8 h8 i8, fun c => absurd rfl c⟩
    · refine ⟨w1, w2, w3, 0, rfl, t12, O_rack (d := 0) inv fun H3 ra h3 t13 k => ⟨by rw [h3]; exact w1, by rw [h3]; exact w2, by rw [h3]; exact w3, 1118, rfl, t13, ?_⟩⟩
      rw [h3]
      exact k _ fun H8 h8 i8 => ⟨fun _ => next H8 h8 i8, fun c => absurd rfl c⟩
    · refine ⟨w1, w2, 0, rfl, t12, O_shift (d := 0) inv fun H3 ra h3 t13 k => ⟨by rw [h3]; exact w1, by rw [h3]; exact w2, 1118, rfl, t13, ?_⟩⟩
      rw [h3]
      exact k _ fun H8 h8 i8 => ⟨fun _ => next H8 h8 i8, fun c => absurd rfl c⟩
    · refine ⟨0, rfl, t12, O_image (d := 0) inv fun H3 ra h3 t13 k => ⟨1118, rfl, t13, ?_⟩⟩
      exact k _ fun H8 h8 i8 => ⟨fun _ => next H8 h8 i8, fun c => absurd rfl c⟩
    · refine ⟨0, rfl, t12, O_undo (d := 0) inv fun H3 ra h3 t13 k => ⟨1118, rfl, t13, ?_⟩⟩
      exact k _ fun H8 h8 i8 => ⟨fun _ => next H8 h8 i8, fun c => absurd rfl c⟩
    · refine ⟨w1, 0, rfl, t12, O_count (d := 0) inv fun H3 ra h3 t13 k => ⟨by rw [h3]; exact w1, 1118, rfl, t13, ?_⟩⟩
      rw [h3]
      exact k _ fun H8 h8 i8 => ⟨fun _ => next H8 h8 i8, fun c => absurd rfl c⟩
