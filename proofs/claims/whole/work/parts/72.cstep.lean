
/-! ===== the class's steps read ===== -/
theorem sA_1 {H : HP} {a : Nat} (h : shStep H a) : hC H 707 a = some (a + 1) ∧ isA H (a + 1) 0 ∧ tg H (a + 1) = 4480 ∧ ln H (a + 1) = 4 := arr_of (e := 0) ⟨h.2.1, h.2.2.1⟩ (by decide) (by decide)
theorem sA_2 {H : HP} {a : Nat} (h : shStep H a) : hC H 708 a = some (a + 2) ∧ isA H (a + 2) 0 ∧ tg H (a + 2) = 4496 ∧ ln H (a + 2) = 4 := arr_of (e := 0) ⟨h.2.2.2.1, h.2.2.2.2.1⟩ (by decide) (by decide)
theorem sA_3 {H : HP} {a : Nat} (h : shStep H a) : hC H 709 a = some (a + 3) ∧ isA H (a + 3) 0 ∧ tg H (a + 3) = 4512 ∧ ln H (a + 3) = 4 := arr_of (e := 0) ⟨h.2.2.2.2.2.1, h.2.2.2.2.2.2.1⟩ (by decide) (by decide)
theorem sA_4 {H : HP} {a : Nat} (h : shStep H a) : hC H 710 a = some (a + 4) ∧ isA H (a + 4) 0 ∧ tg H (a + 4) = 4528 ∧ ln H (a + 4) = 4 := arr_of (e := 0) ⟨h.2.2.2.2.2.2.2.1, h.2.2.2.2.2.2.2.2.1⟩ (by decide) (by decide)
theorem sA_5 {H : HP} {a : Nat} (h : shStep H a) : hC H 711 a = some (a + 5) ∧ isA H (a + 5) 0 ∧ tg H (a + 5) = 4544 ∧ ln H (a + 5) = 5 := arr_of (e := 0) ⟨h.2.2.2.2.2.2.2.2.2.1, h.2.2.2.2.2.2.2.2.2.2.1⟩ (by decide) (by decide)
theorem fr_shStep {S : Nat → Nat → Prop} {H H' : HP} {a : Nat} (h : Fr S H H') (s : shStep H a) : shStep H' a := by
  unfold shStep at s ⊢
  rw [fr_tg h, fr_tg h, h.1, h.2.1]
  exact s
theorem fr_CT {S : Nat → Nat → Prop} {H H' : HP} {a p : Nat} {T : TP} (h : Fr S H H') (h1 : ¬ S 801 a) (h2 : ¬ S 802 a) (h3 : ¬ S 4145 (a + 1)) (s : CT H a T p) : CT H' a T p := by
  obtain ⟨⟨s1, s2, s3⟩, s4, s5, s6, s7, s8⟩ := s
  have hi := h.2.2.2.2.1
  refine ⟨⟨by rw [fr_tg h]; exact s1, by rw [h.2.1]; exact s2, by rw [h.1]; exact s3⟩, by rw [hi _ _ h1]; exact s4, s5, by rw [hi _ _ h2]; exact s6, s7, fun i hi' => ?_⟩
  rw [hi _ _ h3]; exact s8 i hi'
abbrev TaS (t : Nat) : Nat → Nat → Prop := fun g x => g = 802 ∧ x = t
theorem Fr_at {H : HP} {t p : Nat} : Fr (TaS t) H (atT H t p) := Fr_sI ⟨rfl, rfl⟩
/-- a number as the class holds it: above by below, in thousandths t -/
def amtR (x y : Int32) (t : Nat) : Prop := 1 ≤ y.toInt ∧ y.toInt ≤ 1000 ∧ 0 ≤ x.toInt ∧ x.toInt ≤ 999999999 ∧ x.toInt * 1000 = t * y.toInt
theorem numb_lin {T : TP} : ∀ (n p : Nat) (v : Int32) (M : Int), 0 ≤ v.toInt → v.toInt ≤ M → (M + 1) * 10 ^ n ≤ 2147483647 → (numb T n p v).toInt = v.toInt * 10 ^ run isFig T n p + (numb T n p 0).toInt
  | 0, p, v, M, h0, h1, h2 => by
    show v.toInt = v.toInt * 10 ^ 0 + (0 : Int32).toInt
    rw [Int.pow_zero, i32_0]; omega
  | n + 1, p, v, M, h0, h1, h2 => by
    unfold numb run
    have hp : (1 : Int) ≤ 10 ^ n := Int.pow_pos (by decide)
    have e1 : (M + 1) * 10 ^ (n + 1) = (10 * M + 9 + 1) * 10 ^ n := by
      rw [Int.pow_succ]
      have : 10 * M + 9 + 1 = 10 * (M + 1) := by omega
      rw [this, Int.mul_comm (10 ^ n) 10, ← Int.mul_assoc, Int.mul_comm (M + 1) 10]
    have hM2 : 10 * M + 9 + 1 ≤ (10 * M + 9 + 1) * 10 ^ n := by
      have := Int.mul_le_mul_of_nonneg_left hp (show (0 : Int) ≤ 10 * M + 9 + 1 by omega)
      omega
    rw [e1] at h2
    split
    · rename_i hf
      unfold isFig at hf
      rw [decide_eq_true_iff] at hf
      have e48 : (48 : Int32).toInt = 48 := rfl
      have e10 : (10 : Int32).toInt = 10 := rfl
      have es : (lk T p - 48).toInt = (lk T p).toInt - 48 := by rw [i32_subx] <;> rw [e48] <;> omega
      have em : (v * 10).toInt = v.toInt * 10 := by rw [i32_mulx] <;> rw [e10] <;> omega
      have ea : (v * 10 + (lk T p - 48)).toInt = v.toInt * 10 + ((lk T p).toInt - 48) := by rw [i32_addx] <;> rw [em, es] <;> omega
      have ez : ((0 : Int32) * 10 + (lk T p - 48)).toInt = (lk T p).toInt - 48 := by
        have e00 : (0 : Int32) * 10 = 0 := by decide
        rw [e00, i32_addx] <;> rw [i32_0, es] <;> omega
      have i1 := numb_lin (T := T) n (p + 1) (v * 10 + (lk T p - 48)) (10 * M + 9) (by omega) (by omega) h2
      have i2 := numb_lin (T := T) n (p + 1) ((0 : Int32) * 10 + (lk T p - 48)) (10 * M + 9) (by omega) (by omega) h2
      rw [i1, i2, ea, ez, Int.pow_succ, Int.add_mul, ← Int.add_assoc]
      rw [Int.mul_comm (10 ^ run isFig T n (p + 1)) 10, ← Int.mul_assoc]
    · rw [Int.pow_zero, i32_0]; omega
abbrev NuS (t a : Nat) : Nat → Nat → Prop := fun g x => (g = 802 ∧ x = t) ∨ (g = 4480 ∧ x = a + 1) ∨ (g = 4496 ∧ x = a + 2)
/-- what a number's reading leaves -/
def NuO (H H' : HP) (t a i p1 : Nat) (T : TP) : Prop := Fr (NuS t a) H H' ∧ shStep H' a ∧ CT H' t T p1 ∧ (∀ j, j ≠ i → hI H' 4480 (a + 1) j = hI H 4480 (a + 1) j ∧ hI H' 4496 (a + 2) j = hI H 4496 (a + 2) j)
theorem rdNum_loop {d : Nat} {q : HP → Bool → Prop} {H0 : HP} {t a i : Nat} {T : TP} (hi : i < 4) (hat : a + 7 ≤ t ∨ t + 2 ≤ a) : ∀ (n j p : Nat) (v : Int32) (b : Nat) (H : HP), n + j = 3 → NuO H0 H t a i p T → hI H 4480 (a + 1) i = v → hI H 4496 (a + 2) i = Int32.ofNat b → 1 ≤ b → b * 10 ^ n ≤ 1000 →
    (∀ H', NuO H0 H' t a i (p + run isFig T n p) T → hI H' 4480 (a + 1) i = numb T n p v → hI H' 4496 (a + 2) i = Int32.ofNat (b * 10 ^ run isFig T n p) → q H' (decide (1 < b * 10 ^ run isFig T n p))) → L_X6_readNumber_41 (d + 2) q a (some t) (Int32.ofNat i) (Int32.ofNat j) H := by
  have e3 : (3 : Int32) = Int32.ofNat 3 := rfl
  have e1 : (1 : Int32) = Int32.ofNat 1 := rfl
  have in4 : vp_in (Int32.ofNat i) 4 := vpi_of hi (by decide)
  have icl := iN_cl (n := i) (by omega)
  -- the end
  have fin : ∀ (H : HP) (b p : Nat), b ≤ 1000 → NuO H0 H t a i p T → hI H 4496 (a + 2) i = Int32.ofNat b → q H (decide (1 < b)) → tg H a = 7 ∧ (∃ a2, (hC H 708 a) = some a2 ∧ (isA H a2 0 ∧ (vp_in (Int32.ofNat i) (ln H a2) ∧ (((hI H (tg H a2) a2 (Int32.ofNat i).toNatClampNeg) ≤ (1 : Int32) → q H false) ∧ (¬ ((hI H (tg H a2) a2 (Int32.ofNat i).toNatClampNeg) ≤ (1 : Int32)) → q H true))))) := by
    intro H b p hb hO hv hq
    obtain ⟨z1, z2, z3, z4⟩ := sA_2 hO.2.1
    refine ⟨hO.2.1.1, a + 2, z1, z2, by rw [z4]; exact in4, ?_⟩
    rw [z3, icl, hv, e1, iN_le (by omega) (by omega)]
    refine ⟨fun h => ?_, fun h => ?_⟩
    · rwa [decide_eq_false (by omega)] at hq
    · rwa [decide_eq_true (by omega)] at hq
  intro n
  induction n with
  | zero =>
    intro j p v b H hj hO hv hb hb1 hbn hq
    have r0 : run isFig T 0 p = 0 := rfl
    rw [r0, Nat.pow_zero, Nat.mul_one] at hq
    rw [Nat.pow_zero, Nat.mul_one] at hbn
    refine T_X6_readNumber_41 ?_
    unfold wb_X6_readNumber_41
    rw [e3, iN_le (by omega) (by omega)]
    exact ⟨fun _ => fin H b p hbn hO hb (hq H hO hv hb), fun h => by omega⟩
  | succ n ih =>
    intro j p v b H hj hO hv hb hb1 hbn hq
    have hp : 1 ≤ 10 ^ n := Nat.pow_pos (by decide)
    have hb10 : b * 10 ^ (n + 1) = b * 10 * 10 ^ n := by rw [Nat.pow_succ, Nat.mul_comm (10 ^ n) 10, ← Nat.mul_assoc]
    have hle : b * 10 ≤ b * 10 * 10 ^ n := Nat.le_mul_of_pos_right _ hp
    rw [hb10] at hbn
    obtain ⟨hF, hs, ht, hO4⟩ := id hO
    refine T_X6_readNumber_41 ?_
    unfold wb_X6_readNumber_41
    rw [e3, iN_le (by omega) (by omega)]
    refine ⟨fun h => by omega, fun _ => ⟨t, rfl, ht.1.1, K_isFigure (k := p) ht (by rw [i32_0]; omega) ⟨fun hf => ?_, fun hf => ?_⟩⟩⟩
    · have r0 : run isFig T (n + 1) p = 0 := by unfold run; rw [if_neg (by rw [hf]; decide)]
      have nb : numb T (n + 1) p v = v := by unfold numb; rw [if_neg (by rw [hf]; decide)]
      rw [r0, nb, Nat.pow_zero, Nat.mul_one] at hq
      exact fin H b p (by omega) hO hb (hq H hO hv hb)
    · have hlt : p < T.1 := isFig_lt hf
      have r1 : run isFig T (n + 1) p = run isFig T n (p + 1) + 1 := by
        show (if isFig (lk T p) = true then run isFig T n (p + 1) + 1 else 0) = _
        rw [if_pos hf]
      have nb : numb T (n + 1) p v = numb T n (p + 1) (v * 10 + (lk T p - 48)) := by
        show (if isFig (lk T p) = true then _ else v) = _
        rw [if_pos hf]
      obtain ⟨x1, x2, x3, x4⟩ := sA_1 hs
      refine ⟨hs.1, a + 1, x1, x2, by rw [x4]; exact in4, ht.1.1, K_takeFigure ht hlt ?_⟩
      have F1 : Fr (TaS t) H (atT H t (p + 1)) := Fr_at
      have s1 := fr_shStep F1 hs
      have t1 : CT (atT H t (p + 1)) t T (p + 1) := ht.at hlt
      have v1 : hI (atT H t (p + 1)) 4480 (a + 1) = hI H 4480 (a + 1) := F1.2.2.2.2.1 _ _ (fun k => by omega)
      have b1 : hI (atT H t (p + 1)) 4496 (a + 2) = hI H 4496 (a + 2) := F1.2.2.2.2.1 _ _ (fun k => by omega)
      have hFr1 : Fr (NuS t a) H0 (atT H t (p + 1)) := hF.tr (F1.mono fun g x k => Or.inl k)
      rw [x3, icl, hv]
      generalize atT H t (p + 1) = H1 at *
      obtain ⟨y1, y2, y3, y4⟩ := sA_1 s1
      obtain ⟨z1, z2, z3, z4⟩ := sA_2 s1
      have hb1' : hI H1 4496 (a + 2) i = Int32.ofNat b := by rw [b1]; exact hb
      simp only [y2, y3, y4, in4, s1.1, hC_sI, isA_sI, tg_sI, ln_sI, z1, z2, z3, z4, Option.some.injEq, exists_eq_left', true_and, hIs, Nat.reduceEqDiff, false_and, if_false, hb1']
      intro H27 e27
      have e10 : Int32.ofNat b * (10 : Int32) = Int32.ofNat (b * 10) := iN_mul (b := 10) (by omega) (by omega) (by omega)
      rw [e10] at e27
      have F2 : Fr (fun g x => (g = 4480 ∧ x = a + 1) ∨ (g = 4496 ∧ x = a + 2)) H1 H27 := by
        rw [← e27]
        exact (Fr_sI (Or.inl ⟨rfl, rfl⟩)).tr (Fr_sI (Or.inr ⟨rfl, rfl⟩))
      rw [iN_inc (by omega)]
      have hr10 : ∀ k : Nat, b * 10 * 10 ^ k = b * 10 ^ (k + 1) := fun k => by rw [Nat.pow_succ, Nat.mul_comm (10 ^ k) 10, ← Nat.mul_assoc]
      refine ih (j + 1) (p + 1) (v * 10 + (lk T p - 48)) (b * 10) H27 (by omega) ⟨hFr1.tr (F2.mono fun g x k => Or.inr k), fr_shStep F2 s1, fr_CT F2 (fun k => by omega) (fun k => by omega) (fun k => by omega) ?_, fun j' hj' => ?_⟩ ?_ ?_ (by omega) hbn fun H' a1 a2 a3 => ?_
      · exact t1
      · have := hO4 j' hj'
        rw [← e27]
        simp only [hIs, Nat.reduceEqDiff, false_and, if_false, hj', and_false]
        rw [v1, b1]; exact this
      · rw [← e27]; simp only [hIs, Nat.reduceEqDiff, false_and, if_false, and_self, if_true]
      · rw [← e27]; simp only [hIs, and_self, if_true]
      · rw [hr10] at a3 ⊢
        have a1' : p + 1 + run isFig T n (p + 1) = p + run isFig T (n + 1) p := by rw [r1]; omega
        rw [← r1] at a3 ⊢
        rw [a1'] at a1
        rw [← nb] at a2
        exact hq H' a1 a2 a3
