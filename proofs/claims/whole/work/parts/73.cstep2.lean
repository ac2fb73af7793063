
theorem pw10_mul {m : Nat} (h : m = 1 ∨ m = 2 ∨ m = 3) : (pw10 m : Int) * 10 ^ m = 1000 := by
  rcases h with rfl | rfl | rfl <;> decide
theorem K_readNumber {d : Nat} {q : HP → Bool → Prop} {H : HP} {t a i p : Nat} {T : TP} (hi : i < 4) (hat : a + 7 ≤ t ∨ t + 2 ≤ a) (s : shStep H a) (h : CT H t T p) (hf : isFig (lk T p) = true)
    (h1 : ∀ v p1, pAmt T p = .inr (v, p1) → ∀ H', NuO H H' t a i p1 T → amtR (hI H' 4480 (a + 1) i) (hI H' 4496 (a + 2) i) v → q H' true)
    (h0 : ∀ f, pAmt T p = .inl f → ∀ H', NuO H H' t a i f T → q H' false)
    (hs : ∀ f, pAmt T p = .inl f → isFig (lk T f) = true → ∀ H', NuO H H' t a i f T → q H' true) : CZ (d + 4) 0 0 mX6_readNumber [rv (some a), rv (some t), .int (Int32.ofNat i)] H q := by
  refine C_X6_readNumber ?_
  unfold wb_X6_readNumber_0
  have e1 : (1 : Int32) = Int32.ofNat 1 := rfl
  have in4 : vp_in (Int32.ofNat i) 4 := vpi_of hi (by decide)
  have icl := iN_cl (n := i) (by omega)
  have hpT : p ≤ T.1 := h.2.2.2.2.1
  have r1 := run_in fig0 (T := T) 6 p hpT
  have n6 := numb6 (T := T) (p := p)
  refine ⟨s.1, t, rfl, h.1.1, K_takeNumber h (fun _ => ?_) (fun hn => by rw [hf] at hn; cases hn)⟩
  obtain ⟨x1, x2, x3, x4⟩ := sA_1 s
  have F1 : Fr (TaS t) H (atT H t (p + run isFig T 6 p)) := Fr_at
  have s1 := fr_shStep F1 s
  have t1 : CT (atT H t (p + run isFig T 6 p)) t T (p + run isFig T 6 p) := h.at r1
  have v1 : hI (atT H t (p + run isFig T 6 p)) 4480 (a + 1) = hI H 4480 (a + 1) := F1.2.2.2.2.1 _ _ (fun k => by omega)
  have b1 : hI (atT H t (p + run isFig T 6 p)) 4496 (a + 2) = hI H 4496 (a + 2) := F1.2.2.2.2.1 _ _ (fun k => by omega)
  refine ⟨a + 1, x1, ?_⟩
  generalize atT H t (p + run isFig T 6 p) = H1 at *
  obtain ⟨y1, y2, y3, y4⟩ := sA_1 s1
  obtain ⟨z1, z2, z3, z4⟩ := sA_2 s1
  have F2 : Fr (fun g x => (g = 4480 ∧ x = a + 1) ∨ (g = 4496 ∧ x = a + 2)) H1 (sI (sI H1 4480 (a + 1) i (numb T 6 p 0)) 4496 (a + 2) i 1) := (Fr_sI (Or.inl ⟨rfl, rfl⟩)).tr (Fr_sI (Or.inr ⟨rfl, rfl⟩))
  have O2 : NuO H (sI (sI H1 4480 (a + 1) i (numb T 6 p 0)) 4496 (a + 2) i 1) t a i (p + run isFig T 6 p) T := by
    refine ⟨(F1.mono fun g x k => Or.inl k).tr (F2.mono fun g x k => Or.inr k), fr_shStep F2 s1, fr_CT F2 (fun k => by omega) (fun k => by omega) (fun k => by omega) t1, fun j hj => ?_⟩
    simp only [hIs, Nat.reduceEqDiff, false_and, if_false, hj, and_false]
    rw [v1, b1]; exact ⟨rfl, rfl⟩
  have va : hI (sI (sI H1 4480 (a + 1) i (numb T 6 p 0)) 4496 (a + 2) i 1) 4480 (a + 1) i = numb T 6 p 0 := by simp only [hIs, Nat.reduceEqDiff, false_and, if_false, and_self, if_true]
  have vb : hI (sI (sI H1 4480 (a + 1) i (numb T 6 p 0)) 4496 (a + 2) i 1) 4496 (a + 2) i = Int32.ofNat 1 := by simp only [hIs, and_self, if_true]; rfl
  have tt := O2.2.2.1.1.1
  have tt' : tg H1 t = 8 := tt
  simp only [y2, y3, y4, in4, icl, s1.1, hC_sI, isA_sI, tg_sI, ln_sI, y1, z1, z2, z3, z4, Option.some.injEq, exists_eq_left', true_and, va, le0, n6.1, not_true_eq_false, false_implies, and_true, true_implies]
  generalize sI (sI H1 4480 (a + 1) i (numb T 6 p 0)) 4496 (a + 2) i 1 = H2 at *
  refine ⟨tt', K_takes O2.2.2.1 (fun hd => ⟨fun _ => ?_, fun h => (by cases h)⟩) (fun hd => ⟨fun h => (by cases h), fun _ => ?_⟩)⟩
  · -- a point behind it
    have hlt := lk_lt hd (by decide)
    have F3 : Fr (TaS t) H2 (atT H2 t (p + run isFig T 6 p + 1)) := Fr_at
    have O3 : NuO H (atT H2 t (p + run isFig T 6 p + 1)) t a i (p + run isFig T 6 p + 1) T := by
      obtain ⟨q1, q2, q3, q4⟩ := O2
      refine ⟨q1.tr (F3.mono fun g x k => Or.inl k), fr_shStep F3 q2, q3.at hlt, fun j hj => ?_⟩
      rw [F3.2.2.2.2.1 _ _ (fun k => by omega), F3.2.2.2.2.1 _ _ (fun k => by omega)]; exact q4 j hj
    have va3 : hI (atT H2 t (p + run isFig T 6 p + 1)) 4480 (a + 1) i = numb T 6 p 0 := by rw [F3.2.2.2.2.1 _ _ (fun k => by omega)]; exact va
    have vb3 : hI (atT H2 t (p + run isFig T 6 p + 1)) 4496 (a + 2) i = Int32.ofNat 1 := by rw [F3.2.2.2.2.1 _ _ (fun k => by omega)]; exact vb
    have nf : ¬ isFig (lk T (p + run isFig T 6 p)) = true := by rw [hd]; decide
    have n3 := numb3 (T := T) (p := p + run isFig T 6 p + 1)
    have nl := numb_lin (T := T) 3 (p + run isFig T 6 p + 1) (numb T 6 p 0) 999999 n6.1 n6.2 (by decide)
    refine rdNum_loop hi hat 3 0 _ _ 1 _ rfl O3 va3 vb3 (Nat.le_refl _) (by decide) fun H' O' a2 a3 => ?_
    rw [Nat.one_mul] at a3 ⊢
    by_cases hm : run isFig T 3 (p + run isFig T 6 p + 1) = 0
    · rw [hm, Nat.pow_zero, decide_eq_false (by decide)]
      rw [hm] at O'
      refine h0 (p + run isFig T 6 p + 1) ?_ H' O'
      unfold pAmt
      rw [if_neg nf, if_pos hd, hm, if_pos (Or.inl rfl)]
    · have hm3 : run isFig T 3 (p + run isFig T 6 p + 1) = 1 ∨ run isFig T 3 (p + run isFig T 6 p + 1) = 2 ∨ run isFig T 3 (p + run isFig T 6 p + 1) = 3 := by
        have := run3 (T := T) (p := p + run isFig T 6 p + 1)
        omega
      have hpw : 1 < 10 ^ run isFig T 3 (p + run isFig T 6 p + 1) ∧ 10 ^ run isFig T 3 (p + run isFig T 6 p + 1) ≤ 1000 := by
        rcases hm3 with r | r | r <;> rw [r] <;> decide
      rw [decide_eq_true hpw.1]
      by_cases hx : isFig (lk T (p + run isFig T 6 p + 1 + run isFig T 3 (p + run isFig T 6 p + 1))) = true
      · refine hs _ ?_ hx H' O'
        unfold pAmt
        rw [if_neg nf, if_pos hd, if_pos (Or.inr hx)]
      · refine h1 ((numb T 6 p 0).toInt.toNat * 1000 + (numb T 3 (p + run isFig T 6 p + 1) 0).toInt.toNat * pw10 (run isFig T 3 (p + run isFig T 6 p + 1))) _ ?_ H' O' ?_
        · unfold pAmt
          rw [if_neg nf, if_pos hd, if_neg (fun k => k.elim hm hx)]
        · rw [a2, a3]
          have pm := pw10_mul hm3
          have ey : (Int32.ofNat (10 ^ run isFig T 3 (p + run isFig T 6 p + 1))).toInt = ((10 ^ run isFig T 3 (p + run isFig T 6 p + 1) : Nat) : Int) := iN_toInt (by omega)
          have ec : ((10 ^ run isFig T 3 (p + run isFig T 6 p + 1) : Nat) : Int) = (10 : Int) ^ run isFig T 3 (p + run isFig T 6 p + 1) := by simp
          have e6 : ((numb T 6 p 0).toInt.toNat : Int) = (numb T 6 p 0).toInt := by omega
          have e3 : ((numb T 3 (p + run isFig T 6 p + 1) 0).toInt.toNat : Int) = (numb T 3 (p + run isFig T 6 p + 1) 0).toInt := by omega
          have nr := numb_run (T := T) 3 (p + run isFig T 6 p + 1) 0 0 (by decide) (by decide) (by decide)
          rw [Int.zero_add, Int.one_mul] at nr
          unfold amtR
          rw [ey, nl]
          refine ⟨by omega, by omega, ?_, ?_, ?_⟩
          · have : 0 ≤ (numb T 6 p 0).toInt * 10 ^ run isFig T 3 (p + run isFig T 6 p + 1) := Int.mul_nonneg n6.1 (by rw [← ec]; omega)
            omega
          · rcases hm3 with r | r | r <;> rw [r] at nr ⊢
            · have e : (10 : Int) ^ 1 = 10 := by decide
              rw [e] at nr ⊢; omega
            · have e : (10 : Int) ^ 2 = 100 := by decide
              rw [e] at nr ⊢; omega
            · have e : (10 : Int) ^ 3 = 1000 := by decide
              rw [e] at nr ⊢; omega
          · rw [ec, Int.natCast_add, Int.natCast_mul, Int.natCast_mul, e6, e3]
            generalize (numb T 6 p 0).toInt = x at *
            generalize (numb T 3 (p + run isFig T 6 p + 1) 0).toInt = y at *
            rcases hm3 with r | r | r <;> rw [r]
            · have e : (10 : Int) ^ 1 = 10 := by decide
              have e' : (pw10 1 : Int) = 100 := by decide
              rw [e, e']; omega
            · have e : (10 : Int) ^ 2 = 100 := by decide
              have e' : (pw10 2 : Int) = 10 := by decide
              rw [e, e']; omega
            · have e : (10 : Int) ^ 3 = 1000 := by decide
              have e' : (pw10 3 : Int) = 1 := by decide
              rw [e, e']; omega
  · -- none
    by_cases hx : isFig (lk T (p + run isFig T 6 p)) = true
    · refine hs _ ?_ hx H2 O2
      unfold pAmt; rw [if_pos hx]
    · refine h1 ((numb T 6 p 0).toInt.toNat * 1000) _ ?_ H2 O2 ?_
      · unfold pAmt; rw [if_neg hx, if_neg hd]
      · rw [va, vb]
        have e1' : (Int32.ofNat 1).toInt = 1 := rfl
        unfold amtR
        rw [e1']
        refine ⟨by omega, by omega, n6.1, by omega, ?_⟩
        omega
abbrev NaS (t a : Nat) : Nat → Nat → Prop := fun g x => (g = 802 ∧ x = t) ∨ (g = 4512 ∧ x = a + 3) ∨ (g = 4528 ∧ x = a + 4) ∨ (g = 705 ∧ x = a)
/-- what a name's reading leaves -/
def NaO (H H' : HP) (t a i p1 : Nat) (T : TP) : Prop := Fr (NaS t a) H H' ∧ shStep H' a ∧ CT H' t T p1 ∧ (∀ j, j ≠ i → hI H' 4512 (a + 3) j = hI H 4512 (a + 3) j ∧ hI H' 4528 (a + 4) j = hI H 4528 (a + 4) j)
theorem K_readName {d : Nat} {q : HP → Bool → Prop} {H : HP} {t a i p : Nat} {T : TP} (hi : i < 4) (hat : a + 7 ≤ t ∨ t + 2 ≤ a) (s : shStep H a) (h : CT H t T p)
    (h1 : run isLet T 4 p ≠ 0 → ∀ H', NaO H H' t a i (p + run isLet T 4 p) T → hI H' 4512 (a + 3) i = Int32.ofNat p → hI H' 4528 (a + 4) i = Int32.ofNat (run isLet T 4 p) → hI H' 705 a 0 = Int32.ofNat (i + 1) → q H' true)
    (h0 : run isLet T 4 p = 0 → ∀ H', NaO H H' t a i p T → hI H' 705 a 0 = hI H 705 a 0 → q H' false) : CZ (d + 4) 0 0 mX6_readName [rv (some a), rv (some t), .int (Int32.ofNat i)] H q := by
  refine C_X6_readName ?_
  unfold wb_X6_readName_0
  have in4 : vp_in (Int32.ofNat i) 4 := vpi_of hi (by decide)
  have icl := iN_cl (n := i) (by omega)
  have hpT : p ≤ T.1 := h.2.2.2.2.1
  have hT60 := h.2.2.1
  have r1 := run_in let0 (T := T) 4 p hpT
  have r2 := run_le (P := isLet) (T := T) 4 p
  have hp := h.2.2.2.1
  obtain ⟨x1, x2, x3, x4⟩ := sA_3 s
  refine ⟨s.1, t, rfl, h.1.1, a + 3, x1, x2, by rw [x4]; exact in4, ?_⟩
  rw [x3, icl, hp]
  have F1 : Fr (fun g x => g = 4512 ∧ x = a + 3) H (sI H 4512 (a + 3) i (Int32.ofNat p)) := Fr_sI ⟨rfl, rfl⟩
  have s1 := fr_shStep F1 s
  have t1 : CT (sI H 4512 (a + 3) i (Int32.ofNat p)) t T p := fr_CT F1 (fun k => by omega) (fun k => by omega) (fun k => by omega) h
  refine K_takeName t1 ?_
  have F2 : Fr (TaS t) (sI H 4512 (a + 3) i (Int32.ofNat p)) (atT (sI H 4512 (a + 3) i (Int32.ofNat p)) t (p + run isLet T 4 p)) := Fr_at
  have s2 := fr_shStep F2 s1
  have t2 := t1.at r1
  have n2 : ∀ j, hI (atT (sI H 4512 (a + 3) i (Int32.ofNat p)) t (p + run isLet T 4 p)) 4512 (a + 3) j = if j = i then Int32.ofNat p else hI H 4512 (a + 3) j := fun j => by
    rw [F2.2.2.2.2.1 _ _ (fun k => by omega), hIs_i]
  have m2 : hI (atT (sI H 4512 (a + 3) i (Int32.ofNat p)) t (p + run isLet T 4 p)) 4528 (a + 4) = hI H 4528 (a + 4) := by
    rw [F2.2.2.2.2.1 _ _ (fun k => by omega), F1.2.2.2.2.1 _ _ (fun k => by omega)]
  have k2 : hI (atT (sI H 4512 (a + 3) i (Int32.ofNat p)) t (p + run isLet T 4 p)) 705 a = hI H 705 a := by
    rw [F2.2.2.2.2.1 _ _ (fun k => by omega), F1.2.2.2.2.1 _ _ (fun k => by omega)]
  have F12 : Fr (NaS t a) H (atT (sI H 4512 (a + 3) i (Int32.ofNat p)) t (p + run isLet T 4 p)) := (F1.mono fun g x k => Or.inr (Or.inl k)).tr (F2.mono fun g x k => Or.inl k)
  have e710 : hC (sI H 4512 (a + 3) i (Int32.ofNat p)) 710 a = some (a + 4) := (sA_4 s1).1
  refine ⟨a + 4, e710, ?_⟩
  generalize atT (sI H 4512 (a + 3) i (Int32.ofNat p)) t (p + run isLet T 4 p) = H2 at *
  obtain ⟨y1, y2, y3, y4⟩ := sA_4 s2
  have F3 : Fr (fun g x => g = 4528 ∧ x = a + 4) H2 (sI H2 4528 (a + 4) i (Int32.ofNat (run isLet T 4 p))) := Fr_sI ⟨rfl, rfl⟩
  have s3 := fr_shStep F3 s2
  have t3 : CT (sI H2 4528 (a + 4) i (Int32.ofNat (run isLet T 4 p))) t T (p + run isLet T 4 p) := fr_CT F3 (fun k => by omega) (fun k => by omega) (fun k => by omega) t2
  have F13 : Fr (NaS t a) H (sI H2 4528 (a + 4) i (Int32.ofNat (run isLet T 4 p))) := F12.tr (F3.mono fun g x k => Or.inr (Or.inr (Or.inl k)))
  have n3 : ∀ j, hI (sI H2 4528 (a + 4) i (Int32.ofNat (run isLet T 4 p))) 4512 (a + 3) j = if j = i then Int32.ofNat p else hI H 4512 (a + 3) j := fun j => by
    rw [F3.2.2.2.2.1 _ _ (fun k => by omega)]; exact n2 j
  have m3 : ∀ j, hI (sI H2 4528 (a + 4) i (Int32.ofNat (run isLet T 4 p))) 4528 (a + 4) j = if j = i then Int32.ofNat (run isLet T 4 p) else hI H 4528 (a + 4) j := fun j => by
    rw [hIs_i, m2]
  have k3 : hI (sI H2 4528 (a + 4) i (Int32.ofNat (run isLet T 4 p))) 705 a = hI H 705 a := by
    rw [F3.2.2.2.2.1 _ _ (fun k => by omega)]; exact k2
  refine ⟨y2, by rw [y4]; exact in4, ?_⟩
  rw [y3]
  generalize sI H2 4528 (a + 4) i (Int32.ofNat (run isLet T 4 p)) = H3 at *
  obtain ⟨z1, z2, z3, z4⟩ := sA_4 s3
  refine ⟨s3.1, a + 4, z1, z2, by rw [z4]; exact in4, ?_⟩
  have e0 : (0 : Int32) = Int32.ofNat 0 := rfl
  rw [z3, m3, if_pos rfl, e0, iN_eq (by omega) (by omega)]
  refine ⟨fun hne => ?_, fun he => ?_⟩
  · have F4 : Fr (fun g x => g = 705 ∧ x = a) H3 (sI H3 705 a 0 (Int32.ofNat i + 1)) := Fr_sI ⟨rfl, rfl⟩
    refine h1 hne _ ⟨F13.tr (F4.mono fun g x k => Or.inr (Or.inr (Or.inr k))), fr_shStep F4 s3, fr_CT F4 (fun k => by omega) (fun k => by omega) (fun k => by omega) t3, fun j hj => ?_⟩ ?_ ?_ ?_
    · rw [F4.2.2.2.2.1 _ _ (fun k => by omega), F4.2.2.2.2.1 _ _ (fun k => by omega), n3, m3, if_neg hj, if_neg hj]; exact ⟨rfl, rfl⟩
    · rw [F4.2.2.2.2.1 _ _ (fun k => by omega), n3, if_pos rfl]
    · rw [F4.2.2.2.2.1 _ _ (fun k => by omega), m3, if_pos rfl]
    · rw [hIs_i, if_pos rfl, iN_inc (by omega)]
  · rw [he, Nat.add_zero] at t3
    refine h0 he H3 ⟨F13, s3, t3, fun j hj => ?_⟩ (by rw [k3])
    rw [n3, m3, if_neg hj, if_neg hj]; exact ⟨rfl, rfl⟩
theorem K_endsByFigure {d : Nat} {q : HP → Bool → Prop} {H : HP} {t p : Nat} {T : TP} (h : CT H t T p) (hq : q H (pOwn T p)) : CZ (d + 3) 0 0 mX6_endsByFigure [rv (some t)] H q := by
  refine C_X6_endsByFigure ?_
  unfold wb_X6_endsByFigure_0
  have hx : (p : Int) + (1 : Int32).toInt = ((p + 1 : Nat) : Int) := by rw [i32_1]; omega
  have e46 : (46 : Int32) = 46 := rfl
  unfold pOwn at hq
  refine ⟨t, rfl, h.1.1, K_isPower h ⟨fun c => ?_, fun c => ⟨h.1.1, K_isFigure (k := p + 1) h hx ⟨fun c2 => ?_, fun c2 => ⟨h.1.1, K_isLetter (k := p + 1) h hx ⟨fun c3 => ?_, fun c3 => ⟨h.1.1, K_look (k := p + 1) h hx ⟨fun c4 => ?_, fun c4 => ?_⟩⟩⟩⟩⟩⟩⟩⟩
  · rw [c] at hq; simpa using hq
  · rw [c, c2] at hq; simpa using hq
  · rw [c, c2, c3] at hq; simpa using hq
  · rw [c, c2, c3, decide_eq_true c4] at hq; simpa using hq
  · rw [c, c2, c3, decide_eq_false c4] at hq; simpa using hq
