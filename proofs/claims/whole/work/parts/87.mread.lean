
/-! ===== the reference reads numbers and names ===== -/
abbrev AtS (m : Nat) : Nat → Nat → Prop := fun g a => (g = 1324 ∨ g = 1325) ∧ a = m
theorem Fr_atM {H : HP} {m p : Nat} {f : Int32} : Fr (AtS m) H (atM H m p f) := (Fr_sI ⟨Or.inl rfl, rfl⟩).tr (Fr_sI ⟨Or.inr rfl, rfl⟩)
theorem fr_MU {S : Nat → Nat → Prop} {H H' : HP} {m n : Nat} {U : Nat → UV} (h : Fr S H H') (h0 : ¬ S 1300 m) (h1 : ∀ g a, m + 1 ≤ a → a ≤ m + 6 → ¬ S g a) (s : MU H m n U) : MU H' m n U := ⟨fr_shM h s.1, by rw [h.2.2.2.2.1 _ _ h0]; exact s.2.1, s.2.2.1, fun i hi => fr_MUn h h1 (s.2.2.2 i hi)⟩
theorem MU_at {H : HP} {m n p : Nat} {f : Int32} {U : Nat → UV} (s : MU H m n U) : MU (atM H m p f) m n U := fr_MU Fr_atM (fun k => by omega) (fun g a k1 k2 k3 => by omega) s
theorem fr_MT {S : Nat → Nat → Prop} {H H' : HP} {m p : Nat} {T : TP} {f : Int32} (h : Fr S H H') (h1 : ¬ S 1323 m) (h2 : ¬ S 1324 m) (h3 : ¬ S 1325 m) (h4 : ¬ S 4864 (m + 15)) (s : MT H m T p f) : MT H' m T p f := by
  obtain ⟨s1, s2, s3, s4, s5, s6, s7⟩ := s
  have hi := h.2.2.2.2.1
  refine ⟨fr_shM h s1, by rw [hi _ _ h1]; exact s2, s3, by rw [hi _ _ h2]; exact s4, s5, by rw [hi _ _ h3]; exact s6, fun i k => by rw [hi _ _ h4]; exact s7 i k⟩
def ten (x : Int32) : Nat → Int32
  | 0 => x
  | n + 1 => ten (x * 10) n
theorem amount_loop {d : Nat} {q : HP → Int64 → Prop} {H : HP} {x1 : Int64} : ∀ (k c : Nat) (x : Int32), k + c = 3 → q H (x1 + (ten x k).toInt64) → L_X12_amount_60 d q x1 x (Int32.ofNat c) H := by
  have e3 : (3 : Int32) = Int32.ofNat 3 := rfl
  intro k
  induction k with
  | zero =>
    intro c x hc hq
    refine T_X12_amount_60 ?_
    unfold wb_X12_amount_60
    rw [e3, iN_le (by omega) (by omega)]
    exact ⟨fun _ => hq, fun h => by omega⟩
  | succ k ih =>
    intro c x hc hq
    refine T_X12_amount_60 ?_
    unfold wb_X12_amount_60
    rw [e3, iN_le (by omega) (by omega), iN_inc (by omega)]
    exact ⟨fun h => by omega, fun _ => ih (c + 1) (x * 10) (by omega) hq⟩
theorem ten_num {x : Int32} {r : Nat} (h0 : 0 ≤ x.toInt) (h1 : x.toInt.toNat * pw10 r < 1000) (hr : r = 1 ∨ r = 2 ∨ r = 3) : (ten x (3 - r)).toInt = x.toInt.toNat * pw10 r := by
  have e10 : (10 : Int32).toInt = 10 := rfl
  rcases hr with rfl | rfl | rfl
  · have hp : pw10 1 = 100 := rfl
    rw [hp] at h1 ⊢
    have a1 : (x * 10).toInt = x.toInt * 10 := by rw [i32_mulx] <;> rw [e10] <;> omega
    show (x * 10 * 10).toInt = _
    rw [i32_mulx] <;> rw [a1, e10] <;> omega
  · have hp : pw10 2 = 10 := rfl
    rw [hp] at h1 ⊢
    show (x * 10).toInt = _
    rw [i32_mulx] <;> rw [e10] <;> omega
  · have hp : pw10 3 = 1 := rfl
    rw [hp] at h1 ⊢
    show x.toInt = _
    omega
theorem K_amount {d : Nat} {q : HP → Int64 → Prop} {H : HP} {m p : Nat} {T : TP} {f : Int32} (h : MT H m T p f) (hf : f.toInt < 0) (hfig : isFig (lk T p) = true) (h0 : ∀ ff, pAmt T p = .inl ff → ∀ v, q (atM H m ff (Int32.ofNat ff)) v) (h1 : ∀ th p1, pAmt T p = .inr (th, p1) → ∀ v : Int64, v.toInt = th → q (atM H m p1 f) v) : CJ (d + 4) 0 0 mX12_amount [rv (some m)] H q := by
  have hp := h.2.2.2.2.1
  have hT := h.2.2.1
  have r1 := run_in fig0 (T := T) 6 p hp
  have r0 := run_pos (T := T) (n := 6) (by decide) hfig
  have n6 := numb6 (T := T) (p := p)
  have e6 : (6 : Int32) = Int32.ofNat 6 := rfl
  have e3 : (3 : Int32) = Int32.ofNat 3 := rfl
  have c64 : ∀ x : Int32, (x.toInt64).toInt = x.toInt := i64_of32
  have v6 : ((numb T 6 p 0).toInt64 * (1000 : Int64)).toInt = (numb T 6 p 0).toInt * 1000 := by
    rw [i64_mulx] <;> rw [c64, e1000] <;> omega
  refine C_X12_amount ?_
  unfold wb_X12_amount_0
  rw [e6]
  refine ⟨h.1.1, K_figures (d := d) (by decide) h (fun k => by omega) fun _ => ?_⟩
  unfold pAmt at h0 h1
  by_cases c1 : isFig (lk T (p + run isFig T 6 p)) = true
  · rw [if_pos c1] at h0
    rw [if_pos (Or.inr c1)]
    have hA := h.at (p' := p + run isFig T 6 p) (f' := Int32.ofNat (p + run isFig T 6 p)) r1
    rw [hA.2.2.2.2.2.1]
    refine ⟨h.1.1, fun _ => h0 _ rfl _, fun k => absurd ?_ k⟩
    rw [i32_le, i32_0, iN_toInt (by omega)]; omega
  · rw [if_neg c1] at h0 h1
    rw [if_neg (fun k => k.elim (fun k => by omega) c1)]
    have hA := h.at (p' := p + run isFig T 6 p) (f' := f) r1
    rw [hA.2.2.2.2.2.1]
    refine ⟨h.1.1, fun k => absurd k (by rw [i32_le, i32_0]; omega), fun _ => K_here (d := d + 2) hA ⟨fun c2 => ?_, fun c2 => ?_⟩⟩
    · rw [if_pos c2] at h0 h1
      have hlt : p + run isFig T 6 p < T.1 := lk_lt c2 (by decide)
      have r2 := run_in fig0 (T := T) 3 (p + run isFig T 6 p + 1) hlt
      have n3 := numb3 (T := T) (p := p + run isFig T 6 p + 1)
      have r3 := run3 (T := T) (p := p + run isFig T 6 p + 1)
      rw [hA.inc, atM_atM]
      have hB := h.at (p' := p + run isFig T 6 p + 1) (f' := f) hlt
      rw [hB.2.2.2.1, e3]
      refine ⟨h.1.1, K_figures (d := d) (by decide) hB (fun k => by omega) fun _ => ?_⟩
      rw [atM_atM]
      by_cases c3 : run isFig T 3 (p + run isFig T 6 p + 1) = 0 ∨ isFig (lk T (p + run isFig T 6 p + 1 + run isFig T 3 (p + run isFig T 6 p + 1))) = true
      · rw [if_pos c3] at h0
        rw [if_pos c3]
        have hC := h.at (p' := p + run isFig T 6 p + 1 + run isFig T 3 (p + run isFig T 6 p + 1)) (f' := Int32.ofNat (p + run isFig T 6 p + 1 + run isFig T 3 (p + run isFig T 6 p + 1))) r2
        rw [hI_at hC (by omega)]
        have ex : p + run isFig T 6 p + 1 + run isFig T 3 (p + run isFig T 6 p + 1) - (p + run isFig T 6 p + 1) = run isFig T 3 (p + run isFig T 6 p + 1) := by omega
        rw [ex]
        exact ⟨h.1.1, amount_loop (3 - run isFig T 3 (p + run isFig T 6 p + 1)) _ _ (by omega) (h0 _ rfl _)⟩
      · rw [if_neg c3] at h1
        rw [if_neg c3]
        have hC := h.at (p' := p + run isFig T 6 p + 1 + run isFig T 3 (p + run isFig T 6 p + 1)) (f' := f) r2
        rw [hI_at hC (by omega)]
        have ex : p + run isFig T 6 p + 1 + run isFig T 3 (p + run isFig T 6 p + 1) - (p + run isFig T 6 p + 1) = run isFig T 3 (p + run isFig T 6 p + 1) := by omega
        rw [ex]
        refine ⟨h.1.1, amount_loop (3 - run isFig T 3 (p + run isFig T 6 p + 1)) _ _ (by omega) (h1 _ _ rfl _ ?_)⟩
        have hne : run isFig T 3 (p + run isFig T 6 p + 1) ≠ 0 := fun k => c3 (Or.inl k)
        have h3 := n3.2.2 hne
        have et := ten_num n3.1 h3 (by omega)
        have e2 : ((ten (numb T 3 (p + run isFig T 6 p + 1) 0) (3 - run isFig T 3 (p + run isFig T 6 p + 1))).toInt64).toInt = ((numb T 3 (p + run isFig T 6 p + 1) 0).toInt.toNat * pw10 (run isFig T 3 (p + run isFig T 6 p + 1)) : Nat) := by
          rw [c64, et]; rfl
        generalize (numb T 3 (p + run isFig T 6 p + 1) 0).toInt.toNat * pw10 (run isFig T 3 (p + run isFig T 6 p + 1)) = w at h3 e2 ⊢
        rw [i64_addx] <;> rw [v6, e2] <;> omega
    · rw [if_neg c2] at h1
      refine h1 _ _ rfl _ ?_
      rw [v6]; omega
theorem K_unit {d : Nat} {q : HP → Int32 → Prop} {H : HP} {m p n : Nat} {T : TP} {f : Int32} {U : Nat → UV} (h : MT H m T p f) (hf : f.toInt < 0) (hm : MU H m n U) (hok : ∀ i, okU (U i)) (h0 : ∀ ff, pNam T p = .inl ff → q (atM H m ff (Int32.ofNat ff)) (-1)) (h1 : ∀ l, pNam T p = .inr l → q (atM H m (p + l) f) (whoF (fun i => nmEq (U i) T p l) n 0)) : CI (d + 4) 0 0 mX12_unit [rv (some m)] H q := by
  have hp := h.2.2.2.2.1
  have hT := h.2.2.1
  have r1 := run_in let0 (T := T) 4 p hp
  have r4 := run_le (P := isLet) (T := T) 4 p
  refine C_X12_unit ?_
  unfold wb_X12_unit_0
  unfold pNam at h0 h1
  refine ⟨h.1.1, K_letters (d := d) h (fun k => by omega) fun _ => ?_⟩
  by_cases c1 : run isLet T 4 p = 0 ∨ isLet (lk T (p + run isLet T 4 p)) = true
  · rw [if_pos c1] at h0
    rw [if_pos c1]
    have hA := h.at (p' := p + run isLet T 4 p) (f' := Int32.ofNat (p + run isLet T 4 p)) r1
    rw [hA.2.2.2.2.2.1]
    refine ⟨h.1.1, fun _ => h0 _ rfl, fun k => absurd ?_ k⟩
    rw [i32_le, i32_0, iN_toInt (by omega)]; omega
  · rw [if_neg c1] at h1
    rw [if_neg c1]
    have hA := h.at (p' := p + run isLet T 4 p) (f' := f) r1
    rw [hA.2.2.2.2.2.1, h.2.2.2.1]
    refine ⟨h.1.1, fun k => absurd k (by rw [i32_le, i32_0]; omega), fun _ => K_whose (d := d + 1) hA (MU_at hm) (fun i _ => hok i) r4 r1 (h1 _ rfl)⟩
theorem K_isOwn {d : Nat} {q : HP → Bool → Prop} {H : HP} {m p : Nat} {T : TP} {f : Int32} (h : MT H m T p f) (hq : q H (pOwn T p)) : CZ (d + 2) 0 0 mX12_isOwn [rv (some m)] H q := by
  have hp := h.2.2.2.2.1
  have hT := h.2.2.1
  obtain ⟨t1, t2, t3, t4⟩ := mA_tape h.1
  have i1 : ∀ x : Int32, decide ((49 : Int64).toInt ≤ x.toInt64.toInt ∧ x.toInt64.toInt ≤ (52 : Int64).toInt) = isPow x := fun x => by rw [i64_of32]; rfl
  have i2 : ∀ x : Int32, decide ((48 : Int64).toInt ≤ x.toInt64.toInt ∧ x.toInt64.toInt ≤ (57 : Int64).toInt) = isFig x := fun x => by rw [i64_of32]; rfl
  have i3 : ∀ x : Int32, decide ((97 : Int64).toInt ≤ x.toInt64.toInt ∧ x.toInt64.toInt ≤ (122 : Int64).toInt) = isLet x := fun x => by rw [i64_of32]; rfl
  refine C_X12_isOwn ?_
  unfold wb_X12_isOwn_0
  rw [h.2.1, h.2.2.2.1, iN_inc (by omega), iN_le (by omega) (by omega)]
  unfold pOwn at hq
  have key : ∀ x : Int32, x = lk T (p + 1) → (isPow (lk T p) = false → q H false) ∧ (isPow (lk T p) = true → (x = 46 → q H false) ∧ (¬ x = 46 → (isFig x = true → q H false) ∧ (isFig x = false → (isLet x = true → q H false) ∧ (isLet x = false → q H true)))) := fun x hx => by
    rw [← hx] at hq
    refine ⟨fun c => ?_, fun c => ⟨fun c2 => ?_, fun c2 => ⟨fun c3 => ?_, fun c3 => ⟨fun c4 => ?_, fun c4 => ?_⟩⟩⟩⟩
    · rw [c] at hq; exact hq
    · rw [decide_eq_true c2] at hq
      have : (isPow (lk T p) && !isFig x && !isLet x && !true) = false := by
        cases isPow (lk T p) <;> cases isFig x <;> cases isLet x <;> rfl
      rwa [this] at hq
    · rw [c3] at hq
      have : (isPow (lk T p) && !true && !isLet x && !decide (x = 46)) = false := by
        cases isPow (lk T p) <;> rfl
      rwa [this] at hq
    · rw [c4] at hq
      have : (isPow (lk T p) && !isFig x && !true && !decide (x = 46)) = false := by
        cases isPow (lk T p) <;> cases isFig x <;> rfl
      rwa [this] at hq
    · rw [c, c3, c4, decide_eq_false c2] at hq; exact hq
  refine ⟨h.1.1, fun c => K_here (d := d) h (K_isIn ?_), fun c => ⟨m + 15, t1, t2, by rw [t4]; exact vpi_of (by omega) (by decide), K_here (d := d) h (K_isIn ?_)⟩⟩
  · have k0 := key 0 (by rw [lk, if_neg (by omega)])
    rw [i1]
    refine ⟨k0.1, fun c1 => ⟨fun c2 => absurd c2 (by decide), fun c2 => K_isIn ?_⟩⟩
    rw [i2]
    refine ⟨(k0.2 c1).2 c2 |>.1, fun c3 => K_isIn ?_⟩
    rw [i3]
    exact ((k0.2 c1).2 c2).2 c3
  · have hlt : p + 1 < T.1 := by omega
    have ex : hI H 4864 (m + 15) (p + 1) = lk T (p + 1) := by
      rw [(h.2.2.2.2.2.2 _ hlt).1, lk, if_pos hlt]
    rw [t3, iN_cl (by omega), ex, i1]
    have k0 := key _ rfl
    refine ⟨k0.1, fun c1 => ⟨(k0.2 c1).1, fun c2 => K_isIn ?_⟩⟩
    rw [i2]
    refine ⟨(k0.2 c1).2 c2 |>.1, fun c3 => K_isIn ?_⟩
    rw [i3]
    exact ((k0.2 c1).2 c2).2 c3
