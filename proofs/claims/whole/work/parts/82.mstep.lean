
/-! ===== the reference: a step comes ===== -/
abbrev ClrS (m : Nat) : Nat → Nat → Prop := fun g a => (g = 4944 ∧ a = m + 20) ∨ (g = 1321 ∧ a = m)
theorem clears_loop {d : Nat} {q : HP → Prop} {H0 : HP} {m : Nat} (sm : shM H0 m) (hq : ∀ H', Fr (ClrS m) H0 H' → MS H' m (fun _ => 0) → hI H' 1321 m 0 = 0 → q H') : ∀ (k i : Nat) (H : HP), k + i = 5 → Fr (ClrS m) H0 H → (∀ j, j < i → hI H 4944 (m + 20) j = 0) → L_X12_clears_2 d q m (Int32.ofNat i) H := by
  have e5 : (5 : Int32) = Int32.ofNat 5 := rfl
  intro k
  induction k with
  | zero =>
    intro i H hi hF hj
    refine T_X12_clears_2 ?_
    unfold wb_X12_clears_2
    rw [e5, iN_le (by omega) (by omega)]
    refine ⟨fun _ => ⟨by rw [fr_tg hF]; exact sm.1, hq _ (hF.tr (Fr_sI (Or.inr ⟨rfl, rfl⟩))) (fun j k => ?_) ?_⟩, fun h => by omega⟩
    · rw [hIs_g _ _ _ _ _ _ (by decide)]; exact hj j (by omega)
    · rw [hIs_i, if_pos rfl]
  | succ k ih =>
    intro i H hi hF hj
    obtain ⟨a1, a2, a3, a4⟩ := mA_sum (fr_shM hF sm)
    refine T_X12_clears_2 ?_
    unfold wb_X12_clears_2
    rw [e5, iN_le (by omega) (by omega), iN_cl (by omega), iN_inc (by omega)]
    refine ⟨fun h => by omega, fun _ => ⟨by rw [fr_tg hF]; exact sm.1, m + 20, a1, a2, by rw [a4]; exact vpi_of (by omega) (by decide), ?_⟩⟩
    rw [a3]
    refine ih (i + 1) _ (by omega) (hF.tr (Fr_sI (Or.inl ⟨rfl, rfl⟩))) fun j hj' => ?_
    rw [hIs_i]
    by_cases e : j = i
    · rw [if_pos e]
    · rw [if_neg e]; exact hj j (by omega)
theorem K_clears {d : Nat} {q : HP → Prop} {H : HP} {m : Nat} (sm : shM H m) (hq : ∀ H', Fr (ClrS m) H H' → MS H' m (fun _ => 0) → hI H' 1321 m 0 = 0 → q H') : CV (d + 1) 0 0 mX12_clears [rv (some m)] H q := by
  refine C_X12_clears ?_
  unfold wb_X12_clears_0
  exact clears_loop sm hq 5 0 H rfl Fr.rf fun j hj => by omega
theorem K_ends {d : Nat} {q : HP → Int32 → Prop} {H : HP} {m : Nat} {w : Int32} (ht : tg H m = 13) (hq : q (sI H 1342 m 0 w) (-1)) : CI (d + 1) 0 0 mX12_ends [rv (some m), .int w] H q := by
  refine C_X12_ends ?_
  unfold wb_X12_ends_0
  exact ⟨ht, hq⟩
theorem K_goesOn {d : Nat} {q : HP → Bool → Prop} {H : HP} {m : Nat} {b : Bool} {w : Int32} (ht : tg H m = 13) (h1 : hI H 1338 m 0 = bI b) (h2 : hI H 1342 m 0 = w) (hq : q H (b && decide (w = 0))) : CZ (d + 1) 0 0 mX12_goesOn [rv (some m)] H q := by
  refine C_X12_goesOn ?_
  unfold wb_X12_goesOn_0
  rw [h1, h2]
  refine ⟨ht, fun c => ?_, fun c => ⟨fun c2 => ?_, fun c2 => ?_⟩⟩
  · cases b with
    | true => exact absurd c (by decide)
    | false => exact hq
  · cases b with
    | true => rw [decide_eq_false c2] at hq; exact hq
    | false => exact absurd rfl c
  · cases b with
    | true => rw [decide_eq_true c2] at hq; exact hq
    | false => exact absurd rfl c
/-- a row of the reference's proof -/
def MJR (H : HP) (m i : Nat) (k : Nat) (v : JV) : Prop := hI H 4960 (m + 21) i = Int32.ofNat k ∧ (∀ j, j < 5 → hI H 4976 (m + 22) (5 * i + j) = v.1 j) ∧ hL H 4995 (m + 23) i = v.2.1 ∧ hL H 5011 (m + 24) i = v.2.2
abbrev StS (m : Nat) : Nat → Nat → Prop := fun g a => (g = 4960 ∧ a = m + 21) ∨ (g = 4976 ∧ a = m + 22) ∨ (g = 4995 ∧ a = m + 23) ∨ (g = 5011 ∧ a = m + 24) ∨ (g = 1341 ∧ a = m)
theorem stepComes_loop {d : Nat} {q : HP → Int32 → Prop} {H0 : HP} {m n k : Nat} {P : Nat → Int32} {f : FR} (sm : shM H0 m) (hn : n < 64) (hP : MS H0 m P) (hf : getM H0 m = f) (h1 : hI H0 1341 m 0 = Int32.ofNat n) (hq : ∀ H', Fr (StS m) H0 H' → hI H' 1341 m 0 = Int32.ofNat (n + 1) → (∀ i, i < n → ∀ k v, MJR H0 m i k v → MJR H' m i k v) → MJR H' m n k (P, f) → q H' (Int32.ofNat n)) : ∀ (c i : Nat) (H : HP), c + i = 5 → Fr (StS m) H0 H → hI H 1341 m 0 = Int32.ofNat n → hI H 4960 (m + 21) n = Int32.ofNat k → (∀ x, x ≠ n → hI H 4960 (m + 21) x = hI H0 4960 (m + 21) x) → (∀ x, x < 5 * n → hI H 4976 (m + 22) x = hI H0 4976 (m + 22) x) → (∀ j, j < i → hI H 4976 (m + 22) (5 * n + j) = P j) → (hL H = hL H0) → L_X12_stepComes_12 d q m (Int32.ofNat i) H := by
  have e5 : (5 : Int32) = Int32.ofNat 5 := rfl
  intro c
  induction c with
  | zero =>
    intro i H hi hF hs hk hko hdo hd hl
    obtain ⟨a1, a2, a3, a4⟩ := mA_valueUp (fr_shM hF sm)
    obtain ⟨b1, b2, b3, b4⟩ := mA_valueLow (fr_shM hF sm)
    have ht : tg H m = 13 := by rw [fr_tg hF]; exact sm.1
    refine T_X12_stepComes_12 ?_
    unfold wb_X12_stepComes_12
    rw [e5, iN_le (by omega) (by omega), hs, iN_cl (by omega)]
    refine ⟨fun _ => ⟨ht, m + 23, a1, a2, by rw [a4]; exact vpi_of (by omega) (by decide), m + 24, b1, b2, ?_, fun H8 e8 => ?_⟩, fun h => by omega⟩
    · show vp_in (hI H 1341 m 0) (ln H (m + 24))
      rw [hs, b4]; exact vpi_of (by omega) (by decide)
    · have g1 : hI (sL H (tg H (m + 23)) (m + 23) n (hL H 1319 m 0)) 1341 m 0 = Int32.ofNat n := hs
      have g2 : tg (sL H (tg H (m + 23)) (m + 23) n (hL H 1319 m 0)) (m + 24) = 5011 := b3
      have g3 : hL (sL H (tg H (m + 23)) (m + 23) n (hL H 1319 m 0)) 1320 m 0 = hL H 1320 m 0 := by
        rw [a3, hL_sL, u3_g _ _ _ _ _ _ (by decide)]
      rw [g1, g2, g3, a3, iN_cl (by omega), hl] at e8
      have ef1 : hL H0 1319 m 0 = f.1 := congrArg Prod.fst hf
      have ef2 : hL H0 1320 m 0 = f.2 := congrArg Prod.snd hf
      rw [ef1, ef2] at e8
      have F8 : Fr (StS m) H H8 := by
        rw [← e8]
        exact (Fr_sL (Or.inr (Or.inr (Or.inl ⟨rfl, rfl⟩)))).tr (Fr_sL (Or.inr (Or.inr (Or.inr (Or.inl ⟨rfl, rfl⟩)))))
      have i8 : hI H8 = hI H := by rw [← e8]; rfl
      have u8 : ∀ x, hL H8 4995 (m + 23) x = if x = n then f.1 else hL H0 4995 (m + 23) x := fun x => by
        rw [← e8, hL_sL, u3_g _ _ _ _ _ _ (by decide), hL_sL, u3_get, hl]
        by_cases e : x = n
        · rw [if_pos ⟨rfl, rfl, e⟩, if_pos e]
        · rw [if_neg (fun k => e k.2.2), if_neg e]
      have w8 : ∀ x, hL H8 5011 (m + 24) x = if x = n then f.2 else hL H0 5011 (m + 24) x := fun x => by
        rw [← e8, hL_sL, u3_get, hL_sL]
        by_cases e : x = n
        · rw [if_pos ⟨rfl, rfl, e⟩, if_pos e]
        · rw [if_neg (fun k => e k.2.2), if_neg e, u3_g _ _ _ _ _ _ (by decide), hl]
      have s8 : hI H8 1341 m 0 = Int32.ofNat n := by rw [i8]; exact hs
      have F9 : Fr (StS m) H8 (sI H8 1341 m 0 (Int32.ofNat (n + 1))) := Fr_sI (Or.inr (Or.inr (Or.inr (Or.inr ⟨rfl, rfl⟩))))
      rw [s8, iN_inc (by omega)]
      have e9 : hI (sI H8 1341 m 0 (Int32.ofNat (n + 1))) 1341 m 0 - (1 : Int32) = Int32.ofNat n := by
        rw [hIs_i, if_pos rfl]
        refine i32_ext ?_
        rw [i32_subx] <;> rw [iN_toInt (by omega), i32_1]
        · rw [iN_toInt (by omega)]; omega
        · omega
        · omega
      rw [e9]
      refine hq _ (hF.tr (F8.tr F9)) (by rw [hIs_i, if_pos rfl]) (fun x hx k' v hv => ?_) ?_
      · obtain ⟨v1, v2, v3, v4⟩ := hv
        refine ⟨?_, fun j hj => ?_, ?_, ?_⟩
        · rw [hIs_g _ _ _ _ _ _ (by decide), i8, hko x (by omega)]; exact v1
        · rw [hIs_g _ _ _ _ _ _ (by decide), i8, hdo _ (by omega)]; exact v2 j hj
        · show hL H8 4995 (m + 23) x = _
          rw [u8, if_neg (by omega)]; exact v3
        · show hL H8 5011 (m + 24) x = _
          rw [w8, if_neg (by omega)]; exact v4
      · refine ⟨?_, fun j hj => ?_, ?_, ?_⟩
        · rw [hIs_g _ _ _ _ _ _ (by decide), i8]; exact hk
        · rw [hIs_g _ _ _ _ _ _ (by decide), i8]; exact hd j (by omega)
        · show hL H8 4995 (m + 23) n = _
          rw [u8, if_pos rfl]
        · show hL H8 5011 (m + 24) n = _
          rw [w8, if_pos rfl]
  | succ c ih =>
    intro i H hi hF hs hk hko hdo hd hl
    obtain ⟨a1, a2, a3, a4⟩ := mA_sum (fr_shM hF sm)
    obtain ⟨b1, b2, b3, b4⟩ := mA_dimension (fr_shM hF sm)
    have ht : tg H m = 13 := by rw [fr_tg hF]; exact sm.1
    refine T_X12_stepComes_12 ?_
    unfold wb_X12_stepComes_12
    rw [hs, ix5 (by omega), e5, iN_le (by omega) (by omega), iN_cl (by omega), iN_cl (by omega), iN_inc (by omega)]
    refine ⟨fun h => by omega, fun _ => ⟨ht, m + 20, a1, a2, by rw [a4]; exact vpi_of (by omega) (by decide), m + 22, b1, b2, by rw [b4]; exact vpi_of (by omega) (by decide), ?_⟩⟩
    have es : hI H 4944 (m + 20) i = P i := by rw [hF.2.2.2.2.1 _ _ (fun k => by omega)]; exact hP i (by omega)
    rw [a3, b3, iN_cl (by omega), es]
    refine ih (i + 1) _ (by omega) (hF.tr (Fr_sI (Or.inr (Or.inl ⟨rfl, rfl⟩)))) ?_ ?_ (fun x hx => ?_) (fun x hx => ?_) (fun j hj => ?_) hl
    · rw [hIs_g _ _ _ _ _ _ (by decide)]; exact hs
    · rw [hIs_g _ _ _ _ _ _ (by decide)]; exact hk
    · rw [hIs_g _ _ _ _ _ _ (by decide)]; exact hko x hx
    · rw [hIs_i, if_neg (by omega)]; exact hdo x hx
    · rw [hIs_i]
      by_cases e : j = i
      · rw [if_pos (by omega), e]
      · rw [if_neg (by omega)]; exact hd j (by omega)
theorem K_stepComes {d : Nat} {q : HP → Int32 → Prop} {H : HP} {m n k : Nat} {P : Nat → Int32} {f : FR} (sm : shM H m) (hn : n < 64) (hP : MS H m P) (hf : getM H m = f) (h1 : hI H 1341 m 0 = Int32.ofNat n) (hq : ∀ H', Fr (StS m) H H' → hI H' 1341 m 0 = Int32.ofNat (n + 1) → (∀ i, i < n → ∀ k v, MJR H m i k v → MJR H' m i k v) → MJR H' m n k (P, f) → q H' (Int32.ofNat n)) : CI (d + 1) 0 0 mX12_stepComes [rv (some m), .int (Int32.ofNat k)] H q := by
  obtain ⟨a1, a2, a3, a4⟩ := mA_kind sm
  refine C_X12_stepComes ?_
  unfold wb_X12_stepComes_0
  rw [h1, iN_cl (by omega)]
  refine ⟨sm.1, m + 21, a1, a2, by rw [a4]; exact vpi_of (by omega) (by decide), ?_⟩
  rw [a3]
  have e0 : (0 : Int32) = Int32.ofNat 0 := rfl
  rw [e0]
  refine stepComes_loop sm hn hP hf h1 hq 5 0 _ rfl (Fr_sI (Or.inl ⟨rfl, rfl⟩)) ?_ ?_ (fun x hx => ?_) (fun x hx => ?_) (fun j hj => by omega) rfl
  · rw [hIs_g _ _ _ _ _ _ (by decide)]; exact h1
  · rw [hIs_i, if_pos rfl]
  · rw [hIs_i, if_neg hx]
  · rw [hIs_g _ _ _ _ _ _ (by decide)]
