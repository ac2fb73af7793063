
theorem whose_inner {d : Nat} {q : HP → Int32 → Prop} {H : HP} {m p fr many i : Nat} {T : TP} {f : Int32} {u : UV} (h : MT H m T p f) (hi : i < 20) (hu : MUn H m i u) (hlen : u.1.1 = many) (h4 : many ≤ 4) (hfr : fr + many ≤ T.1) (h1 : (∀ x, x < many → T.2 (fr + x) = u.1.2 x) → q H (Int32.ofNat i)) (h0 : ¬ (∀ x, x < many → T.2 (fr + x) = u.1.2 x) → L_X12_whose_2 d q m (Int32.ofNat fr) (Int32.ofNat many) (Int32.ofNat (i + 1)) H) : ∀ (k j : Nat), k + j = many → (∀ x, x < j → T.2 (fr + x) = u.1.2 x) → L_X12_whose_29 d q m (Int32.ofNat fr) (Int32.ofNat many) (Int32.ofNat i) 1 (Int32.ofNat j) H := by
  obtain ⟨a1, a2, a3, a4⟩ := mA_name h.1
  obtain ⟨b1, b2, b3, b4⟩ := mA_tape h.1
  have ht := h.2.2.2.2.2.2
  have hT := h.2.2.1
  have n10 : ¬ (1 : Int32) = 0 := by decide
  have inc : Int32.ofNat i + 1 = Int32.ofNat (i + 1) := iN_inc (by omega)
  -- once it differs it stays so
  have no : ¬ (∀ x, x < many → T.2 (fr + x) = u.1.2 x) → ∀ j, j ≤ many → L_X12_whose_29 d q m (Int32.ofNat fr) (Int32.ofNat many) (Int32.ofNat i) 0 (Int32.ofNat j) H := by
    intro hn j hj
    refine T_X12_whose_29 ?_
    unfold wb_X12_whose_29
    rw [iN_le (by omega) (by omega), inc]
    exact ⟨fun _ => ⟨fun _ => h0 hn, fun k => absurd rfl k⟩, fun _ => ⟨fun _ => ⟨fun _ => h0 hn, fun k => absurd rfl k⟩, fun k => absurd rfl k⟩⟩
  intro k
  induction k with
  | zero =>
    intro j hj hq
    have : j = many := by omega
    subst this
    refine T_X12_whose_29 ?_
    unfold wb_X12_whose_29
    rw [iN_le (by omega) (by omega)]
    exact ⟨fun _ => ⟨fun k => absurd k n10, fun _ => h1 hq⟩, fun k => absurd (Nat.le_refl _) k⟩
  | succ k ih =>
    intro j hj hq
    refine T_X12_whose_29 ?_
    unfold wb_X12_whose_29
    rw [iN_le (by omega) (by omega), ix4 (by omega), iN_add (by omega)]
    refine ⟨fun k => by omega, fun _ => ⟨fun k => absurd k n10, fun _ => ⟨h.1.1, m + 1, a1, a2, ?_, m + 15, b1, b2, ?_, ?_⟩⟩⟩
    · rw [a4]; exact vpi_of (by omega) (by omega)
    · rw [b4]; exact vpi_of (by omega) (by omega)
    · rw [a3, b3, iN_cl (by omega), iN_cl (by omega), hu.1 j (by omega), (ht (fr + j) (by omega)).1, iN_inc (by omega)]
      refine ⟨fun e => no (fun k => e (k j (by omega)).symm) (j + 1) (by omega), fun e => ih (j + 1) (by omega) fun x hx => ?_⟩
      by_cases ex : x = j
      · rw [ex]; exact e.symm
      · exact hq x (by omega)
theorem whose_loop {d : Nat} {q : HP → Int32 → Prop} {H : HP} {m p fr many n : Nat} {T : TP} {f : Int32} {U : Nat → UV} (h : MT H m T p f) (hm : MU H m n U) (hok : ∀ i, i < n → okU (U i)) (h4 : many ≤ 4) (hfr : fr + many ≤ T.1) : ∀ (k i : Nat), k + i = n → q H (whoF (fun i => nmEq (U i) T fr many) k i) → L_X12_whose_2 (d + 1) q m (Int32.ofNat fr) (Int32.ofNat many) (Int32.ofNat i) H := by
  obtain ⟨sm, c2, c3, c4⟩ := id hm
  have hT := h.2.2.1
  intro k
  induction k with
  | zero =>
    intro i hi hq
    refine T_X12_whose_2 ?_
    unfold wb_X12_whose_2
    rw [c2, iN_le (by omega) (by omega)]
    exact ⟨sm.1, fun _ => hq, fun h => by omega⟩
  | succ k ih =>
    intro i hi hq
    have ok := hok i (by omega)
    refine T_X12_whose_2 ?_
    unfold wb_X12_whose_2
    rw [c2, iN_le (by omega) (by omega)]
    refine ⟨sm.1, fun h => by omega, fun _ => K_lettersOf sm (by omega) (c4 i (by omega)) ok ?_⟩
    have hlt := ok.2.1
    rw [iN_eq (by omega) (by omega)]
    refine ⟨fun hne => ?_, fun he => ?_⟩
    · have hf : nmEq (U i) T fr many = false := by unfold nmEq; exact decide_eq_false fun k => hne k.1
      rw [whoF, if_neg (by rw [hf]; decide)] at hq
      have nx := ih (i + 1) (by omega) hq
      have inc : Int32.ofNat i + 1 = Int32.ofNat (i + 1) := iN_inc (by omega)
      refine T_X12_whose_29 ?_
      unfold wb_X12_whose_29
      rw [inc]
      exact ⟨fun _ => ⟨fun _ => nx, fun k => absurd rfl k⟩, fun _ => ⟨fun _ => ⟨fun _ => nx, fun k => absurd rfl k⟩, fun k => absurd rfl k⟩⟩
    · refine whose_inner h (by omega) (c4 i (by omega)) he h4 hfr (fun hall => ?_) (fun hn => ?_) many 0 (by omega) (fun x hx => by omega)
      · have hf : nmEq (U i) T fr many = true := by unfold nmEq; exact decide_eq_true ⟨he, hall⟩
        rwa [whoF, if_pos hf] at hq
      · have hf : nmEq (U i) T fr many = false := by unfold nmEq; exact decide_eq_false fun k => hn k.2
        rw [whoF, if_neg (by rw [hf]; decide)] at hq
        exact ih (i + 1) (by omega) hq
theorem K_whose {d : Nat} {q : HP → Int32 → Prop} {H : HP} {m p fr many n : Nat} {T : TP} {f : Int32} {U : Nat → UV} (h : MT H m T p f) (hm : MU H m n U) (hok : ∀ i, i < n → okU (U i)) (h4 : many ≤ 4) (hfr : fr + many ≤ T.1) (hq : q H (whoF (fun i => nmEq (U i) T fr many) n 0)) : CI (d + 2) 0 0 mX12_whose [rv (some m), .int (Int32.ofNat fr), .int (Int32.ofNat many)] H q := by
  refine C_X12_whose ?_
  unfold wb_X12_whose_0
  exact whose_loop h hm hok h4 hfr n 0 rfl hq
/-- what a search has found -/
theorem whoF_cases {P : Nat → Bool} : ∀ (k i : Nat), whoF P k i = -1 ∨ ∃ j, i ≤ j ∧ j < i + k ∧ whoF P k i = Int32.ofNat j ∧ P j = true := by
  intro k
  induction k with
  | zero => intro i; exact Or.inl rfl
  | succ k ih =>
    intro i
    rw [whoF]
    split
    · rename_i h
      exact Or.inr ⟨i, Nat.le_refl _, by omega, rfl, h⟩
    · rcases ih (i + 1) with h | ⟨j, h1, h2, h3, h4⟩
      · exact Or.inl h
      · exact Or.inr ⟨j, by omega, by omega, h3, h4⟩
theorem mnear_loop {d : Nat} {q : HP → Int32 → Prop} {H : HP} {m n x : Nat} {U : Nat → UV} (hm : MU H m n U) (hok : ∀ i, i < n → okU (U i)) (hx : x < n) (hf : 0 < (hL H 1320 m 0).toInt) (hf0 : 0 ≤ (hL H 1319 m 0).toInt) : ∀ (k i : Nat) (o : Option Nat), k + i = n → (∀ j, o = some j → j < n) → q H (nbI (nearF (nearP U (U x) (getM H m)) (nearB U) k i o)) → L_X12_nearest_91 (d + 2) q m (Int32.ofNat x) (nbI o) (Int32.ofNat i) H := by
  obtain ⟨sm, c2, c3, c4⟩ := id hm
  obtain ⟨a1, a2, a3, a4⟩ := mA_factorUp sm
  obtain ⟨b1, b2, b3, b4⟩ := mA_factorLow sm
  intro k
  induction k with
  | zero =>
    intro i o hi ho hq
    refine T_X12_nearest_91 ?_
    unfold wb_X12_nearest_91
    rw [c2, iN_le (by omega) (by omega)]
    exact ⟨sm.1, fun _ => hq, fun h => by omega⟩
  | succ k ih =>
    intro i o hi ho hq
    have hu := c4 i (by omega)
    have ok := hok i (by omega)
    refine T_X12_nearest_91 ?_
    unfold wb_X12_nearest_91
    rw [c2, iN_le (by omega) (by omega), iN_inc (by omega)]
    refine ⟨sm.1, fun h => by omega, fun _ => K_areLike sm (by omega) (by omega) hu (c4 x hx) ⟨fun e => ?_, fun e => ⟨sm.1, m + 3, a1, a2, ?_, m + 4, b1, b2, ?_, ?_⟩⟩⟩
    · refine ih (i + 1) o (by omega) ho ?_
      have : nearP U (U x) (getM H m) i = false := by unfold nearP; rw [e]; rfl
      rw [nearF, betF_0 this] at hq
      exact hq
    · rw [a4]; exact vpi_of (by omega) (by omega)
    · rw [b4]; exact vpi_of (by omega) (by omega)
    · rw [a3, b3, iN_cl (by omega), hu.2.2.2.1, hu.2.2.2.2.1]
      refine K_isLess hf0 hf (Int.le_of_lt ok.2.2.2.2.2.1) ok.2.2.2.2.1.1 ⟨fun hl => ?_, fun hl => ?_⟩
      · have hP : nearP U (U x) (getM H m) i = true := by unfold nearP; rw [e, hl]; rfl
        refine ⟨fun hb => ?_, fun hb => ?_⟩
        · have ho' : o = none := by
            cases o with
            | none => rfl
            | some j =>
              have := ho j rfl
              have hb : Int32.ofNat j < 0 := hb
              rw [i32_lt, iN_toInt (by omega), i32_0] at hb
              omega
          subst ho'
          rw [nearF, betF_n hP] at hq
          exact ih (i + 1) (some i) (by omega) (fun j hj => by cases hj; omega) hq
        · cases o with
          | none => exact absurd (by decide) hb
          | some j =>
            have hj := ho j rfl
            have ej : nbI (some j) = Int32.ofNat j := rfl
            rw [ej]
            rw [nearF, betF_s hP] at hq
            refine ⟨sm.1, K_isLesser sm (by omega) (by omega) (c4 j hj) hu (hok j hj) ok ⟨fun hx' => ?_, fun hx' => ?_⟩⟩
            · have hB : nearB U i j = false := hx'
              rw [hB, if_neg (by decide)] at hq
              exact ih (i + 1) (some j) (by omega) ho hq
            · have hB : nearB U i j = true := hx'
              rw [if_pos hB] at hq
              exact ih (i + 1) (some i) (by omega) (fun j hj => by cases hj; omega) hq
      · refine ih (i + 1) o (by omega) ho ?_
        have : nearP U (U x) (getM H m) i = false := by unfold nearP; rw [hl]; simp
        rw [nearF, betF_0 this] at hq
        exact hq
