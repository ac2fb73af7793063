
/-! ===== feed, find, drop on both sides ===== -/
abbrev fedB (x : Int32) : Prop := 1 ≤ x.toInt ∧ x.toInt ≤ 127
def feedT (T : TP) (x : Int32) : TP := if fedB x ∧ T.1 < 60 then addT T x else T
def feedA (T : TP) (x : Int32) : Int32 := if fedB x then (if T.1 < 60 then Int32.ofNat (T.1 + 1) else -4) else -2
abbrev TfS : Nat → Nat → Prop := fun g y => (g = 801 ∧ y = 1) ∨ (g = 4145 ∧ y = 2)
theorem K_cfeed {d : Nat} {q : HP → Int32 → Prop} {H : HP} {T : TP} {x : Int32} (s : shP H) (hc : CT H 1 T 0) (hq : ∀ H', Fr TfS H H' → CT H' 1 (feedT T x) 0 → q H' (feedA T x)) : CI (d + 2) 0 0 mX11_feed [rv (some 0), .int x] H q := by
  obtain ⟨s1, s2, -⟩ := id s
  refine C_X11_feed ?_
  unfold wb_X11_feed_0
  have e127 : (127 : Int32).toInt = 127 := rfl
  rw [i32_lt, i32_le, i32_1, e127, s2]
  unfold feedT feedA at hq
  refine ⟨fun h => ?_, fun h => ⟨fun h2 => ⟨s1, 1, rfl, hc.1.1, K_tappend (d := d) hc (by omega) h2 (fun hl H' F' c' => ⟨fun k => (by cases k), fun _ => ⟨by rw [fr_tg F']; exact s1, 1, by rw [F'.2.1]; exact s2, c'.1.1, ?_⟩⟩) (fun h60 => ⟨fun _ => ?_, fun k => (by cases k)⟩)⟩, fun h2 => ?_⟩⟩
  · have := hq H Fr.rf
    rw [if_neg (fun k => by omega), if_neg (fun k => by omega)] at this
    exact this hc
  · have := hq H' F'
    rw [if_pos ⟨⟨by omega, h2⟩, hl⟩, if_pos ⟨by omega, h2⟩, if_pos hl] at this
    rw [c'.2.1]; exact this c'
  · have := hq H Fr.rf
    rw [if_neg (fun k => by omega), if_pos ⟨by omega, h2⟩, if_neg (by omega)] at this
    exact this hc
  · have := hq H Fr.rf
    rw [if_neg (fun k => by omega), if_neg (fun k => by omega)] at this
    exact this hc
theorem K_mfeed {d m : Nat} {q : HP → Int32 → Prop} {H : HP} {T : TP} {x : Int32} (hT : MT0 H m T) (hq : ∀ H', Fr (fun g y => (g = 1323 ∧ y = m) ∨ (g = 4864 ∧ y = m + 15)) H H' → MT0 H' m (feedT T x) → q H' (feedA T x)) : CI (d + 2) 0 0 mX12_feed [rv (some m), .int x] H q := by
  obtain ⟨sm, t1, t2, t3⟩ := id hT
  obtain ⟨a1, a2, a3, a4⟩ := mA_tape sm
  refine C_X12_feed ?_
  unfold wb_X12_feed_0
  have e1 : (1 : Int64).toInt = 1 := rfl
  have e127 : (127 : Int64).toInt = 127 := rfl
  unfold feedT feedA at hq
  refine K_isIn (d := d) ?_
  rw [i64_of32, e1, e127, t1]
  have e60 : (60 : Int32) = Int32.ofNat 60 := rfl
  rw [e60, iN_eq (by omega) (by omega)]
  refine ⟨fun hb => ⟨sm.1, fun hl => ⟨m + 15, a1, a2, by rw [a4]; exact vpi_of (by omega) (by decide), ?_⟩, fun hl => ?_⟩, fun hb => ?_⟩
  · have hb : fedB x := of_decide_eq_true hb
    have hl : T.1 < 60 := by omega
    rw [a3, iN_cl (by omega)]
    have F1 : Fr (fun g y => (g = 1323 ∧ y = m) ∨ (g = 4864 ∧ y = m + 15)) H (sI H 4864 (m + 15) T.1 x) := Fr_sI (Or.inr ⟨rfl, rfl⟩)
    have r1 : ∀ i, hI (sI H 4864 (m + 15) T.1 x) 4864 (m + 15) i = if i = T.1 then x else hI H 4864 (m + 15) i := fun i => hIs_i _ _ _ _ _ _
    have r2 : hI (sI H 4864 (m + 15) T.1 x) 1323 m 0 = Int32.ofNat T.1 := by rw [hIs_g _ _ _ _ _ _ (by decide)]; exact t1
    generalize sI H 4864 (m + 15) T.1 x = A at F1 r1 r2 ⊢
    rw [r2, iN_inc (by omega)]
    have F2 : Fr (fun g y => (g = 1323 ∧ y = m) ∨ (g = 4864 ∧ y = m + 15)) A (sI A 1323 m 0 (Int32.ofNat (T.1 + 1))) := Fr_sI (Or.inl ⟨rfl, rfl⟩)
    have r3 : hI (sI A 1323 m 0 (Int32.ofNat (T.1 + 1))) 1323 m 0 = Int32.ofNat (T.1 + 1) := by rw [hIs_i, if_pos rfl]
    have r4 : ∀ i, hI (sI A 1323 m 0 (Int32.ofNat (T.1 + 1))) 4864 (m + 15) i = if i = T.1 then x else hI H 4864 (m + 15) i := fun i => by rw [hIs_g _ _ _ _ _ _ (by decide)]; exact r1 i
    generalize sI A 1323 m 0 (Int32.ofNat (T.1 + 1)) = B at F2 r3 r4 ⊢
    have FB := F1.tr F2
    have := hq B FB
    rw [if_pos ⟨hb, hl⟩, if_pos hb, if_pos hl] at this
    rw [r3]
    refine this ⟨fr_shM FB sm, r3, hl, fun i hi => ?_⟩
    have hi : i < T.1 + 1 := hi
    rw [r4]
    show (if i = T.1 then x else hI H 4864 (m + 15) i) = (if i = T.1 then x else T.2 i) ∧ 1 ≤ (if i = T.1 then x else T.2 i).toInt ∧ (if i = T.1 then x else T.2 i).toInt ≤ 127
    by_cases e : i = T.1
    · rw [if_pos e, if_pos e]; exact ⟨rfl, hb.1, hb.2⟩
    · rw [if_neg e, if_neg e]; exact t3 i (by omega)
  · have hb : fedB x := of_decide_eq_true hb
    have := hq H Fr.rf
    rw [if_neg (fun k => by omega), if_pos hb, if_neg (by omega)] at this
    exact this hT
  · have hb := of_decide_eq_false hb
    have := hq H Fr.rf
    rw [if_neg (fun k => hb k.1), if_neg hb] at this
    exact this hT
def findA (T : TP) (n : Nat) (U : Nat → UV) : Int32 := if 0 ≤ (whoF (fun i => nmEq (U i) T 0 T.1) n 0).toInt then whoF (fun i => nmEq (U i) T 0 T.1) n 0 else -5
theorem whoF_off {T : TP} {n : Nat} {U : Nat → UV} (hok : ∀ i, okU (U i)) (h : ¬ (1 ≤ T.1 ∧ T.1 ≤ 4)) : whoF (fun i => nmEq (U i) T 0 T.1) n 0 = -1 := by
  rcases whoF_cases (P := fun i => nmEq (U i) T 0 T.1) n 0 with k | ⟨j, -, -, -, k⟩
  · exact k
  · have k : nmEq (U j) T 0 T.1 = true := k
    unfold nmEq at k
    have k := (of_decide_eq_true k).1
    have := (hok j).1
    have := (hok j).2.1
    omega
theorem K_cfind {d n : Nat} {q : HP → Int32 → Prop} {H : HP} {T : TP} {U : Nat → UV} (s : shP H) (hc : CT H 1 T 0) (hu : CU H 3 n U) (hok : ∀ i, okU (U i)) (hq : ∀ H', Fr (fun g x => (g = 801 ∨ g = 802) ∧ x = 1) H H' → CT H' 1 (0, T.2) 0 → q H' (findA T n U)) : CI (d + 4) 0 0 mX11_find [rv (some 0)] H q := by
  obtain ⟨s1, s2, s3, -⟩ := id s
  refine C_X11_find ?_
  unfold wb_X11_find_0
  rw [s2, s3]
  have e0 : (0 : Int32) = Int32.ofNat 0 := rfl
  refine ⟨s1, 1, rfl, hc.1.1, 3, rfl, hu.1.1, ?_⟩
  rw [hc.2.1, e0]
  refine K_numberOf (d := d) hc hu (fun i _ => hok i) (by omega) ?_
  refine ⟨s1, 1, s2, hc.1.1, ?_⟩
  rw [s2]
  refine K_tclear (d := d + 2) hc fun H' F' c' => ?_
  have := hq H' F' c'
  unfold findA at this
  rw [← e0, i32_le, i32_0]
  refine ⟨fun h => ?_, fun h => ?_⟩
  · rw [if_pos h] at this; exact this
  · rw [if_neg h] at this; exact this
theorem whose_inner0 {d : Nat} {q : HP → Int32 → Prop} {H : HP} {m fr many i : Nat} {T : TP} {u : UV} (h : MT0 H m T) (hi : i < 20) (hu : MUn H m i u) (hlen : u.1.1 = many) (h4 : many ≤ 4) (hfr : fr + many ≤ T.1) (h1 : (∀ x, x < many → T.2 (fr + x) = u.1.2 x) → q H (Int32.ofNat i)) (h0 : ¬ (∀ x, x < many → T.2 (fr + x) = u.1.2 x) → L_X12_whose_2 d q m (Int32.ofNat fr) (Int32.ofNat many) (Int32.ofNat (i + 1)) H) : ∀ (k j : Nat), k + j = many → (∀ x, x < j → T.2 (fr + x) = u.1.2 x) → L_X12_whose_29 d q m (Int32.ofNat fr) (Int32.ofNat many) (Int32.ofNat i) 1 (Int32.ofNat j) H := by
  obtain ⟨a1, a2, a3, a4⟩ := mA_name h.1
  obtain ⟨b1, b2, b3, b4⟩ := mA_tape h.1
  have ht := h.2.2.2
  have hT := h.2.2.1
  have n10 : ¬ (1 : Int32) = 0 := by decide
  have inc : Int32.ofNat i + 1 = Int32.ofNat (i + 1) := iN_inc (by omega)
  -- once it differs it stays so
  have no : ¬ (∀ x, x < many → T.2 (fr + x) = u.1.2 x) → ∀ j, j ≤ many → L_X12_whose_29 d q m (Int32.ofNat fr) (Int32.ofNat many) (Int32.ofNat i) 0 (Int32.ofNat j) H := by
    intro hn j hj
    refine T_X12_whose_29 ?_
    unfold wb_X12_whose_29
    rw [iN_le (by omega) (by omega), inc]
    exact ⟨fun _ => ⟨fun _ => h0 hn, fun k => absurd rfl k⟩, fun _ => ⟨fun _ => ⟨fun _ => h0 hn, fun k => absurd rfl k⟩, fun k => absurd rfl k⟩⟩
  intro k
  induction k with
  | zero =>
    intro j hj hq
    have : j = many := by omega
    subst this
    refine T_X12_whose_29 ?_
    unfold wb_X12_whose_29
    rw [iN_le (by omega) (by omega)]
    exact ⟨fun _ => ⟨fun k => absurd k n10, fun _ => h1 hq⟩, fun k => absurd (Nat.le_refl _) k⟩
  | succ k ih =>
    intro j hj hq
    refine T_X12_whose_29 ?_
    unfold wb_X12_whose_29
    rw [iN_le (by omega) (by omega), ix4 (by omega), iN_add (by omega)]
    refine ⟨fun k => by omega, fun _ => ⟨fun k => absurd k n10, fun _ => ⟨h.1.1, m + 1, a1, a2, ?_, m + 15, b1, b2, ?_, ?_⟩⟩⟩
    · rw [a4]; exact vpi_of (by omega) (by omega)
    · rw [b4]; exact vpi_of (by omega) (by omega)
    · rw [a3, b3, iN_cl (by omega), iN_cl (by omega), hu.1 j (by omega), (ht (fr + j) (by omega)).1, iN_inc (by omega)]
      refine ⟨fun e => no (fun k => e (k j (by omega)).symm) (j + 1) (by omega), fun e => ih (j + 1) (by omega) fun x hx => ?_⟩
      by_cases ex : x = j
      · rw [ex]; exact e.symm
      · exact hq x (by omega)
theorem whose_loop0 {d : Nat} {q : HP → Int32 → Prop} {H : HP} {m fr many n : Nat} {T : TP} {U : Nat → UV} (h : MT0 H m T) (hm : MU H m n U) (hok : ∀ i, i < n → okU (U i)) (h4 : many ≤ 4) (hfr : fr + many ≤ T.1) : ∀ (k i : Nat), k + i = n → q H (whoF (fun i => nmEq (U i) T fr many) k i) → L_X12_whose_2 (d + 1) q m (Int32.ofNat fr) (Int32.ofNat many) (Int32.ofNat i) H := by
  obtain ⟨sm, c2, c3, c4⟩ := id hm
  have hT := h.2.2.1
  intro k
  induction k with
  | zero =>
    intro i hi hq
    refine T_X12_whose_2 ?_
    unfold wb_X12_whose_2
    rw [c2, iN_le (by omega) (by omega)]
    exact ⟨sm.1, fun _ => hq, fun h => by omega⟩
  | succ k ih =>
    intro i hi hq
    have ok := hok i (by omega)
    refine T_X12_whose_2 ?_
    unfold wb_X12_whose_2
    rw [c2, iN_le (by omega) (by omega)]
    refine ⟨sm.1, fun h => by omega, fun _ => K_lettersOf sm (by omega) (c4 i (by omega)) ok ?_⟩
    have hlt := ok.2.1
    rw [iN_eq (by omega) (by omega)]
    refine ⟨fun hne => ?_, fun he => ?_⟩
    · have hf : nmEq (U i) T fr many = false := by unfold nmEq; exact decide_eq_false fun k => hne k.1
      rw [whoF, if_neg (by rw [hf]; decide)] at hq
      have nx := ih (i + 1) (by omega) hq
      have inc : Int32.ofNat i + 1 = Int32.ofNat (i + 1) := iN_inc (by omega)
      refine T_X12_whose_29 ?_
      unfold wb_X12_whose_29
      rw [inc]
      exact ⟨fun _ => ⟨fun _ => nx, fun k => absurd rfl k⟩, fun _ => ⟨fun _ => ⟨fun _ => nx, fun k => absurd rfl k⟩, fun k => absurd rfl k⟩⟩
    · refine whose_inner0 h (by omega) (c4 i (by omega)) he h4 hfr (fun hall => ?_) (fun hn => ?_) many 0 (by omega) (fun x hx => by omega)
      · have hf : nmEq (U i) T fr many = true := by unfold nmEq; exact decide_eq_true ⟨he, hall⟩
        rwa [whoF, if_pos hf] at hq
      · have hf : nmEq (U i) T fr many = false := by unfold nmEq; exact decide_eq_false fun k => hn k.2
        rw [whoF, if_neg (by rw [hf]; decide)] at hq
        exact ih (i + 1) (by omega) hq
theorem K_whose0 {d : Nat} {q : HP → Int32 → Prop} {H : HP} {m fr many n : Nat} {T : TP} {U : Nat → UV} (h : MT0 H m T) (hm : MU H m n U) (hok : ∀ i, i < n → okU (U i)) (h4 : many ≤ 4) (hfr : fr + many ≤ T.1) (hq : q H (whoF (fun i => nmEq (U i) T fr many) n 0)) : CI (d + 2) 0 0 mX12_whose [rv (some m), .int (Int32.ofNat fr), .int (Int32.ofNat many)] H q := by
  refine C_X12_whose ?_
  unfold wb_X12_whose_0
  exact whose_loop0 h hm hok h4 hfr n 0 rfl hq
theorem K_mfind {d m n : Nat} {q : HP → Int32 → Prop} {H : HP} {T : TP} {U : Nat → UV} (hT : MT0 H m T) (hu : MU H m n U) (hok : ∀ i, okU (U i)) (hq : ∀ H', Fr (fun g x => g = 1323 ∧ x = m) H H' → MT0 H' m (0, T.2) → q H' (findA T n U)) : CI (d + 3) 0 0 mX12_find [rv (some m)] H q := by
  obtain ⟨sm, t1, t2, t3⟩ := id hT
  refine C_X12_find ?_
  unfold wb_X12_find_0
  have e1 : (1 : Int64).toInt = 1 := rfl
  have e4 : (4 : Int64).toInt = 4 := rfl
  have F1 : Fr (fun g x => g = 1323 ∧ x = m) H (sI H 1323 m 0 (0 : Int32)) := Fr_sI ⟨rfl, rfl⟩
  have T1 : MT0 (sI H 1323 m 0 (0 : Int32)) m (0, T.2) := ⟨fr_shM F1 sm, by rw [hIs_i, if_pos rfl]; rfl, Nat.zero_le _, fun i hi => (by cases hi)⟩
  have hh := hq _ F1 T1
  unfold findA at hh
  refine ⟨sm.1, K_isIn (d := d + 1) ?_⟩
  rw [i64_of32, t1, iN_toInt (by omega), e1, e4]
  refine ⟨fun hb => ⟨sm.1, fun k => absurd k (by decide), fun _ => ?_⟩, fun hb => ⟨sm.1, ?_⟩⟩
  · have hb := of_decide_eq_false hb
    rw [whoF_off hok (fun k => hb (by omega)), if_neg (by decide)] at hh; exact hh
  · have hb := of_decide_eq_true hb
    have e0 : (0 : Int32) = Int32.ofNat 0 := rfl
    rw [e0]
    refine K_whose0 (d := d) hT hu (fun i _ => hok i) (by omega) (by omega) ⟨sm.1, ?_⟩
    rw [← e0, i32_le, i32_0]
    refine ⟨fun h => ?_, fun h => ?_⟩
    · rw [if_pos h] at hh; exact hh
    · rw [if_neg h] at hh; exact hh
theorem dropC_le {u : Nat} : ∀ (k : Nat) (C : CLM), (dropC u k C).1 ≤ C.1
  | 0, C => Nat.le_refl _
  | k + 1, C => by
    show (dropC u k (if CX C k = u ∨ CY C k = u then delC C k else C)).1 ≤ C.1
    have := dropC_le (u := u) k (if CX C k = u ∨ CY C k = u then delC C k else C)
    split at this
    · rename_i h
      rw [if_pos h]
      have e : (delC C k).1 = C.1 - 1 := rfl
      omega
    · rename_i h
      rw [if_neg h]; exact this
theorem dropC_none {u : Nat} : ∀ (k : Nat) (C : CLM), k ≤ C.1 → (∀ i, k ≤ i → i < C.1 → CX C i ≠ u ∧ CY C i ≠ u) → ∀ i, i < (dropC u k C).1 → CX (dropC u k C) i ≠ u ∧ CY (dropC u k C) i ≠ u
  | 0, C, _, h => fun i hi => h i (Nat.zero_le _) hi
  | k + 1, C, hk, h => by
    show ∀ i, i < (dropC u k (if CX C k = u ∨ CY C k = u then delC C k else C)).1 → _
    rw [dropC]
    by_cases hc : CX C k = u ∨ CY C k = u
    · rw [if_pos hc]
      refine dropC_none k (delC C k) (by show k ≤ C.1 - 1; omega) fun i h1 h2 => ?_
      have h2 : i < C.1 - 1 := h2
      have := h (i + 1) (by omega) (by omega)
      have e1 : CX (delC C k) i = CX C (i + 1) := if_neg (by omega)
      have e2 : CY (delC C k) i = CY C (i + 1) := if_neg (by omega)
      rw [e1, e2]; exact this
    · rw [if_neg hc]
      refine dropC_none k C (by omega) fun i h1 h2 => ?_
      by_cases e : i = k
      · rw [e]; exact ⟨fun x => hc (Or.inl x), fun x => hc (Or.inr x)⟩
      · exact h i (by omega) h2
theorem okCl_drop {n : Nat} {C : CLM} (h : okCl (n + 1) C) (h' : okCl (n + 1) (dropC n C.1 C)) : okCl n (dropC n C.1 C) := by
  have k := dropC_none (u := n) C.1 C (Nat.le_refl _) (fun i h1 h2 => by omega)
  refine ⟨h'.1, fun i hi => ?_⟩
  obtain ⟨a1, a2, a3⟩ := h'.2 i hi
  obtain ⟨b1, b2⟩ := k i hi
  exact ⟨by omega, by omega, a3⟩
def dropN (n : Nat) : Nat := if n ≤ 5 then n else n - 1
def dropCl (n : Nat) (C : CLM) : CLM := if n ≤ 5 then C else dropC (n - 1) C.1 C
def dropA (n : Nat) : Int32 := if n ≤ 5 then -3 else Int32.ofNat (n - 1)
theorem K_cdrop {d n : Nat} {q : HP → Int32 → Prop} {H : HP} {U : Nat → UV} {C : CLM} (s : shP H) (hu : CU H 3 n U) (hok : okCl n C) (hc : CCl H 105 C) (hq : ∀ H', Fr (fun g x => (g = 1101 ∧ x = 3) ∨ ClS 105 g x) H H' → CU H' 3 (dropN n) U → CCl H' 105 (dropCl n C) → okCl (dropN n) (dropCl n C) → q H' (dropA n)) : CI (d + 8) 0 0 mX11_drop [rv (some 0)] H q := by
  obtain ⟨s1, s2, s3, s4, -⟩ := id s
  have hn20 := hu.2.2.1
  refine C_X11_drop ?_
  unfold wb_X11_drop_0
  have e5 : (5 : Int32) = Int32.ofNat 5 := rfl
  rw [s3]
  unfold dropN dropCl dropA at hq
  refine ⟨s1, 3, rfl, hu.1.1, ?_⟩
  rw [hu.2.1, e5, iN_lt (by omega) (by omega)]
  refine ⟨fun h5 => ?_, fun h5 => ?_⟩
  · have em : Int32.ofNat n - (1 : Int32) = Int32.ofNat (n - 1) := iN_inj (by omega) (by rw [i32_subx] <;> rw [iN_toInt (by omega), i32_1] <;> omega)
    rw [em]
    rw [if_neg (by omega), if_neg (by omega), if_neg (by omega)] at hq
    have F1 : Fr (fun g x => (g = 1101 ∧ x = 3) ∨ ClS 105 g x) H (sI H 1101 3 0 (Int32.ofNat (n - 1))) := Fr_sI (Or.inl ⟨rfl, rfl⟩)
    have u1 : CU (sI H 1101 3 0 (Int32.ofNat (n - 1))) 3 (n - 1) U := by
      have FF : Fr (fun g x => g = 1101 ∧ x = 3) H (sI H 1101 3 0 (Int32.ofNat (n - 1))) := Fr_sI ⟨rfl, rfl⟩
      refine ⟨fr_units FF (fun k => by omega) hu.1, by rw [hIs_i, if_pos rfl], by omega, fun i hi => fr_CUn FF (fun g b k1 k2 k => by omega) (hu.2.2.2 i (by omega))⟩
    have c1 : CCl (sI H 1101 3 0 (Int32.ofNat (n - 1))) 105 C := by
      have FF : Fr (fun g x => g = 1101 ∧ x = 3) H (sI H 1101 3 0 (Int32.ofNat (n - 1))) := Fr_sI ⟨rfl, rfl⟩
      exact fr_CCl FF (fun g b k1 k2 k => by omega) hc
    generalize sI H 1101 3 0 (Int32.ofNat (n - 1)) = A at F1 u1 c1 ⊢
    have aC : ∀ g a, hC A g a = hC H g a := fun g a => by rw [F1.2.1]
    rw [aC 1201, s3, aC 1202, s4]
    refine ⟨3, rfl, u1.1.1, 105, rfl, c1.1.1, ?_⟩
    rw [u1.2.1]
    refine K_removeOf (d := d) hn20 (by omega) hok c1.1 c1.2.1 fun H' F' c' ok' => ?_
    have F9 := F1.tr (F'.mono fun g x k => (Or.inr k : (g = 1101 ∧ x = 3) ∨ ClS 105 g x))
    have u2 : CU H' 3 (n - 1) U := fr_CU F' (fun g x k1 k2 k => by omega) u1
    refine ⟨by rw [fr_tg F9]; exact s1, 3, by rw [F9.2.1]; exact s3, u2.1.1, ?_⟩
    rw [u2.2.1]
    have en : n - 1 + 1 = n := by omega
    exact hq H' F9 u2 c' (okCl_drop (n := n - 1) (C := C) (by rw [en]; exact hok) (by rw [en]; exact ok'))
  · rw [if_pos (by omega), if_pos (by omega), if_pos (by omega)] at hq
    exact hq H Fr.rf hu hc hok
theorem mdrop_loop {d n m : Nat} {q : HP → Int32 → Prop} {H0 : HP} {u : Nat} (hu : u < 20) : ∀ (k : Nat) (C : CLM) (H : HP) (x : Int32), okCl n C → k ≤ C.1 → x.toInt = (k : Int) - 1 → shM H m → n ≤ 20 → hI H 1300 m 0 = Int32.ofNat u → MCl H m C → Fr (CmS m) H0 H → (∀ H', Fr (CmS m) H0 H' → MCl H' m (dropC u k C) → q H' (Int32.ofNat u)) → L_X12_drop_28 (d + 2) q m x H := by
  have e4 : (4 : Int32) = Int32.ofNat 4 := rfl
  intro k
  induction k with
  | zero =>
    intro C H x hok hk hx sm hn h0 r hF hq
    refine T_X12_drop_28 ?_
    unfold wb_X12_drop_28
    rw [i32_lt, hx, i32_0, h0]
    exact ⟨fun _ => ⟨sm.1, hq H hF r⟩, fun h => by omega⟩
  | succ k ih =>
    intro C H x hok hk hx sm hn h0 r hF hq
    have hCn := hok.1
    have ex : x = Int32.ofNat k := iN_inj (by omega) (by omega)
    have hx' : (x + (-1)).toInt = (k : Int) - 1 := by
      have e : (-1 : Int32).toInt = -1 := rfl
      rw [i32_addx] <;> rw [hx, e] <;> omega
    obtain ⟨o1, o2, -⟩ := hok.2 k (by omega)
    obtain ⟨a1, a2, a3, a4⟩ := mA_claim sm
    obtain ⟨r1, r2, r3, r4⟩ := r.2 k (by omega)
    have e40 : (4 : Int32) * x = Int32.ofNat (4 * k) := by rw [ex, e4, iN_mul (by omega) (by omega) (by omega)]
    have e41 : (4 : Int32) * x + 1 = Int32.ofNat (4 * k + 1) := by rw [e40, iN_inc (by omega)]
    have yes : (CX C k = u ∨ CY C k = u) → CI (d + 2) 0 0 mX12_unclaim [rv (some m), .int x] H (fun H7 _ => L_X12_drop_28 (d + 2) q m (x + (-1)) H7) := fun h => by
      refine K_unclaim (d := d) hok sm r (fun g hg e H1 F1 mc1 => ?_) (fun h => by omega)
      have eg : g = k := by
        have := congrArg Int32.toInt (ex.symm.trans e)
        rw [iN_toInt (by omega), iN_toInt (by omega)] at this; omega
      subst eg
      refine ih (delC C g) H1 _ (okCl_del hok) (by show g ≤ C.1 - 1; omega) hx' (fr_shM F1 sm) hn ?_ mc1 (hF.tr F1) fun H' F' c' => hq H' F' ?_
      · rw [F1.2.2.2.2.1 _ _ (fun k => by omega)]; exact h0
      · rw [dropC, if_pos h]; exact c'
    have no : ¬ (CX C k = u ∨ CY C k = u) → L_X12_drop_28 (d + 2) q m (x + (-1)) H := fun h => by
      refine ih C H _ hok (by omega) hx' sm hn h0 r hF fun H' F' c' => hq H' F' ?_
      rw [dropC, if_neg h]; exact c'
    refine T_X12_drop_28 ?_
    unfold wb_X12_drop_28
    rw [i32_lt, hx, i32_0, e41, e40]
    refine ⟨fun h => by omega, fun _ => ⟨sm.1, m + 7, a1, a2, by rw [a4]; exact vpi_of (by omega) (by decide), ?_⟩⟩
    rw [a3, iN_cl (by omega), iN_cl (by omega), r1, r2, h0, iN_eq (by omega) (by omega), iN_eq (by omega) (by omega)]
    refine ⟨fun h => yes (Or.inl h), fun h => ⟨by rw [a4]; exact vpi_of (by omega) (by decide), fun h2 => no (fun k => k.elim h h2), fun h2 => yes (Or.inr h2)⟩⟩
theorem K_mdrop {d n m : Nat} {q : HP → Int32 → Prop} {H : HP} {U : Nat → UV} {C : CLM} (hu : MU H m n U) (hok : okCl n C) (h5 : 5 ≤ n) (hc : MCl H m C) (hq : ∀ H', Fr (fun g x => (g = 1300 ∧ x = m) ∨ CmS m g x) H H' → MU H' m (dropN n) U → MCl H' m (dropCl n C) → q H' (dropA n)) : CI (d + 3) 0 0 mX12_drop [rv (some m)] H q := by
  have sm := hu.1
  have hn20 := hu.2.2.1
  refine C_X12_drop ?_
  unfold wb_X12_drop_0
  have e5 : (5 : Int32) = Int32.ofNat 5 := rfl
  unfold dropN dropCl dropA at hq
  rw [hu.2.1, e5, iN_eq (by omega) (by omega)]
  refine ⟨sm.1, fun h => ?_, fun h => ?_⟩
  · have em : Int32.ofNat n - (1 : Int32) = Int32.ofNat (n - 1) := iN_inj (by omega) (by rw [i32_subx] <;> rw [iN_toInt (by omega), i32_1] <;> omega)
    rw [em]
    rw [if_neg (by omega), if_neg (by omega), if_neg (by omega)] at hq
    have F1 : Fr (fun g x => g = 1300 ∧ x = m) H (sI H 1300 m 0 (Int32.ofNat (n - 1))) := Fr_sI ⟨rfl, rfl⟩
    have z1 : hI (sI H 1300 m 0 (Int32.ofNat (n - 1))) 1300 m 0 = Int32.ofNat (n - 1) := by rw [hIs_i, if_pos rfl]
    have c1 : MCl (sI H 1300 m 0 (Int32.ofNat (n - 1))) m C := fr_MCl F1 (fun k => by omega) (fun k => by omega) hc
    have u1 : MU (sI H 1300 m 0 (Int32.ofNat (n - 1))) m (n - 1) U := ⟨fr_shM F1 sm, z1, by omega, fun i hi => fr_MUn F1 (fun g a k1 k2 k => by omega) (hu.2.2.2 i (by omega))⟩
    generalize sI H 1300 m 0 (Int32.ofNat (n - 1)) = A at F1 z1 c1 u1 ⊢
    have hCn := hok.1
    rw [c1.1]
    refine mdrop_loop (d := d) (n := n) (u := n - 1) (by omega) C.1 C A _ hok (Nat.le_refl _) (held_last (by omega)) u1.1 hn20 z1 c1 Fr.rf fun H' F' c' => ?_
    refine hq H' ((F1.mono fun g x k => Or.inl k).tr (F'.mono fun g x k => Or.inr k)) (fr_MU F' (fun k => by omega) (fun g a k1 k2 k => by omega) u1) c'
  · rw [if_pos (by omega), if_pos (by omega), if_pos (by omega)] at hq
    exact hq H Fr.rf hu hc
