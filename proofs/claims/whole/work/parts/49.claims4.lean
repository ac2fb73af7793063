
/-! ===== claims counted, put in, taken out, copied ===== -/
theorem fr_CCl {S : Nat → Nat → Prop} {H H' : HP} {a : Nat} {C : CLM} (h : Fr S H H') (h1 : ∀ g b, a ≤ b → b < a + 8 → ¬ S g b) (s : CCl H a C) : CCl H' a C := by
  obtain ⟨s1, s2, s3, s4, s5⟩ := s
  have hi := h.2.2.2.2.1
  refine ⟨fr_shCl h s1, fr_CRw h (h1 _ _ (by omega) (by omega)) (h1 _ _ (by omega) (by omega)) (h1 _ _ (by omega) (by omega)) (h1 _ _ (by omega) (by omega)) (h1 _ _ (by omega) (by omega)) s2, fun i hi' => ?_, fr_bun0 h (h1 _ _ (by omega) (by omega)) s4, fun i hi' => ?_⟩
  · rw [hi _ _ (h1 _ _ (by omega) (by omega))]; exact s3 i hi'
  · rw [hi _ _ (h1 _ _ (by omega) (by omega))]; exact s5 i hi'
theorem joining_loop {d n : Nat} {q : HP → Int32 → Prop} {H : HP} {a : Nat} {C : CLM} (hok : okCl n C) (s : CCl H a C) (hq : q H (Int32.ofNat (cntB (jnB (CX C) (CY C)) C.1))) : ∀ (k i : Nat), k + i = C.1 → L_X0_joining_4 d q a (Int32.ofNat (cntB (jnB (CX C) (CY C)) i)) (Int32.ofNat i) H := by
  obtain ⟨s1, s2, s3, s4, s5⟩ := s
  have hCn := hok.1
  obtain ⟨j1, j2, j3, j4⟩ := cA_j s1
  intro k
  induction k with
  | zero =>
    intro i hi
    refine T_X0_joining_4 ?_
    unfold wb_X0_joining_4
    rw [s2.1, iN_le (by omega) (by omega)]
    have e : i = C.1 := by omega
    subst e
    exact ⟨s1.1, fun _ => hq, fun h => by omega⟩
  | succ k ih =>
    intro i hi
    have hle := cntB_le (jnB (CX C) (CY C)) i
    have nx := ih (i + 1) (by omega)
    refine T_X0_joining_4 ?_
    unfold wb_X0_joining_4
    rw [s2.1, iN_le (by omega) (by omega)]
    refine ⟨s1.1, fun h => by omega, fun _ => ⟨a + 5, j1, j2, by rw [j4]; exact vpi_of (by omega) (by decide), ?_⟩⟩
    rw [j3, iN_cl (by omega), s3 i (by omega), bI_0, iN_inc (by omega), Int32.add_zero, iN_inc (by omega)]
    unfold cntB at nx
    refine ⟨fun h => ?_, fun h => ?_⟩
    · rw [if_neg (by rw [h]; decide)] at nx; exact nx
    · rw [if_pos (by simpa using h)] at nx; exact nx
theorem K_joining {d n : Nat} {q : HP → Int32 → Prop} {H : HP} {a : Nat} {C : CLM} (hok : okCl n C) (s : CCl H a C) (hq : q H (Int32.ofNat (cntB (jnB (CX C) (CY C)) C.1))) : CI (d + 1) 0 0 mX0_joining [rv (some a)] H q := by
  refine C_X0_joining ?_
  unfold wb_X0_joining_0
  exact joining_loop hok s hq C.1 0 rfl
def agB (C : CLM) (i : Nat) : Bool := decide (vdF C i = 1)
theorem against_loop {d n : Nat} {q : HP → Int32 → Prop} {H : HP} {a : Nat} {C : CLM} (hok : okCl n C) (s : CCl H a C) (hq : q H (Int32.ofNat (cntB (agB C) C.1))) : ∀ (k i : Nat), k + i = C.1 → L_X0_against_4 d q a (Int32.ofNat (cntB (agB C) i)) (Int32.ofNat i) H := by
  obtain ⟨s1, s2, s3, s4, s5⟩ := s
  have hCn := hok.1
  obtain ⟨j1, j2, j3, j4⟩ := cA_v s1
  intro k
  induction k with
  | zero =>
    intro i hi
    refine T_X0_against_4 ?_
    unfold wb_X0_against_4
    rw [s2.1, iN_le (by omega) (by omega)]
    have e : i = C.1 := by omega
    subst e
    exact ⟨s1.1, fun _ => hq, fun h => by omega⟩
  | succ k ih =>
    intro i hi
    have hle := cntB_le (agB C) i
    have nx := ih (i + 1) (by omega)
    refine T_X0_against_4 ?_
    unfold wb_X0_against_4
    rw [s2.1, iN_le (by omega) (by omega)]
    refine ⟨s1.1, fun h => by omega, fun _ => ⟨a + 6, j1, j2, by rw [j4]; exact vpi_of (by omega) (by decide), ?_⟩⟩
    rw [j3, iN_cl (by omega), s5 i (by omega), iN_inc (by omega), Int32.add_zero, iN_inc (by omega)]
    unfold cntB at nx
    refine ⟨fun h => ?_, fun h => ?_⟩
    · rw [if_neg (by unfold agB; simpa using h)] at nx; exact nx
    · rw [if_pos (show agB C i = true from decide_eq_true h)] at nx; exact nx
theorem K_against {d n : Nat} {q : HP → Int32 → Prop} {H : HP} {a : Nat} {C : CLM} (hok : okCl n C) (s : CCl H a C) (hq : q H (Int32.ofNat (cntB (agB C) C.1))) : CI (d + 1) 0 0 mX0_against [rv (some a)] H q := by
  refine C_X0_against ?_
  unfold wb_X0_against_0
  exact against_loop hok s hq C.1 0 rfl
theorem isOver_loop {d n : Nat} {q : HP → Bool → Prop} {H : HP} {a : Nat} {C : CLM} (hok : okCl n C) (s : CCl H a C) (h1 : (∃ i, i < C.1 ∧ vdF C i = -15) → q H true) (h0 : (∀ i, i < C.1 → ¬ vdF C i = -15) → q H false) : ∀ (k i : Nat), k + i = C.1 → (∀ j, j < i → ¬ vdF C j = -15) → L_X0_isOver_2 d q a (Int32.ofNat i) H := by
  obtain ⟨s1, s2, s3, s4, s5⟩ := s
  have hCn := hok.1
  obtain ⟨j1, j2, j3, j4⟩ := cA_v s1
  intro k
  induction k with
  | zero =>
    intro i hi hn
    refine T_X0_isOver_2 ?_
    unfold wb_X0_isOver_2
    rw [s2.1, iN_le (by omega) (by omega)]
    exact ⟨s1.1, fun _ => h0 fun j hj => hn j (by omega), fun h => by omega⟩
  | succ k ih =>
    intro i hi hn
    refine T_X0_isOver_2 ?_
    unfold wb_X0_isOver_2
    rw [s2.1, iN_le (by omega) (by omega)]
    refine ⟨s1.1, fun h => by omega, fun _ => ⟨a + 6, j1, j2, by rw [j4]; exact vpi_of (by omega) (by decide), ?_⟩⟩
    rw [j3, iN_cl (by omega), s5 i (by omega), iN_inc (by omega)]
    refine ⟨fun h => ih (i + 1) (by omega) fun j hj => ?_, fun h => h1 ⟨i, by omega, h⟩⟩
    by_cases e : j = i
    · rw [e]; exact h
    · exact hn j (by omega)
theorem K_isOver {d n : Nat} {q : HP → Bool → Prop} {H : HP} {a : Nat} {C : CLM} (hok : okCl n C) (s : CCl H a C) (h1 : (∃ i, i < C.1 ∧ vdF C i = -15) → q H true) (h0 : (∀ i, i < C.1 → ¬ vdF C i = -15) → q H false) : CZ (d + 1) 0 0 mX0_isOver [rv (some a)] H q := by
  refine C_X0_isOver ?_
  unfold wb_X0_isOver_0
  exact isOver_loop hok s h1 h0 C.1 0 rfl fun j hj => by omega
abbrev ClS (a : Nat) : Nat → Nat → Prop := fun _ x => a ≤ x ∧ x < a + 11
theorem JuS_Cl {a g x : Nat} (h : JuS a g x) : ClS a g x := by
  rcases h with ⟨-, h⟩ | ⟨-, h⟩ | ⟨-, h⟩ | ⟨-, h⟩ | ⟨-, h⟩
  · exact ⟨by omega, by omega⟩
  · exact ⟨by omega, by omega⟩
  · exact ⟨by omega, by omega⟩
  · exact ⟨by omega, by omega⟩
  · rcases h with h | h <;> exact ⟨by omega, by omega⟩
def putC {α : Type} (f : Nat → α) (n : Nat) (v : α) : Nat → α := fun i => if i = n then v else f i
def addC (C : CLM) (x y : Nat) (p q : Int32) : CLM := (C.1 + 1, putC (CX C) C.1 x, putC (CY C) C.1 y, putC (CP C) C.1 p, putC (CQ C) C.1 q)
theorem K_clappend {d n x y : Nat} {q : HP → Bool → Prop} {H : HP} {a : Nat} {C : CLM} {p r : Int32} (hn : n ≤ 20) (hok : okCl n C) (s : shCl H a) (rw' : CRw H a C) (hokn : C.1 < 16 → okCl n (addC C x y p r)) (h1 : C.1 < 16 → ∀ H', Fr (ClS a) H H' → CCl H' a (addC C x y p r) → q H' true) (h0 : C.1 = 16 → q H false) : CZ (d + 7) 0 0 mX0_append [rv (some a), .int (Int32.ofNat x), .int (Int32.ofNat y), .int p, .int r] H q := by
  refine C_X0_append ?_
  unfold wb_X0_append_0
  have e16 : (16 : Int32) = Int32.ofNat 16 := rfl
  have hCn := hok.1
  rw [rw'.1, e16, iN_lt (by omega) (by omega)]
  refine ⟨s.1, fun hl => ?_, fun hl => h0 (by omega)⟩
  have in16 : vp_in (Int32.ofNat C.1) 16 := vpi_of (by omega) (by decide)
  obtain ⟨x1, x2, x3, x4⟩ := cA_x s
  obtain ⟨y1, y2, y3, y4⟩ := cA_y s
  obtain ⟨p1, p2, p3, p4⟩ := cA_p s
  obtain ⟨q1, q2, q3, q4⟩ := cA_q s
  obtain ⟨r0, rr⟩ := rw'
  simp only [hC_sI, isA_sI, tg_sI, ln_sI, x1, x2, x3, x4, y1, y2, y3, y4, Option.some.injEq, exists_eq_left', true_and, in16, iN_cl (show C.1 < 2147483648 by omega), hIs, Nat.reduceEqDiff, false_and, if_false, r0]
  intro H8 e8
  subst e8
  simp only [hC_sI, isA_sI, tg_sI, ln_sI, p1, p2, p3, p4, q1, q2, q3, q4, Option.some.injEq, exists_eq_left', true_and, in16, iN_cl (show C.1 < 2147483648 by omega), hIs, Nat.reduceEqDiff, false_and, if_false, r0]
  intro H19 e19
  subst e19
  simp only [hIs, Nat.reduceEqDiff, false_and, if_false, r0, iN_inc (show C.1 + 1 < 2147483648 by omega)]
  have F : Fr (ClS a) H (sI (sI (sI (sI (sI H 4224 (a + 1) C.1 (Int32.ofNat x)) 4240 (a + 2) C.1 (Int32.ofNat y)) 4256 (a + 3) C.1 p) 4272 (a + 4) C.1 r) 104 a 0 (Int32.ofNat (C.1 + 1))) := ((((Fr_sI ⟨by omega, by omega⟩).tr (Fr_sI ⟨by omega, by omega⟩)).tr (Fr_sI ⟨by omega, by omega⟩)).tr (Fr_sI ⟨by omega, by omega⟩)).tr (Fr_sI ⟨by omega, by omega⟩)
  refine K_judgeAll (hokn hl) hn (fr_shCl F s) ⟨?_, fun i hi => ?_⟩ fun H' F' hc => h1 hl H' (F.tr (F'.mono fun g x k => JuS_Cl k)) hc
  · simp only [hIs, if_true, and_self]; rfl
  · have hi : i < C.1 + 1 := hi
    simp only [hIs, Nat.reduceEqDiff, false_and, if_false, true_and]
    show _ = Int32.ofNat (putC (CX C) C.1 x i) ∧ _ = Int32.ofNat (putC (CY C) C.1 y i) ∧ _ = putC (CP C) C.1 p i ∧ _ = putC (CQ C) C.1 r i
    unfold putC
    by_cases e : i = C.1
    · simp only [e, if_true]; exact ⟨trivial, trivial, trivial, trivial⟩
    · simp only [e, if_false]; exact rr i (by omega)
def delA {α : Type} (f : Nat → α) (g : Nat) : Nat → α := fun i => if i < g then f i else f (i + 1)
def delC (C : CLM) (g : Nat) : CLM := (C.1 - 1, delA (CX C) g, delA (CY C) g, delA (CP C) g, delA (CQ C) g)
theorem okCl_del {n g : Nat} {C : CLM} (h : okCl n C) : okCl n (delC C g) := by
  refine ⟨?_, fun i hi => ?_⟩
  · have := h.1
    show C.1 - 1 ≤ 16; omega
  · have hi : i < C.1 - 1 := hi
    show delA (CX C) g i < n ∧ delA (CY C) g i < n ∧ delA (CX C) g i ≠ delA (CY C) g i ∧ 1 ≤ (delA (CP C) g i).toInt ∧ (delA (CP C) g i).toInt ≤ 999999 ∧ 1 ≤ (delA (CQ C) g i).toInt ∧ (delA (CQ C) g i).toInt ≤ 999999
    unfold delA
    by_cases e : i < g
    · simp only [e, if_true]; exact h.2 i (by omega)
    · simp only [e, if_false]; exact h.2 (i + 1) (by omega)
/-- between: rows ahead of i as they are to be, from i on as they were -/
def delI {α : Type} (f : Nat → α) (g i : Nat) : Nat → α := fun j => if j < i then delA f g j else f j
theorem takeOut_loop {d n g : Nat} {q : HP → Prop} {H0 : HP} {a : Nat} {C : CLM} (hok : okCl n C) (hg : g < C.1) (hq : ∀ H', Fr (ClS a) H0 H' → CRw H' a (delC C g) → q H') : ∀ (k i : Nat) (H : HP), k + i = C.1 - 1 → g ≤ i → shCl H a → hI H 104 a 0 = Int32.ofNat C.1 → (∀ j, j < C.1 → hI H 4224 (a + 1) j = Int32.ofNat (delI (CX C) g i j) ∧ hI H 4240 (a + 2) j = Int32.ofNat (delI (CY C) g i j) ∧ hI H 4256 (a + 3) j = delI (CP C) g i j ∧ hI H 4272 (a + 4) j = delI (CQ C) g i j) → Fr (ClS a) H0 H → L_X0_takeOut_2 d q a (Int32.ofNat i) H := by
  have hCn := hok.1
  have es : Int32.ofNat C.1 - (1 : Int32) = Int32.ofNat (C.1 - 1) := by
    refine iN_inj (by omega) ?_
    have := iN_toInt (n := C.1) (by omega)
    rw [i32_subx] <;> rw [this, i32_1] <;> omega
  intro k
  induction k with
  | zero =>
    intro i H hi hgi s r0 rr hF
    refine T_X0_takeOut_2 ?_
    unfold wb_X0_takeOut_2
    rw [r0, es, iN_le (by omega) (by omega)]
    refine ⟨s.1, fun _ => hq _ (hF.tr (Fr_sI ⟨by omega, by omega⟩)) ⟨?_, fun j hj => ?_⟩, fun h => by omega⟩
    · rw [hIs_i, if_pos rfl]; rfl
    · have hj : j < C.1 - 1 := hj
      simp only [hIs, Nat.reduceEqDiff, false_and, if_false]
      have := rr j (by omega)
      unfold delI at this
      simp only [show j < i by omega, if_true] at this
      exact this
  | succ k ih =>
    intro i H hi hgi s r0 rr hF
    obtain ⟨x1, x2, x3, x4⟩ := cA_x s
    obtain ⟨y1, y2, y3, y4⟩ := cA_y s
    obtain ⟨p1, p2, p3, p4⟩ := cA_p s
    obtain ⟨q1, q2, q3, q4⟩ := cA_q s
    have in16 : vp_in (Int32.ofNat i) 16 := vpi_of (by omega) (by decide)
    have in17 : vp_in (Int32.ofNat (i + 1)) 16 := vpi_of (by omega) (by decide)
    have nx := rr (i + 1) (by omega)
    unfold delI at nx
    simp only [show ¬ i + 1 < i by omega, if_false] at nx
    obtain ⟨n1, n2, n3, n4⟩ := nx
    refine T_X0_takeOut_2 ?_
    unfold wb_X0_takeOut_2
    have hle : ¬ Int32.ofNat (C.1 - 1) ≤ Int32.ofNat i := by rw [iN_le (by omega) (by omega)]; omega
    have e1 : Int32.ofNat i + (1 : Int32) = Int32.ofNat (i + 1) := iN_inc (by omega)
    simp only [r0, es, hle, s.1, e1, hC_sI, isA_sI, tg_sI, ln_sI, x1, x2, x3, x4, y1, y2, y3, y4, Option.some.injEq, exists_eq_left', true_and, in16, in17, iN_cl (show i < 2147483648 by omega), iN_cl (show i + 1 < 2147483648 by omega), hIs, Nat.reduceEqDiff, false_and, if_false, n1, n2, false_implies, true_implies, not_false_eq_true]
    intro H10 e10
    subst e10
    simp only [hC_sI, isA_sI, tg_sI, ln_sI, p1, p2, p3, p4, q1, q2, q3, q4, Option.some.injEq, exists_eq_left', true_and, in16, in17, hIs, Nat.reduceEqDiff, false_and, if_false, n3, n4]
    intro H23 e23
    subst e23
    have F : Fr (ClS a) H (sI (sI (sI (sI H 4224 (a + 1) i (Int32.ofNat (CX C (i + 1)))) 4240 (a + 2) i (Int32.ofNat (CY C (i + 1)))) 4256 (a + 3) i (CP C (i + 1))) 4272 (a + 4) i (CQ C (i + 1))) := (((Fr_sI ⟨by omega, by omega⟩).tr (Fr_sI ⟨by omega, by omega⟩)).tr (Fr_sI ⟨by omega, by omega⟩)).tr (Fr_sI ⟨by omega, by omega⟩)
    refine ih (i + 1) _ (by omega) (by omega) (fr_shCl F s) ?_ (fun j hj => ?_) (hF.tr F)
    · simp only [hIs, Nat.reduceEqDiff, false_and, if_false]; exact r0
    · simp only [hIs, Nat.reduceEqDiff, false_and, if_false, true_and]
      have := rr j hj
      unfold delI at this ⊢
      by_cases e : j = i
      · subst e
        unfold delA
        simp only [if_true, show j < j + 1 by omega, show ¬ j < g by omega, if_false]
        exact ⟨trivial, trivial, trivial, trivial⟩
      · by_cases hl : j < i
        · simp only [hl, if_true] at this
          simp only [e, if_false, show j < i + 1 by omega, if_true]; exact this
        · simp only [hl, if_false] at this
          simp only [e, if_false, show ¬ j < i + 1 by omega]; exact this
theorem K_takeOut {d n g : Nat} {q : HP → Prop} {H : HP} {a : Nat} {C : CLM} (hok : okCl n C) (hg : g < C.1) (s : shCl H a) (r : CRw H a C) (hq : ∀ H', Fr (ClS a) H H' → CRw H' a (delC C g) → q H') : CV (d + 1) 0 0 mX0_takeOut [rv (some a), .int (Int32.ofNat g)] H q := by
  refine C_X0_takeOut ?_
  unfold wb_X0_takeOut_0
  refine takeOut_loop hok hg hq (C.1 - 1 - g) g H (by omega) (Nat.le_refl _) s r.1 (fun j hj => ?_) Fr.rf
  have := r.2 j hj
  unfold delI delA
  by_cases e : j < g
  · simp only [e, if_true]; exact this
  · simp only [e, if_false]; exact this
theorem K_clremove {d n g : Nat} {q : HP → Prop} {H : HP} {a : Nat} {C : CLM} (hn : n ≤ 20) (hok : okCl n C) (hg : g < C.1) (s : shCl H a) (r : CRw H a C) (hq : ∀ H', Fr (ClS a) H H' → CCl H' a (delC C g) → q H') : CV (d + 7) 0 0 mX0_remove [rv (some a), .int (Int32.ofNat g)] H q := by
  refine C_X0_remove ?_
  unfold wb_X0_remove_0
  refine ⟨s.1, K_takeOut hok hg s r fun H1 F1 r1 => ⟨(fr_shCl F1 s).1, K_judgeAll (okCl_del hok) hn (fr_shCl F1 s) r1 fun H2 F2 c2 => hq H2 (F1.tr (F2.mono fun g x k => JuS_Cl k)) c2⟩⟩
/-- all claims of a unit taken out, the last one first: of the first k -/
def dropC (u : Nat) : Nat → CLM → CLM
  | 0, C => C
  | k + 1, C => dropC u k (if CX C k = u ∨ CY C k = u then delC C k else C)
theorem removeOf_loop {d n u : Nat} {q : HP → Prop} {H0 : HP} {a : Nat} (hn : n ≤ 20) (hu : u < 20) : ∀ (k : Nat) (C : CLM) (H : HP) (x : Int32), okCl n C → k ≤ C.1 → x.toInt = (k : Int) - 1 → shCl H a → CRw H a C → Fr (ClS a) H0 H → (∀ H', Fr (ClS a) H0 H' → CCl H' a (dropC u k C) → okCl n (dropC u k C) → q H') → L_X0_removeOf_7 (d + 6) q a (Int32.ofNat u) x H := by
  intro k
  induction k with
  | zero =>
    intro C H x hok hk hx s r hF hq
    refine T_X0_removeOf_7 ?_
    unfold wb_X0_removeOf_7
    rw [i32_lt, hx, i32_0]
    exact ⟨fun _ => ⟨s.1, K_judgeAll hok hn s r fun H' F' c' => hq H' (hF.tr (F'.mono fun g x k => JuS_Cl k)) c' hok⟩, fun h => by omega⟩
  | succ k ih =>
    intro C H x hok hk hx s r hF hq
    have hCn := hok.1
    have ex : x = Int32.ofNat k := iN_inj (by omega) (by omega)
    have hx' : (x + (-1)).toInt = (k : Int) - 1 := by
      have e : (-1 : Int32).toInt = -1 := rfl
      rw [i32_addx] <;> rw [hx, e] <;> omega
    obtain ⟨o1, o2, -⟩ := hok.2 k (by omega)
    obtain ⟨x1, x2, x3, x4⟩ := cA_x s
    obtain ⟨y1, y2, y3, y4⟩ := cA_y s
    obtain ⟨r1, r2, r3, r4⟩ := r.2 k (by omega)
    have in16 : vp_in x 16 := by rw [ex]; exact vpi_of (by omega) (by decide)
    have ecl : x.toNatClampNeg = k := by rw [ex]; exact iN_cl (by omega)
    have yes : (CX C k = u ∨ CY C k = u) → CV (d + 6) 0 0 mX0_takeOut [rv (some a), .int x] H (fun H7 => L_X0_removeOf_7 (d + 6) q a (Int32.ofNat u) (x + (-1)) H7) := fun h => by
      rw [ex]
      refine K_takeOut hok (by omega) s r fun H1 F1 r1 => ?_
      rw [← ex]
      refine ih (delC C k) H1 _ (okCl_del hok) (by show k ≤ C.1 - 1; omega) hx' (fr_shCl F1 s) r1 (hF.tr F1) fun H' F' c' ok' => hq H' F' ?_ ?_
      · rw [dropC, if_pos h]; exact c'
      · rw [dropC, if_pos h]; exact ok'
    have no : ¬ (CX C k = u ∨ CY C k = u) → L_X0_removeOf_7 (d + 6) q a (Int32.ofNat u) (x + (-1)) H := fun h => by
      refine ih C H _ hok (by omega) hx' s r hF fun H' F' c' ok' => hq H' F' ?_ ?_
      · rw [dropC, if_neg h]; exact c'
      · rw [dropC, if_neg h]; exact ok'
    refine T_X0_removeOf_7 ?_
    unfold wb_X0_removeOf_7
    rw [i32_lt, hx, i32_0]
    refine ⟨fun h => by omega, fun _ => ⟨s.1, a + 1, x1, x2, by rw [x4]; exact in16, ?_⟩⟩
    rw [x3, ecl, r1, iN_eq (by omega) (by omega)]
    refine ⟨fun h => yes (Or.inl h), fun h => ⟨a + 2, y1, y2, by rw [y4]; exact in16, ?_⟩⟩
    rw [y3, r2, iN_eq (by omega) (by omega)]
    refine ⟨fun h2 => no (fun k => k.elim h h2), fun h2 => yes (Or.inr h2)⟩
theorem K_removeOf {d n u : Nat} {q : HP → Prop} {H : HP} {a : Nat} {C : CLM} (hn : n ≤ 20) (hu : u < 20) (hok : okCl n C) (s : shCl H a) (r : CRw H a C) (hq : ∀ H', Fr (ClS a) H H' → CCl H' a (dropC u C.1 C) → okCl n (dropC u C.1 C) → q H') : CV (d + 7) 0 0 mX0_removeOf [rv (some a), .int (Int32.ofNat u)] H q := by
  refine C_X0_removeOf ?_
  unfold wb_X0_removeOf_0
  have hCn := hok.1
  refine ⟨s.1, removeOf_loop hn hu C.1 C H _ hok (Nat.le_refl _) ?_ s r Fr.rf hq⟩
  have := iN_toInt (n := C.1) (by omega)
  rw [r.1, i32_subx] <;> rw [this, i32_1] <;> omega
theorem K_clcopy {d n : Nat} {q : HP → Prop} {H : HP} {a b : Nat} {C : CLM} (hn : n ≤ 20) (hok : okCl n C) (hab : a + 11 ≤ b ∨ b + 11 ≤ a) (sa : shCl H a) (sb : shCl H b) (r : CRw H b C) (hq : ∀ H', Fr (ClS a) H H' → CCl H' a C → q H') : CV (d + 7) 0 0 mX0_copy [rv (some a), rv (some b)] H q := by
  refine C_X0_copy ?_
  unfold wb_X0_copy_0
  have cl16 : (16 : Int32).toNatClampNeg = 16 := rfl
  have hCn := hok.1
  rw [cl0, cl16]
  obtain ⟨x1, x2, x3, x4⟩ := cA_x sa
  obtain ⟨y1, y2, y3, y4⟩ := cA_y sa
  obtain ⟨p1, p2, p3, p4⟩ := cA_p sa
  obtain ⟨q1, q2, q3, q4⟩ := cA_q sa
  obtain ⟨u1, u2, u3, u4⟩ := cA_x sb
  obtain ⟨v1, v2, v3, v4⟩ := cA_y sb
  obtain ⟨s1, s2, s3, s4⟩ := cA_p sb
  obtain ⟨t1, t2, t3, t4⟩ := cA_q sb
  refine ⟨b, rfl, sb.1, sa.1, b + 1, u1, u2, a + 1, x1, x2, by rw [ln_sI, u4]; decide, by rw [ln_sI, x4]; decide, ?_⟩
  rw [tg_sI, x3, u3]
  intro H10 e10
  have F1 : Fr (ClS a) H H10 := by
    rw [← e10]; exact (Fr_sI ⟨by omega, by omega⟩).tr (Fr_fI ⟨by omega, by omega⟩)
  have k0 : hI H10 104 a 0 = Int32.ofNat C.1 := by
    rw [← e10, hI_fI, c3_g _ _ _ _ _ (by decide), hIs_i, if_pos rfl]; exact r.1
  have k1 : ∀ j, j < 16 → hI H10 4224 (a + 1) j = hI H 4224 (b + 1) j := fun j hj => by
    rw [← e10, hI_fI, c3_self, cpy0 hj, hIs_g _ _ _ _ _ _ (by decide)]
  have o1 : ∀ g x, (g = 4240 ∨ g = 4256 ∨ g = 4272) → b ≤ x → x < b + 11 → hI H10 g x = hI H g x := fun g x hg h1 h2 => F1.2.2.2.2.1 g x (fun k => by have := k.1; have := k.2; omega)
  have sa1 := fr_shCl F1 sa
  have sb1 := fr_shCl F1 sb
  clear e10
  obtain ⟨y1, y2, y3, y4⟩ := cA_y sa1
  obtain ⟨v1, v2, v3, v4⟩ := cA_y sb1
  refine ⟨b + 2, v1, v2, a + 2, y1, y2, by rw [v4]; decide, by rw [y4]; decide, ?_⟩
  rw [y3, v3]
  have F2 : Fr (ClS a) H10 (fI H10 4240 (a + 2) (va_cpy (hI H10 4240 (b + 2)) (hI H10 4240 (a + 2)) 0 0 16)) := Fr_fI ⟨by omega, by omega⟩
  have m0 : hI (fI H10 4240 (a + 2) (va_cpy (hI H10 4240 (b + 2)) (hI H10 4240 (a + 2)) 0 0 16)) 104 a 0 = Int32.ofNat C.1 := by rw [hI_fI, c3_g _ _ _ _ _ (by decide)]; exact k0
  have m1 : ∀ j, j < 16 → hI (fI H10 4240 (a + 2) (va_cpy (hI H10 4240 (b + 2)) (hI H10 4240 (a + 2)) 0 0 16)) 4224 (a + 1) j = hI H 4224 (b + 1) j := fun j hj => by rw [hI_fI, c3_g _ _ _ _ _ (by decide)]; exact k1 j hj
  have m2 : ∀ j, j < 16 → hI (fI H10 4240 (a + 2) (va_cpy (hI H10 4240 (b + 2)) (hI H10 4240 (a + 2)) 0 0 16)) 4240 (a + 2) j = hI H 4240 (b + 2) j := fun j hj => by rw [hI_fI, c3_self, cpy0 hj, o1 _ _ (Or.inl rfl) (by omega) (by omega)]
  generalize fI H10 4240 (a + 2) (va_cpy (hI H10 4240 (b + 2)) (hI H10 4240 (a + 2)) 0 0 16) = HA at *
  have F12 := F1.tr F2
  have sa2 := fr_shCl F2 sa1
  have sb2 := fr_shCl F2 sb1
  have o2 : ∀ g x, (g = 4240 ∨ g = 4256 ∨ g = 4272) → b ≤ x → x < b + 11 → hI HA g x = hI H g x := fun g x hg h1 h2 => F12.2.2.2.2.1 g x (fun k => by have := k.1; have := k.2; omega)
  obtain ⟨p1, p2, p3, p4⟩ := cA_p sa2
  obtain ⟨s1, s2, s3, s4⟩ := cA_p sb2
  refine ⟨b + 3, s1, s2, a + 3, p1, p2, by rw [s4]; decide, by rw [p4]; decide, ?_⟩
  rw [p3, s3]
  intro H28 e28
  have F3 : Fr (ClS a) HA H28 := by rw [← e28]; exact Fr_fI ⟨by omega, by omega⟩
  have z0 : hI H28 104 a 0 = Int32.ofNat C.1 := by rw [← e28, hI_fI, c3_g _ _ _ _ _ (by decide)]; exact m0
  have z1 : ∀ j, j < 16 → hI H28 4224 (a + 1) j = hI H 4224 (b + 1) j := fun j hj => by rw [← e28, hI_fI, c3_g _ _ _ _ _ (by decide)]; exact m1 j hj
  have z2 : ∀ j, j < 16 → hI H28 4240 (a + 2) j = hI H 4240 (b + 2) j := fun j hj => by rw [← e28, hI_fI, c3_g _ _ _ _ _ (by decide)]; exact m2 j hj
  have z3 : ∀ j, j < 16 → hI H28 4256 (a + 3) j = hI H 4256 (b + 3) j := fun j hj => by rw [← e28, hI_fI, c3_self, cpy0 hj, o2 _ _ (Or.inr (Or.inl rfl)) (by omega) (by omega)]
  have F13 := F12.tr F3
  have sa3 := fr_shCl F3 sa2
  have sb3 := fr_shCl F3 sb2
  have o3 : ∀ g x, (g = 4240 ∨ g = 4256 ∨ g = 4272) → b ≤ x → x < b + 11 → hI H28 g x = hI H g x := fun g x hg h1 h2 => F13.2.2.2.2.1 g x (fun k => by have := k.1; have := k.2; omega)
  clear e28
  obtain ⟨q1, q2, q3, q4⟩ := cA_q sa3
  obtain ⟨t1, t2, t3, t4⟩ := cA_q sb3
  refine ⟨b + 4, t1, t2, a + 4, q1, q2, by rw [t4]; decide, by rw [q4]; decide, ?_⟩
  rw [q3, t3]
  have F4 : Fr (ClS a) H28 (fI H28 4272 (a + 4) (va_cpy (hI H28 4272 (b + 4)) (hI H28 4272 (a + 4)) 0 0 16)) := Fr_fI ⟨by omega, by omega⟩
  refine K_judgeAll hok hn (fr_shCl F4 sa3) ⟨?_, fun i hi => ⟨?_, ?_, ?_, ?_⟩⟩ fun H' F' c' => hq H' ((F13.tr F4).tr (F'.mono fun g x k => JuS_Cl k)) c'
  · rw [hI_fI, c3_g _ _ _ _ _ (by decide)]; exact z0
  · rw [hI_fI, c3_g _ _ _ _ _ (by decide), z1 i (by omega)]; exact (r.2 i hi).1
  · rw [hI_fI, c3_g _ _ _ _ _ (by decide), z2 i (by omega)]; exact (r.2 i hi).2.1
  · rw [hI_fI, c3_g _ _ _ _ _ (by decide), z3 i (by omega)]; exact (r.2 i hi).2.2.1
  · rw [hI_fI, c3_self, cpy0 (by omega), o3 _ _ (Or.inr (Or.inr rfl)) (by omega) (by omega)]; exact (r.2 i hi).2.2.2
