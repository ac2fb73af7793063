
/-! ===== small naturals as ints ===== -/
theorem iN_toInt {n : Nat} (h : n < 2147483648) : (Int32.ofNat n).toInt = n := by
  have e : Int32.ofNat n = Int32.ofInt (n : Int) := rfl
  rw [e]; exact i32_of (by omega) (by omega)
theorem iN_cl {n : Nat} (h : n < 2147483648) : (Int32.ofNat n).toNatClampNeg = n := by
  have := iN_toInt h
  show (Int32.ofNat n).toInt.toNat = n
  omega
theorem vpi_of {n m : Nat} (h : n < m) (hm : m < 2147483648) : vp_in (Int32.ofNat n) m := by
  have h1 := iN_toInt (n := n) (by omega)
  have h2 := iN_cl (n := n) (by omega)
  unfold vp_in
  rw [i32_lt, h1, h2, i32_0]; omega
theorem vpi_i {x : Int32} {m : Nat} (h0 : 0 ≤ x.toInt) (h : x.toInt < m) : vp_in x m := by
  unfold vp_in
  have : x.toNatClampNeg = x.toInt.toNat := rfl
  rw [i32_lt, i32_0, this]; omega
theorem iN_inj {x : Int32} {n : Nat} (h : n < 2147483648) (e : x.toInt = n) : x = Int32.ofNat n := i32_ext (by rw [e, iN_toInt h])
theorem iN_add {n m : Nat} (h : n + m < 2147483648) : Int32.ofNat n + Int32.ofNat m = Int32.ofNat (n + m) := by
  refine iN_inj h ?_
  have h1 := iN_toInt (n := n) (by omega)
  have h2 := iN_toInt (n := m) (by omega)
  rw [i32_addx] <;> rw [h1, h2] <;> omega
theorem iN_inc {n : Nat} (h : n + 1 < 2147483648) : Int32.ofNat n + 1 = Int32.ofNat (n + 1) := iN_add (m := 1) h
theorem iN_eq {n m : Nat} (h : n < 2147483648) (h' : m < 2147483648) : Int32.ofNat n = Int32.ofNat m ↔ n = m := by
  rw [i32_eq, iN_toInt h, iN_toInt h']; omega
theorem iN_le {n m : Nat} (h : n < 2147483648) (h' : m < 2147483648) : Int32.ofNat n ≤ Int32.ofNat m ↔ n ≤ m := by
  rw [i32_le, iN_toInt h, iN_toInt h']; omega
theorem iN_lt {n m : Nat} (h : n < 2147483648) (h' : m < 2147483648) : Int32.ofNat n < Int32.ofNat m ↔ n < m := by
  rw [i32_lt, iN_toInt h, iN_toInt h']; omega
/-! ===== the class's tape ===== -/
def shTape (H : HP) (a : Nat) : Prop := tg H a = 8 ∧ hC H 800 a = some (a + 1) ∧ hT H (a + 1) = (4145, 60)
theorem isA_of {H : HP} {a t n e : Nat} (h : hT H a = (t, n)) (h1 : 4096 ≤ t) (h2 : t % 16 = e) : isA H a e := by
  unfold isA tg; rw [h]; exact ⟨h1, h2⟩
theorem tg_of {H : HP} {a t n : Nat} (h : hT H a = (t, n)) : tg H a = t := by unfold tg; rw [h]
theorem ln_of {H : HP} {a t n : Nat} (h : hT H a = (t, n)) : ln H a = n := by unfold ln; rw [h]
abbrev TP : Type := Nat × (Nat → Int32)
def lk (T : TP) (i : Nat) : Int32 := if i < T.1 then T.2 i else 0
def CT (H : HP) (a : Nat) (T : TP) (p : Nat) : Prop := shTape H a ∧ hI H 801 a 0 = Int32.ofNat T.1 ∧ T.1 ≤ 60 ∧ hI H 802 a 0 = Int32.ofNat p ∧ p ≤ T.1 ∧ (∀ i, i < T.1 → hI H 4145 (a + 1) i = T.2 i ∧ 1 ≤ (T.2 i).toInt ∧ (T.2 i).toInt ≤ 127)
def atT (H : HP) (a p : Nat) : HP := sI H 802 a 0 (Int32.ofNat p)
theorem atT_same {H : HP} {a p : Nat} {T : TP} (h : CT H a T p) : atT H a p = H := by
  obtain ⟨h1, h2, h3, h4, h5, h6⟩ := h
  unfold atT
  rw [← h4, sI_same]
theorem atT_atT (H : HP) (a p p' : Nat) : atT (atT H a p) a p' = atT H a p' := sI_sI _ _ _ _ _ _
theorem CT.at {H : HP} {a : Nat} {T : TP} {p p' : Nat} (h : CT H a T p) (hp : p' ≤ T.1) : CT (atT H a p') a T p' := by
  obtain ⟨h1, h2, h3, h4, h5, h6⟩ := h
  unfold atT
  refine ⟨h1, ?_, h3, ?_, hp, fun i hi => ?_⟩
  · rw [hI_sI, u3_g _ _ _ _ _ _ (by decide)]; exact h2
  · rw [hI_sI, u3_same]
  · rw [hI_sI, u3_g _ _ _ _ _ _ (by decide)]; exact h6 i hi
theorem lk_lo {T : TP} {H : HP} {a p : Nat} (h : CT H a T p) (i : Nat) : 0 ≤ (lk T i).toInt ∧ (lk T i).toInt ≤ 127 ∧ ((lk T i).toInt = 0 ↔ T.1 ≤ i) := by
  unfold lk
  split
  · rename_i hi
    have := (h.2.2.2.2.2 i hi).2
    omega
  · rw [i32_0]; omega
theorem K_look {d : Nat} {q : HP → Int32 → Prop} {H : HP} {a : Nat} {T : TP} {p k : Nat} {x : Int32} (h : CT H a T p) (hx : (p : Int) + x.toInt = k) (hq : q H (lk T k)) : CI (d + 1) 0 0 mX7_look [rv (some a), .int x] H q := by
  obtain ⟨⟨s1, s2, s3⟩, h2, h3, h4, h5, h6⟩ := h
  refine C_X7_look ?_
  unfold wb_X7_look_0
  have x1 := i32_lo x
  have x2 := i32_hi x
  by_cases hk : (k : Int) ≤ 2147483647
  · have e : hI H 802 a 0 + x = Int32.ofNat k := by
      refine iN_inj (by omega) ?_
      have := iN_toInt (n := p) (by omega)
      rw [h4, i32_addx] <;> rw [this] <;> omega
    rw [e, h2]
    have hk' : k < 2147483648 := by omega
    simp only [i32_lt, iN_toInt hk', iN_toInt (n := T.1) (by omega), i32_0]
    refine ⟨s1, fun h => by omega, fun _ => ⟨fun hl => ⟨a + 1, s2, isA_of s3 (by decide) (by decide), ?_, ?_⟩, fun hl => ?_⟩⟩
    · rw [ln_of s3]; exact vpi_of (by omega) (by decide)
    · rw [tg_of s3, iN_cl hk', (h6 k (by omega)).1]
      rwa [lk, if_pos (by omega)] at hq
    · rwa [lk, if_neg (by omega)] at hq
  · -- the sum wraps: below 0
    have e : hI H 802 a 0 + x < 0 := by
      have := iN_toInt (n := p) (by omega)
      rw [h4, i32_lt, i32_0, Int32.toInt_add, this]
      obtain ⟨j, e1, e2, e3⟩ := bw_spec ((p : Int) + x.toInt)
      omega
    refine ⟨s1, fun _ => ?_, fun h => absurd e h⟩
    rwa [lk, if_neg (by omega)] at hq
def isLet (c : Int32) : Bool := decide (97 ≤ c.toInt ∧ c.toInt ≤ 122)
def isFig (c : Int32) : Bool := decide (48 ≤ c.toInt ∧ c.toInt ≤ 57)
def isPow (c : Int32) : Bool := decide (49 ≤ c.toInt ∧ c.toInt ≤ 52)
theorem K_isLetter {d : Nat} {q : HP → Bool → Prop} {H : HP} {a : Nat} {T : TP} {p k : Nat} {x : Int32} (h : CT H a T p) (hx : (p : Int) + x.toInt = k) (hq : q H (isLet (lk T k))) : CZ (d + 2) 0 0 mX7_isLetter [rv (some a), .int x] H q := by
  refine C_X7_isLetter ?_
  unfold wb_X7_isLetter_0
  have e1 : (97 : Int32).toInt = 97 := rfl
  have e2 : (122 : Int32).toInt = 122 := rfl
  refine ⟨h.1.1, K_look h hx ?_⟩
  simp only [i32_lt, e1, e2]
  unfold isLet at hq
  refine ⟨fun c => ?_, fun c => ⟨fun c2 => ?_, fun c2 => ?_⟩⟩
  · rwa [decide_eq_false (by omega)] at hq
  · rwa [decide_eq_false (by omega)] at hq
  · rwa [decide_eq_true (by omega)] at hq
theorem K_isFigure {d : Nat} {q : HP → Bool → Prop} {H : HP} {a : Nat} {T : TP} {p k : Nat} {x : Int32} (h : CT H a T p) (hx : (p : Int) + x.toInt = k) (hq : q H (isFig (lk T k))) : CZ (d + 2) 0 0 mX7_isFigure [rv (some a), .int x] H q := by
  refine C_X7_isFigure ?_
  unfold wb_X7_isFigure_0
  have e1 : (48 : Int32).toInt = 48 := rfl
  have e2 : (57 : Int32).toInt = 57 := rfl
  refine ⟨h.1.1, K_look h hx ?_⟩
  simp only [i32_lt, e1, e2]
  unfold isFig at hq
  refine ⟨fun c => ?_, fun c => ⟨fun c2 => ?_, fun c2 => ?_⟩⟩
  · rwa [decide_eq_false (by omega)] at hq
  · rwa [decide_eq_false (by omega)] at hq
  · rwa [decide_eq_true (by omega)] at hq
theorem K_isPower {d : Nat} {q : HP → Bool → Prop} {H : HP} {a : Nat} {T : TP} {p : Nat} (h : CT H a T p) (hq : q H (isPow (lk T p))) : CZ (d + 2) 0 0 mX7_isPower [rv (some a)] H q := by
  refine C_X7_isPower ?_
  unfold wb_X7_isPower_0
  have e1 : (49 : Int32).toInt = 49 := rfl
  have e2 : (52 : Int32).toInt = 52 := rfl
  have hx : (p : Int) + (0 : Int32).toInt = p := by rw [i32_0]; omega
  unfold isPow at hq
  refine ⟨h.1.1, K_look h hx ⟨fun c => ?_, fun c => ⟨h.1.1, K_look h hx ⟨fun c2 => ?_, fun c2 => ?_⟩⟩⟩⟩
  · rw [i32_lt, e1] at c
    rwa [decide_eq_false (by omega)] at hq
  · rw [i32_lt, e2] at c2
    rwa [decide_eq_false (by omega)] at hq
  · rw [i32_lt, e1] at c
    rw [i32_lt, e2] at c2
    rwa [decide_eq_true (by omega)] at hq
theorem K_isAtEnd {d : Nat} {q : HP → Bool → Prop} {H : HP} {a : Nat} {T : TP} {p : Nat} (h : CT H a T p) (hq : q H (decide (T.1 ≤ p))) : CZ (d + 1) 0 0 mX7_isAtEnd [rv (some a)] H q := by
  obtain ⟨s, h2, h3, h4, h5, h6⟩ := h
  refine C_X7_isAtEnd ?_
  unfold wb_X7_isAtEnd_0
  rw [h4, h2, iN_lt (by omega) (by omega)]
  refine ⟨s.1, fun c => ?_, fun c => ?_⟩
  · rwa [decide_eq_false (by omega)] at hq
  · rwa [decide_eq_true (by omega)] at hq
theorem at_inc {H : HP} {a : Nat} {T : TP} {p : Nat} (h : CT H a T p) : sI H 802 a 0 (hI H 802 a 0 + (1 : Int32)) = atT H a (p + 1) := by
  obtain ⟨s, h2, h3, h4, h5, h6⟩ := h
  rw [h4, iN_inc (by omega)]; rfl
theorem K_takes {d : Nat} {q : HP → Bool → Prop} {H : HP} {a : Nat} {T : TP} {p : Nat} {x : Int32} (h : CT H a T p) (h1 : lk T p = x → q (atT H a (p + 1)) true) (h0 : lk T p ≠ x → q H false) : CZ (d + 2) 0 0 mX7_takes [rv (some a), .int x] H q := by
  refine C_X7_takes ?_
  unfold wb_X7_takes_0
  refine ⟨h.1.1, K_look (k := p) h (by rw [i32_0]; omega) ⟨fun c => ⟨h.1.1, ?_⟩, h0⟩⟩
  rw [at_inc h]; exact h1 c
theorem K_takeFigure {d : Nat} {q : HP → Int32 → Prop} {H : HP} {a : Nat} {T : TP} {p : Nat} (h : CT H a T p) (hp : p < T.1) (hq : q (atT H a (p + 1)) (lk T p - 48)) : CI (d + 2) 0 0 mX7_takeFigure [rv (some a)] H q := by
  refine C_X7_takeFigure ?_
  unfold wb_X7_takeFigure_0
  rw [at_inc h]
  have e : (-1 : Int32).toInt = -1 := rfl
  exact ⟨h.1.1, K_look (k := p) (h.at (p' := p + 1) hp) (by rw [e]; omega) hq⟩
theorem K_takePower {d : Nat} {q : HP → Int32 → Prop} {H : HP} {a : Nat} {T : TP} {p : Nat} (h : CT H a T p) (h1 : isPow (lk T p) = true → q (atT H a (p + 1)) (lk T p - 48)) (h0 : isPow (lk T p) = false → q H 1) : CI (d + 3) 0 0 mX7_takePower [rv (some a)] H q := by
  refine C_X7_takePower ?_
  unfold wb_X7_takePower_0
  refine ⟨h.1.1, K_isPower h ⟨h0, fun c => ⟨h.1.1, K_takeFigure h ?_ (h1 c)⟩⟩⟩
  refine Classical.byContradiction fun hn => ?_
  have := (lk_lo h p).2.2.mpr (by omega)
  unfold isPow at c
  rw [decide_eq_true_iff] at c
  omega
/-- how many bytes of a sort stand in a row from a place on, up to so many -/
def run (P : Int32 → Bool) (T : TP) : Nat → Nat → Nat
  | 0, _ => 0
  | n + 1, p => if P (lk T p) = true then run P T n (p + 1) + 1 else 0
theorem run_in {P : Int32 → Bool} (hP : P 0 = false) {T : TP} : ∀ (n p : Nat), p ≤ T.1 → p + run P T n p ≤ T.1 := by
  intro n
  induction n with
  | zero => intro p h; exact h
  | succ n ih =>
    intro p h
    unfold run
    split
    · rename_i hc
      have : p < T.1 := by
        refine Classical.byContradiction fun hn => ?_
        rw [lk, if_neg hn, hP] at hc
        cases hc
      have := ih (p + 1) this
      omega
    · exact h
theorem run_le {P : Int32 → Bool} {T : TP} : ∀ (n p : Nat), run P T n p ≤ n := by
  intro n
  induction n with
  | zero => intro p; exact Nat.le_refl _
  | succ n ih =>
    intro p
    unfold run
    split
    · exact Nat.succ_le_succ (ih _)
    · omega
theorem K_takeName_loop {d : Nat} {q : HP → Int32 → Prop} {a : Nat} {T : TP} : ∀ (n j p : Nat) (H : HP), CT H a T p → n + j = 4 → q (atT H a (p + run isLet T n p)) (Int32.ofNat (j + run isLet T n p)) → L_X7_takeName_2 (d + 2) q a (Int32.ofNat j) H := by
  intro n
  induction n with
  | zero =>
    intro j p H h hn hq
    refine T_X7_takeName_2 ?_
    unfold wb_X7_takeName_2
    have : j = 4 := by omega
    subst this
    rw [run, Nat.add_zero, Nat.add_zero, atT_same h] at hq
    exact ⟨fun _ => hq, fun h => absurd (by decide) h⟩
  | succ n ih =>
    intro j p H h hn hq
    refine T_X7_takeName_2 ?_
    unfold wb_X7_takeName_2
    refine ⟨fun c => ?_, fun _ => ⟨h.1.1, K_isLetter (k := p) h (by rw [i32_0]; omega) ⟨fun c => ?_, fun c => ⟨h.1.1, ?_⟩⟩⟩⟩
    · have e : (4 : Int32) = Int32.ofNat 4 := rfl
      rw [e, iN_le (by omega) (by omega)] at c
      omega
    · rw [run, if_neg (by rw [c]; decide), Nat.add_zero, Nat.add_zero, atT_same h] at hq
      exact hq
    · rw [at_inc h, iN_inc (by omega)]
      have hp : p < T.1 := by
        refine Classical.byContradiction fun hn => ?_
        rw [lk, if_neg hn] at c
        exact absurd c (by decide)
      refine ih (j + 1) (p + 1) _ (h.at hp) (by omega) ?_
      rw [run, if_pos c] at hq
      rw [atT_atT]
      have e1 : p + 1 + run isLet T n (p + 1) = p + (run isLet T n (p + 1) + 1) := by omega
      have e2 : j + 1 + run isLet T n (p + 1) = j + (run isLet T n (p + 1) + 1) := by omega
      rw [e1, e2]; exact hq
theorem K_takeName {d : Nat} {q : HP → Int32 → Prop} {H : HP} {a : Nat} {T : TP} {p : Nat} (h : CT H a T p) (hq : q (atT H a (p + run isLet T 4 p)) (Int32.ofNat (run isLet T 4 p))) : CI (d + 3) 0 0 mX7_takeName [rv (some a)] H q := by
  refine C_X7_takeName ?_
  unfold wb_X7_takeName_0
  exact K_takeName_loop 4 0 p H h rfl (by rw [Nat.zero_add]; exact hq)
/-- figures read as a number -/
def numb (T : TP) : Nat → Nat → Int32 → Int32
  | 0, _, v => v
  | n + 1, p, v => if isFig (lk T p) = true then numb T n (p + 1) (v * 10 + (lk T p - 48)) else v
theorem K_takeNumber_loop {d : Nat} {q : HP → Int32 → Prop} {a : Nat} {T : TP} : ∀ (n j p : Nat) (v : Int32) (H : HP), CT H a T p → n + j = 6 → q (atT H a (p + run isFig T n p)) (numb T n p v) → L_X7_takeNumber_14 (d + 2) q a v (Int32.ofNat j) H := by
  intro n
  induction n with
  | zero =>
    intro j p v H h hn hq
    refine T_X7_takeNumber_14 ?_
    unfold wb_X7_takeNumber_14
    have : j = 6 := by omega
    subst this
    rw [run, Nat.add_zero, atT_same h] at hq
    exact ⟨fun _ => hq, fun h => absurd (by decide) h⟩
  | succ n ih =>
    intro j p v H h hn hq
    refine T_X7_takeNumber_14 ?_
    unfold wb_X7_takeNumber_14
    refine ⟨fun c => ?_, fun _ => ⟨h.1.1, K_isFigure (k := p) h (by rw [i32_0]; omega) ⟨fun c => ?_, fun c => ⟨h.1.1, ?_⟩⟩⟩⟩
    · have e : (6 : Int32) = Int32.ofNat 6 := rfl
      rw [e, iN_le (by omega) (by omega)] at c
      omega
    · have hc : ¬ isFig (lk T p) = true := by rw [c]; decide
      rw [run, if_neg hc, numb, if_neg hc, Nat.add_zero, atT_same h] at hq
      exact hq
    · have hp : p < T.1 := by
        refine Classical.byContradiction fun hn => ?_
        rw [lk, if_neg hn] at c
        exact absurd c (by decide)
      refine K_takeFigure h hp ?_
      rw [iN_inc (by omega)]
      refine ih (j + 1) (p + 1) _ _ (h.at hp) (by omega) ?_
      rw [run, if_pos c, numb, if_pos c] at hq
      rw [atT_atT]
      have e1 : p + 1 + run isFig T n (p + 1) = p + (run isFig T n (p + 1) + 1) := by omega
      rw [e1]; exact hq
theorem K_takeNumber {d : Nat} {q : HP → Int32 → Prop} {H : HP} {a : Nat} {T : TP} {p : Nat} (h : CT H a T p) (h1 : isFig (lk T p) = true → q (atT H a (p + run isFig T 6 p)) (numb T 6 p 0)) (h0 : isFig (lk T p) = false → q H (-1)) : CI (d + 3) 0 0 mX7_takeNumber [rv (some a)] H q := by
  refine C_X7_takeNumber ?_
  unfold wb_X7_takeNumber_0
  refine ⟨h.1.1, K_isFigure (k := p) h (by rw [i32_0]; omega) ⟨fun c => ?_, fun c => h0 c⟩⟩
  exact K_takeNumber_loop 6 0 p 0 H h rfl (h1 c)
