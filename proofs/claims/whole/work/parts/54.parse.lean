
/-! ===== a formula read: what both sides do, as functions of the tape ===== -/
abbrev PRow : Type := Nat × (Nat → Nat) × (Nat → Nat) × (Nat → Nat) × Nat
abbrev RS : Type := Nat × Nat × Nat × Bool × PRow
abbrev PS : Type := Nat × (Nat → RS)
abbrev PRes : Type := Nat ⊕ (Nat × PS)
def pR0 : PRow := (0, fun _ => 0, fun _ => 0, fun _ => 0, 1)
def setP (R : PRow) (i th fr len : Nat) : PRow := (i + 1, putC R.2.1 i th, putC R.2.2.1 i fr, putC R.2.2.2.1 i len, R.2.2.2.2)
def figP (R : PRow) (g : Nat) : PRow := (R.1, R.2.1, R.2.2.1, R.2.2.2.1, g)
def pushS (st : PS) (r : RS) : PS := (st.1 + 1, fun i => if i = st.1 then r else st.2 i)
def enclR (r : RS) : RS := (r.1, r.2.1, r.2.2.1, true, r.2.2.2.2)
def enclS (st : PS) : PS := (st.1, fun i => if i + 1 = st.1 then enclR (st.2 i) else st.2 i)
def pw10 (m : Nat) : Nat := if m = 1 then 100 else if m = 2 then 10 else 1
/-- a number in thousandths -/
def pAmt (T : TP) (p : Nat) : Nat ⊕ (Nat × Nat) :=
  if isFig (lk T (p + run isFig T 6 p)) = true then .inl (p + run isFig T 6 p)
  else if lk T (p + run isFig T 6 p) = 46 then
    (if run isFig T 3 (p + run isFig T 6 p + 1) = 0 ∨ isFig (lk T (p + run isFig T 6 p + 1 + run isFig T 3 (p + run isFig T 6 p + 1))) = true then .inl (p + run isFig T 6 p + 1 + run isFig T 3 (p + run isFig T 6 p + 1))
     else .inr ((numb T 6 p 0).toInt.toNat * 1000 + (numb T 3 (p + run isFig T 6 p + 1) 0).toInt.toNat * pw10 (run isFig T 3 (p + run isFig T 6 p + 1)), p + run isFig T 6 p + 1 + run isFig T 3 (p + run isFig T 6 p + 1)))
  else .inr ((numb T 6 p 0).toInt.toNat * 1000, p + run isFig T 6 p)
def pNam (T : TP) (p : Nat) : Nat ⊕ Nat := if run isLet T 4 p = 0 ∨ isLet (lk T (p + run isLet T 4 p)) = true then .inl (p + run isLet T 4 p) else .inr (run isLet T 4 p)
def pOwn (T : TP) (p : Nat) : Bool := isPow (lk T p) && !isFig (lk T (p + 1)) && !isLet (lk T (p + 1)) && !decide (lk T (p + 1) = 46)
def figN (T : TP) (p : Nat) : Nat := (lk T p - 48).toInt.toNat
def pMix (T : TP) : Nat → Nat → Nat → PRow → Nat ⊕ (Nat × PRow)
  | 0, _, p, R => .inr (p, R)
  | n + 1, i, p, R => if isFig (lk T p) = true then (match pAmt T p with
    | .inl f => .inl f
    | .inr (v, p1) => match pNam T p1 with
      | .inl f => .inl f
      | .inr l => pMix T n (i + 1) (p1 + l) (setP R i v p1 l)) else .inr (p, R)
def pNumd (T : TP) (p : Nat) : Nat ⊕ (Nat × PRow) := match pAmt T p with
  | .inl f => .inl f
  | .inr (v, p1) => if isLet (lk T p1) = true then (match pNam T p1 with
    | .inl f => .inl f
    | .inr l => if pOwn T (p1 + l) = true then .inr (p1 + l + 1, figP (setP pR0 0 v p1 l) (figN T (p1 + l))) else pMix T 3 1 (p1 + l) (setP pR0 0 v p1 l)) else .inr (p1, (0, putC pR0.2.1 0 v, pR0.2.2.1, pR0.2.2.2.1, 1))
def pAtom (T : TP) (p : Nat) : Nat ⊕ (Nat × PRow) := if isFig (lk T p) = true then pNumd T p else match pNam T p with
  | .inl f => .inl f
  | .inr l => if isPow (lk T (p + l)) = true then .inr (p + l + 1, figP (setP pR0 0 1000 p l) (figN T (p + l))) else .inr (p + l, setP pR0 0 1000 p l)
def pPart (S : Option (Nat → PS → PRes)) (T : TP) (p : Nat) (st : PS) : PRes :=
  if lk T p = 40 then (match S with
    | none => .inl p
    | some S => match S (p + 1) st with
      | .inl f => .inl f
      | .inr (p1, st1) => if lk T p1 = 41 then .inr (p1 + 1, enclS st1) else .inl p1)
  else match pAtom T p with
    | .inl f => .inl f
    | .inr (p1, R) => .inr (p1, pushS st (0, 0, 0, false, R))
def opR (k a b : Nat) : RS := (k, a, b, false, pR0)
def pLoop (P : Nat → PS → PRes) (T : TP) (c1 c2 : Int32) (k1 k2 : Nat) : Nat → Nat → PS → PRes
  | 0, p, st => .inr (p, st)
  | n + 1, p, st => if lk T p = c1 ∨ lk T p = c2 then (match P (p + 1) st with
    | .inl f => .inl f
    | .inr (p1, st1) => pLoop P T c1 c2 k1 k2 n p1 (pushS st1 (opR (if lk T p = c1 then k1 else k2) (st.1 - 1) (st1.1 - 1)))) else .inr (p, st)
def pSeq (P : Nat → PS → PRes) (T : TP) (c1 c2 : Int32) (k1 k2 : Nat) (p : Nat) (st : PS) : PRes := match P p st with
  | .inl f => .inl f
  | .inr (p1, st1) => pLoop P T c1 c2 k1 k2 60 p1 st1
def pTerm (S : Option (Nat → PS → PRes)) (T : TP) : Nat → PS → PRes := pSeq (pPart S T) T 42 47 1 2
def pSum (S : Option (Nat → PS → PRes)) (T : TP) : Nat → PS → PRes := pSeq (pTerm S T) T 43 45 3 4
def pS (T : TP) : Nat → Nat → PS → PRes
  | 0 => pSum none T
  | r + 1 => pSum (some (pS T r)) T
/-- the whole: a fault, or the rows and whether there is a sign of equality -/
def pF (T : TP) : Nat ⊕ (PS × Bool × Nat × Nat) := match pS T 4 0 (0, fun _ => opR 0 0 0) with
  | .inl f => .inl f
  | .inr (p1, st1) => if lk T p1 = 61 then (match pS T 4 (p1 + 1) st1 with
    | .inl f => .inl f
    | .inr (p2, st2) => if p2 < T.1 then .inl p2 else .inr (pushS st2 (opR 5 (st1.1 - 1) (st2.1 - 1)), true, st1.1 - 1, st2.1 - 1))
    else if p1 < T.1 then .inl p1 else .inr (st1, false, 0, 0)
/-! what holds of the rows -/
def okP (T : TP) (R : PRow) : Prop := R.1 ≤ 4 ∧ 1 ≤ R.2.2.2.2 ∧ R.2.2.2.2 ≤ 4 ∧ (∀ i, R.2.1 i < 1000000000) ∧ (∀ i, i < R.1 → R.2.2.1 i + R.2.2.2.1 i ≤ T.1 ∧ R.2.2.2.1 i ≤ 4) ∧ (R.1 ≠ 1 → R.2.2.2.2 = 1)
def okRow (T : TP) (i : Nat) (r : RS) : Prop := (r.1 = 0 ∧ okP T r.2.2.2.2) ∨ (1 ≤ r.1 ∧ r.1 ≤ 5 ∧ r.2.1 < i ∧ r.2.2.1 < i)
def okSt (T : TP) (st : PS) : Prop := ∀ i, i < st.1 → okRow T i (st.2 i)
theorem numb_bd {T : TP} : ∀ (n p : Nat) (v : Int32) (M : Int), 0 ≤ v.toInt → v.toInt ≤ M → (M + 1) * 10 ^ n ≤ 2147483647 → 0 ≤ (numb T n p v).toInt ∧ (numb T n p v).toInt ≤ (M + 1) * 10 ^ n - 1
  | 0, p, v, M, h0, h1, h2 => by
    show 0 ≤ v.toInt ∧ v.toInt ≤ (M + 1) * 10 ^ 0 - 1
    rw [Int.pow_zero]; omega
  | n + 1, p, v, M, h0, h1, h2 => by
    unfold numb
    have hp : (1 : Int) ≤ 10 ^ n := Int.pow_pos (by decide)
    have e1 : (M + 1) * 10 ^ (n + 1) = (10 * M + 9 + 1) * 10 ^ n := by
      rw [Int.pow_succ]
      have : 10 * M + 9 + 1 = 10 * (M + 1) := by omega
      rw [this, Int.mul_comm (10 ^ n) 10, ← Int.mul_assoc, Int.mul_comm (M + 1) 10]
    have hM : M + 1 ≤ (M + 1) * 10 ^ n := by
      have := Int.mul_le_mul_of_nonneg_left hp (show (0 : Int) ≤ M + 1 by omega)
      omega
    have hM2 : 10 * M + 9 + 1 ≤ (10 * M + 9 + 1) * 10 ^ n := by
      have := Int.mul_le_mul_of_nonneg_left hp (show (0 : Int) ≤ 10 * M + 9 + 1 by omega)
      omega
    rw [e1] at h2 ⊢
    split
    · rename_i hf
      unfold isFig at hf
      rw [decide_eq_true_iff] at hf
      have e48 : (48 : Int32).toInt = 48 := rfl
      have e10 : (10 : Int32).toInt = 10 := rfl
      have es : (lk T p - 48).toInt = (lk T p).toInt - 48 := by rw [i32_subx] <;> rw [e48] <;> omega
      have em : (v * 10).toInt = v.toInt * 10 := by rw [i32_mulx] <;> rw [e10] <;> omega
      have ea : (v * 10 + (lk T p - 48)).toInt = v.toInt * 10 + ((lk T p).toInt - 48) := by rw [i32_addx] <;> rw [em, es] <;> omega
      exact numb_bd n (p + 1) _ (10 * M + 9) (by omega) (by omega) h2
    · omega
theorem numb6 {T : TP} {p : Nat} : 0 ≤ (numb T 6 p 0).toInt ∧ (numb T 6 p 0).toInt ≤ 999999 := by
  have := numb_bd (T := T) 6 p 0 0 (by decide) (by decide) (by decide)
  have e : ((0 : Int) + 1) * 10 ^ 6 = 1000000 := by decide
  rw [e] at this; omega
theorem numb_run {T : TP} : ∀ (n p : Nat) (v : Int32) (M : Int), 0 ≤ v.toInt → v.toInt ≤ M → (M + 1) * 10 ^ n ≤ 2147483647 → (numb T n p v).toInt ≤ (M + 1) * 10 ^ (run isFig T n p) - 1
  | 0, p, v, M, h0, h1, h2 => by
    show v.toInt ≤ (M + 1) * 10 ^ 0 - 1
    rw [Int.pow_zero]; omega
  | n + 1, p, v, M, h0, h1, h2 => by
    unfold numb run
    have hp : (1 : Int) ≤ 10 ^ n := Int.pow_pos (by decide)
    have e1 : ∀ k : Nat, (M + 1) * 10 ^ (k + 1) = (10 * M + 9 + 1) * 10 ^ k := fun k => by
      rw [Int.pow_succ]
      have : 10 * M + 9 + 1 = 10 * (M + 1) := by omega
      rw [this, Int.mul_comm (10 ^ k) 10, ← Int.mul_assoc, Int.mul_comm (M + 1) 10]
    have hM2 : 10 * M + 9 + 1 ≤ (10 * M + 9 + 1) * 10 ^ n := by
      have := Int.mul_le_mul_of_nonneg_left hp (show (0 : Int) ≤ 10 * M + 9 + 1 by omega)
      omega
    rw [e1] at h2
    split
    · rename_i hf
      unfold isFig at hf
      rw [decide_eq_true_iff] at hf
      have e48 : (48 : Int32).toInt = 48 := rfl
      have e10 : (10 : Int32).toInt = 10 := rfl
      have es : (lk T p - 48).toInt = (lk T p).toInt - 48 := by rw [i32_subx] <;> rw [e48] <;> omega
      have em : (v * 10).toInt = v.toInt * 10 := by rw [i32_mulx] <;> rw [e10] <;> omega
      have ea : (v * 10 + (lk T p - 48)).toInt = v.toInt * 10 + ((lk T p).toInt - 48) := by rw [i32_addx] <;> rw [em, es] <;> omega
      rw [e1]
      exact numb_run n (p + 1) _ (10 * M + 9) (by omega) (by omega) h2
    · rw [Int.pow_zero]; omega
theorem run3 {T : TP} {p : Nat} : run isFig T 3 p = 0 ∨ run isFig T 3 p = 1 ∨ run isFig T 3 p = 2 ∨ run isFig T 3 p = 3 := by
  have := run_le (P := isFig) (T := T) 3 p
  omega
theorem numb3 {T : TP} {p : Nat} : 0 ≤ (numb T 3 p 0).toInt ∧ (numb T 3 p 0).toInt ≤ 999 ∧ (run isFig T 3 p ≠ 0 → (numb T 3 p 0).toInt.toNat * pw10 (run isFig T 3 p) < 1000) := by
  have h := numb_bd (T := T) 3 p 0 0 (by decide) (by decide) (by decide)
  have e : ((0 : Int) + 1) * 10 ^ 3 = 1000 := by decide
  rw [e] at h
  have k := numb_run (T := T) 3 p 0 0 (by decide) (by decide) (by decide)
  refine ⟨by omega, by omega, fun hne => ?_⟩
  unfold pw10
  rcases run3 (T := T) (p := p) with r | r | r | r
  · exact absurd r hne
  · rw [r] at k ⊢
    have e : ((0 : Int) + 1) * 10 ^ 1 = 10 := by decide
    rw [e] at k
    rw [if_pos rfl]; omega
  · rw [r] at k ⊢
    have e : ((0 : Int) + 1) * 10 ^ 2 = 100 := by decide
    rw [e] at k
    rw [if_neg (by decide), if_pos rfl]; omega
  · rw [r] at k ⊢
    have e : ((0 : Int) + 1) * 10 ^ 3 = 1000 := by decide
    rw [e] at k
    rw [if_neg (by decide), if_neg (by decide)]; omega
theorem fig0 : isFig 0 = false := by decide
theorem let0 : isLet 0 = false := by decide
theorem run_pos {P : Int32 → Bool} {T : TP} {n p : Nat} (hn : 0 < n) (h : P (lk T p) = true) : 0 < run P T n p := by
  cases n with
  | zero => omega
  | succ n => unfold run; rw [if_pos h]; omega
theorem pAmt_in {T : TP} {p : Nat} (hp : p ≤ T.1) (hf : isFig (lk T p) = true) : (∀ f, pAmt T p = .inl f → p < f ∧ f ≤ T.1) ∧ (∀ v p1, pAmt T p = .inr (v, p1) → v < 1000000000 ∧ p < p1 ∧ p1 ≤ T.1) := by
  have r1 := run_in fig0 (T := T) 6 p hp
  have r0 := run_pos (T := T) (n := 6) (by decide) hf
  have n6 := numb6 (T := T) (p := p)
  unfold pAmt
  by_cases h1 : isFig (lk T (p + run isFig T 6 p)) = true
  · rw [if_pos h1]
    refine ⟨fun f h => by cases h; omega, fun v p1 h => (by cases h)⟩
  · rw [if_neg h1]
    by_cases h2 : lk T (p + run isFig T 6 p) = 46
    · rw [if_pos h2]
      have hlt : p + run isFig T 6 p < T.1 := lk_lt h2 (by decide)
      have r2 := run_in fig0 (T := T) 3 (p + run isFig T 6 p + 1) hlt
      have n3 := numb3 (T := T) (p := p + run isFig T 6 p + 1)
      by_cases h3 : run isFig T 3 (p + run isFig T 6 p + 1) = 0 ∨ isFig (lk T (p + run isFig T 6 p + 1 + run isFig T 3 (p + run isFig T 6 p + 1))) = true
      · rw [if_pos h3]
        refine ⟨fun f h => by cases h; omega, fun v p1 h => (by cases h)⟩
      · rw [if_neg h3]
        have n3' := n3.2.2 (fun k => h3 (Or.inl k))
        refine ⟨fun f h => (by cases h), fun v p1 h => ?_⟩
        injection h with h
        injection h with h4 h5
        refine ⟨?_, by omega, by omega⟩
        rw [← h4]; omega
    · rw [if_neg h2]
      refine ⟨fun f h => (by cases h), fun v p1 h => ?_⟩
      injection h with h
      injection h with h4 h5
      refine ⟨by omega, by omega, by omega⟩
theorem pNam_in {T : TP} {p : Nat} (hp : p ≤ T.1) : (∀ f, pNam T p = .inl f → f ≤ T.1) ∧ (∀ l, pNam T p = .inr l → 1 ≤ l ∧ l ≤ 4 ∧ p + l ≤ T.1 ∧ l = run isLet T 4 p) := by
  have r1 := run_in let0 (T := T) 4 p hp
  have r2 := run_le (P := isLet) (T := T) 4 p
  unfold pNam
  split
  · exact ⟨fun f h => by cases h; omega, fun l h => (by cases h)⟩
  · rename_i h
    refine ⟨fun f h => (by cases h), fun l e => ?_⟩
    injection e with e
    have : run isLet T 4 p ≠ 0 := fun k => h (Or.inl k)
    exact ⟨by omega, by omega, by omega, e.symm⟩
theorem pow_lt' {T : TP} {p : Nat} (h : isPow (lk T p) = true) : p < T.1 ∧ 1 ≤ figN T p ∧ figN T p ≤ 4 ∧ (lk T p - 48) = Int32.ofNat (figN T p) := by
  have hlt : p < T.1 := by
    refine Classical.byContradiction fun hn => ?_
    rw [lk, if_neg hn] at h
    exact absurd h (by decide)
  unfold isPow at h
  rw [decide_eq_true_iff] at h
  have e48 : (48 : Int32).toInt = 48 := rfl
  have es : (lk T p - 48).toInt = (lk T p).toInt - 48 := by rw [i32_subx] <;> rw [e48] <;> omega
  unfold figN
  exact ⟨hlt, by omega, by omega, iN_inj (by omega) (by omega)⟩
theorem okP_set {T : TP} {R : PRow} {i th fr len : Nat} (h : okP T R) (hi : i < 4) (hR : R.1 = i) (ht : th < 1000000000) (hf : fr + len ≤ T.1) (hl : len ≤ 4) (hg : R.2.2.2.2 = 1) : okP T (setP R i th fr len) := by
  obtain ⟨h1, h2, h3, h4, h5, h6⟩ := h
  refine ⟨by show i + 1 ≤ 4; omega, h2, h3, fun j => ?_, fun j hj => ?_, fun _ => hg⟩
  · show putC R.2.1 i th j < _
    unfold putC
    split
    · exact ht
    · exact h4 j
  · have hj : j < i + 1 := hj
    show putC R.2.2.1 i fr j + putC R.2.2.2.1 i len j ≤ T.1 ∧ putC R.2.2.2.1 i len j ≤ 4
    unfold putC
    by_cases e : j = i
    · rw [if_pos e, if_pos e]; exact ⟨hf, hl⟩
    · rw [if_neg e, if_neg e]; exact h5 j (by omega)
theorem okP_0 {T : TP} : okP T pR0 := ⟨by decide, by decide, by decide, fun _ => (show 0 < 1000000000 by decide), fun i hi => (by cases hi), fun _ => rfl⟩
theorem pMix_in {T : TP} : ∀ (n i p : Nat) (R : PRow), p ≤ T.1 → n + i = 4 → 1 ≤ i → R.1 = i → okP T R → R.2.2.2.2 = 1 → (∀ f, pMix T n i p R = .inl f → f ≤ T.1) ∧ (∀ p1 R1, pMix T n i p R = .inr (p1, R1) → p ≤ p1 ∧ p1 ≤ T.1 ∧ okP T R1 ∧ 1 ≤ R1.1)
  | 0, i, p, R, hp, hi, h1, hR, ok, hg => ⟨fun f h => (by cases h), fun p1 R1 h => by cases h; exact ⟨Nat.le_refl _, hp, ok, by omega⟩⟩
  | n + 1, i, p, R, hp, hi, h1, hR, ok, hg => by
    unfold pMix
    by_cases hf : isFig (lk T p) = true
    · rw [if_pos hf]
      obtain ⟨a1, a2⟩ := pAmt_in hp hf
      cases ha : pAmt T p with
      | inl f => exact ⟨fun f' h => by cases h; exact (a1 f ha).2, fun p1 R1 h => (by cases h)⟩
      | inr vp =>
        obtain ⟨v, p1⟩ := vp
        obtain ⟨b1, b2, b3⟩ := a2 v p1 ha
        obtain ⟨c1, c2⟩ := pNam_in b3
        simp only
        cases hn : pNam T p1 with
        | inl f => exact ⟨fun f' h => by cases h; exact c1 f hn, fun p1 R1 h => (by cases h)⟩
        | inr l =>
          obtain ⟨d1, d2, d3, -⟩ := c2 l hn
          simp only
          obtain ⟨e1, e2⟩ := pMix_in n (i + 1) (p1 + l) (setP R i v p1 l) d3 (by omega) (by omega) rfl (okP_set ok (by omega) hR b1 (by omega) d2 hg) hg
          exact ⟨e1, fun p2 R2 h => by have := e2 p2 R2 h; exact ⟨by omega, this.2⟩⟩
    · rw [if_neg hf]
      exact ⟨fun f h => (by cases h), fun p1 R1 h => by cases h; exact ⟨Nat.le_refl _, hp, ok, by omega⟩⟩
theorem okP_fig {T : TP} {R : PRow} {g : Nat} (h : okP T R) (h1 : R.1 = 1) (hg : 1 ≤ g ∧ g ≤ 4) : okP T (figP R g) := by
  obtain ⟨a1, a2, a3, a4, a5, a6⟩ := h
  exact ⟨a1, hg.1, hg.2, a4, a5, fun k => absurd h1 k⟩
theorem pAtom_in {T : TP} {p : Nat} (hp : p ≤ T.1) : (∀ f, pAtom T p = .inl f → f ≤ T.1) ∧ (∀ p1 R, pAtom T p = .inr (p1, R) → p < p1 ∧ p1 ≤ T.1 ∧ okP T R) := by
  unfold pAtom
  by_cases hf : isFig (lk T p) = true
  · rw [if_pos hf]
    unfold pNumd
    obtain ⟨a1, a2⟩ := pAmt_in hp hf
    cases ha : pAmt T p with
    | inl f => exact ⟨fun f' h => by cases h; exact (a1 f ha).2, fun p1 R1 h => (by cases h)⟩
    | inr vp =>
      obtain ⟨v, p1⟩ := vp
      obtain ⟨b1, b2, b3⟩ := a2 v p1 ha
      simp only
      by_cases hl : isLet (lk T p1) = true
      · rw [if_pos hl]
        obtain ⟨c1, c2⟩ := pNam_in b3
        cases hn : pNam T p1 with
        | inl f => exact ⟨fun f' h => by cases h; exact c1 f hn, fun p1 R1 h => (by cases h)⟩
        | inr l =>
          obtain ⟨d1, d2, d3, -⟩ := c2 l hn
          simp only
          have ok1 : okP T (setP pR0 0 v p1 l) := okP_set okP_0 (by decide) rfl b1 (by omega) d2 rfl
          by_cases ho : pOwn T (p1 + l) = true
          · rw [if_pos ho]
            have hpw : isPow (lk T (p1 + l)) = true := by
              unfold pOwn at ho
              rw [Bool.and_eq_true, Bool.and_eq_true, Bool.and_eq_true] at ho
              exact ho.1.1.1
            obtain ⟨q1, q2, q3, -⟩ := pow_lt' hpw
            refine ⟨fun f h => (by cases h), fun p2 R2 h => ?_⟩
            injection h with h
            injection h with h4 h5
            subst h4; subst h5
            exact ⟨by omega, by omega, okP_fig ok1 rfl ⟨q2, q3⟩⟩
          · rw [if_neg ho]
            obtain ⟨e1, e2⟩ := pMix_in 3 1 (p1 + l) (setP pR0 0 v p1 l) d3 (by decide) (by decide) rfl ok1 rfl
            exact ⟨e1, fun p2 R2 h => by have := e2 p2 R2 h; exact ⟨by omega, this.2.1, this.2.2.1⟩⟩
      · rw [if_neg hl]
        refine ⟨fun f h => (by cases h), fun p2 R2 h => ?_⟩
        injection h with h
        injection h with h4 h5
        subst h4; subst h5
        refine ⟨b2, b3, (show 0 ≤ 4 by omega), (show 1 ≤ 1 by omega), (show 1 ≤ 4 by omega), fun i => ?_, fun i hi => (by cases hi), fun _ => rfl⟩
        show putC (fun _ => 0) 0 v i < _
        unfold putC
        split
        · exact b1
        · show 0 < 1000000000
          omega
  · rw [if_neg hf]
    obtain ⟨c1, c2⟩ := pNam_in hp
    cases hn : pNam T p with
    | inl f => exact ⟨fun f' h => by cases h; exact c1 f hn, fun p1 R1 h => (by cases h)⟩
    | inr l =>
      obtain ⟨d1, d2, d3, -⟩ := c2 l hn
      simp only
      have ok1 : okP T (setP pR0 0 1000 p l) := okP_set okP_0 (by decide) rfl (by decide) (by omega) d2 rfl
      by_cases ho : isPow (lk T (p + l)) = true
      · rw [if_pos ho]
        obtain ⟨q1, q2, q3, -⟩ := pow_lt' ho
        refine ⟨fun f h => (by cases h), fun p2 R2 h => ?_⟩
        injection h with h
        injection h with h4 h5
        subst h4; subst h5
        exact ⟨by omega, by omega, okP_fig ok1 rfl ⟨q2, q3⟩⟩
      · rw [if_neg ho]
        refine ⟨fun f h => (by cases h), fun p2 R2 h => ?_⟩
        injection h with h
        injection h with h4 h5
        subst h4; subst h5
        exact ⟨by omega, by omega, ok1⟩
def PInv (T : TP) (P : Nat → PS → PRes) : Prop := ∀ p st, p ≤ T.1 → okSt T st → (∀ f, P p st = .inl f → f ≤ T.1) ∧ (∀ p1 st1, P p st = .inr (p1, st1) → p < p1 ∧ p1 ≤ T.1 ∧ st.1 < st1.1 ∧ st1.1 + p ≤ st.1 + p1 ∧ (∀ i, i < st.1 → st1.2 i = st.2 i) ∧ okSt T st1)
theorem okSt_push {T : TP} {st : PS} {r : RS} (h : okSt T st) (hr : okRow T st.1 r) : okSt T (pushS st r) := fun i hi => by
  have hi : i < st.1 + 1 := hi
  show okRow T i (if i = st.1 then r else st.2 i)
  by_cases e : i = st.1
  · rw [if_pos e, e]; exact hr
  · rw [if_neg e]; exact h i (by omega)
theorem okSt_encl {T : TP} {st : PS} (h : okSt T st) : okSt T (enclS st) := fun i hi => by
  show okRow T i (if i + 1 = st.1 then enclR (st.2 i) else st.2 i)
  split
  · exact h i hi
  · exact h i hi
theorem PInv_part {T : TP} {S : Option (Nat → PS → PRes)} (hS : ∀ s, S = some s → PInv T s) : PInv T (pPart S T) := by
  intro p st hp ok
  unfold pPart
  by_cases h40 : lk T p = 40
  · rw [if_pos h40]
    have hlt := lk_lt h40 (by decide)
    cases S with
    | none => exact ⟨fun f h => by cases h; exact hp, fun p1 st1 h => (by cases h)⟩
    | some s =>
      simp only
      obtain ⟨a1, a2⟩ := hS s rfl (p + 1) st hlt ok
      cases hs : s (p + 1) st with
      | inl f => exact ⟨fun f' h => by cases h; exact a1 f hs, fun p1 st1 h => (by cases h)⟩
      | inr ps =>
        obtain ⟨p1, st1⟩ := ps
        obtain ⟨b1, b2, b3, b4, b5, b6⟩ := a2 p1 st1 hs
        simp only
        by_cases h41 : lk T p1 = 41
        · rw [if_pos h41]
          have hlt2 := lk_lt h41 (by decide)
          refine ⟨fun f h => (by cases h), fun p2 st2 h => ?_⟩
          injection h with h
          injection h with h4 h5
          subst h4; subst h5
          refine ⟨by omega, by omega, b3, by show st1.1 + p ≤ st.1 + (p1 + 1); omega, fun i hi => ?_, okSt_encl b6⟩
          show (if i + 1 = st1.1 then enclR (st1.2 i) else st1.2 i) = st.2 i
          rw [if_neg (by omega)]; exact b5 i hi
        · rw [if_neg h41]
          exact ⟨fun f h => by cases h; exact b2, fun p1 st1 h => (by cases h)⟩
  · rw [if_neg h40]
    obtain ⟨a1, a2⟩ := pAtom_in hp
    cases ha : pAtom T p with
    | inl f => exact ⟨fun f' h => by cases h; exact a1 f ha, fun p1 st1 h => (by cases h)⟩
    | inr pr =>
      obtain ⟨p1, R⟩ := pr
      obtain ⟨b1, b2, b3⟩ := a2 p1 R ha
      refine ⟨fun f h => (by cases h), fun p2 st2 h => ?_⟩
      injection h with h
      injection h with h4 h5
      subst h4; subst h5
      refine ⟨b1, b2, by show st.1 < st.1 + 1; omega, by show st.1 + 1 + p ≤ st.1 + p1; omega, fun i hi => ?_, okSt_push ok (Or.inl ⟨rfl, b3⟩)⟩
      show (if i = st.1 then _ else st.2 i) = st.2 i
      rw [if_neg (by omega)]
theorem PInv_loop {T : TP} {P : Nat → PS → PRes} {c1 c2 : Int32} {k1 k2 : Nat} (hP : PInv T P) (hc1 : c1 ≠ 0) (hc2 : c2 ≠ 0) (hk : 1 ≤ k1 ∧ k1 ≤ 5 ∧ 1 ≤ k2 ∧ k2 ≤ 5) : ∀ (n p : Nat) (st : PS), p ≤ T.1 → okSt T st → 0 < st.1 → (∀ f, pLoop P T c1 c2 k1 k2 n p st = .inl f → f ≤ T.1) ∧ (∀ p1 st1, pLoop P T c1 c2 k1 k2 n p st = .inr (p1, st1) → p ≤ p1 ∧ p1 ≤ T.1 ∧ st.1 ≤ st1.1 ∧ st1.1 + p ≤ st.1 + p1 ∧ (∀ i, i < st.1 → st1.2 i = st.2 i) ∧ okSt T st1)
  | 0, p, st, hp, ok, h0 => ⟨fun f h => (by cases h), fun p1 st1 h => by cases h; exact ⟨Nat.le_refl _, hp, Nat.le_refl _, Nat.le_refl _, fun _ _ => rfl, ok⟩⟩
  | n + 1, p, st, hp, ok, h0 => by
    unfold pLoop
    by_cases hc : lk T p = c1 ∨ lk T p = c2
    · rw [if_pos hc]
      have hlt : p < T.1 := hc.elim (fun h => lk_lt h hc1) (fun h => lk_lt h hc2)
      obtain ⟨a1, a2⟩ := hP (p + 1) st hlt ok
      cases hs : P (p + 1) st with
      | inl f => exact ⟨fun f' h => by cases h; exact a1 f hs, fun p1 st1 h => (by cases h)⟩
      | inr ps =>
        obtain ⟨p1, st1⟩ := ps
        obtain ⟨b1, b2, b3, b4, b5, b6⟩ := a2 p1 st1 hs
        simp only
        have okr : okRow T st1.1 (opR (if lk T p = c1 then k1 else k2) (st.1 - 1) (st1.1 - 1)) := by
          refine Or.inr ⟨?_, ?_, ?_, ?_⟩
          · show 1 ≤ (if lk T p = c1 then k1 else k2); split <;> omega
          · show (if lk T p = c1 then k1 else k2) ≤ 5; split <;> omega
          · show st.1 - 1 < st1.1; omega
          · show st1.1 - 1 < st1.1; omega
        obtain ⟨e1, e2⟩ := PInv_loop hP hc1 hc2 hk n p1 (pushS st1 (opR (if lk T p = c1 then k1 else k2) (st.1 - 1) (st1.1 - 1))) b2 (okSt_push b6 okr) (by show 0 < st1.1 + 1; omega)
        refine ⟨e1, fun p2 st2 h => ?_⟩
        obtain ⟨f1, f2, f3, f4, f5, f6⟩ := e2 p2 st2 h
        have f3 : st1.1 + 1 ≤ st2.1 := f3
        have f4 : st2.1 + p1 ≤ st1.1 + 1 + p2 := f4
        refine ⟨by omega, f2, by omega, by omega, fun i hi => ?_, f6⟩
        rw [f5 i (by show i < st1.1 + 1; omega)]
        show (if i = st1.1 then _ else st1.2 i) = st.2 i
        rw [if_neg (by omega)]; exact b5 i hi
    · rw [if_neg hc]
      exact ⟨fun f h => (by cases h), fun p1 st1 h => by cases h; exact ⟨Nat.le_refl _, hp, Nat.le_refl _, Nat.le_refl _, fun _ _ => rfl, ok⟩⟩
theorem PInv_seq {T : TP} {P : Nat → PS → PRes} {c1 c2 : Int32} {k1 k2 : Nat} (hP : PInv T P) (hc1 : c1 ≠ 0) (hc2 : c2 ≠ 0) (hk : 1 ≤ k1 ∧ k1 ≤ 5 ∧ 1 ≤ k2 ∧ k2 ≤ 5) : PInv T (pSeq P T c1 c2 k1 k2) := by
  intro p st hp ok
  unfold pSeq
  obtain ⟨a1, a2⟩ := hP p st hp ok
  cases hs : P p st with
  | inl f => exact ⟨fun f' h => by cases h; exact a1 f hs, fun p1 st1 h => (by cases h)⟩
  | inr ps =>
    obtain ⟨p1, st1⟩ := ps
    obtain ⟨b1, b2, b3, b4, b5, b6⟩ := a2 p1 st1 hs
    simp only
    obtain ⟨e1, e2⟩ := PInv_loop hP hc1 hc2 hk 60 p1 st1 b2 b6 (by omega)
    refine ⟨e1, fun p2 st2 h => ?_⟩
    obtain ⟨f1, f2, f3, f4, f5, f6⟩ := e2 p2 st2 h
    exact ⟨by omega, f2, by omega, by omega, fun i hi => (f5 i (by omega)).trans (b5 i hi), f6⟩
theorem PInv_sum {T : TP} {S : Option (Nat → PS → PRes)} (hS : ∀ s, S = some s → PInv T s) : PInv T (pTerm S T) ∧ PInv T (pSum S T) := by
  have h := PInv_seq (c1 := 42) (c2 := 47) (k1 := 1) (k2 := 2) (PInv_part hS) (by decide) (by decide) ⟨by decide, by decide, by decide, by decide⟩
  exact ⟨h, PInv_seq (c1 := 43) (c2 := 45) (k1 := 3) (k2 := 4) h (by decide) (by decide) ⟨by decide, by decide, by decide, by decide⟩⟩
theorem PInv_S {T : TP} : ∀ r, PInv T (pS T r)
  | 0 => (PInv_sum (S := none) (fun s h => (by cases h))).2
  | r + 1 => (PInv_sum (S := some (pS T r)) (fun s h => by cases h; exact PInv_S r)).2
