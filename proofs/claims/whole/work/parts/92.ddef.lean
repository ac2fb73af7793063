
/-! ===== a definition read: what both sides do, as functions of the tape ===== -/
abbrev DRow : Type := Nat × Nat × Nat × Bool
abbrev DRes : Type := Nat × (Nat × Nat) × (Nat × (Nat → DRow)) × Option (Bool × Nat × Nat)
def dNum (T : TP) (p : Nat) : Nat ⊕ (Nat × Nat) := if run isFig T 6 p = 0 ∨ isFig (lk T (p + run isFig T 6 p)) = true then .inl (p + run isFig T 6 p) else .inr ((numb T 6 p 0).toInt.toNat, p + run isFig T 6 p)
def dRat (T : TP) (p : Nat) : Nat ⊕ (Nat × Nat × Nat) := match dNum T p with
  | .inl f => .inl f
  | .inr (u, p1) => if lk T p1 = 47 then (match dNum T (p1 + 1) with
    | .inl f => .inl f
    | .inr (l, p2) => .inr (u, l, p2)) else .inr (u, 1, p1)
def dG (T : TP) (p : Nat) : Nat := if isPow (lk T p) = true then figN T p else 1
def dP (T : TP) (p : Nat) : Nat := if isPow (lk T p) = true then p + 1 else p
def dProd (T : TP) : Nat → Nat → Nat → Bool → (Nat → DRow) → Nat ⊕ (Nat × Nat × (Nat → DRow))
  | 0, _, p, _, _ => .inl p
  | n + 1, i, p, dv, R => match pNam T p with
    | .inl f => .inl f
    | .inr l => if lk T (dP T (p + l)) = 42 then dProd T n (i + 1) (dP T (p + l) + 1) false (putC R i (p, l, dG T (p + l), dv)) else if lk T (dP T (p + l)) = 47 then dProd T n (i + 1) (dP T (p + l) + 1) true (putC R i (p, l, dG T (p + l), dv)) else .inr (dP T (p + l), i + 1, putC R i (p, l, dG T (p + l), dv))
def dOff (T : TP) (p : Nat) : Nat ⊕ Option (Bool × Nat × Nat) := if lk T p = 43 ∨ lk T p = 45 then (match dRat T (p + 1) with
  | .inl f => .inl f
  | .inr (u, l, p2) => if p2 < T.1 then .inl p2 else .inr (some (decide (lk T p = 45), u, l))) else if p < T.1 then .inl p else .inr none
def dR0 : Nat → DRow := fun _ => (0, 0, 0, false)
def dDef (T : TP) : Nat ⊕ DRes := match pNam T 0 with
  | .inl f => .inl f
  | .inr l => if lk T l = 61 then (match dRat T (l + 1) with
    | .inl f => .inl f
    | .inr (u, w, p1) => match dProd T 31 0 p1 false dR0 with
      | .inl f => .inl f
      | .inr (p2, n, R) => match dOff T p2 with
        | .inl f => .inl f
        | .inr o => .inr (l, (u, w), (n, R), o)) else .inl l
theorem dNum_in {T : TP} {p : Nat} (hp : p ≤ T.1) : (∀ f, dNum T p = .inl f → p ≤ f ∧ f ≤ T.1) ∧ (∀ v p1, dNum T p = .inr (v, p1) → p < p1 ∧ p1 ≤ T.1 ∧ v ≤ 999999 ∧ isFig (lk T p) = true ∧ p1 = p + run isFig T 6 p ∧ numb T 6 p 0 = Int32.ofNat v) := by
  have r1 := run_in fig0 (T := T) 6 p hp
  have n6 := numb6 (T := T) (p := p)
  unfold dNum
  by_cases h : run isFig T 6 p = 0 ∨ isFig (lk T (p + run isFig T 6 p)) = true
  · rw [if_pos h]
    exact ⟨fun f e => by cases e; omega, fun v p1 e => (by cases e)⟩
  · rw [if_neg h]
    refine ⟨fun f e => (by cases e), fun v p1 e => ?_⟩
    injection e with e
    injection e with e1 e2
    have h0 : run isFig T 6 p ≠ 0 := fun k => h (Or.inl k)
    have hf : isFig (lk T p) = true := by
      cases hc : isFig (lk T p) with
      | true => rfl
      | false => exact absurd ((run_zero (by decide)).mpr hc) h0
    refine ⟨by omega, by omega, by omega, hf, e2.symm, iN_inj (by omega) (by omega)⟩
theorem dRat_in {T : TP} {p : Nat} (hp : p ≤ T.1) : (∀ f, dRat T p = .inl f → p ≤ f ∧ f ≤ T.1) ∧ (∀ u l p1, dRat T p = .inr (u, l, p1) → p < p1 ∧ p1 ≤ T.1 ∧ u ≤ 999999 ∧ l ≤ 999999) := by
  obtain ⟨a1, a2⟩ := dNum_in hp
  unfold dRat
  cases h1 : dNum T p with
  | inl f => exact ⟨fun f' e => by cases e; exact a1 f h1, fun u l p1 e => (by cases e)⟩
  | inr vp =>
    obtain ⟨v, p1⟩ := vp
    obtain ⟨b1, b2, b3, -⟩ := a2 v p1 h1
    simp only
    by_cases h47 : lk T p1 = 47
    · rw [if_pos h47]
      have hlt := lk_lt h47 (by decide)
      obtain ⟨c1, c2⟩ := dNum_in hlt
      cases h2 : dNum T (p1 + 1) with
      | inl f => exact ⟨fun f' e => by cases e; have := c1 f h2; omega, fun u l p1 e => (by cases e)⟩
      | inr vp2 =>
        obtain ⟨l, p2⟩ := vp2
        obtain ⟨e1, e2, e3, -⟩ := c2 l p2 h2
        refine ⟨fun f' e => (by cases e), fun u' l' p' e => ?_⟩
        injection e with e
        injection e with e4 e5
        injection e5 with e5 e6
        exact ⟨by omega, by omega, by omega, by omega⟩
    · rw [if_neg h47]
      refine ⟨fun f' e => (by cases e), fun u' l' p' e => ?_⟩
      injection e with e
      injection e with e4 e5
      injection e5 with e5 e6
      exact ⟨by omega, by omega, by omega, by omega⟩
theorem dG_in {T : TP} {p : Nat} (hp : p ≤ T.1) : 1 ≤ dG T p ∧ dG T p ≤ 4 ∧ p ≤ dP T p ∧ dP T p ≤ T.1 := by
  unfold dG dP
  by_cases h : isPow (lk T p) = true
  · obtain ⟨q1, q2, q3, -⟩ := pow_lt' h
    rw [if_pos h, if_pos h]; exact ⟨q2, q3, by omega, q1⟩
  · rw [if_neg h, if_neg h]; exact ⟨by decide, by decide, Nat.le_refl _, hp⟩
/-- what holds of a row of powers -/
def okD (T : TP) (r : DRow) : Prop := r.1 + r.2.1 ≤ T.1 ∧ 1 ≤ r.2.1 ∧ r.2.1 ≤ 4 ∧ 1 ≤ r.2.2.1 ∧ r.2.2.1 ≤ 4
theorem dProd_in {T : TP} : ∀ (n i p : Nat) (dv : Bool) (R : Nat → DRow), p ≤ T.1 → 2 * i + 3 ≤ p → (∀ j, j < i → okD T (R j)) → (∀ f, dProd T n i p dv R = .inl f → f ≤ T.1) ∧ (∀ p1 m R1, dProd T n i p dv R = .inr (p1, m, R1) → p < p1 ∧ p1 ≤ T.1 ∧ i < m ∧ 2 * m + 2 ≤ p1 ∧ (∀ j, j < i → R1 j = R j) ∧ ∀ j, j < m → okD T (R1 j))
  | 0, i, p, dv, R, hp, hi, hR => ⟨fun f h => by cases h; exact hp, fun p1 m R1 h => (by cases h)⟩
  | n + 1, i, p, dv, R, hp, hi, hR => by
    obtain ⟨c1, c2⟩ := pNam_in hp
    unfold dProd
    cases hn : pNam T p with
    | inl f => exact ⟨fun f' h => by cases h; exact c1 f hn, fun p1 m R1 h => (by cases h)⟩
    | inr l =>
      obtain ⟨d1, d2, d3, -⟩ := c2 l hn
      obtain ⟨g1, g2, g3, g4⟩ := dG_in d3
      simp only
      have hR' : ∀ j, j < i + 1 → okD T (putC R i (p, l, dG T (p + l), dv) j) := fun j hj => by
        unfold putC
        by_cases e : j = i
        · rw [if_pos e]; exact ⟨d3, d1, d2, g1, g2⟩
        · rw [if_neg e]; exact hR j (by omega)
      have keep : ∀ j, j < i → putC R i (p, l, dG T (p + l), dv) j = R j := fun j hj => if_neg (by omega)
      by_cases h42 : lk T (dP T (p + l)) = 42
      · rw [if_pos h42]
        have hlt := lk_lt h42 (by decide)
        obtain ⟨e1, e2⟩ := dProd_in n (i + 1) (dP T (p + l) + 1) false _ hlt (by omega) hR'
        refine ⟨e1, fun p1 m R1 h => ?_⟩
        obtain ⟨f1, f2, f3, f4, f5, f6⟩ := e2 p1 m R1 h
        exact ⟨by omega, f2, by omega, f4, fun j hj => (f5 j (by omega)).trans (keep j hj), f6⟩
      · rw [if_neg h42]
        by_cases h47 : lk T (dP T (p + l)) = 47
        · rw [if_pos h47]
          have hlt := lk_lt h47 (by decide)
          obtain ⟨e1, e2⟩ := dProd_in n (i + 1) (dP T (p + l) + 1) true _ hlt (by omega) hR'
          refine ⟨e1, fun p1 m R1 h => ?_⟩
          obtain ⟨f1, f2, f3, f4, f5, f6⟩ := e2 p1 m R1 h
          exact ⟨by omega, f2, by omega, f4, fun j hj => (f5 j (by omega)).trans (keep j hj), f6⟩
        · rw [if_neg h47]
          refine ⟨fun f h => (by cases h), fun p1 m R1 h => ?_⟩
          injection h with h
          injection h with h1 h2
          injection h2 with h2 h3
          subst h1; subst h2; subst h3
          exact ⟨by omega, g4, by omega, by omega, keep, hR'⟩
/-- what a definition that was read is like -/
def okDR (T : TP) (D : DRes) : Prop := 1 ≤ D.1 ∧ D.1 ≤ 4 ∧ D.1 ≤ T.1 ∧ (∀ j, j < D.1 → isLet (T.2 j) = true) ∧ D.2.1.1 ≤ 999999 ∧ D.2.1.2 ≤ 999999 ∧ 1 ≤ D.2.2.1.1 ∧ D.2.2.1.1 ≤ 29 ∧ (∀ j, j < D.2.2.1.1 → okD T (D.2.2.1.2 j)) ∧ ∀ o, D.2.2.2 = some o → o.2.1 ≤ 999999 ∧ o.2.2 ≤ 999999
theorem run_all {P : Int32 → Bool} {T : TP} : ∀ (n p j : Nat), j < run P T n p → P (lk T (p + j)) = true
  | 0, p, j, h => by cases h
  | n + 1, p, j, h => by
    unfold run at h
    by_cases hp : P (lk T p) = true
    · rw [if_pos hp] at h
      cases j with
      | zero => exact hp
      | succ j =>
        have := run_all (P := P) (T := T) n (p + 1) j (by omega)
        rw [show p + (j + 1) = p + 1 + j by omega]; exact this
    · rw [if_neg hp] at h; cases h
theorem dDef_ok {T : TP} {D : DRes} (hT : T.1 ≤ 60) (h : dDef T = .inr D) : okDR T D := by
  obtain ⟨c1, c2⟩ := pNam_in (T := T) (p := 0) (Nat.zero_le _)
  unfold dDef at h
  cases hn : pNam T 0 with
  | inl f => rw [hn] at h; cases h
  | inr l =>
    rw [hn] at h
    simp only at h
    obtain ⟨d1, d2, d3, d4⟩ := c2 l hn
    by_cases h61 : lk T l = 61
    · rw [if_pos h61] at h
      have hlt := lk_lt h61 (by decide)
      obtain ⟨e1, e2⟩ := dRat_in (T := T) (p := l + 1) hlt
      cases hr : dRat T (l + 1) with
      | inl f => rw [hr] at h; cases h
      | inr uwp =>
        obtain ⟨u, w, p1⟩ := uwp
        rw [hr] at h
        simp only at h
        obtain ⟨f1, f2, f3, f4⟩ := e2 u w p1 hr
        obtain ⟨g1, g2⟩ := dProd_in (T := T) 31 0 p1 false dR0 f2 (by omega) (fun j hj => by cases hj)
        cases hp : dProd T 31 0 p1 false dR0 with
        | inl f => rw [hp] at h; cases h
        | inr pnR =>
          obtain ⟨p2, n, R⟩ := pnR
          rw [hp] at h
          simp only at h
          obtain ⟨k1, k2, k3, k4, k5, k6⟩ := g2 p2 n R hp
          cases ho : dOff T p2 with
          | inl f => rw [ho] at h; cases h
          | inr o =>
            rw [ho] at h
            cases h
            refine ⟨d1, d2, by show l ≤ T.1; omega, fun j hj => ?_, f3, f4, by show 1 ≤ n; omega, by show n ≤ 29; omega, k6, fun o' e => ?_⟩
            · have hj : j < l := hj
              have := run_all 4 0 j (by rw [← d4]; exact hj) (P := isLet) (T := T)
              rw [Nat.zero_add, lk, if_pos (by omega)] at this; exact this
            · have e : o = some o' := e
              subst e
              unfold dOff at ho
              by_cases hs : lk T p2 = 43 ∨ lk T p2 = 45
              · rw [if_pos hs] at ho
                have hlt2 : p2 < T.1 := hs.elim (fun k => lk_lt k (by decide)) (fun k => lk_lt k (by decide))
                obtain ⟨m1, m2⟩ := dRat_in (T := T) (p := p2 + 1) hlt2
                cases hr2 : dRat T (p2 + 1) with
                | inl f => rw [hr2] at ho; cases ho
                | inr uwp2 =>
                  obtain ⟨u2, w2, p3⟩ := uwp2
                  rw [hr2] at ho
                  simp only at ho
                  obtain ⟨n1, n2, n3, n4⟩ := m2 u2 w2 p3 hr2
                  by_cases hq : p3 < T.1
                  · rw [if_pos hq] at ho; cases ho
                  · rw [if_neg hq] at ho
                    cases ho
                    exact ⟨n3, n4⟩
              · rw [if_neg hs] at ho
                by_cases hq : p2 < T.1
                · rw [if_pos hq] at ho; cases ho
                · rw [if_neg hq] at ho; cases ho
    · rw [if_neg h61] at h; cases h
