
/-! ===== what a definition makes, as a function ===== -/
def uD (F : Nat → Nat → Option Nat) (U : Nat → UV) (R : Nat → DRow) (i : Nat) : UV := U ((F (R i).1 (R i).2.1).getD 0)
def dRef (F : Nat → Nat → Option Nat) (U : Nat → UV) (R : Nat → DRow) : Nat → Nat → Int32
  | 0, _ => 0
  | n + 1, i => match F (R i).1 (R i).2.1 with
    | none => -8
    | some j => if offU (U j) = true then -10 else dRef F U R n (i + 1)
theorem dRef_succ (F : Nat → Nat → Option Nat) (U : Nat → UV) (R : Nat → DRow) (n i : Nat) : dRef F U R (n + 1) i = (match F (R i).1 (R i).2.1 with
    | none => -8
    | some j => if offU (U j) = true then -10 else dRef F U R n (i + 1)) := rfl
def dimA (u : Nat → UV) (R : Nat → DRow) : Nat → Nat → Int32
  | 0, _ => 0
  | k + 1, j => dimA u R k j + (if (R k).2.2.2 = true then -((u k).2.1 j * Int32.ofNat (R k).2.2.1) else (u k).2.1 j * Int32.ofNat (R k).2.2.1)
def dpow (dv : Bool) (t : FR) : Nat → FR → Option FR
  | 0, f => some f
  | n + 1, f => match (if dv = true then divF f.1 f.2 t.1 t.2 else mulF f.1 f.2 t.1 t.2) with
    | none => none
    | some g => dpow dv t n g
theorem dpow_succ (dv : Bool) (t : FR) (n : Nat) (f : FR) : dpow dv t (n + 1) f = (match (if dv = true then divF f.1 f.2 t.1 t.2 else mulF f.1 f.2 t.1 t.2) with
    | none => none
    | some g => dpow dv t n g) := rfl
def facA (u : Nat → UV) (R : Nat → DRow) : Nat → Nat → FR → Option FR
  | 0, _, f => some f
  | n + 1, i, f => match dpow (R i).2.2.2 (u i).2.2.1 (R i).2.2.1 f with
    | none => none
    | some g => facA u R n (i + 1) g
theorem facA_succ (u : Nat → UV) (R : Nat → DRow) (n i : Nat) (f : FR) : facA u R (n + 1) i f = (match dpow (R i).2.2.2 (u i).2.2.1 (R i).2.2.1 f with
    | none => none
    | some g => facA u R n (i + 1) g) := rfl
def offN (o : Option (Bool × Nat × Nat)) : FR := match o with
  | none => redF 0 1
  | some s => redF (Int64.ofInt (if s.1 = true then -(s.2.1 : Int) else s.2.1)) (Int64.ofInt s.2.2)
def ratN (D : DRes) : FR := redF (Int64.ofInt D.2.1.1) (Int64.ofInt D.2.1.2)
abbrev nul0 (D : DRes) : Prop := D.2.1.1 = 0 ∨ D.2.1.2 = 0
def nul1B (o : Option (Bool × Nat × Nat)) : Bool := match o with
  | none => false
  | some s => decide (s.2.2 = 0)
abbrev nul1 (D : DRes) : Prop := nul1B D.2.2.2 = true
theorem nul1_of {D : DRes} {s : Bool × Nat × Nat} (h : D.2.2.2 = some s) : nul1 D ↔ s.2.2 = 0 := by
  unfold nul1 nul1B
  rw [h]
  exact decide_eq_true_iff
theorem nul1_no {D : DRes} (h : D.2.2.2 = none) : ¬ nul1 D := by
  unfold nul1 nul1B
  rw [h]
  exact fun k => by cases k
abbrev badD (D : DRes) : Prop := D.2.2.2.isSome = true ∧ (D.2.2.1.1 ≠ 1 ∨ (D.2.2.1.2 0).2.2.1 ≠ 1)
def madeU (T : TP) (u : Nat → UV) (D : DRes) (f : FR) : UV := ((D.1, T.2), (fun j => dimA u D.2.2.1.2 D.2.2.1.1 j), f, offN D.2.2.2)
def defT (T : TP) (n : Nat) (u : Nat → UV) (D : DRes) : Int32 ⊕ UV := if wide 5 (fun j => dimA u D.2.2.1.2 D.2.2.1.1 j) 9 = true then .inl (-12) else (match facA u D.2.2.1.2 D.2.2.1.1 0 (ratN D) with
  | none => .inl (-15)
  | some f => if n = 20 then .inl (-4) else .inr (madeU T u D f))
def defW (T : TP) (n : Nat) (U : Nat → UV) (D : DRes) : Int32 := if nul0 D then -9 else if dRef (wF T n U) U D.2.2.1.2 D.2.2.1.1 0 ≠ 0 then dRef (wF T n U) U D.2.2.1.2 D.2.2.1.1 0 else if nul1 D then -9 else 0
def defV (T : TP) (n : Nat) (U : Nat → UV) (D : DRes) : Int32 := if defW T n U D ≠ 0 then defW T n U D else if (wF T n U 0 D.1).isSome = true then -11 else if badD D then -2 else 0
def defA (T : TP) (n : Nat) (U : Nat → UV) (D : DRes) : Int32 ⊕ UV := if defV T n U D ≠ 0 then .inl (defV T n U D) else defT T n (uD (wF T n U) U D.2.2.1.2) D
theorem dRef_0 {F : Nat → Nat → Option Nat} {U : Nat → UV} {R : Nat → DRow} : ∀ (n i : Nat), dRef F U R n i = 0 → ∀ j, i ≤ j → j < i + n → (F (R j).1 (R j).2.1).isSome = true ∧ offU (uD F U R j) = false
  | 0, i, _, j, h1, h2 => by omega
  | n + 1, i, h, j, h1, h2 => by
    rw [dRef_succ] at h
    cases hF : F (R i).1 (R i).2.1 with
    | none => rw [hF] at h; exact absurd h (show ¬ ((-8 : Int32) = 0) by decide)
    | some k =>
      rw [hF] at h
      simp only at h
      by_cases ho : offU (U k) = true
      · rw [if_pos ho] at h; exact absurd h (by decide)
      · rw [if_neg ho] at h
        by_cases e : j = i
        · subst e
          refine ⟨by rw [hF]; rfl, ?_⟩
          unfold uD
          rw [hF]
          cases hc : offU (U k) with
          | true => exact absurd hc ho
          | false => exact hc
        · exact dRef_0 n (i + 1) h j (by omega) (by omega)
theorem dimA_bd {u : Nat → UV} {R : Nat → DRow} (hu : ∀ i, okU (u i)) : ∀ (k j : Nat), k ≤ 60 → (∀ i, i < k → (R i).2.2.1 ≤ 4) → j < 5 → -(36 * (k : Int)) ≤ (dimA u R k j).toInt ∧ (dimA u R k j).toInt ≤ 36 * k
  | 0, j, _, _, _ => by
    show -(36 * ((0 : Nat) : Int)) ≤ (0 : Int32).toInt ∧ (0 : Int32).toInt ≤ 36 * ((0 : Nat) : Int)
    rw [i32_0]; omega
  | k + 1, j, hk, hR, hj => by
    obtain ⟨i1, i2⟩ := dimA_bd hu k j (by omega) (fun i hi => hR i (by omega)) hj
    have hg := hR k (by omega)
    have hp := (hu k).2.2.2.1 j hj
    have hgi := iN_toInt (n := (R k).2.2.1) (by omega)
    have hm : -36 ≤ ((u k).2.1 j).toInt * ((R k).2.2.1 : Int) ∧ ((u k).2.1 j).toInt * ((R k).2.2.1 : Int) ≤ 36 := by
      generalize ((u k).2.1 j).toInt = a at hp
      have h4 : (R k).2.2.1 = 0 ∨ (R k).2.2.1 = 1 ∨ (R k).2.2.1 = 2 ∨ (R k).2.2.1 = 3 ∨ (R k).2.2.1 = 4 := by omega
      rcases h4 with h | h | h | h | h <;> rw [h] <;> omega
    have em : ((u k).2.1 j * Int32.ofNat (R k).2.2.1).toInt = ((u k).2.1 j).toInt * ((R k).2.2.1 : Int) := by
      rw [i32_mulx] <;> rw [hgi] <;> omega
    show -(36 * ((k + 1 : Nat) : Int)) ≤ (dimA u R k j + (if (R k).2.2.2 = true then -((u k).2.1 j * Int32.ofNat (R k).2.2.1) else (u k).2.1 j * Int32.ofNat (R k).2.2.1)).toInt ∧ _
    by_cases hd : (R k).2.2.2 = true
    · rw [if_pos hd]
      have en : (-((u k).2.1 j * Int32.ofNat (R k).2.2.1)).toInt = -(((u k).2.1 j).toInt * ((R k).2.2.1 : Int)) := by
        rw [i32_neg _ (by rw [em]; omega), em]
      have es : (dimA u R k j + -((u k).2.1 j * Int32.ofNat (R k).2.2.1)).toInt = (dimA u R k j).toInt + -(((u k).2.1 j).toInt * ((R k).2.2.1 : Int)) := by
        rw [i32_addx] <;> rw [en] <;> omega
      have goal2 : dimA u R (k + 1) j = dimA u R k j + -((u k).2.1 j * Int32.ofNat (R k).2.2.1) := by
        show dimA u R k j + (if (R k).2.2.2 = true then _ else _) = _
        rw [if_pos hd]
      rw [goal2, es]; omega
    · rw [if_neg hd]
      have es : (dimA u R k j + (u k).2.1 j * Int32.ofNat (R k).2.2.1).toInt = (dimA u R k j).toInt + ((u k).2.1 j).toInt * ((R k).2.2.1 : Int) := by
        rw [i32_addx] <;> rw [em] <;> omega
      have goal2 : dimA u R (k + 1) j = dimA u R k j + (u k).2.1 j * Int32.ofNat (R k).2.2.1 := by
        show dimA u R k j + (if (R k).2.2.2 = true then _ else _) = _
        rw [if_neg hd]
      rw [goal2, es]; omega
theorem divF_pos {a b c d : Int64} {f : FR} (h1 : okF (a, b)) (h2 : okF (c, d)) (ha : 0 < a.toInt) (hc : 0 < c.toInt) (h : divF a b c d = some f) : okF f ∧ 0 < f.1.toInt := by
  refine ⟨divF_ok h1 h2 h, ?_⟩
  unfold divF at h
  rw [if_neg (fun k => by rw [k] at hc; exact absurd hc (by decide)), if_neg (by omega)] at h
  have hd : 0 < d.toInt := h2.1
  exact (mulF_sg h1 (by omega) hc h).2 ha hd
theorem mulF_pos {a b c d : Int64} {f : FR} (h1 : okF (a, b)) (h2 : okF (c, d)) (ha : 0 < a.toInt) (hc : 0 < c.toInt) (h : mulF a b c d = some f) : okF f ∧ 0 < f.1.toInt := ⟨mulF_ok h1 h2.2.1 h2.1 h2.2.2 h, (mulF_sg h1 h2.2.1 h2.1 h).2 ha hc⟩
theorem dpow_ok {dv : Bool} {t : FR} (ht : okF t) (ht0 : 0 < t.1.toInt) : ∀ (n : Nat) (f g : FR), okF f → 0 < f.1.toInt → dpow dv t n f = some g → okF g ∧ 0 < g.1.toInt
  | 0, f, g, hf, h0, h => by cases h; exact ⟨hf, h0⟩
  | n + 1, f, g, hf, h0, h => by
    rw [dpow_succ] at h
    by_cases hd : dv = true
    · rw [if_pos hd] at h
      cases hm : divF f.1 f.2 t.1 t.2 with
      | none => rw [hm] at h; cases h
      | some k =>
        rw [hm] at h
        obtain ⟨k1, k2⟩ := divF_pos hf ht h0 ht0 hm
        exact dpow_ok ht ht0 n k g k1 k2 h
    · rw [if_neg hd] at h
      cases hm : mulF f.1 f.2 t.1 t.2 with
      | none => rw [hm] at h; cases h
      | some k =>
        rw [hm] at h
        obtain ⟨k1, k2⟩ := mulF_pos hf ht h0 ht0 hm
        exact dpow_ok ht ht0 n k g k1 k2 h
theorem facA_ok {u : Nat → UV} {R : Nat → DRow} (hu : ∀ i, okU (u i)) : ∀ (n i : Nat) (f g : FR), okF f → 0 < f.1.toInt → facA u R n i f = some g → okF g ∧ 0 < g.1.toInt
  | 0, i, f, g, hf, h0, h => by cases h; exact ⟨hf, h0⟩
  | n + 1, i, f, g, hf, h0, h => by
    rw [facA_succ] at h
    cases hm : dpow (R i).2.2.2 (u i).2.2.1 (R i).2.2.1 f with
    | none => rw [hm] at h; cases h
    | some k =>
      rw [hm] at h
      obtain ⟨k1, k2⟩ := dpow_ok (hu i).2.2.2.2.1 (hu i).2.2.2.2.2.1 _ f k hf h0 hm
      exact facA_ok hu n (i + 1) k g k1 k2 h
theorem i64_nat {n : Nat} (h : n < 9000000000000000000) : (Int64.ofInt (n : Int)).toInt = n := i64_of (by omega) (by omega)
theorem ratN_ok {D : DRes} (h0 : ¬ nul0 D) (h1 : D.2.1.1 ≤ 999999) (h2 : D.2.1.2 ≤ 999999) : okF (ratN D) ∧ 0 < (ratN D).1.toInt := by
  have a1 := i64_nat (n := D.2.1.1) (by omega)
  have a2 := i64_nat (n := D.2.1.2) (by omega)
  have n1 : D.2.1.1 ≠ 0 := fun k => h0 (Or.inl k)
  have n2 : D.2.1.2 ≠ 0 := fun k => h0 (Or.inr k)
  have c1 : (Int64.ofInt (D.2.1.1 : Int)).toInt ≠ -9223372036854775808 := by rw [a1]; omega
  have c2 : 0 < (Int64.ofInt (D.2.1.2 : Int)).toInt := by rw [a2]; omega
  exact ⟨redF_ok c1 c2, (part_nn c1 c2).2 (by rw [a1]; omega)⟩
theorem offN_ok {D : DRes} {T : TP} (h : okDR T D) (h1 : ¬ nul1 D) : okF (offN D.2.2.2) := by
  unfold offN
  cases ho : D.2.2.2 with
  | none => exact redF_ok (by decide) (by decide)
  | some s =>
    obtain ⟨b1, b2⟩ := h.2.2.2.2.2.2.2.2.2 s ho
    have n2 : s.2.2 ≠ 0 := fun k => h1 ((nul1_of ho).mpr k)
    have a2 := i64_nat (n := s.2.2) (by omega)
    have a1 : (Int64.ofInt (if s.1 = true then -(s.2.1 : Int) else s.2.1)).toInt = (if s.1 = true then -(s.2.1 : Int) else s.2.1) := i64_of (by split <;> omega) (by split <;> omega)
    refine redF_ok ?_ (by rw [a2]; omega)
    rw [a1]
    split <;> omega
theorem defA_ok {T : TP} {n : Nat} {U : Nat → UV} {D : DRes} {u : UV} (hU : ∀ i, okU (U i)) (h : okDR T D) (hd : defA T n U D = .inr u) : okU u ∧ n ≠ 20 := by
  unfold defA at hd
  by_cases hv : defV T n U D ≠ 0
  · rw [if_pos hv] at hd; cases hd
  · rw [if_neg hv] at hd
    have hv : defV T n U D = 0 := Classical.byContradiction hv
    have hw : defW T n U D = 0 := Classical.byContradiction fun k => by
      unfold defV at hv
      rw [if_pos k] at hv
      exact k hv
    have n0 : ¬ nul0 D := fun k => by
      unfold defW at hw
      rw [if_pos k] at hw
      exact absurd hw (by decide)
    have n1 : ¬ nul1 D := fun k => by
      unfold defW at hw
      rw [if_neg n0] at hw
      by_cases hr : dRef (wF T n U) U D.2.2.1.2 D.2.2.1.1 0 ≠ 0
      · rw [if_pos hr] at hw; exact hr hw
      · rw [if_neg hr, if_pos k] at hw
        exact absurd hw (by decide)
    have o1 : ∀ i, okU (uD (wF T n U) U D.2.2.1.2 i) := fun i => hU _
    obtain ⟨d1, d2, d3, d4, d5, d6, d7, d8, d9, d10⟩ := id h
    unfold defT at hd
    by_cases hwd : wide 5 (fun j => dimA (uD (wF T n U) U D.2.2.1.2) D.2.2.1.2 D.2.2.1.1 j) 9 = true
    · rw [if_pos hwd] at hd; cases hd
    · rw [if_neg hwd] at hd
      cases hf : facA (uD (wF T n U) U D.2.2.1.2) D.2.2.1.2 D.2.2.1.1 0 (ratN D) with
      | none => rw [hf] at hd; cases hd
      | some f =>
        rw [hf] at hd
        simp only at hd
        by_cases hn : n = 20
        · rw [if_pos hn] at hd; cases hd
        · rw [if_neg hn] at hd
          injection hd with hd
          subst hd
          obtain ⟨r1, r2⟩ := ratN_ok n0 d5 d6
          obtain ⟨f1, f2⟩ := facA_ok o1 _ _ _ _ r1 r2 hf
          refine ⟨⟨d1, d2, d4, fun j hj => ?_, f1, f2, offN_ok h n1⟩, hn⟩
          have := Classical.byContradiction (fun k => hwd (wide_iff.mpr k)) j hj
          show -9 ≤ (dimA _ _ _ j).toInt ∧ (dimA _ _ _ j).toInt ≤ 9
          have this : (dimA (uD (wF T n U) U D.2.2.1.2) D.2.2.1.2 D.2.2.1.1 j).toInt.natAbs ≤ 9 := this
          omega
