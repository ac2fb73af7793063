
/-! ===== fractions as pairs ===== -/
abbrev FR : Type := Int64 × Int64
def okF (f : FR) : Prop := 0 < f.2.toInt ∧ f.1.toInt ≠ -9223372036854775808 ∧ Int.gcd f.1.toInt f.2.toInt = 1
def redF (a b : Int64) : FR := (a / gcL a b, b / gcL a b)
def mulF (a b c d : Int64) : Option FR := if fitI ((a / gcL a d).toInt * (c / gcL c b).toInt) ∧ fitI ((b / gcL c b).toInt * (d / gcL a d).toInt) then some (prL (a / gcL a d) (c / gcL c b), prL (b / gcL c b) (d / gcL a d)) else none
def addF (a b c d : Int64) : Option FR := if fitI (a.toInt * (d / gcL b d).toInt) ∧ fitI (c.toInt * (b / gcL b d).toInt) ∧ fitI ((prL a (d / gcL b d)).toInt + (prL c (b / gcL b d)).toInt) ∧ fitI (b.toInt * (d / gcL b d).toInt) then some (redF (toL (prL a (d / gcL b d)) (prL c (b / gcL b d))) (prL b (d / gcL b d))) else none
def divF (a b c d : Int64) : Option FR := if c = 0 then none else if c.toInt < 0 then mulF a b (-d) (-c) else mulF a b d c
theorem gcL_spec {a b : Int64} (ha : a.toInt ≠ -9223372036854775808) (hb : 0 < b.toInt) : ∃ g a' b' : Int, 0 < g ∧ (gcL a b).toInt = g ∧ a.toInt = g * a' ∧ b.toInt = g * b' ∧ (a / gcL a b).toInt = a' ∧ (b / gcL a b).toInt = b' ∧ Int.gcd a' b' = 1 ∧ 0 < b' ∧ Int.gcd a.toInt b.toInt = g := by
  have hg := gcL_toInt ha (b := b) (by omega)
  have hpos : 0 < Int.gcd a.toInt b.toInt := Int.gcd_pos_of_ne_zero_right _ (by omega)
  obtain ⟨a', hA⟩ : ((Int.gcd a.toInt b.toInt : Nat) : Int) ∣ a.toInt := Int.gcd_dvd_left ..
  obtain ⟨b', hB⟩ : ((Int.gcd a.toInt b.toInt : Nat) : Int) ∣ b.toInt := Int.gcd_dvd_right ..
  have hgp : 0 < (gcL a b).toInt := by omega
  have e1 := i64_div (a := a) hgp
  have e2 := i64_div (a := b) hgp
  rw [hg] at e1 e2
  have q1 : a.toInt.tdiv ((Int.gcd a.toInt b.toInt : Nat) : Int) = a' := by
    conv => lhs; arg 1; rw [hA]
    exact Int.mul_tdiv_cancel_left _ (by omega)
  have q2 : b.toInt.tdiv ((Int.gcd a.toInt b.toInt : Nat) : Int) = b' := by
    conv => lhs; arg 1; rw [hB]
    exact Int.mul_tdiv_cancel_left _ (by omega)
  refine ⟨_, a', b', by omega, hg, hA, hB, e1.trans q1, e2.trans q2, ?_, ?_, rfl⟩
  · have := Int.gcd_mul_left ((Int.gcd a.toInt b.toInt : Nat) : Int) a' b'
    rw [← hA, ← hB, Int.natAbs_natCast] at this
    exact Nat.eq_of_mul_eq_mul_left hpos (by omega)
  · refine Classical.byContradiction fun h => ?_
    have := Int.mul_nonneg (a := ((Int.gcd a.toInt b.toInt : Nat) : Int)) (b := -b') (by omega) (by omega)
    rw [Int.mul_neg] at this
    omega
theorem gcL_ne {a b : Int64} (ha : a.toInt ≠ -9223372036854775808) (hb : 0 < b.toInt) : ¬ gcL a b = 0 := fun h => by
  obtain ⟨g, _, _, h1, h2, _⟩ := gcL_spec ha hb
  rw [i64_zero] at h; omega
/-- what a division by a divisor keeps of size -/
theorem abs_part {g a' : Int} (hg : 0 < g) : a'.natAbs ≤ (g * a').natAbs := by
  rw [Int.natAbs_mul]
  exact Nat.le_mul_of_pos_left _ (by omega)
theorem redF_ok {a b : Int64} (ha : a.toInt ≠ -9223372036854775808) (hb : 0 < b.toInt) : okF (redF a b) := by
  obtain ⟨g, a', b', h1, h2, h3, h4, h5, h6, h7, h8, -⟩ := gcL_spec ha hb
  have a1 := i64_lo a
  have a2 := i64_hi a
  refine ⟨by show 0 < (b / gcL a b).toInt; omega, ?_, by show Int.gcd (a / gcL a b).toInt (b / gcL a b).toInt = 1; rw [h5, h6, h7]⟩
  show (a / gcL a b).toInt ≠ _
  rw [h5]
  have := abs_part (a' := a') h1
  omega
theorem gcd_mul1 {a b c : Int} (h1 : Int.gcd a c = 1) (h2 : Int.gcd b c = 1) : Int.gcd (a * b) c = 1 := by
  show Nat.gcd (a * b).natAbs c.natAbs = 1
  rw [Int.natAbs_mul]
  exact Nat.Coprime.mul_left h1 h2
theorem gcd_of_mul {g a h c : Int} (e : Int.gcd (g * a) (h * c) = 1) : Int.gcd a c = 1 := by
  have e' : Nat.Coprime (g.natAbs * a.natAbs) (h.natAbs * c.natAbs) := by rw [← Int.natAbs_mul, ← Int.natAbs_mul]; exact e
  exact Nat.Coprime.coprime_mul_left (Nat.Coprime.coprime_mul_left_right e')
theorem mulF_ok {a b c d : Int64} {f : FR} (h1 : okF (a, b)) (hc : c.toInt ≠ -9223372036854775808) (hd : 0 < d.toInt) (h2 : Int.gcd c.toInt d.toInt = 1) (h : mulF a b c d = some f) : okF f := by
  obtain ⟨hb, ha, hg⟩ := h1
  obtain ⟨g, a', d', g1, -, g3, g4, g5, g6, g7, g8, -⟩ := gcL_spec ha hd
  obtain ⟨k, c', b', k1, -, k3, k4, k5, k6, k7, k8, -⟩ := gcL_spec hc hb
  unfold mulF at h
  split at h
  · rename_i hf
    cases h
    have e1 := prL_fit hf.1
    have e2 := prL_fit hf.2
    rw [g5, k5] at e1
    rw [k6, g6] at e2
    have hpos : 0 < b' * d' := Int.mul_pos k8 g8
    refine ⟨by show 0 < (prL _ _).toInt; omega, ?_, ?_⟩
    · show (prL _ _).toInt ≠ _
      have := hf.1.1
      rw [g5, k5] at this
      omega
    · show Int.gcd (prL _ _).toInt (prL _ _).toInt = 1
      rw [e1, e2]
      have q1 : Int.gcd a' b' = 1 := by
        have hg : Int.gcd a.toInt b.toInt = 1 := hg
        rw [g3, k4] at hg; exact gcd_of_mul hg
      have q2 : Int.gcd c' d' = 1 := by
        rw [k3, g4] at h2; exact gcd_of_mul h2
      rw [Int.gcd_comm]
      refine gcd_mul1 ?_ ?_ <;> rw [Int.gcd_comm]
      · exact gcd_mul1 q1 k7
      · exact gcd_mul1 g7 q2
  · cases h
theorem addF_ok {a b c d : Int64} {f : FR} (hb : 0 < b.toInt) (hd : 0 < d.toInt) (h : addF a b c d = some f) : okF f := by
  obtain ⟨g, b', d', g1, -, g3, g4, g5, g6, g7, g8, -⟩ := gcL_spec (a := b) (by omega) hd
  unfold addF at h
  split at h
  · rename_i hf
    cases h
    refine redF_ok ?_ ?_
    · rw [toL_fit hf.2.2.1]; have := hf.2.2.1.1; omega
    · rw [prL_fit hf.2.2.2, g6]; exact Int.mul_pos hb g8
  · cases h
theorem divF_ok {a b c d : Int64} {f : FR} (h1 : okF (a, b)) (h2 : okF (c, d)) (h : divF a b c d = some f) : okF f := by
  obtain ⟨hd, hc, hg⟩ := h2
  have hg : Int.gcd c.toInt d.toInt = 1 := hg
  have hc : c.toInt ≠ -9223372036854775808 := hc
  have hd : 0 < d.toInt := hd
  unfold divF at h
  split at h
  · cases h
  · rename_i h0
    rw [i64_zero] at h0
    split at h
    · refine mulF_ok h1 ?_ ?_ ?_ h
      · rw [i64_neg _ (by omega)]; have := i64_hi d; omega
      · rw [i64_neg _ hc]; omega
      · rw [i64_neg _ hc, i64_neg _ (by omega), Int.neg_gcd, Int.gcd_neg, Int.gcd_comm]; exact hg
    · refine mulF_ok h1 (by omega) (by omega) ?_ h
      rw [Int.gcd_comm]; exact hg
theorem dvd_cop {k m n : Int} (h : k ∣ m * n) (hc : Int.gcd k m = 1) : k ∣ n := by
  have : k.natAbs ∣ m.natAbs * n.natAbs := by rw [← Int.natAbs_mul]; exact Int.natAbs_dvd_natAbs.mpr h
  exact Int.natAbs_dvd_natAbs.mp (Nat.Coprime.dvd_of_dvd_mul_left hc this)
/-- two fractions in lowest terms with one value are one -/
theorem okF_eq {f g : FR} (hf : okF f) (hg : okF g) (h : f.1.toInt * g.2.toInt = g.1.toInt * f.2.toInt) : f = g := by
  obtain ⟨f1, f2, f3⟩ := hf
  obtain ⟨g1, g2, g3⟩ := hg
  have d1 : f.2.toInt ∣ g.2.toInt := by
    have : f.2.toInt ∣ f.1.toInt * g.2.toInt := ⟨g.1.toInt, by rw [h, Int.mul_comm]⟩
    exact dvd_cop this (by rw [Int.gcd_comm]; exact f3)
  have d2 : g.2.toInt ∣ f.2.toInt := by
    have : g.2.toInt ∣ g.1.toInt * f.2.toInt := ⟨f.1.toInt, by rw [← h, Int.mul_comm]⟩
    exact dvd_cop this (by rw [Int.gcd_comm]; exact g3)
  have e : f.2.toInt = g.2.toInt := Int.dvd_antisymm (by omega) (by omega) d1 d2
  refine Prod.ext (i64_ext ?_) (i64_ext e)
  rw [e] at h
  exact Int.eq_of_mul_eq_mul_right (by omega) h
