
/-! ===== comparing fractions ===== -/
/-- -1, 0, 1 by the sign of a difference of products -/
def sgI (n : Int) : Int := if n < 0 then -1 else if n = 0 then 0 else 1
def cmL (a b c d : Int64) : Int := sgI (a.toInt * d.toInt - c.toInt * b.toInt)
theorem sgI_neg (n : Int) : sgI (-n) = -sgI n := by
  unfold sgI
  split <;> split <;> (try split) <;> (try split) <;> omega
theorem cross_lt {a b c d : Int} (hb : 0 < b) (hd : 0 < d) (h : a / b < c / d) : a * d < c * b := by
  have h1 := Int.emod_add_mul_ediv a b
  have h2 := Int.emod_lt_of_pos a hb
  have h3 := Int.emod_add_mul_ediv c d
  have h4 := Int.emod_nonneg c (b := d) (by omega)
  have e1 : a < b * (a / b + 1) := by rw [Int.mul_add, Int.mul_one]; omega
  have e2 : d * (a / b + 1) ≤ c := by
    have := Int.mul_le_mul_of_nonneg_left (show a / b + 1 ≤ c / d by omega) (Int.le_of_lt hd)
    omega
  have e3 := Int.mul_lt_mul_of_pos_right e1 hd
  have e4 := Int.mul_le_mul_of_nonneg_right e2 (Int.le_of_lt hb)
  have e5 : b * (a / b + 1) * d = d * (a / b + 1) * b := by
    rw [Int.mul_comm b, Int.mul_comm d, Int.mul_assoc, Int.mul_assoc, Int.mul_comm b d]
  omega
theorem cross_eq {a b c d : Int} (h : a / b = c / d) : a * d - c * b = (a % b) * d - (c % d) * b := by
  have h1 := Int.emod_add_mul_ediv a b
  have h3 := Int.emod_add_mul_ediv c d
  generalize a % b = r at *
  generalize c % d = s at *
  rw [← h1, ← h3, h, Int.add_mul, Int.add_mul]
  have e5 : b * (c / d) * d = d * (c / d) * b := by
    rw [Int.mul_comm b, Int.mul_comm d, Int.mul_assoc, Int.mul_assoc, Int.mul_comm b d]
  omega
theorem cw_loop {d : Nat} {q : HP → Int32 → Prop} {H : HP} : ∀ (k : Nat) (a b c e : Int64) (s i : Int32), 0 ≤ b.toInt → 0 ≤ e.toInt → b.toInt < 2 ^ k → (b.toInt = 0 → 0 < a.toInt) → (e.toInt = 0 → 0 < c.toInt) → (s.toInt = 1 ∨ s.toInt = -1) → 0 ≤ i.toInt → i.toInt + 2 * k + 1 ≤ 200 → (∀ r : Int32, r.toInt = s.toInt * cmL a b c e → q H r) → L_X3_compareWith_29 (d + 1) q a b c e s i H := by
  have h200 : (200 : Int32).toInt = 200 := rfl
  have ngs : ∀ s : Int32, (s.toInt = 1 ∨ s.toInt = -1) → (-s).toInt = -s.toInt := fun s hs => i32_neg s (by omega)
  have base : ∀ (a b c e : Int64) (s i : Int32), 0 ≤ b.toInt → 0 ≤ e.toInt → (b.toInt = 0 → 0 < a.toInt) → (e.toInt = 0 → 0 < c.toInt) → (b.toInt = 0 ∨ e.toInt = 0) → (s.toInt = 1 ∨ s.toInt = -1) → (∀ r : Int32, r.toInt = s.toInt * cmL a b c e → q H r) → L_X3_compareWith_29 (d + 1) q a b c e s i H := by
    intro a b c e s i hb he ha hc h0 hs hq
    have fin : (¬ b = e → (¬ b = (0 : Int64) → q H (-s)) ∧ (b = (0 : Int64) → q H s)) ∧ (b = e → q H (0 : Int32)) := by
      simp only [i64_eq, i64_0]
      refine ⟨fun hne => ⟨fun hb0 => ?_, fun hb0 => ?_⟩, fun heq => ?_⟩
      · have he0 : e.toInt = 0 := by omega
        have := hc he0
        refine hq _ ?_
        have hm := Int.mul_pos this (show 0 < b.toInt by omega)
        rw [ngs s hs, cmL, he0, Int.mul_zero, sgI, if_pos (by omega)]
        omega
      · have := ha hb0
        refine hq _ ?_
        have hm := Int.mul_pos this (show 0 < e.toInt by omega)
        rw [cmL, hb0, Int.mul_zero, sgI, if_neg (by omega), if_neg (by omega)]
        omega
      · refine hq _ ?_
        have hb0 : b.toInt = 0 := by omega
        have he0 : e.toInt = 0 := by omega
        rw [cmL, hb0, he0, Int.mul_zero, Int.mul_zero]
        show 0 = s.toInt * 0
        omega
    refine T_X3_compareWith_29 ?_
    unfold wb_X3_compareWith_29
    refine ⟨fun _ => fin, fun _ => ⟨fun _ => fin, fun h1 => ⟨fun _ => fin, fun h2 => ?_⟩⟩⟩
    simp only [i64_le, i64_0] at h1 h2
    omega
  have one : ∀ (a b c e : Int64) (s i : Int32), 0 < b.toInt → 0 < e.toInt → (s.toInt = 1 ∨ s.toInt = -1) → 0 ≤ i.toInt → i.toInt < 200 → (∀ r : Int32, r.toInt = s.toInt * cmL a b c e → q H r) → (∀ x y : Int64, x.toInt = a.toInt % b.toInt → y.toInt = c.toInt % e.toInt → (∀ r : Int32, r.toInt = (-s).toInt * cmL b x e y → q H r) → L_X3_compareWith_29 (d + 1) q b x e y (-s) (i + 1) H) → L_X3_compareWith_29 (d + 1) q a b c e s i H := by
    intro a b c e s i hb he hs hi hi2 hq hl
    refine T_X3_compareWith_29 ?_
    unfold wb_X3_compareWith_29
    refine ⟨fun h => by rw [i32_le, h200] at h; omega, fun _ => ⟨fun h => by rw [i64_le, i64_0] at h; omega, fun _ => ⟨fun h => by rw [i64_le, i64_0] at h; omega, fun _ => ?_⟩⟩⟩
    refine K_floorDiv hb fun w hw => K_floorDiv he fun w' hw' => ⟨fun h => ?_, fun h => ⟨fun h2 => ?_, fun h2 => ?_⟩⟩
    · have rem : ∀ (a b w : Int64), 0 < b.toInt → w.toInt = a.toInt / b.toInt → (a - w * b).toInt = a.toInt % b.toInt := by
        intro a b w hb hw
        have h1 := Int.emod_add_mul_ediv a.toInt b.toInt
        have h2 := Int.emod_nonneg a.toInt (b := b.toInt) (by omega)
        have h3 := Int.emod_lt_of_pos a.toInt hb
        have b1 := i64_hi b
        obtain ⟨k1, e1⟩ := i64_mul w b
        obtain ⟨k2, e2⟩ := i64_sub a (w * b)
        rw [e1, hw, Int.mul_comm (a.toInt / b.toInt)] at e2
        have g1 := i64_lo (a - w * b)
        have g2 := i64_hi (a - w * b)
        omega
      have x1 := rem a b w hb hw
      have y1 := rem c e w' he hw'
      refine hl _ _ x1 y1 fun r hr => hq r ?_
      rw [hr, ngs s hs, cmL, cmL, x1, y1, cross_eq (a := a.toInt) (b := b.toInt) (c := c.toInt) (d := e.toInt) (by rw [← hw, ← hw', h])]
      have e6 : b.toInt * (c.toInt % e.toInt) - e.toInt * (a.toInt % b.toInt) = -((a.toInt % b.toInt) * e.toInt - (c.toInt % e.toInt) * b.toInt) := by
        rw [Int.mul_comm b.toInt, Int.mul_comm e.toInt]; omega
      rw [e6, sgI_neg, Int.mul_neg, Int.neg_mul, Int.neg_neg]
    · rw [i64_le] at h2
      rw [i64_eq] at h
      have hlt : c.toInt / e.toInt < a.toInt / b.toInt := by omega
      have := cross_lt he hb hlt
      refine hq _ ?_
      rw [cmL, sgI, if_neg (by omega), if_neg (by omega)]; omega
    · rw [i64_le] at h2
      have hlt : a.toInt / b.toInt < c.toInt / e.toInt := by omega
      have := cross_lt hb he hlt
      refine hq _ ?_
      rw [ngs s hs, cmL, sgI, if_pos (by omega)]; omega
  intro k
  induction k with
  | zero =>
    intro a b c e s i hb he hk ha hc hs hi hik hq
    exact base a b c e s i hb he ha hc (Or.inl (by simp at hk; omega)) hs hq
  | succ k ih =>
    intro a b c e s i hb he hk ha hc hs hi hik hq
    by_cases h0 : b.toInt = 0 ∨ e.toInt = 0
    · exact base a b c e s i hb he ha hc h0 hs hq
    have hbp : 0 < b.toInt := by omega
    have hep : 0 < e.toInt := by omega
    have i1 := i32_inc (i := i) (by omega)
    refine one a b c e s i hbp hep hs hi (by omega) hq fun x y hx hy hq2 => ?_
    have x1 := Int.emod_nonneg a.toInt (b := b.toInt) (by omega)
    have x2 := Int.emod_lt_of_pos a.toInt hbp
    have y1 := Int.emod_nonneg c.toInt (b := e.toInt) (by omega)
    have y2 := Int.emod_lt_of_pos c.toInt hep
    have hs2 : (-s).toInt = 1 ∨ (-s).toInt = -1 := by rw [ngs s hs]; omega
    by_cases h1 : x.toInt = 0 ∨ y.toInt = 0
    · exact base b x e y (-s) _ (by omega) (by omega) (fun _ => hbp) (fun _ => hep) h1 hs2 hq2
    have hxp : 0 < x.toInt := by omega
    have hyp : 0 < y.toInt := by omega
    have i2 := i32_inc (i := i + 1) (by omega)
    refine one b x e y (-s) (i + 1) hxp hyp hs2 (by omega) (by omega) hq2 fun u v hu hv hq3 => ?_
    have u1 := Int.emod_nonneg b.toInt (b := x.toInt) (by omega)
    have u2 := Int.emod_lt_of_pos b.toInt hxp
    have v1 := Int.emod_nonneg e.toInt (b := y.toInt) (by omega)
    have m3 := Int.emod_add_mul_ediv b.toInt x.toInt
    have m4 : x.toInt ≤ x.toInt * (b.toInt / x.toInt) := by
      have : 1 ≤ b.toInt / x.toInt := (Int.le_ediv_iff_mul_le hxp).mpr (by omega)
      have := Int.mul_le_mul_of_nonneg_left this (Int.le_of_lt hxp)
      omega
    have hs3 : (- -s).toInt = 1 ∨ (- -s).toInt = -1 := by rw [ngs _ hs2]; omega
    rw [Int.pow_succ] at hk
    exact ih x u y v (- -s) _ (by omega) (by omega) (by omega) (fun _ => hxp) (fun _ => hyp) hs3 (by omega) (by omega) hq3
theorem K_compareWith {d : Nat} {q : HP → Int32 → Prop} {H : HP} {a b : Nat} (ht : tg H a = 4) (ht2 : tg H b = 4) (hf : 0 < (hL H 401 a 0).toInt) (hg : 0 < (hL H 401 b 0).toInt) (h1 : ∀ r : Int32, r.toInt = cmL (hL H 400 a 0) (hL H 401 a 0) (hL H 400 b 0) (hL H 401 b 0) → q H r) : CI (d + 2) 0 0 mX3_compareWith [rv (some a), rv (some b)] H q := by
  refine C_X3_compareWith ?_
  unfold wb_X3_compareWith_0
  have h2 := i64_hi (hL H 401 a 0)
  refine ⟨ht, b, rfl, ht2, cw_loop 63 _ _ _ _ 1 0 (by omega) (by omega) ?_ (by omega) (by omega) (Or.inl rfl) (by decide) (by decide) fun r hr => h1 r ?_⟩
  · have : (2 : Int) ^ 63 = 9223372036854775808 := by decide
    omega
  · rw [hr, i32_1, Int.one_mul]
/-- the reference's comparison -/
def ltL (a b c d : Int64) : Bool := decide (a.toInt * d.toInt < c.toInt * b.toInt)
