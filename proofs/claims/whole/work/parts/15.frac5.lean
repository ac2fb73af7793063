
/-! ===== fractions: the reference's arithmetic ===== -/
theorem sI_same (H : HP) (g a i : Nat) : sI H g a i (hI H g a i) = H := by
  have h : u3 H.1 g a i (hI H g a i) = H.1 := by
    funext g' a' i'
    unfold u3
    split
    · rename_i h; obtain ⟨rfl, rfl, rfl⟩ := h; rfl
    · rfl
  unfold sI
  rw [h]
theorem u3_u3 {α : Type} (f : Nat → Nat → Nat → α) (g a i : Nat) (v w : α) : u3 (u3 f g a i v) g a i w = u3 f g a i w := by
  funext g' a' i'
  unfold u3
  split <;> rfl
theorem sI_sI (H : HP) (g a i : Nat) (v w : Int32) : sI (sI H g a i v) g a i w = sI H g a i w := by
  unfold sI; rw [u3_u3]
theorem sL_sL (H : HP) (g a i : Nat) (v w : Int64) : sL (sL H g a i v) g a i w = sL H g a i w := by
  unfold sL; rw [u3_u3]
theorem sI_sL (H : HP) (g a i g' a' i' : Nat) (v : Int32) (w : Int64) : sI (sL H g' a' i' w) g a i v = sL (sI H g a i v) g' a' i' w := rfl
def setM (H : HP) (m : Nat) (f : FR) : HP := sL (sL H 1319 m 0 f.1) 1320 m 0 f.2
abbrev getM (H : HP) (m : Nat) : FR := (hL H 1319 m 0, hL H 1320 m 0)
theorem K_absL {d : Nat} {q : HP → Int64 → Prop} {H : HP} {x : Int64} (hx : x.toInt ≠ -9223372036854775808) (h1 : ∀ y : Int64, y.toInt = x.toInt.natAbs → (y = x ∨ y = -x) → q H y) : CJ (d + 1) 0 0 mJ9_abs_067f4 [.long x] H q := by
  refine C_J9_abs_067f4 ?_
  unfold wb_J9_abs_067f4_0
  simp only [i64_le, i64_0]
  exact ⟨fun h => h1 x (by omega) (Or.inl rfl), fun h => h1 (-x) (by rw [i64_neg x hx]; omega) (Or.inr rfl)⟩
theorem K_absI {d : Nat} {q : HP → Int32 → Prop} {H : HP} {x : Int32} (hx : x.toInt ≠ -2147483648) (h1 : ∀ y : Int32, y.toInt = x.toInt.natAbs → q H y) : CI (d + 1) 0 0 mJ9_abs_0f7a4 [.int x] H q := by
  refine C_J9_abs_0f7a4 ?_
  unfold wb_J9_abs_0f7a4_0
  simp only [i32_le, i32_0]
  exact ⟨fun h => h1 x (by omega), fun h => h1 (-x) (by rw [i32_neg x hx]; omega)⟩
theorem cm_loop {d : Nat} {q : HP → Int64 → Prop} {H : HP} : ∀ (n : Nat) (x y : Int64), 0 ≤ x.toInt → 0 ≤ y.toInt → y.toInt ≤ n → q H (gcL x y) → L_X12_common_12 d q x y H := by
  intro n
  induction n with
  | zero =>
    intro x y hx hy hk hq
    have hy0 : y = 0 := by rw [i64_zero]; omega
    subst hy0
    rw [gcL_zero hx] at hq
    refine T_X12_common_12 ?_
    unfold wb_X12_common_12
    exact ⟨fun _ => hq, fun h => absurd rfl h⟩
  | succ n ih =>
    intro x y hx hy hk hq
    refine T_X12_common_12 ?_
    unfold wb_X12_common_12
    refine ⟨fun h => ?_, fun h => ⟨h, ?_⟩⟩
    · subst h
      rwa [gcL_zero hx] at hq
    · have hyp : 0 < y.toInt := by rw [i64_zero] at h; omega
      have hr := i64_rem hx hyp
      have r1 := Int.emod_nonneg x.toInt (b := y.toInt) (by omega)
      have r2 := Int.emod_lt_of_pos x.toInt hyp
      rw [gcL_step hx hyp] at hq
      exact ih _ _ hy (by omega) (by omega) hq
theorem K_common {d : Nat} {q : HP → Int64 → Prop} {H : HP} {x y : Int64} (hx : x.toInt ≠ -9223372036854775808) (hy : y.toInt ≠ -9223372036854775808) (hq : q H (gcL x y)) : CJ (d + 2) 0 0 mX12_common [.long x, .long y] H q := by
  refine C_X12_common ?_
  unfold wb_X12_common_0
  refine K_absL hx fun u hu hu' => K_absL hy fun v hv hv' => ?_
  have e : gcL u v = gcL x y := by
    rcases hu' with rfl | rfl <;> rcases hv' with rfl | rfl
    · rfl
    · exact gcL_neg_right hy
    · exact gcL_neg_left hx
    · rw [gcL_neg_left hx, gcL_neg_right hy]
  exact cm_loop v.toInt.toNat u v (by omega) (by omega) (by omega) (e ▸ hq)
theorem K_becomes {d : Nat} {q : HP → Prop} {H : HP} {m : Nat} {c e : Int64} (ht : tg H m = 13) (hc : c.toInt ≠ -9223372036854775808) (he : 0 < e.toInt) (h1 : q (setM H m (redF c e))) : CV (d + 3) 0 0 mX12_becomes [rv (some m), .long c, .long e] H q := by
  refine C_X12_becomes ?_
  unfold wb_X12_becomes_0
  exact K_common hc (by omega) ⟨gcL_ne hc he, ht, gcL_ne hc he, h1⟩
theorem or_Z {x : Int32} (h : okZ x) : x ||| 1 = 1 ∧ x ||| 0 = x := by rcases h with rfl | rfl <;> decide
theorem K_timed {d : Nat} {q : HP → Int64 → Prop} {H : HP} {m : Nat} {x y : Int64} (ht : tg H m = 13) (ho : okZ (hI H 1321 m 0)) (h1 : fitI (x.toInt * y.toInt) → q H (prL x y)) (h2 : ¬ fitI (x.toInt * y.toInt) → ∀ r, q (sI H 1321 m 0 1) r) : CJ (d + 1) 0 0 mX12_timed [rv (some m), .long x, .long y] H q := by
  refine C_X12_timed ?_
  unfold wb_X12_timed_0
  have z : ∀ u v : Int64, u.toInt * v.toInt = 0 → fitI (u.toInt * v.toInt) ∧ prL u v = 0 := fun u v h => by
    have hf : fitI (u.toInt * v.toInt) := by rw [h]; exact ⟨by decide, by decide⟩
    refine ⟨hf, ?_⟩
    rw [prL, if_pos hf]
    exact i64_ext (by rw [i64_mulx (by omega) (by omega), h, i64_0])
  have hsw : fitI (y.toInt * x.toInt) ↔ fitI (x.toInt * y.toInt) := by rw [Int.mul_comm]
  have hcm : y * x = x * y := Int64.mul_comm y x
  have ok1 : okZ (hI H 1321 m 0 ||| 1) := by rw [(or_Z ho).1]; exact Or.inr rfl
  have ok0 : okZ (hI H 1321 m 0 ||| 0) := by rw [(or_Z ho).2]; exact ho
  refine ⟨fun h => ?_, fun h => ⟨fun h3 => ⟨ht, fun h4 => ⟨ok1, ?_⟩, fun h4 => ⟨h3, fun h5 => ⟨ok0, ?_⟩, fun h5 => ⟨ok1, ?_⟩⟩⟩, fun h3 => ?_⟩⟩
  · obtain ⟨z1, z2⟩ := z x y (by rw [h, i64_0, Int.zero_mul])
    have := h1 z1
    rwa [z2] at this
  · rw [(or_Z ho).1]
    refine h2 (fun hf => ?_) _
    rw [← hsw, ← mul_fits (fun e => h3 (i64_zero.mpr e)), hcm] at hf
    exact hf.2 h4
  · rw [(or_Z ho).2, sI_same]
    have hf : fitI (x.toInt * y.toInt) := by
      rw [← hsw, ← mul_fits (fun e => h3 (i64_zero.mpr e)), hcm]
      exact ⟨h5, h4⟩
    have := h1 hf
    rwa [prL, if_pos hf] at this
  · rw [(or_Z ho).1]
    refine h2 (fun hf => ?_) _
    rw [← hsw, ← mul_fits (fun e => h3 (i64_zero.mpr e)), hcm] at hf
    exact h5 hf.1
  · obtain ⟨z1, z2⟩ := z x y (by rw [h3, i64_0, Int.mul_zero])
    have := h1 z1
    rwa [z2] at this
theorem K_times {d : Nat} {q : HP → Prop} {H : HP} {m : Nat} {a b c e : Int64} (ht : tg H m = 13) (ho : okZ (hI H 1321 m 0)) (hf : okF (a, b)) (hc : c.toInt ≠ -9223372036854775808) (he : 0 < e.toInt) (hz : c.toInt = 0 → e.toInt = 1) (h1 : ∀ f, mulF a b c e = some f → q (setM H m f)) (h2 : mulF a b c e = none → ∀ f, q (setM (sI H 1321 m 0 1) m f)) : CV (d + 3) 0 0 mX12_times [rv (some m), .long a, .long b, .long c, .long e] H q := by
  refine C_X12_times ?_
  unfold wb_X12_times_0
  obtain ⟨hb, ha, hg⟩ := hf
  have hb : 0 < b.toInt := hb
  have ha : a.toInt ≠ -9223372036854775808 := ha
  have hg : Int.gcd a.toInt b.toInt = 1 := hg
  obtain ⟨g, a', e', g1, g2, g3, g4, g5, g6, g7, g8, g9⟩ := gcL_spec ha he
  obtain ⟨k, c', b', k1, k2, k3, k4, k5, k6, k7, k8, k9⟩ := gcL_spec hc hb
  have zero : (a.toInt = 0 ∨ c.toInt = 0) → mulF a b c e = some (0, 1) := by
    intro h0
    have p1 : a' * c' = 0 := by
      rcases h0 with h | h
      · have : a' = 0 := by
          rw [g3] at h
          rcases Int.mul_eq_zero.mp h with h | h
          · omega
          · exact h
        rw [this, Int.zero_mul]
      · have : c' = 0 := by
          rw [k3] at h
          rcases Int.mul_eq_zero.mp h with h | h
          · omega
          · exact h
        rw [this, Int.mul_zero]
    have p2 : b' * e' = 1 := by
      rcases h0 with h | h
      · rw [h, Int.gcd_zero_left] at hg
        have hb1 : b.toInt = 1 := by omega
        rw [h, Int.gcd_zero_left] at g9
        have : e' = 1 := by
          have hge : e.toInt = g := by omega
          rw [hge] at g4
          have := Int.eq_of_mul_eq_mul_left (a := g) (b := 1) (c := e') (by omega) (by omega)
          omega
        have : b' = 1 := by
          have hk1 : k = 1 := by rw [hb1] at k9; simp at k9; omega
          rw [hk1, hb1] at k4; omega
        simp [*]
      · have he1 := hz h
        have : b' = 1 := by
          rw [h, Int.gcd_zero_left] at k9
          have hge : b.toInt = k := by omega
          rw [hge] at k4
          have := Int.eq_of_mul_eq_mul_left (a := k) (b := 1) (c := b') (by omega) (by omega)
          omega
        have : e' = 1 := by
          have hk1 : g = 1 := by rw [he1] at g9; simp at g9; omega
          rw [hk1, he1] at g4; omega
        simp [*]
    have f1 : fitI ((a / gcL a e).toInt * (c / gcL c b).toInt) := by rw [g5, k5, p1]; exact ⟨by decide, by decide⟩
    have f2 : fitI ((b / gcL c b).toInt * (e / gcL a e).toInt) := by rw [k6, g6, p2]; exact ⟨by decide, by decide⟩
    rw [mulF, if_pos ⟨f1, f2⟩]
    have e1 : prL (a / gcL a e) (c / gcL c b) = 0 := i64_ext (by rw [prL_fit f1, g5, k5, p1, i64_0])
    have e2 : prL (b / gcL c b) (e / gcL a e) = 1 := i64_ext (by rw [prL_fit f2, k6, g6, p2, i64_1])
    rw [e1, e2]
  refine ⟨fun h => ⟨ht, ?_⟩, fun h => ⟨fun h3 => ?_, fun h3 => ⟨ht, ?_⟩⟩⟩
  · exact h1 _ (zero (Or.inl (by rw [h, i64_0])))
  · refine K_common ha (by omega) (K_common hc (by omega) ⟨gcL_ne ha he, gcL_ne hc hb, ht, K_timed ht ho (fun f1 => ⟨ht, gcL_ne hc hb, gcL_ne ha he, K_timed ht ho (fun f2 => ⟨ht, ?_⟩) (fun f2 r => ⟨ht, ?_⟩)⟩) (fun f1 r => ⟨ht, gcL_ne hc hb, gcL_ne ha he, K_timed ht ?_ (fun f2 => ⟨ht, ?_⟩) (fun f2 r2 => ⟨ht, ?_⟩)⟩)⟩)
    · exact h1 _ (if_pos ⟨f1, f2⟩)
    · exact h2 (if_neg (fun k => f2 k.2)) (_, r)
    · rw [hI_sL, hI_sI, u3_same]; exact Or.inr rfl
    · exact h2 (if_neg (fun k => f1 k.1)) (r, _)
    · rw [sI_sL, sI_sI]
      exact h2 (if_neg (fun k => f1 k.1)) (r, r2)
  · exact h1 _ (zero (Or.inr (by rw [h3, i64_0])))
theorem K_by {d : Nat} {q : HP → Prop} {H : HP} {m : Nat} {a b c e : Int64} (ht : tg H m = 13) (ho : okZ (hI H 1321 m 0)) (hf : okF (a, b)) (hc : c.toInt ≠ -9223372036854775808) (he : 0 < e.toInt) (hz : c.toInt ≠ 0) (h1 : ∀ f, divF a b c e = some f → q (setM H m f)) (h2 : divF a b c e = none → ∀ f, q (setM (sI H 1321 m 0 1) m f)) : CV (d + 4) 0 0 mX12_by [rv (some m), .long a, .long b, .long c, .long e] H q := by
  refine C_X12_by ?_
  unfold wb_X12_by_0
  have e1 := i64_hi e
  have h0 : ¬ c = 0 := fun h => hz (i64_zero.mp h)
  simp only [i64_le, i64_0]
  refine ⟨fun h => ⟨fun h' => ⟨ht, ?_⟩, fun h' => absurd h h'⟩, fun h => ⟨fun h' => absurd h' h, fun h' => ⟨ht, ?_⟩⟩⟩
  · have e : divF a b c e = mulF a b e c := by rw [divF, if_neg h0, if_neg (by omega)]
    exact K_times ht ho hf (by omega) (by omega) (by omega) (fun f k => h1 f (e.trans k)) (fun k => h2 (e.trans k))
  · have e2 : divF a b c e = mulF a b (-e) (-c) := by rw [divF, if_neg h0, if_pos (by omega)]
    exact K_times ht ho hf (by rw [i64_neg _ (by omega)]; omega) (by rw [i64_neg _ hc]; omega) (by rw [i64_neg _ (by omega)]; omega) (fun f k => h1 f (e2.trans k)) (fun k => h2 (e2.trans k))
