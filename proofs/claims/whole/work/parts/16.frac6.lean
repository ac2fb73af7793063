
theorem K_plus_tail {d : Nat} {q : HP → Prop} {H : HP} {m : Nat} {b e w s : Int64} {s1 s2 : Int32} (ht : tg H m = 13) (hs1 : s1 = hI H 1321 m 0) (ho : okZ s1) (ho2 : okZ s2) (hw : ¬ w = 0) (hb : 0 < b.toInt) (he : 0 < (e / w).toInt) (hn : (s1 = 1 ∨ s2 = 1) → q (sI H 1321 m 0 1)) (hy : s1 = 0 → s2 = 0 → (s.toInt ≠ -9223372036854775808 ∧ (fitI (b.toInt * (e / w).toInt) → q (setM H m (redF s (prL b (e / w))))) ∧ (¬ fitI (b.toInt * (e / w).toInt) → q (sI H 1321 m 0 1)))) : wb_X12_plus_104 (d + 3) q m b e w s (some m) s1 s2 H := by
  unfold wb_X12_plus_104
  have z0 : (0 : Int32) ||| 0 = 0 := by decide
  have z1 : (0 : Int32) ||| 1 = 1 := by decide
  have z2 : (1 : Int32) ||| 0 = 1 := by decide
  have z3 : (1 : Int32) ||| 1 = 1 := by decide
  have one : s1 ||| s2 = 1 → (s1 = 1 ∨ s2 = 1) → ∃ a1, some m = some a1 ∧ (tg H a1 = 13 ∧ (okZ (s1 ||| s2) ∧ (¬ w = 0 ∧ (tg (sI H 1321 a1 0 (s1 ||| s2)) m = 13 ∧ (CJ (d + 3) 0 0 mX12_timed [rv (some m), .long b, .long (e / w)] (sI H 1321 a1 0 (s1 ||| s2)) (fun H5 r7 => tg H5 m = 13 ∧ (((hI H5 1321 m 0) = 0 → CV (d + 3) 0 0 mX12_becomes [rv (some m), .long s, .long r7] H5 (fun H9 => q H9)) ∧ (¬ ((hI H5 1321 m 0) = 0) → q H5)))))))) := by
    intro e1 e2
    rw [e1]
    refine ⟨m, rfl, ht, Or.inr rfl, hw, ht, K_timed ht (by rw [hI_sI, u3_same]; exact Or.inr rfl) (fun f => ⟨ht, fun h => ?_, fun h => hn e2⟩) (fun f r => ?_)⟩
    · rw [hI_sI, u3_same] at h; exact absurd h (by decide)
    · rw [sI_sI]
      refine ⟨ht, fun h => ?_, fun h => hn e2⟩
      rw [hI_sI, u3_same] at h; exact absurd h (by decide)
  rcases ho with h1 | h1 <;> rcases ho2 with h2 | h2
  · obtain ⟨y1, y2, y3⟩ := hy h1 h2
    have e0 : sI H 1321 m 0 (s1 ||| s2) = H := by
      have : s1 ||| s2 = hI H 1321 m 0 := by rw [← hs1, h1, h2, z0]
      rw [this, sI_same]
    have hz : hI H 1321 m 0 = 0 := by rw [← hs1, h1]
    refine ⟨m, rfl, ht, by rw [h1, h2, z0]; exact Or.inl rfl, hw, ht, ?_⟩
    rw [e0]
    refine K_timed ht (Or.inl hz) (fun f => ⟨ht, fun h => K_becomes ht y1 ?_ (y2 f), fun h => absurd hz h⟩) (fun f r => ⟨ht, fun h => ?_, fun h => y3 f⟩)
    · rw [prL_fit f]; exact Int.mul_pos hb he
    · rw [hI_sI, u3_same] at h; exact absurd h (by decide)
  · exact one (by rw [h1, h2, z1]) (Or.inr h2)
  · exact one (by rw [h1, h2, z2]) (Or.inl h1)
  · exact one (by rw [h1, h2, z3]) (Or.inl h1)
theorem sgn_toInt64 {s : Int32} : (s.toInt64).toInt = s.toInt := by simp
theorem neg_fit {x y : Int} : fitI (-x * y) ↔ (-9223372036854775808 < x * y ∧ x * y < 9223372036854775808) := by
  rw [Int.neg_mul]; unfold fitI; omega
theorem fit_sym {x : Int} : fitI x ↔ (-9223372036854775808 < x ∧ x < 9223372036854775808) := by unfold fitI; omega
theorem prL_neg {a b : Int64} (h : a.toInt ≠ -9223372036854775808) (hf : fitI (a.toInt * b.toInt)) : (prL (-a) b).toInt = -(a.toInt * b.toInt) ∧ fitI ((-a).toInt * b.toInt) := by
  have hf2 : fitI ((-a).toInt * b.toInt) := by rw [i64_neg a h, neg_fit, ← fit_sym]; exact hf
  exact ⟨by rw [prL_fit hf2, i64_neg a h, Int.neg_mul], hf2⟩
theorem plus_tree {P1 P0 : Prop} {u y t : Int64} (k1 : t = (-9223372036854775808 : Int64) → P1) (k2 : ¬ t = (-9223372036854775808 : Int64) → (0 < u.toInt ∧ 0 < y.toInt ∧ t.toInt < 0 ∨ u.toInt < 0 ∧ y.toInt < 0 ∧ 0 ≤ t.toInt) → P1) (k3 : ¬ t = (-9223372036854775808 : Int64) → ¬ (0 < u.toInt ∧ 0 < y.toInt ∧ t.toInt < 0 ∨ u.toInt < 0 ∧ y.toInt < 0 ∧ 0 ≤ t.toInt) → P0) : ((t = (-9223372036854775808 : Int64) → P1) ∧ (¬ (t = (-9223372036854775808 : Int64)) → (u ≤ (0 : Int64) → ((0 : Int64) ≤ u → P0) ∧ (¬ ((0 : Int64) ≤ u) → ((0 : Int64) ≤ y → P0) ∧ (¬ ((0 : Int64) ≤ y) → (t < (0 : Int64) → P0) ∧ (¬ (t < (0 : Int64)) → P1)))) ∧ (¬ (u ≤ (0 : Int64)) → (y ≤ (0 : Int64) → ((0 : Int64) ≤ u → P0) ∧ (¬ ((0 : Int64) ≤ u) → ((0 : Int64) ≤ y → P0) ∧ (¬ ((0 : Int64) ≤ y) → (t < (0 : Int64) → P0) ∧ (¬ (t < (0 : Int64)) → P1)))) ∧ (¬ (y ≤ (0 : Int64)) → (t < (0 : Int64) → P1) ∧ (¬ (t < (0 : Int64)) → ((0 : Int64) ≤ u → P0) ∧ (¬ ((0 : Int64) ≤ u) → ((0 : Int64) ≤ y → P0) ∧ (¬ ((0 : Int64) ≤ y) → (t < (0 : Int64) → P0) ∧ (¬ (t < (0 : Int64)) → P1)))))))) := by
  refine ⟨k1, fun h => ?_⟩
  have k2 := k2 h
  have k3 := k3 h
  simp only [i64_le, i64_lt, i64_0]
  repeat' (first | apply And.intro | intro _)
  all_goals first | exact k2 (by omega) | exact k3 (by omega)
theorem K_plus {d : Nat} {q : HP → Prop} {H : HP} {m : Nat} {a b c e : Int64} {s : Int32} (ht : tg H m = 13) (ho : hI H 1321 m 0 = 0) (hb : 0 < b.toInt) (he : 0 < e.toInt) (hc : c.toInt ≠ -9223372036854775808) (hs : s = 1 ∨ s = -1) (h1 : ∀ f, addF a b (if s = 1 then c else -c) e = some f → q (setM H m f)) (h2 : addF a b (if s = 1 then c else -c) e = none → q (sI H 1321 m 0 1)) : CV (d + 4) 0 0 mX12_plus [rv (some m), .long a, .long b, .long c, .long e, .int s] H q := by
  refine C_X12_plus ?_
  unfold wb_X12_plus_0
  obtain ⟨g, b', e', g1, g2, g3, g4, g5, g6, g7, g8, -⟩ := gcL_spec (a := b) (by omega) he
  have hn := gcL_ne (a := b) (by omega) he
  have okO : okZ (hI H 1321 m 0) := Or.inl ho
  have hep : 0 < (e / gcL b e).toInt := by omega
  refine K_common (by omega) (by omega) ⟨hn, ht, ?_⟩
  have sneg : ∀ {y : Int64}, y.toInt ≠ -9223372036854775808 → (y * s.toInt64).toInt = if s = 1 then y.toInt else -y.toInt := by
    intro y hy
    have y1 := i64_lo y
    have y2 := i64_hi y
    rcases hs with rfl | rfl
    · rw [if_pos rfl, i64_mulx] <;> rw [sgn_toInt64, i32_1, Int.mul_one] <;> omega
    · have : (-1 : Int32).toInt = -1 := rfl
      rw [if_neg (by decide), i64_mulx] <;> rw [sgn_toInt64, this, Int.mul_neg, Int.mul_one] <;> omega
  -- nothing over so far, or over already: one tail for all ends
  have tail : ∀ (H8 : HP) (u v : Int64), (H8 = H ∨ H8 = sI H 1321 m 0 1) → (H8 = H → fitI (a.toInt * (e / gcL b e).toInt) ∧ fitI (c.toInt * (b / gcL b e).toInt) ∧ u = prL a (e / gcL b e) ∧ v = prL c (b / gcL b e)) → (H8 ≠ H → addF a b (if s = 1 then c else -c) e = none) → ∀ s2 : Int32, okZ s2 → (H8 = H → (s2 = 0 ↔ fitI (u.toInt + (v * s.toInt64).toInt))) → wb_X12_plus_104 (d + 3) q m b e (gcL b e) (u + v * s.toInt64) (some m) (hI H8 1321 m 0) s2 H8 := by
    intro H8 u v hH hg hbad s2 hs2 hfit
    rcases hH with rfl | rfl
    · obtain ⟨f1, f2, rfl, rfl⟩ := hg rfl
      have hfit := hfit rfl
      have f2' : fitI ((if s = 1 then c else -c).toInt * (b / gcL b e).toInt) ∧ (prL (if s = 1 then c else -c) (b / gcL b e)).toInt = (prL c (b / gcL b e) * s.toInt64).toInt := by
        have hm : (prL c (b / gcL b e)).toInt ≠ -9223372036854775808 := by rw [prL_fit f2]; omega
        rw [sneg hm]
        by_cases h : s = 1
        · rw [if_pos h, if_pos h]; exact ⟨f2, rfl⟩
        · rw [if_neg h, if_neg h, prL_fit f2]; exact ⟨(prL_neg hc f2).2, (prL_neg hc f2).1⟩
      have over : ∀ h : ¬ fitI ((prL a (e / gcL b e)).toInt + (prL c (b / gcL b e) * s.toInt64).toInt), addF a b (if s = 1 then c else -c) e = none := fun h => if_neg (fun k => h (by rw [← f2'.2]; exact k.2.2.1))
      refine K_plus_tail ht rfl okO hs2 hn hb hep (fun h => ?_) (fun _ h => ?_)
      · refine h2 (over fun k => ?_)
        rw [← hfit] at k
        rcases h with h | h
        · rw [ho] at h; exact absurd h (by decide)
        · rw [k] at h; exact absurd h (by decide)
      · have f3 := hfit.mp h
        have e5 : prL a (e / gcL b e) + prL c (b / gcL b e) * s.toInt64 = toL (prL a (e / gcL b e)) (prL (if s = 1 then c else -c) (b / gcL b e)) := by
          have f3' := f3
          rw [← f2'.2] at f3'
          exact i64_ext (by rw [toL_fit f3', f2'.2]; exact i64_addx (by omega) f3.2)
        rw [e5]
        rw [← f2'.2] at f3
        refine ⟨by rw [toL_fit f3]; have := f3.1; omega, fun f4 => ?_, fun f4 => ?_⟩
        · exact h1 _ (if_pos ⟨f1, f2'.1, f3, f4⟩)
        · exact h2 (if_neg fun k => f4 k.2.2.2)
    · by_cases hne : sI H 1321 m 0 1 = H
      · have : hI (sI H 1321 m 0 1) 1321 m 0 = 0 := by rw [hne, ho]
        rw [hI_sI, u3_same] at this
        exact absurd this (by decide)
      · have hbad := hbad hne
        refine K_plus_tail ht rfl (by rw [hI_sI, u3_same]; exact Or.inr rfl) hs2 hn hb hep (fun h => ?_) (fun h => ?_)
        · rw [sI_sI]; exact h2 hbad
        · rw [hI_sI, u3_same] at h; exact absurd h (by decide)
  -- the ends of the tests of the sum
  have ends : ∀ (H8 : HP) (u v : Int64), tg H8 m = 13 → (H8 = H ∨ H8 = sI H 1321 m 0 1) → (H8 = H → fitI (a.toInt * (e / gcL b e).toInt) ∧ fitI (c.toInt * (b / gcL b e).toInt) ∧ u = prL a (e / gcL b e) ∧ v = prL c (b / gcL b e)) → (H8 ≠ H → addF a b (if s = 1 then c else -c) e = none) → ∀ s2 : Int32, okZ s2 → ((u.toInt ≠ -9223372036854775808 → (v * s.toInt64).toInt ≠ -9223372036854775808 → (s2 = 0 ↔ fitI (u.toInt + (v * s.toInt64).toInt)))) → wb_X12_plus_104 (d + 3) q m b e (gcL b e) (u + v * s.toInt64) (some m) (hI H8 1321 m 0) s2 H8 := by
    intro H8 u v _ hH hg hbad s2 hs2 hfit
    refine tail H8 u v hH hg hbad s2 hs2 (fun h => hfit ?_ ?_)
    · obtain ⟨f1, f2, rfl, rfl⟩ := hg h
      rw [prL_fit f1]; omega
    · obtain ⟨f1, f2, rfl, rfl⟩ := hg h
      have hm : (prL c (b / gcL b e)).toInt ≠ -9223372036854775808 := by rw [prL_fit f2]; omega
      rw [sneg hm, prL_fit f2]
      split <;> omega
  have key : ∀ (H8 : HP) (u v : Int64), tg H8 m = 13 → (H8 = H ∨ H8 = sI H 1321 m 0 1) → (H8 = H → fitI (a.toInt * (e / gcL b e).toInt) ∧ fitI (c.toInt * (b / gcL b e).toInt) ∧ u = prL a (e / gcL b e) ∧ v = prL c (b / gcL b e)) → (H8 ≠ H → addF a b (if s = 1 then c else -c) e = none) → ∀ (y : Int64), y = v * s.toInt64 → ∀ s2 : Int32, okZ s2 → ((u.toInt ≠ -9223372036854775808 → y.toInt ≠ -9223372036854775808 → (s2 = 0 ↔ fitI (u.toInt + y.toInt)))) → wb_X12_plus_104 (d + 3) q m b e (gcL b e) (u + y) (some m) (hI H8 1321 m 0) s2 H8 := by
    intro H8 u v a1 a2 a3 a4 y hy s2 b1 b2
    subst hy
    exact ends H8 u v a1 a2 a3 a4 s2 b1 b2
  have sum : ∀ (H8 : HP) (u v : Int64), tg H8 m = 13 → (H8 = H ∨ H8 = sI H 1321 m 0 1) → (H8 = H → fitI (a.toInt * (e / gcL b e).toInt) ∧ fitI (c.toInt * (b / gcL b e).toInt) ∧ u = prL a (e / gcL b e) ∧ v = prL c (b / gcL b e)) → (H8 ≠ H → addF a b (if s = 1 then c else -c) e = none) → ∀ (y : Int64), y = v * s.toInt64 → ∀ t : Int64, t = u + y → (t = (-9223372036854775808 : Int64) → wb_X12_plus_104 (d + 3) q m b e (gcL b e) t (some m) (hI H8 1321 m 0) (1 : Int32) H8) ∧ (¬ t = (-9223372036854775808 : Int64) → (0 < u.toInt ∧ 0 < y.toInt ∧ t.toInt < 0 ∨ u.toInt < 0 ∧ y.toInt < 0 ∧ 0 ≤ t.toInt) → wb_X12_plus_104 (d + 3) q m b e (gcL b e) t (some m) (hI H8 1321 m 0) (1 : Int32) H8) ∧ (¬ t = (-9223372036854775808 : Int64) → ¬ (0 < u.toInt ∧ 0 < y.toInt ∧ t.toInt < 0 ∨ u.toInt < 0 ∧ y.toInt < 0 ∧ 0 ≤ t.toInt) → wb_X12_plus_104 (d + 3) q m b e (gcL b e) t (some m) (hI H8 1321 m 0) (0 : Int32) H8) := by
    intro H8 u v a1 a2 a3 a4 y hy t htt
    obtain ⟨k, hk⟩ := i64_add u y
    have u1 := i64_lo u
    have u2 := i64_hi u
    have y1 := i64_lo y
    have y2 := i64_hi y
    have t1 := i64_lo (u + y)
    have t2 := i64_hi (u + y)
    rw [← htt] at hk t1 t2
    have k1 := fun s2 b1 b2 => key H8 u v a1 a2 a3 a4 y hy s2 b1 b2
    rw [← htt] at k1
    have n10 : ¬ (1 : Int32) = 0 := by decide
    refine ⟨fun h => k1 1 (Or.inr rfl) fun _ _ => ?_, fun h h3 => k1 1 (Or.inr rfl) fun _ _ => ?_, fun h h3 => k1 0 (Or.inl rfl) fun _ _ => ?_⟩
    · rw [i64_eq, i64_m] at h
      exact ⟨fun k => absurd k n10, fun k => by unfold fitI at k; omega⟩
    · exact ⟨fun k => absurd k n10, fun k => by unfold fitI at k; omega⟩
    · rw [i64_eq, i64_m] at h
      exact ⟨fun _ => by unfold fitI; omega, fun _ => rfl⟩
  have fin := fun (H8 : HP) (u v : Int64) b1 b2 b3 b4 => sum H8 u v b1 b2 b3 b4 _ rfl _ rfl
  have hh : sI H 1321 m 0 1 ≠ H := fun e => by
    have : hI (sI H 1321 m 0 1) 1321 m 0 = 0 := by rw [e, ho]
    rw [hI_sI, u3_same] at this
    exact absurd this (by decide)
  have bad1 : ¬ fitI (a.toInt * (e / gcL b e).toInt) → addF a b (if s = 1 then c else -c) e = none := fun h => if_neg fun k => h k.1
  have bad2 : ¬ fitI (c.toInt * (b / gcL b e).toInt) → addF a b (if s = 1 then c else -c) e = none := fun h => if_neg fun k => h (by
    by_cases h' : s = 1
    · rw [if_pos h'] at k; exact k.2.1
    · have k2 := k.2.1
      rw [if_neg h', i64_neg c hc, neg_fit, ← fit_sym] at k2
      exact k2)
  refine K_timed ht okO (fun f1 => ⟨hn, ht, K_timed ht okO (fun f2 => ⟨ht, ?_⟩) (fun f2 r => ⟨ht, ?_⟩)⟩) (fun f1 r => ⟨hn, ht, K_timed ht (by rw [hI_sI, u3_same]; exact Or.inr rfl) (fun f2 => ⟨ht, ?_⟩) (fun f2 r2 => ⟨ht, ?_⟩)⟩)
  · obtain ⟨k1, k2, k3⟩ := fin H _ _ ht (Or.inl rfl) (fun _ => ⟨f1, f2, rfl, rfl⟩) (fun h => absurd rfl h)
    exact plus_tree k1 k2 k3
  · obtain ⟨k1, k2, k3⟩ := fin (sI H 1321 m 0 1) (prL a (e / gcL b e)) r ht (Or.inr rfl) (fun h => absurd h hh) (fun _ => bad2 f2)
    exact plus_tree k1 k2 k3
  · obtain ⟨k1, k2, k3⟩ := fin (sI H 1321 m 0 1) r (prL c (b / gcL b e)) ht (Or.inr rfl) (fun h => absurd h hh) (fun _ => bad1 f1)
    exact plus_tree k1 k2 k3
  · rw [sI_sI]
    obtain ⟨k1, k2, k3⟩ := fin (sI H 1321 m 0 1) r r2 ht (Or.inr rfl) (fun h => absurd h hh) (fun _ => bad1 f1)
    exact plus_tree k1 k2 k3
