
/-! ===== fractions: the class's calls ===== -/
def setF (H : HP) (a : Nat) (f : FR) : HP := sL (sL H 400 a 0 f.1) 401 a 0 f.2
abbrev getF (H : HP) (a : Nat) : FR := (hL H 400 a 0, hL H 401 a 0)
theorem K_multiplyBy {d : Nat} {q : HP → Bool → Prop} {H : HP} {a : Nat} {c e : Int64} (ht : tg H a = 4) (hb : 0 < (hL H 401 a 0).toInt) (ha : (hL H 400 a 0).toInt ≠ -9223372036854775808) (hc : c.toInt ≠ -9223372036854775808) (he : 0 < e.toInt) (h1 : ∀ f, mulF (hL H 400 a 0) (hL H 401 a 0) c e = some f → q (setF H a f) true) (h2 : mulF (hL H 400 a 0) (hL H 401 a 0) c e = none → q H false) : CZ (d + 2) 0 0 mX3_multiplyBy [rv (some a), .long c, .long e] H q := by
  refine C_X3_multiplyBy ?_
  unfold wb_X3_multiplyBy_0
  refine ⟨ht, K_cd ha (by omega) (by omega) ⟨ht, K_cd hc (by omega) (by omega) ⟨ht, gcL_ne ha he, gcL_ne hc hb, K_product ⟨ht, gcL_ne hc hb, gcL_ne ha he, K_product ⟨fun h => h2 ?_, fun h => ⟨fun h3 => ⟨ht, ?_⟩, fun h3 => h2 ?_⟩⟩⟩⟩⟩⟩
  · rw [prL_min] at h
    exact if_neg (fun e => h e.1)
  · rw [prL_min] at h h3
    exact h1 _ (if_pos ⟨Classical.byContradiction h, Classical.byContradiction h3⟩)
  · rw [prL_min] at h3
    exact if_neg (fun e => h3 e.2)
theorem K_multiply {d : Nat} {q : HP → Bool → Prop} {H : HP} {a b : Nat} (ht : tg H a = 4) (ht2 : tg H b = 4) (hf : okF (getF H a)) (hg : okF (getF H b)) (h1 : ∀ f, okF f → mulF (hL H 400 a 0) (hL H 401 a 0) (hL H 400 b 0) (hL H 401 b 0) = some f → q (setF H a f) true) (h2 : mulF (hL H 400 a 0) (hL H 401 a 0) (hL H 400 b 0) (hL H 401 b 0) = none → q H false) : CZ (d + 3) 0 0 mX3_multiply [rv (some a), rv (some b)] H q := by
  refine C_X3_multiply ?_
  unfold wb_X3_multiply_0
  exact ⟨b, rfl, ht2, ht, K_multiplyBy ht hf.1 hf.2.1 hg.2.1 hg.1 (fun f e => h1 f (mulF_ok hf hg.2.1 hg.1 hg.2.2 e) e) h2⟩
theorem K_divide {d : Nat} {q : HP → Bool → Prop} {H : HP} {a b : Nat} (ht : tg H a = 4) (ht2 : tg H b = 4) (hf : okF (getF H a)) (hg : okF (getF H b)) (h1 : ∀ f, okF f → divF (hL H 400 a 0) (hL H 401 a 0) (hL H 400 b 0) (hL H 401 b 0) = some f → q (setF H a f) true) (h2 : divF (hL H 400 a 0) (hL H 401 a 0) (hL H 400 b 0) (hL H 401 b 0) = none → q H false) : CZ (d + 3) 0 0 mX3_divide [rv (some a), rv (some b)] H q := by
  have g1 : 0 < (hL H 401 b 0).toInt := hg.1
  have g2 : (hL H 400 b 0).toInt ≠ -9223372036854775808 := hg.2.1
  have g3 := i64_hi (hL H 401 b 0)
  have g4 := i64_lo (hL H 400 b 0)
  refine C_X3_divide ?_
  unfold wb_X3_divide_0
  refine ⟨b, rfl, ht2, fun h0 => ⟨fun hs => ⟨ht, ?_⟩, fun hs => ⟨ht, ?_⟩⟩, fun h0 => ?_⟩
  · rw [i64_le, i64_0] at hs
    have h0' : (hL H 400 b 0).toInt ≠ 0 := fun e => h0 (i64_zero.mpr e)
    have e : divF (hL H 400 a 0) (hL H 401 a 0) (hL H 400 b 0) (hL H 401 b 0) = mulF (hL H 400 a 0) (hL H 401 a 0) (hL H 401 b 0) (hL H 400 b 0) := by rw [divF, if_neg h0, if_neg (by omega)]
    exact K_multiplyBy ht hf.1 hf.2.1 (by omega) (by omega) (fun f e2 => h1 f (divF_ok hf hg (e.trans e2)) (e.trans e2)) (fun e2 => h2 (e.trans e2))
  · rw [i64_le, i64_0] at hs
    have e : divF (hL H 400 a 0) (hL H 401 a 0) (hL H 400 b 0) (hL H 401 b 0) = mulF (hL H 400 a 0) (hL H 401 a 0) (-hL H 401 b 0) (-hL H 400 b 0) := by rw [divF, if_neg h0, if_pos (by omega)]
    exact K_multiplyBy ht hf.1 hf.2.1 (by rw [i64_neg _ (by omega)]; omega) (by rw [i64_neg _ g2]; omega) (fun f e2 => h1 f (divF_ok hf hg (e.trans e2)) (e.trans e2)) (fun e2 => h2 (e.trans e2))
  · exact h2 (if_pos h0)
theorem K_addUp {d : Nat} {q : HP → Bool → Prop} {H : HP} {a : Nat} {c e : Int64} (ht : tg H a = 4) (hb : 0 < (hL H 401 a 0).toInt) (he : 0 < e.toInt) (h1 : ∀ f, addF (hL H 400 a 0) (hL H 401 a 0) c e = some f → q (setF H a f) true) (h2 : addF (hL H 400 a 0) (hL H 401 a 0) c e = none → q H false) : CZ (d + 2) 0 0 mX3_addUp [rv (some a), .long c, .long e] H q := by
  refine C_X3_addUp ?_
  unfold wb_X3_addUp_0
  obtain ⟨g, b', d', g1, g2, g3, g4, g5, g6, g7, g8, -⟩ := gcL_spec (a := hL H 401 a 0) (by omega) he
  have hn := gcL_ne (a := hL H 401 a 0) (by omega) he
  refine ⟨ht, K_cd (by omega) (by omega) (by omega) ⟨ht, hn, K_product ⟨ht, hn, K_product (K_total ⟨ht, hn, K_product ⟨fun h => h2 ?_, fun h => ⟨fun h3 => ?_, fun h3 => h2 ?_⟩⟩⟩)⟩⟩⟩
  · refine if_neg (fun hh => ?_)
    rw [if_neg (by rw [prL_min, prL_min]; rintro (k | k); exact k hh.1; exact k hh.2.1), toL_min] at h
    exact h hh.2.2.1
  · rw [prL_min] at h3
    have h3 := Classical.byContradiction h3
    have hk : ¬ (prL (hL H 400 a 0) (e / gcL (hL H 401 a 0) e) = -9223372036854775808 ∨ prL c (hL H 401 a 0 / gcL (hL H 401 a 0) e) = -9223372036854775808) := fun k => h (if_pos k)
    rw [if_neg hk] at h ⊢
    rw [toL_min] at h
    rw [prL_min, prL_min] at hk
    have h := Classical.byContradiction h
    have hp : 0 < (prL (hL H 401 a 0) (e / gcL (hL H 401 a 0) e)).toInt := by
      rw [prL_fit h3, g6]; exact Int.mul_pos hb g8
    have hm : (toL (prL (hL H 400 a 0) (e / gcL (hL H 401 a 0) e)) (prL c (hL H 401 a 0 / gcL (hL H 401 a 0) e))).toInt ≠ -9223372036854775808 := by
      rw [toL_fit h]; have := h.1; omega
    refine K_cd hm (by omega) (by omega) ⟨gcL_ne hm hp, ht, gcL_ne hm hp, ?_⟩
    exact h1 _ (if_pos ⟨Classical.byContradiction fun k => hk (Or.inl k), Classical.byContradiction fun k => hk (Or.inr k), h, h3⟩)
  · rw [prL_min] at h3
    exact if_neg (fun hh => h3 hh.2.2.2)
theorem K_add {d : Nat} {q : HP → Bool → Prop} {H : HP} {a b : Nat} (ht : tg H a = 4) (ht2 : tg H b = 4) (hf : okF (getF H a)) (hg : okF (getF H b)) (h1 : ∀ f, okF f → addF (hL H 400 a 0) (hL H 401 a 0) (hL H 400 b 0) (hL H 401 b 0) = some f → q (setF H a f) true) (h2 : addF (hL H 400 a 0) (hL H 401 a 0) (hL H 400 b 0) (hL H 401 b 0) = none → q H false) : CZ (d + 3) 0 0 mX3_add [rv (some a), rv (some b)] H q := by
  refine C_X3_add ?_
  unfold wb_X3_add_0
  exact ⟨b, rfl, ht2, ht, K_addUp ht hf.1 hg.1 (fun f e => h1 f (addF_ok hf.1 hg.1 e) e) h2⟩
theorem K_subtract {d : Nat} {q : HP → Bool → Prop} {H : HP} {a b : Nat} (ht : tg H a = 4) (ht2 : tg H b = 4) (hf : okF (getF H a)) (hg : okF (getF H b)) (h1 : ∀ f, okF f → addF (hL H 400 a 0) (hL H 401 a 0) (-hL H 400 b 0) (hL H 401 b 0) = some f → q (setF H a f) true) (h2 : addF (hL H 400 a 0) (hL H 401 a 0) (-hL H 400 b 0) (hL H 401 b 0) = none → q H false) : CZ (d + 3) 0 0 mX3_subtract [rv (some a), rv (some b)] H q := by
  refine C_X3_subtract ?_
  unfold wb_X3_subtract_0
  exact ⟨b, rfl, ht2, ht, K_addUp ht hf.1 hg.1 (fun f e => h1 f (addF_ok hf.1 hg.1 e) e) h2⟩
theorem K_set {d : Nat} {q : HP → Prop} {H : HP} {a : Nat} {c e : Int64} (ht : tg H a = 4) (hc : c.toInt ≠ -9223372036854775808) (he : 0 < e.toInt) (h1 : q (setF H a (redF c e))) : CV (d + 2) 0 0 mX3_set [rv (some a), .long c, .long e] H q := by
  refine C_X3_set ?_
  unfold wb_X3_set_0
  exact K_cd hc (by omega) (by omega) ⟨gcL_ne hc he, ht, gcL_ne hc he, h1⟩
theorem K_copy {d : Nat} {q : HP → Prop} {H : HP} {a b : Nat} (ht : tg H a = 4) (ht2 : tg H b = 4) (h1 : q (setF H a (getF H b))) : CV (d + 1) 0 0 mX3_copy [rv (some a), rv (some b)] H q := by
  refine C_X3_copy ?_
  unfold wb_X3_copy_0
  refine ⟨b, rfl, ht2, ht, ?_⟩
  have e : hL (sL H 400 a 0 (hL H 400 b 0)) 401 b 0 = hL H 401 b 0 := by rw [hL_sL, u3_g _ _ _ _ _ _ (by decide)]
  rw [e]
  exact h1
theorem K_part {d : Nat} {q : HP → Int64 → Prop} {H : HP} {a : Nat} {x : Int32} (ht : tg H a = 4) (h1 : q H (if x = 0 then hL H 400 a 0 else if x = 1 then hL H 401 a 0 else -9223372036854775808)) : CJ (d + 1) 0 0 mX3_part [rv (some a), .int x] H q := by
  refine C_X3_part ?_
  unfold wb_X3_part_0
  refine ⟨fun h => ⟨fun h2 => ?_, fun h2 => ⟨ht, ?_⟩⟩, fun h => ⟨ht, ?_⟩⟩
  · rwa [if_neg h, if_neg h2] at h1
  · rwa [if_neg h, if_pos h2] at h1
  · rwa [if_pos h] at h1
