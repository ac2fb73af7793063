
theorem hI_at {H : HP} {m p : Nat} {T : TP} {f : Int32} (h : MT H m T p f) {s : Nat} (hs : s ≤ p) : hI H 1324 m 0 - Int32.ofNat s = Int32.ofNat (p - s) := by
  have h3 := h.2.2.1
  have h5 := h.2.2.2.2.1
  rw [h.2.2.2.1]
  refine iN_inj (by omega) ?_
  have h1 := iN_toInt (n := p) (by omega)
  have h2 := iN_toInt (n := s) (by omega)
  rw [i32_subx] <;> rw [h1, h2] <;> omega
theorem letters_tail {d : Nat} {q : HP → Int32 → Prop} {H : HP} {m p s : Nat} {T : TP} {f : Int32} (h : MT H m T p f) (hs : s ≤ p) (hq : q (atM H m p (if p = s ∨ isLet (lk T p) = true then flt f p else f)) (Int32.ofNat (p - s))) : ((hI H 1324 m 0) = Int32.ofNat s → CV (d + 2) 0 0 mX12_fails [rv (some m)] H (fun H2 => tg H2 m = 13 ∧ (q H2 ((hI H2 1324 m 0) - Int32.ofNat s)))) ∧ (¬ ((hI H 1324 m 0) = Int32.ofNat s) → CZ (d + 2) 0 0 mX12_isLetter [rv (some m)] H (fun H4 b5 => (b5 = false → tg H4 m = 13 ∧ (q H4 ((hI H4 1324 m 0) - Int32.ofNat s))) ∧ (b5 = true → tg H4 m = 13 ∧ (CV (d + 2) 0 0 mX12_fails [rv (some m)] H4 (fun H7 => tg H7 m = 13 ∧ (q H7 ((hI H7 1324 m 0) - Int32.ofNat s))))))) := by
  have h3 := h.2.2.1
  have h5 := h.2.2.2.2.1
  rw [h.2.2.2.1, iN_eq (by omega) (by omega)]
  refine ⟨fun c => K_fails h ⟨h.1.1, ?_⟩, fun c => K_misLetter h ⟨fun c2 => ⟨h.1.1, ?_⟩, fun c2 => ⟨h.1.1, K_fails h ⟨h.1.1, ?_⟩⟩⟩⟩
  · rw [hI_at (h.at (p' := p) (f' := flt f p) h5) hs]
    rwa [if_pos (Or.inl c)] at hq
  · rw [hI_at h hs]
    rwa [if_neg (by rintro (k | k); exact c k; rw [c2] at k; cases k), atM_same h] at hq
  · rw [hI_at (h.at (p' := p) (f' := flt f p) h5) hs]
    rwa [if_pos (Or.inr c2)] at hq
theorem isLet_lt {T : TP} {p : Nat} (c : isLet (lk T p) = true) : p < T.1 := by
  refine Classical.byContradiction fun hn => ?_
  rw [lk, if_neg hn] at c
  exact absurd c (by decide)
theorem isFig_lt {T : TP} {p : Nat} (c : isFig (lk T p) = true) : p < T.1 := by
  refine Classical.byContradiction fun hn => ?_
  rw [lk, if_neg hn] at c
  exact absurd c (by decide)
theorem lk_lt {T : TP} {p : Nat} {x : Int32} (c : lk T p = x) (hx : x ≠ 0) : p < T.1 := by
  refine Classical.byContradiction fun hn => ?_
  rw [lk, if_neg hn] at c
  exact hx c.symm
theorem K_letters_loop {d : Nat} {q : HP → Int32 → Prop} {m s : Nat} {T : TP} {f : Int32} (hf : f.toInt < 0) : ∀ (n p : Nat) (H : HP), MT H m T p f → n + (p - s) = 4 → s ≤ p → q (atM H m (p + run isLet T n p) (if p + run isLet T n p = s ∨ isLet (lk T (p + run isLet T n p)) = true then Int32.ofNat (p + run isLet T n p) else f)) (Int32.ofNat (p + run isLet T n p - s)) → L_X12_letters_5 (d + 2) q m (Int32.ofNat s) H := by
  have tl : ∀ {p : Nat} {H : HP}, MT H m T p f → s ≤ p → q (atM H m p (if p = s ∨ isLet (lk T p) = true then Int32.ofNat p else f)) (Int32.ofNat (p - s)) → _ := fun {p H} h hs hq => letters_tail (d := d) (q := q) h hs (by rw [flt, if_pos hf]; exact hq)
  intro n
  induction n with
  | zero =>
    intro p H h hn hs hq
    have h3 := h.2.2.1
    have h5 := h.2.2.2.2.1
    rw [run, Nat.add_zero] at hq
    refine T_X12_letters_5 ?_
    unfold wb_X12_letters_5
    rw [h.2.2.2.2.2.1, i32_le, i32_0]
    refine ⟨h.1.1, fun c => by omega, fun _ => K_misLetter h ⟨fun c => ⟨h.1.1, tl h hs hq⟩, fun c => ⟨h.1.1, fun _ => tl h hs hq, fun k => absurd ?_ k⟩⟩⟩
    have e4 : (4 : Int32) = Int32.ofNat 4 := rfl
    rw [h.2.2.2.1, e4, iN_add (by omega), iN_le (by omega) (by omega)]
    omega
  | succ n ih =>
    intro p H h hn hs hq
    have h3 := h.2.2.1
    have h5 := h.2.2.2.2.1
    refine T_X12_letters_5 ?_
    unfold wb_X12_letters_5
    rw [h.2.2.2.2.2.1, i32_le, i32_0]
    refine ⟨h.1.1, fun c => by omega, fun _ => K_misLetter h ⟨fun c => ⟨h.1.1, ?_⟩, fun c => ⟨h.1.1, fun k => ?_, fun _ => ?_⟩⟩⟩
    · rw [run, if_neg (by rw [c]; decide), Nat.add_zero] at hq
      exact tl h hs hq
    · have e4 : (4 : Int32) = Int32.ofNat 4 := rfl
      rw [h.2.2.2.1, e4, iN_add (by omega), iN_le (by omega) (by omega)] at k
      omega
    · rw [h.inc]
      rw [run, if_pos c] at hq
      refine ih (p + 1) _ (h.at (isLet_lt c)) (by omega) (by omega) ?_
      rw [atM_atM]
      have e1 : p + 1 + run isLet T n (p + 1) = p + (run isLet T n (p + 1) + 1) := by omega
      rw [e1]; exact hq
theorem K_letters {d : Nat} {q : HP → Int32 → Prop} {H : HP} {m p : Nat} {T : TP} {f : Int32} (h : MT H m T p f) (h0 : 0 ≤ f.toInt → q H 0) (h1 : f.toInt < 0 → q (atM H m (p + run isLet T 4 p) (if run isLet T 4 p = 0 ∨ isLet (lk T (p + run isLet T 4 p)) = true then Int32.ofNat (p + run isLet T 4 p) else f)) (Int32.ofNat (run isLet T 4 p))) : CI (d + 3) 0 0 mX12_letters [rv (some m)] H q := by
  refine C_X12_letters ?_
  unfold wb_X12_letters_0
  refine ⟨h.1.1, ?_⟩
  by_cases hf : 0 ≤ f.toInt
  · have ht := letters_tail (d := d) (q := q) (s := p) h (Nat.le_refl _) (by
      rw [if_pos (Or.inl rfl), flt, if_neg (by omega), atM_same h, Nat.sub_self]
      exact h0 hf)
    rw [h.2.2.2.1] at ht ⊢
    refine T_X12_letters_5 ?_
    unfold wb_X12_letters_5
    rw [h.2.2.2.2.2.1, i32_le, i32_0, h.2.2.2.1]
    exact ⟨h.1.1, fun _ => ht, fun c => absurd hf c⟩
  · have hf : f.toInt < 0 := by omega
    rw [h.2.2.2.1]
    refine K_letters_loop hf 4 p H h (by omega) (Nat.le_refl _) ?_
    have h1 := h1 hf
    have e : p + run isLet T 4 p - p = run isLet T 4 p := by omega
    have e2 : p + run isLet T 4 p = p ↔ run isLet T 4 p = 0 := by omega
    simp only [e, e2]; exact h1
theorem figures_tail {d : Nat} {q : HP → Int32 → Prop} {H : HP} {m p s : Nat} {T : TP} {f v : Int32} (h : MT H m T p f) (hs : s ≤ p) (hq : q (atM H m p (if p = s ∨ isFig (lk T p) = true then flt f p else f)) v) : ((hI H 1324 m 0) = Int32.ofNat s → CV (d + 2) 0 0 mX12_fails [rv (some m)] H (fun H2 => q H2 v)) ∧ (¬ ((hI H 1324 m 0) = Int32.ofNat s) → CZ (d + 2) 0 0 mX12_isFigure [rv (some m)] H (fun H3 b4 => (b4 = false → q H3 v) ∧ (b4 = true → tg H3 m = 13 ∧ (CV (d + 2) 0 0 mX12_fails [rv (some m)] H3 (fun H5 => q H5 v))))) := by
  have h3 := h.2.2.1
  have h5 := h.2.2.2.2.1
  rw [h.2.2.2.1, iN_eq (by omega) (by omega)]
  refine ⟨fun c => K_fails h ?_, fun c => K_misFigure h ⟨fun c2 => ?_, fun c2 => ⟨h.1.1, K_fails h ?_⟩⟩⟩
  · rwa [if_pos (Or.inl c)] at hq
  · rwa [if_neg (by rintro (k | k); exact c k; rw [c2] at k; cases k), atM_same h] at hq
  · rwa [if_pos (Or.inr c2)] at hq
theorem fig_eq (v c : Int32) : ((10 : Int32) * v + c) - (48 : Int32) = v * 10 + (c - 48) := by
  rw [Int32.mul_comm, Int32.sub_eq_add_neg, Int32.sub_eq_add_neg, Int32.add_assoc]
theorem K_figures_loop {d : Nat} {q : HP → Int32 → Prop} {m s k0 : Nat} {T : TP} {f : Int32} (hf : f.toInt < 0) (hk : k0 ≤ 6) : ∀ (n p : Nat) (v : Int32) (H : HP), MT H m T p f → n + (p - s) = k0 → s ≤ p → q (atM H m (p + run isFig T n p) (if p + run isFig T n p = s ∨ isFig (lk T (p + run isFig T n p)) = true then Int32.ofNat (p + run isFig T n p) else f)) (numb T n p v) → L_X12_figures_7 (d + 2) q m (Int32.ofNat k0) (Int32.ofNat s) v H := by
  have tl : ∀ {p : Nat} {H : HP} {v : Int32}, MT H m T p f → s ≤ p → q (atM H m p (if p = s ∨ isFig (lk T p) = true then Int32.ofNat p else f)) v → _ := fun {p H v} h hs hq => figures_tail (d := d) (q := q) (v := v) h hs (by rw [flt, if_pos hf]; exact hq)
  intro n
  induction n with
  | zero =>
    intro p v H h hn hs hq
    have h3 := h.2.2.1
    have h5 := h.2.2.2.2.1
    rw [run, Nat.add_zero, numb] at hq
    refine T_X12_figures_7 ?_
    unfold wb_X12_figures_7
    rw [h.2.2.2.2.2.1, i32_le, i32_0]
    refine ⟨h.1.1, fun c => by omega, fun _ => K_misFigure h ⟨fun c => ⟨h.1.1, tl h hs hq⟩, fun c => ⟨h.1.1, fun _ => tl h hs hq, fun k => absurd ?_ k⟩⟩⟩
    rw [h.2.2.2.1, iN_add (by omega), iN_le (by omega) (by omega)]
    omega
  | succ n ih =>
    intro p v H h hn hs hq
    have h3 := h.2.2.1
    have h5 := h.2.2.2.2.1
    refine T_X12_figures_7 ?_
    unfold wb_X12_figures_7
    rw [h.2.2.2.2.2.1, i32_le, i32_0]
    refine ⟨h.1.1, fun c => by omega, fun _ => K_misFigure h ⟨fun c => ⟨h.1.1, ?_⟩, fun c => ⟨h.1.1, fun k => ?_, fun _ => K_here h ⟨h.1.1, ?_⟩⟩⟩⟩
    · have hc : ¬ isFig (lk T p) = true := by rw [c]; decide
      rw [run, if_neg hc, Nat.add_zero, numb, if_neg hc] at hq
      exact tl h hs hq
    · rw [h.2.2.2.1, iN_add (by omega), iN_le (by omega) (by omega)] at k
      omega
    · rw [h.inc, fig_eq]
      rw [run, if_pos c, numb, if_pos c] at hq
      refine ih (p + 1) _ _ (h.at (isFig_lt c)) (by omega) (by omega) ?_
      rw [atM_atM]
      have e1 : p + 1 + run isFig T n (p + 1) = p + (run isFig T n (p + 1) + 1) := by omega
      rw [e1]; exact hq
theorem K_figures {d : Nat} {q : HP → Int32 → Prop} {H : HP} {m p k0 : Nat} {T : TP} {f : Int32} (hk : k0 ≤ 6) (h : MT H m T p f) (h0 : 0 ≤ f.toInt → q H 0) (h1 : f.toInt < 0 → q (atM H m (p + run isFig T k0 p) (if run isFig T k0 p = 0 ∨ isFig (lk T (p + run isFig T k0 p)) = true then Int32.ofNat (p + run isFig T k0 p) else f)) (numb T k0 p 0)) : CI (d + 3) 0 0 mX12_figures [rv (some m), .int (Int32.ofNat k0)] H q := by
  refine C_X12_figures ?_
  unfold wb_X12_figures_0
  refine ⟨h.1.1, ?_⟩
  by_cases hf : 0 ≤ f.toInt
  · have ht := figures_tail (d := d) (q := q) (s := p) (v := 0) h (Nat.le_refl _) (by
      rw [if_pos (Or.inl rfl), flt, if_neg (by omega), atM_same h]
      exact h0 hf)
    rw [h.2.2.2.1] at ht ⊢
    refine T_X12_figures_7 ?_
    unfold wb_X12_figures_7
    rw [h.2.2.2.2.2.1, i32_le, i32_0, h.2.2.2.1]
    exact ⟨h.1.1, fun _ => ht, fun c => absurd hf c⟩
  · have hf : f.toInt < 0 := by omega
    rw [h.2.2.2.1]
    refine K_figures_loop hf hk k0 p 0 H h (by omega) (Nat.le_refl _) ?_
    have h1 := h1 hf
    have e2 : p + run isFig T k0 p = p ↔ run isFig T k0 p = 0 := by omega
    simp only [e2]; exact h1
theorem K_below {d : Nat} {q : HP → Int32 → Prop} {H : HP} {m p : Nat} {T : TP} {f : Int32} (h : MT H m T p f) (h0 : (0 ≤ f.toInt ∨ lk T p ≠ 47) → q H 1) (h1 : f.toInt < 0 → lk T p = 47 → q (atM H m (p + 1 + run isFig T 6 (p + 1)) (if run isFig T 6 (p + 1) = 0 ∨ isFig (lk T (p + 1 + run isFig T 6 (p + 1))) = true then Int32.ofNat (p + 1 + run isFig T 6 (p + 1)) else f)) (numb T 6 (p + 1) 0)) : CI (d + 4) 0 0 mX12_below [rv (some m)] H q := by
  refine C_X12_below ?_
  unfold wb_X12_below_0
  rw [h.2.2.2.2.2.1, i32_le, i32_0]
  refine ⟨h.1.1, fun c => h0 (Or.inl c), fun c => K_here h ⟨fun e => ⟨h.1.1, ?_⟩, fun e => h0 (Or.inr e)⟩⟩
  rw [h.inc]
  refine K_figures (k0 := 6) (by omega) (h.at (f' := f) (lk_lt e (by decide))) (fun k => absurd k c) (fun k => ?_)
  rw [atM_atM]; exact h1 k e
