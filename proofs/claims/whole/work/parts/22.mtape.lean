
/-! ===== the reference's tape ===== -/
theorem i64_of32 (x : Int32) : (x.toInt64).toInt = x.toInt := by simp
theorem K_isIn {d : Nat} {q : HP → Bool → Prop} {H : HP} {x a b : Int64} (hq : q H (decide (a.toInt ≤ x.toInt ∧ x.toInt ≤ b.toInt))) : CZ (d + 1) 0 0 mX12_isIn [.long x, .long a, .long b] H q := by
  refine C_X12_isIn ?_
  unfold wb_X12_isIn_0
  simp only [i64_lt]
  refine ⟨fun c => ?_, fun c => ⟨fun c2 => ?_, fun c2 => ?_⟩⟩
  · rwa [decide_eq_false (by omega)] at hq
  · rwa [decide_eq_false (by omega)] at hq
  · rwa [decide_eq_true (by omega)] at hq
theorem sI_comm (H : HP) {g a i g' a' i' : Nat} (v w : Int32) (h : ¬ (g = g' ∧ a = a' ∧ i = i')) : sI (sI H g a i v) g' a' i' w = sI (sI H g' a' i' w) g a i v := by
  have e : u3 (u3 H.1 g a i v) g' a' i' w = u3 (u3 H.1 g' a' i' w) g a i v := by
    funext x y z
    unfold u3
    by_cases h1 : x = g ∧ y = a ∧ z = i
    · by_cases h2 : x = g' ∧ y = a' ∧ z = i'
      · exact absurd ⟨h1.1.symm.trans h2.1, h1.2.1.symm.trans h2.2.1, h1.2.2.symm.trans h2.2.2⟩ h
      · rw [if_neg h2, if_pos h1, if_pos h1]
    · rw [if_neg h1, if_neg h1]
  unfold sI
  exact congrArg (fun f => (f, H.2)) e
def atM (H : HP) (m p : Nat) (f : Int32) : HP := sI (sI H 1324 m 0 (Int32.ofNat p)) 1325 m 0 f
def MT (H : HP) (m : Nat) (T : TP) (p : Nat) (f : Int32) : Prop := shM H m ∧ hI H 1323 m 0 = Int32.ofNat T.1 ∧ T.1 ≤ 60 ∧ hI H 1324 m 0 = Int32.ofNat p ∧ p ≤ T.1 ∧ hI H 1325 m 0 = f ∧ (∀ i, i < T.1 → hI H 4864 (m + 15) i = T.2 i ∧ 1 ≤ (T.2 i).toInt ∧ (T.2 i).toInt ≤ 127)
theorem atM_same {H : HP} {m p : Nat} {T : TP} {f : Int32} (h : MT H m T p f) : atM H m p f = H := by
  obtain ⟨h1, h2, h3, h4, h5, h6, h7⟩ := h
  unfold atM
  rw [← h4, sI_same, ← h6, sI_same]
theorem atM_atM (H : HP) (m p p' : Nat) (f f' : Int32) : atM (atM H m p f) m p' f' = atM H m p' f' := by
  unfold atM
  rw [sI_comm (sI H 1324 m 0 (Int32.ofNat p)) f (Int32.ofNat p') (by omega), sI_sI, sI_sI]
theorem MT.at {H : HP} {m p p' : Nat} {T : TP} {f f' : Int32} (h : MT H m T p f) (hp : p' ≤ T.1) : MT (atM H m p' f') m T p' f' := by
  obtain ⟨h1, h2, h3, h4, h5, h6, h7⟩ := h
  unfold atM
  refine ⟨h1, ?_, h3, ?_, hp, ?_, fun i hi => ?_⟩
  · rw [hI_sI, u3_g _ _ _ _ _ _ (by decide), hI_sI, u3_g _ _ _ _ _ _ (by decide)]; exact h2
  · rw [hI_sI, u3_g _ _ _ _ _ _ (by decide), hI_sI, u3_same]
  · rw [hI_sI, u3_same]
  · rw [hI_sI, u3_g _ _ _ _ _ _ (by decide), hI_sI, u3_g _ _ _ _ _ _ (by decide)]; exact h7 i hi
theorem MT.inc {H : HP} {m p : Nat} {T : TP} {f : Int32} (h : MT H m T p f) : sI H 1324 m 0 (hI H 1324 m 0 + (1 : Int32)) = atM H m (p + 1) f := by
  obtain ⟨h1, h2, h3, h4, h5, h6, h7⟩ := h
  unfold atM
  rw [h4, iN_inc (by omega)]
  rw [show f = hI (sI H 1324 m 0 (Int32.ofNat (p + 1))) 1325 m 0 by rw [hI_sI, u3_g _ _ _ _ _ _ (by decide), h6], sI_same]
theorem MT.setf {H : HP} {m p : Nat} {T : TP} {f f' : Int32} (h : MT H m T p f) : sI H 1325 m 0 f' = atM H m p f' := by
  obtain ⟨h1, h2, h3, h4, h5, h6, h7⟩ := h
  unfold atM
  rw [← h4, sI_same]
theorem mlk_lo {T : TP} {H : HP} {m p : Nat} {f : Int32} (h : MT H m T p f) (i : Nat) : 0 ≤ (lk T i).toInt ∧ (lk T i).toInt ≤ 127 ∧ ((lk T i).toInt = 0 ↔ T.1 ≤ i) := by
  unfold lk
  split
  · rename_i hi
    have := (h.2.2.2.2.2.2 i hi).2
    omega
  · rw [i32_0]; omega
theorem K_here {d : Nat} {q : HP → Int32 → Prop} {H : HP} {m p : Nat} {T : TP} {f : Int32} (h : MT H m T p f) (hq : q H (lk T p)) : CI (d + 1) 0 0 mX12_here [rv (some m)] H q := by
  obtain ⟨h1, h2, h3, h4, h5, h6, h7⟩ := h
  obtain ⟨a1, a2, a3, a4⟩ := mA_tape h1
  refine C_X12_here ?_
  unfold wb_X12_here_0
  rw [h2, h4, iN_le (by omega) (by omega)]
  refine ⟨h1.1, fun c => ?_, fun c => ⟨m + 15, a1, a2, ?_, ?_⟩⟩
  · rwa [lk, if_neg (by omega)] at hq
  · rw [a4]; exact vpi_of (by omega) (by decide)
  · rw [a3, iN_cl (by omega), (h7 p (by omega)).1]
    rwa [lk, if_pos (by omega)] at hq
theorem K_misLetter {d : Nat} {q : HP → Bool → Prop} {H : HP} {m p : Nat} {T : TP} {f : Int32} (h : MT H m T p f) (hq : q H (isLet (lk T p))) : CZ (d + 2) 0 0 mX12_isLetter [rv (some m)] H q := by
  refine C_X12_isLetter ?_
  unfold wb_X12_isLetter_0
  refine ⟨h.1.1, K_here h (K_isIn ?_)⟩
  rw [i64_of32]; exact hq
theorem K_misFigure {d : Nat} {q : HP → Bool → Prop} {H : HP} {m p : Nat} {T : TP} {f : Int32} (h : MT H m T p f) (hq : q H (isFig (lk T p))) : CZ (d + 2) 0 0 mX12_isFigure [rv (some m)] H q := by
  refine C_X12_isFigure ?_
  unfold wb_X12_isFigure_0
  refine ⟨h.1.1, K_here h (K_isIn ?_)⟩
  rw [i64_of32]; exact hq
/-- the first fault counts -/
def flt (f : Int32) (p : Nat) : Int32 := if f.toInt < 0 then Int32.ofNat p else f
theorem K_fails {d : Nat} {q : HP → Prop} {H : HP} {m p : Nat} {T : TP} {f : Int32} (h : MT H m T p f) (hq : q (atM H m p (flt f p))) : CV (d + 1) 0 0 mX12_fails [rv (some m)] H q := by
  refine C_X12_fails ?_
  unfold wb_X12_fails_0
  have h' := h
  obtain ⟨h1, h2, h3, h4, h5, h6, h7⟩ := h'
  unfold flt at hq
  rw [h6, i32_le, i32_0]
  refine ⟨h1.1, fun c => ?_, fun c => ?_⟩
  · rwa [if_neg (by omega), atM_same h] at hq
  · rw [if_pos (by omega)] at hq
    rw [h4, h.setf]; exact hq
theorem K_must {d : Nat} {q : HP → Prop} {H : HP} {m p : Nat} {T : TP} {f x : Int32} (h : MT H m T p f) (h0 : 0 ≤ f.toInt → q H) (h1 : f.toInt < 0 → lk T p = x → q (atM H m (p + 1) f)) (h2 : f.toInt < 0 → lk T p ≠ x → q (atM H m p (Int32.ofNat p))) : CV (d + 2) 0 0 mX12_must [rv (some m), .int x] H q := by
  refine C_X12_must ?_
  unfold wb_X12_must_0
  rw [h.2.2.2.2.2.1, i32_lt, i32_0]
  refine ⟨h.1.1, fun c => K_here h ⟨fun e => ⟨h.1.1, ?_⟩, fun e => ⟨h.1.1, K_fails h ?_⟩⟩, fun c => h0 (by omega)⟩
  · rw [h.inc]; exact h1 c e
  · rw [flt, if_pos c]; exact h2 c e
theorem K_figure {d : Nat} {q : HP → Int32 → Prop} {H : HP} {m p : Nat} {T : TP} {f : Int32} (h : MT H m T p f) (h0 : (0 ≤ f.toInt ∨ isPow (lk T p) = false) → q H 1) (h1 : f.toInt < 0 → isPow (lk T p) = true → q (atM H m (p + 1) f) (lk T p - 48)) : CI (d + 2) 0 0 mX12_figure [rv (some m)] H q := by
  refine C_X12_figure ?_
  unfold wb_X12_figure_0
  rw [h.2.2.2.2.2.1, i32_le, i32_0]
  refine ⟨h.1.1, fun c => h0 (Or.inl c), fun c => K_here h (K_isIn ?_)⟩
  have e : decide ((49 : Int64).toInt ≤ (lk T p).toInt64.toInt ∧ (lk T p).toInt64.toInt ≤ (52 : Int64).toInt) = isPow (lk T p) := by
    rw [i64_of32]; rfl
  rw [e]
  refine ⟨fun c2 => ⟨h.1.1, ?_⟩, fun c2 => h0 (Or.inr c2)⟩
  have hp : p < T.1 := by
    refine Classical.byContradiction fun hn => ?_
    rw [lk, if_neg hn] at c2
    exact absurd c2 (by decide)
  have hlen := h.2.2.1
  rw [h.inc]
  have hA := h.at (p' := p + 1) (f' := f) hp
  obtain ⟨a1, a2, a3, a4⟩ := mA_tape hA.1
  have e2 : hI (atM H m (p + 1) f) 1324 m 0 - (1 : Int32) = Int32.ofNat p := by
    rw [hA.2.2.2.1]
    refine iN_inj (by omega) ?_
    have := iN_toInt (n := p + 1) (by omega)
    rw [i32_subx] <;> rw [this, i32_1] <;> omega
  refine ⟨m + 15, a1, a2, ?_, ?_⟩
  · rw [e2, a4]; exact vpi_of (by omega) (by decide)
  · rw [e2, a3, iN_cl (by omega), (hA.2.2.2.2.2.2 p hp).1]
    have := h1 (by omega) c2
    rwa [lk, if_pos hp] at this
