
/-! ===== the reference: the end of a formula ===== -/
abbrev FmS (m : Nat) (does : Bool) : Nat → Nat → Prop := fun g a => RdJ m does g a ∨ (does = true ∧ (g = 1340 ∨ g = 1343 ∨ g = 1344) ∧ a = m)
/-- the end at a fault -/
theorem form_fault {d m ff : Nat} {q : HP → Prop} {H : HP} {T : TP} {does : Bool} {x1 x2 x3 : Int32} (hT : MT H m T ff (Int32.ofNat ff)) (hd : hI H 1338 m 0 = bI does) (hq : q H) : wb_X12_formula_63 (d + 1) q m x1 x2 x3 H := by
  have hp := hT.2.2.2.2.1
  have hT60 := hT.2.2.1
  have nn : ¬ Int32.ofNat ff < 0 := by rw [i32_lt, i32_0, iN_toInt (by omega)]; omega
  have eat : atM H m ff (flt (Int32.ofNat ff) ff) = H := by
    have : flt (Int32.ofNat ff) ff = Int32.ofNat ff := by
      unfold flt
      rw [if_neg (by rw [iN_toInt (by omega)]; omega)]
    rw [this]
    exact atM_same hT
  unfold wb_X12_formula_63
  refine ⟨hT.1.1, fun _ => ⟨fun _ => hq, fun _ => ⟨fun c => ?_, fun _ => hq⟩⟩, fun _ => K_fails (d := d) hT ?_⟩
  · rw [hT.2.2.2.2.2.1] at c; exact absurd c nn
  · rw [eat]
    refine ⟨hT.1.1, fun _ => hq, fun _ => ⟨fun c => ?_, fun _ => hq⟩⟩
    rw [hT.2.2.2.2.2.1] at c; exact absurd c nn
/-- the end without = -/
theorem form_end0 {d m p : Nat} {q : HP → Prop} {H : HP} {T : TP} {does : Bool} {x1 : Int32} (hT : MT H m T p (-1)) (hd : hI H 1338 m 0 = bI does) (h0 : p < T.1 → q (atM H m p (Int32.ofNat p))) (h1 : ¬ p < T.1 → does = false → q H) (h2 : ¬ p < T.1 → does = true → q (sI (sI (sI H 1340 m 0 (0 : Int32)) 1343 m 0 x1) 1344 m 0 (-1 : Int32))) : wb_X12_formula_63 (d + 1) q m x1 (0 : Int32) (-1 : Int32) H := by
  have hp := hT.2.2.2.2.1
  have hT60 := hT.2.2.1
  have ef : flt (-1) p = Int32.ofNat p := by unfold flt; rw [if_pos (by decide)]
  unfold wb_X12_formula_63
  rw [hT.2.1, hT.2.2.2.1, iN_le (by omega) (by omega), hT.2.2.2.2.2.1, hd]
  refine ⟨hT.1.1, fun c => ⟨fun c2 => h1 (by omega) ?_, fun c2 => ⟨fun _ => ⟨Or.inl rfl, fun _ => h2 (by omega) ?_, fun k => absurd rfl k⟩, fun k => absurd (show (-1 : Int32) < 0 by decide) k⟩⟩, fun c => K_fails (d := d) hT ?_⟩
  · cases does with
    | true => exact absurd c2 (by decide)
    | false => rfl
  · cases does with
    | true => rfl
    | false => exact absurd rfl c2
  · rw [ef]
    have q0 := h0 (by omega)
    refine ⟨hT.1.1, fun _ => q0, fun _ => ⟨fun c2 => ?_, fun _ => q0⟩⟩
    rw [(hT.at (p' := p) (f' := Int32.ofNat p) hp).2.2.2.2.2.1, i32_lt, i32_0, iN_toInt (by omega)] at c2
    omega
/-- the end with = -/
theorem form_end1 {d m p : Nat} {q : HP → Prop} {H : HP} {T : TP} {does : Bool} {x1 x3 : Int32} (hT : MT H m T p (-1)) (hd : hI H 1338 m 0 = bI does) (h0 : p < T.1 → q (atM H m p (Int32.ofNat p))) (h1 : ¬ p < T.1 → does = false → q H) (h2 : ¬ p < T.1 → does = true → CI (d + 1) 0 0 mX12_added [rv (some m), .int x1, .int x3, .int (-1 : Int32), .int (5 : Int32)] (sI (sI (sI H 1340 m 0 (1 : Int32)) 1343 m 0 x1) 1344 m 0 x3) (fun H3 _ => q H3)) : wb_X12_formula_63 (d + 1) q m x1 (1 : Int32) x3 H := by
  have hp := hT.2.2.2.2.1
  have hT60 := hT.2.2.1
  have ef : flt (-1) p = Int32.ofNat p := by unfold flt; rw [if_pos (by decide)]
  unfold wb_X12_formula_63
  rw [hT.2.1, hT.2.2.2.1, iN_le (by omega) (by omega), hT.2.2.2.2.2.1, hd]
  refine ⟨hT.1.1, fun c => ⟨fun c2 => h1 (by omega) ?_, fun c2 => ⟨fun _ => ⟨Or.inr rfl, fun k => absurd k (by decide), fun _ => h2 (by omega) ?_⟩, fun k => absurd (show (-1 : Int32) < 0 by decide) k⟩⟩, fun c => K_fails (d := d) hT ?_⟩
  · cases does with
    | true => exact absurd c2 (by decide)
    | false => rfl
  · cases does with
    | true => rfl
    | false => exact absurd rfl c2
  · rw [ef]
    have q0 := h0 (by omega)
    refine ⟨hT.1.1, fun _ => q0, fun _ => ⟨fun c2 => ?_, fun _ => q0⟩⟩
    rw [(hT.at (p' := p) (f' := Int32.ofNat p) hp).2.2.2.2.2.1, i32_lt, i32_0, iN_toInt (by omega)] at c2
    omega
