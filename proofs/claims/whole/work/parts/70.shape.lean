
/-! ===== the class's own object ===== -/
def shP (H : HP) : Prop := tg H 0 = 12 ∧ hC H 1200 0 = some 1 ∧ hC H 1201 0 = some 3 ∧ hC H 1202 0 = some 105 ∧ hC H 1203 0 = some 116 ∧ hC H 1204 0 = some 218 ∧ hC H 1206 0 = some 229 ∧ hC H 1210 0 = some 1090 ∧ hC H 1211 0 = some 1091 ∧ hC H 1212 0 = some 1092 ∧ hC H 1213 0 = some 1094 ∧ hC H 1214 0 = some 1095 ∧ hC H 1215 0 = some 1096 ∧ hT H 1090 = (4568, 4) ∧ hT H 1091 = (4585, 3) ∧ hT H 1096 = (4598, 3) ∧ tg H 1094 = 4 ∧ tg H 1095 = 4
def shTracks (H : HP) : Prop := ∀ i, i < 4 → hR H 4568 1090 i = some (1097 + 3 * i) ∧ shTrack H (1097 + 3 * i)
def shRacks (H : HP) : Prop := ∀ i, i < 3 → hR H 4585 1091 i = some (1109 + 3 * i) ∧ shRack H (1109 + 3 * i) ∧ hI H 600 (1109 + 3 * i) 0 = Int32.ofNat i
theorem K_isTold {d : Nat} {q : HP → Bool → Prop} {H : HP} {x : Int32} (h1 : 1 ≤ x.toInt ∧ x.toInt ≤ 999999 → q H true) (h0 : ¬ (1 ≤ x.toInt ∧ x.toInt ≤ 999999) → q H false) : CZ (d + 1) 0 0 mX11_isTold [.int x] H q := by
  have e : (999999 : Int32).toInt = 999999 := rfl
  refine C_X11_isTold ?_
  unfold wb_X11_isTold_0
  rw [i32_lt, i32_lt, i32_1, e]
  exact ⟨fun h => h0 (by omega), fun h => ⟨fun h2 => h0 (by omega), fun h2 => h1 (by omega)⟩⟩
theorem K_trackAt {d : Nat} {q : HP → Option Nat → Prop} {H : HP} {x : Int32} (s : shP H) (st : shTracks H) (h1 : ∀ i : Nat, i < 4 → x = Int32.ofNat i → q H (some (1097 + 3 * i))) (h0 : (x.toInt < 0 ∨ (4 : Int) ≤ x.toInt) → q H none) : CR (d + 1) 0 0 mX11_trackAt [rv (some 0), .int x] H q := by
  obtain ⟨s1, s2, s3, s4, s5, s6, s7, s8, s9, s10, s11, s12, s13, s14, s15, s16, s17, s18⟩ := s
  have e4 : (4 : Int32).toInt = 4 := rfl
  refine C_X11_trackAt ?_
  unfold wb_X11_trackAt_0
  rw [i32_lt, i32_lt, i32_0, e4]
  refine ⟨fun h => h0 (Or.inl h), fun h => ⟨fun h2 => ⟨s1, 1090, s8, isA_of s14 (by decide) (by decide), ?_, ?_⟩, fun h2 => h0 (by omega)⟩⟩
  · rw [ln_of s14]; exact vpi_i (by omega) (by omega)
  · have ec : x.toNatClampNeg = x.toInt.toNat := rfl
    rw [tg_of s14, ec, (st x.toInt.toNat (by omega)).1]
    exact h1 _ (by omega) (iN_inj (by omega) (by omega))
theorem K_rackAt {d : Nat} {q : HP → Option Nat → Prop} {H : HP} {x : Int32} (s : shP H) (st : shRacks H) (h1 : ∀ i : Nat, i < 3 → x = Int32.ofNat i → q H (some (1109 + 3 * i))) (h0 : (x.toInt < 0 ∨ (3 : Int) ≤ x.toInt) → q H none) : CR (d + 1) 0 0 mX11_rackAt [rv (some 0), .int x] H q := by
  obtain ⟨s1, s2, s3, s4, s5, s6, s7, s8, s9, s10, s11, s12, s13, s14, s15, s16, s17, s18⟩ := s
  have e3 : (3 : Int32).toInt = 3 := rfl
  refine C_X11_rackAt ?_
  unfold wb_X11_rackAt_0
  rw [i32_lt, i32_lt, i32_0, e3]
  refine ⟨fun h => h0 (Or.inl h), fun h => ⟨fun h2 => ⟨s1, 1091, s9, isA_of s15 (by decide) (by decide), ?_, ?_⟩, fun h2 => h0 (by omega)⟩⟩
  · rw [ln_of s15]; exact vpi_i (by omega) (by omega)
  · have ec : x.toNatClampNeg = x.toInt.toNat := rfl
    rw [tg_of s15, ec, (st x.toInt.toNat (by omega)).1]
    exact h1 _ (by omega) (iN_inj (by omega) (by omega))
