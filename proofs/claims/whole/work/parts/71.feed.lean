
theorem byte_id {x : Int32} (h1 : -128 ≤ x.toInt) (h2 : x.toInt ≤ 127) : x.toInt8.toInt32 = x := by
  refine i32_ext ?_
  rw [Int8.toInt_toInt32, Int32.toInt_toInt8]
  rw [Int.bmod_def]
  have e : ((2 ^ 8 : Nat) : Int) = 256 := by decide
  rw [e]
  split <;> omega
/-- the tape with one byte more -/
def addT (T : TP) (x : Int32) : TP := (T.1 + 1, fun i => if i = T.1 then x else T.2 i)
theorem K_tappend {d : Nat} {q : HP → Bool → Prop} {H : HP} {a p : Nat} {T : TP} {x : Int32} (h : CT H a T p) (hx1 : 1 ≤ x.toInt) (hx2 : x.toInt ≤ 127) (h1 : T.1 < 60 → ∀ H', Fr (fun g y => (g = 801 ∧ y = a) ∨ (g = 4145 ∧ y = a + 1)) H H' → CT H' a (addT T x) p → q H' true) (h0 : T.1 = 60 → q H false) : CZ (d + 1) 0 0 mX7_append [rv (some a), .int x] H q := by
  have hc := h
  obtain ⟨⟨s1, s2, s3⟩, t2, t3, t4, t5, t6⟩ := hc
  have e60 : (60 : Int32) = Int32.ofNat 60 := rfl
  refine C_X7_append ?_
  unfold wb_X7_append_0
  rw [t2, e60, iN_lt (by omega) (by omega), byte_id (x := x) (by omega) (by omega), byte_id (x := x) (by omega) (by omega), iN_cl (by omega)]
  refine ⟨s1, fun hl => ⟨a + 1, s2, isA_of s3 (by decide) (by decide), ?_, fun H5 e => ?_⟩, fun hl => h0 (by omega)⟩
  · rw [ln_of s3]; exact vpi_of hl (by decide)
  · rw [tg_of s3] at e
    have ev : hI (sI H 4145 (a + 1) T.1 x) 801 a 0 = Int32.ofNat T.1 := by rw [hI_sI, u3_g _ _ _ _ _ _ (by decide)]; exact t2
    rw [ev, iN_inc (by omega)] at e
    rw [← e]
    refine h1 hl _ ((Fr_sI (Or.inr ⟨rfl, rfl⟩)).tr (Fr_sI (Or.inl ⟨rfl, rfl⟩))) ⟨⟨s1, s2, s3⟩, ?_, ?_, ?_, ?_, fun i hi => ?_⟩
    · rw [hI_sI, u3_same]; rfl
    · show T.1 + 1 ≤ 60; omega
    · rw [hI_sI, u3_g _ _ _ _ _ _ (by decide), hI_sI, u3_g _ _ _ _ _ _ (by decide)]; exact t4
    · show p ≤ T.1 + 1; omega
    · have hi : i < T.1 + 1 := hi
      show _ = (if i = T.1 then x else T.2 i) ∧ 1 ≤ (if i = T.1 then x else T.2 i).toInt ∧ (if i = T.1 then x else T.2 i).toInt ≤ 127
      rw [hI_sI, u3_g _ _ _ _ _ _ (by decide), hI_sI]
      by_cases e : i = T.1
      · rw [e, u3_same, if_pos rfl]; exact ⟨rfl, hx1, hx2⟩
      · rw [u3_i _ _ _ _ _ _ e, if_neg e]; exact t6 i (by omega)
