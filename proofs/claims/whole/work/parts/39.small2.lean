
theorem K_min {d : Nat} {q : HP → Int32 → Prop} {H : HP} {x y : Int32} (hq : q H (if y < x then y else x)) : CI (d + 1) 0 0 mJ9_min_7cf53 [.int x, .int y] H q := by
  refine C_J9_min_7cf53 ?_
  unfold wb_J9_min_7cf53_0
  refine ⟨fun h => ?_, fun h => ?_⟩
  · rwa [if_pos h] at hq
  · rwa [if_neg h] at hq
theorem K_latest {d : Nat} {q : HP → Int64 → Prop} {H : HP} {m : Nat} {x : Int32} (sm : shM H m) (h1 : hI H 1321 m 0 = 0 → q H (if x = 0 then hL H 1319 m 0 else hL H 1320 m 0)) (h0 : ¬ hI H 1321 m 0 = 0 → q H (-9223372036854775808)) : CJ (d + 2) 0 0 mX12_latest [rv (some m), .int x] H q := by
  refine C_X12_latest ?_
  unfold wb_X12_latest_0
  exact ⟨sm.1, fun h => K_partOf (h1 h), h0⟩
/-- a name taken from the tape's first bytes -/
theorem K_utakeName {d : Nat} {q : HP → Prop} {H : HP} {a t p n : Nat} {T : TP} (sa : shUnit H a) (h : CT H t T p) (h4 : n ≤ 4) (hT : n ≤ T.1) (hq : ∀ H', Fr (fun _ x => x = a ∨ x = a + 1) H H' → hI H' 1001 a 0 = Int32.ofNat n → (∀ j, j < n → hI H' 4193 (a + 1) j = T.2 j) → (∀ j, n ≤ j → hI H' 4193 (a + 1) j = hI H 4193 (a + 1) j) → q H') : CV (d + 2) 0 0 mX9_takeName [rv (some a), rv (some t), .int (Int32.ofNat n)] H q := by
  obtain ⟨a1, a2, a3, a4, a5, a6, a7, a8, a9⟩ := sa
  obtain ⟨⟨s1, s2, s3⟩, t2, t3, t4, t5, t6⟩ := h
  refine C_X9_takeName ?_
  unfold wb_X9_takeName_0
  have e4 : (4 : Int32) = Int32.ofNat 4 := rfl
  have em : (if (4 : Int32) < Int32.ofNat n then (4 : Int32) else Int32.ofNat n) = Int32.ofNat n := by
    rw [if_neg]
    rw [e4, iN_lt (by omega) (by omega)]; omega
  refine K_min ?_
  rw [em]
  refine ⟨a1, t, rfl, s1, t + 1, s2, isA_of (H := sI H 1001 a 0 (Int32.ofNat n)) s3 (by decide) (by decide), a + 1, a2, isA_of (H := sI H 1001 a 0 (Int32.ofNat n)) a3 (by decide) (by decide), ?_⟩
  have ev : hI (sI H 1001 a 0 (Int32.ofNat n)) 1001 a 0 = Int32.ofNat n := by rw [hI_sI, u3_same]
  rw [ev, iN_cl (by omega), cl0, i32_lt, iN_toInt (by omega), i32_0, ln_of (H := sI H 1001 a 0 (Int32.ofNat n)) s3, ln_of (H := sI H 1001 a 0 (Int32.ofNat n)) a3, tg_of (H := sI H 1001 a 0 (Int32.ofNat n)) s3, tg_of (H := sI H 1001 a 0 (Int32.ofNat n)) a3]
  have el : ∀ j, hI (sI H 1001 a 0 (Int32.ofNat n)) 4145 (t + 1) j = hI H 4145 (t + 1) j := fun j => by rw [hI_sI, u3_g _ _ _ _ _ _ (by decide)]
  have eu : ∀ j, hI (sI H 1001 a 0 (Int32.ofNat n)) 4193 (a + 1) j = hI H 4193 (a + 1) j := fun j => by rw [hI_sI, u3_g _ _ _ _ _ _ (by decide)]
  refine ⟨by omega, by omega, by omega, fun i hi => ?_, fun H14 e => ?_⟩
  · rw [Nat.zero_add, el, (t6 i (by omega)).1]
    exact byte_fit (by have := (t6 i (by omega)).2.1; omega) (t6 i (by omega)).2.2
  · rw [← e]
    refine hq _ ((Fr_sI (Or.inl rfl)).tr (Fr_fI (Or.inr rfl))) ?_ (fun j hj => ?_) (fun j hj => ?_)
    · rw [hI_fI, c3_g _ _ _ _ _ (by decide)]; exact ev
    · rw [hI_fI, c3_self, cpy0 hj, el]; exact (t6 j (by omega)).1
    · rw [hI_fI, c3_self]
      unfold va_cpy
      rw [if_neg (by omega)]; exact eu j
