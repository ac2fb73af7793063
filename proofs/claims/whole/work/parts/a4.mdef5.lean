
/-! ===== the reference: comes, define ===== -/
theorem hLs (H : HP) (g a i : Nat) (v : Int64) (g' a' i' : Nat) : hL (sL H g a i v) g' a' i' = if g' = g ∧ a' = a ∧ i' = i then v else hL H g' a' i' := rfl
theorem sum_term (dv : Bool) (g p : Int32) : (sgB dv * g) * p = if dv = true then -(p * g) else p * g := by
  unfold sgB
  cases dv with
  | true =>
    rw [if_pos rfl, if_pos rfl]
    have e : (-1 : Int32) = -(1 : Int32) := by decide
    rw [e, Int32.neg_mul, Int32.one_mul, Int32.neg_mul, Int32.mul_comm]
  | false =>
    rw [if_neg (by decide), if_neg (by decide), Int32.one_mul, Int32.mul_comm]
theorem fr_MS {S : Nat → Nat → Prop} {H H' : HP} {m : Nat} {f : Nat → Int32} (h : Fr S H H') (h1 : ¬ S 4944 (m + 20)) (s : MS H m f) : MS H' m f := fun j hj => by
  rw [h.2.2.2.2.1 _ _ h1]; exact s j hj
abbrev CoS (m : Nat) : Nat → Nat → Prop := fun g x => (x = m ∧ (g = 1319 ∨ g = 1320 ∨ g = 1321 ∨ g = 1300)) ∨ (m + 1 ≤ x ∧ x ≤ m + 6) ∨ (g = 4944 ∧ x = m + 20)
/-- the offset put down, one unit more -/
theorem comes_end {d m n : Nat} {T : TP} {q : HP → Int32 → Prop} {H0 X : HP} {U : Nat → UV} {u : UV} (hokU : ∀ i, okU (U i)) (hn : n < 20) (hu : MU H0 m n U) (FX : Fr (fun g x => (x = m ∧ (g = 1319 ∨ g = 1320 ∨ g = 1321)) ∨ (m + 1 ≤ x ∧ x ≤ m + 4)) H0 X) (h4 : ∀ j, j < u.1.1 → u.1.2 j = T.2 j) (hk : u.1.1 ≤ 4)
    (w1 : ∀ x, x < 4 * n → hI X 4640 (m + 1) x = hI H0 4640 (m + 1) x) (w2 : ∀ x, x < 5 * n → hI X 4656 (m + 2) x = hI H0 4656 (m + 2) x) (w3 : ∀ x, x < n → hL X 4675 (m + 3) x = hL H0 4675 (m + 3) x) (w4 : ∀ x, x < n → hL X 4691 (m + 4) x = hL H0 4691 (m + 4) x)
    (v1 : ∀ j, j < 4 → hI X 4640 (m + 1) (4 * n + j) = if j < u.1.1 then T.2 j else 0) (v2 : ∀ j, j < 5 → hI X 4656 (m + 2) (5 * n + j) = u.2.1 j) (v3 : hL X 4675 (m + 3) n = u.2.2.1.1) (v4 : hL X 4691 (m + 4) n = u.2.2.1.2) (g0 : getM X m = u.2.2.2)
    (hq : ∀ H', Fr (CoS m) H0 H' → MU H' m (n + 1) (addU U n u) → q H' (Int32.ofNat n)) : tg X m = 13 ∧ (∃ a15, (hC X 1305 m) = some a15 ∧ (isA X a15 3 ∧ (vp_in (hI X 1300 m 0) (ln X a15) ∧ (∃ a18, (hC (sL X (tg X a15) a15 (hI X 1300 m 0).toNatClampNeg (hL X 1319 m 0)) 1306 m) = some a18 ∧ (isA (sL X (tg X a15) a15 (hI X 1300 m 0).toNatClampNeg (hL X 1319 m 0)) a18 3 ∧ (vp_in (hI (sL X (tg X a15) a15 (hI X 1300 m 0).toNatClampNeg (hL X 1319 m 0)) 1300 m 0) (ln (sL X (tg X a15) a15 (hI X 1300 m 0).toNatClampNeg (hL X 1319 m 0)) a18) ∧ (∀ H21, (sL (sL X (tg X a15) a15 (hI X 1300 m 0).toNatClampNeg (hL X 1319 m 0)) (tg (sL X (tg X a15) a15 (hI X 1300 m 0).toNatClampNeg (hL X 1319 m 0)) a18) a18 (hI (sL X (tg X a15) a15 (hI X 1300 m 0).toNatClampNeg (hL X 1319 m 0)) 1300 m 0).toNatClampNeg (hL (sL X (tg X a15) a15 (hI X 1300 m 0).toNatClampNeg (hL X 1319 m 0)) 1320 m 0)) = H21 → (q (sI H21 1300 m 0 ((hI H21 1300 m 0) + (1 : Int32))) ((hI (sI H21 1300 m 0 ((hI H21 1300 m 0) + (1 : Int32))) 1300 m 0) - (1 : Int32)))))))))) := by
  have sX := fr_shM FX hu.1
  have cX : hI X 1300 m 0 = Int32.ofNat n := by rw [FX.2.2.2.2.1 _ _ (fun k => by omega)]; exact hu.2.1
  obtain ⟨a1, a2, a3, a4⟩ := mA_offsetUp sX
  refine ⟨sX.1, m + 5, a1, a2, by rw [a4, cX]; exact vpi_of hn (by decide), ?_⟩
  rw [a3, cX, iN_cl (by omega), getM_1 g0]
  have FY : Fr (fun g x => g = 4707 ∧ x = m + 5) X (sL X 4707 (m + 5) n u.2.2.2.1) := Fr_sL ⟨rfl, rfl⟩
  have vY : ∀ x, hL (sL X 4707 (m + 5) n u.2.2.2.1) 4707 (m + 5) x = if x = n then u.2.2.2.1 else hL X 4707 (m + 5) x := fun x => by
    rw [hLs]
    by_cases e : x = n
    · rw [if_pos ⟨rfl, rfl, e⟩, if_pos e]
    · rw [if_neg (fun k => e k.2.2), if_neg e]
  have gY : hL (sL X 4707 (m + 5) n u.2.2.2.1) 1320 m 0 = u.2.2.2.2 := by rw [FY.2.2.2.2.2.1 _ _ (fun k => by omega)]; exact getM_2 g0
  generalize sL X 4707 (m + 5) n u.2.2.2.1 = Y at FY vY gY ⊢
  have sY := fr_shM FY sX
  have cY : hI Y 1300 m 0 = Int32.ofNat n := by rw [FY.2.2.2.2.1 _ _ (fun k => by omega)]; exact cX
  obtain ⟨b1, b2, b3, b4⟩ := mA_offsetLow sY
  refine ⟨m + 6, b1, b2, by rw [b4, cY]; exact vpi_of hn (by decide), fun Z hZ => ?_⟩
  rw [b3, cY, iN_cl (by omega), gY] at hZ
  have FZ : Fr (fun g x => g = 4723 ∧ x = m + 6) Y Z := hZ ▸ Fr_sL ⟨rfl, rfl⟩
  have vZ : ∀ x, hL Z 4723 (m + 6) x = if x = n then u.2.2.2.2 else hL Y 4723 (m + 6) x := fun x => by
    rw [← hZ, hLs]
    by_cases e : x = n
    · rw [if_pos ⟨rfl, rfl, e⟩, if_pos e]
    · rw [if_neg (fun k => e k.2.2), if_neg e]
  clear hZ
  have cZ : hI Z 1300 m 0 = Int32.ofNat n := by rw [FZ.2.2.2.2.1 _ _ (fun k => by omega)]; exact cY
  rw [cZ, iN_inc (by omega)]
  have FW : Fr (fun g x => g = 1300 ∧ x = m) Z (sI Z 1300 m 0 (Int32.ofNat (n + 1))) := Fr_sI ⟨rfl, rfl⟩
  have vW : hI (sI Z 1300 m 0 (Int32.ofNat (n + 1))) 1300 m 0 = Int32.ofNat (n + 1) := by rw [hIs_i, if_pos rfl]
  generalize sI Z 1300 m 0 (Int32.ofNat (n + 1)) = W at FW vW ⊢
  have FHW : Fr (CoS m) H0 W := (FX.mono fun g x k => by
    rcases k with k | k
    · exact Or.inl ⟨k.1, by omega⟩
    · exact Or.inr (Or.inl (by omega))).tr ((FY.mono fun g x k => Or.inr (Or.inl (by omega))).tr ((FZ.mono fun g x k => Or.inr (Or.inl (by omega))).tr (FW.mono fun g x k => Or.inl ⟨k.2, by omega⟩)))
  have FXW : Fr (fun g x => (g = 1300 ∧ x = m) ∨ (m + 5 ≤ x ∧ x ≤ m + 6)) X W := (FY.mono fun g x k => Or.inr (by omega)).tr ((FZ.mono fun g x k => Or.inr (by omega)).tr (FW.mono fun g x k => Or.inl k))
  have eW : Int32.ofNat (n + 1) - (1 : Int32) = Int32.ofNat n := iN_inj (by omega) (by rw [i32_subx] <;> rw [iN_toInt (by omega), i32_1] <;> omega)
  rw [vW, eW]
  have i1 : hI W 4640 (m + 1) = hI X 4640 (m + 1) := FXW.2.2.2.2.1 _ _ (fun k => by omega)
  have i2 : hI W 4656 (m + 2) = hI X 4656 (m + 2) := FXW.2.2.2.2.1 _ _ (fun k => by omega)
  have i3 : hL W 4675 (m + 3) = hL X 4675 (m + 3) := FXW.2.2.2.2.2.1 _ _ (fun k => by omega)
  have i4 : hL W 4691 (m + 4) = hL X 4691 (m + 4) := FXW.2.2.2.2.2.1 _ _ (fun k => by omega)
  have i5 : ∀ x, hL W 4707 (m + 5) x = if x = n then u.2.2.2.1 else hL H0 4707 (m + 5) x := fun x => by
    rw [FW.2.2.2.2.2.1 _ _ (fun k => by omega), FZ.2.2.2.2.2.1 _ _ (fun k => by omega), vY, FX.2.2.2.2.2.1 4707 (m + 5) (fun k => by omega)]
  have i6 : ∀ x, hL W 4723 (m + 6) x = if x = n then u.2.2.2.2 else hL H0 4723 (m + 6) x := fun x => by
    rw [FW.2.2.2.2.2.1 _ _ (fun k => by omega), vZ, FY.2.2.2.2.2.1 4723 (m + 6) (fun k => by omega), FX.2.2.2.2.2.1 4723 (m + 6) (fun k => by omega)]
  refine hq W FHW ⟨fr_shM FHW hu.1, vW, by omega, fun i hi => ?_⟩
  by_cases e : i = n
  · subst e
    have ea : addU U i u i = u := if_pos rfl
    rw [ea]
    refine ⟨fun j hj => ?_, fun j hj1 hj2 => ?_, fun j hj => ?_, ?_, ?_, ?_, ?_⟩
    · rw [i1, v1 j (by omega), if_pos hj]; exact (h4 j hj).symm
    · rw [i1, v1 j hj2, if_neg (by omega)]
    · rw [i2]; exact v2 j hj
    · rw [i3]; exact v3
    · rw [i4]; exact v4
    · rw [i5, if_pos rfl]
    · rw [i6, if_pos rfl]
  · have ea : addU U n u i = U i := if_neg e
    rw [ea]
    obtain ⟨u1, u2, u3, u4, u5, u6, u7⟩ := hu.2.2.2 i (by omega)
    refine ⟨fun j hj => ?_, fun j hj1 hj2 => ?_, fun j hj => ?_, ?_, ?_, ?_, ?_⟩
    · have := (hokU i).2.1
      rw [i1, w1 _ (by omega)]; exact u1 j hj
    · rw [i1, w1 _ (by omega)]; exact u2 j hj1 hj2
    · rw [i2, w2 _ (by omega)]; exact u3 j hj
    · rw [i3, w3 _ (by omega)]; exact u4
    · rw [i4, w4 _ (by omega)]; exact u5
    · rw [i5, if_neg e]; exact u6
    · rw [i6, if_neg e]; exact u7
