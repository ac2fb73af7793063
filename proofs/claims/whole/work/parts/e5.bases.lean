
/-! ===== building the class: its first units ===== -/
theorem K_charAt {d i : Nat} {q : HP → Int32 → Prop} {H : HP} (hi : i < 5) (hq : q H (lett i)) : CI (d + 4) 0 0 mJ0_charAt_5068e [rv (some strA), .int (Int32.ofNat i)] H q := by
  have v5 : vp_in (Int32.ofNat i) 5 := vpi_of hi (by decide)
  refine C_J0_charAt_5068e ?_
  unfold wb_J0_charAt_5068e_0
  refine C_J0_isLatin1_aae02 ?_
  unfold wb_J0_isLatin1_aae02_0
  refine ⟨fun k => absurd k (by decide), fun _ => ⟨fun k => absurd rfl k, fun _ => ⟨fun k => (by cases k), fun _ => ?_⟩⟩⟩
  refine C_J1_charAt_3b067 ?_
  unfold wb_J1_charAt_3b067_0
  refine C_J0_checkIndex_df160 ?_
  unfold wb_J0_checkIndex_df160_0
  have key : ∀ r : Int32, r = lett i → narrow .char (.int r) = .int r := fun r h => by
    subst h
    rcases (by omega : i = 0 ∨ i = 1 ∨ i = 2 ∨ i = 3 ∨ i = 4) with h | h | h | h | h <;> subst h <;> decide +kernel
  have ch : ((([(109 : Int32), 103, 115, 107, 97].getD (Int32.ofNat i).toNatClampNeg 0) &&& (255 : Int32)).toUInt32 % 65536).toInt32 = lett i := by
    rw [iN_cl (by omega)]
    rcases (by omega : i = 0 ∨ i = 1 ∨ i = 2 ∨ i = 3 ∨ i = 4) with h | h | h | h | h <;> subst h <;> decide +kernel
  rw [ch]
  intro o1
  refine C_J3_checkIndex_8e157 ?_
  unfold wb_J3_checkIndex_8e157_0
  refine ⟨fun k => absurd k (iN_neg (n := i) (by omega) rfl), fun _ => ⟨fun _ => ⟨v5, key _ rfl, key _ rfl, hq⟩, fun k => k ((show Int32.ofNat i < Int32.ofNat 5 from (iN_lt (by omega) (by omega)).mpr hi))⟩⟩
theorem fr_zUnit {S : Nat → Nat → Prop} {H H' : HP} {u : Nat} (h : Fr S H H') (h1 : ∀ g x, u ≤ x → x < u + 5 → ¬ S g x) (z : zUnit H u) : zUnit H' u := by
  obtain ⟨z1, z2, z3, z4, z5, z6⟩ := z
  have hi := h.2.2.2.2.1
  refine ⟨fr_unit h z1, by rw [hi _ _ (h1 _ _ (by omega) (by omega))]; exact z2, by rw [hi _ _ (h1 _ _ (by omega) (by omega))]; exact z3, by rw [hi _ _ (h1 _ _ (by omega) (by omega))]; exact z4, ?_, ?_⟩
  · rw [fr_getF h (h1 _ _ (by omega) (by omega)) (h1 _ _ (by omega) (by omega))]; exact z5
  · rw [fr_getF h (h1 _ _ (by omega) (by omega)) (h1 _ _ (by omega) (by omega))]; exact z6
def bsU (H : HP) (u i : Nat) : HP := setF (sI (sI (sI H 4193 (u + 1) 0 (lett i)) 1001 u 0 1) 4208 (u + 2) i 1) (u + 3) (1, 1)
theorem Fr_bsU {H : HP} {u i : Nat} : Fr (fun _ x => u ≤ x ∧ x < u + 5) H (bsU H u i) := (((Fr_sI ⟨by omega, by omega⟩).tr (Fr_sI ⟨by omega, by omega⟩)).tr (Fr_sI ⟨by omega, by omega⟩)).tr (Fr_setF ⟨by omega, by omega⟩ ⟨by omega, by omega⟩)
theorem bsU_ok {H : HP} {u i : Nat} (hi : i < 5) (z : zUnit H u) : CUn (bsU H u i) u (baseU i) := by
  obtain ⟨z1, z2, z3, z4, z5, z6⟩ := z
  have eI : hI (bsU H u i) = hI (sI (sI (sI H 4193 (u + 1) 0 (lett i)) 1001 u 0 1) 4208 (u + 2) i 1) := rfl
  have e1 : ∀ j, hI (bsU H u i) 4193 (u + 1) j = if j = 0 then lett i else 0 := fun j => by
    rw [eI, hIs_g _ _ _ _ _ _ (by decide), hIs_g _ _ _ _ _ _ (by decide), hIs_i, z3]
  refine ⟨?_, fun j hj => ?_, fun j hj => ?_, getF_setF, ?_, fun j hj => ?_⟩
  · rw [eI, hIs_g _ _ _ _ _ _ (by decide), hIs_i, if_pos rfl]; rfl
  · have hj : j < 1 := hj
    rw [e1, if_pos (by omega)]; rfl
  · rw [eI, hIs_i, hIs_g _ _ _ _ _ _ (by decide), hIs_g _ _ _ _ _ _ (by decide), z4]; rfl
  · have F : Fr (fun g x => ((g = 4193 ∨ g = 1001 ∨ g = 4208) ∨ x = u + 3)) H (bsU H u i) := (((Fr_sI (Or.inl (Or.inl rfl))).tr (Fr_sI (Or.inl (Or.inr (Or.inl rfl))))).tr (Fr_sI (Or.inl (Or.inr (Or.inr rfl))))).tr (Fr_setF (Or.inr rfl) (Or.inr rfl))
    rw [fr_getF F (fun k => by omega) (fun k => by omega)]; exact z6
  · rw [e1]
    have key : ∀ i, i < 5 → -128 ≤ (lett i).toInt ∧ (lett i).toInt ≤ 127 := by decide
    by_cases ej : j = 0
    · rw [if_pos ej]; exact key i hi
    · rw [if_neg ej]; decide
theorem lett_8 : ∀ i, i < 5 → ((lett i).toInt8.toInt32).toInt8.toInt32 = lett i := by decide
theorem bases_loop {d : Nat} {q : HP → Prop} {H0 : HP} {a : Nat} (hq : ∀ H', Fr (fun _ x => a ≤ x ∧ x < a + 102) H0 H' → CU H' a 5 baseU → q H') : ∀ (r i : Nat) (H : HP), r + i = 5 → shUnits H a → Fr (fun _ x => a ≤ x ∧ x < a + 102 ∧ x ≠ a + 1) H0 H → (∀ j, j < i → CUn H (a + 2 + 5 * j) (baseU j)) → (∀ j, i ≤ j → j < 20 → zUnit H (a + 2 + 5 * j)) → L_X10_addBases_2 (d + 4) q a (Int32.ofNat i) H := by
  have e5 : (5 : Int32) = Int32.ofNat 5 := rfl
  intro r
  induction r with
  | zero =>
    intro i H e sh F h1 h2
    refine T_X10_addBases_2 ?_
    unfold wb_X10_addBases_2
    rw [e5, iN_le (by omega) (by omega)]
    have F1 : Fr (fun g x => g = 1101 ∧ x = a) H (sI H 1101 a 0 (Int32.ofNat 5)) := Fr_sI ⟨rfl, rfl⟩
    refine ⟨fun _ => ⟨sh.1, hq _ ((F.mono (fun g x k => ⟨k.1, k.2.1⟩)).tr (F1.mono (fun g x k => ⟨by omega, by omega⟩))) ⟨fr_units F1 (fun k => by omega) sh, by rw [hIs_i, if_pos rfl], by omega, fun j hj => fr_CUn F1 (fun g b k1 k2 k3 => by omega) (h1 j (by omega))⟩⟩, fun k => by omega⟩
  | succ r ih =>
    intro i H e sh F h1 h2
    refine T_X10_addBases_2 ?_
    unfold wb_X10_addBases_2
    rw [e5, iN_le (by omega) (by omega)]
    obtain ⟨s1, s2, s3, s4⟩ := id sh
    obtain ⟨hr, su⟩ := s4 i (by omega)
    obtain ⟨y1, y2, y3, y4, y5, y6, y7, y8, y9⟩ := id su
    refine ⟨fun k => by omega, fun _ => ⟨s1, a + 1, s2, isA_of s3 (by decide) (by decide), by rw [ln_of s3]; exact vpi_of (by omega) (by decide), ?_⟩⟩
    rw [tg_of s3, iN_cl (by omega), iN_inc (by omega), hr]
    refine ⟨a + 2 + 5 * i, rfl, y1, K_charAt (d := d) (by omega) ⟨a + 2 + 5 * i + 1, y2, isA_of y3 (by decide) (by decide), by rw [ln_of y3]; exact (show vp_in (Int32.ofNat 0) 4 from vpi_of (by decide) (by decide)), ?_⟩⟩
    have cl0 : (0 : Int32).toNatClampNeg = 0 := rfl
    rw [tg_of y3, lett_8 i (by omega), cl0]
    refine ⟨y1, a + 2 + 5 * i + 2, y4, isA_of (H := sI (sI H 4193 (a + 2 + 5 * i + 1) 0 (lett i)) 1001 (a + 2 + 5 * i) 0 1) y5 (by decide) (by decide), by rw [ln_of (H := sI (sI H 4193 (a + 2 + 5 * i + 1) 0 (lett i)) 1001 (a + 2 + 5 * i) 0 1) y5]; exact vpi_of (by omega) (by decide), fun H17 e17 => ?_⟩
    rw [tg_of (H := sI (sI H 4193 (a + 2 + 5 * i + 1) 0 (lett i)) 1001 (a + 2 + 5 * i) 0 1) y5] at e17
    subst e17
    refine ⟨a + 2 + 5 * i + 3, y6, y7, ?_⟩
    have e6 : hC (sI (sI (sI H 4193 (a + 2 + 5 * i + 1) 0 (lett i)) 1001 (a + 2 + 5 * i) 0 1) 4208 (a + 2 + 5 * i + 2) i 1) 1003 (a + 2 + 5 * i) = some (a + 2 + 5 * i + 3) := y6
    rw [e6]
    refine K_set (d := d + 2) y7 (by decide) (by decide) ?_
    rw [ok11.2]
    have F1 := Fr_bsU (H := H) (u := a + 2 + 5 * i) (i := i)
    have sh' : shUnits (bsU H (a + 2 + 5 * i) i) a := fr_units F1 (fun k => by omega) sh
    exact ih (i + 1) (bsU H (a + 2 + 5 * i) i) (by omega) sh' (F.tr (F1.mono (fun g x k => ⟨by omega, by omega, by omega⟩))) (fun j hj => by
      by_cases ej : j = i
      · subst ej; exact bsU_ok (by omega) (h2 j (by omega) (by omega))
      · exact fr_CUn F1 (fun g b k1 k2 k3 => by omega) (h1 j (by omega))) (fun j hj1 hj2 => fr_zUnit F1 (fun g x k1 k2 k3 => by omega) (h2 j (by omega) hj2))
theorem K_addBases {d : Nat} {q : HP → Prop} {H : HP} {a : Nat} (z : zUnits H a) (hq : ∀ H', Fr (fun _ x => a ≤ x ∧ x < a + 102) H H' → CU H' a 5 baseU → q H') : CV (d + 5) 0 0 mX10_addBases [rv (some a)] H q := by
  refine C_X10_addBases ?_
  unfold wb_X10_addBases_0
  exact bases_loop (d := d) hq 5 0 H (by omega) z.1 Fr.rf (fun j hj => by omega) (fun j _ hj => z.2.2 j hj)
