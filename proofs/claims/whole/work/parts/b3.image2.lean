
/-! ===== image and undo: both sides ===== -/
theorem hT_of {H : HP} {a t n : Nat} (h1 : tg H a = t) (h2 : ln H a = n) : hT H a = (t, n) := by
  subst h1
  subst h2
  rfl
theorem one_I {t b g x : Nat} {H H' : HP} (F : Fr (OneS t b) H H') (h : g ≠ t) : hI H' g x = hI H g x := F.2.2.2.2.1 _ _ (fun k => h k.1)
theorem one_L {t b g x : Nat} {H H' : HP} (F : Fr (OneS t b) H H') (h : g ≠ t) : hL H' g x = hL H g x := F.2.2.2.2.2.1 _ _ (fun k => h k.1)
abbrev KpS (m : Nat) : Nat → Nat → Prop := fun g x => ((g = 1309 ∨ g = 1310 ∨ g = 1311) ∧ x = m) ∨ (m + 8 ≤ x ∧ x ≤ m + 14)
abbrev UnS (m : Nat) : Nat → Nat → Prop := fun g x => ((g = 1300 ∨ g = 1307) ∧ x = m) ∨ (m + 1 ≤ x ∧ x ≤ m + 7)
def MUk (H : HP) (m i : Nat) (u : UV) : Prop := (∀ j, j < u.1.1 → hI H 4752 (m + 8) (4 * i + j) = u.1.2 j) ∧ (∀ j, u.1.1 ≤ j → j < 4 → hI H 4752 (m + 8) (4 * i + j) = 0) ∧ (∀ j, j < 5 → hI H 4768 (m + 9) (5 * i + j) = u.2.1 j) ∧ hL H 4803 (m + 11) i = u.2.2.1.1 ∧ hL H 4819 (m + 12) i = u.2.2.1.2 ∧ hL H 4835 (m + 13) i = u.2.2.2.1 ∧ hL H 4851 (m + 14) i = u.2.2.2.2
def MCk (H : HP) (m : Nat) (C : CLM) : Prop := hI H 1311 m 0 = Int32.ofNat C.1 ∧ ∀ i, i < C.1 → hI H 4784 (m + 10) (4 * i) = Int32.ofNat (CX C i) ∧ hI H 4784 (m + 10) (4 * i + 1) = Int32.ofNat (CY C i) ∧ hI H 4784 (m + 10) (4 * i + 2) = CP C i ∧ hI H 4784 (m + 10) (4 * i + 3) = CQ C i
def MKp (H : HP) (m : Nat) (kp : Bool) (n : Nat) (U : Nat → UV) (C : CLM) : Prop := hI H 1309 m 0 = bI kp ∧ (kp = true → hI H 1310 m 0 = Int32.ofNat n ∧ n ≤ 20 ∧ (∀ i, i < n → MUk H m i (U i)) ∧ MCk H m C)
def okSt2 (n : Nat) (U : Nat → UV) (C : CLM) : Prop := 5 ≤ n ∧ n ≤ 20 ∧ (∀ i, i < n → okU (U i)) ∧ okCl n C
theorem fr_MKp {S : Nat → Nat → Prop} {H H' : HP} {m : Nat} {kp : Bool} {n : Nat} {U : Nat → UV} {C : CLM} (h : Fr S H H') (h0 : ∀ g, 1309 ≤ g → g ≤ 1311 → ¬ S g m) (h1 : ∀ g x, m + 8 ≤ x → x ≤ m + 14 → ¬ S g x) (s : MKp H m kp n U C) : MKp H' m kp n U C := by
  have hi := h.2.2.2.2.1
  have hl := h.2.2.2.2.2.1
  unfold MKp MUk MCk at s ⊢
  rw [hi _ _ (h0 1309 (by omega) (by omega)), hi _ _ (h0 1310 (by omega) (by omega)), hi _ _ (h0 1311 (by omega) (by omega)), hi _ _ (h1 _ _ (by omega) (by omega)), hi _ _ (h1 _ (m + 9) (by omega) (by omega)), hi _ _ (h1 _ (m + 10) (by omega) (by omega)), hl _ _ (h1 _ (m + 11) (by omega) (by omega)), hl _ _ (h1 _ (m + 12) (by omega) (by omega)), hl _ _ (h1 _ (m + 13) (by omega) (by omega)), hl _ _ (h1 _ (m + 14) (by omega) (by omega))]
  exact s
theorem K_mimage {d m n : Nat} {q : HP → Int32 → Prop} {H : HP} {U : Nat → UV} {C : CLM} (hu : MU H m n U) (hC16 : C.1 ≤ 16) (hc : MCl H m C) (hok : ∀ i, i < n → okU (U i)) (hq : ∀ H', Fr (KpS m) H H' → MKp H' m true n U C → q H' (Int32.ofNat n)) : CI (d + 2) 0 0 mX12_image [rv (some m)] H q := by
  obtain ⟨sm, u1, u2, u3⟩ := id hu
  refine C_X12_image ?_
  unfold wb_X12_image_0
  refine ⟨sm.1, fun H0 e => ?_⟩
  have F0 : Fr (fun g x => (g = 1309 ∨ g = 1310 ∨ g = 1311) ∧ x = m) H H0 := by
    rw [← e]
    exact ((Fr_sI ⟨Or.inl rfl, rfl⟩).tr (Fr_sI ⟨Or.inr (Or.inl rfl), rfl⟩)).tr (Fr_sI ⟨Or.inr (Or.inr rfl), rfl⟩)
  have k1 : hI H0 1309 m 0 = 1 := by
    rw [← e, hIs_g _ _ _ _ _ _ (by decide), hIs_g _ _ _ _ _ _ (by decide), hIs_i, if_pos rfl]
  have k2 : hI H0 1310 m 0 = Int32.ofNat n := by
    rw [← e, hIs_g _ _ _ _ _ _ (by decide), hIs_i, if_pos rfl, hIs_g _ _ _ _ _ _ (by decide)]; exact u1
  have k3 : hI H0 1311 m 0 = Int32.ofNat C.1 := by
    rw [← e, hIs_i, if_pos rfl, hIs_g _ _ _ _ _ _ (by decide), hIs_g _ _ _ _ _ _ (by decide)]; exact hc.1
  clear e
  have s0 : shM H0 m := fr_shM F0 sm
  obtain ⟨a0, -, a0t, a0l⟩ := mA_name s0
  obtain ⟨b0, -, b0t, b0l⟩ := mA_keptName s0
  rw [a0, b0]
  refine K_copies (d := d) (by decide) (hT_of a0t a0l) (hT_of b0t b0l) (by decide) (by decide) (by decide) (by decide) (by decide) fun H1 F1 c1 => ⟨(fr_shM F1 s0).1, ?_⟩
  have s1 := fr_shM F1 s0
  obtain ⟨a1, -, a1t, a1l⟩ := mA_power s1
  obtain ⟨b1, -, b1t, b1l⟩ := mA_keptPower s1
  rw [a1, b1]
  refine K_copies (d := d) (by decide) (hT_of a1t a1l) (hT_of b1t b1l) (by decide) (by decide) (by decide) (by decide) (by decide) fun H2 F2 c2 => ⟨(fr_shM F2 s1).1, ?_⟩
  have s2 := fr_shM F2 s1
  obtain ⟨a2, -, a2t, a2l⟩ := mA_claim s2
  obtain ⟨b2, -, b2t, b2l⟩ := mA_keptClaim s2
  rw [a2, b2]
  refine K_copies (d := d) (by decide) (hT_of a2t a2l) (hT_of b2t b2l) (by decide) (by decide) (by decide) (by decide) (by decide) fun H3 F3 c3 => ⟨(fr_shM F3 s2).1, ?_⟩
  have s3 := fr_shM F3 s2
  obtain ⟨a3, -, a3t, a3l⟩ := mA_factorUp s3
  obtain ⟨b3, -, b3t, b3l⟩ := mA_keptFactorUp s3
  rw [a3, b3]
  refine K_copiesLong (d := d) (by decide) (hT_of a3t a3l) (hT_of b3t b3l) (by decide) (by decide) (by decide) (by decide) (by decide) fun H4 F4 c4 => ⟨(fr_shM F4 s3).1, ?_⟩
  have s4 := fr_shM F4 s3
  obtain ⟨a4, -, a4t, a4l⟩ := mA_factorLow s4
  obtain ⟨b4, -, b4t, b4l⟩ := mA_keptFactorLow s4
  rw [a4, b4]
  refine K_copiesLong (d := d) (by decide) (hT_of a4t a4l) (hT_of b4t b4l) (by decide) (by decide) (by decide) (by decide) (by decide) fun H5 F5 c5 => ⟨(fr_shM F5 s4).1, ?_⟩
  have s5 := fr_shM F5 s4
  obtain ⟨a5, -, a5t, a5l⟩ := mA_offsetUp s5
  obtain ⟨b5, -, b5t, b5l⟩ := mA_keptOffsetUp s5
  rw [a5, b5]
  refine K_copiesLong (d := d) (by decide) (hT_of a5t a5l) (hT_of b5t b5l) (by decide) (by decide) (by decide) (by decide) (by decide) fun H6 F6 c6 => ⟨(fr_shM F6 s5).1, ?_⟩
  have s6 := fr_shM F6 s5
  obtain ⟨a6, -, a6t, a6l⟩ := mA_offsetLow s6
  obtain ⟨b6, -, b6t, b6l⟩ := mA_keptOffsetLow s6
  rw [a6, b6]
  refine K_copiesLong (d := d) (by decide) (hT_of a6t a6l) (hT_of b6t b6l) (by decide) (by decide) (by decide) (by decide) (by decide) fun H7 F7 c7 => ⟨(fr_shM F7 s6).1, ?_⟩
  have s7 := fr_shM F7 s6
  have e1 : ∀ j, j < 80 → hI H7 4752 (m + 8) j = hI H 4640 (m + 1) j := fun j hj => by
    rw [one_I F7 (by decide), one_I F6 (by decide), one_I F5 (by decide), one_I F4 (by decide), one_I F3 (by decide), one_I F2 (by decide), c1 j hj, F0.2.2.2.2.1 _ _ (fun k => by omega)]
  have e2 : ∀ j, j < 100 → hI H7 4768 (m + 9) j = hI H 4656 (m + 2) j := fun j hj => by
    rw [one_I F7 (by decide), one_I F6 (by decide), one_I F5 (by decide), one_I F4 (by decide), one_I F3 (by decide), c2 j hj, one_I F1 (by decide), F0.2.2.2.2.1 _ _ (fun k => by omega)]
  have e3 : ∀ j, j < 64 → hI H7 4784 (m + 10) j = hI H 4736 (m + 7) j := fun j hj => by
    rw [one_I F7 (by decide), one_I F6 (by decide), one_I F5 (by decide), one_I F4 (by decide), c3 j hj, one_I F2 (by decide), one_I F1 (by decide), F0.2.2.2.2.1 _ _ (fun k => by omega)]
  have e4 : ∀ j, j < 20 → hL H7 4803 (m + 11) j = hL H 4675 (m + 3) j := fun j hj => by
    rw [one_L F7 (by decide), one_L F6 (by decide), one_L F5 (by decide), c4 j hj, one_L F3 (by decide), one_L F2 (by decide), one_L F1 (by decide), F0.2.2.2.2.2.1 _ _ (fun k => by omega)]
  have e5 : ∀ j, j < 20 → hL H7 4819 (m + 12) j = hL H 4691 (m + 4) j := fun j hj => by
    rw [one_L F7 (by decide), one_L F6 (by decide), c5 j hj, one_L F4 (by decide), one_L F3 (by decide), one_L F2 (by decide), one_L F1 (by decide), F0.2.2.2.2.2.1 _ _ (fun k => by omega)]
  have e6 : ∀ j, j < 20 → hL H7 4835 (m + 13) j = hL H 4707 (m + 5) j := fun j hj => by
    rw [one_L F7 (by decide), c6 j hj, one_L F5 (by decide), one_L F4 (by decide), one_L F3 (by decide), one_L F2 (by decide), one_L F1 (by decide), F0.2.2.2.2.2.1 _ _ (fun k => by omega)]
  have e7 : ∀ j, j < 20 → hL H7 4851 (m + 14) j = hL H 4723 (m + 6) j := fun j hj => by
    rw [c7 j hj, one_L F6 (by decide), one_L F5 (by decide), one_L F4 (by decide), one_L F3 (by decide), one_L F2 (by decide), one_L F1 (by decide), F0.2.2.2.2.2.1 _ _ (fun k => by omega)]
  have z1309 : hI H7 1309 m 0 = hI H0 1309 m 0 := by
    rw [one_I F7 (by decide), one_I F6 (by decide), one_I F5 (by decide), one_I F4 (by decide), one_I F3 (by decide), one_I F2 (by decide), one_I F1 (by decide)]
  have z1310 : hI H7 1310 m 0 = hI H0 1310 m 0 := by
    rw [one_I F7 (by decide), one_I F6 (by decide), one_I F5 (by decide), one_I F4 (by decide), one_I F3 (by decide), one_I F2 (by decide), one_I F1 (by decide)]
  have z1311 : hI H7 1311 m 0 = hI H0 1311 m 0 := by
    rw [one_I F7 (by decide), one_I F6 (by decide), one_I F5 (by decide), one_I F4 (by decide), one_I F3 (by decide), one_I F2 (by decide), one_I F1 (by decide)]
  have G : Fr (KpS m) H H7 := (((((((F0.mono (S' := KpS m) (fun g x k => Or.inl k)).tr (F1.mono (S' := KpS m) (fun g x k => Or.inr ⟨by omega, by omega⟩))).tr (F2.mono (S' := KpS m) (fun g x k => Or.inr ⟨by omega, by omega⟩))).tr (F3.mono (S' := KpS m) (fun g x k => Or.inr ⟨by omega, by omega⟩))).tr (F4.mono (S' := KpS m) (fun g x k => Or.inr ⟨by omega, by omega⟩))).tr (F5.mono (S' := KpS m) (fun g x k => Or.inr ⟨by omega, by omega⟩))).tr (F6.mono (S' := KpS m) (fun g x k => Or.inr ⟨by omega, by omega⟩))).tr (F7.mono (S' := KpS m) (fun g x k => Or.inr ⟨by omega, by omega⟩))
  rw [G.2.2.2.2.1 1300 m (fun k => by omega), u1]
  refine hq H7 G ⟨by rw [z1309]; exact k1, fun _ => ⟨by rw [z1310]; exact k2, u2, fun i hi => ?_, by rw [z1311]; exact k3, fun i hi => ?_⟩⟩
  · obtain ⟨v1, v2, v3, v4, v5, v6, v7⟩ := u3 i hi
    have h4 := (hok i hi).2.1
    refine ⟨fun j hj => ?_, fun j j1 j2 => ?_, fun j hj => ?_, ?_, ?_, ?_, ?_⟩
    · rw [e1 _ (by omega)]; exact v1 j hj
    · rw [e1 _ (by omega)]; exact v2 j j1 j2
    · rw [e2 _ (by omega)]; exact v3 j hj
    · rw [e4 _ (by omega)]; exact v4
    · rw [e5 _ (by omega)]; exact v5
    · rw [e6 _ (by omega)]; exact v6
    · rw [e7 _ (by omega)]; exact v7
  · rw [e3 _ (by omega), e3 _ (by omega), e3 _ (by omega), e3 _ (by omega)]
    exact hc.2 i hi
theorem K_mundo {d m n nK : Nat} {q : HP → Int32 → Prop} {H : HP} {U UK : Nat → UV} {CK : CLM} {kp : Bool} (hu : MU H m n U) (hk : MKp H m kp nK UK CK) (hC16 : kp = true → CK.1 ≤ 16) (hok : kp = true → ∀ i, i < nK → okU (UK i)) (h1 : kp = true → ∀ H', Fr (UnS m) H H' → MU H' m nK UK → MCl H' m CK → q H' (Int32.ofNat nK)) (h0 : kp = false → q H (-3)) : CI (d + 2) 0 0 mX12_undo [rv (some m)] H q := by
  obtain ⟨sm, u1, u2, u3⟩ := id hu
  refine C_X12_undo ?_
  unfold wb_X12_undo_0
  refine ⟨sm.1, ?_⟩
  rw [hk.1, bI_nz, bI_z]
  refine ⟨fun hp => ?_, h0⟩
  obtain ⟨g1, g2, g3, g4⟩ := hk.2 hp
  have hC16 := hC16 hp
  have hok := hok hp
  have hq := h1 hp
  generalize e : sI (sI H 1300 m 0 (hI H 1310 m 0)) 1307 m 0 (hI (sI H 1300 m 0 (hI H 1310 m 0)) 1311 m 0) = H0
  have F0 : Fr (fun g x => (g = 1300 ∨ g = 1307) ∧ x = m) H H0 := by
    rw [← e]
    exact (Fr_sI ⟨Or.inl rfl, rfl⟩).tr (Fr_sI ⟨Or.inr rfl, rfl⟩)
  have k1 : hI H0 1300 m 0 = Int32.ofNat nK := by
    rw [← e, hIs_g _ _ _ _ _ _ (by decide), hIs_i, if_pos rfl]; exact g1
  have k2 : hI H0 1307 m 0 = Int32.ofNat CK.1 := by
    rw [← e, hIs_i, if_pos rfl, hIs_g _ _ _ _ _ _ (by decide)]; exact g4.1
  clear e
  have s0 : shM H0 m := fr_shM F0 sm
  obtain ⟨a0, -, a0t, a0l⟩ := mA_keptName s0
  obtain ⟨b0, -, b0t, b0l⟩ := mA_name s0
  rw [a0, b0]
  refine K_copies (d := d) (by decide) (hT_of a0t a0l) (hT_of b0t b0l) (by decide) (by decide) (by decide) (by decide) (by decide) fun H1 F1 c1 => ⟨(fr_shM F1 s0).1, ?_⟩
  have s1 := fr_shM F1 s0
  obtain ⟨a1, -, a1t, a1l⟩ := mA_keptPower s1
  obtain ⟨b1, -, b1t, b1l⟩ := mA_power s1
  rw [a1, b1]
  refine K_copies (d := d) (by decide) (hT_of a1t a1l) (hT_of b1t b1l) (by decide) (by decide) (by decide) (by decide) (by decide) fun H2 F2 c2 => ⟨(fr_shM F2 s1).1, ?_⟩
  have s2 := fr_shM F2 s1
  obtain ⟨a2, -, a2t, a2l⟩ := mA_keptClaim s2
  obtain ⟨b2, -, b2t, b2l⟩ := mA_claim s2
  rw [a2, b2]
  refine K_copies (d := d) (by decide) (hT_of a2t a2l) (hT_of b2t b2l) (by decide) (by decide) (by decide) (by decide) (by decide) fun H3 F3 c3 => ⟨(fr_shM F3 s2).1, ?_⟩
  have s3 := fr_shM F3 s2
  obtain ⟨a3, -, a3t, a3l⟩ := mA_keptFactorUp s3
  obtain ⟨b3, -, b3t, b3l⟩ := mA_factorUp s3
  rw [a3, b3]
  refine K_copiesLong (d := d) (by decide) (hT_of a3t a3l) (hT_of b3t b3l) (by decide) (by decide) (by decide) (by decide) (by decide) fun H4 F4 c4 => ⟨(fr_shM F4 s3).1, ?_⟩
  have s4 := fr_shM F4 s3
  obtain ⟨a4, -, a4t, a4l⟩ := mA_keptFactorLow s4
  obtain ⟨b4, -, b4t, b4l⟩ := mA_factorLow s4
  rw [a4, b4]
  refine K_copiesLong (d := d) (by decide) (hT_of a4t a4l) (hT_of b4t b4l) (by decide) (by decide) (by decide) (by decide) (by decide) fun H5 F5 c5 => ⟨(fr_shM F5 s4).1, ?_⟩
  have s5 := fr_shM F5 s4
  obtain ⟨a5, -, a5t, a5l⟩ := mA_keptOffsetUp s5
  obtain ⟨b5, -, b5t, b5l⟩ := mA_offsetUp s5
  rw [a5, b5]
  refine K_copiesLong (d := d) (by decide) (hT_of a5t a5l) (hT_of b5t b5l) (by decide) (by decide) (by decide) (by decide) (by decide) fun H6 F6 c6 => ⟨(fr_shM F6 s5).1, ?_⟩
  have s6 := fr_shM F6 s5
  obtain ⟨a6, -, a6t, a6l⟩ := mA_keptOffsetLow s6
  obtain ⟨b6, -, b6t, b6l⟩ := mA_offsetLow s6
  rw [a6, b6]
  refine K_copiesLong (d := d) (by decide) (hT_of a6t a6l) (hT_of b6t b6l) (by decide) (by decide) (by decide) (by decide) (by decide) fun H7 F7 c7 => ⟨(fr_shM F7 s6).1, ?_⟩
  have s7 := fr_shM F7 s6
  have e1 : ∀ j, j < 80 → hI H7 4640 (m + 1) j = hI H 4752 (m + 8) j := fun j hj => by
    rw [one_I F7 (by decide), one_I F6 (by decide), one_I F5 (by decide), one_I F4 (by decide), one_I F3 (by decide), one_I F2 (by decide), c1 j hj, F0.2.2.2.2.1 _ _ (fun k => by omega)]
  have e2 : ∀ j, j < 100 → hI H7 4656 (m + 2) j = hI H 4768 (m + 9) j := fun j hj => by
    rw [one_I F7 (by decide), one_I F6 (by decide), one_I F5 (by decide), one_I F4 (by decide), one_I F3 (by decide), c2 j hj, one_I F1 (by decide), F0.2.2.2.2.1 _ _ (fun k => by omega)]
  have e3 : ∀ j, j < 64 → hI H7 4736 (m + 7) j = hI H 4784 (m + 10) j := fun j hj => by
    rw [one_I F7 (by decide), one_I F6 (by decide), one_I F5 (by decide), one_I F4 (by decide), c3 j hj, one_I F2 (by decide), one_I F1 (by decide), F0.2.2.2.2.1 _ _ (fun k => by omega)]
  have e4 : ∀ j, j < 20 → hL H7 4675 (m + 3) j = hL H 4803 (m + 11) j := fun j hj => by
    rw [one_L F7 (by decide), one_L F6 (by decide), one_L F5 (by decide), c4 j hj, one_L F3 (by decide), one_L F2 (by decide), one_L F1 (by decide), F0.2.2.2.2.2.1 _ _ (fun k => by omega)]
  have e5 : ∀ j, j < 20 → hL H7 4691 (m + 4) j = hL H 4819 (m + 12) j := fun j hj => by
    rw [one_L F7 (by decide), one_L F6 (by decide), c5 j hj, one_L F4 (by decide), one_L F3 (by decide), one_L F2 (by decide), one_L F1 (by decide), F0.2.2.2.2.2.1 _ _ (fun k => by omega)]
  have e6 : ∀ j, j < 20 → hL H7 4707 (m + 5) j = hL H 4835 (m + 13) j := fun j hj => by
    rw [one_L F7 (by decide), c6 j hj, one_L F5 (by decide), one_L F4 (by decide), one_L F3 (by decide), one_L F2 (by decide), one_L F1 (by decide), F0.2.2.2.2.2.1 _ _ (fun k => by omega)]
  have e7 : ∀ j, j < 20 → hL H7 4723 (m + 6) j = hL H 4851 (m + 14) j := fun j hj => by
    rw [c7 j hj, one_L F6 (by decide), one_L F5 (by decide), one_L F4 (by decide), one_L F3 (by decide), one_L F2 (by decide), one_L F1 (by decide), F0.2.2.2.2.2.1 _ _ (fun k => by omega)]
  have z1300 : hI H7 1300 m 0 = hI H0 1300 m 0 := by
    rw [one_I F7 (by decide), one_I F6 (by decide), one_I F5 (by decide), one_I F4 (by decide), one_I F3 (by decide), one_I F2 (by decide), one_I F1 (by decide)]
  have z1307 : hI H7 1307 m 0 = hI H0 1307 m 0 := by
    rw [one_I F7 (by decide), one_I F6 (by decide), one_I F5 (by decide), one_I F4 (by decide), one_I F3 (by decide), one_I F2 (by decide), one_I F1 (by decide)]
  have G : Fr (UnS m) H H7 := (((((((F0.mono (S' := UnS m) (fun g x k => Or.inl k)).tr (F1.mono (S' := UnS m) (fun g x k => Or.inr ⟨by omega, by omega⟩))).tr (F2.mono (S' := UnS m) (fun g x k => Or.inr ⟨by omega, by omega⟩))).tr (F3.mono (S' := UnS m) (fun g x k => Or.inr ⟨by omega, by omega⟩))).tr (F4.mono (S' := UnS m) (fun g x k => Or.inr ⟨by omega, by omega⟩))).tr (F5.mono (S' := UnS m) (fun g x k => Or.inr ⟨by omega, by omega⟩))).tr (F6.mono (S' := UnS m) (fun g x k => Or.inr ⟨by omega, by omega⟩))).tr (F7.mono (S' := UnS m) (fun g x k => Or.inr ⟨by omega, by omega⟩))
  rw [z1300, k1]
  refine hq H7 G ⟨s7, by rw [z1300]; exact k1, g2, fun i hi => ?_⟩ ⟨by rw [z1307]; exact k2, fun i hi => ?_⟩
  · obtain ⟨v1, v2, v3, v4, v5, v6, v7⟩ := g3 i hi
    have h4 := (hok i hi).2.1
    refine ⟨fun j hj => ?_, fun j j1 j2 => ?_, fun j hj => ?_, ?_, ?_, ?_, ?_⟩
    · rw [e1 _ (by omega)]; exact v1 j hj
    · rw [e1 _ (by omega)]; exact v2 j j1 j2
    · rw [e2 _ (by omega)]; exact v3 j hj
    · rw [e4 _ (by omega)]; exact v4
    · rw [e5 _ (by omega)]; exact v5
    · rw [e6 _ (by omega)]; exact v6
    · rw [e7 _ (by omega)]; exact v7
  · rw [e3 _ (by omega), e3 _ (by omega), e3 _ (by omega), e3 _ (by omega)]
    exact g4.2 i hi
def CKp (H : HP) (kp : Bool) (n : Nat) (U : Nat → UV) (C : CLM) : Prop := hI H 1205 0 0 = bI kp ∧ shUnits H 116 ∧ shCl H 218 ∧ (kp = true → CU H 116 n U ∧ CRw H 218 C)
theorem fr_CKp {S : Nat → Nat → Prop} {H H' : HP} {kp : Bool} {n : Nat} {U : Nat → UV} {C : CLM} (h : Fr S H H') (h0 : ¬ S 1205 0) (h1 : ∀ g x, 116 ≤ x → x < 229 → ¬ S g x) (s : CKp H kp n U C) : CKp H' kp n U C := by
  refine ⟨by rw [h.2.2.2.2.1 _ _ h0]; exact s.1, fr_units h (h1 _ _ (by omega) (by omega)) s.2.1, fr_shCl h s.2.2.1, fun k => ?_⟩
  obtain ⟨k1, k2⟩ := s.2.2.2 k
  exact ⟨fr_CU h (fun g b x1 x2 => h1 g b (by omega) (by omega)) k1, fr_CRw h (h1 _ _ (by omega) (by omega)) (h1 _ _ (by omega) (by omega)) (h1 _ _ (by omega) (by omega)) (h1 _ _ (by omega) (by omega)) (h1 _ _ (by omega) (by omega)) k2⟩
theorem fr_shP {S : Nat → Nat → Prop} {H H' : HP} (h : Fr S H H') (s : shP H) : shP H' := by
  unfold shP at s ⊢
  rw [fr_tg h, fr_tg h, fr_tg h, h.1, h.2.1]
  exact s
abbrev KcS : Nat → Nat → Prop := fun g x => (116 ≤ x ∧ x < 229) ∨ (g = 1205 ∧ x = 0)
abbrev UcS : Nat → Nat → Prop := fun _ x => 3 ≤ x ∧ x < 116
theorem K_cimage {d n : Nat} {q : HP → Int32 → Prop} {H : HP} {U UK : Nat → UV} {C CK : CLM} {kp : Bool} {nK : Nat} (s : shP H) (hu : CU H 3 n U) (hc : CCl H 105 C) (k : CKp H kp nK UK CK) (ok : okSt2 n U C) (hq : ∀ H', Fr KcS H H' → CKp H' true n U C → q H' (Int32.ofNat n)) : CI (d + 8) 0 0 mX11_image [rv (some 0)] H q := by
  obtain ⟨s1, s2, s3, s4, s5, s6, -⟩ := id s
  obtain ⟨o1, o2, o3, o4⟩ := ok
  refine C_X11_image ?_
  unfold wb_X11_image_0
  refine ⟨s1, 116, s5, k.2.1.1, ?_⟩
  rw [s5, s3]
  refine K_uscopy (d := d + 4) k.2.1 hu o3 (by omega) fun H1 F1 c1 => ?_
  have p1 := fr_shP F1 s
  obtain ⟨t1, t2, t3, t4, t5, t6, -⟩ := id p1
  have l1 : CCl H1 105 C := fr_CCl F1 (fun g b x1 x2 x3 => by omega) hc
  refine ⟨t1, 218, t6, (fr_shCl F1 k.2.2.1).1, ?_⟩
  rw [t6, t4]
  refine K_clcopy (d := d) o2 o4 (by omega) (fr_shCl F1 k.2.2.1) l1.1 l1.2.1 fun H2 F2 c2 => ?_
  have p2 := fr_shP F2 p1
  have u2 : CU H2 3 n U := fr_CU F2 (fun g b x1 x2 x3 => by omega) (fr_CU F1 (fun g b x1 x2 x3 => by omega) hu)
  refine ⟨p2.1, 3, p2.2.2.1, u2.1.1, ?_⟩
  have F3 : Fr (fun g x => g = 1205 ∧ x = 0) H2 (sI H2 1205 0 0 1) := Fr_sI ⟨rfl, rfl⟩
  have G : Fr KcS H (sI H2 1205 0 0 1) := ((F1.mono (fun g x k => Or.inl ⟨by omega, by omega⟩)).tr (F2.mono (fun g x k => Or.inl ⟨by omega, by omega⟩))).tr (F3.mono (fun g x k => Or.inr k))
  rw [hIs_g _ _ _ _ _ _ (by decide), u2.2.1]
  have cu : CU H2 116 n U := fr_CU F2 (fun g b x1 x2 x3 => by omega) c1
  refine hq _ G ⟨by rw [hIs_i, if_pos rfl]; rfl, cu.1, c2.1, fun _ => ⟨fr_CU F3 (fun g b x1 x2 x3 => by omega) cu, fr_CRw F3 (by decide) (by decide) (by decide) (by decide) (by decide) c2.2.1⟩⟩
theorem K_cundo {d n : Nat} {q : HP → Int32 → Prop} {H : HP} {U UK : Nat → UV} {C CK : CLM} {kp : Bool} {nK : Nat} (s : shP H) (hu : CU H 3 n U) (hc : CCl H 105 C) (k : CKp H kp nK UK CK) (ok : kp = true → okSt2 nK UK CK) (h1 : kp = true → ∀ H', Fr UcS H H' → CU H' 3 nK UK → CCl H' 105 CK → q H' (Int32.ofNat nK)) (h0 : kp = false → q H (-3)) : CI (d + 8) 0 0 mX11_undo [rv (some 0)] H q := by
  obtain ⟨s1, s2, s3, s4, s5, s6, -⟩ := id s
  refine C_X11_undo ?_
  unfold wb_X11_undo_0
  refine ⟨s1, ?_⟩
  rw [k.1, bI_nz, bI_z]
  refine ⟨fun hp => ?_, h0⟩
  obtain ⟨o1, o2, o3, o4⟩ := ok hp
  obtain ⟨k1, k2⟩ := k.2.2.2 hp
  refine ⟨3, s3, hu.1.1, ?_⟩
  rw [s5, s3]
  refine K_uscopy (d := d + 4) hu.1 k1 o3 (by omega) fun H1 F1 c1 => ?_
  have p1 := fr_shP F1 s
  obtain ⟨t1, t2, t3, t4, t5, t6, -⟩ := id p1
  have l1 : CRw H1 218 CK := fr_CRw F1 (fun x => by omega) (fun x => by omega) (fun x => by omega) (fun x => by omega) (fun x => by omega) k2
  refine ⟨t1, 105, t4, (fr_shCl F1 hc.1).1, ?_⟩
  rw [t6, t4]
  refine K_clcopy (d := d) o2 o4 (by omega) (fr_shCl F1 hc.1) (fr_shCl F1 k.2.2.1) l1 fun H2 F2 c2 => ?_
  have p2 := fr_shP F2 p1
  have u2 : CU H2 3 nK UK := fr_CU F2 (fun g b x1 x2 x3 => by omega) c1
  refine ⟨p2.1, 3, p2.2.2.1, u2.1.1, ?_⟩
  rw [u2.2.1]
  exact h1 hp H2 ((F1.mono (fun g x k => ⟨by omega, by omega⟩)).tr (F2.mono (fun g x k => ⟨by omega, by omega⟩))) u2 c2
