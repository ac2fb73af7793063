
/-! ===== the reference: products and sums judged ===== -/
abbrev Mg0 (m : Nat) : Nat → Nat → Prop := fun g a => (g = 4944 ∧ a = m + 20) ∨ ((g = 1321 ∨ g = 1319 ∨ g = 1320) ∧ a = m)
abbrev MjS (m : Nat) : Nat → Nat → Prop := fun g a => Mg0 m g a ∨ StS m g a ∨ (g = 1342 ∧ a = m)
theorem fr_MJR {S : Nat → Nat → Prop} {H H' : HP} {m i k : Nat} {v : JV} (h : Fr S H H') (h1 : ¬ S 4960 (m + 21)) (h2 : ¬ S 4976 (m + 22)) (h3 : ¬ S 4995 (m + 23)) (h4 : ¬ S 5011 (m + 24)) (s : MJR H m i k v) : MJR H' m i k v := by
  obtain ⟨s1, s2, s3, s4⟩ := s
  have hi := h.2.2.2.2.1
  have hl := h.2.2.2.2.2.1
  refine ⟨by rw [hi _ _ h1]; exact s1, fun j hj => by rw [hi _ _ h2]; exact s2 j hj, by rw [hl _ _ h3]; exact s3, by rw [hl _ _ h4]; exact s4⟩
theorem fr_MJR0 {H H' : HP} {m i k : Nat} {v : JV} (h : Fr (Mg0 m) H H') (s : MJR H m i k v) : MJR H' m i k v := fr_MJR h (fun k => by omega) (fun k => by omega) (fun k => by omega) (fun k => by omega) s
/-- what a judging has come to -/
def MJO (H : HP) (m n k : Nat) (res : JR) (H' : HP) (r : Int32) : Prop := Fr (MjS m) H H' ∧ (∀ i, i < n → ∀ k v, MJR H m i k v → MJR H' m i k v) ∧ ((∃ v, res = .inr v ∧ r = Int32.ofNat n ∧ hI H' 1341 m 0 = Int32.ofNat (n + 1) ∧ hI H' 1342 m 0 = hI H 1342 m 0 ∧ MJR H' m n k v) ∨ ∃ w, res = .inl w ∧ r = -1 ∧ hI H' 1341 m 0 = Int32.ofNat n ∧ hI H' 1342 m 0 = w)
theorem fin_step {d : Nat} {q : HP → Int32 → Prop} {H0 H : HP} {m n k : Nat} {P : Nat → Int32} {f : FR} {res : JR} (sm : shM H0 m) (hF : Fr (Mg0 m) H0 H) (hn : n < 64) (hs : hI H0 1341 m 0 = Int32.ofNat n) (hP : MS H m P) (hf : getM H m = f) (hres : orR P (some f) = res) (hq : ∀ H' r, MJO H0 m n k res H' r → q H' r) : CI (d + 1) 0 0 mX12_stepComes [rv (some m), .int (Int32.ofNat k)] H (fun H2 r3 => q H2 r3) := by
  refine K_stepComes (fr_shM hF sm) hn hP hf (by rw [hF.2.2.2.2.1 _ _ (fun k => by omega)]; exact hs) fun H' F' h1 hk hr => hq _ _ ⟨(hF.mono fun g x k => Or.inl k).tr (F'.mono fun g x k => Or.inr (Or.inl k)), fun i hi k' v hv => hk i hi k' v (fr_MJR0 hF hv), Or.inl ⟨(P, f), hres.symm, rfl, h1, ?_, hr⟩⟩
  rw [F'.2.2.2.2.1 _ _ (fun k => by omega), hF.2.2.2.2.1 _ _ (fun k => by omega)]
theorem fin_ends {d : Nat} {q : HP → Int32 → Prop} {H0 H : HP} {m n k : Nat} {w : Int32} {res : JR} (sm : shM H0 m) (hF : Fr (Mg0 m) H0 H) (hs : hI H0 1341 m 0 = Int32.ofNat n) (hres : res = .inl w) (hq : ∀ H' r, MJO H0 m n k res H' r → q H' r) : CI (d + 1) 0 0 mX12_ends [rv (some m), .int w] H (fun H2 r3 => q H2 r3) := by
  have F2 : Fr (fun g a => g = 1342 ∧ a = m) H (sI H 1342 m 0 w) := Fr_sI ⟨rfl, rfl⟩
  refine K_ends (by rw [fr_tg hF]; exact sm.1) (hq _ _ ⟨(hF.mono fun g x k => Or.inl k).tr (F2.mono fun g x k => Or.inr (Or.inr k)), fun i hi k' v hv => fr_MJR F2 (fun k => by omega) (fun k => by omega) (fun k => by omega) (fun k => by omega) (fr_MJR0 hF hv), Or.inr ⟨w, hres, rfl, ?_, ?_⟩⟩)
  · rw [F2.2.2.2.2.1 _ _ (fun k => by omega), hF.2.2.2.2.1 _ _ (fun k => by omega)]; exact hs
  · rw [hIs_i, if_pos rfl]
theorem okF_z {f : FR} (h : okF f) (hz : f.1.toInt = 0) : f.2.toInt = 1 := by
  obtain ⟨h1, h2, h3⟩ := h
  rw [hz, Int.gcd_zero_left] at h3
  omega
theorem likeSteps_loop {d : Nat} {q : HP → Bool → Prop} {H : HP} {m a b ka kb : Nat} {va vb : JV} (sm : shM H m) (ha : a < 64) (hb : b < 64) (ra : MJR H m a ka va) (rb : MJR H m b kb vb) (hq : q H (eq5 va.1 vb.1)) : ∀ (k i : Nat) (c : Bool), k + i = 5 → (c = true ↔ ∀ j, j < i → va.1 j = vb.1 j) → L_X12_areLikeSteps_5 d q m (Int32.ofNat a) (Int32.ofNat b) (bI c) (Int32.ofNat i) H := by
  have e5 : (5 : Int32) = Int32.ofNat 5 := rfl
  intro k
  induction k with
  | zero =>
    intro i c hi hc
    refine T_X12_areLikeSteps_5 ?_
    unfold wb_X12_areLikeSteps_5
    rw [e5, iN_le (by omega) (by omega)]
    refine ⟨fun _ => ⟨c, rfl, ?_⟩, fun h => by omega⟩
    have : c = eq5 va.1 vb.1 := by
      rw [Bool.eq_iff_iff, hc, eq5_iff]
      exact ⟨fun h j hj => h j (by omega), fun h j hj => h j (by omega)⟩
    rw [this]; exact hq
  | succ k ih =>
    intro i c hi hc
    obtain ⟨b1, b2, b3, b4⟩ := mA_dimension sm
    refine T_X12_areLikeSteps_5 ?_
    unfold wb_X12_areLikeSteps_5
    rw [ix5 (by omega), ix5 (by omega), e5, iN_le (by omega) (by omega), iN_cl (by omega), iN_cl (by omega), iN_inc (by omega)]
    refine ⟨fun h => by omega, fun _ => ⟨sm.1, m + 22, b1, b2, by rw [b4]; exact vpi_of (by omega) (by decide), by rw [b4]; exact vpi_of (by omega) (by decide), ?_⟩⟩
    rw [b3, ra.2.1 i (by omega), rb.2.1 i (by omega)]
    have e0 : bI c &&& (0 : Int32) = bI false := by cases c <;> decide
    have e1 : bI c &&& (1 : Int32) = bI c := by cases c <;> decide
    rw [e0, e1]
    refine ⟨fun h => ih (i + 1) false (by omega) ⟨fun k => (by cases k), fun k => absurd (k i (by omega)) h⟩, fun h => ih (i + 1) c (by omega) (hc.trans ⟨fun k j hj => ?_, fun k j hj => k j (by omega)⟩)⟩
    by_cases e : j = i
    · rw [e]; exact h
    · exact k j (by omega)
theorem K_areLikeSteps {d : Nat} {q : HP → Bool → Prop} {H : HP} {m a b ka kb : Nat} {va vb : JV} (sm : shM H m) (ha : a < 64) (hb : b < 64) (ra : MJR H m a ka va) (rb : MJR H m b kb vb) (hq : q H (eq5 va.1 vb.1)) : CZ (d + 1) 0 0 mX12_areLikeSteps [rv (some m), .int (Int32.ofNat a), .int (Int32.ofNat b)] H q := by
  refine C_X12_areLikeSteps ?_
  unfold wb_X12_areLikeSteps_0
  exact likeSteps_loop sm ha hb ra rb hq 5 0 true rfl ⟨fun _ j hj => by omega, fun _ => rfl⟩
theorem added_loop {d : Nat} {q : HP → Int32 → Prop} {H0 : HP} {m n a b ka kb k0 : Nat} {va vb : JV} {sg : Int32} {mn : Bool} {res : JR} (sm : shM H0 m) (hn : n < 64) (ha : a < n) (hb : b < n) (ra : MJR H0 m a ka va) (rb : MJR H0 m b kb vb) (oa : okV va) (ob : okV vb) (hsg : sg = if mn = true then -1 else 1) (hs : hI H0 1341 m 0 = Int32.ofNat n) (hres : orR va.1 (addF va.2.1 va.2.2 (if mn = true then -vb.2.1 else vb.2.1) vb.2.2) = res) (hq : ∀ H' r, MJO H0 m n k0 res H' r → q H' r) : ∀ (k i : Nat) (H : HP), k + i = 5 → Fr (Mg0 m) H0 H → hI H 1321 m 0 = 0 → (∀ j, j < i → hI H 4944 (m + 20) j = va.1 j) → L_X12_added_32 (d + 4) q m (Int32.ofNat a) (Int32.ofNat b) sg (Int32.ofNat k0) (Int32.ofNat i) H := by
  have e5 : (5 : Int32) = Int32.ofNat 5 := rfl
  intro k
  induction k with
  | zero =>
    intro i H hi hF hov hP
    have sm' := fr_shM hF sm
    obtain ⟨a1, a2, a3, a4⟩ := mA_valueUp sm'
    obtain ⟨b1, b2, b3, b4⟩ := mA_valueLow sm'
    obtain ⟨-, -, ra3, ra4⟩ := fr_MJR0 hF ra
    obtain ⟨-, -, rb3, rb4⟩ := fr_MJR0 hF rb
    have vpa : vp_in (Int32.ofNat a) 64 := vpi_of (by omega) (by decide)
    have vpb : vp_in (Int32.ofNat b) 64 := vpi_of (by omega) (by decide)
    refine T_X12_added_32 ?_
    unfold wb_X12_added_32
    rw [e5, iN_le (by omega) (by omega), iN_cl (by omega), iN_cl (by omega)]
    refine ⟨fun _ => ⟨sm'.1, m + 23, a1, a2, by rw [a4]; exact vpa, m + 24, b1, b2, by rw [b4]; exact vpa, by rw [a4]; exact vpb, by rw [b4]; exact vpb, ?_⟩, fun h => by omega⟩
    rw [a3, b3, ra3, ra4, rb3, rb4]
    have esg : (if sg = 1 then vb.2.1 else -vb.2.1) = (if mn = true then -vb.2.1 else vb.2.1) := by
      rw [hsg]
      cases mn with
      | true => rfl
      | false => rfl
    have hsg' : sg = 1 ∨ sg = -1 := by
      rw [hsg]
      cases mn with
      | true => exact Or.inr rfl
      | false => exact Or.inl rfl
    refine K_plus sm'.1 hov oa.2.1 ob.2.1 ob.2.2.1 hsg' (fun f e => ?_) (fun e => ?_)
    · rw [esg] at e
      rw [e] at hres
      have F2 : Fr (Mg0 m) H (setM H m f) := Fr_setM (Or.inr ⟨Or.inr (Or.inl rfl), rfl⟩) (Or.inr ⟨Or.inr (Or.inr rfl), rfl⟩)
      have ho : hI (setM H m f) 1321 m 0 = 0 := hov
      rw [ho]
      exact ⟨sm'.1, fun _ => fin_step sm (hF.tr F2) hn hs (fun j hj => hP j (by omega)) getM_setM hres hq, fun c => absurd rfl c⟩
    · rw [esg] at e
      rw [e] at hres
      have F2 : Fr (Mg0 m) H (sI H 1321 m 0 1) := Fr_sI (Or.inr ⟨Or.inl rfl, rfl⟩)
      have ho : hI (sI H 1321 m 0 (1 : Int32)) 1321 m 0 = 1 := by rw [hIs_i, if_pos rfl]
      rw [ho]
      exact ⟨sm'.1, fun c => absurd c (by decide), fun _ => fin_ends sm (hF.tr F2) hs hres.symm hq⟩
  | succ k ih =>
    intro i H hi hF hov hP
    have sm' := fr_shM hF sm
    obtain ⟨a1, a2, a3, a4⟩ := mA_sum sm'
    obtain ⟨b1, b2, b3, b4⟩ := mA_dimension sm'
    have ra2 := (fr_MJR0 hF ra).2.1
    refine T_X12_added_32 ?_
    unfold wb_X12_added_32
    rw [ix5 (by omega), e5, iN_le (by omega) (by omega), iN_cl (n := 5 * a + i) (by omega), iN_cl (n := i) (by omega), iN_inc (by omega)]
    refine ⟨fun h => by omega, fun _ => ⟨sm'.1, m + 22, b1, b2, by rw [b4]; exact vpi_of (by omega) (by decide), m + 20, a1, a2, by rw [a4]; exact vpi_of (by omega) (by decide), ?_⟩⟩
    rw [a3, b3, ra2 i (by omega)]
    refine ih (i + 1) _ (by omega) (hF.tr (Fr_sI (Or.inl ⟨rfl, rfl⟩))) ?_ fun j hj => ?_
    · rw [hIs_g _ _ _ _ _ _ (by decide)]; exact hov
    · rw [hIs_i]
      by_cases e : j = i
      · rw [if_pos e, e]
      · rw [if_neg e]; exact hP j (by omega)
theorem K_added {d : Nat} {q : HP → Int32 → Prop} {H : HP} {m n a b ka kb k0 : Nat} {va vb : JV} {sg w : Int32} {mn does : Bool} (sm : shM H m) (hd : hI H 1338 m 0 = bI does) (hw : hI H 1342 m 0 = w) (h0 : (does && decide (w = 0)) = false → q H (-1)) (h1 : (does && decide (w = 0)) = true → n < 64 ∧ a < n ∧ b < n ∧ MJR H m a ka va ∧ MJR H m b kb vb ∧ okV va ∧ okV vb ∧ hI H 1341 m 0 = Int32.ofNat n ∧ (sg = if mn = true then -1 else 1) ∧ ∀ H' r, MJO H m n k0 (jSum mn va vb) H' r → q H' r) (xa xb : Int32) (hxa : (does && decide (w = 0)) = true → xa = Int32.ofNat a) (hxb : (does && decide (w = 0)) = true → xb = Int32.ofNat b) : CI (d + 5) 0 0 mX12_added [rv (some m), .int xa, .int xb, .int sg, .int (Int32.ofNat k0)] H q := by
  refine C_X12_added ?_
  unfold wb_X12_added_0
  refine ⟨sm.1, K_goesOn sm.1 hd hw ⟨fun c => ?_, fun c => h0 c⟩⟩
  obtain ⟨hn, ha, hb, ra, rb, oa, ob, hs, hsg, hq⟩ := h1 c
  rw [hxa c, hxb c]
  refine ⟨sm.1, K_areLikeSteps sm (by omega) (by omega) ra rb ⟨fun c2 => ⟨sm.1, K_clears sm fun H' F' ms ov => ?_⟩, fun c2 => ⟨sm.1, fin_ends sm Fr.rf hs (by unfold jSum; rw [if_neg (by rw [c2]; decide)]) hq⟩⟩⟩
  have e0 : (0 : Int32) = Int32.ofNat 0 := rfl
  rw [e0]
  refine added_loop sm hn ha hb ra rb oa ob hsg hs ?_ hq 5 0 H' rfl (F'.mono fun g x k => ?_) ov (fun j hj => by omega)
  · unfold jSum; rw [if_pos c2]
  · rcases k with k | k
    · exact Or.inl k
    · exact Or.inr ⟨Or.inl k.1, k.2⟩
theorem neg1_mul {x : Int32} (h : -18 ≤ x.toInt ∧ x.toInt ≤ 18) : (-1 : Int32) * x = -x := by
  have e : (-1 : Int32).toInt = -1 := rfl
  refine i32_ext ?_
  rw [i32_neg x (by omega), i32_mulx] <;> rw [e] <;> omega
theorem one_mul' {x : Int32} (h : -18 ≤ x.toInt ∧ x.toInt ≤ 18) : (1 : Int32) * x = x := by
  refine i32_ext ?_
  rw [i32_mulx] <;> rw [i32_1] <;> omega
theorem product_loop {d : Nat} {q : HP → Int32 → Prop} {H0 : HP} {m n a b ka kb : Nat} {va vb : JV} {sg : Int32} {dv : Bool} {res : JR} (sm : shM H0 m) (hn : n < 64) (ha : a < n) (hb : b < n) (ra : MJR H0 m a ka va) (rb : MJR H0 m b kb vb) (oa : okV va) (ob : okV vb) (hsg : sg = if dv = true then -1 else 1) (hz : ¬ (dv = true ∧ vb.2.1 = 0)) (hs : hI H0 1341 m 0 = Int32.ofNat n) (hres : (if wide 5 (prdP dv va vb) 18 = true then .inl (-12) else orR (prdP dv va vb) (if dv = true then divF va.2.1 va.2.2 vb.2.1 vb.2.2 else mulF va.2.1 va.2.2 vb.2.1 vb.2.2)) = res) (hq : ∀ H' r, MJO H0 m n (if dv = true then 2 else 1) res H' r → q H' r) : ∀ (k i : Nat) (H : HP), k + i = 5 → Fr (Mg0 m) H0 H → hI H 1321 m 0 = 0 → (∀ j, j < i → hI H 4944 (m + 20) j = prdP dv va vb j) → L_X12_product__50 (d + 4) q m (Int32.ofNat a) (Int32.ofNat b) sg (Int32.ofNat i) H := by
  have e5 : (5 : Int32) = Int32.ofNat 5 := rfl
  have e18 : (18 : Int32) = Int32.ofNat 18 := rfl
  intro k
  induction k with
  | zero =>
    intro i H hi hF hov hP
    have sm' := fr_shM hF sm
    obtain ⟨a1, a2, a3, a4⟩ := mA_valueUp sm'
    obtain ⟨b1, b2, b3, b4⟩ := mA_valueLow sm'
    obtain ⟨-, -, ra3, ra4⟩ := fr_MJR0 hF ra
    obtain ⟨-, -, rb3, rb4⟩ := fr_MJR0 hF rb
    have vpa : vp_in (Int32.ofNat a) 64 := vpi_of (by omega) (by decide)
    have vpb : vp_in (Int32.ofNat b) 64 := vpi_of (by omega) (by decide)
    have hP5 : MS H m (prdP dv va vb) := fun j hj => hP j (by omega)
    refine T_X12_product__50 ?_
    unfold wb_X12_product__50
    rw [e5, iN_le (by omega) (by omega), iN_cl (n := a) (by omega), iN_cl (n := b) (by omega), e18]
    refine ⟨fun _ => ⟨sm'.1, K_isWide (d := d + 2) sm' hP5 (fun j hj => by have := prd_in (dv := dv) oa ob j hj; omega) (by decide) ⟨fun c => ?_, fun c => ⟨sm'.1, ?_⟩⟩⟩, fun h => by omega⟩
    · rw [if_neg (by rw [c]; decide)] at hres
      have fin : ∀ f, orR (prdP dv va vb) (some f) = res → Fr (Mg0 m) H (setM H m f) ∧ hI (setM H m f) 1321 m 0 = 0 := fun f _ => ⟨Fr_setM (Or.inr ⟨Or.inr (Or.inl rfl), rfl⟩) (Or.inr ⟨Or.inr (Or.inr rfl), rfl⟩), hov⟩
      have bad : ∀ f, Fr (Mg0 m) H (setM (sI H 1321 m 0 1) m f) ∧ hI (setM (sI H 1321 m 0 (1 : Int32)) m f) 1321 m 0 = 1 := fun f => by
        refine ⟨(Fr_sI (Or.inr ⟨Or.inl rfl, rfl⟩)).tr (Fr_setM (Or.inr ⟨Or.inr (Or.inl rfl), rfl⟩) (Or.inr ⟨Or.inr (Or.inr rfl), rfl⟩)), ?_⟩
        show hI (sI H 1321 m 0 (1 : Int32)) 1321 m 0 = 1
        rw [hIs_i, if_pos rfl]
      refine ⟨fun hs0 => ⟨sm'.1, m + 23, a1, a2, by rw [a4]; exact vpa, m + 24, b1, b2, by rw [b4]; exact vpa, by rw [a4]; exact vpb, by rw [b4]; exact vpb, ?_⟩, fun hs0 => ⟨sm'.1, m + 23, a1, a2, by rw [a4]; exact vpa, m + 24, b1, b2, by rw [b4]; exact vpa, by rw [a4]; exact vpb, by rw [b4]; exact vpb, ?_⟩⟩
      · have hd : dv = true := by
          cases dv with
          | true => rfl
          | false => rw [hsg] at hs0; exact absurd hs0 (by decide)
        subst hd
        rw [if_pos rfl] at hres hq
        rw [a3, b3, ra3, ra4, rb3, rb4]
        refine K_by sm'.1 (Or.inl hov) oa.2 ob.2.2.1 ob.2.1 (fun c0 => hz ⟨rfl, i64_zero.mpr c0⟩) (fun f e => ?_) (fun e f => ?_)
        · rw [e] at hres
          obtain ⟨F2, ho⟩ := fin f hres
          rw [ho]
          exact ⟨sm'.1, fun _ => ⟨fun _ => fin_step (k := 2) sm (hF.tr F2) hn hs hP5 getM_setM hres hq, fun h => absurd hs0 h⟩, fun h => absurd rfl h⟩
        · rw [e] at hres
          obtain ⟨F2, ho⟩ := bad f
          rw [ho]
          exact ⟨sm'.1, fun h => absurd h (by decide), fun _ => fin_ends sm (hF.tr F2) hs hres.symm hq⟩
      · have hd : dv = false := by
          cases dv with
          | true => rw [hsg] at hs0; exact absurd (by decide) hs0
          | false => rfl
        subst hd
        rw [if_neg (by decide)] at hres
        rw [if_neg (by decide)] at hq
        rw [a3, b3, ra3, ra4, rb3, rb4]
        refine K_times (d := d + 1) sm'.1 (Or.inl hov) oa.2 ob.2.2.1 ob.2.1 (fun c0 => okF_z ob.2 c0) (fun f e => ?_) (fun e f => ?_)
        · rw [e] at hres
          obtain ⟨F2, ho⟩ := fin f hres
          rw [ho]
          exact ⟨sm'.1, fun _ => ⟨fun h => absurd h hs0, fun _ => fin_step (k := 1) sm (hF.tr F2) hn hs hP5 getM_setM hres hq⟩, fun h => absurd rfl h⟩
        · rw [e] at hres
          obtain ⟨F2, ho⟩ := bad f
          rw [ho]
          exact ⟨sm'.1, fun h => absurd h (by decide), fun _ => fin_ends sm (hF.tr F2) hs hres.symm hq⟩
    · rw [if_pos c] at hres
      exact fin_ends sm hF hs hres.symm hq
  | succ k ih =>
    intro i H hi hF hov hP
    have sm' := fr_shM hF sm
    obtain ⟨a1, a2, a3, a4⟩ := mA_sum sm'
    obtain ⟨b1, b2, b3, b4⟩ := mA_dimension sm'
    have ra2 := (fr_MJR0 hF ra).2.1
    have rb2 := (fr_MJR0 hF rb).2.1
    refine T_X12_product__50 ?_
    unfold wb_X12_product__50
    rw [ix5 (by omega), ix5 (by omega), e5, iN_le (by omega) (by omega), iN_cl (n := 5 * a + i) (by omega), iN_cl (n := 5 * b + i) (by omega), iN_cl (n := i) (by omega), iN_inc (by omega)]
    refine ⟨fun h => by omega, fun _ => ⟨sm'.1, m + 22, b1, b2, by rw [b4]; exact vpi_of (by omega) (by decide), by rw [b4]; exact vpi_of (by omega) (by decide), m + 20, a1, a2, by rw [a4]; exact vpi_of (by omega) (by decide), fun H49 e49 => ?_⟩⟩
    have hval : va.1 i + sg * vb.1 i = prdP dv va vb i := by
      have := ob.1 i (by omega)
      unfold prdP
      rw [hsg]
      cases dv with
      | true => rw [if_pos rfl, if_pos rfl, neg1_mul this]
      | false => rw [if_neg (by decide), if_neg (by decide), one_mul' this]
    rw [a3, b3, ra2 i (by omega), rb2 i (by omega), hval] at e49
    rw [← e49]
    refine ih (i + 1) _ (by omega) (hF.tr (Fr_sI (Or.inl ⟨rfl, rfl⟩))) ?_ fun j hj => ?_
    · rw [hIs_g _ _ _ _ _ _ (by decide)]; exact hov
    · rw [hIs_i]
      by_cases e : j = i
      · rw [if_pos e, e]
      · rw [if_neg e]; exact hP j (by omega)
theorem K_mproduct {d : Nat} {q : HP → Int32 → Prop} {H : HP} {m n a b ka kb : Nat} {va vb : JV} {sg w x4 : Int32} {dv does bad : Bool} (sm : shM H m) (hd : hI H 1338 m 0 = bI does) (hw : hI H 1342 m 0 = w) (h0 : (does && decide (w = 0)) = false → q H (-1)) (h1 : (does && decide (w = 0)) = true → n < 64 ∧ a < n ∧ b < n ∧ MJR H m a ka va ∧ MJR H m b kb vb ∧ okV va ∧ okV vb ∧ hI H 1341 m 0 = Int32.ofNat n ∧ (sg = if dv = true then -1 else 1) ∧ x4 = bI bad ∧ ∀ H' r, MJO H m n (if dv = true then 2 else 1) (jProd bad dv va vb) H' r → q H' r) (xa xb : Int32) (hxa : (does && decide (w = 0)) = true → xa = Int32.ofNat a) (hxb : (does && decide (w = 0)) = true → xb = Int32.ofNat b) : CI (d + 5) 0 0 mX12_product_ [rv (some m), .int xa, .int xb, .int sg, .int x4] H q := by
  refine C_X12_product_ ?_
  unfold wb_X12_product__0
  refine ⟨sm.1, K_goesOn sm.1 hd hw ⟨fun c => ?_, fun c => h0 c⟩⟩
  obtain ⟨hn, ha, hb, ra, rb, oa, ob, hs, hsg, hx4, hq⟩ := h1 c
  rw [hxa c, hxb c, hx4]
  obtain ⟨a1, a2, a3, a4⟩ := mA_valueUp sm
  have e0 : (0 : Int32) = Int32.ofNat 0 := rfl
  have main : bad = false → ¬ (dv = true ∧ vb.2.1 = 0) → CV (d + 4) 0 0 mX12_clears [rv (some m)] H (fun H4 => L_X12_product__50 (d + 4) q m (Int32.ofNat a) (Int32.ofNat b) sg (0 : Int32) H4) := fun hb' hz => by
    refine K_clears (d := d + 3) sm fun H' F' ms ov => ?_
    rw [e0]
    refine product_loop sm hn ha hb ra rb oa ob hsg hz hs (jProd_eq hb' hz) hq 5 0 H' rfl (F'.mono fun g x k => ?_) ov (fun j hj => by omega)
    rcases k with k | k
    · exact Or.inl k
    · exact Or.inr ⟨Or.inl k.1, k.2⟩
  refine ⟨fun cb => ⟨fun c1 => ⟨sm.1, main ?_ ?_⟩, fun c1 => ⟨sm.1, m + 23, a1, a2, by rw [a4]; exact vpi_of (by omega) (by decide), fun c2 => main ?_ ?_, fun c2 => ?_⟩⟩, fun cb => ⟨sm.1, fin_ends sm Fr.rf hs ?_ hq⟩⟩
  · cases bad with
    | true => exact absurd cb (by decide)
    | false => rfl
  · intro k
    rw [hsg, if_pos k.1] at c1
    exact absurd c1 (by decide)
  · cases bad with
    | true => exact absurd cb (by decide)
    | false => rfl
  · intro k
    rw [a3, iN_cl (by omega), rb.2.2.1] at c2
    exact c2 k.2
  · rw [a3, iN_cl (by omega), rb.2.2.1] at c2
    have hb' : ¬ bad = true := by
      cases bad with
      | true => exact absurd cb (by decide)
      | false => decide
    have hd' : dv = true := by
      cases dv with
      | true => rfl
      | false => rw [hsg] at c1; exact absurd (by decide) c1
    exact fin_ends sm Fr.rf hs (by unfold jProd; rw [if_neg hb', if_pos ⟨hd', c2⟩]) hq
  · have hb' : bad = true := by
      cases bad with
      | true => rfl
      | false => exact absurd rfl cb
    unfold jProd; rw [if_pos hb']
