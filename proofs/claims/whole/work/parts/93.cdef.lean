
/-! ===== the class reads a definition ===== -/
def shDef (H : HP) (b : Nat) : Prop := tg H b = 2 ∧ (hC H 200 b = some (b + 1) ∧ hT H (b + 1) = (4368, 2)) ∧ (hC H 201 b = some (b + 2) ∧ hT H (b + 2) = (4384, 2)) ∧ (hC H 206 b = some (b + 3) ∧ hT H (b + 3) = (4400, 30)) ∧ (hC H 207 b = some (b + 4) ∧ hT H (b + 4) = (4416, 30)) ∧ (hC H 208 b = some (b + 5) ∧ hT H (b + 5) = (4432, 30)) ∧ (hC H 209 b = some (b + 6) ∧ hT H (b + 6) = (4450, 30)) ∧ (hC H 210 b = some (b + 7) ∧ hT H (b + 7) = (4470, 30)) ∧ hC H 211 b = some (b + 8) ∧ shUnit H (b + 8)
theorem fr_shDef {S : Nat → Nat → Prop} {H H' : HP} {b : Nat} (h : Fr S H H') (s : shDef H b) : shDef H' b := by
  obtain ⟨s1, s2, s3, s4, s5, s6, s7, s8, s9, s10⟩ := s
  refine ⟨by rw [fr_tg h]; exact s1, ?_, ?_, ?_, ?_, ?_, ?_, ?_, by rw [h.2.1]; exact s9, fr_unit h s10⟩
  all_goals rw [h.1, h.2.1]; assumption
theorem dA_0 {H : HP} {b : Nat} (s : shDef H b) : hC H 200 b = some (b + 1) ∧ isA H (b + 1) 0 ∧ tg H (b + 1) = 4368 ∧ ln H (b + 1) = 2 := arr_of s.2.1 (by decide) (by decide)
theorem dA_1 {H : HP} {b : Nat} (s : shDef H b) : hC H 201 b = some (b + 2) ∧ isA H (b + 2) 0 ∧ tg H (b + 2) = 4384 ∧ ln H (b + 2) = 2 := arr_of s.2.2.1 (by decide) (by decide)
theorem dA_a {H : HP} {b : Nat} (s : shDef H b) : hC H 206 b = some (b + 3) ∧ isA H (b + 3) 0 ∧ tg H (b + 3) = 4400 ∧ ln H (b + 3) = 30 := arr_of s.2.2.2.1 (by decide) (by decide)
theorem dA_l {H : HP} {b : Nat} (s : shDef H b) : hC H 207 b = some (b + 4) ∧ isA H (b + 4) 0 ∧ tg H (b + 4) = 4416 ∧ ln H (b + 4) = 30 := arr_of s.2.2.2.2.1 (by decide) (by decide)
theorem dA_f {H : HP} {b : Nat} (s : shDef H b) : hC H 208 b = some (b + 5) ∧ isA H (b + 5) 0 ∧ tg H (b + 5) = 4432 ∧ ln H (b + 5) = 30 := arr_of s.2.2.2.2.2.1 (by decide) (by decide)
theorem dA_d {H : HP} {b : Nat} (s : shDef H b) : hC H 209 b = some (b + 6) ∧ isA H (b + 6) 2 ∧ tg H (b + 6) = 4450 ∧ ln H (b + 6) = 30 := arr_of s.2.2.2.2.2.2.1 (by decide) (by decide)
theorem dA_u {H : HP} {b : Nat} (s : shDef H b) : hC H 210 b = some (b + 7) ∧ isA H (b + 7) 6 ∧ tg H (b + 7) = 4470 ∧ ln H (b + 7) = 30 := arr_of s.2.2.2.2.2.2.2.1 (by decide) (by decide)
theorem K_readRatio {d t pa g p : Nat} {T : TP} {H : HP} {q : HP → Bool → Prop} (hg : g = 4368 ∨ g = 4384) (ha : hT H pa = (g, 2)) (hpt : t + 2 ≤ pa) (h : CT H t T p)
    (h1 : ∀ u l p1, dRat T p = .inr (u, l, p1) → ∀ H', Fr (fun a x => (a = 802 ∧ x = t) ∨ (a = g ∧ x = pa)) H H' → CT H' t T p1 → hI H' g pa 0 = Int32.ofNat u → hI H' g pa 1 = Int32.ofNat l → q H' true)
    (h0 : ∀ f, dRat T p = .inl f → ∀ H', Fr (fun a x => (a = 802 ∧ x = t) ∨ (a = g ∧ x = pa)) H H' → CT H' t T f → q H' false)
    (hs : ∀ f, dRat T p = .inl f → isFig (lk T f) = true → ∀ H', Fr (fun a x => (a = 802 ∧ x = t) ∨ (a = g ∧ x = pa)) H H' → CT H' t T f → q H' true) : CZ (d + 4) 0 0 mX1_readRatio [rv (some t), rv (some pa)] H q := by
  refine C_X1_readRatio ?_
  unfold wb_X1_readRatio_0
  have hpT : p ≤ T.1 := h.2.2.2.2.1
  have ez : (0 : Int32).toNatClampNeg = 0 := rfl
  have eo : (1 : Int32).toNatClampNeg = 1 := rfl
  have v0 : vp_in (0 : Int32) 2 := vpi_of (n := 0) (m := 2) (by decide) (by decide)
  have v1 : vp_in (1 : Int32) 2 := vpi_of (n := 1) (m := 2) (by decide) (by decide)
  have yA : isA H pa 0 := isA_of ha (by omega) (by omega)
  have yT : tg H pa = g := tg_of ha
  have yL : ln H pa = 2 := ln_of ha
  have n801 : ¬ (801 = 802 ∧ t = t) := fun k => by cases k.1
  refine ⟨t, rfl, h.1.1, K_takeNumber (d := d) h (fun hf => ⟨pa, rfl, ?_⟩) (fun hf => ⟨pa, rfl, yA, by rw [yL]; exact v0, ?_⟩)⟩
  · -- a number
    have r1 := run_in fig0 (T := T) 6 p hpT
    have n6 := numb6 (T := T) (p := p)
    have F1 : Fr (fun a x => (a = 802 ∧ x = t) ∨ (a = g ∧ x = pa)) H (atT H t (p + run isFig T 6 p)) := (Fr_at (H := H)).mono fun a x k => Or.inl k
    have t1 : CT (atT H t (p + run isFig T 6 p)) t T (p + run isFig T 6 p) := h.at r1
    have en : numb T 6 p 0 = Int32.ofNat (numb T 6 p 0).toInt.toNat := iN_inj (by omega) (by omega)
    have hrn : run isFig T 6 p ≠ 0 := fun k => by
      have := (run_zero (P := isFig) (T := T) (n := 6) (p := p) (by decide)).mp k
      rw [hf] at this; cases this
    generalize atT H t (p + run isFig T 6 p) = A at F1 t1 ⊢
    have zA : isA A pa 0 := by unfold isA at yA ⊢; rw [fr_tg F1]; exact yA
    have zT : tg A pa = g := by rw [fr_tg F1]; exact yT
    have zL : ln A pa = 2 := by
      have : hT A pa = (g, 2) := by rw [F1.1]; exact ha
      exact ln_of this
    have F2 : Fr (fun a x => (a = 802 ∧ x = t) ∨ (a = g ∧ x = pa)) A (sI (sI A g pa 0 (numb T 6 p 0)) g pa 1 1) := (Fr_sI (Or.inr ⟨rfl, rfl⟩)).tr (Fr_sI (Or.inr ⟨rfl, rfl⟩))
    have t2 : CT (sI (sI A g pa 0 (numb T 6 p 0)) g pa 1 1) t T (p + run isFig T 6 p) := by
      have FF : Fr (fun a x => a = g ∧ x = pa) A (sI (sI A g pa 0 (numb T 6 p 0)) g pa 1 1) := (Fr_sI ⟨rfl, rfl⟩).tr (Fr_sI ⟨rfl, rfl⟩)
      exact fr_CT FF (fun k => by omega) (fun k => by omega) (fun k => by omega) t1
    have va : hI (sI (sI A g pa 0 (numb T 6 p 0)) g pa 1 1) g pa 0 = numb T 6 p 0 := by rw [hIs_i, if_neg (by decide), hIs_i, if_pos rfl]
    have vb : hI (sI (sI A g pa 0 (numb T 6 p 0)) g pa 1 1) g pa 1 = 1 := by rw [hIs_i, if_pos rfl]
    simp only [tg_sI, ln_sI, zT, zL, ez, eo]
    generalize sI (sI A g pa 0 (numb T 6 p 0)) g pa 1 1 = B at F2 t2 va vb ⊢
    have FB := F1.tr F2
    have bT : tg B pa = g := by rw [fr_tg FB]; exact yT
    have bA : isA B pa 0 := by unfold isA at yA ⊢; rw [fr_tg FB]; exact yA
    have bL : ln B pa = 2 := by
      have : hT B pa = (g, 2) := by rw [FB.1]; exact ha
      exact ln_of this
    rw [va, vb, i32_lt, i32_0]
    refine ⟨zA, v0, v1, v0, fun k => by omega, fun _ => ⟨t1.1.1, K_takes (d := d + 1) t2 (fun h47 => ⟨fun k => (by cases k), fun _ => ?_⟩) (fun h47 => ⟨fun _ => ⟨bA, by rw [bL]; exact v0, ?_⟩, fun k => (by cases k)⟩)⟩⟩
    · -- a slash
      have hlt := lk_lt h47 (by decide)
      have hnf : ¬ isFig (lk T (p + run isFig T 6 p)) = true := by rw [h47]; decide
      have ed : dNum T p = .inr ((numb T 6 p 0).toInt.toNat, p + run isFig T 6 p) := by
        unfold dNum; rw [if_neg (fun k => k.elim hrn hnf)]
      have F3 : Fr (fun a x => (a = 802 ∧ x = t) ∨ (a = g ∧ x = pa)) B (atT B t (p + run isFig T 6 p + 1)) := (Fr_at (H := B)).mono fun a x k => Or.inl k
      have t3 : CT (atT B t (p + run isFig T 6 p + 1)) t T (p + run isFig T 6 p + 1) := t2.at hlt
      have va3 : hI (atT B t (p + run isFig T 6 p + 1)) g pa 0 = numb T 6 p 0 := by
        have FF : Fr (TaS t) B (atT B t (p + run isFig T 6 p + 1)) := Fr_at
        rw [FF.2.2.2.2.1 _ _ (fun k => by omega)]; exact va
      generalize atT B t (p + run isFig T 6 p + 1) = D at F3 t3 va3 ⊢
      have FD := FB.tr F3
      refine ⟨t3.1.1, K_takeNumber (d := d) t3 (fun hf2 => ?_) (fun hf2 => ?_)⟩
      · have r2 := run_in fig0 (T := T) 6 (p + run isFig T 6 p + 1) hlt
        have n62 := numb6 (T := T) (p := p + run isFig T 6 p + 1)
        have F4 : Fr (fun a x => (a = 802 ∧ x = t) ∨ (a = g ∧ x = pa)) D (atT D t (p + run isFig T 6 p + 1 + run isFig T 6 (p + run isFig T 6 p + 1))) := (Fr_at (H := D)).mono fun a x k => Or.inl k
        have t4 : CT (atT D t (p + run isFig T 6 p + 1 + run isFig T 6 (p + run isFig T 6 p + 1))) t T (p + run isFig T 6 p + 1 + run isFig T 6 (p + run isFig T 6 p + 1)) := t3.at r2
        have va4 : hI (atT D t (p + run isFig T 6 p + 1 + run isFig T 6 (p + run isFig T 6 p + 1))) g pa 0 = numb T 6 p 0 := by
          have FF : Fr (TaS t) D (atT D t (p + run isFig T 6 p + 1 + run isFig T 6 (p + run isFig T 6 p + 1))) := Fr_at
          rw [FF.2.2.2.2.1 _ _ (fun k => by omega)]; exact va3
        have en2 : numb T 6 (p + run isFig T 6 p + 1) 0 = Int32.ofNat (numb T 6 (p + run isFig T 6 p + 1) 0).toInt.toNat := iN_inj (by omega) (by omega)
        have hrn2 : run isFig T 6 (p + run isFig T 6 p + 1) ≠ 0 := fun k => by
          have := (run_zero (P := isFig) (T := T) (n := 6) (p := p + run isFig T 6 p + 1) (by decide)).mp k
          rw [hf2] at this; cases this
        have edR : dRat T p = (match dNum T (p + run isFig T 6 p + 1) with
          | .inl f => .inl f
          | .inr (l, p2) => .inr ((numb T 6 p 0).toInt.toNat, l, p2)) := by
          unfold dRat
          rw [ed]
          simp only
          rw [if_pos h47]
          rcases dNum T (p + run isFig T 6 p + 1) with f | ⟨l, p2⟩ <;> rfl
        generalize hq' : p + run isFig T 6 p + 1 + run isFig T 6 (p + run isFig T 6 p + 1) = p4 at F4 t4 va4 r2
        generalize atT D t p4 = E at F4 t4 va4 ⊢
        have FE := FD.tr F4
        have eT : tg E pa = g := by rw [fr_tg FE]; exact yT
        have eA : isA E pa 0 := by unfold isA at yA ⊢; rw [fr_tg FE]; exact yA
        have eL : ln E pa = 2 := by
          have : hT E pa = (g, 2) := by rw [FE.1]; exact ha
          exact ln_of this
        simp only [tg_sI, ln_sI, eT, eL, ez, eo]
        have F5 : Fr (fun a x => (a = 802 ∧ x = t) ∨ (a = g ∧ x = pa)) E (sI E g pa 1 (numb T 6 (p + run isFig T 6 p + 1) 0)) := Fr_sI (Or.inr ⟨rfl, rfl⟩)
        have t5 : CT (sI E g pa 1 (numb T 6 (p + run isFig T 6 p + 1) 0)) t T p4 := by
          have FF : Fr (fun a x => a = g ∧ x = pa) E (sI E g pa 1 (numb T 6 (p + run isFig T 6 p + 1) 0)) := Fr_sI ⟨rfl, rfl⟩
          exact fr_CT FF (fun k => by omega) (fun k => by omega) (fun k => by omega) t4
        have va5 : hI (sI E g pa 1 (numb T 6 (p + run isFig T 6 p + 1) 0)) g pa 0 = numb T 6 p 0 := by rw [hIs_i, if_neg (by decide)]; exact va4
        have vb5 : hI (sI E g pa 1 (numb T 6 (p + run isFig T 6 p + 1) 0)) g pa 1 = numb T 6 (p + run isFig T 6 p + 1) 0 := by rw [hIs_i, if_pos rfl]
        generalize sI E g pa 1 (numb T 6 (p + run isFig T 6 p + 1) 0) = G at F5 t5 va5 vb5 ⊢
        have FG := FE.tr F5
        rw [va5, vb5, i32_lt, i32_lt, i32_0]
        refine ⟨eA, v1, v0, fun k => by omega, fun _ => ⟨v1, fun k => by omega, fun _ => ?_⟩⟩
        by_cases hst : isFig (lk T p4) = true
        · have ed2 : dNum T (p + run isFig T 6 p + 1) = .inl p4 := by
            unfold dNum; rw [hq', if_pos (Or.inr hst)]
          rw [ed2] at edR
          exact hs p4 edR hst G FG t5
        · have ed2 : dNum T (p + run isFig T 6 p + 1) = .inr ((numb T 6 (p + run isFig T 6 p + 1) 0).toInt.toNat, p4) := by
            unfold dNum; rw [hq', if_neg (fun k => k.elim hrn2 hst)]
          rw [ed2] at edR
          exact h1 _ _ _ edR G FG t5 (va5.trans en) (vb5.trans en2)
      · have hr0 : run isFig T 6 (p + run isFig T 6 p + 1) = 0 := (run_zero (by decide)).mpr hf2
        have edR : dRat T p = .inl (p + run isFig T 6 p + 1) := by
          unfold dRat
          rw [ed]
          simp only
          rw [if_pos h47]
          unfold dNum
          rw [hr0, if_pos (Or.inl rfl)]
        have eT : tg D pa = g := by rw [fr_tg FD]; exact yT
        have eA : isA D pa 0 := by unfold isA at yA ⊢; rw [fr_tg FD]; exact yA
        have eL : ln D pa = 2 := by
          have : hT D pa = (g, 2) := by rw [FD.1]; exact ha
          exact ln_of this
        simp only [tg_sI, ln_sI, eT, eL, ez, eo]
        have F5 : Fr (fun a x => (a = 802 ∧ x = t) ∨ (a = g ∧ x = pa)) D (sI D g pa 1 (-1 : Int32)) := Fr_sI (Or.inr ⟨rfl, rfl⟩)
        have t5 : CT (sI D g pa 1 (-1 : Int32)) t T (p + run isFig T 6 p + 1) := by
          have FF : Fr (fun a x => a = g ∧ x = pa) D (sI D g pa 1 (-1 : Int32)) := Fr_sI ⟨rfl, rfl⟩
          exact fr_CT FF (fun k => by omega) (fun k => by omega) (fun k => by omega) t3
        have va5 : hI (sI D g pa 1 (-1 : Int32)) g pa 0 = numb T 6 p 0 := by rw [hIs_i, if_neg (by decide)]; exact va3
        have vb5 : hI (sI D g pa 1 (-1 : Int32)) g pa 1 = -1 := by rw [hIs_i, if_pos rfl]
        generalize sI D g pa 1 (-1 : Int32) = G at F5 t5 va5 vb5 ⊢
        rw [va5, vb5, i32_lt, i32_lt, i32_0, i32_m1]
        exact ⟨eA, v1, v0, fun k => by omega, fun _ => ⟨v1, fun _ => h0 _ edR G (FD.tr F5) t5, fun k => absurd (by decide) k⟩⟩
    · -- no slash
      rw [bT]
      rw [va, vb, i32_lt, i32_lt, i32_0, i32_1]
      refine ⟨fun k => by omega, fun _ => ⟨by rw [bL]; exact v1, fun k => absurd k (by decide), fun _ => ?_⟩⟩
      by_cases hst : isFig (lk T (p + run isFig T 6 p)) = true
      · have edR : dRat T p = .inl (p + run isFig T 6 p) := by
          unfold dRat dNum
          rw [if_pos (Or.inr hst)]
        exact hs _ edR hst B FB t2
      · have edR : dRat T p = .inr ((numb T 6 p 0).toInt.toNat, 1, p + run isFig T 6 p) := by
          unfold dRat dNum
          rw [if_neg (fun k => k.elim hrn hst)]
          simp only
          rw [if_neg h47]
        exact h1 _ _ _ edR B FB t2 (va.trans en) vb
  · -- no number
    have hr0 : run isFig T 6 p = 0 := (run_zero (by decide)).mpr hf
    have edR : dRat T p = .inl p := by
      unfold dRat dNum
      rw [hr0, if_pos (Or.inl rfl)]; rfl
    have F2 : Fr (fun a x => (a = 802 ∧ x = t) ∨ (a = g ∧ x = pa)) H (sI (sI H g pa 0 (-1 : Int32)) g pa 1 1) := (Fr_sI (Or.inr ⟨rfl, rfl⟩)).tr (Fr_sI (Or.inr ⟨rfl, rfl⟩))
    have t2 : CT (sI (sI H g pa 0 (-1 : Int32)) g pa 1 1) t T p := by
      have FF : Fr (fun a x => a = g ∧ x = pa) H (sI (sI H g pa 0 (-1 : Int32)) g pa 1 1) := (Fr_sI ⟨rfl, rfl⟩).tr (Fr_sI ⟨rfl, rfl⟩)
      exact fr_CT FF (fun k => by omega) (fun k => by omega) (fun k => by omega) h
    have va : hI (sI (sI H g pa 0 (-1 : Int32)) g pa 1 1) g pa 0 = -1 := by rw [hIs_i, if_neg (by decide), hIs_i, if_pos rfl]
    simp only [tg_sI, ln_sI, yT, yL, ez, eo]
    generalize sI (sI H g pa 0 (-1 : Int32)) g pa 1 1 = B at F2 t2 va ⊢
    rw [va, i32_lt, i32_0, i32_m1]
    exact ⟨v1, v0, fun _ => ⟨v0, fun _ => h0 _ edR B F2 t2, fun k => absurd (by decide) k⟩, fun k => absurd (by decide) k⟩
