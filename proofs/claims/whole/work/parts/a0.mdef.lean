
/-! ===== the reference reads a product of a definition ===== -/
def sgB (dv : Bool) : Int32 := if dv = true then -1 else 1
def MRw (H : HP) (m j : Nat) (r : DRow) : Prop := hI H 4880 (m + 16) j = Int32.ofNat r.1 ∧ hI H 4896 (m + 17) j = Int32.ofNat r.2.1 ∧ hI H 4912 (m + 18) j = Int32.ofNat r.2.2.1 ∧ hI H 4928 (m + 19) j = sgB r.2.2.2
theorem fr_MRw {S : Nat → Nat → Prop} {H H' : HP} {m j : Nat} {r : DRow} (h : Fr S H H') (h1 : ∀ g x, m + 16 ≤ x → x ≤ m + 19 → ¬ S g x) (s : MRw H m j r) : MRw H' m j r := by
  have hi := h.2.2.2.2.1
  obtain ⟨s1, s2, s3, s4⟩ := s
  exact ⟨by rw [hi _ _ (h1 _ _ (by omega) (by omega))]; exact s1, by rw [hi _ _ (h1 _ _ (by omega) (by omega))]; exact s2, by rw [hi _ _ (h1 _ _ (by omega) (by omega))]; exact s3, by rw [hi _ _ (h1 _ _ (by omega) (by omega))]; exact s4⟩
abbrev PpS (m : Nat) : Nat → Nat → Prop := fun g x => ((g = 1324 ∨ g = 1325 ∨ g = 1332) ∧ x = m) ∨ (m + 16 ≤ x ∧ x ≤ m + 19)
theorem mproduct_loop {d m : Nat} {T : TP} {q : HP → Prop} {H0 : HP} {res : Nat ⊕ (Nat × Nat × (Nat → DRow))}
    (h1 : ∀ p1 c R1, res = .inr (p1, c, R1) → ∀ H', Fr (PpS m) H0 H' → MT H' m T p1 (-1) → hI H' 1332 m 0 = Int32.ofNat c → (∀ j, j < c → MRw H' m j (R1 j)) → q H')
    (h0 : ∀ f, res = .inl f → ∀ H' p1, Fr (PpS m) H0 H' → MT H' m T p1 (Int32.ofNat f) → q H') : ∀ (n i p : Nat) (dv : Bool) (R : Nat → DRow) (H : HP), n + i = 31 → 2 * i + 3 ≤ p → Fr (PpS m) H0 H → MT H m T p (-1) → hI H 1332 m 0 = Int32.ofNat i → (∀ j, j < i → MRw H m j (R j)) → res = dProd T n i p dv R → L_X12_product_7 (d + 3) q m (sgB dv) H := by
  have fault : ∀ (f p : Nat) (sg : Int32) (H : HP), res = .inl f → Fr (PpS m) H0 H → MT H m T p (Int32.ofNat f) → f ≤ 60 → L_X12_product_7 (d + 3) q m sg H := by
    intro f p sg H he F hm hf
    refine T_X12_product_7 ?_
    unfold wb_X12_product_7
    have hfi := iN_toInt (n := f) (by omega)
    rw [hm.2.2.2.2.2.1, i32_le, hfi, i32_0]
    exact ⟨hm.1.1, fun _ => h0 f he H p F hm, fun k => absurd (by omega) k⟩
  intro n
  induction n with
  | zero =>
    intro i p dv R H hi hp F hm
    have := hm.2.2.1
    have := hm.2.2.2.2.1
    omega
  | succ n ih =>
    intro i p dv R H hi hp F hm hc hR he
    have hT60 := hm.2.2.1
    have hpT := hm.2.2.2.2.1
    have in60 : vp_in (Int32.ofNat i) 60 := vpi_of (by omega) (by decide)
    have icl := iN_cl (n := i) (by omega)
    refine T_X12_product_7 ?_
    unfold wb_X12_product_7
    have sH := hm.1
    obtain ⟨a1, a2, a3, a4⟩ := mA_powerAt sH
    rw [hm.2.2.2.2.2.1, hc, hm.2.2.2.1]
    refine ⟨sH.1, fun k => absurd k (by decide), fun _ => ⟨m + 16, a1, a2, by rw [a4]; exact in60, ?_⟩⟩
    rw [a3, icl]
    have FA : Fr (fun g x => g = 4880 ∧ x = m + 16) H (sI H 4880 (m + 16) i (Int32.ofNat p)) := Fr_sI ⟨rfl, rfl⟩
    have vA : ∀ j, hI (sI H 4880 (m + 16) i (Int32.ofNat p)) 4880 (m + 16) j = if j = i then Int32.ofNat p else hI H 4880 (m + 16) j := fun j => hIs_i _ _ _ _ _ _
    generalize sI H 4880 (m + 16) i (Int32.ofNat p) = A at FA vA ⊢
    have mA : MT A m T p (-1) := fr_MT FA (fun k => by omega) (fun k => by omega) (fun k => by omega) (fun k => by omega) hm
    have cA : hI A 1332 m 0 = Int32.ofNat i := by rw [FA.2.2.2.2.1 _ _ (fun k => by omega)]; exact hc
    have r1 := run_in let0 (T := T) 4 p hpT
    have r4 := run_le (P := isLet) (T := T) 4 p
    refine K_letters (d := d) mA (fun k => absurd k (by decide)) (fun _ => ?_)
    generalize hl : run isLet T 4 p = l at r1 r4 ⊢
    -- the place and the fault behind the letters
    obtain ⟨f1, hf1⟩ : ∃ f1, f1 = (if l = 0 ∨ isLet (lk T (p + l)) = true then Int32.ofNat (p + l) else (-1 : Int32)) := ⟨_, rfl⟩
    rw [← hf1]
    have FB : Fr (AtS m) A (atM A m (p + l) f1) := Fr_atM
    have mB : MT (atM A m (p + l) f1) m T (p + l) f1 := mA.at r1
    generalize atM A m (p + l) f1 = B at FB mB ⊢
    obtain ⟨l1, -, -, -⟩ := mA_powerLong mA.1
    obtain ⟨-, l2, l3, l4⟩ := mA_powerLong mB.1
    refine ⟨m + 17, l1, l2, by rw [l4, cA]; exact in60, ?_⟩
    rw [l3, cA, icl]
    have FC : Fr (fun g x => g = 4896 ∧ x = m + 17) B (sI B 4896 (m + 17) i (Int32.ofNat l)) := Fr_sI ⟨rfl, rfl⟩
    have vC : ∀ j, hI (sI B 4896 (m + 17) i (Int32.ofNat l)) 4896 (m + 17) j = if j = i then Int32.ofNat l else hI B 4896 (m + 17) j := fun j => hIs_i _ _ _ _ _ _
    generalize sI B 4896 (m + 17) i (Int32.ofNat l) = C at FC vC ⊢
    have mC : MT C m T (p + l) f1 := fr_MT FC (fun k => by omega) (fun k => by omega) (fun k => by omega) (fun k => by omega) mB
    have cC : hI C 1332 m 0 = Int32.ofNat i := by rw [FC.2.2.2.2.1 _ _ (fun k => by omega), FB.2.2.2.2.1 _ _ (fun k => by omega)]; exact cA
    refine ⟨mC.1.1, ?_⟩
    -- from the figure on
    have key : ∀ (D : HP) (g p2 : Nat), Fr (AtS m) C D → MT D m T p2 f1 → g ≤ 4 → (0 ≤ f1.toInt → p2 = p + l) → (f1.toInt < 0 → g = dG T (p + l) ∧ p2 = dP T (p + l)) → ∃ a13, (hC C 1335 m) = some a13 ∧ (isA D a13 0 ∧ (vp_in (hI C 1332 m 0) (ln D a13) ∧ (∀ H16, (sI D (tg D a13) a13 (hI C 1332 m 0).toNatClampNeg (Int32.ofNat g)) = H16 → (tg H16 m = 13 ∧ (∃ a20, (hC H16 1336 m) = some a20 ∧ (isA H16 a20 0 ∧ (vp_in (hI H16 1332 m 0) (ln H16 a20) ∧ (CI (d + 3) 0 0 mX12_here [rv (some m)] (sI (sI H16 (tg H16 a20) a20 (hI H16 1332 m 0).toNatClampNeg (sgB dv)) 1332 m 0 ((hI (sI H16 (tg H16 a20) a20 (hI H16 1332 m 0).toNatClampNeg (sgB dv)) 1332 m 0) + (1 : Int32))) (fun H23 r24 => (r24 = (42 : Int32) → tg H23 m = 13 ∧ (CI (d + 3) 0 0 mX12_here [rv (some m)] H23 (fun H25 r27 => (¬ r27 = (42 : Int32) → tg H25 m = 13 ∧ (L_X12_product_7 (d + 3) q m (-1 : Int32) (sI H25 1324 m 0 ((hI H25 1324 m 0) + (1 : Int32))))) ∧ (r27 = (42 : Int32) → tg H25 m = 13 ∧ (L_X12_product_7 (d + 3) q m (1 : Int32) (sI H25 1324 m 0 ((hI H25 1324 m 0) + (1 : Int32)))))))) ∧ (¬ (r24 = (42 : Int32)) → tg H23 m = 13 ∧ (CI (d + 3) 0 0 mX12_here [rv (some m)] H23 (fun H30 r32 => (r32 = (47 : Int32) → tg H30 m = 13 ∧ (CI (d + 3) 0 0 mX12_here [rv (some m)] H30 (fun H33 r35 => (¬ r35 = (42 : Int32) → tg H33 m = 13 ∧ (L_X12_product_7 (d + 3) q m (-1 : Int32) (sI H33 1324 m 0 ((hI H33 1324 m 0) + (1 : Int32))))) ∧ (r35 = (42 : Int32) → tg H33 m = 13 ∧ (L_X12_product_7 (d + 3) q m (1 : Int32) (sI H33 1324 m 0 ((hI H33 1324 m 0) + (1 : Int32)))))))) ∧ (¬ (r32 = (47 : Int32)) → q H30))))))))))))) := by
      intro D g p2 FD mD hg4 hflt hgo
      obtain ⟨x1, -, -, -⟩ := mA_powerFigure mC.1
      obtain ⟨-, x2, x3, x4⟩ := mA_powerFigure mD.1
      refine ⟨m + 18, x1, x2, by rw [x4, cC]; exact in60, fun E hE => ?_⟩
      rw [x3, cC, icl] at hE
      have FE : Fr (fun g x => g = 4912 ∧ x = m + 18) D E := hE ▸ Fr_sI ⟨rfl, rfl⟩
      have vE : ∀ j, hI E 4912 (m + 18) j = if j = i then Int32.ofNat g else hI D 4912 (m + 18) j := fun j => by rw [← hE]; exact hIs_i _ _ _ _ _ _
      clear hE
      have mE : MT E m T p2 f1 := fr_MT FE (fun k => by omega) (fun k => by omega) (fun k => by omega) (fun k => by omega) mD
      have cE : hI E 1332 m 0 = Int32.ofNat i := by rw [FE.2.2.2.2.1 _ _ (fun k => by omega), FD.2.2.2.2.1 _ _ (fun k => by omega)]; exact cC
      obtain ⟨y1, y2, y3, y4⟩ := mA_powerSign mE.1
      refine ⟨mE.1.1, m + 19, y1, y2, by rw [y4, cE]; exact in60, ?_⟩
      rw [y3, cE, icl]
      have FX : Fr (fun g x => g = 4928 ∧ x = m + 19) E (sI E 4928 (m + 19) i (sgB dv)) := Fr_sI ⟨rfl, rfl⟩
      have vX : ∀ j, hI (sI E 4928 (m + 19) i (sgB dv)) 4928 (m + 19) j = if j = i then sgB dv else hI E 4928 (m + 19) j := fun j => hIs_i _ _ _ _ _ _
      generalize sI E 4928 (m + 19) i (sgB dv) = X at FX vX ⊢
      have mX : MT X m T p2 f1 := fr_MT FX (fun k => by omega) (fun k => by omega) (fun k => by omega) (fun k => by omega) mE
      have cX : hI X 1332 m 0 = Int32.ofNat i := by rw [FX.2.2.2.2.1 _ _ (fun k => by omega)]; exact cE
      rw [cX, iN_inc (by omega)]
      have FG : Fr (fun g x => g = 1332 ∧ x = m) X (sI X 1332 m 0 (Int32.ofNat (i + 1))) := Fr_sI ⟨rfl, rfl⟩
      have vG : hI (sI X 1332 m 0 (Int32.ofNat (i + 1))) 1332 m 0 = Int32.ofNat (i + 1) := by rw [hIs_i, if_pos rfl]
      generalize sI X 1332 m 0 (Int32.ofNat (i + 1)) = G at FG vG ⊢
      have mG : MT G m T p2 f1 := fr_MT FG (fun k => by omega) (fun k => by omega) (fun k => by omega) (fun k => by omega) mX
      have FHG : Fr (PpS m) H0 G := F.tr ((FA.mono fun g x k => Or.inr (by omega)).tr ((FB.mono fun g x k => Or.inl (by omega)).tr ((FC.mono fun g x k => Or.inr (by omega)).tr ((FD.mono fun g x k => Or.inl (by omega)).tr ((FE.mono fun g x k => Or.inr (by omega)).tr ((FX.mono fun g x k => Or.inr (by omega)).tr (FG.mono fun g x k => Or.inl (by omega))))))))
      have hp2 := mG.2.2.2.2.1
      have rows : ∀ j, j < i + 1 → MRw G m j (putC R i (p, l, g, dv) j) := fun j hj => by
        have kX : hI G 4928 (m + 19) = hI X 4928 (m + 19) := FG.2.2.2.2.1 _ _ (fun k => by omega)
        have kE : hI G 4912 (m + 18) = hI E 4912 (m + 18) := by rw [FG.2.2.2.2.1 _ _ (fun k => by omega), FX.2.2.2.2.1 _ _ (fun k => by omega)]
        have kC : hI G 4896 (m + 17) = hI C 4896 (m + 17) := by rw [FG.2.2.2.2.1 _ _ (fun k => by omega), FX.2.2.2.2.1 _ _ (fun k => by omega), FE.2.2.2.2.1 _ _ (fun k => by omega), FD.2.2.2.2.1 _ _ (fun k => by omega)]
        have kA : hI G 4880 (m + 16) = hI A 4880 (m + 16) := by rw [FG.2.2.2.2.1 _ _ (fun k => by omega), FX.2.2.2.2.1 _ _ (fun k => by omega), FE.2.2.2.2.1 _ _ (fun k => by omega), FD.2.2.2.2.1 _ _ (fun k => by omega), FC.2.2.2.2.1 _ _ (fun k => by omega), FB.2.2.2.2.1 _ _ (fun k => by omega)]
        have oX : hI E 4928 (m + 19) = hI H 4928 (m + 19) := by rw [FE.2.2.2.2.1 _ _ (fun k => by omega), FD.2.2.2.2.1 _ _ (fun k => by omega), FC.2.2.2.2.1 _ _ (fun k => by omega), FB.2.2.2.2.1 _ _ (fun k => by omega), FA.2.2.2.2.1 _ _ (fun k => by omega)]
        have oE : hI D 4912 (m + 18) = hI H 4912 (m + 18) := by rw [FD.2.2.2.2.1 _ _ (fun k => by omega), FC.2.2.2.2.1 _ _ (fun k => by omega), FB.2.2.2.2.1 _ _ (fun k => by omega), FA.2.2.2.2.1 _ _ (fun k => by omega)]
        have oC : hI B 4896 (m + 17) = hI H 4896 (m + 17) := by rw [FB.2.2.2.2.1 _ _ (fun k => by omega), FA.2.2.2.2.1 _ _ (fun k => by omega)]
        unfold MRw putC
        rw [kA, kC, kE, kX, vA, vC, vE, vX, oX, oE, oC]
        by_cases e : j = i
        · rw [if_pos e, if_pos e, if_pos e, if_pos e, if_pos e]
          exact ⟨rfl, rfl, rfl, rfl⟩
        · rw [if_neg e, if_neg e, if_neg e, if_neg e, if_neg e]
          exact hR j (by omega)
      -- what follows, with or without a fault
      have nextL : ∀ (dv' : Bool), (lk T p2 = 42 ∧ dv' = false ∨ lk T p2 = 47 ∧ dv' = true) → L_X12_product_7 (d + 3) q m (sgB dv') (sI G 1324 m 0 ((hI G 1324 m 0) + (1 : Int32))) := by
        intro dv' hlk
        have hlt : p2 < T.1 := by rcases hlk with ⟨h, -⟩ | ⟨h, -⟩ <;> exact lk_lt h (by decide)
        rw [mG.inc]
        have FN : Fr (AtS m) G (atM G m (p2 + 1) f1) := Fr_atM
        have mN : MT (atM G m (p2 + 1) f1) m T (p2 + 1) f1 := mG.at hlt
        have FHN : Fr (PpS m) H0 (atM G m (p2 + 1) f1) := FHG.tr (FN.mono fun g x k => Or.inl (by omega))
        by_cases hbad : l = 0 ∨ isLet (lk T (p + l)) = true
        · rw [if_pos hbad] at hf1
          have en : pNam T p = .inl (p + l) := by
            unfold pNam
            rw [hl, if_pos hbad]
          unfold dProd at he
          rw [en] at he
          rw [hf1] at mN FHN ⊢
          exact fault (p + l) (p2 + 1) _ _ he FHN mN (by omega)
        · rw [if_neg hbad] at hf1
          have en : pNam T p = .inr l := by
            unfold pNam
            rw [hl, if_neg hbad]
          unfold dProd at he
          rw [en] at he
          simp only at he
          obtain ⟨eg, e2⟩ := hgo (by rw [hf1]; decide)
          rw [← eg, ← e2] at he
          rw [hf1] at mN FHN ⊢
          have hge : p + l ≤ p2 := by rw [e2]; exact (dG_in r1).2.2.1
          have hl1 : 1 ≤ l := by
            have : l ≠ 0 := fun k => hbad (Or.inl k)
            omega
          have vN : hI (atM G m (p2 + 1) (-1)) 1332 m 0 = Int32.ofNat (i + 1) := by
            have FN' : Fr (AtS m) G (atM G m (p2 + 1) (-1)) := Fr_atM
            rw [FN'.2.2.2.2.1 _ _ (fun k => by omega)]; exact vG
          have rN : ∀ j, j < i + 1 → MRw (atM G m (p2 + 1) (-1)) m j (putC R i (p, l, g, dv) j) := fun j hj => by
            have FN' : Fr (AtS m) G (atM G m (p2 + 1) (-1)) := Fr_atM
            exact fr_MRw FN' (fun g x k1 k2 k => by omega) (rows j hj)
          rcases hlk with ⟨h, hd⟩ | ⟨h, hd⟩
          · rw [if_pos h] at he
            rw [hd]
            exact ih (i + 1) (p2 + 1) false _ _ (by omega) (by omega) FHN mN vN rN he
          · rw [if_neg (by rw [h]; decide), if_pos h] at he
            rw [hd]
            exact ih (i + 1) (p2 + 1) true _ _ (by omega) (by omega) FHN mN vN rN he
      refine K_here (d := d + 2) mG ⟨fun h42 => ⟨mG.1.1, K_here (d := d + 2) mG ⟨fun k => absurd h42 k, fun _ => ⟨mG.1.1, nextL false (Or.inl ⟨h42, rfl⟩)⟩⟩⟩, fun h42 => ⟨mG.1.1, K_here (d := d + 2) mG ⟨fun h47 => ⟨mG.1.1, K_here (d := d + 2) mG ⟨fun _ => ⟨mG.1.1, nextL true (Or.inr ⟨h47, rfl⟩)⟩, fun k => absurd k h42⟩⟩, fun h47 => ?_⟩⟩⟩
      by_cases hbad : l = 0 ∨ isLet (lk T (p + l)) = true
      · rw [if_pos hbad] at hf1
        have en : pNam T p = .inl (p + l) := by
          unfold pNam
          rw [hl, if_pos hbad]
        unfold dProd at he
        rw [en] at he
        rw [hf1] at mG
        exact h0 (p + l) he G p2 FHG mG
      · rw [if_neg hbad] at hf1
        have en : pNam T p = .inr l := by
          unfold pNam
          rw [hl, if_neg hbad]
        unfold dProd at he
        rw [en] at he
        simp only at he
        obtain ⟨eg, e2⟩ := hgo (by rw [hf1]; decide)
        rw [← eg, ← e2, if_neg h42, if_neg h47] at he
        rw [hf1] at mG
        exact h1 p2 (i + 1) _ he G FHG mG vG rows
    have e1 : (1 : Int32) = Int32.ofNat 1 := rfl
    refine K_figure (d := d + 1) mC (fun hn => ?_) (fun hf hpw => ?_)
    · rw [e1]
      refine key C 1 (p + l) Fr.rf mC (by decide) (fun _ => rfl) (fun hneg => ?_)
      rcases hn with hn | hn
      · omega
      · exact ⟨by unfold dG; rw [if_neg (by rw [hn]; decide)], by unfold dP; rw [if_neg (by rw [hn]; decide)]⟩
    · obtain ⟨q1, q2, q3, q4⟩ := pow_lt' hpw
      rw [q4]
      exact key (atM C m (p + l + 1) f1) (figN T (p + l)) (p + l + 1) Fr_atM (mC.at q1) q3 (fun hge => by omega) (fun _ => ⟨by unfold dG; rw [if_pos hpw], by unfold dP; rw [if_pos hpw]⟩)
theorem K_mproductD {d m p : Nat} {T : TP} {q : HP → Prop} {H : HP} {f : Int32} (hm : MT H m T p f) (hp : f = -1 → 3 ≤ p)
    (h1 : f = -1 → ∀ p1 c R1, dProd T 31 0 p false dR0 = .inr (p1, c, R1) → ∀ H', Fr (PpS m) H H' → MT H' m T p1 (-1) → hI H' 1332 m 0 = Int32.ofNat c → (∀ j, j < c → MRw H' m j (R1 j)) → q H')
    (h0 : f = -1 → ∀ f, dProd T 31 0 p false dR0 = .inl f → ∀ H' p1, Fr (PpS m) H H' → MT H' m T p1 (Int32.ofNat f) → q H')
    (hx : f ≠ -1 → 0 ≤ f.toInt ∧ ∀ H', Fr (PpS m) H H' → MT H' m T p f → q H') : CV (d + 4) 0 0 mX12_product [rv (some m)] H q := by
  refine C_X12_product ?_
  unfold wb_X12_product_0
  have FA : Fr (fun g x => g = 1332 ∧ x = m) H (sI H 1332 m 0 (0 : Int32)) := Fr_sI ⟨rfl, rfl⟩
  have vA : hI (sI H 1332 m 0 (0 : Int32)) 1332 m 0 = Int32.ofNat 0 := by rw [hIs_i, if_pos rfl]; rfl
  have FA' : Fr (PpS m) H (sI H 1332 m 0 (0 : Int32)) := FA.mono fun g x k => Or.inl (by omega)
  have mA : MT (sI H 1332 m 0 (0 : Int32)) m T p f := fr_MT FA (fun k => by omega) (fun k => by omega) (fun k => by omega) (fun k => by omega) hm
  refine ⟨hm.1.1, ?_⟩
  by_cases hf : f = -1
  · subst hf
    have e : (1 : Int32) = sgB false := rfl
    rw [e]
    exact mproduct_loop (d := d) (res := dProd T 31 0 p false dR0) (h1 rfl) (h0 rfl) 31 0 p false dR0 _ rfl (by have := hp rfl; omega) FA' mA vA (fun j hj => by cases hj) rfl
  · obtain ⟨k1, k2⟩ := hx hf
    refine T_X12_product_7 ?_
    unfold wb_X12_product_7
    rw [mA.2.2.2.2.2.1, i32_le, i32_0]
    exact ⟨mA.1.1, fun _ => k2 _ FA' mA, fun k => absurd k1 k⟩
