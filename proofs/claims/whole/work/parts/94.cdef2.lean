
/-! ===== the class reads a product of a definition ===== -/
def DRw (H : HP) (b j : Nat) (r : DRow) : Prop := hI H 4400 (b + 3) j = Int32.ofNat r.1 ∧ hI H 4416 (b + 4) j = Int32.ofNat r.2.1 ∧ hI H 4432 (b + 5) j = Int32.ofNat r.2.2.1 ∧ hI H 4450 (b + 6) j = bI r.2.2.2
theorem fr_DRw {S : Nat → Nat → Prop} {H H' : HP} {b j : Nat} {r : DRow} (h : Fr S H H') (h1 : ¬ S 4400 (b + 3)) (h2 : ¬ S 4416 (b + 4)) (h3 : ¬ S 4432 (b + 5)) (h4 : ¬ S 4450 (b + 6)) (s : DRw H b j r) : DRw H' b j r := by
  have hi := h.2.2.2.2.1
  obtain ⟨s1, s2, s3, s4⟩ := s
  exact ⟨by rw [hi _ _ h1]; exact s1, by rw [hi _ _ h2]; exact s2, by rw [hi _ _ h3]; exact s3, by rw [hi _ _ h4]; exact s4⟩
abbrev DpS (t b : Nat) : Nat → Nat → Prop := fun g x => (g = 802 ∧ x = t) ∨ (g = 205 ∧ x = b) ∨ (g = 4400 ∧ x = b + 3) ∨ (g = 4416 ∧ x = b + 4) ∨ (g = 4432 ∧ x = b + 5) ∨ (g = 4450 ∧ x = b + 6)
theorem vnar_bI (b : Bool) : vp_nar .boolean (bI b) = bI b := by cases b; exact nar0; exact nar1
theorem let_ne {x : Int32} (h : isLet x = true) : isPow x = false ∧ x ≠ 47 ∧ x ≠ 42 ∧ x ≠ 43 ∧ x ≠ 45 ∧ x ≠ 61 ∧ x ≠ 0 := by
  unfold isLet at h
  have h := of_decide_eq_true h
  have e : ∀ y : Int32, y.toInt < 97 → x ≠ y := fun y hy k => by rw [k] at h; omega
  refine ⟨?_, e 47 (by decide), e 42 (by decide), e 43 (by decide), e 45 (by decide), e 61 (by decide), e 0 (by decide)⟩
  unfold isPow
  exact decide_eq_false (fun k => by omega)
theorem readProduct_loop {d t b : Nat} {T : TP} {q : HP → Bool → Prop} {H0 : HP} {res : Nat ⊕ (Nat × Nat × (Nat → DRow))} (hbt : t + 2 ≤ b) (sd : shDef H0 b)
    (h1 : ∀ p1 m R1, res = .inr (p1, m, R1) → ∀ H', Fr (DpS t b) H0 H' → CT H' t T p1 → hI H' 205 b 0 = Int32.ofNat m → (∀ j, j < m → DRw H' b j (R1 j)) → q H' true)
    (h0 : ∀ f, res = .inl f → ∀ H', Fr (DpS t b) H0 H' → CT H' t T f → q H' false)
    (hs : ∀ f, res = .inl f → isLet (lk T f) = true → ∀ H', Fr (DpS t b) H0 H' → CT H' t T f → q H' true) : ∀ (n i p : Nat) (dv : Bool) (R : Nat → DRow) (H : HP), n + i = 31 → 2 * i + 3 ≤ p → Fr (DpS t b) H0 H → CT H t T p → (∀ j, j < i → DRw H b j (R j)) → res = dProd T n i p dv R → L_X1_readProduct_4 (d + 3) q b (some t) (bI dv) (Int32.ofNat i) H := by
  have e30 : (30 : Int32) = Int32.ofNat 30 := rfl
  intro n
  induction n with
  | zero =>
    intro i p dv R H hi hp F hc
    have := hc.2.2.1
    have := hc.2.2.2.2.1
    omega
  | succ n ih =>
    intro i p dv R H hi hp F hc hR he
    have hT60 := hc.2.2.1
    have hpT := hc.2.2.2.2.1
    have hi30 : i < 30 := by omega
    have in30 : vp_in (Int32.ofNat i) 30 := vpi_of hi30 (by decide)
    have icl := iN_cl (n := i) (by omega)
    refine T_X1_readProduct_4 ?_
    unfold wb_X1_readProduct_4
    have s0 := fr_shDef F sd
    obtain ⟨a1, a2, a3, a4⟩ := dA_d s0
    rw [e30, iN_le (by omega) (by omega), vnar_bI]
    refine ⟨fun h => by omega, fun _ => ⟨s0.1, b + 6, a1, a2, by rw [a4]; exact in30, t, rfl, ?_⟩⟩
    rw [a3, icl]
    -- what it is divided by
    have FA : Fr (fun g x => g = 4450 ∧ x = b + 6) H (sI H 4450 (b + 6) i (bI dv)) := Fr_sI ⟨rfl, rfl⟩
    have vA : ∀ j, hI (sI H 4450 (b + 6) i (bI dv)) 4450 (b + 6) j = if j = i then bI dv else hI H 4450 (b + 6) j := fun j => hIs_i _ _ _ _ _ _
    generalize sI H 4450 (b + 6) i (bI dv) = A at FA vA ⊢
    have cA : CT A t T p := fr_CT FA (fun k => by omega) (fun k => by omega) (fun k => by omega) hc
    have sA := fr_shDef FA s0
    obtain ⟨a1, a2, a3, a4⟩ := dA_a sA
    refine ⟨cA.1.1, b + 3, a1, a2, by rw [a4]; exact in30, fun B hB => ?_⟩
    rw [a3, cA.2.2.2.1] at hB
    have FB : Fr (fun g x => g = 4400 ∧ x = b + 3) A B := hB ▸ Fr_sI ⟨rfl, rfl⟩
    have vB : ∀ j, hI B 4400 (b + 3) j = if j = i then Int32.ofNat p else hI A 4400 (b + 3) j := fun j => by rw [← hB]; exact hIs_i _ _ _ _ _ _
    clear hB
    have cB : CT B t T p := fr_CT FB (fun k => by omega) (fun k => by omega) (fun k => by omega) cA
    have sB := fr_shDef FB sA
    refine K_takeName (d := d) cB ?_
    have r1 := run_in let0 (T := T) 4 p hpT
    have r4 := run_le (P := isLet) (T := T) 4 p
    obtain ⟨l1, l2, l3, l4⟩ := dA_l sB
    have FC : Fr (TaS t) B (atT B t (p + run isLet T 4 p)) := Fr_at
    have cC : CT (atT B t (p + run isLet T 4 p)) t T (p + run isLet T 4 p) := cB.at r1
    generalize hl : run isLet T 4 p = l at FC cC r1 r4 ⊢
    generalize atT B t (p + l) = C at FC cC ⊢
    have sC := fr_shDef FC sB
    obtain ⟨m1, m2, m3, m4⟩ := dA_l sC
    refine ⟨b + 4, l1, m2, by rw [m4]; exact in30, ?_⟩
    rw [m3]
    have FD : Fr (fun g x => g = 4416 ∧ x = b + 4) C (sI C 4416 (b + 4) i (Int32.ofNat l)) := Fr_sI ⟨rfl, rfl⟩
    have vD : ∀ j, hI (sI C 4416 (b + 4) i (Int32.ofNat l)) 4416 (b + 4) j = if j = i then Int32.ofNat l else hI C 4416 (b + 4) j := fun j => hIs_i _ _ _ _ _ _
    generalize sI C 4416 (b + 4) i (Int32.ofNat l) = D at FD vD ⊢
    have cD : CT D t T (p + l) := fr_CT FD (fun k => by omega) (fun k => by omega) (fun k => by omega) cC
    have sD := fr_shDef FD sC
    obtain ⟨n1, n2, n3, n4⟩ := dA_l sD
    have FHD : Fr (DpS t b) H0 D := F.tr ((FA.mono fun g x k => Or.inr (Or.inr (Or.inr (Or.inr (Or.inr k))))).tr ((FB.mono fun g x k => Or.inr (Or.inr (Or.inl k))).tr ((FC.mono fun g x k => Or.inl k).tr (FD.mono fun g x k => Or.inr (Or.inr (Or.inr (Or.inl k)))))))
    refine ⟨sD.1, b + 4, n1, n2, by rw [n4]; exact in30, ?_⟩
    rw [n3, vD i, if_pos rfl]
    have ez : Int32.ofNat l = 0 ↔ l = 0 := ⟨fun h => by
      have := congrArg Int32.toInt h
      rw [iN_toInt (by omega), i32_0] at this; omega, fun h => by rw [h]; rfl⟩
    rw [ez]
    unfold dProd at he
    refine ⟨fun hl0 => ?_, fun hl0 => ?_⟩
    · -- a name
      have key : ∀ (E : HP) (g p2 : Nat), (isLet (lk T (p + l)) = true → res = .inl (p + l) ∧ p2 = p + l) → (¬ isLet (lk T (p + l)) = true → g = dG T (p + l) ∧ p2 = dP T (p + l)) → Fr (TaS t) D E → CT E t T p2 → g ≤ 4 → ∃ a28, (hC D 208 b) = some a28 ∧ (isA E a28 0 ∧ (vp_in (Int32.ofNat i) (ln E a28) ∧ (tg (sI E (tg E a28) a28 i (Int32.ofNat g)) b = 2 ∧ (tg (sI (sI E (tg E a28) a28 i (Int32.ofNat g)) 205 b 0 (Int32.ofNat i + (1 : Int32))) t = 8 ∧ (CI (d + 3) 0 0 mX7_look [rv (some t), .int (0 : Int32)] (sI (sI E (tg E a28) a28 i (Int32.ofNat g)) 205 b 0 (Int32.ofNat i + (1 : Int32))) (fun H32 r34 => (¬ r34 = (47 : Int32) → tg H32 t = 8 ∧ (CZ (d + 3) 0 0 mX7_takes [rv (some t), .int (42 : Int32)] H32 (fun H35 b37 => (b37 = true → L_X1_readProduct_4 (d + 3) q b (some t) (0 : Int32) (Int32.ofNat i + 1) H35) ∧ (b37 = false → tg H35 t = 8 ∧ (CZ (d + 3) 0 0 mX7_takes [rv (some t), .int (47 : Int32)] H35 (fun H38 b40 => (b40 = true → L_X1_readProduct_4 (d + 3) q b (some t) (0 : Int32) (Int32.ofNat i + 1) H38) ∧ (b40 = false → q H38 true))))))) ∧ (r34 = (47 : Int32) → tg H32 t = 8 ∧ (CZ (d + 3) 0 0 mX7_takes [rv (some t), .int (42 : Int32)] H32 (fun H41 b43 => (b43 = true → L_X1_readProduct_4 (d + 3) q b (some t) (1 : Int32) (Int32.ofNat i + 1) H41) ∧ (b43 = false → tg H41 t = 8 ∧ (CZ (d + 3) 0 0 mX7_takes [rv (some t), .int (47 : Int32)] H41 (fun H44 b46 => (b46 = true → L_X1_readProduct_4 (d + 3) q b (some t) (1 : Int32) (Int32.ofNat i + 1) H44) ∧ (b46 = false → q H44 true))))))))))))) := by
        intro E g p2 hst hgo FE cE hg4
        have sE := fr_shDef FE sD
        obtain ⟨f1, f2, f3, f4⟩ := dA_f sE
        have f1D := (dA_f sD).1
        refine ⟨b + 5, f1D, f2, by rw [f4]; exact in30, ?_⟩
        rw [f3, iN_inc (by omega)]
        have FF : Fr (fun g x => g = 4432 ∧ x = b + 5) E (sI E 4432 (b + 5) i (Int32.ofNat g)) := Fr_sI ⟨rfl, rfl⟩
        have vF : ∀ j, hI (sI E 4432 (b + 5) i (Int32.ofNat g)) 4432 (b + 5) j = if j = i then Int32.ofNat g else hI E 4432 (b + 5) j := fun j => hIs_i _ _ _ _ _ _
        generalize sI E 4432 (b + 5) i (Int32.ofNat g) = X at FF vF ⊢
        have sX := fr_shDef FF sE
        have FG : Fr (fun g x => g = 205 ∧ x = b) X (sI X 205 b 0 (Int32.ofNat (i + 1))) := Fr_sI ⟨rfl, rfl⟩
        have vG : hI (sI X 205 b 0 (Int32.ofNat (i + 1))) 205 b 0 = Int32.ofNat (i + 1) := by rw [hIs_i, if_pos rfl]
        generalize sI X 205 b 0 (Int32.ofNat (i + 1)) = G at FG vG ⊢
        have cX : CT X t T p2 := fr_CT FF (fun k => by omega) (fun k => by omega) (fun k => by omega) cE
        have cG : CT G t T p2 := fr_CT FG (fun k => by omega) (fun k => by omega) (fun k => by omega) cX
        have FHG : Fr (DpS t b) H0 G := FHD.tr ((FE.mono fun g x k => Or.inl k).tr ((FF.mono fun g x k => Or.inr (Or.inr (Or.inr (Or.inr (Or.inl k))))).tr (FG.mono fun g x k => Or.inr (Or.inl k))))
        have hp2 := cG.2.2.2.2.1
        -- the rows so far
        have rows : ∀ j, j < i + 1 → DRw G b j (putC R i (p, l, g, dv) j) := fun j hj => by
          have kF := FG.2.2.2.2.1 4432 (b + 5) (fun k => by omega)
          have kD : hI G 4416 (b + 4) = hI D 4416 (b + 4) := by rw [FG.2.2.2.2.1 _ _ (fun k => by omega), FF.2.2.2.2.1 _ _ (fun k => by omega), FE.2.2.2.2.1 _ _ (fun k => by omega)]
          have kB : hI G 4400 (b + 3) = hI B 4400 (b + 3) := by rw [FG.2.2.2.2.1 _ _ (fun k => by omega), FF.2.2.2.2.1 _ _ (fun k => by omega), FE.2.2.2.2.1 _ _ (fun k => by omega), FD.2.2.2.2.1 _ _ (fun k => by omega), FC.2.2.2.2.1 _ _ (fun k => by omega)]
          have kA : hI G 4450 (b + 6) = hI A 4450 (b + 6) := by rw [FG.2.2.2.2.1 _ _ (fun k => by omega), FF.2.2.2.2.1 _ _ (fun k => by omega), FE.2.2.2.2.1 _ _ (fun k => by omega), FD.2.2.2.2.1 _ _ (fun k => by omega), FC.2.2.2.2.1 _ _ (fun k => by omega), FB.2.2.2.2.1 _ _ (fun k => by omega)]
          have oF : hI E 4432 (b + 5) = hI H 4432 (b + 5) := by rw [FE.2.2.2.2.1 _ _ (fun k => by omega), FD.2.2.2.2.1 _ _ (fun k => by omega), FC.2.2.2.2.1 _ _ (fun k => by omega), FB.2.2.2.2.1 _ _ (fun k => by omega), FA.2.2.2.2.1 _ _ (fun k => by omega)]
          have oD : hI C 4416 (b + 4) = hI H 4416 (b + 4) := by rw [FC.2.2.2.2.1 _ _ (fun k => by omega), FB.2.2.2.2.1 _ _ (fun k => by omega), FA.2.2.2.2.1 _ _ (fun k => by omega)]
          have oB : hI A 4400 (b + 3) = hI H 4400 (b + 3) := by rw [FA.2.2.2.2.1 _ _ (fun k => by omega)]
          unfold DRw putC
          rw [kA, kB, kD, kF, vA, vB, vD, vF, oF, oD, oB]
          by_cases e : j = i
          · rw [if_pos e, if_pos e, if_pos e, if_pos e, if_pos e]
            exact ⟨rfl, rfl, rfl, rfl⟩
          · rw [if_neg e, if_neg e, if_neg e, if_neg e, if_neg e]
            exact hR j (by omega)
        refine ⟨sX.1, cG.1.1, K_look (d := d + 2) (k := p2) cG (by rw [i32_0]; omega) ?_⟩
        by_cases hlet : isLet (lk T (p + l)) = true
        · -- a fifth letter
          obtain ⟨er, e2⟩ := hst hlet
          obtain ⟨-, k47, k42, -⟩ := let_ne hlet
          rw [e2] at cG ⊢
          have fin : q G true := hs _ er hlet G FHG cG
          exact ⟨fun _ => ⟨cG.1.1, K_takes (d := d + 1) cG (fun k => absurd k k42) (fun _ => ⟨fun k => (by cases k), fun _ => ⟨cG.1.1, K_takes (d := d + 1) cG (fun k => absurd k k47) (fun _ => ⟨fun k => (by cases k), fun _ => fin⟩)⟩⟩)⟩, fun k => absurd k k47⟩
        · obtain ⟨eg, e2⟩ := hgo hlet
          have en : pNam T p = .inr l := by
            unfold pNam
            rw [hl, if_neg (fun k => k.elim hl0 hlet)]
          rw [en] at he
          simp only at he
          rw [← e2, ← eg] at he
          refine ⟨fun h47 => ⟨cG.1.1, K_takes (d := d + 1) cG (fun h42 => ⟨fun _ => ?_, fun k => (by cases k)⟩) (fun h42 => ⟨fun k => (by cases k), fun _ => ⟨cG.1.1, K_takes (d := d + 1) cG (fun k => absurd k h47) (fun _ => ⟨fun k => (by cases k), fun _ => ?_⟩)⟩⟩)⟩, fun h47 => ⟨cG.1.1, K_takes (d := d + 1) cG (fun h42 => (by rw [h42] at h47; exact absurd h47 (by decide))) (fun h42 => ⟨fun k => (by cases k), fun _ => ⟨cG.1.1, K_takes (d := d + 1) cG (fun _ => ⟨fun _ => ?_, fun k => (by cases k)⟩) (fun k => absurd h47 k)⟩⟩)⟩⟩
          · rw [if_pos h42] at he
            have hlt := lk_lt h42 (by decide)
            have FN : Fr (TaS t) G (atT G t (p2 + 1)) := Fr_at
            have hge : p + l ≤ p2 := by rw [e2]; exact (dG_in r1).2.2.1
            exact ih (i + 1) (p2 + 1) false _ (atT G t (p2 + 1)) (by omega) (by omega) (FHG.tr (FN.mono fun g x k => Or.inl k)) (cG.at hlt) (fun j hj => fr_DRw FN (fun k => by omega) (fun k => by omega) (fun k => by omega) (fun k => by omega) (rows j hj)) he
          · rw [if_neg h42, if_neg h47] at he
            exact h1 p2 (i + 1) _ he G FHG cG vG rows
          · rw [if_neg h42, if_pos h47] at he
            have hlt := lk_lt h47 (by decide)
            have FN : Fr (TaS t) G (atT G t (p2 + 1)) := Fr_at
            have hge : p + l ≤ p2 := by rw [e2]; exact (dG_in r1).2.2.1
            exact ih (i + 1) (p2 + 1) true _ (atT G t (p2 + 1)) (by omega) (by omega) (FHG.tr (FN.mono fun g x k => Or.inl k)) (cG.at hlt) (fun j hj => fr_DRw FN (fun k => by omega) (fun k => by omega) (fun k => by omega) (fun k => by omega) (rows j hj)) he
      have stuck : isLet (lk T (p + l)) = true → res = .inl (p + l) := fun hlet => by
        have en : pNam T p = .inl (p + l) := by
          unfold pNam
          rw [hl, if_pos (Or.inr hlet)]
        rw [en] at he; exact he
      refine ⟨cD.1.1, K_takePower (d := d) cD (fun hpw => ?_) (fun hpw => ?_)⟩
      · obtain ⟨q1, q2, q3, q4⟩ := pow_lt' hpw
        rw [q4]
        refine key (atT D t (p + l + 1)) (figN T (p + l)) (p + l + 1) (fun hlet => ?_) (fun _ => ⟨by unfold dG; rw [if_pos hpw], by unfold dP; rw [if_pos hpw]⟩) Fr_at (cD.at q1) q3
        have := (let_ne hlet).1
        rw [hpw] at this; cases this
      · exact key D 1 (p + l) (fun hlet => ⟨stuck hlet, rfl⟩) (fun _ => ⟨by unfold dG; rw [if_neg (by rw [hpw]; decide)], by unfold dP; rw [if_neg (by rw [hpw]; decide)]⟩) Fr.rf cD (by decide)
    · have en : pNam T p = .inl (p + l) := by
        unfold pNam
        rw [hl, if_pos (Or.inl hl0)]
      rw [en] at he
      exact h0 (p + l) he D FHD cD
theorem K_readProduct {d t b p : Nat} {T : TP} {q : HP → Bool → Prop} {H : HP} (hbt : t + 2 ≤ b) (sd : shDef H b) (hc : CT H t T p) (hp : 3 ≤ p)
    (h1 : ∀ p1 m R1, dProd T 31 0 p false dR0 = .inr (p1, m, R1) → ∀ H', Fr (DpS t b) H H' → CT H' t T p1 → hI H' 205 b 0 = Int32.ofNat m → (∀ j, j < m → DRw H' b j (R1 j)) → q H' true)
    (h0 : ∀ f, dProd T 31 0 p false dR0 = .inl f → ∀ H', Fr (DpS t b) H H' → CT H' t T f → q H' false)
    (hs : ∀ f, dProd T 31 0 p false dR0 = .inl f → isLet (lk T f) = true → ∀ H', Fr (DpS t b) H H' → CT H' t T f → q H' true) : CZ (d + 4) 0 0 mX1_readProduct [rv (some b), rv (some t)] H q := by
  refine C_X1_readProduct ?_
  unfold wb_X1_readProduct_0
  exact readProduct_loop (d := d) hbt sd h1 h0 hs 31 0 p false dR0 H rfl (by omega) Fr.rf hc (fun j hj => by cases hj) rfl
