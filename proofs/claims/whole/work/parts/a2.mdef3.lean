
/-! ===== the reference: defined ===== -/
def MDf (H : HP) (m : Nat) (D : DRes) : Prop := hI H 1327 m 0 = Int32.ofNat D.2.1.1 ∧ hI H 1328 m 0 = Int32.ofNat D.2.1.2 ∧ hI H 1332 m 0 = Int32.ofNat D.2.2.1.1 ∧ (∀ j, j < D.2.2.1.1 → MRw H m j (D.2.2.1.2 j)) ∧ MOf H m D.2.2.2
theorem fr_MOf {S : Nat → Nat → Prop} {H H' : HP} {m : Nat} {o : Option (Bool × Nat × Nat)} (h : Fr S H H') (h0 : ∀ g, 1329 ≤ g → g ≤ 1331 → ¬ S g m) (s : MOf H m o) : MOf H' m o := by
  have hi := h.2.2.2.2.1
  unfold MOf at s ⊢
  rw [hi 1331 _ (h0 _ (by omega) (by omega)), hi 1330 _ (h0 _ (by omega) (by omega)), hi 1329 _ (h0 _ (by omega) (by omega))]
  exact s
theorem fr_MDf {S : Nat → Nat → Prop} {H H' : HP} {m : Nat} {D : DRes} (h : Fr S H H') (h0 : ∀ g, 1327 ≤ g → g ≤ 1332 → ¬ S g m) (h1 : ∀ g x, m + 16 ≤ x → x ≤ m + 19 → ¬ S g x) (s : MDf H m D) : MDf H' m D := by
  have hi := h.2.2.2.2.1
  obtain ⟨s1, s2, s3, s4, s5⟩ := s
  exact ⟨by rw [hi _ _ (h0 _ (by omega) (by omega))]; exact s1, by rw [hi _ _ (h0 _ (by omega) (by omega))]; exact s2, by rw [hi _ _ (h0 _ (by omega) (by omega))]; exact s3, fun j hj => fr_MRw h h1 (s4 j hj), fr_MOf h (fun g k1 k2 => h0 g (by omega) (by omega)) s5⟩
abbrev DmS (m : Nat) : Nat → Nat → Prop := fun g x => ((g = 1324 ∨ g = 1325 ∨ (1327 ≤ g ∧ g ≤ 1332)) ∧ x = m) ∨ (m + 16 ≤ x ∧ x ≤ m + 19)
theorem dDef_step {T : TP} : dDef T = (match pNam T 0 with
    | .inl f => .inl f
    | .inr l => if lk T l = 61 then (match dRat T (l + 1) with
      | .inl f => .inl f
      | .inr (u, w, p1) => match dProd T 31 0 p1 false dR0 with
        | .inl f => .inl f
        | .inr (p2, n, R) => match dOff T p2 with
          | .inl f => .inl f
          | .inr o => .inr (l, (u, w), (n, R), o)) else .inl l) := by
  unfold dDef
  cases pNam T 0 with
  | inl f => rfl
  | inr l =>
    simp only
    split
    · rcases dRat T (l + 1) with f | ⟨u, w, p1⟩
      · rfl
      · simp only
        rcases dProd T 31 0 p1 false dR0 with f | ⟨p2, n, R⟩
        · rfl
        · simp only
          rcases dOff T p2 with f | o <;> rfl
    · rfl
theorem K_defined {d m : Nat} {T : TP} {q : HP → Int32 → Prop} {H : HP} (hm : MT H m T 0 (-1))
    (h1 : ∀ D, dDef T = .inr D → ∀ H' p', Fr (DmS m) H H' → MT H' m T p' (-1) → MDf H' m D → q H' (Int32.ofNat D.1))
    (h0 : ∀ f r, dDef T = .inl f → f ≤ T.1 → ∀ H' p', Fr (DmS m) H H' → MT H' m T p' (Int32.ofNat f) → q H' r) : CI (d + 6) 0 0 mX12_defined [rv (some m)] H q := by
  have hT60 := hm.2.2.1
  refine C_X12_defined ?_
  unfold wb_X12_defined_0
  have hstep := dDef_step (T := T)
  have AtD : ∀ g x, AtS m g x → DmS m g x := fun g x k => Or.inl ⟨by omega, k.2⟩
  have PpD : ∀ g x, PpS m g x → DmS m g x := fun g x k => by
    rcases k with k | k
    · exact Or.inl ⟨by omega, k.2⟩
    · exact Or.inr k
  have OfD : ∀ g x, OfS m g x → DmS m g x := fun g x k => Or.inl ⟨by omega, k.2⟩
  -- from the product on, with a fault
  have prodF : ∀ (X : HP) (f p : Nat) (rr : Int32), dDef T = .inl f → f ≤ T.1 → Fr (DmS m) H X → MT X m T p (Int32.ofNat f) → CV (d + 5) 0 0 mX12_product [rv (some m)] X (DfK (d + 5) q m rr) := by
    intro X f p rr hd hf FX mX
    have hfi := iN_toInt (n := f) (by omega)
    have hne : Int32.ofNat f ≠ -1 := fun k => by
      have := congrArg Int32.toInt k
      rw [hfi, i32_m1] at this; omega
    refine K_mproductD (d := d + 1) mX (fun k => absurd k hne) (fun k => absurd k hne) (fun k => absurd k hne) (fun _ => ⟨by omega, fun Y FY mY => ?_⟩)
    exact DfK_fault (d := d + 4) mY (by omega) fun Z FZ mZ => h0 f rr hd hf Z p (FX.tr ((FY.mono PpD).tr (FZ.mono OfD))) mZ
  have prodK : ∀ (X : HP) (l u w p : Nat), pNam T 0 = .inr l → lk T l = 61 → dRat T (l + 1) = .inr (u, w, p) → 3 ≤ p → Fr (DmS m) H X → MT X m T p (-1) → hI X 1327 m 0 = Int32.ofNat u → hI X 1328 m 0 = Int32.ofNat w → CV (d + 5) 0 0 mX12_product [rv (some m)] X (DfK (d + 5) q m (Int32.ofNat l)) := by
    intro X l u w p hn h61 hr hp FX mX k1 k2
    rw [hn] at hstep
    simp only at hstep
    rw [if_pos h61, hr] at hstep
    simp only at hstep
    have hpin := dProd_in (T := T) 31 0 p false dR0 mX.2.2.2.2.1 (by omega) (fun j hj => by cases hj)
    refine K_mproductD (d := d + 1) mX (fun _ => hp) (fun _ p2 c R hpr Y FY mY vY rows => ?_) (fun _ f hpr Y p2 FY mY => ?_) (fun k => absurd rfl k)
    · rw [hpr] at hstep
      simp only at hstep
      refine DfK_ok (d := d + 1) mY (fun o ho Z p' FZ mZ oZ => ?_) (fun f hf Z p' FZ mZ => ?_)
      · rw [ho] at hstep
        refine h1 _ hstep Z p' (FX.tr ((FY.mono PpD).tr (FZ.mono OfD))) mZ ⟨?_, ?_, ?_, fun j hj => fr_MRw FZ (fun g x a b k => by omega) (rows j hj), oZ⟩
        · rw [FZ.2.2.2.2.1 _ _ (fun k => by omega), FY.2.2.2.2.1 _ _ (fun k => by omega)]; exact k1
        · rw [FZ.2.2.2.2.1 _ _ (fun k => by omega), FY.2.2.2.2.1 _ _ (fun k => by omega)]; exact k2
        · rw [FZ.2.2.2.2.1 _ _ (fun k => by omega)]; exact vY
      · rw [hf] at hstep
        have hle : f ≤ T.1 := by
          have hin := (hpin.2 p2 c R hpr).2.1
          unfold dOff at hf
          by_cases hs : lk T p2 = 43 ∨ lk T p2 = 45
          · rw [if_pos hs] at hf
            have hlt : p2 < T.1 := hs.elim (fun k => lk_lt k (by decide)) (fun k => lk_lt k (by decide))
            have hri := dRat_in (T := T) (p := p2 + 1) hlt
            cases hr2 : dRat T (p2 + 1) with
            | inl f' =>
              rw [hr2] at hf
              injection hf with hf
              have := (hri.1 f' hr2).2
              omega
            | inr uwp =>
              obtain ⟨u2, w2, p3⟩ := uwp
              rw [hr2] at hf
              simp only at hf
              have := (hri.2 u2 w2 p3 hr2).2.1
              split at hf
              · injection hf with hf; omega
              · cases hf
          · rw [if_neg hs] at hf
            split at hf
            · injection hf with hf; omega
            · cases hf
        exact h0 f _ hstep hle Z p' (FX.tr ((FY.mono PpD).tr (FZ.mono OfD))) mZ
    · rw [hpr] at hstep
      have hle := hpin.1 f hpr
      have hfi := iN_toInt (n := f) (by omega)
      exact DfK_fault (d := d + 4) mY (by omega) fun Z FZ mZ => h0 f _ hstep hle Z p2 (FX.tr ((FY.mono PpD).tr (FZ.mono OfD))) mZ
  have r1 := run_in let0 (T := T) 4 0 (Nat.zero_le _)
  have r4 := run_le (P := isLet) (T := T) 4 0
  refine ⟨hm.1.1, K_letters (d := d + 2) hm (fun k => absurd k (by decide)) (fun _ => ?_)⟩
  rw [Nat.zero_add] at r1 ⊢
  generalize hl : run isLet T 4 0 = l at r1 r4 ⊢
  -- with a fault
  have faulty : ∀ (X : HP) (f p : Nat) (rr : Int32), dDef T = .inl f → f ≤ T.1 → Fr (DmS m) H X → MT X m T p (Int32.ofNat f) → tg X m = 13 ∧ ((0 ≤ (hI X 1325 m 0) → CI (d + 5) 0 0 mX12_below [rv (some m)] (sI X 1327 m 0 (0 : Int32)) (fun H7 r8 => tg H7 m = 13 ∧ (CV (d + 5) 0 0 mX12_product [rv (some m)] (sI H7 1328 m 0 r8) (DfK (d + 5) q m rr)))) ∧ (¬ (0 ≤ (hI X 1325 m 0)) → CI (d + 5) 0 0 mX12_figures [rv (some m), .int (6 : Int32)] X (fun H26 r27 => tg H26 m = 13 ∧ (CI (d + 5) 0 0 mX12_below [rv (some m)] (sI H26 1327 m 0 r27) (fun H29 r30 => tg H29 m = 13 ∧ (CV (d + 5) 0 0 mX12_product [rv (some m)] (sI H29 1328 m 0 r30) (DfK (d + 5) q m rr))))))) := by
    intro X f p rr hd hf FX mX
    have hfi := iN_toInt (n := f) (by omega)
    refine ⟨mX.1.1, fun _ => ?_, fun k => ?_⟩
    · have FY : Fr (fun g x => g = 1327 ∧ x = m) X (sI X 1327 m 0 (0 : Int32)) := Fr_sI ⟨rfl, rfl⟩
      generalize sI X 1327 m 0 (0 : Int32) = Y at FY ⊢
      have mY : MT Y m T p (Int32.ofNat f) := fr_MT FY (fun k => by omega) (fun k => by omega) (fun k => by omega) (fun k => by omega) mX
      refine K_dbelowF (d := d + 1) mY (by omega) ⟨mY.1.1, ?_⟩
      have FZ : Fr (fun g x => g = 1328 ∧ x = m) Y (sI Y 1328 m 0 (1 : Int32)) := Fr_sI ⟨rfl, rfl⟩
      generalize sI Y 1328 m 0 (1 : Int32) = Z at FZ ⊢
      have mZ : MT Z m T p (Int32.ofNat f) := fr_MT FZ (fun k => by omega) (fun k => by omega) (fun k => by omega) (fun k => by omega) mY
      exact prodF Z f p rr hd hf (FX.tr ((FY.mono fun g x k => Or.inl ⟨by omega, k.2⟩).tr (FZ.mono fun g x k => Or.inl ⟨by omega, k.2⟩))) mZ
    · rw [mX.2.2.2.2.2.1, i32_le, hfi, i32_0] at k
      exact absurd (by omega) k
  by_cases hbad : l = 0 ∨ isLet (lk T l) = true
  · rw [if_pos hbad]
    have en : pNam T 0 = .inl l := by
      unfold pNam
      rw [hl, Nat.zero_add, if_pos hbad]
    rw [en] at hstep
    have FA : Fr (AtS m) H (atM H m l (Int32.ofNat l)) := Fr_atM
    have mA : MT (atM H m l (Int32.ofNat l)) m T l (Int32.ofNat l) := hm.at r1
    generalize atM H m l (Int32.ofNat l) = A at FA mA ⊢
    have hli := iN_toInt (n := l) (by omega)
    refine ⟨mA.1.1, K_must (d := d + 3) mA (fun _ => ?_) (fun k => by omega) (fun k => by omega)⟩
    exact faulty A l l (Int32.ofNat l) hstep r1 (FA.mono AtD) mA
  · rw [if_neg hbad]
    have en : pNam T 0 = .inr l := by
      unfold pNam
      rw [hl, Nat.zero_add, if_neg hbad]
    have FA : Fr (AtS m) H (atM H m l (-1)) := Fr_atM
    have mA : MT (atM H m l (-1)) m T l (-1) := hm.at r1
    generalize atM H m l (-1) = A at FA mA ⊢
    refine ⟨mA.1.1, K_must (d := d + 3) mA (fun k => absurd k (by decide)) (fun _ h61 => ?_) (fun _ h61 => ?_)⟩
    · have hlt := lk_lt h61 (by decide)
      have FB : Fr (AtS m) A (atM A m (l + 1) (-1)) := Fr_atM
      have mB : MT (atM A m (l + 1) (-1)) m T (l + 1) (-1) := mA.at hlt
      generalize atM A m (l + 1) (-1) = B at FB mB ⊢
      have FHB : Fr (DmS m) H B := (FA.mono AtD).tr (FB.mono AtD)
      have l1 : 1 ≤ l := by
        have : l ≠ 0 := fun k => hbad (Or.inl k)
        omega
      have hrin := dRat_in (T := T) (p := l + 1) hlt
      have hst2 : ∀ f, dRat T (l + 1) = .inl f → dDef T = .inl f := fun f hr => by
        rw [hstep, en]
        simp only
        rw [if_pos h61, hr]
      refine ⟨mB.1.1, fun k => ?_, fun _ => ?_⟩
      · rw [mB.2.2.2.2.2.1] at k; exact absurd k (by decide)
      · refine K_dnum (d := d + 2) mB (fun u p2 hu => ?_) (fun f rr hf => ?_)
        · obtain ⟨e1, e2, e3, -⟩ := (dNum_in (T := T) (p := l + 1) hlt).2 u p2 hu
          have FC : Fr (AtS m) B (atM B m p2 (-1)) := Fr_atM
          have mC : MT (atM B m p2 (-1)) m T p2 (-1) := mB.at e2
          generalize atM B m p2 (-1) = C at FC mC ⊢
          have FE : Fr (fun g x => g = 1327 ∧ x = m) C (sI C 1327 m 0 (Int32.ofNat u)) := Fr_sI ⟨rfl, rfl⟩
          have vE : hI (sI C 1327 m 0 (Int32.ofNat u)) 1327 m 0 = Int32.ofNat u := by rw [hIs_i, if_pos rfl]
          refine ⟨mC.1.1, ?_⟩
          generalize sI C 1327 m 0 (Int32.ofNat u) = E at FE vE ⊢
          have mE : MT E m T p2 (-1) := fr_MT FE (fun k => by omega) (fun k => by omega) (fun k => by omega) (fun k => by omega) mC
          have FHE : Fr (DmS m) H E := FHB.tr ((FC.mono AtD).tr (FE.mono fun g x k => Or.inl ⟨by omega, k.2⟩))
          have hrat : dRat T (l + 1) = (if lk T p2 = 47 then (match dNum T (p2 + 1) with
              | .inl f => .inl f
              | .inr (w, p3) => .inr (u, w, p3)) else .inr (u, 1, p2)) := by
            unfold dRat
            rw [hu]
            simp only
            split
            · rcases dNum T (p2 + 1) with f | ⟨w, p3⟩ <;> rfl
            · rfl
          have goP : ∀ (X : HP) (w p3 : Nat), dRat T (l + 1) = .inr (u, w, p3) → Fr (DmS m) H X → MT X m T p3 (-1) → hI X 1327 m 0 = Int32.ofNat u → tg X m = 13 ∧ (CV (d + 5) 0 0 mX12_product [rv (some m)] (sI X 1328 m 0 (Int32.ofNat w)) (DfK (d + 5) q m (Int32.ofNat l))) := by
            intro X w p3 hr FX mX k1
            have FY : Fr (fun g x => g = 1328 ∧ x = m) X (sI X 1328 m 0 (Int32.ofNat w)) := Fr_sI ⟨rfl, rfl⟩
            have vY : hI (sI X 1328 m 0 (Int32.ofNat w)) 1328 m 0 = Int32.ofNat w := by rw [hIs_i, if_pos rfl]
            refine ⟨mX.1.1, ?_⟩
            generalize sI X 1328 m 0 (Int32.ofNat w) = Y at FY vY ⊢
            have mY : MT Y m T p3 (-1) := fr_MT FY (fun k => by omega) (fun k => by omega) (fun k => by omega) (fun k => by omega) mX
            have hp3 := (hrin.2 u w p3 hr).1
            refine prodK Y l u w p3 en h61 hr (by omega) (FX.tr (FY.mono fun g x k => Or.inl ⟨by omega, k.2⟩)) mY ?_ vY
            rw [FY.2.2.2.2.1 _ _ (fun k => by omega)]; exact k1
          refine K_dbelow (d := d + 1) mE (fun h47 w p3 hw => ?_) (fun h47 f rr hf => ?_) (fun h47 => ?_)
          · rw [if_pos h47, hw] at hrat
            have hlt2 := lk_lt h47 (by decide)
            have g2 := ((dNum_in (T := T) (p := p2 + 1) hlt2).2 w p3 hw).2.1
            have FX : Fr (AtS m) E (atM E m p3 (-1)) := Fr_atM
            exact goP _ w p3 hrat (FHE.tr (FX.mono AtD)) (mE.at g2) (by rw [FX.2.2.2.2.1 _ _ (fun k => by omega)]; exact vE)
          · rw [if_pos h47, hf] at hrat
            have hlt2 := lk_lt h47 (by decide)
            have hfin := ((dNum_in (T := T) (p := p2 + 1) hlt2).1 f hf).2
            have FX : Fr (AtS m) E (atM E m f (Int32.ofNat f)) := Fr_atM
            have mX : MT (atM E m f (Int32.ofNat f)) m T f (Int32.ofNat f) := mE.at hfin
            generalize atM E m f (Int32.ofNat f) = X at FX mX ⊢
            have FY : Fr (fun g x => g = 1328 ∧ x = m) X (sI X 1328 m 0 rr) := Fr_sI ⟨rfl, rfl⟩
            refine ⟨mX.1.1, ?_⟩
            generalize sI X 1328 m 0 rr = Y at FY ⊢
            have mY : MT Y m T f (Int32.ofNat f) := fr_MT FY (fun k => by omega) (fun k => by omega) (fun k => by omega) (fun k => by omega) mX
            exact prodF Y f f (Int32.ofNat l) (hst2 f hrat) hfin (FHE.tr ((FX.mono AtD).tr (FY.mono fun g x k => Or.inl ⟨by omega, k.2⟩))) mY
          · rw [if_neg h47] at hrat
            exact goP E 1 p2 hrat FHE mE vE
        · have hrat : dRat T (l + 1) = .inl f := by unfold dRat; rw [hf]
          have hfin := (hrin.1 f hrat).2
          have FC : Fr (AtS m) B (atM B m f (Int32.ofNat f)) := Fr_atM
          have mC : MT (atM B m f (Int32.ofNat f)) m T f (Int32.ofNat f) := mB.at hfin
          generalize atM B m f (Int32.ofNat f) = C at FC mC ⊢
          have FE : Fr (fun g x => g = 1327 ∧ x = m) C (sI C 1327 m 0 rr) := Fr_sI ⟨rfl, rfl⟩
          refine ⟨mC.1.1, ?_⟩
          generalize sI C 1327 m 0 rr = E at FE ⊢
          have mE : MT E m T f (Int32.ofNat f) := fr_MT FE (fun k => by omega) (fun k => by omega) (fun k => by omega) (fun k => by omega) mC
          have hfi := iN_toInt (n := f) (by omega)
          refine K_dbelowF (d := d + 1) mE (by omega) ⟨mE.1.1, ?_⟩
          have FY : Fr (fun g x => g = 1328 ∧ x = m) E (sI E 1328 m 0 (1 : Int32)) := Fr_sI ⟨rfl, rfl⟩
          generalize sI E 1328 m 0 (1 : Int32) = Y at FY ⊢
          have mY : MT Y m T f (Int32.ofNat f) := fr_MT FY (fun k => by omega) (fun k => by omega) (fun k => by omega) (fun k => by omega) mE
          exact prodF Y f f (Int32.ofNat l) (hst2 f hrat) hfin (FHB.tr ((FC.mono AtD).tr ((FE.mono fun g x k => Or.inl ⟨by omega, k.2⟩).tr (FY.mono fun g x k => Or.inl ⟨by omega, k.2⟩)))) mY
    · have hst3 : dDef T = .inl l := by
        rw [hstep, en]
        simp only
        rw [if_neg h61]
      have FB : Fr (AtS m) A (atM A m l (Int32.ofNat l)) := Fr_atM
      have mB : MT (atM A m l (Int32.ofNat l)) m T l (Int32.ofNat l) := mA.at r1
      exact faulty _ l l (Int32.ofNat l) hst3 r1 ((FA.mono AtD).tr (FB.mono AtD)) mB
