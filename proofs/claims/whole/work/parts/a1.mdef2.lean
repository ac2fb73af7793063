
/-! ===== the reference reads a whole definition ===== -/
def DfK (d : Nat) (q : HP → Int32 → Prop) (m : Nat) (r3 : Int32) (H10 : HP) : Prop := tg H10 m = 13 ∧ ((0 ≤ (hI (sI (sI H10 1331 m 0 (0 : Int32)) 1330 m 0 (1 : Int32)) 1325 m 0) → ((hI (sI (sI H10 1331 m 0 (0 : Int32)) 1330 m 0 (1 : Int32)) 1323 m 0) ≤ (hI (sI (sI H10 1331 m 0 (0 : Int32)) 1330 m 0 (1 : Int32)) 1324 m 0) → q (sI (sI H10 1331 m 0 (0 : Int32)) 1330 m 0 (1 : Int32)) r3) ∧ (¬ ((hI (sI (sI H10 1331 m 0 (0 : Int32)) 1330 m 0 (1 : Int32)) 1323 m 0) ≤ (hI (sI (sI H10 1331 m 0 (0 : Int32)) 1330 m 0 (1 : Int32)) 1324 m 0)) → CV d 0 0 mX12_fails [rv (some m)] (sI (sI H10 1331 m 0 (0 : Int32)) 1330 m 0 (1 : Int32)) (fun H12 => q H12 r3))) ∧ (¬ (0 ≤ (hI (sI (sI H10 1331 m 0 (0 : Int32)) 1330 m 0 (1 : Int32)) 1325 m 0)) → CI d 0 0 mX12_here [rv (some m)] (sI (sI H10 1331 m 0 (0 : Int32)) 1330 m 0 (1 : Int32)) (fun H13 r14 => (r14 = (43 : Int32) → tg H13 m = 13 ∧ (CI d 0 0 mX12_here [rv (some m)] H13 (fun H15 r17 => (¬ r17 = (43 : Int32) → wb_X12_defined_94 d q m r3 (some m) (-1 : Int32) H15) ∧ (r17 = (43 : Int32) → wb_X12_defined_94 d q m r3 (some m) (1 : Int32) H15)))) ∧ (¬ (r14 = (43 : Int32)) → tg H13 m = 13 ∧ (CI d 0 0 mX12_here [rv (some m)] H13 (fun H18 r20 => (¬ r20 = (45 : Int32) → tg H18 m = 13 ∧ (((hI H18 1323 m 0) ≤ (hI H18 1324 m 0) → q H18 r3) ∧ (¬ ((hI H18 1323 m 0) ≤ (hI H18 1324 m 0)) → CV d 0 0 mX12_fails [rv (some m)] H18 (fun H22 => q H22 r3)))) ∧ (r20 = (45 : Int32) → tg H18 m = 13 ∧ (CI d 0 0 mX12_here [rv (some m)] H18 (fun H23 r25 => (¬ r25 = (43 : Int32) → wb_X12_defined_94 d q m r3 (some m) (-1 : Int32) H23) ∧ (r25 = (43 : Int32) → wb_X12_defined_94 d q m r3 (some m) (1 : Int32) H23))))))))))
abbrev OfS (m : Nat) : Nat → Nat → Prop := fun g x => (g = 1324 ∨ g = 1325 ∨ g = 1329 ∨ g = 1330 ∨ g = 1331) ∧ x = m
theorem K_dnum {d m p : Nat} {T : TP} {q : HP → Int32 → Prop} {H : HP} (h : MT H m T p (-1)) (h1 : ∀ v p1, dNum T p = .inr (v, p1) → q (atM H m p1 (-1)) (Int32.ofNat v)) (h0 : ∀ f r, dNum T p = .inl f → q (atM H m f (Int32.ofNat f)) r) : CI (d + 3) 0 0 mX12_figures [rv (some m), .int (6 : Int32)] H q := by
  have n6 := numb6 (T := T) (p := p)
  refine K_figures (d := d) (k0 := 6) (Nat.le_refl _) h (fun k => absurd k (by decide)) (fun _ => ?_)
  by_cases hb : run isFig T 6 p = 0 ∨ isFig (lk T (p + run isFig T 6 p)) = true
  · rw [if_pos hb]
    exact h0 _ _ (by unfold dNum; rw [if_pos hb])
  · rw [if_neg hb]
    have := h1 (numb T 6 p 0).toInt.toNat (p + run isFig T 6 p) (by unfold dNum; rw [if_neg hb])
    have en : numb T 6 p 0 = Int32.ofNat (numb T 6 p 0).toInt.toNat := iN_inj (by omega) (by omega)
    rw [← en] at this; exact this
theorem K_dbelow {d m p : Nat} {T : TP} {q : HP → Int32 → Prop} {H : HP} (h : MT H m T p (-1)) (h1 : lk T p = 47 → ∀ v p1, dNum T (p + 1) = .inr (v, p1) → q (atM H m p1 (-1)) (Int32.ofNat v)) (h0 : lk T p = 47 → ∀ f r, dNum T (p + 1) = .inl f → q (atM H m f (Int32.ofNat f)) r) (hn : lk T p ≠ 47 → q H 1) : CI (d + 4) 0 0 mX12_below [rv (some m)] H q := by
  have n6 := numb6 (T := T) (p := p + 1)
  refine K_below (d := d) h (fun k => ?_) (fun _ h47 => ?_)
  · rcases k with k | k
    · exact absurd k (by decide)
    · exact hn k
  · by_cases hb : run isFig T 6 (p + 1) = 0 ∨ isFig (lk T (p + 1 + run isFig T 6 (p + 1))) = true
    · rw [if_pos hb]
      exact h0 h47 _ _ (by unfold dNum; rw [if_pos hb])
    · rw [if_neg hb]
      have := h1 h47 (numb T 6 (p + 1) 0).toInt.toNat (p + 1 + run isFig T 6 (p + 1)) (by unfold dNum; rw [if_neg hb])
      have en : numb T 6 (p + 1) 0 = Int32.ofNat (numb T 6 (p + 1) 0).toInt.toNat := iN_inj (by omega) (by omega)
      rw [← en] at this; exact this
/-- below, when there is a fault already -/
theorem K_dbelowF {d m p : Nat} {T : TP} {q : HP → Int32 → Prop} {H : HP} {f : Int32} (h : MT H m T p f) (hf : 0 ≤ f.toInt) (hn : q H 1) : CI (d + 4) 0 0 mX12_below [rv (some m)] H q := K_below (d := d) h (fun _ => hn) (fun k _ => by omega)
theorem defd_end {d m p : Nat} {T : TP} {q : HP → Int32 → Prop} {H : HP} {f r : Int32} (h : MT H m T p f) (h1 : f = -1 → T.1 ≤ p → q H r) (h0 : f = -1 → p < T.1 → q (atM H m p (Int32.ofNat p)) r) (hx : 0 ≤ f.toInt → q H r) (hf : f = -1 ∨ 0 ≤ f.toInt) : ((hI H 1323 m 0) ≤ (hI H 1324 m 0) → q H r) ∧ (¬ ((hI H 1323 m 0) ≤ (hI H 1324 m 0)) → CV (d + 1) 0 0 mX12_fails [rv (some m)] H (fun H22 => q H22 r)) := by
  have hT60 := h.2.2.1
  have hp := h.2.2.2.2.1
  rw [h.2.1, h.2.2.2.1, iN_le (by omega) (by omega)]
  refine ⟨fun k => ?_, fun k => K_fails (d := d) h ?_⟩
  · rcases hf with hf | hf
    · exact h1 hf k
    · exact hx hf
  · rcases hf with hf | hf
    · unfold flt
      rw [if_pos (by rw [hf]; decide)]
      exact h0 hf (by omega)
    · unfold flt
      rw [if_neg (by omega), atM_same h]
      exact hx hf
theorem DfK_fault {d m p : Nat} {T : TP} {q : HP → Int32 → Prop} {H : HP} {f r : Int32} (h : MT H m T p f) (hf : 0 ≤ f.toInt) (hx : ∀ H', Fr (OfS m) H H' → MT H' m T p f → q H' r) : DfK (d + 1) q m r H := by
  unfold DfK
  have FX : Fr (OfS m) H (sI (sI H 1331 m 0 (0 : Int32)) 1330 m 0 (1 : Int32)) := (Fr_sI ⟨by omega, rfl⟩).tr (Fr_sI ⟨by omega, rfl⟩)
  have mX : MT (sI (sI H 1331 m 0 (0 : Int32)) 1330 m 0 (1 : Int32)) m T p f := by
    have F2 : Fr (fun g x => (g = 1330 ∨ g = 1331) ∧ x = m) H (sI (sI H 1331 m 0 (0 : Int32)) 1330 m 0 (1 : Int32)) := (Fr_sI ⟨Or.inr rfl, rfl⟩).tr (Fr_sI ⟨Or.inl rfl, rfl⟩)
    exact fr_MT F2 (fun k => by omega) (fun k => by omega) (fun k => by omega) (fun k => by omega) h
  generalize sI (sI H 1331 m 0 (0 : Int32)) 1330 m 0 (1 : Int32) = X at FX mX ⊢
  refine ⟨h.1.1, fun _ => defd_end (d := d) mX (fun k => (by rw [k] at hf; exact absurd hf (by decide))) (fun k => (by rw [k] at hf; exact absurd hf (by decide))) (fun _ => hx X FX mX) (Or.inr hf), fun k => ?_⟩
  rw [mX.2.2.2.2.2.1, i32_le, i32_0] at k
  exact absurd hf k
def MOf (H : HP) (m : Nat) (o : Option (Bool × Nat × Nat)) : Prop := match o with
  | none => hI H 1331 m 0 = 0 ∧ hI H 1330 m 0 = 1
  | some s => hI H 1331 m 0 = sgO s ∧ hI H 1329 m 0 = Int32.ofNat s.2.1 ∧ hI H 1330 m 0 = Int32.ofNat s.2.2
theorem defd94 {d m p : Nat} {T : TP} {q : HP → Int32 → Prop} {H : HP} {r s1 : Int32} (h : MT H m T p (-1)) (hs : lk T p = 43 ∧ s1 = 1 ∨ lk T p = 45 ∧ s1 = -1)
    (h1 : ∀ o, dOff T p = .inr o → ∀ H' p', Fr (OfS m) H H' → MT H' m T p' (-1) → MOf H' m o → q H' r)
    (h0 : ∀ f, dOff T p = .inl f → ∀ H' p', Fr (OfS m) H H' → MT H' m T p' (Int32.ofNat f) → q H' r) : wb_X12_defined_94 (d + 4) q m r (some m) s1 H := by
  have hT60 := h.2.2.1
  have hlt : p < T.1 := by rcases hs with ⟨k, -⟩ | ⟨k, -⟩ <;> exact lk_lt k (by decide)
  have hoff : dOff T p = (match dRat T (p + 1) with
      | .inl f => .inl f
      | .inr (u, l, p2) => if p2 < T.1 then .inl p2 else .inr (some (decide (lk T p = 45), u, l))) := by
    unfold dOff
    rw [if_pos (hs.elim (fun k => Or.inl k.1) (fun k => Or.inr k.1))]
    rcases dRat T (p + 1) with f | ⟨u, l, p2⟩ <;> rfl
  have hsg : ∀ u l : Nat, s1 = sgO (decide (lk T p = 45), u, l) := fun u l => by
    unfold sgO
    rcases hs with ⟨k, e⟩ | ⟨k, e⟩
    · rw [k, e]; rfl
    · rw [k, e]; rfl
  unfold wb_X12_defined_94
  have FA : Fr (fun g x => g = 1331 ∧ x = m) H (sI H 1331 m 0 s1) := Fr_sI ⟨rfl, rfl⟩
  have vA : hI (sI H 1331 m 0 s1) 1331 m 0 = s1 := by rw [hIs_i, if_pos rfl]
  refine ⟨m, rfl, h.1.1, ?_⟩
  generalize sI H 1331 m 0 s1 = A at FA vA ⊢
  have mA : MT A m T p (-1) := fr_MT FA (fun k => by omega) (fun k => by omega) (fun k => by omega) (fun k => by omega) h
  rw [mA.inc]
  have FB : Fr (AtS m) A (atM A m (p + 1) (-1)) := Fr_atM
  have mB : MT (atM A m (p + 1) (-1)) m T (p + 1) (-1) := mA.at hlt
  generalize atM A m (p + 1) (-1) = B at FB mB ⊢
  have FHB : Fr (OfS m) H B := (FA.mono fun g x k => ⟨by omega, k.2⟩).tr (FB.mono fun g x k => ⟨by omega, k.2⟩)
  have vB : hI B 1331 m 0 = s1 := by rw [FB.2.2.2.2.1 _ _ (fun k => by omega)]; exact vA
  -- behind the first number
  have last : ∀ (X : HP) (u l p3 : Nat), dRat T (p + 1) = .inr (u, l, p3) → Fr (OfS m) H X → MT X m T p3 (-1) → hI X 1331 m 0 = s1 → hI X 1329 m 0 = Int32.ofNat u → tg X m = 13 ∧ (((hI (sI X 1330 m 0 (Int32.ofNat l)) 1323 m 0) ≤ (hI (sI X 1330 m 0 (Int32.ofNat l)) 1324 m 0) → q (sI X 1330 m 0 (Int32.ofNat l)) r) ∧ (¬ ((hI (sI X 1330 m 0 (Int32.ofNat l)) 1323 m 0) ≤ (hI (sI X 1330 m 0 (Int32.ofNat l)) 1324 m 0)) → CV (d + 4) 0 0 mX12_fails [rv (some m)] (sI X 1330 m 0 (Int32.ofNat l)) (fun H10 => q H10 r))) := by
    intro X u l p3 hr FX mX k1 k2
    rw [hr] at hoff
    simp only at hoff
    have FY : Fr (fun g x => g = 1330 ∧ x = m) X (sI X 1330 m 0 (Int32.ofNat l)) := Fr_sI ⟨rfl, rfl⟩
    have vY : hI (sI X 1330 m 0 (Int32.ofNat l)) 1330 m 0 = Int32.ofNat l := by rw [hIs_i, if_pos rfl]
    refine ⟨mX.1.1, ?_⟩
    generalize sI X 1330 m 0 (Int32.ofNat l) = Y at FY vY ⊢
    have mY : MT Y m T p3 (-1) := fr_MT FY (fun k => by omega) (fun k => by omega) (fun k => by omega) (fun k => by omega) mX
    have FHY : Fr (OfS m) H Y := FX.tr (FY.mono fun g x k => ⟨by omega, k.2⟩)
    refine defd_end (d := d + 3) mY (fun _ hp => ?_) (fun _ hp => ?_) (fun k => absurd k (by decide)) (Or.inl rfl)
    · rw [if_neg (by omega)] at hoff
      refine h1 _ hoff Y p3 FHY mY ⟨?_, ?_, vY⟩
      · rw [FY.2.2.2.2.1 _ _ (fun k => by omega), k1]; exact hsg u l
      · rw [FY.2.2.2.2.1 _ _ (fun k => by omega)]; exact k2
    · rw [if_pos hp] at hoff
      exact h0 p3 hoff _ p3 (FHY.tr (Fr_atM.mono fun g x k => ⟨by omega, k.2⟩)) (mY.at (by omega))
  have lastF : ∀ (X : HP) (f p3 : Nat) (l : Int32), dRat T (p + 1) = .inl f → Fr (OfS m) H X → MT X m T p3 (Int32.ofNat f) → f ≤ 60 → tg X m = 13 ∧ (((hI (sI X 1330 m 0 l) 1323 m 0) ≤ (hI (sI X 1330 m 0 l) 1324 m 0) → q (sI X 1330 m 0 l) r) ∧ (¬ ((hI (sI X 1330 m 0 l) 1323 m 0) ≤ (hI (sI X 1330 m 0 l) 1324 m 0)) → CV (d + 4) 0 0 mX12_fails [rv (some m)] (sI X 1330 m 0 l) (fun H10 => q H10 r))) := by
    intro X f p3 l hr FX mX hf
    rw [hr] at hoff
    have FY : Fr (fun g x => g = 1330 ∧ x = m) X (sI X 1330 m 0 l) := Fr_sI ⟨rfl, rfl⟩
    refine ⟨mX.1.1, ?_⟩
    generalize sI X 1330 m 0 l = Y at FY ⊢
    have mY : MT Y m T p3 (Int32.ofNat f) := fr_MT FY (fun k => by omega) (fun k => by omega) (fun k => by omega) (fun k => by omega) mX
    have FHY : Fr (OfS m) H Y := FX.tr (FY.mono fun g x k => ⟨by omega, k.2⟩)
    have hfi := iN_toInt (n := f) (by omega)
    have hne : Int32.ofNat f ≠ -1 := fun k => by
      have := congrArg Int32.toInt k
      rw [hfi, i32_m1] at this; omega
    exact defd_end (d := d + 3) mY (fun k => absurd k hne) (fun k => absurd k hne) (fun _ => h0 f hoff Y p3 FHY mY) (Or.inr (by omega))
  obtain ⟨dn1, dn2⟩ := dNum_in (T := T) (p := p + 1) hlt
  refine ⟨mA.1.1, ?_⟩
  refine K_dnum (d := d + 1) mB (fun u p2 hu => ?_) (fun f rr hf => ?_)
  · obtain ⟨e1, e2, e3, -⟩ := dn2 u p2 hu
    have FC : Fr (AtS m) B (atM B m p2 (-1)) := Fr_atM
    have mC : MT (atM B m p2 (-1)) m T p2 (-1) := mB.at e2
    generalize atM B m p2 (-1) = C at FC mC ⊢
    have FD : Fr (fun g x => g = 1329 ∧ x = m) C (sI C 1329 m 0 (Int32.ofNat u)) := Fr_sI ⟨rfl, rfl⟩
    have vD : hI (sI C 1329 m 0 (Int32.ofNat u)) 1329 m 0 = Int32.ofNat u := by rw [hIs_i, if_pos rfl]
    refine ⟨mC.1.1, ?_⟩
    generalize sI C 1329 m 0 (Int32.ofNat u) = D at FD vD ⊢
    have mD : MT D m T p2 (-1) := fr_MT FD (fun k => by omega) (fun k => by omega) (fun k => by omega) (fun k => by omega) mC
    have FHD : Fr (OfS m) H D := FHB.tr ((FC.mono fun g x k => ⟨by omega, k.2⟩).tr (FD.mono fun g x k => ⟨by omega, k.2⟩))
    have wD : hI D 1331 m 0 = s1 := by rw [FD.2.2.2.2.1 _ _ (fun k => by omega), FC.2.2.2.2.1 _ _ (fun k => by omega)]; exact vB
    have hrat : dRat T (p + 1) = (if lk T p2 = 47 then (match dNum T (p2 + 1) with
        | .inl f => .inl f
        | .inr (l, p3) => .inr (u, l, p3)) else .inr (u, 1, p2)) := by
      unfold dRat
      rw [hu]
      simp only
      split
      · rcases dNum T (p2 + 1) with f | ⟨l, p3⟩ <;> rfl
      · rfl
    refine K_dbelow (d := d) mD (fun h47 l p3 hl => ?_) (fun h47 f rr hf => ?_) (fun h47 => ?_)
    · rw [if_pos h47, hl] at hrat
      have hlt2 := lk_lt h47 (by decide)
      obtain ⟨g1, g2, g3, -⟩ := (dNum_in (T := T) (p := p2 + 1) hlt2).2 l p3 hl
      have FE : Fr (AtS m) D (atM D m p3 (-1)) := Fr_atM
      refine last _ u l p3 hrat (FHD.tr (FE.mono fun g x k => ⟨by omega, k.2⟩)) (mD.at g2) ?_ ?_
      · rw [FE.2.2.2.2.1 _ _ (fun k => by omega)]; exact wD
      · rw [FE.2.2.2.2.1 _ _ (fun k => by omega)]; exact vD
    · rw [if_pos h47, hf] at hrat
      have hlt2 := lk_lt h47 (by decide)
      have hfin := (dNum_in (T := T) (p := p2 + 1) hlt2).1 f hf
      have FE : Fr (AtS m) D (atM D m f (Int32.ofNat f)) := Fr_atM
      exact lastF _ f f rr hrat (FHD.tr (FE.mono fun g x k => ⟨by omega, k.2⟩)) (mD.at hfin.2) (by omega)
    · rw [if_neg h47] at hrat
      exact last D u 1 p2 hrat FHD mD wD vD
  · have hrat : dRat T (p + 1) = .inl f := by unfold dRat; rw [hf]
    have hfin := dn1 f hf
    have FC : Fr (AtS m) B (atM B m f (Int32.ofNat f)) := Fr_atM
    have mC : MT (atM B m f (Int32.ofNat f)) m T f (Int32.ofNat f) := mB.at hfin.2
    generalize atM B m f (Int32.ofNat f) = C at FC mC ⊢
    have FD : Fr (fun g x => g = 1329 ∧ x = m) C (sI C 1329 m 0 rr) := Fr_sI ⟨rfl, rfl⟩
    refine ⟨mC.1.1, ?_⟩
    generalize sI C 1329 m 0 rr = D at FD ⊢
    have mD : MT D m T f (Int32.ofNat f) := fr_MT FD (fun k => by omega) (fun k => by omega) (fun k => by omega) (fun k => by omega) mC
    have FHD : Fr (OfS m) H D := FHB.tr ((FC.mono fun g x k => ⟨by omega, k.2⟩).tr (FD.mono fun g x k => ⟨by omega, k.2⟩))
    have hfi := iN_toInt (n := f) (by omega)
    exact K_dbelowF (d := d) mD (by omega) (lastF D f f 1 hrat FHD mD (by omega))
theorem DfK_ok {d m p : Nat} {T : TP} {q : HP → Int32 → Prop} {H : HP} {r : Int32} (h : MT H m T p (-1))
    (h1 : ∀ o, dOff T p = .inr o → ∀ H' p', Fr (OfS m) H H' → MT H' m T p' (-1) → MOf H' m o → q H' r)
    (h0 : ∀ f, dOff T p = .inl f → ∀ H' p', Fr (OfS m) H H' → MT H' m T p' (Int32.ofNat f) → q H' r) : DfK (d + 4) q m r H := by
  unfold DfK
  have FX : Fr (OfS m) H (sI (sI H 1331 m 0 (0 : Int32)) 1330 m 0 (1 : Int32)) := (Fr_sI ⟨by omega, rfl⟩).tr (Fr_sI ⟨by omega, rfl⟩)
  have mX : MT (sI (sI H 1331 m 0 (0 : Int32)) 1330 m 0 (1 : Int32)) m T p (-1) := by
    have F2 : Fr (fun g x => (g = 1330 ∨ g = 1331) ∧ x = m) H (sI (sI H 1331 m 0 (0 : Int32)) 1330 m 0 (1 : Int32)) := (Fr_sI ⟨Or.inr rfl, rfl⟩).tr (Fr_sI ⟨Or.inl rfl, rfl⟩)
    exact fr_MT F2 (fun k => by omega) (fun k => by omega) (fun k => by omega) (fun k => by omega) h
  have v1 : hI (sI (sI H 1331 m 0 (0 : Int32)) 1330 m 0 (1 : Int32)) 1331 m 0 = 0 := by rw [hIs_g _ _ _ _ _ _ (by decide), hIs_i, if_pos rfl]
  have v2 : hI (sI (sI H 1331 m 0 (0 : Int32)) 1330 m 0 (1 : Int32)) 1330 m 0 = 1 := by rw [hIs_i, if_pos rfl]
  generalize sI (sI H 1331 m 0 (0 : Int32)) 1330 m 0 (1 : Int32) = X at FX mX v1 v2 ⊢
  refine ⟨h.1.1, fun k => ?_, fun _ => ?_⟩
  · rw [mX.2.2.2.2.2.1] at k; exact absurd k (by decide)
  · have go : ∀ s1 : Int32, (lk T p = 43 ∧ s1 = 1 ∨ lk T p = 45 ∧ s1 = -1) → wb_X12_defined_94 (d + 4) q m r (some m) s1 X := fun s1 hs => defd94 (d := d) mX hs (fun o ho H' p' F' m' o' => h1 o ho H' p' (FX.tr F') m' o') (fun f hf H' p' F' m' => h0 f hf H' p' (FX.tr F') m')
    refine K_here (d := d + 3) mX ⟨fun h43 => ⟨mX.1.1, K_here (d := d + 3) mX ⟨fun k => absurd h43 k, fun _ => go 1 (Or.inl ⟨h43, rfl⟩)⟩⟩, fun h43 => ⟨mX.1.1, K_here (d := d + 3) mX ⟨fun h45 => ⟨mX.1.1, ?_⟩, fun h45 => ⟨mX.1.1, K_here (d := d + 3) mX ⟨fun _ => go (-1) (Or.inr ⟨h45, rfl⟩), fun k => absurd k h43⟩⟩⟩⟩⟩
    have hoff : dOff T p = (if p < T.1 then .inl p else .inr none) := by
      unfold dOff
      rw [if_neg (fun k => k.elim h43 h45)]
    refine defd_end (d := d + 3) mX (fun _ hp => ?_) (fun _ hp => ?_) (fun k => absurd k (by decide)) (Or.inl rfl)
    · rw [if_neg (by omega)] at hoff
      exact h1 none hoff X p FX mX ⟨v1, v2⟩
    · rw [if_pos hp] at hoff
      exact h0 p hoff _ p (FX.tr (Fr_atM.mono fun g x k => ⟨by omega, k.2⟩)) (mX.at (by omega))
