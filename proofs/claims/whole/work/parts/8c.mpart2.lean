
/-! ===== the reference: a part of any kind ===== -/
theorem sub_one {n : Nat} (h : n < 100) : Int32.ofNat (n + 1) - 1 = Int32.ofNat n := by
  refine i32_ext ?_
  rw [i32_subx] <;> rw [iN_toInt (by omega), i32_1]
  · rw [iN_toInt (by omega)]; omega
  · omega
  · omega
theorem K_mpart {d m nu deep : Nat} {T : TP} {U : Nat → UV} {does : Bool} {S : Option (Nat → PS → PRes)} (hok : ∀ i, okU (U i)) (hdp : deep ≤ 4) (hS0 : S = none → deep = 4) (hS1 : ∀ s, S = some s → deep < 4 ∧ PInv T s ∧ SMsum (d + 6) m nu (deep + 1) T U does s) : SMpart (d + 7) m nu deep T U does (pPart S T) := by
  intro H p st q hT hm hd h26 hJ ok hle hq
  have em1 : (-1 : Int32).toInt = -1 := rfl
  have hp := hT.2.2.2.2.1
  have hT60 := hT.2.2.1
  refine C_X12_part ?_
  unfold wb_X12_part_0
  have F0 : Fr (Rd0 m) H (sI H 1349 m 0 (0 : Int32)) := part_bare
  have F0' : Fr (fun g y => g = 1349 ∧ y = m) H (sI H 1349 m 0 (0 : Int32)) := Fr_sI ⟨rfl, rfl⟩
  have t0 := fr_MT F0' (fun k => by omega) (fun k => by omega) (fun k => by omega) (fun k => by omega) hT
  have b0 : hI (sI H 1349 m 0 (0 : Int32)) 1349 m 0 = 0 := by rw [hIs_i, if_pos rfl]
  generalize sI H 1349 m 0 (0 : Int32) = K at F0 F0' t0 b0 ⊢
  have mK := Rd_MU F0 hm
  have kd : hI K 1338 m 0 = bI does := by rw [F0.2.2.2.2.1 _ _ (fun k => by omega)]; exact hd
  have kw : hI K 1342 m 0 = hI H 1342 m 0 := by rw [F0.2.2.2.2.1 _ _ (fun k => by omega)]
  have k26 : hI K 1326 m 0 = Int32.ofNat deep := by rw [F0.2.2.2.2.1 _ _ (fun k => by omega)]; exact h26
  have hns : (does && decide (hI H 1342 m 0 = 0)) = true → st.1 < 64 ∧ hI K 1341 m 0 = Int32.ofNat st.1 := fun c => by
    rw [Bool.and_eq_true] at c
    have J0 := hJ c.1
    have hz : (jA (wF T nu U) U st st.1).1 = 0 := by rw [← J0.2.1]; exact of_decide_eq_true c.2
    refine ⟨by omega, ?_⟩
    rw [F0.2.2.2.2.1 _ _ (fun k => by omega), J0.1, (jA_held st.1).2 hz]
  rw [t0.2.2.2.2.2.1]
  refine ⟨hT.1.1, fun _ => K_here (d := d + 5) t0 ⟨fun c => ⟨t0.1.1, K_misFigure (d := d + 4) t0 ⟨fun c2 => ⟨t0.1.1, ?_⟩, fun c2 => ⟨t0.1.1, ?_⟩⟩⟩, fun c => ⟨t0.1.1, fun c4 => ?_, fun c4 => ?_⟩⟩, fun h => absurd (show (-1 : Int32) < 0 by decide) h⟩
  · have hres : pPart S T p st = (match pAtom T p with
        | .inl f => .inl f
        | .inr (p1, R) => .inr (p1, pushS st (0, 0, 0, false, R))) := by
      unfold pPart
      rw [if_neg c]
      rcases pAtom T p with f | ⟨p1, R⟩ <;> rfl
    refine part_name t0 c2 mK hok kd kw hns fun H' r hn => hq H' r ?_
    rw [hres]
    have := NO_MRs hp hok ok F0 hJ hn
    rcases hpa : pAtom T p with f | ⟨p1, R⟩
    · rw [hpa] at this; exact this
    · rw [hpa] at this; exact this
  · have hres : pPart S T p st = (match pAtom T p with
        | .inl f => .inl f
        | .inr (p1, R) => .inr (p1, pushS st (0, 0, 0, false, R))) := by
      unfold pPart
      rw [if_neg c]
      rcases pAtom T p with f | ⟨p1, R⟩ <;> rfl
    have hnum : pNumd T p = pAtom T p := by unfold pAtom; rw [if_pos c2]
    refine K_numbered t0 c2 mK hok kd kw hns b0 fun H' r hn => hq H' r ?_
    rw [hnum] at hn
    rw [hres]
    have := NO_MRs hp hok ok F0 hJ hn
    rcases hpa : pAtom T p with f | ⟨p1, R⟩
    · rw [hpa] at this; exact this
    · rw [hpa] at this; exact this
  · -- ( and not too deep
    have hd4 : deep ≠ 4 := fun k => c4 (by rw [k26, k]; rfl)
    cases hS : S with
    | none => exact absurd (hS0 hS) hd4
    | some s =>
      obtain ⟨hlt4, hPI, hsum⟩ := hS1 s hS
      have hlt : p < T.1 := lk_lt c (by decide)
      have FD : Fr (fun g y => g = 1326 ∧ y = m) K (sI K 1326 m 0 (hI K 1326 m 0 + 1)) := Fr_sI ⟨rfl, rfl⟩
      have tD := fr_MT FD (fun k => by omega) (fun k => by omega) (fun k => by omega) (fun k => by omega) t0
      rw [k26, iN_inc (by omega)] at FD tD ⊢
      have kD : hI (sI K 1326 m 0 (Int32.ofNat (deep + 1))) 1326 m 0 = Int32.ofNat (deep + 1) := by rw [hIs_i, if_pos rfl]
      rw [tD.inc]
      generalize sI K 1326 m 0 (Int32.ofNat (deep + 1)) = D at FD tD kD ⊢
      have tE : MT (atM D m (p + 1) (-1)) m T (p + 1) (-1) := tD.at hlt
      have FJ : ∀ g x, Rd0 m g x → RdJ m does g x := fun g x k => Or.inl k
      have FE : Fr (RdJ m does) H (atM D m (p + 1) (-1)) := (F0.mono FJ).tr ((FD.mono fun g x k => Or.inr (Or.inl k)).tr (Fr_atM.mono fun g x k => Or.inl (at_Rd k)))
      have FE' : Fr (fun g x => (g = 1324 ∨ g = 1325 ∨ g = 1326 ∨ g = 1349) ∧ x = m) H (atM D m (p + 1) (-1)) := (F0'.mono fun g x k => ⟨by omega, k.2⟩).tr ((FD.mono fun g x k => ⟨by omega, k.2⟩).tr (Fr_atM.mono fun g x k => ⟨by omega, k.2⟩))
      have kE : hI (atM D m (p + 1) (-1)) 1326 m 0 = Int32.ofNat (deep + 1) := by rw [Fr_atM.2.2.2.2.1 _ _ (fun k => by omega)]; exact kD
      generalize atM D m (p + 1) (-1) = E at tE FE FE' kE ⊢
      refine hsum E (p + 1) st _ tE (fr_MU FE' (fun k => by omega) (fun g a k1 k2 k3 => by omega) hm) (by rw [FE'.2.2.2.2.1 _ _ (fun k => by omega)]; exact hd) kE (fun hdo => fr_JH FE' (fun g k1 k2 => by omega) (fun k => by omega) (fun k => by omega) (fun k => by omega) (fun k => by omega) (fun i _ => rfl) (hJ hdo)) ok (by omega) fun H' r hres => ?_
      have hpp : pPart (some s) T p st = (match s (p + 1) st with
          | .inl f => .inl f
          | .inr (p1, st1) => if lk T p1 = 41 then .inr (p1 + 1, enclS st1) else .inl p1) := by
        unfold pPart
        rw [if_pos c]
        simp only
        rcases s (p + 1) st with f | ⟨p1, st1⟩ <;> rfl
      rw [hS] at hq
      -- the fields behind )
      have after : ∀ (L : HP) (pL : Nat) (fL : Int32), MT L m T pL fL → Fr (fun g x => ((g = 1326 ∨ g = 1349) ∧ x = m)) L (sI (sI L 1326 m 0 ((hI L 1326 m 0) - (1 : Int32))) 1349 m 0 (0 : Int32)) ∧ MT (sI (sI L 1326 m 0 ((hI L 1326 m 0) - (1 : Int32))) 1349 m 0 (0 : Int32)) m T pL fL := fun L pL fL tL => by
        have F1 : Fr (fun g x => ((g = 1326 ∨ g = 1349) ∧ x = m)) L (sI (sI L 1326 m 0 ((hI L 1326 m 0) - (1 : Int32))) 1349 m 0 (0 : Int32)) := (Fr_sI ⟨Or.inl rfl, rfl⟩).tr (Fr_sI ⟨Or.inr rfl, rfl⟩)
        exact ⟨F1, fr_MT F1 (fun k => by omega) (fun k => by omega) (fun k => by omega) (fun k => by omega) tL⟩
      have aJ : ∀ g x, ((g = 1326 ∨ g = 1349) ∧ x = m) → RdJ m does g x := fun g x k => by
        rcases k.1 with k1 | k1
        · exact Or.inr (Or.inl ⟨k1, k.2⟩)
        · exact Or.inl (Or.inl ⟨by omega, k.2⟩)
      rcases hres with ⟨ff, e, F1, t1⟩ | ⟨p1, st1, e, F1, t1, h1, hj⟩
      · rw [e] at hpp
        refine ⟨t1.1.1, K_must (d := d + 4) t1 (fun _ => ⟨t1.1.1, ?_⟩) (fun k => ?_) (fun k => ?_)⟩
        · obtain ⟨F2, t2⟩ := after H' ff _ t1
          exact hq _ _ (Or.inl ⟨ff, hpp, FE.tr (F1.tr (F2.mono aJ)), t2⟩)
        · exfalso
          have := t1.2.2.2.2.1
          rw [iN_toInt (by omega)] at k; omega
        · exfalso
          have := t1.2.2.2.2.1
          rw [iN_toInt (by omega)] at k; omega
      · rw [e] at hpp
        simp only at hpp
        obtain ⟨v1, v2⟩ := hPI (p + 1) st hlt ok
        obtain ⟨w1, w2, w3, w4, w5, w6⟩ := v2 p1 st1 e
        refine ⟨t1.1.1, K_must (d := d + 4) t1 (fun k => by rw [em1] at k; omega) (fun _ c5 => ⟨t1.1.1, ?_⟩) (fun _ c5 => ⟨t1.1.1, ?_⟩)⟩
        · rw [if_pos c5] at hpp
          have hlt1 : p1 < T.1 := lk_lt c5 (by decide)
          have tL : MT (atM H' m (p1 + 1) (-1)) m T (p1 + 1) (-1) := t1.at hlt1
          have FL : Fr (AtS m) H' (atM H' m (p1 + 1) (-1)) := Fr_atM
          have kL : hI (atM H' m (p1 + 1) (-1)) 1326 m 0 = Int32.ofNat (deep + 1) := by rw [FL.2.2.2.2.1 _ _ (fun k => by omega), h1]; exact kE
          generalize atM H' m (p1 + 1) (-1) = L at tL FL kL ⊢
          obtain ⟨F2, t2⟩ := after L (p1 + 1) _ tL
          rw [kL, sub_one (by omega)] at F2 t2 ⊢
          have FF : Fr (fun g x => (g = 1324 ∨ g = 1325 ∨ g = 1326 ∨ g = 1349) ∧ x = m) H' (sI (sI L 1326 m 0 (Int32.ofNat deep)) 1349 m 0 (0 : Int32)) := (FL.mono fun g x k => ⟨by omega, k.2⟩).tr (F2.mono fun g x k => ⟨by omega, k.2⟩)
          refine hq _ _ (Or.inr ⟨p1 + 1, enclS st1, hpp, FE.tr (F1.tr ((FL.mono fun g x k => Or.inl (at_Rd k)).tr (F2.mono aJ))), t2, ?_, fun hdo => ?_⟩)
          · rw [hIs_g _ _ _ _ _ _ (by decide), hIs_i, if_pos rfl, h26]
          · obtain ⟨j1, j2⟩ := hj hdo
            rw [jA_encl w6 (by omega)]
            refine ⟨fr_JH FF (fun g k1 k2 => by omega) (fun k => by omega) (fun k => by omega) (fun k => by omega) (fun k => by omega) (fun i _ => ?_) j1, fun k => ⟨(j2 k).1, fun _ => ?_⟩⟩
            · show (if i + 1 = st1.1 then enclR (st1.2 i) else st1.2 i).1 = (st1.2 i).1
              split <;> rfl
            · have el : (enclS st1).2 ((enclS st1).1 - 1) = enclR (st1.2 (st1.1 - 1)) := by
                show (if st1.1 - 1 + 1 = st1.1 then enclR (st1.2 (st1.1 - 1)) else st1.2 (st1.1 - 1)) = _
                rw [if_pos (by omega)]
              rw [hIs_i, if_pos rfl, el]
              unfold bareR
              show (0 : Int32) = bI (shR _ U _ && !true)
              rw [Bool.not_true, Bool.and_false]; rfl
        · rw [if_neg c5] at hpp
          have tL : MT (atM H' m p1 (Int32.ofNat p1)) m T p1 (Int32.ofNat p1) := t1.at w2
          obtain ⟨F2, t2⟩ := after _ p1 _ tL
          exact hq _ _ (Or.inl ⟨p1, hpp, FE.tr (F1.tr ((Fr_atM.mono fun g x k => Or.inl (at_Rd k)).tr (F2.mono aJ))), t2⟩)
  · -- ( too deep
    have hd4 : deep = 4 := by
      have := congrArg Int32.toInt (k26.symm.trans c4)
      have e4 : (4 : Int32).toInt = 4 := rfl
      rw [iN_toInt (by omega), e4] at this
      omega
    have hSn : S = none := by
      cases hS : S with
      | none => rfl
      | some s => have := (hS1 s hS).1; omega
    have hpp : pPart S T p st = .inl p := by
      rw [hSn]
      unfold pPart
      rw [if_pos c]
    refine K_fails (d := d + 5) t0 ?_
    have ef : flt (-1) p = Int32.ofNat p := by unfold flt; rw [if_pos (by decide)]
    rw [ef]
    exact hq _ _ (Or.inl ⟨p, hpp, (F0.mono fun g x k => Or.inl k).tr (Fr_atM.mono fun g x k => Or.inl (at_Rd k)), t0.at hp⟩)
