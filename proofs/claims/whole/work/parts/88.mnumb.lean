
/-! ===== the reference: a number with its measures ===== -/
abbrev Rd0 (m : Nat) : Nat → Nat → Prop := fun g a => ((g = 1324 ∨ g = 1325 ∨ g = 1349 ∨ g = 1352) ∧ a = m) ∨ (g = 5027 ∧ a = m + 25) ∨ (g = 5040 ∧ a = m + 26)
theorem at_Rd {m g a : Nat} (k : AtS m g a) : Rd0 m g a := by
  obtain ⟨k1, k2⟩ := k
  exact Or.inl ⟨by omega, k2⟩
/-- what the reading of a part's number or name has come to -/
def NO (H : HP) (m : Nat) (T : TP) (F : Nat → Nat → Option Nat) (U : Nat → UV) (go : Bool) (ns : Nat) (res : Nat ⊕ (Nat × PRow)) (H' : HP) (r : Int32) : Prop :=
  (∃ ff, res = .inl ff ∧ Fr (Rd0 m) H H' ∧ MT H' m T ff (Int32.ofNat ff)) ∨ (∃ p1 R, res = .inr (p1, R) ∧ MT H' m T p1 (-1) ∧ ((go = false ∧ Fr (Rd0 m) H H') ∨ (go = true ∧ ∃ H1, Fr (Rd0 m) H H1 ∧ MJO H1 m ns 0 (jAtom F U R) H' r ∧ ((∃ v, jAtom F U R = .inr v) → hI H' 1349 m 0 = bI (decide (R.1 = 1) && offU (uR F U R 0))))))
theorem MjS_MT {H H' : HP} {m p : Nat} {T : TP} {f : Int32} (h : Fr (MjS m) H H') (s : MT H m T p f) : MT H' m T p f := fr_MT h (fun k => by omega) (fun k => by omega) (fun k => by omega) (fun k => by omega) s
theorem Rd_MU {H H' : HP} {m n : Nat} {U : Nat → UV} (h : Fr (Rd0 m) H H') (s : MU H m n U) : MU H' m n U := fr_MU h (fun k => by omega) (fun g a k1 k2 k3 => by omega) s
theorem mm_eq {F : Nat → Nat → Option Nat} {U : Nat → UV} {R : PRow} (h : 2 ≤ R.1) : mmR R.1 (fR F R) U R.2.1 = jAtom F U R := by
  unfold mmR jAtom
  by_cases ha : allU F R
  · rw [if_pos ha, if_pos ha, if_neg (by omega), if_neg (by omega)]; rfl
  · rw [if_neg ha, if_neg ha]
theorem numbered_fault {d : Nat} {q : HP → Int32 → Prop} {H : HP} {m : Nat} {does : Bool} {w f : Int32} (ht : tg H m = 13) (hf : hI H 1325 m 0 = f) (h0 : 0 ≤ f.toInt) (hd : hI H 1338 m 0 = bI does) (hw : hI H 1342 m 0 = w) (hq : q H (-1)) : L_X12_numbered_142 (d + 1) q m H := by
  refine T_X12_numbered_142 ?_
  unfold wb_X12_numbered_142
  rw [hf, i32_le, i32_0]
  exact ⟨ht, fun _ => K_goesOn ht hd hw ⟨fun _ => hq, fun _ => ⟨ht, fun _ => hq, fun k => absurd (show (0 : Int32) ≤ hI H 1325 m 0 by rw [hf, i32_le, i32_0]; exact h0) k⟩⟩, fun k => absurd h0 k⟩
theorem MMx_set {H : HP} {m i nu : Nat} {F : Nat → Nat → Option Nat} {R : PRow} {v : Int64} {x : Int32} {th fr len : Nat} (s : MMx H m i nu (fR F R) R.2.1) (hi : i < 4) (hR : R.1 = i) (hv : v.toInt = th) (hx : (F fr len = none ∧ x = -1) ∨ ∃ j, j < nu ∧ F fr len = some j ∧ x = Int32.ofNat j) (H' : HP) (e1 : hI H' 1352 m 0 = Int32.ofNat (i + 1)) (e2 : ∀ j, hL H' 5027 (m + 25) j = if j = i then v else hL H 5027 (m + 25) j) (e3 : ∀ j, hI H' 5040 (m + 26) j = if j = i then x else hI H 5040 (m + 26) j) : MMx H' m (i + 1) nu (fR F (setP R i th fr len)) (setP R i th fr len).2.1 := by
  refine ⟨e1, by omega, fun j hj => ?_⟩
  rw [e2, e3]
  by_cases e : j = i
  · subst e
    have a1 : (setP R j th fr len).2.1 j = th := by show putC R.2.1 j th j = th; unfold putC; rw [if_pos rfl]
    have a2 : fR F (setP R j th fr len) j = F fr len := by
      show F (putC R.2.2.1 j fr j) (putC R.2.2.2.1 j len j) = _
      unfold putC; rw [if_pos rfl, if_pos rfl]
    rw [if_pos rfl, if_pos rfl, a1, a2]
    exact ⟨hv, hx⟩
  · have a1 : (setP R i th fr len).2.1 j = R.2.1 j := by show putC R.2.1 i th j = _; unfold putC; rw [if_neg e]
    have a2 : fR F (setP R i th fr len) j = fR F R j := by
      show F (putC R.2.2.1 i fr j) (putC R.2.2.2.1 i len j) = _
      unfold putC; rw [if_neg e, if_neg e]; rfl
    rw [if_neg e, if_neg e, a1, a2]
    exact s.2.2 j (by omega)
theorem numbered_loop {d : Nat} {q : HP → Int32 → Prop} {H0 : HP} {m ns nu : Nat} {T : TP} {U : Nat → UV} {does : Bool} {w : Int32} {res : Nat ⊕ (Nat × PRow)} (hm0 : MU H0 m nu U) (hok : ∀ i, okU (U i)) (hd : hI H0 1338 m 0 = bI does) (hw : hI H0 1342 m 0 = w) (hns : (does && decide (w = 0)) = true → ns < 64 ∧ hI H0 1341 m 0 = Int32.ofNat ns) (hb : hI H0 1349 m 0 = 0) (hq : ∀ H' r, NO H0 m T (wF T nu U) U (does && decide (w = 0)) ns res H' r → q H' r) : ∀ (k i p : Nat) (R : PRow) (H : HP), k + i = 4 → 1 ≤ i → R.1 = i → okP T R → R.2.2.2.2 = 1 → (2 ≤ i ∨ isFig (lk T p) = true) → Fr (Rd0 m) H0 H → hI H 1349 m 0 = 0 → MT H m T p (-1) → MMx H m i nu (fR (wF T nu U) R) R.2.1 → pMix T k i p R = res → L_X12_numbered_142 (d + 5) q m H := by
  have e4 : (4 : Int32) = Int32.ofNat 4 := rfl
  have em1 : (-1 : Int32).toInt = -1 := rfl
  -- the end of the row of measures
  have fin : ∀ (H : HP) (p : Nat) (R : PRow), 2 ≤ R.1 → okP T R → Fr (Rd0 m) H0 H → hI H 1349 m 0 = 0 → MT H m T p (-1) → MMx H m R.1 nu (fR (wF T nu U) R) R.2.1 → res = .inr (p, R) → CZ (d + 5) 0 0 mX12_goesOn [rv (some m)] H (fun H9 b11 => (b11 = false → q H9 (-1 : Int32)) ∧ (b11 = true → tg H9 m = 13 ∧ ((0 ≤ (hI H9 1325 m 0) → q H9 (-1 : Int32)) ∧ (¬ (0 ≤ (hI H9 1325 m 0)) → CI (d + 5) 0 0 mX12_mixed [rv (some m)] H9 (fun H13 r14 => q H13 r14))))) := fun H p R h2 ok hF hb' hT hx hres => by
    have kd : hI H 1338 m 0 = bI does := by rw [hF.2.2.2.2.1 _ _ (fun k => by omega)]; exact hd
    have kw : hI H 1342 m 0 = w := by rw [hF.2.2.2.2.1 _ _ (fun k => by omega)]; exact hw
    refine K_goesOn (d := d + 4) hT.1.1 kd kw ⟨fun c => hq _ _ (Or.inr ⟨p, R, hres, hT, Or.inl ⟨c, hF⟩⟩), fun c => ⟨hT.1.1, fun k => ?_, fun _ => ?_⟩⟩
    · rw [hT.2.2.2.2.2.1, i32_le, i32_0, em1] at k; omega
    · obtain ⟨n1, n2⟩ := hns c
      have ks : hI H 1341 m 0 = Int32.ofNat ns := by rw [hF.2.2.2.2.1 _ _ (fun k => by omega)]; exact n2
      refine K_mixed (Rd_MU hF hm0) hok ok.2.2.2.1 hx (by omega) n1 ks fun H' r hJ => ?_
      rw [mm_eq h2] at hJ
      refine hq _ _ (Or.inr ⟨p, R, hres, MjS_MT hJ.1 hT, Or.inr ⟨c, H, hF, hJ, fun _ => ?_⟩⟩)
      have : decide (R.1 = 1) = false := decide_eq_false (by omega)
      rw [this, hJ.1.2.2.2.2.1 _ _ (fun k => by omega)]
      exact hb'
  intro k
  induction k with
  | zero =>
    intro i p R H hi h1i hR ok hg h2 hF hb' hT hx hres
    refine T_X12_numbered_142 ?_
    unfold wb_X12_numbered_142
    rw [hT.2.2.2.2.2.1]
    have hres' : res = .inr (p, R) := hres.symm
    have hx' : MMx H m R.1 nu (fR (wF T nu U) R) R.2.1 := by rw [hR]; exact hx
    refine ⟨hT.1.1, fun k => absurd k (by decide), fun _ => K_misFigure (d := d + 3) hT ⟨fun _ => ⟨hT.1.1, fin H p R (by omega) ok hF hb' hT hx' hres'⟩, fun _ => ⟨hT.1.1, fun _ => fin H p R (by omega) ok hF hb' hT hx' hres', fun h => ?_⟩⟩⟩
    rw [hx.1, e4, iN_le (by omega) (by omega)] at h
    omega
  | succ k ih =>
    intro i p R H hi h1i hR ok hg h2 hF hb' hT hx hres
    refine T_X12_numbered_142 ?_
    unfold wb_X12_numbered_142
    rw [hT.2.2.2.2.2.1]
    have hp := hT.2.2.2.2.1
    have hT60 := hT.2.2.1
    refine ⟨hT.1.1, fun k => absurd k (by decide), fun _ => K_misFigure (d := d + 3) hT ⟨fun c => ⟨hT.1.1, ?_⟩, fun c => ⟨hT.1.1, fun h => (by rw [hx.1, e4, iN_le (by omega) (by omega)] at h; omega), fun _ => ?_⟩⟩⟩
    · have hres' : res = .inr (p, R) := by
        unfold pMix at hres
        rw [if_neg (by rw [c]; decide)] at hres
        exact hres.symm
      have hx' : MMx H m R.1 nu (fR (wF T nu U) R) R.2.1 := by rw [hR]; exact hx
      have h2' : 2 ≤ R.1 := by
        rcases h2 with h | h
        · omega
        · rw [h] at c; cases c
      exact fin H p R h2' ok hF hb' hT hx' hres'
    · unfold pMix at hres
      rw [if_pos c] at hres
      rw [hx.1]
      have pa := pAmt_in hp c
      refine K_amount (d := d + 1) hT (by decide) c (fun ff ha v => ?_) (fun th p1 ha v hv => ?_)
      · -- a fault in the number
        rw [ha] at hres
        have hff := (pa.1 ff ha).2
        have tA : MT (atM H m ff (Int32.ofNat ff)) m T ff (Int32.ofNat ff) := hT.at hff
        have FA : Fr (Rd0 m) H0 (atM H m ff (Int32.ofNat ff)) := hF.tr (Fr_atM.mono fun g x k => at_Rd k)
        obtain ⟨n1, n2, n3, n4⟩ := mA_number tA.1
        obtain ⟨u1, u2, u3, u4⟩ := mA_unitOf tA.1
        have vp4 : vp_in (Int32.ofNat i) 4 := vpi_of (by omega) (by decide)
        refine ⟨m + 25, n1, n2, by rw [n4]; exact vp4, tA.1.1, ?_⟩
        rw [n3, iN_cl (by omega)]
        have k52 : hI (sL (atM H m ff (Int32.ofNat ff)) 5027 (m + 25) i v) 1352 m 0 = Int32.ofNat i := by
          show hI (atM H m ff (Int32.ofNat ff)) 1352 m 0 = _
          rw [Fr_atM.2.2.2.2.1 _ _ (fun k => by omega)]; exact hx.1
        have k25 : hI (sL (atM H m ff (Int32.ofNat ff)) 5027 (m + 25) i v) 1325 m 0 = Int32.ofNat ff := tA.2.2.2.2.2.1
        have nn : 0 ≤ (Int32.ofNat ff).toInt := by rw [iN_toInt (by omega)]; omega
        rw [k25, i32_le, i32_0]
        refine ⟨fun _ => ⟨m + 26, u1, u2, by rw [k52]; show vp_in _ (ln (atM H m ff (Int32.ofNat ff)) (m + 26)); rw [u4]; exact vp4, fun H30 e30 => ?_⟩, fun h => absurd nn h⟩
        have F30 : Fr (Rd0 m) (atM H m ff (Int32.ofNat ff)) H30 := by
          rw [← e30]
          have t26 : tg (sL (atM H m ff (Int32.ofNat ff)) 5027 (m + 25) i v) (m + 26) = 5040 := u3
          rw [t26]
          exact (Fr_sL (Or.inr (Or.inl ⟨rfl, rfl⟩))).tr (Fr_sI (Or.inr (Or.inr ⟨rfl, rfl⟩)))
        have F31 : Fr (Rd0 m) H30 (sI H30 1352 m 0 ((hI H30 1352 m 0) + (1 : Int32))) := Fr_sI (Or.inl ⟨by omega, rfl⟩)
        have FF := FA.tr (F30.tr F31)
        have tF : MT (sI H30 1352 m 0 ((hI H30 1352 m 0) + (1 : Int32))) m T ff (Int32.ofNat ff) := by
          have t30 : MT H30 m T ff (Int32.ofNat ff) := by
            have Fx : Fr (fun g x => (g = 5027 ∧ x = m + 25) ∨ (g = 5040 ∧ x = m + 26)) (atM H m ff (Int32.ofNat ff)) H30 := by
              rw [← e30]
              have t26 : tg (sL (atM H m ff (Int32.ofNat ff)) 5027 (m + 25) i v) (m + 26) = 5040 := u3
              rw [t26]
              exact (Fr_sL (Or.inl ⟨rfl, rfl⟩)).tr (Fr_sI (Or.inr ⟨rfl, rfl⟩))
            exact fr_MT Fx (fun k => by omega) (fun k => by omega) (fun k => by omega) (fun k => by omega) tA
          have Fy : Fr (fun g x => g = 1352 ∧ x = m) H30 (sI H30 1352 m 0 ((hI H30 1352 m 0) + (1 : Int32))) := Fr_sI ⟨rfl, rfl⟩
          exact fr_MT Fy (fun k => by omega) (fun k => by omega) (fun k => by omega) (fun k => by omega) t30
        refine numbered_fault (d := d + 4) (does := does) (w := w) tF.1.1 tF.2.2.2.2.2.1 nn ?_ ?_ (hq _ _ (Or.inl ⟨ff, hres.symm, FF, tF⟩))
        · rw [FF.2.2.2.2.1 _ _ (fun k => by omega)]; exact hd
        · rw [FF.2.2.2.2.1 _ _ (fun k => by omega)]; exact hw
      · rw [ha] at hres
        simp only at hres
        obtain ⟨b1, b2, b3⟩ := pa.2 th p1 ha
        have tA : MT (atM H m p1 (-1)) m T p1 (-1) := hT.at b3
        have FA : Fr (Rd0 m) H0 (atM H m p1 (-1)) := hF.tr (Fr_atM.mono fun g x k => at_Rd k)
        obtain ⟨n1, n2, n3, n4⟩ := mA_number tA.1
        have vp4 : vp_in (Int32.ofNat i) 4 := vpi_of (by omega) (by decide)
        refine ⟨m + 25, n1, n2, by rw [n4]; exact vp4, tA.1.1, ?_⟩
        rw [n3, iN_cl (by omega)]
        have FS0 : Fr (fun g x => g = 5027 ∧ x = m + 25) (atM H m p1 (-1)) (sL (atM H m p1 (-1)) 5027 (m + 25) i v) := Fr_sL ⟨rfl, rfl⟩
        have FS : Fr (Rd0 m) H0 (sL (atM H m p1 (-1)) 5027 (m + 25) i v) := FA.tr (FS0.mono fun g x k => Or.inr (Or.inl k))
        have tS := fr_MT FS0 (fun k => by omega) (fun k => by omega) (fun k => by omega) (fun k => by omega) tA
        have k52 : hI (sL (atM H m p1 (-1)) 5027 (m + 25) i v) 1352 m 0 = Int32.ofNat i := by
          show hI (atM H m p1 (-1)) 1352 m 0 = _
          rw [Fr_atM.2.2.2.2.1 _ _ (fun k => by omega)]; exact hx.1
        have l5 : ∀ j, hL (sL (atM H m p1 (-1)) 5027 (m + 25) i v) 5027 (m + 25) j = if j = i then v else hL H 5027 (m + 25) j := fun j => by
          rw [hL_sL, u3_get]
          by_cases e : j = i
          · rw [if_pos ⟨rfl, rfl, e⟩, if_pos e]
          · rw [if_neg (fun k => e k.2.2), if_neg e]; rfl
        have x5 : ∀ j, hI (sL (atM H m p1 (-1)) 5027 (m + 25) i v) 5040 (m + 26) j = hI H 5040 (m + 26) j := fun j => by
          show hI (atM H m p1 (-1)) 5040 (m + 26) j = _
          rw [Fr_atM.2.2.2.2.1 _ _ (fun k => by omega)]
        have b9 : hI (sL (atM H m p1 (-1)) 5027 (m + 25) i v) 1349 m 0 = 0 := by
          show hI (atM H m p1 (-1)) 1349 m 0 = _
          rw [Fr_atM.2.2.2.2.1 _ _ (fun k => by omega)]; exact hb'
        generalize sL (atM H m p1 (-1)) 5027 (m + 25) i v = S at FS tS k52 l5 x5 b9 ⊢
        have last : ∀ (K : HP) (x f' : Int32) (p' : Nat), Fr (AtS m) S K → MT K m T p' f' → isA K (m + 26) 0 ∧ vp_in (Int32.ofNat i) (ln K (m + 26)) ∧ tg (sI K (tg K (m + 26)) (m + 26) i x) m = 13 ∧ ∀ H41, (sI (sI K (tg K (m + 26)) (m + 26) i x) 1352 m 0 ((hI (sI K (tg K (m + 26)) (m + 26) i x) 1352 m 0) + (1 : Int32))) = H41 → Fr (Rd0 m) H0 H41 ∧ MT H41 m T p' f' ∧ hI H41 1352 m 0 = Int32.ofNat (i + 1) ∧ (∀ j, hL H41 5027 (m + 25) j = if j = i then v else hL H 5027 (m + 25) j) ∧ (∀ j, hI H41 5040 (m + 26) j = if j = i then x else hI H 5040 (m + 26) j) ∧ hI H41 1349 m 0 = 0 := fun K x f' p' FK tK => by
          obtain ⟨u1, u2, u3, u4⟩ := mA_unitOf tK.1
          refine ⟨u2, by rw [u4]; exact vp4, tK.1.1, fun H41 e41 => ?_⟩
          rw [u3] at e41
          have kk : hI (sI K 5040 (m + 26) i x) 1352 m 0 = Int32.ofNat i := by
            rw [hIs_g _ _ _ _ _ _ (by decide), FK.2.2.2.2.1 _ _ (fun k => by omega)]; exact k52
          rw [kk, iN_inc (by omega)] at e41
          have F1 : Fr (fun g y => (g = 5040 ∧ y = m + 26) ∨ (g = 1352 ∧ y = m)) K H41 := by
            rw [← e41]
            exact (Fr_sI (Or.inl ⟨rfl, rfl⟩)).tr (Fr_sI (Or.inr ⟨rfl, rfl⟩))
          refine ⟨FS.tr ((FK.mono fun g y k => at_Rd k).tr (F1.mono fun g y k => by rcases k with k | k; exact Or.inr (Or.inr k); exact Or.inl ⟨by omega, k.2⟩)), fr_MT F1 (fun k => by omega) (fun k => by omega) (fun k => by omega) (fun k => by omega) tK, ?_, fun j => ?_, fun j => ?_, ?_⟩
          · rw [← e41, hIs_i, if_pos rfl]
          · rw [F1.2.2.2.2.2.1 _ _ (fun k => by omega), FK.2.2.2.2.2.1 _ _ (fun k => by omega)]; exact l5 j
          · rw [← e41, hIs_g _ _ _ _ _ _ (by decide), hIs_i]
            by_cases e : j = i
            · rw [if_pos e, if_pos e]
            · rw [if_neg e, if_neg e, FK.2.2.2.2.1 _ _ (fun k => by omega)]; exact x5 j
          · rw [F1.2.2.2.2.1 _ _ (fun k => by omega), FK.2.2.2.2.1 _ _ (fun k => by omega)]; exact b9
        obtain ⟨u1, u2, u3, u4⟩ := mA_unitOf tS.1
        rw [tS.2.2.2.2.2.1]
        refine ⟨fun h => absurd h (by decide), fun _ => K_unit (d := d + 1) tS (by decide) (Rd_MU FS hm0) hok (fun ff hn => ⟨m + 26, u1, ?_⟩) (fun l hn => ⟨m + 26, u1, ?_⟩)⟩
        · rw [hn] at hres
          have hff := (pNam_in b3).1 ff hn
          have tB := tS.at (p' := ff) (f' := Int32.ofNat ff) hff
          rw [k52, iN_cl (by omega)]
          obtain ⟨w1, w2, w3, w4⟩ := last _ (-1) _ _ Fr_atM tB
          refine ⟨w1, w2, w3, fun H41 e41 => ?_⟩
          obtain ⟨y1, y2, -⟩ := w4 H41 e41
          have nn : 0 ≤ (Int32.ofNat ff).toInt := by rw [iN_toInt (by omega)]; omega
          refine numbered_fault (d := d + 4) (does := does) (w := w) y2.1.1 y2.2.2.2.2.2.1 nn ?_ ?_ (hq _ _ (Or.inl ⟨ff, hres.symm, y1, y2⟩))
          · rw [y1.2.2.2.2.1 _ _ (fun k => by omega)]; exact hd
          · rw [y1.2.2.2.2.1 _ _ (fun k => by omega)]; exact hw
        · rw [hn] at hres
          simp only at hres
          obtain ⟨d1, d2, d3, -⟩ := (pNam_in b3).2 l hn
          have tB := tS.at (p' := p1 + l) (f' := -1) d3
          rw [k52, iN_cl (by omega)]
          obtain ⟨w1, w2, w3, w4⟩ := last _ (whoF (fun i => nmEq (U i) T p1 l) nu 0) _ _ Fr_atM tB
          refine ⟨w1, w2, w3, fun H41 e41 => ?_⟩
          obtain ⟨y1, y2, y3, y4, y5, y6⟩ := w4 H41 e41
          refine ih (i + 1) (p1 + l) (setP R i th p1 l) H41 (by omega) (by omega) (by show i + 1 = i + 1; rfl) (okP_set ok (by omega) hR b1 (by omega) d2 hg) hg (Or.inl (by omega)) y1 y6 y2 (MMx_set hx (by omega) hR hv ?_ H41 y3 y4 y5) hres
          rcases wF_cases (T := T) (n := nu) (U := U) (fr := p1) (many := l) hm0.2.2.1 with ⟨g1, g2⟩ | ⟨j, g0, g1, g2⟩
          · exact Or.inl ⟨g1, g2⟩
          · exact Or.inr ⟨j, g0, g1, g2⟩
