
/-! ===== the reference: numbered ===== -/
theorem single_eq {F : Nat → Nat → Option Nat} {U : Nat → UV} {R : PRow} (h : R.1 = 1) : jAtom F U R = (match fR F R 0 with
    | none => .inl (-8)
    | some j => jSingle (U j) R.2.2.2.2 (R.2.1 0)) := by
  unfold jAtom
  cases hf : fR F R 0 with
  | none =>
    have : ¬ allU F R := fun k => by
      have := k 0 (by omega)
      rw [hf] at this; cases this
    rw [if_neg this]
  | some j =>
    have : allU F R := fun i hi => by
      have : i = 0 := by omega
      rw [this, hf]; rfl
    rw [if_pos this, if_neg (by omega), if_pos h]
    unfold uR
    rw [hf]; rfl
theorem single_end {d : Nat} {q : HP → Int32 → Prop} {H0 H : HP} {m ns nu p1 : Nat} {T : TP} {U : Nat → UV} {does b : Bool} {w x : Int32} {v : Int64} {R : PRow} {res : Nat ⊕ (Nat × PRow)} (hm0 : MU H0 m nu U) (hok : ∀ i, okU (U i)) (hd : hI H0 1338 m 0 = bI does) (hw : hI H0 1342 m 0 = w) (hns : (does && decide (w = 0)) = true → ns < 64 ∧ hI H0 1341 m 0 = Int32.ofNat ns) (hF : Fr (Rd0 m) H0 H) (hT : MT H m T p1 (-1)) (hR : R.1 = 1) (ok : okP T R) (hv : v.toInt = R.2.1 0) (hx : (fR (wF T nu U) R 0 = none ∧ x = -1) ∨ ∃ j, j < nu ∧ fR (wF T nu U) R 0 = some j ∧ x = Int32.ofNat j) (hb : ∀ j, fR (wF T nu U) R 0 = some j → b = offU (U j)) (hres : res = .inr (p1, R)) (hq : ∀ H' r, NO H0 m T (wF T nu U) U (does && decide (w = 0)) ns res H' r → q H' r) {q' : HP → Bool → Prop} (hk : ∀ K, MT K m T p1 (-1) → ((does && decide (w = 0)) = false → q K (-1)) → ((does && decide (w = 0)) = true → CI (d + 5) 0 0 mX12_measured [rv (some m), .long v, .int x, .int (Int32.ofNat R.2.2.2.2)] K (fun H7 r9 => q H7 r9)) → q' K (does && decide (w = 0))) : CZ (d + 5) 0 0 mX12_goesOn [rv (some m)] (sI H 1349 m 0 (bI b)) q' := by
  have F1 : Fr (fun g y => g = 1349 ∧ y = m) H (sI H 1349 m 0 (bI b)) := Fr_sI ⟨rfl, rfl⟩
  have F2 : Fr (Rd0 m) H0 (sI H 1349 m 0 (bI b)) := hF.tr (F1.mono fun g y k => Or.inl ⟨by omega, k.2⟩)
  have tK := fr_MT F1 (fun k => by omega) (fun k => by omega) (fun k => by omega) (fun k => by omega) hT
  have kb : hI (sI H 1349 m 0 (bI b)) 1349 m 0 = bI b := by rw [hIs_i, if_pos rfl]
  generalize sI H 1349 m 0 (bI b) = K at F2 tK kb ⊢
  have kd : hI K 1338 m 0 = bI does := by rw [F2.2.2.2.2.1 _ _ (fun k => by omega)]; exact hd
  have kw : hI K 1342 m 0 = w := by rw [F2.2.2.2.2.1 _ _ (fun k => by omega)]; exact hw
  refine K_goesOn (d := d + 4) tK.1.1 kd kw (hk K tK (fun c => hq _ _ (Or.inr ⟨p1, R, hres, tK, Or.inl ⟨c, F2⟩⟩)) fun c => ?_)
  obtain ⟨n1, n2⟩ := hns c
  have ks : hI K 1341 m 0 = Int32.ofNat ns := by rw [F2.2.2.2.2.1 _ _ (fun k => by omega)]; exact n2
  refine K_measured (th := R.2.1 0) (Rd_MU F2 hm0) hok n1 ks hv (ok.2.2.2.1 0) ⟨ok.2.1, ok.2.2.1⟩ hx fun H' r hJ => ?_
  have hJ' : MJO K m ns 0 (jAtom (wF T nu U) U R) H' r := by
    rw [single_eq hR]
    cases hf : fR (wF T nu U) R 0 with
    | none => rw [hf] at hJ; exact hJ
    | some j => rw [hf] at hJ; exact hJ
  refine hq _ _ (Or.inr ⟨p1, R, hres, MjS_MT hJ'.1 tK, Or.inr ⟨c, K, F2, hJ', fun hv => ?_⟩⟩)
  obtain ⟨v', hv⟩ := hv
  rw [single_eq hR] at hv
  have e1 : decide (R.1 = 1) = true := decide_eq_true hR
  rw [e1, hJ'.1.2.2.2.2.1 _ _ (fun k => by omega), kb]
  cases hf : fR (wF T nu U) R 0 with
  | none => rw [hf] at hv; cases hv
  | some j =>
    have hu : uR (wF T nu U) U R 0 = U j := by unfold uR; rw [hf]; rfl
    rw [hu, hb j hf]; rfl
theorem K_numbered {d : Nat} {q : HP → Int32 → Prop} {H : HP} {m ns nu p : Nat} {T : TP} {U : Nat → UV} {does : Bool} {w : Int32} (hT : MT H m T p (-1)) (hfig : isFig (lk T p) = true) (hm0 : MU H m nu U) (hok : ∀ i, okU (U i)) (hd : hI H 1338 m 0 = bI does) (hw : hI H 1342 m 0 = w) (hns : (does && decide (w = 0)) = true → ns < 64 ∧ hI H 1341 m 0 = Int32.ofNat ns) (hb : hI H 1349 m 0 = 0) (hq : ∀ H' r, NO H m T (wF T nu U) U (does && decide (w = 0)) ns (pNumd T p) H' r → q H' r) : CI (d + 6) 0 0 mX12_numbered [rv (some m)] H q := by
  have em1 : (-1 : Int32).toInt = -1 := rfl
  have hp := hT.2.2.2.2.1
  have hT60 := hT.2.2.1
  have pa := pAmt_in hp hfig
  refine C_X12_numbered ?_
  unfold wb_X12_numbered_0
  have F0 : Fr (fun g y => g = 1352 ∧ y = m) H (sI H 1352 m 0 (0 : Int32)) := Fr_sI ⟨rfl, rfl⟩
  have R0 : Fr (Rd0 m) H (sI H 1352 m 0 (0 : Int32)) := F0.mono fun g y k => Or.inl ⟨by omega, k.2⟩
  have b0 : hI (sI H 1352 m 0 (0 : Int32)) 1349 m 0 = 0 := by rw [F0.2.2.2.2.1 _ _ (fun k => by omega)]; exact hb
  have t0 := fr_MT F0 (fun k => by omega) (fun k => by omega) (fun k => by omega) (fun k => by omega) hT
  generalize sI H 1352 m 0 (0 : Int32) = H1 at R0 t0 b0 ⊢
  have keep : ∀ K, Fr (Rd0 m) H K → hI K 1338 m 0 = bI does ∧ hI K 1342 m 0 = w := fun K FK => ⟨by rw [FK.2.2.2.2.1 _ _ (fun k => by omega)]; exact hd, by rw [FK.2.2.2.2.1 _ _ (fun k => by omega)]; exact hw⟩
  refine ⟨hT.1.1, K_amount (d := d + 1) t0 (by decide) hfig (fun ff ha v => ?_) (fun th p1 ha v hv => ?_)⟩
  · have hff := (pa.1 ff ha).2
    have tA : MT (atM H1 m ff (Int32.ofNat ff)) m T ff (Int32.ofNat ff) := t0.at hff
    have FA : Fr (Rd0 m) H (atM H1 m ff (Int32.ofNat ff)) := R0.tr (Fr_atM.mono fun g x k => at_Rd k)
    have nn : (0 : Int32) ≤ Int32.ofNat ff := by rw [i32_le, i32_0, iN_toInt (by omega)]; omega
    have hres : pNumd T p = .inl ff := by unfold pNumd; rw [ha]
    obtain ⟨k1, k2⟩ := keep _ FA
    rw [tA.2.2.2.2.2.1]
    refine ⟨tA.1.1, fun _ => K_goesOn (d := d + 4) tA.1.1 k1 k2 ⟨fun _ => hq _ _ (Or.inl ⟨ff, hres, FA, tA⟩), fun _ => ⟨tA.1.1, fun _ => hq _ _ (Or.inl ⟨ff, hres, FA, tA⟩), fun h => absurd ?_ h⟩⟩, fun h => absurd nn h⟩
    rw [tA.2.2.2.2.2.1]; exact nn
  · obtain ⟨b1, b2, b3⟩ := pa.2 th p1 ha
    have tA : MT (atM H1 m p1 (-1)) m T p1 (-1) := t0.at b3
    have FA : Fr (Rd0 m) H (atM H1 m p1 (-1)) := R0.tr (Fr_atM.mono fun g x k => at_Rd k)
    have bA : hI (atM H1 m p1 (-1)) 1349 m 0 = 0 := by rw [Fr_atM.2.2.2.2.1 _ _ (fun k => by omega)]; exact b0
    rw [tA.2.2.2.2.2.1]
    refine ⟨tA.1.1, fun h => absurd h (by decide), fun _ => K_misLetter (d := d + 3) tA ⟨fun c => ⟨tA.1.1, ?_⟩, fun c => ⟨tA.1.1, ?_⟩⟩⟩
    · -- a name
      have hpn : pNumd T p = (match pNam T p1 with
          | .inl f => .inl f
          | .inr l => if pOwn T (p1 + l) = true then .inr (p1 + l + 1, figP (setP pR0 0 th p1 l) (figN T (p1 + l))) else pMix T 3 1 (p1 + l) (setP pR0 0 th p1 l)) := by
        unfold pNumd
        rw [ha]
        simp only
        rw [if_pos c]
        cases pNam T p1 <;> rfl
      refine K_unit (d := d + 1) tA (by decide) (Rd_MU FA hm0) hok (fun ff hn => ?_) (fun l hn => ?_)
      · rw [hn] at hpn
        have hff := (pNam_in b3).1 ff hn
        have tB : MT (atM (atM H1 m p1 (-1)) m ff (Int32.ofNat ff)) m T ff (Int32.ofNat ff) := tA.at hff
        rw [tB.2.2.2.2.2.1]
        have nn : ¬ Int32.ofNat ff < 0 := by rw [i32_lt, i32_0, iN_toInt (by omega)]; omega
        exact ⟨tB.1.1, fun h => absurd h nn, fun _ => hq _ _ (Or.inl ⟨ff, hpn, FA.tr (Fr_atM.mono fun g x k => at_Rd k), tB⟩)⟩
      · rw [hn] at hpn
        simp only at hpn
        obtain ⟨d1, d2, d3, -⟩ := (pNam_in b3).2 l hn
        have tB : MT (atM (atM H1 m p1 (-1)) m (p1 + l) (-1)) m T (p1 + l) (-1) := tA.at d3
        have FB : Fr (Rd0 m) H (atM (atM H1 m p1 (-1)) m (p1 + l) (-1)) := FA.tr (Fr_atM.mono fun g x k => at_Rd k)
        have bB : hI (atM (atM H1 m p1 (-1)) m (p1 + l) (-1)) 1349 m 0 = 0 := by rw [Fr_atM.2.2.2.2.1 _ _ (fun k => by omega)]; exact bA
        have ok1 : okP T (setP pR0 0 th p1 l) := okP_set okP_0 (by decide) rfl b1 (by omega) d2 rfl
        generalize atM (atM H1 m p1 (-1)) m (p1 + l) (-1) = B at tB FB bB ⊢
        have hx := wF_cases (T := T) (n := nu) (U := U) (fr := p1) (many := l) hm0.2.2.1
        generalize whoF (fun i => nmEq (U i) T p1 l) nu 0 = x at hx ⊢
        have hn20 := hm0.2.2.1
        have tail : ∀ (K : HP) (R : PRow) (p2 : Nat), Fr (Rd0 m) H K → MT K m T p2 (-1) → R.1 = 1 → okP T R → R.2.1 0 = th → fR (wF T nu U) R 0 = wF T nu U p1 l → pNumd T p = .inr (p2, R) → (x < 0 → wb_X12_numbered_100 (d + 5) q m v x (Int32.ofNat R.2.2.2.2) (some m) (0 : Int32) K) ∧ (¬ (x < 0) → tg K m = 13 ∧ (CZ (d + 5) 0 0 mX12_hasOffset [rv (some m), .int x] K (fun H21 b23 => (b23 = false → wb_X12_numbered_100 (d + 5) q m v x (Int32.ofNat R.2.2.2.2) (some m) (0 : Int32) H21) ∧ (b23 = true → wb_X12_numbered_100 (d + 5) q m v x (Int32.ofNat R.2.2.2.2) (some m) (1 : Int32) H21)))) := fun K R p2 FK tK hR ok hth hfr hres => by
          have fin : ∀ b : Bool, (∀ j, fR (wF T nu U) R 0 = some j → b = offU (U j)) → wb_X12_numbered_100 (d + 5) q m v x (Int32.ofNat R.2.2.2.2) (some m) (bI b) K := fun b hb' => by
            unfold wb_X12_numbered_100
            refine ⟨m, rfl, tK.1.1, by cases b; exact Or.inl rfl; exact Or.inr rfl, tK.1.1, single_end hm0 hok hd hw hns FK tK hR ok (by rw [hth]; exact hv) (by rw [hfr]; exact hx) hb' hres hq fun K' tK' g0 g1 => ⟨g0, fun c => ⟨tK'.1.1, g1 c⟩⟩⟩
          rcases hx with ⟨w1, w2⟩ | ⟨j, w0, w1, w2⟩
          · rw [w2]
            rw [w2] at fin
            exact ⟨fun _ => fin false (fun j hj => by rw [hfr, w1] at hj; cases hj), fun h => absurd (by decide) h⟩
          · rw [w2]
            rw [w2] at fin
            refine ⟨fun h => absurd h (by rw [i32_lt, i32_0, iN_toInt (by omega)]; omega), fun _ => ⟨tK.1.1, K_mhasOffset (d := d + 4) tK.1 (by omega) ((Rd_MU FK hm0).2.2.2 j w0) ?_⟩⟩
            have fo := fin (offU (U j)) (fun j' hj => by
              rw [hfr, w1] at hj
              injection hj with hj
              rw [hj])
            exact ⟨fun c => by rw [c] at fo; exact fo, fun c => by rw [c] at fo; exact fo⟩
        have th0 : (setP pR0 0 th p1 l).2.1 0 = th := by
          show putC pR0.2.1 0 th 0 = th
          unfold putC; rw [if_pos rfl]
        have fr0 : fR (wF T nu U) (setP pR0 0 th p1 l) 0 = wF T nu U p1 l := by
          show wF T nu U (putC pR0.2.2.1 0 p1 0) (putC pR0.2.2.2.1 0 l 0) = _
          unfold putC; rw [if_pos rfl, if_pos rfl]
        rw [tB.2.2.2.2.2.1]
        refine ⟨tB.1.1, fun _ => K_isOwn (d := d + 3) tB ⟨fun c2 => ⟨tB.1.1, ?_⟩, fun c2 => ⟨tB.1.1, K_misFigure (d := d + 3) tB ⟨fun c3 => ⟨tB.1.1, ?_⟩, fun c3 => ⟨tB.1.1, ?_⟩⟩⟩⟩, fun h => absurd (show (-1 : Int32) < 0 by decide) h⟩
        · -- an own figure
          rw [if_pos c2] at hpn
          have hpw : isPow (lk T (p1 + l)) = true := by
            unfold pOwn at c2
            rw [Bool.and_eq_true, Bool.and_eq_true, Bool.and_eq_true] at c2
            exact c2.1.1.1
          obtain ⟨q1, q2, q3, q4⟩ := pow_lt' hpw
          refine K_figure (d := d + 3) tB (fun h => ?_) (fun _ _ => ?_)
          · rcases h with h | h
            · rw [em1] at h; omega
            · rw [h] at hpw; cases hpw
          · rw [q4]
            exact tail _ (figP (setP pR0 0 th p1 l) (figN T (p1 + l))) (p1 + l + 1) (FB.tr (Fr_atM.mono fun g x k => at_Rd k)) (tB.at q1) rfl (okP_fig ok1 rfl ⟨q2, q3⟩) th0 fr0 hpn
        · -- more measures
          rw [if_neg (by rw [c2]; decide)] at hpn
          obtain ⟨n1, n2, n3, n4⟩ := mA_number tB.1
          obtain ⟨u1, u2, u3, u4⟩ := mA_unitOf tB.1
          have ec : (0 : Int32).toNatClampNeg = 0 := rfl
          refine ⟨m + 25, n1, n2, by rw [n4]; exact vpi_of (n := 0) (m := 4) (by decide) (by decide), m + 26, u1, u2, ?_, fun H34 e34 => ?_⟩
          · show vp_in (0 : Int32) (ln B (m + 26))
            rw [u4]; exact vpi_of (n := 0) (m := 4) (by decide) (by decide)
          · rw [n3, ec] at e34
            have t26 : tg (sL B 5027 (m + 25) 0 v) (m + 26) = 5040 := u3
            rw [t26] at e34
            have F1 : Fr (fun g y => (g = 5027 ∧ y = m + 25) ∨ (g = 5040 ∧ y = m + 26) ∨ (g = 1352 ∧ y = m)) B H34 := by
              rw [← e34]
              exact ((Fr_sL (Or.inl ⟨rfl, rfl⟩)).tr (Fr_sI (Or.inr (Or.inl ⟨rfl, rfl⟩)))).tr (Fr_sI (Or.inr (Or.inr ⟨rfl, rfl⟩)))
            have FF : Fr (Rd0 m) H H34 := FB.tr (F1.mono fun g y k => by
              rcases k with k | k | k
              · exact Or.inr (Or.inl k)
              · exact Or.inr (Or.inr k)
              · exact Or.inl ⟨by omega, k.2⟩)
            have t34 := fr_MT F1 (fun k => by omega) (fun k => by omega) (fun k => by omega) (fun k => by omega) tB
            refine numbered_loop hm0 hok hd hw hns hb hq 3 1 (p1 + l) (setP pR0 0 th p1 l) H34 rfl (Nat.le_refl _) rfl ok1 rfl (Or.inr c3) FF (by rw [F1.2.2.2.2.1 _ _ (fun k => by omega)]; exact bB) t34 ⟨?_, by decide, fun j hj => ?_⟩ hpn.symm
            · rw [← e34, hIs_i, if_pos rfl]; rfl
            · have ej : j = 0 := by omega
              subst ej
              rw [th0, fr0]
              have l0 : hL H34 5027 (m + 25) 0 = v := by
                rw [← e34]
                show hL (sL B 5027 (m + 25) 0 v) 5027 (m + 25) 0 = v
                rw [hL_sL, u3_same]
              have x0 : hI H34 5040 (m + 26) 0 = x := by
                rw [← e34, hIs_g _ _ _ _ _ _ (by decide), hIs_i, if_pos rfl]
              rw [l0, x0]
              exact ⟨hv, hx⟩
        · -- one measure alone
          rw [if_neg (by rw [c2]; decide)] at hpn
          have hpn' : pNumd T p = .inr (p1 + l, setP pR0 0 th p1 l) := by
            unfold pMix at hpn
            rw [if_neg (by rw [c3]; decide)] at hpn
            exact hpn
          refine K_figure (d := d + 3) tB (fun _ => ?_) (fun _ h => ?_)
          · exact tail B (setP pR0 0 th p1 l) (p1 + l) FB tB rfl ok1 th0 fr0 hpn'
          · exfalso
            unfold isPow at h
            unfold isFig at c3
            have h1 := of_decide_eq_true h
            have h2 := of_decide_eq_false c3
            omega
    · -- plain
      have hres : pNumd T p = .inr (p1, (0, putC pR0.2.1 0 th, pR0.2.2.1, pR0.2.2.2.1, 1)) := by
        unfold pNumd
        rw [ha]
        simp only
        rw [if_neg (by rw [c]; decide)]
      obtain ⟨k1, k2⟩ := keep _ FA
      refine K_goesOn (d := d + 4) tA.1.1 k1 k2 ⟨fun c2 => hq _ _ (Or.inr ⟨p1, _, hres, tA, Or.inl ⟨c2, FA⟩⟩), fun c2 => ⟨tA.1.1, fun h => absurd (show (0 : Int32) ≤ -1 by rw [← tA.2.2.2.2.2.1]; exact h) (by decide), fun _ => ?_⟩⟩
      obtain ⟨n1, n2⟩ := hns c2
      have ks : hI (atM H1 m p1 (-1)) 1341 m 0 = Int32.ofNat ns := by rw [FA.2.2.2.2.1 _ _ (fun k => by omega)]; exact n2
      refine K_plain (d := d + 1) tA.1 n1 ks hv b1 fun H' r hJ => ?_
      have ej : jAtom (wF T nu U) U (0, putC pR0.2.1 0 th, pR0.2.2.1, pR0.2.2.2.1, 1) = .inr (fun _ => 0, thF th) := by
        unfold jAtom
        rw [if_pos (fun i hi => absurd hi (Nat.not_lt_zero i)), if_pos rfl]
        show (Sum.inr (fun _ => 0, thF (putC pR0.2.1 0 th 0)) : JR) = _
        unfold putC
        rw [if_pos rfl]
      refine hq _ _ (Or.inr ⟨p1, _, hres, MjS_MT hJ.1 tA, Or.inr ⟨c2, _, FA, by rw [ej]; exact hJ, fun _ => ?_⟩⟩)
      rw [hJ.1.2.2.2.2.1 _ _ (fun k => by omega)]
      exact bA
