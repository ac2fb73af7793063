
/-! ===== the reference: part ===== -/
def SMpart (d m nu deep : Nat) (T : TP) (U : Nat → UV) (does : Bool) (P : Nat → PS → PRes) : Prop := ∀ (H : HP) (p : Nat) (st : PS) (q : HP → Int32 → Prop), MT H m T p (-1) → MU H m nu U → hI H 1338 m 0 = bI does → hI H 1326 m 0 = Int32.ofNat deep → (does = true → JH H m st (jA (wF T nu U) U st st.1)) → okSt T st → st.1 ≤ p → (∀ H' r, MRs true H m T (wF T nu U) U does (P p st) H' r → q H' r) → CI d 0 0 mX12_part [rv (some m)] H q
def SMterm (d m nu deep : Nat) (T : TP) (U : Nat → UV) (does : Bool) (P : Nat → PS → PRes) : Prop := ∀ (H : HP) (p : Nat) (st : PS) (q : HP → Int32 → Prop), MT H m T p (-1) → MU H m nu U → hI H 1338 m 0 = bI does → hI H 1326 m 0 = Int32.ofNat deep → (does = true → JH H m st (jA (wF T nu U) U st st.1)) → okSt T st → st.1 ≤ p → (∀ H' r, MRs false H m T (wF T nu U) U does (P p st) H' r → q H' r) → CI d 0 0 mX12_term [rv (some m)] H q
def SMsum (d m nu deep : Nat) (T : TP) (U : Nat → UV) (does : Bool) (P : Nat → PS → PRes) : Prop := ∀ (H : HP) (p : Nat) (st : PS) (q : HP → Int32 → Prop), MT H m T p (-1) → MU H m nu U → hI H 1338 m 0 = bI does → hI H 1326 m 0 = Int32.ofNat deep → (does = true → JH H m st (jA (wF T nu U) U st st.1)) → okSt T st → st.1 ≤ p → (∀ H' r, MRs false H m T (wF T nu U) U does (P p st) H' r → q H' r) → CI d 0 0 mX12_sum [rv (some m)] H q
theorem part_bare {H : HP} {m : Nat} : Fr (Rd0 m) H (sI H 1349 m 0 (0 : Int32)) := Fr_sI (Or.inl ⟨by omega, rfl⟩)
/-- a name as a part -/
theorem part_name {d : Nat} {q : HP → Int32 → Prop} {H : HP} {m ns nu p : Nat} {T : TP} {U : Nat → UV} {does : Bool} {w : Int32} (hT : MT H m T p (-1)) (hfig : isFig (lk T p) = false) (hm0 : MU H m nu U) (hok : ∀ i, okU (U i)) (hd : hI H 1338 m 0 = bI does) (hw : hI H 1342 m 0 = w) (hns : (does && decide (w = 0)) = true → ns < 64 ∧ hI H 1341 m 0 = Int32.ofNat ns) (hq : ∀ H' r, NO H m T (wF T nu U) U (does && decide (w = 0)) ns (pAtom T p) H' r → q H' r) : CI (d + 6) 0 0 mX12_unit [rv (some m)] H (fun H7 r9 => tg H7 m = 13 ∧ (CI (d + 6) 0 0 mX12_figure [rv (some m)] H7 (fun H10 r12 => (r9 < 0 → tg H10 m = 13 ∧ (CZ (d + 6) 0 0 mX12_goesOn [rv (some m)] (sI H10 1349 m 0 (0 : Int32)) (fun H14 b15 => (b15 = false → q H14 (-1 : Int32)) ∧ (b15 = true → tg H14 m = 13 ∧ ((0 ≤ (hI H14 1325 m 0) → q H14 (-1 : Int32)) ∧ (¬ (0 ≤ (hI H14 1325 m 0)) → CI (d + 6) 0 0 mX12_measured [rv (some m), .long (1000 : Int64), .int r9, .int r12] H14 (fun H17 r18 => q H17 r18))))))) ∧ (¬ (r9 < 0) → tg H10 m = 13 ∧ (CZ (d + 6) 0 0 mX12_hasOffset [rv (some m), .int r9] H10 (fun H19 b21 => (b21 = false → tg H19 m = 13 ∧ (CZ (d + 6) 0 0 mX12_goesOn [rv (some m)] (sI H19 1349 m 0 (0 : Int32)) (fun H23 b24 => (b24 = false → q H23 (-1 : Int32)) ∧ (b24 = true → tg H23 m = 13 ∧ ((0 ≤ (hI H23 1325 m 0) → q H23 (-1 : Int32)) ∧ (¬ (0 ≤ (hI H23 1325 m 0)) → CI (d + 6) 0 0 mX12_measured [rv (some m), .long (1000 : Int64), .int r9, .int r12] H23 (fun H26 r27 => q H26 r27))))))) ∧ (b21 = true → tg H19 m = 13 ∧ (CZ (d + 6) 0 0 mX12_goesOn [rv (some m)] (sI H19 1349 m 0 (1 : Int32)) (fun H29 b30 => (b30 = false → q H29 (-1 : Int32)) ∧ (b30 = true → tg H29 m = 13 ∧ ((0 ≤ (hI H29 1325 m 0) → q H29 (-1 : Int32)) ∧ (¬ (0 ≤ (hI H29 1325 m 0)) → CI (d + 6) 0 0 mX12_measured [rv (some m), .long (1000 : Int64), .int r9, .int r12] H29 (fun H32 r33 => q H32 r33))))))))))))) := by
  have em1 : (-1 : Int32).toInt = -1 := rfl
  have hp := hT.2.2.2.2.1
  have hT60 := hT.2.2.1
  have hn20 := hm0.2.2.1
  have hpn : pAtom T p = (match pNam T p with
      | .inl f => .inl f
      | .inr l => if isPow (lk T (p + l)) = true then .inr (p + l + 1, figP (setP pR0 0 1000 p l) (figN T (p + l))) else .inr (p + l, setP pR0 0 1000 p l)) := by
    unfold pAtom
    rw [if_neg (by rw [hfig]; decide)]
    cases pNam T p <;> rfl
  refine K_unit (d := d + 2) hT (by decide) hm0 hok (fun ff hn => ?_) (fun l hn => ?_)
  · rw [hn] at hpn
    have hff := (pNam_in hp).1 ff hn
    have tB : MT (atM H m ff (Int32.ofNat ff)) m T ff (Int32.ofNat ff) := hT.at hff
    have nn : 0 ≤ (Int32.ofNat ff).toInt := by rw [iN_toInt (by omega)]; omega
    refine ⟨tB.1.1, K_figure (d := d + 4) tB (fun _ => ?_) (fun h _ => by omega)⟩
    refine ⟨fun _ => ⟨tB.1.1, ?_⟩, fun h => absurd (by decide) h⟩
    have F1 : Fr (fun g y => g = 1349 ∧ y = m) (atM H m ff (Int32.ofNat ff)) (sI (atM H m ff (Int32.ofNat ff)) 1349 m 0 (0 : Int32)) := Fr_sI ⟨rfl, rfl⟩
    have tK := fr_MT F1 (fun k => by omega) (fun k => by omega) (fun k => by omega) (fun k => by omega) tB
    have FK : Fr (Rd0 m) H (sI (atM H m ff (Int32.ofNat ff)) 1349 m 0 (0 : Int32)) := (Fr_atM.mono fun g x k => at_Rd k).tr part_bare
    have fin : q (sI (atM H m ff (Int32.ofNat ff)) 1349 m 0 (0 : Int32)) (-1) := hq _ _ (Or.inl ⟨ff, hpn, FK, tK⟩)
    refine K_goesOn (d := d + 5) (b := does) (w := w) tK.1.1 (by rw [FK.2.2.2.2.1 _ _ (fun k => by omega)]; exact hd) (by rw [FK.2.2.2.2.1 _ _ (fun k => by omega)]; exact hw) ⟨fun _ => fin, fun _ => ⟨tK.1.1, fun _ => fin, fun h => absurd ?_ h⟩⟩
    rw [tK.2.2.2.2.2.1, i32_le, i32_0]; exact nn
  · rw [hn] at hpn
    simp only at hpn
    obtain ⟨d1, d2, d3, -⟩ := (pNam_in hp).2 l hn
    have tB : MT (atM H m (p + l) (-1)) m T (p + l) (-1) := hT.at d3
    have FB : Fr (Rd0 m) H (atM H m (p + l) (-1)) := Fr_atM.mono fun g x k => at_Rd k
    have ok1 : okP T (setP pR0 0 1000 p l) := okP_set okP_0 (by decide) rfl (by decide) (by omega) d2 rfl
    generalize atM H m (p + l) (-1) = B at tB FB ⊢
    have hx := wF_cases (T := T) (n := nu) (U := U) (fr := p) (many := l) hm0.2.2.1
    generalize whoF (fun i => nmEq (U i) T p l) nu 0 = x at hx ⊢
    have th0 : (setP pR0 0 1000 p l).2.1 0 = 1000 := by
      show putC pR0.2.1 0 1000 0 = 1000
      unfold putC; rw [if_pos rfl]
    have fr0 : fR (wF T nu U) (setP pR0 0 1000 p l) 0 = wF T nu U p l := by
      show wF T nu U (putC pR0.2.2.1 0 p 0) (putC pR0.2.2.2.1 0 l 0) = _
      unfold putC; rw [if_pos rfl, if_pos rfl]
    have tail : ∀ (K : HP) (R : PRow) (p2 : Nat) (r12 : Int32), r12 = Int32.ofNat R.2.2.2.2 → Fr (Rd0 m) H K → MT K m T p2 (-1) → R.1 = 1 → okP T R → R.2.1 0 = 1000 → fR (wF T nu U) R 0 = wF T nu U p l → pAtom T p = .inr (p2, R) → (x < 0 → tg K m = 13 ∧ (CZ (d + 6) 0 0 mX12_goesOn [rv (some m)] (sI K 1349 m 0 (0 : Int32)) (fun H14 b15 => (b15 = false → q H14 (-1 : Int32)) ∧ (b15 = true → tg H14 m = 13 ∧ ((0 ≤ (hI H14 1325 m 0) → q H14 (-1 : Int32)) ∧ (¬ (0 ≤ (hI H14 1325 m 0)) → CI (d + 6) 0 0 mX12_measured [rv (some m), .long (1000 : Int64), .int x, .int r12] H14 (fun H17 r18 => q H17 r18))))))) ∧ (¬ (x < 0) → tg K m = 13 ∧ (CZ (d + 6) 0 0 mX12_hasOffset [rv (some m), .int x] K (fun H19 b21 => (b21 = false → tg H19 m = 13 ∧ (CZ (d + 6) 0 0 mX12_goesOn [rv (some m)] (sI H19 1349 m 0 (0 : Int32)) (fun H23 b24 => (b24 = false → q H23 (-1 : Int32)) ∧ (b24 = true → tg H23 m = 13 ∧ ((0 ≤ (hI H23 1325 m 0) → q H23 (-1 : Int32)) ∧ (¬ (0 ≤ (hI H23 1325 m 0)) → CI (d + 6) 0 0 mX12_measured [rv (some m), .long (1000 : Int64), .int x, .int r12] H23 (fun H26 r27 => q H26 r27))))))) ∧ (b21 = true → tg H19 m = 13 ∧ (CZ (d + 6) 0 0 mX12_goesOn [rv (some m)] (sI H19 1349 m 0 (1 : Int32)) (fun H29 b30 => (b30 = false → q H29 (-1 : Int32)) ∧ (b30 = true → tg H29 m = 13 ∧ ((0 ≤ (hI H29 1325 m 0) → q H29 (-1 : Int32)) ∧ (¬ (0 ≤ (hI H29 1325 m 0)) → CI (d + 6) 0 0 mX12_measured [rv (some m), .long (1000 : Int64), .int x, .int r12] H29 (fun H32 r33 => q H32 r33)))))))))) := fun K R p2 r12 er FK tK hR ok hth hfr hres => by
      subst er
      have fin : ∀ b : Bool, (∀ j, fR (wF T nu U) R 0 = some j → b = offU (U j)) → CZ (d + 6) 0 0 mX12_goesOn [rv (some m)] (sI K 1349 m 0 (bI b)) (fun H14 b15 => (b15 = false → q H14 (-1 : Int32)) ∧ (b15 = true → tg H14 m = 13 ∧ ((0 ≤ (hI H14 1325 m 0) → q H14 (-1 : Int32)) ∧ (¬ (0 ≤ (hI H14 1325 m 0)) → CI (d + 6) 0 0 mX12_measured [rv (some m), .long (1000 : Int64), .int x, .int (Int32.ofNat R.2.2.2.2)] H14 (fun H17 r18 => q H17 r18))))) := fun b hb' => single_end (d := d + 1) hm0 hok hd hw hns FK tK hR ok (by rw [hth]; rfl) (by rw [hfr]; exact hx) hb' hres hq fun K' tK' g0 g1 => ⟨g0, fun c => ⟨tK'.1.1, fun h => absurd (show (0 : Int32) ≤ -1 by rw [← tK'.2.2.2.2.2.1]; exact h) (by decide), fun _ => g1 c⟩⟩
      rcases hx with ⟨w1, w2⟩ | ⟨j, w0, w1, w2⟩
      · rw [w2]
        rw [w2] at fin
        exact ⟨fun _ => ⟨tK.1.1, fin false (fun j hj => by rw [hfr, w1] at hj; cases hj)⟩, fun h => absurd (by decide) h⟩
      · rw [w2]
        rw [w2] at fin
        refine ⟨fun h => absurd h (by rw [i32_lt, i32_0, iN_toInt (by omega)]; omega), fun _ => ⟨tK.1.1, K_mhasOffset (d := d + 5) tK.1 (by omega) ((Rd_MU FK hm0).2.2.2 j w0) ?_⟩⟩
        have fo := fin (offU (U j)) (fun j' hj => by
          rw [hfr, w1] at hj
          injection hj with hj
          rw [hj])
        exact ⟨fun c => by rw [c] at fo; exact ⟨tK.1.1, fo⟩, fun c => by rw [c] at fo; exact ⟨tK.1.1, fo⟩⟩
    by_cases hpw : isPow (lk T (p + l)) = true
    · rw [if_pos hpw] at hpn
      obtain ⟨q1, q2, q3, q4⟩ := pow_lt' hpw
      refine ⟨tB.1.1, K_figure (d := d + 4) tB (fun h => ?_) (fun _ _ => ?_)⟩
      · rcases h with h | h
        · rw [em1] at h; omega
        · rw [h] at hpw; cases hpw
      · exact tail _ (figP (setP pR0 0 1000 p l) (figN T (p + l))) (p + l + 1) _ q4 (FB.tr (Fr_atM.mono fun g x k => at_Rd k)) (tB.at q1) rfl (okP_fig ok1 rfl ⟨q2, q3⟩) th0 fr0 hpn
    · rw [if_neg hpw] at hpn
      refine ⟨tB.1.1, K_figure (d := d + 4) tB (fun _ => ?_) (fun _ h => absurd h hpw)⟩
      exact tail B (setP pR0 0 1000 p l) (p + l) _ rfl FB tB rfl ok1 th0 fr0 hpn
