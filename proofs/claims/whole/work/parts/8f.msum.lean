
/-! ===== the reference: sum ===== -/
/-- a sum of two rows that have been read and judged -/
theorem sum_step {d : Nat} {q : HP → Int32 → Prop} {H : HP} {m nu p1 kl kd : Nat} {T : TP} {U : Nat → UV} {does : Bool} {st1 : PS} {x1 r3 sg : Int32} (hok : ∀ i, okU (U i)) (hT : MT H m T p1 (-1)) (hd : hI H 1338 m 0 = bI does) (ok1 : okSt T st1) (hkl : kl < st1.1) (h64 : st1.1 < 64) (hk3 : kd = 3 ∨ kd = 4 ∨ kd = 5) (hsg : sg = if decide (kd ≠ 3) = true then -1 else 1) (hJ : does = true → JH H m st1 (jA (wF T nu U) U st1 st1.1)) (hx : does = true → (jA (wF T nu U) U st1 st1.1).1 = 0 → x1 = Int32.ofNat kl ∧ r3 = Int32.ofNat (st1.1 - 1))
    (hq : ∀ H' r, Fr (RdJ m does) H H' → MT H' m T p1 (-1) → hI H' 1326 m 0 = hI H 1326 m 0 → (does = true → JH H' m (pushS st1 (opR kd kl (st1.1 - 1))) (jA (wF T nu U) U (pushS st1 (opR kd kl (st1.1 - 1))) (pushS st1 (opR kd kl (st1.1 - 1))).1) ∧ ((jA (wF T nu U) U (pushS st1 (opR kd kl (st1.1 - 1))) (pushS st1 (opR kd kl (st1.1 - 1))).1).1 = 0 → r = Int32.ofNat st1.1)) → q H' r) : CI (d + 5) 0 0 mX12_added [rv (some m), .int x1, .int r3, .int sg, .int (Int32.ofNat kd)] H q := by
  have hh := jA_held (F := wF T nu U) (U := U) (st := st1) st1.1
  have old : ∀ i, i < st1.1 → ((pushS st1 (opR kd kl (st1.1 - 1))).2 i) = st1.2 i := fun i hi => by
    show (if i = st1.1 then _ else st1.2 i) = _
    rw [if_neg (by omega)]
  have new : (pushS st1 (opR kd kl (st1.1 - 1))).2 st1.1 = opR kd kl (st1.1 - 1) := by
    show (if st1.1 = st1.1 then _ else st1.2 st1.1) = _
    rw [if_pos rfl]
  have ej : ∀ V, jRow (wF T nu U) U (pushS st1 (opR kd kl (st1.1 - 1))) V st1.1 = jSum (decide (kd ≠ 3)) (V kl) (V (st1.1 - 1)) := fun V => by
    unfold jRow
    rw [new]
    show (if kd = 0 then _ else if kd = 1 ∨ kd = 2 then _ else jSum (decide (kd ≠ 3)) (V kl) (V (st1.1 - 1))) = _
    rw [if_neg (by omega), if_neg (by omega)]
  refine K_added (k0 := kd) (n := st1.1) (a := kl) (b := st1.1 - 1) (ka := (st1.2 kl).1) (kb := (st1.2 (st1.1 - 1)).1) (va := (jA (wF T nu U) U st1 st1.1).2.2 kl) (vb := (jA (wF T nu U) U st1 st1.1).2.2 (st1.1 - 1)) (mn := decide (kd ≠ 3)) hT.1 hd rfl (fun hg => ?_) (fun hg => ?_) x1 r3 (fun hg => ?_) (fun hg => ?_)
  · refine hq H (-1) Fr.rf hT rfl fun hdo => ?_
    have J0 := hJ hdo
    have hne : ¬ (jA (wF T nu U) U st1 st1.1).1 = 0 := fun k => by
      rw [hdo, J0.2.1, decide_eq_true k] at hg; cases hg
    rw [jA_push ok1]
    unfold jStep
    rw [if_neg hne]
    exact ⟨Rd_JH Fr.rf (fun i hi => by rw [old i (by omega)]) J0, fun k => absurd k hne⟩
  · rw [Bool.and_eq_true] at hg
    obtain ⟨hdo, hw⟩ := hg
    have J0 := hJ hdo
    have hz : (jA (wF T nu U) U st1 st1.1).1 = 0 := by rw [← J0.2.1]; exact of_decide_eq_true hw
    have hs := hh.2 hz
    obtain ⟨x1', x2'⟩ := hx hdo hz
    obtain ⟨ra, oa⟩ := J0.2.2 kl (by omega)
    obtain ⟨rb, ob⟩ := J0.2.2 (st1.1 - 1) (by omega)
    refine ⟨h64, hkl, by omega, ra, rb, oa, ob, by rw [J0.1, hs], hsg, fun H' r hM => ?_⟩
    have s1 := JH_step (row := opR kd kl (st1.1 - 1)) J0 hz hs hM (fun v hv => jSum_ok oa ob hv) (fun w hw => jSum_ne hw)
    refine hq H' r (hM.1.mono fun g x k => Or.inr (Or.inr ⟨hdo, k⟩)) (MjS_MT hM.1 hT) (by rw [hM.1.2.2.2.2.1 _ _ (fun k => by omega)]) fun _ => ?_
    rw [jA_push ok1, ej]
    exact s1
  · rw [Bool.and_eq_true] at hg
    have J0 := hJ hg.1
    exact (hx hg.1 (by rw [← J0.2.1]; exact of_decide_eq_true hg.2)).1
  · rw [Bool.and_eq_true] at hg
    have J0 := hJ hg.1
    exact (hx hg.1 (by rw [← J0.2.1]; exact of_decide_eq_true hg.2)).2
