
/-! ===== the reference: term ===== -/
theorem jA_back {F : Nat → Nat → Option Nat} {U : Nat → UV} {T : TP} {st st1 : PS} (ok : okSt T st) (hle : st.1 ≤ st1.1) (h : ∀ i, i < st.1 → st1.2 i = st.2 i) (hz : (jA F U st1 st1.1).1 = 0) : (jA F U st st.1).1 = 0 := by
  refine Classical.byContradiction fun k => ?_
  have e : jA F U st st.1 = jA F U st1 st.1 := jA_cong (T := T) st.1 ok fun i hi => (h i hi).symm
  rw [e] at k
  have := jA_stop k (st1.1 - st.1)
  have e2 : st.1 + (st1.1 - st.1) = st1.1 := by omega
  rw [e2] at this
  rw [this] at hz
  exact k hz
theorem RdJ_tr {m : Nat} {does : Bool} {g x : Nat} (k : AtS m g x) : RdJ m does g x := Or.inl (at_Rd k)
theorem MRs_tr {b : Bool} {H H1 H' : HP} {m : Nat} {T : TP} {F : Nat → Nat → Option Nat} {U : Nat → UV} {does : Bool} {res : PRes} {r : Int32} (h : Fr (RdJ m does) H H1) (h26 : hI H1 1326 m 0 = hI H 1326 m 0) (s : MRs b H1 m T F U does res H' r) : MRs b H m T F U does res H' r := by
  rcases s with ⟨ff, e, F1, t1⟩ | ⟨p1, st1, e, F1, t1, h1, hj⟩
  · exact Or.inl ⟨ff, e, h.tr F1, t1⟩
  · exact Or.inr ⟨p1, st1, e, h.tr F1, t1, h1.trans h26, hj⟩
/-- a frame of the reading keeps the units and what does -/
theorem RdJ_MU {H H' : HP} {m n : Nat} {U : Nat → UV} {does : Bool} (h : Fr (RdJ m does) H H') (s : MU H m n U) : MU H' m n U := fr_MU h (fun k => by omega) (fun g a k1 k2 k3 => by omega) s
/-- a product of two rows that have been read and judged -/
theorem prod_step {d : Nat} {q : HP → Int32 → Prop} {H : HP} {m nu p1 kl : Nat} {T : TP} {U : Nat → UV} {does dv : Bool} {st1 : PS} {x1 r3 sg x4 : Int32} (hok : ∀ i, okU (U i)) (hT : MT H m T p1 (-1)) (hd : hI H 1338 m 0 = bI does) (ok1 : okSt T st1) (hkl : kl < st1.1) (h64 : st1.1 < 64) (hsg : sg = if dv = true then -1 else 1) (hJ : does = true → JH H m st1 (jA (wF T nu U) U st1 st1.1)) (hx : does = true → (jA (wF T nu U) U st1 st1.1).1 = 0 → x1 = Int32.ofNat kl ∧ r3 = Int32.ofNat (st1.1 - 1) ∧ x4 = bI (bareR (wF T nu U) U (st1.2 kl) || bareR (wF T nu U) U (st1.2 (st1.1 - 1))))
    (hq : ∀ H' r, Fr (RdJ m does) H H' → MT H' m T p1 (-1) → hI H' 1326 m 0 = hI H 1326 m 0 → (does = true → JH H' m (pushS st1 (opR (if dv = true then 2 else 1) kl (st1.1 - 1))) (jA (wF T nu U) U (pushS st1 (opR (if dv = true then 2 else 1) kl (st1.1 - 1))) (pushS st1 (opR (if dv = true then 2 else 1) kl (st1.1 - 1))).1) ∧ ((jA (wF T nu U) U (pushS st1 (opR (if dv = true then 2 else 1) kl (st1.1 - 1))) (pushS st1 (opR (if dv = true then 2 else 1) kl (st1.1 - 1))).1).1 = 0 → r = Int32.ofNat st1.1)) → q H' r) : CI (d + 5) 0 0 mX12_product_ [rv (some m), .int x1, .int r3, .int sg, .int x4] H q := by
  have hh := jA_held (F := wF T nu U) (U := U) (st := st1) st1.1
  have old : ∀ i, i < st1.1 → ((pushS st1 (opR (if dv = true then 2 else 1) kl (st1.1 - 1))).2 i) = st1.2 i := fun i hi => by
    show (if i = st1.1 then _ else st1.2 i) = _
    rw [if_neg (by omega)]
  have new : (pushS st1 (opR (if dv = true then 2 else 1) kl (st1.1 - 1))).2 st1.1 = opR (if dv = true then 2 else 1) kl (st1.1 - 1) := by
    show (if st1.1 = st1.1 then _ else st1.2 st1.1) = _
    rw [if_pos rfl]
  have ej : ∀ V, jRow (wF T nu U) U (pushS st1 (opR (if dv = true then 2 else 1) kl (st1.1 - 1))) V st1.1 = jProd (bareR (wF T nu U) U (st1.2 kl) || bareR (wF T nu U) U (st1.2 (st1.1 - 1))) dv (V kl) (V (st1.1 - 1)) := fun V => by
    unfold jRow
    rw [new]
    show (if (if dv = true then 2 else 1) = 0 then _ else if (if dv = true then 2 else 1) = 1 ∨ (if dv = true then 2 else 1) = 2 then jProd (bareR _ U ((pushS st1 _).2 kl) || bareR _ U ((pushS st1 _).2 (st1.1 - 1))) (decide ((if dv = true then 2 else 1) = 2)) (V kl) (V (st1.1 - 1)) else _) = _
    rw [old kl hkl, old (st1.1 - 1) (by omega)]
    cases dv with
    | true => rfl
    | false => rfl
  refine K_mproduct (n := st1.1) (a := kl) (b := st1.1 - 1) (ka := (st1.2 kl).1) (kb := (st1.2 (st1.1 - 1)).1) (va := (jA (wF T nu U) U st1 st1.1).2.2 kl) (vb := (jA (wF T nu U) U st1 st1.1).2.2 (st1.1 - 1)) (dv := dv) (bad := bareR (wF T nu U) U (st1.2 kl) || bareR (wF T nu U) U (st1.2 (st1.1 - 1))) hT.1 hd rfl (fun hg => ?_) (fun hg => ?_) x1 r3 (fun hg => ?_) (fun hg => ?_)
  · refine hq H (-1) Fr.rf hT rfl fun hdo => ?_
    have J0 := hJ hdo
    have hne : ¬ (jA (wF T nu U) U st1 st1.1).1 = 0 := fun k => by
      rw [hdo, J0.2.1, decide_eq_true k] at hg; cases hg
    rw [jA_push ok1]
    unfold jStep
    rw [if_neg hne]
    exact ⟨Rd_JH Fr.rf (fun i hi => by rw [old i (by omega)]) J0, fun k => absurd k hne⟩
  · rw [Bool.and_eq_true] at hg
    obtain ⟨hdo, hw⟩ := hg
    have J0 := hJ hdo
    have hz : (jA (wF T nu U) U st1 st1.1).1 = 0 := by rw [← J0.2.1]; exact of_decide_eq_true hw
    have hs := hh.2 hz
    obtain ⟨x1', x2', x3'⟩ := hx hdo hz
    obtain ⟨ra, oa⟩ := J0.2.2 kl (by omega)
    obtain ⟨rb, ob⟩ := J0.2.2 (st1.1 - 1) (by omega)
    refine ⟨h64, hkl, by omega, ra, rb, oa, ob, by rw [J0.1, hs], hsg, x3', fun H' r hM => ?_⟩
    have s1 := JH_step (row := opR (if dv = true then 2 else 1) kl (st1.1 - 1)) J0 hz hs hM (fun v hv => jProd_ok oa ob hv) (fun w hw => jProd_ne hw)
    refine hq H' r (hM.1.mono fun g x k => Or.inr (Or.inr ⟨hdo, k⟩)) (MjS_MT hM.1 hT) (by rw [hM.1.2.2.2.2.1 _ _ (fun k => by omega)]) fun _ => ?_
    rw [jA_push ok1, ej]
    exact s1
  · rw [Bool.and_eq_true] at hg
    have J0 := hJ hg.1
    exact (hx hg.1 (by rw [← J0.2.1]; exact of_decide_eq_true hg.2)).1
  · rw [Bool.and_eq_true] at hg
    have J0 := hJ hg.1
    exact (hx hg.1 (by rw [← J0.2.1]; exact of_decide_eq_true hg.2)).2.1
