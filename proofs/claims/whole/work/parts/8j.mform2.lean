
/-! ===== the reference: a formula ===== -/
/-- the tape alone, wherever the reading stands -/
def MT0 (H : HP) (m : Nat) (T : TP) : Prop := shM H m ∧ hI H 1323 m 0 = Int32.ofNat T.1 ∧ T.1 ≤ 60 ∧ ∀ i, i < T.1 → hI H 4864 (m + 15) i = T.2 i ∧ 1 ≤ (T.2 i).toInt ∧ (T.2 i).toInt ≤ 127
theorem MT0_of {H : HP} {m p : Nat} {T : TP} {f : Int32} (h : MT H m T p f) : MT0 H m T := ⟨h.1, h.2.1, h.2.2.1, h.2.2.2.2.2.2⟩
theorem fr_MT0 {S : Nat → Nat → Prop} {H H' : HP} {m : Nat} {T : TP} (h : Fr S H H') (h1 : ¬ S 1323 m) (h2 : ¬ S 4864 (m + 15)) (s : MT0 H m T) : MT0 H' m T := ⟨fr_shM h s.1, by rw [h.2.2.2.2.1 _ _ h1]; exact s.2.1, s.2.2.1, fun i k => by rw [h.2.2.2.2.1 _ _ h2]; exact s.2.2.2 i k⟩
theorem MT0_at {H : HP} {m : Nat} {T : TP} (h : MT0 H m T) : MT (atM H m 0 (-1)) m T 0 (-1) := by
  have F := Fr_atM (H := H) (m := m) (p := 0) (f := -1)
  obtain ⟨h1, h2, h3, h4⟩ := h
  refine ⟨fr_shM F h1, by rw [F.2.2.2.2.1 _ _ (fun k => by omega)]; exact h2, h3, ?_, Nat.zero_le _, ?_, fun i hi => by rw [F.2.2.2.2.1 _ _ (fun k => by omega)]; exact h4 i hi⟩
  · unfold atM
    rw [hIs_g _ _ _ _ _ _ (by decide), hIs_i, if_pos rfl]
  · unfold atM
    rw [hIs_i, if_pos rfl]
theorem K_formula {d m nu : Nat} {q : HP → Prop} {H : HP} {T : TP} {U : Nat → UV} {does : Bool} (hok : ∀ i, okU (U i)) (hT : MT0 H m T) (hm : MU H m nu U) (hd : hI H 1338 m 0 = bI does) (hJ : does = true → hI H 1341 m 0 = 0 ∧ hI H 1342 m 0 = 0)
    (h0 : ∀ ff, pF T = .inl ff → ∀ H', Fr (FmS m does) H H' → MT H' m T ff (Int32.ofNat ff) → q H')
    (h1 : ∀ st eq l r, pF T = .inr (st, eq, l, r) → ∀ H' p1, Fr (FmS m does) H H' → MT H' m T p1 (-1) → (does = true → JH H' m st (jA (wF T nu U) U st st.1) ∧ hI H' 1340 m 0 = bI eq ∧ ((eq = false → (jA (wF T nu U) U st st.1).1 = 0 → hI H' 1343 m 0 = Int32.ofNat (st.1 - 1)) ∧ (eq = true → (jA (wF T nu U) U st st.1).1 = 0 → hI H' 1343 m 0 = Int32.ofNat l ∧ hI H' 1344 m 0 = Int32.ofNat r))) → q H') : CV (d + 22) 0 0 mX12_formula [rv (some m)] H q := by
  have hT60 := hT.2.2.1
  have hsum : SMsum (d + 21) m nu 0 T U does (pS T 4) := Sm_S (d := d) hok 4 0 rfl
  refine C_X12_formula ?_
  unfold wb_X12_formula_0
  have tA : MT (atM H m 0 (-1)) m T 0 (-1) := MT0_at hT
  have FA : Fr (AtS m) H (atM H m 0 (-1)) := Fr_atM
  have eA : sI (sI H 1324 m 0 (0 : Int32)) 1325 m 0 (-1 : Int32) = atM H m 0 (-1) := rfl
  rw [eA]
  have FB : Fr (fun g x => g = 1326 ∧ x = m) (atM H m 0 (-1)) (sI (atM H m 0 (-1)) 1326 m 0 (0 : Int32)) := Fr_sI ⟨rfl, rfl⟩
  have tB := fr_MT FB (fun k => by omega) (fun k => by omega) (fun k => by omega) (fun k => by omega) tA
  have kB : hI (sI (atM H m 0 (-1)) 1326 m 0 (0 : Int32)) 1326 m 0 = Int32.ofNat 0 := by rw [hIs_i, if_pos rfl]; rfl
  generalize sI (atM H m 0 (-1)) 1326 m 0 (0 : Int32) = B at FB tB kB ⊢
  have F1 : Fr (RdJ m does) H B := (FA.mono fun g x k => RdJ_tr k).tr (FB.mono fun g x k => Or.inr (Or.inl k))
  have F1' : Fr (fun g x => (g = 1324 ∨ g = 1325 ∨ g = 1326) ∧ x = m) H B := (FA.mono fun g x k => ⟨by omega, k.2⟩).tr (FB.mono fun g x k => ⟨by omega, k.2⟩)
  have toF : ∀ g x, RdJ m does g x → FmS m does g x := fun g x k => Or.inl k
  have kd : ∀ K, Fr (RdJ m does) H K → hI K 1338 m 0 = bI does := fun K FK => by rw [FK.2.2.2.2.1 _ _ (fun k => by omega)]; exact hd
  have ok0 : okSt T (0, fun _ => opR 0 0 0) := fun i hi => by cases hi
  obtain ⟨v1, v2⟩ := PInv_S (T := T) 4 0 (0, fun _ => opR 0 0 0) (Nat.zero_le _) ok0
  refine ⟨hT.1.1, hsum B 0 (0, fun _ => opR 0 0 0) _ tB (RdJ_MU F1 hm) (kd B F1) kB (fun hdo => ⟨?_, ?_, fun i hi => (by cases hi)⟩) ok0 (Nat.le_refl _) fun H2 r3 hr => ?_⟩
  · rw [F1'.2.2.2.2.1 _ _ (fun k => by omega)]; exact (hJ hdo).1
  · rw [F1'.2.2.2.2.1 _ _ (fun k => by omega)]; exact (hJ hdo).2
  rcases hr with ⟨ff, e, F2, t2⟩ | ⟨p1, st1, e, F2, t2, h26, hj⟩
  · have hff := t2.2.2.2.2.1
    have nn : (0 : Int32) ≤ Int32.ofNat ff := by rw [i32_le, i32_0, iN_toInt (by omega)]; omega
    have hpF : pF T = .inl ff := by unfold pF; rw [e]
    have FF := F1.tr F2
    rw [t2.2.2.2.2.2.1]
    exact ⟨t2.1.1, fun _ => ⟨fun _ => form_fault (d := d + 20) t2 (kd _ FF) (h0 ff hpF _ (FF.mono toF) t2), fun k => absurd rfl k⟩, fun k => absurd nn k⟩
  · obtain ⟨w1, w2, w3, w4, w5, w6⟩ := v2 p1 st1 e
    have FF := F1.tr F2
    rw [t2.2.2.2.2.2.1]
    refine ⟨t2.1.1, fun k => absurd k (by decide), fun _ => K_here (d := d + 20) t2 ⟨fun c => ⟨fun _ => ?_, fun k => absurd rfl k⟩, fun c => ⟨fun k => absurd k (by decide), fun _ => ⟨t2.1.1, ?_⟩⟩⟩⟩
    · have hpF : pF T = (if p1 < T.1 then .inl p1 else .inr (st1, false, 0, 0)) := by
        unfold pF
        rw [e]
        simp only
        rw [if_neg c]
      refine form_end0 (d := d + 20) t2 (kd _ FF) (fun k => ?_) (fun k hdo => ?_) (fun k hdo => ?_)
      · rw [if_pos k] at hpF
        exact h0 p1 hpF _ ((FF.tr (Fr_atM.mono fun g x k => RdJ_tr k)).mono toF) (t2.at t2.2.2.2.2.1)
      · rw [if_neg k] at hpF
        exact h1 _ _ _ _ hpF H2 p1 (FF.mono toF) t2 fun k2 => (by rw [hdo] at k2; cases k2)
      · rw [if_neg k] at hpF
        have F3 : Fr (fun g x => (g = 1340 ∨ g = 1343 ∨ g = 1344) ∧ x = m) H2 (sI (sI (sI H2 1340 m 0 (0 : Int32)) 1343 m 0 r3) 1344 m 0 (-1 : Int32)) := ((Fr_sI ⟨Or.inl rfl, rfl⟩).tr (Fr_sI ⟨Or.inr (Or.inl rfl), rfl⟩)).tr (Fr_sI ⟨Or.inr (Or.inr rfl), rfl⟩)
        have t3 := fr_MT F3 (fun k => by omega) (fun k => by omega) (fun k => by omega) (fun k => by omega) t2
        refine h1 _ _ _ _ hpF _ p1 ((FF.mono toF).tr (F3.mono fun g x k => Or.inr ⟨hdo, k⟩)) t3 fun _ => ⟨fr_JH F3 (fun g k1 k2 => by omega) (fun k => by omega) (fun k => by omega) (fun k => by omega) (fun k => by omega) (fun i _ => rfl) (hj hdo).1, ?_, fun _ hz => ?_, fun k => (by cases k)⟩
        · rw [hIs_g _ _ _ _ _ _ (by decide), hIs_g _ _ _ _ _ _ (by decide), hIs_i, if_pos rfl]; rfl
        · rw [hIs_g _ _ _ _ _ _ (by decide), hIs_i, if_pos rfl]; exact ((hj hdo).2 hz).1
    · have hlt : p1 < T.1 := lk_lt c (by decide)
      have hpF : pF T = (match pS T 4 (p1 + 1) st1 with
          | .inl f => .inl f
          | .inr (p2, st2) => if p2 < T.1 then .inl p2 else .inr (pushS st2 (opR 5 (st1.1 - 1) (st2.1 - 1)), true, st1.1 - 1, st2.1 - 1)) := by
        unfold pF
        rw [e]
        simp only
        rw [if_pos c]
        rcases pS T 4 (p1 + 1) st1 with f | ⟨p2, st2⟩ <;> rfl
      rw [t2.inc]
      have t3 : MT (atM H2 m (p1 + 1) (-1)) m T (p1 + 1) (-1) := t2.at hlt
      have F3 : Fr (AtS m) H2 (atM H2 m (p1 + 1) (-1)) := Fr_atM
      have F3r : Fr (RdJ m does) H (atM H2 m (p1 + 1) (-1)) := FF.tr (F3.mono fun g x k => RdJ_tr k)
      have k3 : hI (atM H2 m (p1 + 1) (-1)) 1326 m 0 = Int32.ofNat 0 := by rw [F3.2.2.2.2.1 _ _ (fun k => by omega), h26]; exact kB
      generalize atM H2 m (p1 + 1) (-1) = C at t3 F3 F3r k3 ⊢
      obtain ⟨y1, y2⟩ := PInv_S (T := T) 4 (p1 + 1) st1 hlt w6
      refine hsum C (p1 + 1) st1 _ t3 (RdJ_MU F3r hm) (kd _ F3r) k3 (fun hdo => fr_JH F3 (fun g k1 k2 => by omega) (fun k => by omega) (fun k => by omega) (fun k => by omega) (fun k => by omega) (fun i _ => rfl) (hj hdo).1) w6 (by have w4' : st1.1 + 0 ≤ 0 + p1 := w4; omega) fun H4 r4 hr4 => ?_
      rcases hr4 with ⟨ff, e2, F4, t4⟩ | ⟨p2, st2, e2, F4, t4, h264, hj2⟩
      · rw [e2] at hpF
        have FG := F3r.tr F4
        exact form_fault (d := d + 20) t4 (kd _ FG) (h0 ff hpF _ (FG.mono toF) t4)
      · rw [e2] at hpF
        simp only at hpF
        obtain ⟨z1, z2, z3, z4, z5, z6⟩ := y2 p2 st2 e2
        have FG := F3r.tr F4
        have w4' : st1.1 + 0 ≤ 0 + p1 := w4
        have w3' : 0 < st1.1 := w3
        refine form_end1 (d := d + 20) t4 (kd _ FG) (fun k => ?_) (fun k hdo => ?_) (fun k hdo => ?_)
        · rw [if_pos k] at hpF
          exact h0 p2 hpF _ ((FG.tr (Fr_atM.mono fun g x k => RdJ_tr k)).mono toF) (t4.at t4.2.2.2.2.1)
        · rw [if_neg k] at hpF
          exact h1 _ _ _ _ hpF H4 p2 (FG.mono toF) t4 fun k2 => (by rw [hdo] at k2; cases k2)
        · rw [if_neg k] at hpF
          have F5 : Fr (fun g x => (g = 1340 ∨ g = 1343 ∨ g = 1344) ∧ x = m) H4 (sI (sI (sI H4 1340 m 0 (1 : Int32)) 1343 m 0 r3) 1344 m 0 r4) := ((Fr_sI ⟨Or.inl rfl, rfl⟩).tr (Fr_sI ⟨Or.inr (Or.inl rfl), rfl⟩)).tr (Fr_sI ⟨Or.inr (Or.inr rfl), rfl⟩)
          have t5 := fr_MT F5 (fun k => by omega) (fun k => by omega) (fun k => by omega) (fun k => by omega) t4
          have g0 : hI (sI (sI (sI H4 1340 m 0 (1 : Int32)) 1343 m 0 r3) 1344 m 0 r4) 1340 m 0 = 1 := by rw [hIs_g _ _ _ _ _ _ (by decide), hIs_g _ _ _ _ _ _ (by decide), hIs_i, if_pos rfl]
          have g3 : hI (sI (sI (sI H4 1340 m 0 (1 : Int32)) 1343 m 0 r3) 1344 m 0 r4) 1343 m 0 = r3 := by rw [hIs_g _ _ _ _ _ _ (by decide), hIs_i, if_pos rfl]
          have g4 : hI (sI (sI (sI H4 1340 m 0 (1 : Int32)) 1343 m 0 r3) 1344 m 0 r4) 1344 m 0 = r4 := by rw [hIs_i, if_pos rfl]
          generalize sI (sI (sI H4 1340 m 0 (1 : Int32)) 1343 m 0 r3) 1344 m 0 r4 = D at F5 t5 g0 g3 g4 ⊢
          have kD : hI D 1338 m 0 = bI does := by rw [F5.2.2.2.2.1 _ _ (fun k => by omega)]; exact kd _ FG
          have jD : does = true → JH D m st2 (jA (wF T nu U) U st2 st2.1) := fun hdo => fr_JH F5 (fun g k1 k2 => by omega) (fun k => by omega) (fun k => by omega) (fun k => by omega) (fun k => by omega) (fun i _ => rfl) (hj2 hdo).1
          have xs : does = true → (jA (wF T nu U) U st2 st2.1).1 = 0 → r3 = Int32.ofNat (st1.1 - 1) ∧ r4 = Int32.ofNat (st2.1 - 1) := fun hdo hz => ⟨((hj hdo).2 (jA_back w6 (by omega) z5 hz)).1, ((hj2 hdo).2 hz).1⟩
          refine sum_step (d := d + 16) (kl := st1.1 - 1) (kd := 5) hok t5 kD z6 (by omega) (by omega) (Or.inr (Or.inr rfl)) rfl jD xs fun H' r F6 t6 h6 hj6 => ?_
          have f6 : ∀ g, (g = 1340 ∨ g = 1343 ∨ g = 1344) → hI H' g m 0 = hI D g m 0 := fun g hg => by rw [F6.2.2.2.2.1 _ _ (fun k => by omega)]
          refine h1 _ _ _ _ hpF H' p2 ((FG.mono toF).tr ((F5.mono fun g x k => Or.inr ⟨hdo, k⟩).tr (F6.mono toF))) t6 fun _ => ⟨(hj6 hdo).1, by rw [f6 1340 (Or.inl rfl), g0]; rfl, fun k => (by cases k), fun _ hz => ?_⟩
          have hz2 : (jA (wF T nu U) U st2 st2.1).1 = 0 := jA_back (st1 := pushS st2 (opR 5 (st1.1 - 1) (st2.1 - 1))) z6 (by show st2.1 ≤ st2.1 + 1; omega) (fun i hi => by show (if i = st2.1 then _ else st2.2 i) = _; rw [if_neg (by omega)]) hz
          obtain ⟨u1, u2⟩ := xs hdo hz2
          rw [f6 1343 (Or.inr (Or.inl rfl)), f6 1344 (Or.inr (Or.inr rfl)), g3, g4]
          exact ⟨u1, u2⟩
