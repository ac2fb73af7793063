
/-! ===== claims judged ===== -/
theorem nar0 : vp_nar .boolean (0 : Int32) = 0 := rfl
theorem nar1 : vp_nar .boolean (1 : Int32) = 1 := rfl
def vdW (C : CLM) (i : Nat) (l : List (Nat × Bool)) : Int32 := match wayF C l (1, 1) with
  | none => -15
  | some f => if f = redF (CP C i).toInt64 (CQ C i).toInt64 then 0 else 1
def vdF (C : CLM) (i : Nat) : Int32 := if jnB (CX C) (CY C) i = true then 0 else vdW C i (pth (CX C) (CY C) i (CX C i) (CY C i))
theorem pth_at {X Y : Nat → Nat} {i k : Nat} (hi : i < k) (hj : jnB X Y i = false) : pth X Y k (X i) (Y i) = pth X Y i (X i) (Y i) := by
  have hl : lab X Y i (X i) = lab X Y i (Y i) := by
    have := of_decide_eq_false hj
    exact Decidable.of_not_not this
  have := pth_m hl (k - i)
  rwa [show i + (k - i) = k by omega] at this
theorem K_verdictOn {d n i : Nat} {q : HP → Int32 → Prop} {H : HP} {a : Nat} {C : CLM} {N0 : Nat → Int32} (hok : okCl n C) (hn : n ≤ 20) (hi : i < C.1) (hj : jnB (CX C) (CY C) i = false) (sp : SpI H a C N0) (hb : bun H a C) (hq : ∀ H', Fr (GoS a) H H' → (∃ N, SpI H' a C N) → q H' (vdF C i)) : CI (d + 5) 0 0 mX0_verdictOn [rv (some a), .int (Int32.ofNat i)] H q := by
  refine C_X0_verdictOn ?_
  unfold wb_X0_verdictOn_0
  obtain ⟨o1, o2, o3, p1, p2, q1, q2⟩ := hok.2 i hi
  have hCn := hok.1
  obtain ⟨x1, x2, x3, x4⟩ := cA_x sp.1
  obtain ⟨y1, y2, y3, y4⟩ := cA_y sp.1
  obtain ⟨r1, r2, r3, r4⟩ := sp.2.1.2 i hi
  have in16 : vp_in (Int32.ofNat i) 16 := vpi_of (by omega) (by decide)
  have ep := i64_of32 (CP C i)
  have eq := i64_of32 (CQ C i)
  have hv : vdF C i = vdW C i (pth (CX C) (CY C) C.1 (CX C i) (CY C i)) := by
    unfold vdF
    rw [hj, if_neg (by decide), pth_at hi hj]
  rw [hv] at hq
  refine ⟨sp.1.1, a + 1, x1, x2, by rw [x4]; exact in16, a + 2, y1, y2, by rw [y4]; exact in16, ?_⟩
  rw [x3, y3, iN_cl (by omega), r1, r2]
  have le := lab_edge (X := CX C) (Y := CY C) hi
  refine K_goFrom hok hn (by omega) (by omega) sp (Or.inl hb) (fun h => absurd le h) (fun _ H' g hg hF hs hf okg => ?_) (fun _ H' hg hF hs => ?_)
  · have n15 : ¬ (0 : Int32) = -15 := by decide
    refine ⟨fun _ => ?_, fun h => absurd h n15⟩
    obtain ⟨N, hs⟩ := hs
    obtain ⟨pp1, pp2, pp3, pp4⟩ := cA_p hs.1
    obtain ⟨qq1, qq2, qq3, qq4⟩ := cA_q hs.1
    obtain ⟨r1, r2, r3, r4⟩ := hs.2.1.2 i hi
    have w1 := hs.1.2.2.2.2.2.2.2.2.2.1
    have t1 := hs.1.2.2.2.2.2.2.2.2.2.2
    refine ⟨hs.1.1, a + 3, pp1, pp2, by rw [pp4]; exact in16, a + 4, qq1, qq2, by rw [qq4]; exact in16, a + 10, t1.1, t1.2, ?_⟩
    rw [t1.1, pp3, qq3, r3, r4]
    refine K_set t1.2 (by omega) (by omega) ?_
    have ro := redF_ok (a := (CP C i).toInt64) (b := (CQ C i).toInt64) (by omega) (by omega)
    have F2 : Fr (fun g x => (g = 400 ∨ g = 401) ∧ x = a + 10) H' (setF H' (a + 10) (redF (CP C i).toInt64 (CQ C i).toInt64)) := Fr_setF ⟨Or.inl rfl, rfl⟩ ⟨Or.inr rfl, rfl⟩
    have hs2 := Fr_SpI F2 (fun g x k => k.1) hs
    have g9 : getF (setF H' (a + 10) (redF (CP C i).toInt64 (CQ C i).toInt64)) (a + 9) = g := by rw [getF_set_ne (by omega)]; exact hf
    have g10 : getF (setF H' (a + 10) (redF (CP C i).toInt64 (CQ C i).toInt64)) (a + 10) = redF (CP C i).toInt64 (CQ C i).toInt64 := getF_setF
    have hFF : Fr (GoS a) H (setF H' (a + 10) (redF (CP C i).toInt64 (CQ C i).toInt64)) := hF.tr (F2.mono fun g x k => Or.inr ⟨k.1, Or.inr k.2⟩)
    generalize setF H' (a + 10) (redF (CP C i).toInt64 (CQ C i).toInt64) = H2 at *
    have e400 : hL H2 400 (a + 10) 0 = (redF (CP C i).toInt64 (CQ C i).toInt64).1 := congrArg Prod.fst g10
    have e401 : hL H2 401 (a + 10) 0 = (redF (CP C i).toInt64 (CQ C i).toInt64).2 := congrArg Prod.snd g10
    have f400 : hL H2 400 (a + 9) 0 = g.1 := congrArg Prod.fst g9
    have f401 : hL H2 401 (a + 9) 0 = g.2 := congrArg Prod.snd g9
    have w1 := hs2.1.2.2.2.2.2.2.2.2.2.1
    have t1 := hs2.1.2.2.2.2.2.2.2.2.2.2
    refine ⟨hs2.1.1, a + 9, w1.1, w1.2, ?_⟩
    rw [w1.1, t1.1]
    refine K_compareWith w1.2 t1.2 (by rw [f401]; exact okg.1) (by rw [e401]; exact ro.1) fun r hr => ?_
    rw [f400, f401, e400, e401] at hr
    have h0 : r = 0 ↔ g = redF (CP C i).toInt64 (CQ C i).toInt64 := by
      rw [i32_zero, hr]; exact cmL_eq okg ro
    have hq' := hq H2 hFF ⟨N, hs2⟩
    unfold vdW at hq'
    rw [hg] at hq'
    simp only at hq'
    refine ⟨fun h => ?_, fun h => ?_⟩
    · rw [if_neg (fun k => h (h0.mpr k))] at hq'; exact hq'
    · rw [if_pos (h0.mp h)] at hq'; exact hq'
  · refine ⟨fun h => absurd rfl h, fun _ => ?_⟩
    have hq' := hq H' hF hs
    unfold vdW at hq'
    rw [hg] at hq'
    exact hq'
/-- the class's claims, judged -/
def CCl (H : HP) (a : Nat) (C : CLM) : Prop := shCl H a ∧ CRw H a C ∧ (∀ i, i < C.1 → hI H 4290 (a + 5) i = bI (jnB (CX C) (CY C) i)) ∧ bun0 H a C ∧ (∀ i, i < C.1 → hI H 4304 (a + 6) i = vdF C i)
abbrev JuS (a : Nat) : Nat → Nat → Prop := fun g x => (g = 4290 ∧ x = a + 5) ∨ (g = 4304 ∧ x = a + 6) ∨ (g = 4320 ∧ x = a + 7) ∨ GoS a g x
theorem fr_bun {S : Nat → Nat → Prop} {H H' : HP} {a : Nat} {C : CLM} (h : Fr S H H') (h0 : ¬ S 4320 (a + 7)) (s : bun H a C) : bun H' a C := fun u hu => by
  rw [h.2.2.2.2.1 _ _ h0]; exact s u hu
theorem fr_bun0 {S : Nat → Nat → Prop} {H H' : HP} {a : Nat} {C : CLM} (h : Fr S H H') (h0 : ¬ S 4320 (a + 7)) (s : bun0 H a C) : bun0 H' a C := by
  rcases s with s | ⟨s1, s2⟩
  · exact Or.inl (fr_bun h h0 s)
  · exact Or.inr ⟨s1, fun u hu => by rw [h.2.2.2.2.1 _ _ h0]; exact s2 u hu⟩
theorem judge3_loop {d n : Nat} {q : HP → Prop} {H0 : HP} {a : Nat} {C : CLM} (hok : okCl n C) (hn : n ≤ 20) (hq : ∀ H', Fr (JuS a) H0 H' → CCl H' a C → q H') : ∀ (k i : Nat) (H : HP), k + i = C.1 → (∃ N, SpI H a C N) → bun H a C → Fr (JuS a) H0 H → (∀ j, j < i → hI H 4304 (a + 6) j = vdF C j) → L_X0_judgeAll_110 (d + 5) q a (Int32.ofNat i) H := by
  have hCn := hok.1
  intro k
  induction k with
  | zero =>
    intro i H hi hs hb hF hv
    obtain ⟨N, hs⟩ := hs
    refine T_X0_judgeAll_110 ?_
    unfold wb_X0_judgeAll_110
    rw [hs.2.1.1, iN_le (by omega) (by omega)]
    exact ⟨hs.1.1, fun _ => hq H hF ⟨hs.1, hs.2.1, hs.2.2.1, Or.inl hb, fun j hj => hv j (by omega)⟩, fun h => by omega⟩
  | succ k ih =>
    intro i H hi hs hb hF hv
    obtain ⟨N, hs⟩ := hs
    obtain ⟨j1, j2, j3, j4⟩ := cA_j hs.1
    obtain ⟨v1, v2, v3, v4⟩ := cA_v hs.1
    have in16 : vp_in (Int32.ofNat i) 16 := vpi_of (by omega) (by decide)
    have nx : ∀ (H2 : HP) (r : Int32), (∃ N, SpI H2 a C N) → bun H2 a C → Fr (JuS a) H0 H2 → (∀ j, j < i → hI H2 4304 (a + 6) j = vdF C j) → r = vdF C i → L_X0_judgeAll_110 (d + 5) q a (Int32.ofNat (i + 1)) (sI H2 4304 (a + 6) i r) := fun H2 r hs2 hb2 hF2 hv2 hr => by
      obtain ⟨N2, hs2⟩ := hs2
      have F : Fr (fun g x => g = 4304 ∧ x = a + 6) H2 (sI H2 4304 (a + 6) i r) := Fr_sI ⟨rfl, rfl⟩
      have hi' := F.2.2.2.2.1
      refine ih (i + 1) _ (by omega) ⟨N2, fr_shCl F hs2.1, fr_CRw F (fun k => by omega) (fun k => by omega) (fun k => by omega) (fun k => by omega) (fun k => by omega) hs2.2.1, fun j hj => ?_, fun u hu => ?_⟩ (fr_bun F (fun k => by omega) hb2) (hF2.tr (F.mono fun g x k => Or.inr (Or.inl k))) fun j hj => ?_
      · rw [hi' _ _ (fun k => by omega)]; exact hs2.2.2.1 j hj
      · rw [hi' _ _ (fun k => by omega)]; exact hs2.2.2.2 u hu
      · rw [hIs_i]
        by_cases e : j = i
        · rw [if_pos e, hr, e]
        · rw [if_neg e]; exact hv2 j (by omega)
    refine T_X0_judgeAll_110 ?_
    unfold wb_X0_judgeAll_110
    rw [hs.2.1.1, iN_le (by omega) (by omega)]
    refine ⟨hs.1.1, fun h => by omega, fun _ => ⟨a + 5, j1, j2, by rw [j4]; exact in16, ?_⟩⟩
    rw [j3, iN_cl (by omega), hs.2.2.1 i (by omega), bI_0, iN_inc (by omega)]
    refine ⟨fun hjf => K_verdictOn hok hn (by omega) hjf hs hb fun H2 hF2 hs2 => ⟨a + 6, v1, ?_, ?_, ?_⟩, fun hjt => ⟨a + 6, v1, v2, by rw [v4]; exact in16, ?_⟩⟩
    · unfold isA; rw [fr_tg hF2]; exact v2
    · have : ln H2 (a + 6) = 16 := by unfold ln; rw [hF2.1]; exact v4
      rw [this]; exact in16
    · rw [fr_tg hF2, v3]
      refine nx H2 _ hs2 (fr_bun hF2 (fun k => by omega) hb) (hF.tr (hF2.mono fun g x k => Or.inr (Or.inr (Or.inr k)))) (fun j hj => ?_) rfl
      rw [hF2.2.2.2.2.1 _ _ (fun k => by omega)]; exact hv j hj
    · rw [v3]
      refine nx H 0 ⟨N, hs⟩ hb hF hv ?_
      unfold vdF
      rw [if_pos (by simpa using hjt)]
/-- what the second loop keeps -/
def J2 (H : HP) (a i : Nat) (C : CLM) : Prop := shCl H a ∧ CRw H a C ∧ (∀ j, j < i → hI H 4290 (a + 5) j = bI (jnB (CX C) (CY C) j)) ∧ (∀ u, u < 20 → hI H 4320 (a + 7) u = Int32.ofNat (lab (CX C) (CY C) i u))
theorem judge2_loop {d n : Nat} {q : HP → Prop} {H0 : HP} {a : Nat} {C : CLM} (hok : okCl n C) (hn : n ≤ 20) (hq : ∀ H', Fr (JuS a) H0 H' → CCl H' a C → q H') : ∀ (k i : Nat) (H : HP), k + i = C.1 → J2 H a i C → Fr (JuS a) H0 H → L_X0_judgeAll_23 (d + 5) q a (Int32.ofNat i) H := by
  have hCn := hok.1
  have hX : ∀ i, i < C.1 → CX C i < 20 ∧ CY C i < 20 := fun i hi => by
    obtain ⟨o1, o2, -⟩ := hok.2 i hi
    omega
  intro k
  induction k with
  | zero =>
    intro i H hi hj hF
    obtain ⟨s, rw', j, b⟩ := hj
    refine T_X0_judgeAll_23 ?_
    unfold wb_X0_judgeAll_23
    rw [rw'.1, iN_le (by omega) (by omega)]
    have e : i = C.1 := by omega
    rw [e] at b j
    exact ⟨s.1, fun _ => judge3_loop hok hn hq C.1 0 H rfl ⟨_, s, rw', j, fun u _ => rfl⟩ b hF (fun j hj => by omega), fun h => by omega⟩
  | succ k ih =>
    intro i H hi hj hF
    obtain ⟨s, rw', j, b⟩ := id hj
    obtain ⟨x1, x2, x3, x4⟩ := cA_x s
    obtain ⟨y1, y2, y3, y4⟩ := cA_y s
    obtain ⟨j1, j2, j3, j4⟩ := cA_j s
    obtain ⟨b1, b2, b3, b4⟩ := cA_b s
    obtain ⟨o1, o2⟩ := hX i (by omega)
    obtain ⟨r1, r2, r3, r4⟩ := rw'.2 i (by omega)
    have in16 : vp_in (Int32.ofNat i) 16 := vpi_of (by omega) (by decide)
    have inX : vp_in (Int32.ofNat (CX C i)) 20 := vpi_of (by omega) (by decide)
    have inY : vp_in (Int32.ofNat (CY C i)) 20 := vpi_of (by omega) (by decide)
    have lX := lab_lt i (CX C i) (fun j hj => hX j (by omega)) o1
    have lY := lab_lt i (CY C i) (fun j hj => hX j (by omega)) o2
    -- the heap with the mark
    have w : ∀ (v : Bool), v = jnB (CX C) (CY C) i → shCl (sI H 4290 (a + 5) i (bI v)) a ∧ CRw (sI H 4290 (a + 5) i (bI v)) a C ∧ (∀ j, j < i + 1 → hI (sI H 4290 (a + 5) i (bI v)) 4290 (a + 5) j = bI (jnB (CX C) (CY C) j)) ∧ (∀ u, u < 20 → hI (sI H 4290 (a + 5) i (bI v)) 4320 (a + 7) u = Int32.ofNat (lab (CX C) (CY C) i u)) ∧ Fr (JuS a) H0 (sI H 4290 (a + 5) i (bI v)) := fun v hv => by
      have F : Fr (fun g x => g = 4290 ∧ x = a + 5) H (sI H 4290 (a + 5) i (bI v)) := Fr_sI ⟨rfl, rfl⟩
      refine ⟨fr_shCl F s, fr_CRw F (fun k => by omega) (fun k => by omega) (fun k => by omega) (fun k => by omega) (fun k => by omega) rw', fun j' hj' => ?_, fun u hu => ?_, hF.tr (F.mono fun g x k => Or.inl k)⟩
      · rw [hIs_i]
        by_cases e : j' = i
        · rw [if_pos e, hv, e]
        · rw [if_neg e]; exact j j' (by omega)
      · rw [F.2.2.2.2.1 _ _ (fun k => by omega)]; exact b u hu
    refine T_X0_judgeAll_23 ?_
    unfold wb_X0_judgeAll_23
    have hle : ¬ Int32.ofNat C.1 ≤ Int32.ofNat i := by rw [iN_le (by omega) (by omega)]; omega
    refine ⟨s.1, fun h => absurd (by rw [rw'.1] at h; exact h) hle, fun _ => ⟨a + 1, x1, x2, by rw [x4]; exact in16, a + 7, b1, b2, ?_, a + 2, y1, y2, by rw [y4]; exact in16, ?_, ?_⟩⟩
    · rw [x3, iN_cl (by omega), r1, b4]; exact inX
    · rw [y3, iN_cl (by omega), r2, b4]; exact inY
    · rw [x3, y3, b3, iN_cl (show i < 2147483648 by omega), r1, r2, iN_cl (show CX C i < 2147483648 by omega), iN_cl (show CY C i < 2147483648 by omega), b (CX C i) o1, b (CY C i) o2, iN_eq (by omega) (by omega), nar0, nar1, iN_inc (by omega)]
      refine ⟨fun he => ?_, fun hne => ?_⟩
      · have hjn : false = jnB (CX C) (CY C) i := (decide_eq_false (fun k => k he)).symm
        obtain ⟨w1, w2, w3, w4, w5⟩ := w false hjn
        have b0 : bI false = 0 := rfl
        rw [b0] at w1 w2 w3 w4 w5
        refine ⟨a + 5, j1, j2, by rw [j4]; exact in16, ?_⟩
        rw [j3]
        generalize sI H 4290 (a + 5) i 0 = H1 at *
        obtain ⟨k1, k2, k3, k4⟩ := cA_j w1
        refine ⟨a + 5, k1, k2, by rw [k4]; exact in16, ?_⟩
        rw [k3, w3 i (by omega), ← hjn]
        refine ⟨fun _ => ih (i + 1) H1 (by omega) ⟨w1, w2, w3, fun u hu => ?_⟩ w5, fun h => absurd rfl h⟩
        rw [w4 u hu]
        show _ = Int32.ofNat (if lab (CX C) (CY C) i u = lab (CX C) (CY C) i (CY C i) then lab (CX C) (CY C) i (CX C i) else lab (CX C) (CY C) i u)
        split
        · rename_i e; rw [e, he]
        · rfl
      · have hjn : true = jnB (CX C) (CY C) i := (decide_eq_true hne).symm
        obtain ⟨w1, w2, w3, w4, w5⟩ := w true hjn
        have b0 : bI true = 1 := rfl
        rw [b0] at w1 w2 w3 w4 w5
        refine ⟨a + 5, j1, j2, by rw [j4]; exact in16, ?_⟩
        rw [j3]
        generalize sI H 4290 (a + 5) i 1 = H1 at *
        obtain ⟨k1, k2, k3, k4⟩ := cA_j w1
        obtain ⟨x1, x2, x3, x4⟩ := cA_x w1
        obtain ⟨y1, y2, y3, y4⟩ := cA_y w1
        obtain ⟨b1, b2, b3, b4⟩ := cA_b w1
        obtain ⟨r1, r2, r3, r4⟩ := w2.2 i (by omega)
        refine ⟨a + 5, k1, k2, by rw [k4]; exact in16, ?_⟩
        rw [k3, w3 i (by omega), ← hjn]
        refine ⟨fun h => (by cases h), fun _ => ⟨a + 1, x1, x2, by rw [x4]; exact in16, a + 7, b1, b2, ?_, a + 2, y1, y2, by rw [y4]; exact in16, ?_, ?_⟩⟩
        · rw [x3, r1, b4]; exact inX
        · rw [y3, r2, b4]; exact inY
        · rw [x3, y3, b3, r1, r2, iN_cl (show CX C i < 2147483648 by omega), iN_cl (show CY C i < 2147483648 by omega), w4 _ o1, w4 _ o2]
          refine K_mergeBunches w1 lX lY (fun u hu => lab_lt i u (fun j hj => hX j (by omega)) hu) w4 fun H2 F2 hv2 => ih (i + 1) H2 (by omega) ⟨fr_shCl F2 w1, fr_CRw F2 (fun k => by omega) (fun k => by omega) (fun k => by omega) (fun k => by omega) (fun k => by omega) w2, fun j' hj' => ?_, hv2⟩ (w5.tr (F2.mono fun g x k => Or.inr (Or.inr (Or.inl k))))
          rw [F2.2.2.2.2.1 _ _ (fun k => by omega)]; exact w3 j' hj'
theorem judge1_loop {d n : Nat} {q : HP → Prop} {H0 : HP} {a : Nat} {C : CLM} (hok : okCl n C) (hn : n ≤ 20) (hq : ∀ H', Fr (JuS a) H0 H' → CCl H' a C → q H') : ∀ (k i : Nat) (H : HP), k + i = 20 → shCl H a → CRw H a C → Fr (JuS a) H0 H → (∀ u, u < i → hI H 4320 (a + 7) u = Int32.ofNat u) → L_X0_judgeAll_2 (d + 5) q a (Int32.ofNat i) H := by
  have e20 : (20 : Int32) = Int32.ofNat 20 := rfl
  intro k
  induction k with
  | zero =>
    intro i H hi s r hF hv
    refine T_X0_judgeAll_2 ?_
    unfold wb_X0_judgeAll_2
    rw [e20, iN_le (by omega) (by omega)]
    exact ⟨fun _ => judge2_loop hok hn hq C.1 0 H rfl ⟨s, r, fun j hj => by omega, fun u hu => hv u (by omega)⟩ hF, fun h => by omega⟩
  | succ k ih =>
    intro i H hi s r hF hv
    obtain ⟨b1, b2, b3, b4⟩ := cA_b s
    refine T_X0_judgeAll_2 ?_
    unfold wb_X0_judgeAll_2
    rw [e20, iN_le (by omega) (by omega)]
    refine ⟨fun h => by omega, fun _ => ⟨s.1, a + 7, b1, b2, by rw [b4]; exact vpi_of (by omega) (by decide), ?_⟩⟩
    rw [b3, iN_cl (by omega), iN_inc (by omega)]
    have F : Fr (fun g x => g = 4320 ∧ x = a + 7) H (sI H 4320 (a + 7) i (Int32.ofNat i)) := Fr_sI ⟨rfl, rfl⟩
    refine ih (i + 1) _ (by omega) (fr_shCl F s) (fr_CRw F (fun k => by omega) (fun k => by omega) (fun k => by omega) (fun k => by omega) (fun k => by omega) r) (hF.tr (F.mono fun g x k => Or.inr (Or.inr (Or.inl k)))) fun u hu => ?_
    rw [hIs_i]
    by_cases e : u = i
    · rw [if_pos e, e]
    · rw [if_neg e]; exact hv u (by omega)
theorem K_judgeAll {d n : Nat} {q : HP → Prop} {H : HP} {a : Nat} {C : CLM} (hok : okCl n C) (hn : n ≤ 20) (s : shCl H a) (r : CRw H a C) (hq : ∀ H', Fr (JuS a) H H' → CCl H' a C → q H') : CV (d + 6) 0 0 mX0_judgeAll [rv (some a)] H q := by
  refine C_X0_judgeAll ?_
  unfold wb_X0_judgeAll_0
  exact judge1_loop hok hn hq 20 0 H rfl s r Fr.rf fun u hu => by omega
