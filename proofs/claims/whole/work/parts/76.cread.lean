
theorem PRp_at {H : HP} {t a p : Nat} {st : PS} (hat : t + 2 ≤ a) (hp : PRp H a st) : PRp (atT H t p) a st := by
  have F1 : Fr (TaS t) H (atT H t p) := Fr_at
  refine ⟨by rw [F1.2.2.2.2.1 _ _ (fun k => by omega)]; exact hp.1, hp.2.1, fun i hi => fr_SRow F1 (fun g x k1 k2 k3 => ?_) (hp.2.2 i hi)⟩
  have d1 := stA_d a i
  omega
theorem part_bad {d : Nat} {a t : Nat} {T : TP} {x2 : Int32} {S : Option (Nat → PS → PRes)} (hat : t + 2 ≤ a) {H : HP} {p : Nat} {st : PS} {q : HP → Option Nat → Prop} (s : shProof H a) (hc : CT H t T p) (hp : PRp H a st) (hle : st.1 ≤ p) (h40 : lk T p ≠ 40) (hq : ∀ H' r, PRs H a t T (pPart S T p st) H' r → q H' r) : CR (d + 5) 0 0 mX4_append [rv (some a), .int (0 : Int32), rv none, rv none] H (fun H16 r18 => (r18 = none → q H16 none) ∧ (∀ a19, r18 = some a19 → tg H16 a19 = 7 ∧ (CZ (d + 5) 0 0 mX6_read [rv r18, rv (some t)] H16 (fun H20 b22 => (b22 = false → q H20 none) ∧ (b22 = true → q H20 r18))))) := by
  have hT := hc.2.2.1
  have hpT := hc.2.2.2.2.1
  have hres : pPart S T p st = (match pAtom T p with
    | .inl f => .inl f
    | .inr (p1, R) => .inr (p1, pushS st (0, 0, 0, false, R))) := by
    unfold pPart
    rw [if_neg h40]
    rcases pAtom T p with f | ⟨p1, R⟩ <;> rfl
  refine K_pappend s hp.1 hp.2.1 (fun hl H1 F1 s1 k1 b1 z1 => ⟨fun k => (by cases k), fun b hb => ?_⟩) (fun h60 => ⟨fun _ => ?_, fun b hb => (by cases hb)⟩)
  · injection hb with hb
    subst hb
    have d1 := stA_d a st.1
    have c1 := fr_CT2 hat F1 hc
    obtain ⟨g0, g1, g2, g3, g4, g5, g6⟩ := id b1
    have ss := (s1.2.2.2.2.2.2.2 st.1 hl).2
    have FP1 : Fr (PaS t a) H H1 := F1.mono fun g x k => ApS_Pa hl k
    have reS : ∀ g x, ReS t (stA a st.1) g x → PaS t a g x := fun g x k => by
      rcases k with k | k | k | k | k | k | k
      · exact Or.inl k
      all_goals exact Or.inr (Or.inr ⟨by omega, by omega⟩)
    have keep : ∀ (H2 : HP), Fr (ReS t (stA a st.1)) H1 H2 → shProof H2 a ∧ hI H2 501 a 0 = Int32.ofNat (st.1 + 1) := fun H2 F2 => by
      refine ⟨fr_shProof F2 (fun k => by omega) s1, ?_⟩
      rw [F2.2.2.2.2.1 _ _ (fun k => by omega)]; exact k1
    refine ⟨ss.1, K_sread (a := stA a st.1) (by omega) ss c1 g6 g5 (fun p1 R1 hr H2 O2 sp2 => ⟨fun k => (by cases k), fun _ => ?_⟩) (fun f hr H2 O2 => ⟨fun _ => ?_, fun k => (by cases k)⟩) (fun f hr hst H2 O2 => ⟨fun k => (by cases k), fun _ => ?_⟩)⟩
    · rw [hr] at hres
      obtain ⟨w1, w2⟩ := keep H2 O2.1
      refine hq H2 _ ⟨FP1.tr (O2.1.mono reS), w1, Or.inl ⟨p1, _, hres, ?_, O2.2.2, w2, by show st.1 + 1 ≤ 60; omega, fun i hi => ?_⟩⟩
      · show some (stA a st.1) = some (stA a (st.1 + 1 - 1))
        rfl
      · have hi : i < st.1 + 1 := hi
        show SRow H2 a i (if i = st.1 then (0, 0, 0, false, R1) else st.2 i)
        by_cases e : i = st.1
        · subst e
          rw [if_pos rfl]
          have hi' := O2.1.2.2.2.2.1
          have hr' := O2.1.2.2.2.2.2.2.2.2
          refine ⟨?_, ?_, ?_, fun j hj => ?_, fun _ => ⟨?_, ?_, sp2⟩, fun k => absurd rfl k⟩
          · rw [hi' _ _ (fun k => by omega)]; exact g0
          · rw [hi' _ _ (fun k => by omega)]; exact g3
          · rw [hi' _ _ (fun k => by omega)]; exact g4
          · rw [hi' _ _ (fun k => by omega)]; exact z1 j hj
          · rw [hr' _ _ (fun k => by omega)]; exact g1
          · rw [hr' _ _ (fun k => by omega)]; exact g2
        · rw [if_neg e]
          have d2 := stA_d a i
          refine fr_SRow O2.1 (fun g x k1 k2 k3 => by omega) (fr_SRow F1 (fun g x k1 k2 k3 => ?_) (hp.2.2 i (by omega)))
          rcases k3 with k3 | k3
          · omega
          · have := k3.1; have := k3.2; omega
    · rw [hr] at hres
      obtain ⟨w1, w2⟩ := keep H2 O2.1
      exact hq H2 _ ⟨FP1.tr (O2.1.mono reS), w1, Or.inr ⟨f, hres, O2.2.2, ⟨st.1 + 1, by omega, w2⟩, Or.inl rfl⟩⟩
    · rw [hr] at hres
      obtain ⟨w1, w2⟩ := keep H2 O2.1
      exact hq H2 _ ⟨FP1.tr (O2.1.mono reS), w1, Or.inr ⟨f, hres, O2.2.2, ⟨st.1 + 1, by omega, w2⟩, Or.inr ⟨hst, st.1, hl, rfl⟩⟩⟩
  · have hl0 : lk T p = 0 := by unfold lk; rw [if_neg (by omega)]
    have ha : pAtom T p = .inl p := by
      have hr : run isLet T 4 p = 0 := (run_zero (by decide)).mpr (by rw [hl0]; decide)
      unfold pAtom pNam
      rw [hl0, if_neg (by decide), hr, if_pos (Or.inl rfl)]; rfl
    rw [ha] at hres
    exact hq H _ ⟨Fr.rf, s, Or.inr ⟨p, hres, hc, ⟨st.1, hp.2.1, hp.1⟩, Or.inl rfl⟩⟩
theorem K_readPart_none {d a t : Nat} {T : TP} (hat : t + 2 ≤ a) : SpreadPart (d + 6) a t T (Int32.ofNat 4) (pPart none T) := by
  intro H p st q s hc hp ok hle hq
  refine C_X4_readPart ?_
  unfold wb_X4_readPart_0
  have h44 : ¬ Int32.ofNat 4 < (4 : Int32) := by decide
  refine ⟨t, rfl, hc.1.1, K_look (k := p) hc (by rw [i32_0]; omega) ⟨fun h40 => ⟨fun k => absurd k h44, fun _ => ?_⟩, fun h40 => ⟨s.1, part_bad (S := none) (x2 := Int32.ofNat 4) hat s hc hp hle h40 hq⟩⟩⟩
  refine hq H _ ⟨Fr.rf, s, Or.inr ⟨p, ?_, hc, ⟨st.1, hp.2.1, hp.1⟩, Or.inl rfl⟩⟩
  unfold pPart; rw [if_pos h40]
theorem K_readPart_some {d a t dep : Nat} {T : TP} {F : Nat → PS → PRes} (hat : t + 2 ≤ a) (hdep : dep < 4) (hP : PInv T F) (hS : SpreadSum (d + 5) a t T (Int32.ofNat (dep + 1)) F) : SpreadPart (d + 6) a t T (Int32.ofNat dep) (pPart (some F) T) := by
  intro H p st q s hc hp ok hle hq
  refine C_X4_readPart ?_
  unfold wb_X4_readPart_0
  have e4 : (4 : Int32) = Int32.ofNat 4 := rfl
  have hlt4 : Int32.ofNat dep < (4 : Int32) := by rw [e4, iN_lt (by omega) (by omega)]; exact hdep
  have hinc : Int32.ofNat dep + (1 : Int32) = Int32.ofNat (dep + 1) := iN_inc (by omega)
  refine ⟨t, rfl, hc.1.1, K_look (k := p) hc (by rw [i32_0]; omega) ⟨fun h40 => ⟨fun _ => ⟨hc.1.1, K_takes hc (fun _ => ?_) (fun k => absurd h40 k)⟩, fun k => absurd hlt4 k⟩, fun h40 => ⟨s.1, part_bad (S := some F) (x2 := Int32.ofNat dep) hat s hc hp hle h40 hq⟩⟩⟩
  have hlt := lk_lt h40 (by decide)
  have hres : pPart (some F) T p st = (match F (p + 1) st with
    | .inl f => .inl f
    | .inr (p1, st1) => if lk T p1 = 41 then .inr (p1 + 1, enclS st1) else .inl p1) := by
    unfold pPart
    rw [if_pos h40]
    simp only
    rcases F (p + 1) st with f | ⟨p1, st1⟩ <;> rfl
  have F1 : Fr (TaS t) H (atT H t (p + 1)) := Fr_at
  have s1 : shProof (atT H t (p + 1)) a := fr_shProof F1 (fun k => by omega) s
  have c1 : CT (atT H t (p + 1)) t T (p + 1) := hc.at hlt
  have hp1 : PRp (atT H t (p + 1)) a st := PRp_at hat hp
  have FF1 : Fr (PaS t a) H (atT H t (p + 1)) := F1.mono fun g x k => Or.inl k
  obtain ⟨v1, v2⟩ := hP (p + 1) st hlt ok
  rw [hinc]
  refine ⟨s1.1, hS _ (p + 1) st _ s1 c1 hp1 ok (by omega) fun H8 r10 hr8 => ?_⟩
  obtain ⟨F8, s8, hh⟩ := hr8
  have FF8 := FF1.tr F8
  rcases hh with ⟨p1, st1, e1, e2, c8, pr8⟩ | ⟨f, e1, c8, hk8, e2⟩
  · obtain ⟨w1, w2, w3, w4, w5, w6⟩ := v2 p1 st1 e1
    rw [e1] at hres
    simp only at hres
    refine ⟨fun k => (by rw [e2] at k; cases k), fun b hb => ⟨c8.1.1, K_takes c8 (fun h41 => ⟨fun _ => ?_, fun k => (by cases k)⟩) (fun h41 => ⟨fun k => (by cases k), fun _ => ?_⟩)⟩⟩
    · rw [e2] at hb
      injection hb with hb
      have d1 := stA_d a (st1.1 - 1)
      have hlt2 := lk_lt h41 (by decide)
      have FA : Fr (TaS t) H8 (atT H8 t (p1 + 1)) := Fr_at
      have sA : shProof (atT H8 t (p1 + 1)) a := fr_shProof FA (fun k => by omega) s8
      have cA : CT (atT H8 t (p1 + 1)) t T (p1 + 1) := c8.at hlt2
      have pA : PRp (atT H8 t (p1 + 1)) a st1 := PRp_at hat pr8
      have hl60 := pr8.2.1
      have ss := (sA.2.2.2.2.2.2.2 (st1.1 - 1) (by omega)).2
      subst hb
      refine ⟨ss.1, ?_⟩
      rw [if_pos h41] at hres
      have FB : Fr (fun g x => g = 703 ∧ x = stA a (st1.1 - 1)) (atT H8 t (p1 + 1)) (sI (atT H8 t (p1 + 1)) 703 (stA a (st1.1 - 1)) 0 1) := Fr_sI ⟨rfl, rfl⟩
      refine hq _ _ ⟨(FF8.tr (FA.mono fun g x k => Or.inl k)).tr (FB.mono fun g x k => Or.inr (Or.inr ⟨by omega, by omega⟩)), fr_shProof FB (fun k => by omega) sA, Or.inl ⟨p1 + 1, enclS st1, hres, e2, fr_CT FB (fun k => by omega) (fun k => by omega) (fun k => by omega) cA, ?_, hl60, fun i hi => ?_⟩⟩
      · rw [FB.2.2.2.2.1 _ _ (fun k => by omega)]; exact pA.1
      · have hi : i < st1.1 := hi
        show SRow _ a i (if i + 1 = st1.1 then enclR (st1.2 i) else st1.2 i)
        by_cases e : i + 1 = st1.1
        · have ei : st1.1 - 1 = i := by omega
          rw [if_pos e]
          obtain ⟨x1, x2, x3, x4, x5, x6⟩ := pA.2.2 i hi
          rw [ei] at FB ⊢
          have hi' := FB.2.2.2.2.1
          have hr' := FB.2.2.2.2.2.2.2.2
          refine ⟨?_, ?_, ?_, fun j hj => ?_, fun k => ⟨?_, ?_, ?_⟩, fun k => ⟨?_, ?_, ?_⟩⟩
          · rw [hi' _ _ (fun k => by omega)]; exact x1
          · rw [hIs_i, if_pos rfl]; rfl
          · rw [hi' _ _ (fun k => by omega)]; exact x3
          · rw [hi' _ _ (fun k => by omega)]; exact x4 j hj
          · rw [hr' _ _ (fun k => by omega)]; exact (x5 k).1
          · rw [hr' _ _ (fun k => by omega)]; exact (x5 k).2.1
          · obtain ⟨y1, y2, y3, y4⟩ := (x5 k).2.2
            refine ⟨?_, ?_, fun j hj => ?_, fun j hj => ?_⟩
            · rw [hi' _ _ (fun k => by omega)]; exact y1
            · rw [hi' _ _ (fun k => by omega)]; exact y2
            · rw [hi' _ _ (fun k => by omega), hi' _ _ (fun k => by omega)]; exact y3 j hj
            · rw [hi' _ _ (fun k => by omega), hi' _ _ (fun k => by omega)]; exact y4 j hj
          · rw [hr' _ _ (fun k => by omega)]; exact (x6 k).1
          · rw [hr' _ _ (fun k => by omega)]; exact (x6 k).2.1
          · rw [hi' _ _ (fun k => by omega)]; exact (x6 k).2.2
        · rw [if_neg e]
          have d2 := stA_d a i
          exact fr_SRow FB (fun g x k1 k2 k3 => by omega) (pA.2.2 i hi)
    · rw [if_neg h41] at hres
      exact hq H8 _ ⟨FF8, s8, Or.inr ⟨p1, hres, c8, ⟨st1.1, pr8.2.1, pr8.1⟩, Or.inl rfl⟩⟩
  · rw [e1] at hres
    rcases e2 with e2 | ⟨hst, j, hj, e2⟩
    · exact ⟨fun _ => hq H8 _ ⟨FF8, s8, Or.inr ⟨f, hres, c8, hk8, Or.inl rfl⟩⟩, fun b hb => (by rw [e2] at hb; cases hb)⟩
    · have ne := stuck_ne hst
      refine ⟨fun k => (by rw [e2] at k; cases k), fun b hb => ⟨c8.1.1, K_takes c8 (fun h41 => absurd h41 ne.2.1) (fun _ => ⟨fun k => (by cases k), fun _ => hq H8 _ ⟨FF8, s8, Or.inr ⟨f, hres, c8, hk8, Or.inl rfl⟩⟩⟩)⟩⟩
theorem Sp_S {d a t : Nat} {T : TP} (hat : t + 2 ≤ a) : ∀ (r dep : Nat), r + dep = 4 → SpreadSum (d + 8 + 3 * r) a t T (Int32.ofNat dep) (pS T r)
  | 0, dep, h => by
    have e : dep = 4 := by omega
    subst e
    have h1 := K_readPart_none (d := d) (T := T) hat
    have h2 := K_readTerm (d := d + 4) hat (PInv_part (S := none) (fun s h => (by cases h))) h1
    exact K_readSum (d := d + 5) hat (PInv_sum (S := none) (fun s h => (by cases h))).1 h2
  | r + 1, dep, h => by
    have ih := Sp_S (d := d) (T := T) hat r (dep + 1) (by omega)
    have hPi : ∀ s, (some (pS T r)) = some s → PInv T s := fun s h => by cases h; exact PInv_S r
    have e1 : d + 8 + 3 * r = (d + 3 + 3 * r) + 5 := by omega
    rw [e1] at ih
    have h1 := K_readPart_some hat (by omega) (PInv_S r) ih
    have h2 := K_readTerm (d := d + 3 + 3 * r + 4) hat (PInv_part hPi) h1
    have h3 := K_readSum (d := d + 3 + 3 * r + 5) hat (PInv_sum hPi).1 h2
    have e2 : d + 3 + 3 * r + 5 + 3 = d + 8 + 3 * (r + 1) := by omega
    rw [e2] at h3
    exact h3
/-- a formula read by the class -/
theorem K_pread {d a t p : Nat} {T : TP} {H : HP} {q : HP → Bool → Prop} (hat : t + 2 ≤ a) (s : shProof H a) (hc : CT H t T p)
    (h1 : ∀ st eq l r, pF T = .inr (st, eq, l, r) → ∀ H' p1, Fr (fun g x => PaS t a g x ∨ (g = 504 ∧ x = a)) H H' → shProof H' a → CT H' t T p1 → PRp H' a st → hI H' 504 a 0 = bI eq → q H' true)
    (h0 : ∀ f, pF T = .inl f → ∀ H', Fr (fun g x => PaS t a g x ∨ (g = 504 ∧ x = a)) H H' → shProof H' a → CT H' t T f → q H' false) : CZ (d + 21) 0 0 mX4_read [rv (some a), rv (some t)] H q := by
  refine C_X4_read ?_
  unfold wb_X4_read_0
  have hsum := Sp_S (d := d) (T := T) hat 4 0 rfl
  have FA : Fr (TaS t) H (atT H t 0) := Fr_at
  have sA : shProof (atT H t 0) a := fr_shProof FA (fun k => by omega) s
  have cA : CT (atT H t 0) t T 0 := hc.at (Nat.zero_le _)
  have FB : Fr (fun g x => g = 501 ∧ x = a) (atT H t 0) (sI (atT H t 0) 501 a 0 0) := Fr_sI ⟨rfl, rfl⟩
  have sB : shProof (sI (atT H t 0) 501 a 0 0) a := fr_shProof FB (fun k => by omega) sA
  have cB : CT (sI (atT H t 0) 501 a 0 0) t T 0 := fr_CT FB (fun k => by omega) (fun k => by omega) (fun k => by omega) cA
  have pB : PRp (sI (atT H t 0) 501 a 0 0) a (0, fun _ => opR 0 0 0) := ⟨by rw [hIs_i, if_pos rfl]; rfl, Nat.zero_le _, fun i hi => (by cases hi)⟩
  have okB : okSt T (0, fun _ => opR 0 0 0) := fun i hi => by cases hi
  have FFB : Fr (PaS t a) H (sI (atT H t 0) 501 a 0 0) := (FA.mono fun g x k => Or.inl k).tr (FB.mono fun g x k => Or.inr (Or.inl k))
  have e0 : atT H t 0 = sI H 802 t 0 (0 : Int32) := rfl
  rw [e0] at sA cB sB pB FFB
  refine ⟨t, rfl, hc.1.1, sA.1, hsum _ 0 _ _ sB cB pB okB (Nat.le_refl _) fun H4 r5 hr4 => ?_⟩
  obtain ⟨F4, s4, hh⟩ := hr4
  have FF4 := FFB.tr F4
  obtain ⟨v1, v2⟩ := PInv_S (T := T) 4 0 (0, fun _ => opR 0 0 0) (Nat.zero_le _) okB
  -- the fields behind the first sum
  have w504 : ∀ (H5 : HP) (b : Bool), Fr (PaS t a) H H5 → shProof H5 a → shProof (sI H5 504 a 0 (bI b)) a ∧ Fr (fun g x => PaS t a g x ∨ (g = 504 ∧ x = a)) H (sI H5 504 a 0 (bI b)) ∧ (∀ p1, CT H5 t T p1 → CT (sI H5 504 a 0 (bI b)) t T p1) ∧ (∀ st, PRp H5 a st → PRp (sI H5 504 a 0 (bI b)) a st) := fun H5 b F5 s5 => by
    have F6 : Fr (fun g x => g = 504 ∧ x = a) H5 (sI H5 504 a 0 (bI b)) := Fr_sI ⟨rfl, rfl⟩
    refine ⟨fr_shProof F6 (fun k => by omega) s5, (F5.mono fun g x k => Or.inl k).tr (F6.mono fun g x k => Or.inr k), fun p1 c => fr_CT F6 (fun k => by omega) (fun k => by omega) (fun k => by omega) c, fun st pp => ⟨by rw [F6.2.2.2.2.1 _ _ (fun k => by omega)]; exact pp.1, pp.2.1, fun i hi => fr_SRow F6 (fun g x k1 k2 k3 => ?_) (pp.2.2 i hi)⟩⟩
    have d2 := stA_d a i
    omega
  rcases hh with ⟨p1, st1, e1, e2, c4, pr4⟩ | ⟨f, e1, c4, hk4, e2⟩
  · obtain ⟨w1, w2, w3, w4, w5, w6⟩ := v2 p1 st1 e1
    have hpF : pF T = (if lk T p1 = 61 then (match pS T 4 (p1 + 1) st1 with
      | .inl f => .inl f
      | .inr (p2, st2) => if p2 < T.1 then .inl p2 else .inr (pushS st2 (opR 5 (st1.1 - 1) (st2.1 - 1)), true, st1.1 - 1, st2.1 - 1))
      else if p1 < T.1 then .inl p1 else .inr (st1, false, 0, 0)) := by
      unfold pF
      rw [e1]
      simp only
      split
      · rcases pS T 4 (p1 + 1) st1 with f | ⟨p2, st2⟩ <;> rfl
      · rfl
    refine ⟨fun k => (by rw [e2] at k; cases k), fun b hb => ⟨c4.1.1, K_takes c4 (fun h61 => ⟨fun k => (by cases k), fun _ => ?_⟩) (fun h61 => ⟨fun _ => ?_, fun k => (by cases k)⟩)⟩⟩
    · -- a sign of equality
      rw [if_pos h61] at hpF
      have hlt := lk_lt h61 (by decide)
      have FC : Fr (TaS t) H4 (atT H4 t (p1 + 1)) := Fr_at
      have sC : shProof (atT H4 t (p1 + 1)) a := fr_shProof FC (fun k => by omega) s4
      have cC : CT (atT H4 t (p1 + 1)) t T (p1 + 1) := c4.at hlt
      have pC : PRp (atT H4 t (p1 + 1)) a st1 := PRp_at hat pr4
      have FFC := FF4.tr (FC.mono fun g x k => (Or.inl k : PaS t a g x))
      unfold wb_X4_read_36
      obtain ⟨y1, y2, y3, y4⟩ := w504 (atT H4 t (p1 + 1)) true FFC sC
      have b1 : bI true = (1 : Int32) := rfl
      rw [b1] at y1 y2 y3 y4
      have e504 : hI (sI (atT H4 t (p1 + 1)) 504 a 0 1) 504 a 0 = 1 := by rw [hIs_i, if_pos rfl]
      have n10 : ¬ (1 : Int32) = 0 := by decide
      refine ⟨a, rfl, sC.1, Or.inr rfl, y1.1, ?_⟩
      rw [e504]
      have y3 := y3 (p1 + 1) cC
      have y4 := y4 st1 pC
      generalize sI (atT H4 t (p1 + 1)) 504 a 0 1 = H5 at *
      obtain ⟨v1', v2'⟩ := PInv_S (T := T) 4 (p1 + 1) st1 hlt w6
      refine ⟨fun _ => hsum H5 (p1 + 1) st1 _ y1 y3 y4 w6 (by omega) fun H6 r6 hr6 => ?_, fun k => absurd k n10⟩
      obtain ⟨F6, s6, hh⟩ := hr6
      have FF6 : Fr (fun g x => PaS t a g x ∨ (g = 504 ∧ x = a)) H H6 := y2.tr (F6.mono fun g x k => Or.inl k)
      have k504 : hI H6 504 a 0 = 1 := by
        rw [F6.2.2.2.2.1 _ _ (fun k => by omega)]; exact e504
      rcases hh with ⟨p2, st2, e3, e4, c6, pr6⟩ | ⟨f, e3, c6, hk6, e4⟩
      · obtain ⟨u1, u2, u3, u4, u5, u6⟩ := v2' p2 st2 e3
        rw [e3] at hpF
        simp only at hpF
        refine ⟨fun k => (by rw [e4] at k; cases k), fun b6 hb6 => ⟨s6.1, ?_⟩⟩
        have hT60 := c6.2.2.1
        rw [e2, e4]
        refine K_pappend s6 pr6.1 pr6.2.1 (fun hl H8 F8 s8 k8 b8 z8 => ⟨fun k => (by cases k), fun b9 hb9 => ?_⟩) (fun h60 => by omega)
        have c8 := fr_CT2 hat F8 c6
        have pp8 := PRp_push (kd := 5) (l := st1.1 - 1) (r := st2.1 - 1) pr6 hl F8 k8 b8 z8 (by decide)
        have FF8 : Fr (fun g x => PaS t a g x ∨ (g = 504 ∧ x = a)) H H8 := FF6.tr (F8.mono fun g x k => Or.inl (ApS_Pa hl k))
        have k8' : hI H8 504 a 0 = 1 := by
          rw [F8.2.2.2.2.1 _ _ (fun k => ?_)]
          · exact k504
          · have d2 := stA_d a st2.1
            rcases k with k | k
            · omega
            · have := k.1; omega
        refine ⟨t, rfl, c8.1.1, K_isAtEnd c8 ⟨fun he => ?_, fun he => ?_⟩⟩
        · have he := of_decide_eq_false he
          rw [if_pos (by omega)] at hpF
          exact h0 p2 hpF H8 FF8 s8 c8
        · have he := of_decide_eq_true he
          rw [if_neg (by omega)] at hpF
          exact h1 _ _ _ _ hpF H8 p2 FF8 s8 c8 pp8 k8'
      · rw [e3] at hpF
        rcases e4 with e4 | ⟨hst, j, hj, e4⟩
        · exact ⟨fun _ => h0 f hpF H6 FF6 s6 c6, fun b6 hb6 => (by rw [e4] at hb6; cases hb6)⟩
        · have ne := stuck_ne hst
          have hlf : f < T.1 := lk_lt rfl ne.2.2.2.2.2.2.2
          refine ⟨fun k => (by rw [e4] at k; cases k), fun b6 hb6 => ⟨s6.1, ?_⟩⟩
          obtain ⟨k6, hk6l, hk6⟩ := hk6
          rw [e2]
          refine K_pappend s6 hk6 hk6l (fun hl H8 F8 s8 k8 b8 z8 => ⟨fun k => (by cases k), fun b9 hb9 => ?_⟩) (fun h60 => ⟨fun _ => h0 f hpF H6 FF6 s6 c6, fun b9 hb9 => (by cases hb9)⟩)
          have c8 := fr_CT2 hat F8 c6
          have FF8 : Fr (fun g x => PaS t a g x ∨ (g = 504 ∧ x = a)) H H8 := FF6.tr (F8.mono fun g x k => Or.inl (ApS_Pa hl k))
          refine ⟨t, rfl, c8.1.1, K_isAtEnd c8 ⟨fun he => h0 f hpF H8 FF8 s8 c8, fun he => ?_⟩⟩
          have he := of_decide_eq_true he
          omega
    · -- none
      rw [if_neg h61] at hpF
      unfold wb_X4_read_36
      obtain ⟨y1, y2, y3, y4⟩ := w504 H4 false FF4 s4
      have b0 : bI false = (0 : Int32) := rfl
      rw [b0] at y1 y2 y3 y4
      have e504 : hI (sI H4 504 a 0 0) 504 a 0 = 0 := by rw [hIs_i, if_pos rfl]
      have y3 := y3 p1 c4
      have y4 := y4 st1 pr4
      refine ⟨a, rfl, s4.1, Or.inl rfl, y1.1, ?_⟩
      rw [e504]
      refine ⟨fun k => absurd rfl k, fun _ => ⟨fun k => (by rw [e2] at k; cases k), fun b5 hb5 => ⟨t, rfl, y3.1.1, K_isAtEnd y3 ⟨fun he => ?_, fun he => ?_⟩⟩⟩⟩
      · have he := of_decide_eq_false he
        rw [if_pos (by omega)] at hpF
        exact h0 p1 hpF _ y2 y1 y3
      · have he := of_decide_eq_true he
        rw [if_neg (by omega)] at hpF
        exact h1 _ _ _ _ hpF _ p1 y2 y1 y3 y4 e504
  · have hpF : pF T = .inl f := by unfold pF; rw [e1]
    -- a fault
    have fin : ∀ (o : Option Nat), (o = none ∨ f < T.1) → wb_X4_read_36 (d + 20) q a (some t) o (some a) (0 : Int32) H4 := fun o ho => by
      unfold wb_X4_read_36
      obtain ⟨y1, y2, y3, y4⟩ := w504 H4 false FF4 s4
      have b0 : bI false = (0 : Int32) := rfl
      rw [b0] at y1 y2 y3 y4
      have y3 := y3 f c4
      have e504 : hI (sI H4 504 a 0 0) 504 a 0 = 0 := by rw [hIs_i, if_pos rfl]
      refine ⟨a, rfl, s4.1, Or.inl rfl, y1.1, ?_⟩
      rw [e504]
      refine ⟨fun k => absurd rfl k, fun _ => ⟨fun _ => h0 f hpF _ y2 y1 y3, fun b5 hb5 => ⟨t, rfl, y3.1.1, K_isAtEnd y3 ⟨fun he => h0 f hpF _ y2 y1 y3, fun he => ?_⟩⟩⟩⟩
      have he := of_decide_eq_true he
      rcases ho with ho | ho
      · rw [ho] at hb5; cases hb5
      · omega
    rcases e2 with e2 | ⟨hst, j, hj, e2⟩
    · exact ⟨fun _ => fin r5 (Or.inl e2), fun b hb => (by rw [e2] at hb; cases hb)⟩
    · have ne := stuck_ne hst
      have hlf : f < T.1 := lk_lt rfl ne.2.2.2.2.2.2.2
      refine ⟨fun k => (by rw [e2] at k; cases k), fun b hb => ⟨c4.1.1, K_takes c4 (fun h61 => absurd h61 ne.2.2.2.2.2.2.1) (fun _ => ⟨fun _ => fin r5 (Or.inr hlf), fun k => (by cases k)⟩)⟩⟩
