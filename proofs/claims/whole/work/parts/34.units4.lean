
/-- the last of a row of bests -/
def betF (P : Nat → Bool) (B : Nat → Nat → Bool) (i : Nat) (b : Option Nat) : Option Nat := match P i, b with
  | false, b => b
  | true, none => some i
  | true, some j => if B i j = true then some i else some j
def nearF (P : Nat → Bool) (B : Nat → Nat → Bool) : Nat → Nat → Option Nat → Option Nat
  | 0, _, b => b
  | k + 1, i, b => nearF P B k (i + 1) (betF P B i b)
theorem betF_0 {P : Nat → Bool} {B : Nat → Nat → Bool} {i : Nat} {b : Option Nat} (h : P i = false) : betF P B i b = b := by unfold betF; rw [h]
theorem betF_n {P : Nat → Bool} {B : Nat → Nat → Bool} {i : Nat} (h : P i = true) : betF P B i none = some i := by unfold betF; rw [h]
theorem betF_s {P : Nat → Bool} {B : Nat → Nat → Bool} {i j : Nat} (h : P i = true) : betF P B i (some j) = if B i j = true then some i else some j := by unfold betF; rw [h]
def nbI (b : Option Nat) : Int32 := match b with
  | none => -5
  | some j => Int32.ofNat j
def nearP (U : Nat → UV) (one : UV) (most : FR) (i : Nat) : Bool := eq5 (U i).2.1 one.2.1 && !(ltL most.1 most.2 (U i).2.2.1.1 (U i).2.2.1.2)
def nearB (U : Nat → UV) (i j : Nat) : Bool := ltL (U j).2.2.1.1 (U j).2.2.1.2 (U i).2.2.1.1 (U i).2.2.1.2
theorem nearest_loop {d : Nat} {q : HP → Int32 → Prop} {H : HP} {a b c n : Nat} {U : Nat → UV} {u : UV} (ca : CU H a n U) (hok : ∀ i, i < n → okU (U i)) (sb : shUnit H b) (cb : CUn H b u) (tc : tg H c = 4) (fc : 0 < (hL H 401 c 0).toInt) : ∀ (k i : Nat) (o : Option Nat), k + i = n → (∀ j, o = some j → j < n) → q H (nbI (nearF (nearP U u (getF H c)) (nearB U) k i o)) → L_X10_nearestBelow_6 (d + 2) q a (some b) (some c) (nbI o) (Int32.ofNat i) H := by
  obtain ⟨⟨s1, s2, s3, s4⟩, c2, c3, c4⟩ := id ca
  have e20 : (20 : Int32) = Int32.ofNat 20 := rfl
  intro k
  induction k with
  | zero =>
    intro i o hi ho hq
    refine T_X10_nearestBelow_6 ?_
    unfold wb_X10_nearestBelow_6
    rw [c2, iN_le (by omega) (by omega)]
    exact ⟨s1, fun _ => hq, fun h => by omega⟩
  | succ k ih =>
    intro i o hi ho hq
    obtain ⟨r1, r2⟩ := s4 i (by omega)
    have hu := c4 i (by omega)
    have ok := hok i (by omega)
    have f1 : hL H 400 (a + 2 + 5 * i + 3) 0 = (U i).2.2.1.1 := congrArg Prod.fst hu.2.2.2.1
    have f2 : hL H 401 (a + 2 + 5 * i + 3) 0 = (U i).2.2.1.2 := congrArg Prod.snd hu.2.2.2.1
    refine T_X10_nearestBelow_6 ?_
    unfold wb_X10_nearestBelow_6
    rw [c2, iN_le (by omega) (by omega), e20, iN_le (by omega) (by omega), iN_cl (by omega)]
    refine ⟨s1, fun h => by omega, fun _ => ⟨fun h => by omega, fun _ => ⟨a + 1, s2, isA_of s3 (by decide) (by decide), ?_, a + 2 + 5 * i, ?_, r2.1, ?_⟩⟩⟩
    · rw [ln_of s3]; exact vpi_of (by omega) (by omega)
    · rw [tg_of s3]; exact r1
    · rw [tg_of s3, r1, iN_inc (by omega)]
      refine K_isLike r2 sb hu cb ⟨fun e => ?_, fun e => ⟨r2.1, a + 2 + 5 * i + 3, r2.2.2.2.2.2.1, r2.2.2.2.2.2.2.1, ?_⟩⟩
      · refine ih (i + 1) o (by omega) ho ?_
        have : nearP U u (getF H c) i = false := by unfold nearP; rw [e]; rfl
        rw [nearF, betF_0 this] at hq
        exact hq
      · rw [r2.2.2.2.2.2.1]
        refine K_compareWith r2.2.2.2.2.2.2.1 tc (by rw [f2]; exact ok.2.2.2.2.1.1) fc fun r hr => ?_
        rw [f1, f2] at hr
        have hgt : 0 < r ↔ ltL (hL H 400 c 0) (hL H 401 c 0) (U i).2.2.1.1 (U i).2.2.1.2 = true := by
          rw [← cmL_gt, i32_lt, i32_0, hr]
        refine ⟨fun hp => ?_, fun hp => ?_⟩
        · refine ih (i + 1) o (by omega) ho ?_
          have : nearP U u (getF H c) i = false := by unfold nearP; rw [hgt.mp hp]; simp
          rw [nearF, betF_0 this] at hq
          exact hq
        · have hP : nearP U u (getF H c) i = true := by
            unfold nearP
            rw [hgt, Bool.not_eq_true] at hp
            rw [e, hp]; rfl
          refine ⟨fun hb => ?_, fun hb => ?_⟩
          · have ho' : o = none := by
              cases o with
              | none => rfl
              | some j =>
                have := ho j rfl
                have hb : Int32.ofNat j < 0 := hb
                rw [i32_lt, iN_toInt (by omega), i32_0] at hb
                omega
            subst ho'
            rw [nearF, betF_n hP] at hq
            exact ih (i + 1) (some i) (by omega) (fun j hj => by cases hj; omega) hq
          · cases o with
            | none => exact absurd (by decide) hb
            | some j =>
              have hj := ho j rfl
              obtain ⟨q1, q2⟩ := s4 j (by omega)
              have hv := c4 j hj
              have g1 : hL H 400 (a + 2 + 5 * j + 3) 0 = (U j).2.2.1.1 := congrArg Prod.fst hv.2.2.2.1
              have g2 : hL H 401 (a + 2 + 5 * j + 3) 0 = (U j).2.2.1.2 := congrArg Prod.snd hv.2.2.2.1
              have ej : nbI (some j) = Int32.ofNat j := rfl
              rw [ej]
              refine ⟨r2.1, s1, a + 1, s2, isA_of s3 (by decide) (by decide), ?_, a + 2 + 5 * j, ?_, q2.1, a + 2 + 5 * i + 3, r2.2.2.2.2.2.1, r2.2.2.2.2.2.2.1, ?_⟩
              · rw [ln_of s3]; exact vpi_of (by omega) (by omega)
              · rw [tg_of s3, iN_cl (by omega)]; exact q1
              · rw [r2.2.2.2.2.2.1, q2.2.2.2.2.2.1]
                refine K_compareWith r2.2.2.2.2.2.2.1 q2.2.2.2.2.2.2.1 (by rw [f2]; exact ok.2.2.2.2.1.1) (by rw [g2]; exact (hok j hj).2.2.2.2.1.1) fun r' hr' => ?_
                rw [f1, f2, g1, g2] at hr'
                have hgt' : 0 < r' ↔ nearB U i j = true := by
                  unfold nearB
                  rw [← cmL_gt, i32_lt, i32_0, hr']
                have hle : r' ≤ 0 ↔ ¬ 0 < r' := by rw [i32_le, i32_lt, i32_0]; omega
                rw [nearF, betF_s hP] at hq
                refine ⟨fun hx => ?_, fun hx => ?_⟩
                · rw [hle, hgt', Bool.not_eq_true] at hx
                  refine ih (i + 1) (some j) (by omega) ho ?_
                  rw [hx, if_neg (by decide)] at hq
                  exact hq
                · have hx : nearB U i j = true := hgt'.mp (Classical.byContradiction fun k => hx (hle.mpr k))
                  refine ih (i + 1) (some i) (by omega) (fun j hj => by cases hj; omega) ?_
                  rw [if_pos hx] at hq
                  exact hq
theorem K_nearestBelow {d : Nat} {q : HP → Int32 → Prop} {H : HP} {a b c n : Nat} {U : Nat → UV} {u : UV} (ca : CU H a n U) (hok : ∀ i, i < n → okU (U i)) (sb : shUnit H b) (cb : CUn H b u) (tc : tg H c = 4) (fc : 0 < (hL H 401 c 0).toInt) (hq : q H (nbI (nearF (nearP U u (getF H c)) (nearB U) n 0 none))) : CI (d + 3) 0 0 mX10_nearestBelow [rv (some a), rv (some b), rv (some c)] H q := by
  refine C_X10_nearestBelow ?_
  unfold wb_X10_nearestBelow_0
  exact nearest_loop ca hok sb cb tc fc n 0 none (by omega) (fun j hj => by cases hj) hq
