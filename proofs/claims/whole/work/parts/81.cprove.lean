
/-! ===== the class: all steps judged ===== -/
def KRow (H : HP) (a i : Nat) (r : RS) : Prop := hI H 700 (stA a i) 0 = Int32.ofNat r.1 ∧ hI H 703 (stA a i) 0 = bI r.2.2.2.1 ∧ (r.1 = 0 → hR H 701 (stA a i) 0 = none ∧ hR H 702 (stA a i) 0 = none ∧ SPr H (stA a i) r.2.2.2.2) ∧ (r.1 ≠ 0 → hR H 701 (stA a i) 0 = some (stA a r.2.1) ∧ hR H 702 (stA a i) 0 = some (stA a r.2.2.1) ∧ hI H 705 (stA a i) 0 = 0)
theorem KRow_of {H : HP} {a i : Nat} {r : RS} (h : SRow H a i r) : KRow H a i r := ⟨h.1, h.2.1, h.2.2.2.2.1, h.2.2.2.2.2⟩
theorem fr_SPr' {S : Nat → Nat → Prop} {H H' : HP} {a : Nat} {R : PRow} (h : Fr S H H') (h1 : ¬ S 705 a) (h2 : ¬ S 706 a) (h3 : ¬ S 4480 (a + 1)) (h4 : ¬ S 4496 (a + 2)) (h5 : ¬ S 4512 (a + 3)) (h6 : ¬ S 4528 (a + 4)) (s : SPr H a R) : SPr H' a R := by
  have hi := h.2.2.2.2.1
  obtain ⟨s1, s2, s3, s4⟩ := s
  refine ⟨?_, ?_, fun i k => ?_, fun i k => ?_⟩
  · rw [hi _ _ h1]; exact s1
  · rw [hi _ _ h2]; exact s2
  · rw [hi _ _ h3, hi _ _ h4]; exact s3 i k
  · rw [hi _ _ h5, hi _ _ h6]; exact s4 i k
theorem fr_KRow {S : Nat → Nat → Prop} {H H' : HP} {a i : Nat} {r : RS} (h : Fr S H H') (h1 : ∀ g x, (g = 700 ∨ g = 701 ∨ g = 702 ∨ g = 703 ∨ g = 705 ∨ g = 706 ∨ g = 4480 ∨ g = 4496 ∨ g = 4512 ∨ g = 4528) → stA a i ≤ x → x < stA a i + 7 → ¬ S g x) (s : KRow H a i r) : KRow H' a i r := by
  have hi := h.2.2.2.2.1
  have hr := h.2.2.2.2.2.2.2.2
  obtain ⟨s1, s2, s3, s4⟩ := s
  refine ⟨?_, ?_, fun k => ⟨?_, ?_, fr_SPr' h (h1 _ _ (by decide) (by omega) (by omega)) (h1 _ _ (by decide) (by omega) (by omega)) (h1 _ _ (by decide) (by omega) (by omega)) (h1 _ _ (by decide) (by omega) (by omega)) (h1 _ _ (by decide) (by omega) (by omega)) (h1 _ _ (by decide) (by omega) (by omega)) (s3 k).2.2⟩, fun k => ⟨?_, ?_, ?_⟩⟩
  · rw [hi _ _ (h1 _ _ (by decide) (by omega) (by omega))]; exact s1
  · rw [hi _ _ (h1 _ _ (by decide) (by omega) (by omega))]; exact s2
  · rw [hr _ _ (h1 _ _ (by decide) (by omega) (by omega))]; exact (s3 k).1
  · rw [hr _ _ (h1 _ _ (by decide) (by omega) (by omega))]; exact (s3 k).2.1
  · rw [hr _ _ (h1 _ _ (by decide) (by omega) (by omega))]; exact (s4 k).1
  · rw [hr _ _ (h1 _ _ (by decide) (by omega) (by omega))]; exact (s4 k).2.1
  · rw [hi _ _ (h1 _ _ (by decide) (by omega) (by omega))]; exact (s4 k).2.2
/-- the rows while they are judged: n of them are -/
def LIx (H : HP) (a : Nat) (st : PS) (F : Nat → Nat → Option Nat) (U : Nat → UV) (V : Nat → JV) (n : Nat) : Prop := hI H 501 a 0 = Int32.ofNat st.1 ∧ st.1 ≤ 60 ∧ (∀ i, i < st.1 → KRow H a i (st.2 i)) ∧ (∀ i, n ≤ i → i < st.1 → hI H 704 (stA a i) 0 = 0 ∧ ∀ j, j < 5 → hI H 4544 (stA a i + 5) j = 0) ∧ (∀ i, i < n → hI H 704 (stA a i) 0 = bI (shR F U (st.2 i)) ∧ JV5 H (stA a i) (V i) ∧ okV (V i))
theorem LIx_0 {H : HP} {a : Nat} {st : PS} {F : Nat → Nat → Option Nat} {U : Nat → UV} {V : Nat → JV} (h : PRp H a st) : LIx H a st F U V 0 := ⟨h.1, h.2.1, fun i hi => KRow_of (h.2.2 i hi), fun i _ hi => ⟨(h.2.2 i hi).2.2.1, (h.2.2 i hi).2.2.2.1⟩, fun i hi => by omega⟩
abbrev PvS (a : Nat) : Nat → Nat → Prop := fun g x => ((g = 502 ∨ g = 503) ∧ x = a) ∨ (g = 4630 ∧ x = a + 2) ∨ ((g = 704 ∨ g = 4544 ∨ g = 400 ∨ g = 401) ∧ a + 3 ≤ x ∧ x < a + 424)
theorem K_judge {d : Nat} {q : HP → Int32 → Prop} {H : HP} {a n : Nat} {ad : Nat → Nat} {T : TP} {st : PS} {F : Nat → Nat → Option Nat} {U : Nat → UV} {V : Nat → JV} (sp : shProof H a) (L : LIx H a st F U V n) (hn : n < st.1) (ok : okSt T st) (hal : (st.2 n).1 = 0 → allU F (st.2 n).2.2.2.2 ∧ Fnd H (a + 2) (st.2 n).2.2.2.2.1 ad (uR F U (st.2 n).2.2.2.2) ∧ ∀ i, ad i + 5 ≤ a) (hq : ∀ H' r, JO H (stA a n) (a + 3) (shR F U (st.2 n)) (jRow F U st V n) H' r → q H' r) : CI (d + 5) 0 0 mX6_judge [rv (some (stA a n)), rv (some (a + 2)), rv (some (a + 3))] H q := by
  obtain ⟨s1, s2, s3, s4, s5, s6, s7, s8⟩ := sp
  obtain ⟨L1, L2, L3, L4, L5⟩ := L
  have ss := (s8 n (by omega)).2
  obtain ⟨k1, k2, k3, k4⟩ := L3 n hn
  obtain ⟨z1, z2⟩ := L4 n (Nat.le_refl _) hn
  have dn := stA_d a n
  refine C_X6_judge ?_
  unfold wb_X6_judge_0
  have e1 : (1 : Int32) = Int32.ofNat 1 := rfl
  have e2 : (2 : Int32) = Int32.ofNat 2 := rfl
  by_cases c0 : (st.2 n).1 = 0
  · obtain ⟨g1, g2, g3⟩ := k3 c0
    obtain ⟨a1, a2, a3⟩ := hal c0
    have okr : okP T (st.2 n).2.2.2.2 := by
      rcases ok n hn with h | h
      · exact h.2
      · omega
    have hm := okr.1
    have ej : jRow F U st V n = (if (st.2 n).2.2.2.2.1 = 0 then .inr (fun _ => 0, thF ((st.2 n).2.2.2.2.2.1 0)) else if (st.2 n).2.2.2.2.1 = 1 then jSingle (uR F U (st.2 n).2.2.2.2 0) (st.2 n).2.2.2.2.2.2.2.2 ((st.2 n).2.2.2.2.2.1 0) else jMixed (st.2 n).2.2.2.2.1 (uR F U (st.2 n).2.2.2.2) (st.2 n).2.2.2.2.2.1) := by
      unfold jRow jAtom
      rw [if_pos c0, if_pos a1]
    have esh : shR F U (st.2 n) = (decide ((st.2 n).2.2.2.2.1 = 1) && offU (uR F U (st.2 n).2.2.2.2 0)) := by
      unfold shR
      rw [c0]; rfl
    rw [ej, esh] at hq
    have ec : (0 : Int32).toNatClampNeg = 0 := rfl
    rw [g3.1, e1, iN_le (by omega) (by omega)]
    refine ⟨ss.1, fun _ => ⟨fun h => ⟨a + 2, rfl, isA_of s5 (by decide) (by decide), by rw [ln_of s5]; exact vpi_of (n := 0) (m := 4) (by decide) (by decide), ?_⟩, fun h => ?_⟩, fun x hx => (by rw [g1] at hx; cases hx)⟩
    · rw [tg_of s5, ec]
      refine K_judgeSingle (T := T) (ad := ad 0) (u := uR F U (st.2 n).2.2.2.2 0) (sp := a + 3) ss g3 okr z2 z1 h (fun hm1 => ?_) (by omega) fun H' r hJ => hq H' r ?_
      · obtain ⟨f1, f2, f3, f4⟩ := a2.2 0 (by omega)
        exact ⟨f1, f2, f3, f4, by have := a3 0; omega⟩
      · have : (if (st.2 n).2.2.2.2.1 = 0 then (.inr (fun _ => 0, thF ((st.2 n).2.2.2.2.2.1 0)) : JR) else jSingle (uR F U (st.2 n).2.2.2.2 0) (st.2 n).2.2.2.2.2.2.2.2 ((st.2 n).2.2.2.2.2.1 0)) = (if (st.2 n).2.2.2.2.1 = 0 then .inr (fun _ => 0, thF ((st.2 n).2.2.2.2.2.1 0)) else if (st.2 n).2.2.2.2.1 = 1 then jSingle (uR F U (st.2 n).2.2.2.2 0) (st.2 n).2.2.2.2.2.2.2.2 ((st.2 n).2.2.2.2.2.1 0) else jMixed (st.2 n).2.2.2.2.1 (uR F U (st.2 n).2.2.2.2) (st.2 n).2.2.2.2.2.1) := by
          by_cases h0 : (st.2 n).2.2.2.2.1 = 0
          · rw [if_pos h0, if_pos h0]
          · rw [if_neg h0, if_neg h0, if_pos (by omega)]
        rw [← this]; exact hJ
    · have c1 : ¬ (st.2 n).2.2.2.2.1 = 1 := by omega
      rw [if_neg (by omega), if_neg c1] at hq
      have ed : (decide ((st.2 n).2.2.2.2.1 = 1) && offU (uR F U (st.2 n).2.2.2.2 0)) = false := by
        rw [decide_eq_false c1]; rfl
      rw [ed] at hq
      exact K_judgeMixed ss g3 okr z1 (by omega) s7 a2 (fun i _ => by have := a3 i; omega) (by omega) hq
  · obtain ⟨g1, g2, g3⟩ := k4 c0
    have okr : 1 ≤ (st.2 n).1 ∧ (st.2 n).1 ≤ 5 ∧ (st.2 n).2.1 < n ∧ (st.2 n).2.2.1 < n := by
      rcases ok n hn with h | h
      · exact absurd h.1 c0
      · exact h
    obtain ⟨o1, o2, o3, o4⟩ := okr
    have esh : shR F U (st.2 n) = false := by
      unfold shR
      rw [decide_eq_false c0]; rfl
    rw [esh] at hq
    obtain ⟨l1, l2, l3⟩ := L5 _ o3
    obtain ⟨r1, r2, r3⟩ := L5 _ o4
    have dl := stA_d a (st.2 n).2.1
    have dr := stA_d a (st.2 n).2.2.1
    have sd : Sides H (stA a n) (a + 3) (stA a (st.2 n).2.1) (stA a (st.2 n).2.2.1) (V (st.2 n).2.1) (V (st.2 n).2.2.1) (shR F U (st.2 (st.2 n).2.1)) (st.2 (st.2 n).2.1).2.2.2.1 (shR F U (st.2 (st.2 n).2.2.1)) (st.2 (st.2 n).2.2.1).2.2.2.1 := ⟨ss, (s8 _ (by omega)).2, (s8 _ (by omega)).2, by omega, by omega, by omega, by omega, g1, g2, l2, r2, l3, r3, l1, (L3 _ (by omega)).2.1, r1, (L3 _ (by omega)).2.1, z1⟩
    rw [g1, g2, k1, e1, e2]
    refine ⟨ss.1, fun c => (by cases c), fun x hx => ⟨fun c => (by cases c), fun y hy => ⟨fun c => ?_, fun c => ⟨fun c' => ?_, fun c' => ?_⟩⟩⟩⟩
    · have hk : (st.2 n).1 = 1 := by
        have := congrArg Int32.toInt c
        rw [iN_toInt (by omega), iN_toInt (by omega)] at this; omega
      refine K_judgeProduct (dv := false) sd ?_ fun H' w h => hq H' w ?_
      · rw [k1, hk]
        exact propext ⟨fun h => absurd h (by decide), fun h => (by cases h)⟩
      · unfold jRow
        rw [if_neg c0, if_pos (Or.inl hk), hk]
        exact h
    · have hk1 : ¬ (st.2 n).1 = 1 := fun h => c (by rw [h])
      have hk2 : ¬ (st.2 n).1 = 2 := fun h => c' (by rw [h])
      refine K_judgeSum (mn := decide ((st.2 n).1 ≠ 3)) sd ?_ fun H' w h => hq H' w ?_
      · rw [k1]
        have e3 : (3 : Int32) = Int32.ofNat 3 := rfl
        rw [e3]
        refine propext ⟨fun h => ?_, fun h => ?_⟩
        · have := congrArg Int32.toInt h
          rw [iN_toInt (by omega), iN_toInt (by omega)] at this
          exact decide_eq_false (fun k => k (by omega))
        · have := of_decide_eq_false h
          have h3 : (st.2 n).1 = 3 := by omega
          rw [h3]
      · unfold jRow
        rw [if_neg c0, if_neg (fun k => k.elim hk1 hk2)]
        exact h
    · have hk : (st.2 n).1 = 2 := by
        have := congrArg Int32.toInt c'
        rw [iN_toInt (by omega), iN_toInt (by omega)] at this; omega
      refine K_judgeProduct (dv := true) sd ?_ fun H' w h => hq H' w ?_
      · rw [k1, hk]
        exact propext ⟨fun _ => rfl, fun _ => rfl⟩
      · unfold jRow
        rw [if_neg c0, if_pos (Or.inr hk), hk]
        exact h
theorem orR_ne {p : Nat → Int32} {o : Option FR} {w : Int32} (h : orR p o = .inl w) : w ≠ 0 := by
  cases o with
  | none => cases h; decide
  | some f => cases h
theorem jAtom_ne {F : Nat → Nat → Option Nat} {U : Nat → UV} {R : PRow} {w : Int32} (h : jAtom F U R = .inl w) : w ≠ 0 := by
  unfold jAtom at h
  by_cases ha : allU F R
  · rw [if_pos ha] at h
    by_cases h0 : R.1 = 0
    · rw [if_pos h0] at h; cases h
    · rw [if_neg h0] at h
      by_cases h1 : R.1 = 1
      · rw [if_pos h1] at h
        unfold jSingle at h
        by_cases c1 : offU (uR F U R 0) = true ∧ 1 < R.2.2.2.2
        · rw [if_pos c1] at h; cases h; decide
        · rw [if_neg c1] at h
          by_cases c2 : wide 5 (sngP (uR F U R 0) R.2.2.2.2) 18 = true
          · rw [if_pos c2] at h; cases h; decide
          · rw [if_neg c2] at h
            cases hp : powF (uR F U R 0).2.2.1 R.2.2.2.2 (thF (R.2.1 0)) with
            | none => rw [hp] at h; cases h; decide
            | some f => rw [hp] at h; exact orR_ne h
      · rw [if_neg h1] at h
        unfold jMixed at h
        by_cases c1 : mixW R.1 (uR F U R) = 0
        · rw [if_pos c1] at h; exact orR_ne h
        · rw [if_neg c1] at h; cases h; exact c1
  · rw [if_neg ha] at h; cases h; decide
theorem jProd_ne {bad dv : Bool} {l r : JV} {w : Int32} (h : jProd bad dv l r = .inl w) : w ≠ 0 := by
  unfold jProd at h
  by_cases c1 : bad = true
  · rw [if_pos c1] at h; cases h; decide
  · rw [if_neg c1] at h
    by_cases c2 : dv = true ∧ r.2.1 = 0
    · rw [if_pos c2] at h; cases h; decide
    · rw [if_neg c2] at h
      by_cases c3 : wide 5 (prdP dv l r) 18 = true
      · rw [if_pos c3] at h; cases h; decide
      · rw [if_neg c3] at h; exact orR_ne h
theorem jSum_ne {mn : Bool} {l r : JV} {w : Int32} (h : jSum mn l r = .inl w) : w ≠ 0 := by
  unfold jSum at h
  by_cases c1 : eq5 l.1 r.1 = true
  · rw [if_pos c1] at h; exact orR_ne h
  · rw [if_neg c1] at h; cases h; decide
theorem jRow_ne {F : Nat → Nat → Option Nat} {U : Nat → UV} {st : PS} {V : Nat → JV} {n : Nat} {w : Int32} (h : jRow F U st V n = .inl w) : w ≠ 0 := by
  unfold jRow at h
  by_cases c0 : (st.2 n).1 = 0
  · rw [if_pos c0] at h; exact jAtom_ne h
  · rw [if_neg c0] at h
    by_cases c1 : (st.2 n).1 = 1 ∨ (st.2 n).1 = 2
    · rw [if_pos c1] at h; exact jProd_ne h
    · rw [if_neg c1] at h; exact jSum_ne h
theorem jA_succ {F : Nat → Nat → Option Nat} {U : Nat → UV} {st : PS} (n : Nat) : jA F U st (n + 1) = jStep (jA F U st n) (jRow F U st (jA F U st n).2.2 n) := rfl
theorem jA_stop {F : Nat → Nat → Option Nat} {U : Nat → UV} {st : PS} {n : Nat} (h : (jA F U st n).1 ≠ 0) : ∀ k, jA F U st (n + k) = jA F U st n
  | 0 => rfl
  | k + 1 => by
    have ih := jA_stop h k
    show jStep (jA F U st (n + k)) _ = _
    rw [ih]
    unfold jStep
    rw [if_neg h]
theorem jA_held {F : Nat → Nat → Option Nat} {U : Nat → UV} {st : PS} : ∀ n, (jA F U st n).2.1 ≤ n ∧ ((jA F U st n).1 = 0 → (jA F U st n).2.1 = n)
  | 0 => ⟨Nat.le_refl _, fun _ => rfl⟩
  | n + 1 => by
    obtain ⟨h1, h2⟩ := jA_held n (F := F) (U := U) (st := st)
    rw [jA_succ]
    unfold jStep
    by_cases c : (jA F U st n).1 = 0
    · rw [if_pos c]
      cases hr : jRow F U st (jA F U st n).2.2 n with
      | inl w => exact ⟨by show (jA F U st n).2.1 ≤ n + 1; omega, fun k => absurd k (jRow_ne hr)⟩
      | inr v => exact ⟨by show (jA F U st n).2.1 + 1 ≤ n + 1; omega, fun _ => by show (jA F U st n).2.1 + 1 = n + 1; rw [h2 c]⟩
    · rw [if_neg c]
      exact ⟨by omega, fun k => absurd k c⟩
/-- what is left when all is judged -/
def PVd (H : HP) (a : Nat) (st : PS) (J : JS) : Prop := hI H 501 a 0 = Int32.ofNat st.1 ∧ st.1 ≤ 60 ∧ hI H 502 a 0 = Int32.ofNat J.2.1 ∧ hI H 503 a 0 = J.1 ∧ (∀ i, i < st.1 → KRow H a i (st.2 i)) ∧ ∀ i, i < J.2.1 → JV5 H (stA a i) (J.2.2 i) ∧ okV (J.2.2 i)
/-- a frame that leaves the rows as they are -/
theorem fr_LIx {S : Nat → Nat → Prop} {H H' : HP} {a n : Nat} {st : PS} {F : Nat → Nat → Option Nat} {U : Nat → UV} {V : Nat → JV} (h : Fr S H H') (h1 : ¬ S 501 a) (h2 : ∀ g x, a + 4 ≤ x → ¬ S g x) (L : LIx H a st F U V n) : LIx H' a st F U V n := by
  obtain ⟨L1, L2, L3, L4, L5⟩ := L
  have hi := h.2.2.2.2.1
  refine ⟨by rw [hi _ _ h1]; exact L1, L2, fun i k => ?_, fun i k1 k2 => ⟨?_, fun j k3 => ?_⟩, fun i k => ⟨?_, ?_, (L5 i k).2.2⟩⟩
  · have := stA_d a i
    exact fr_KRow h (fun g x _ k1 k2 => h2 _ _ (by omega)) (L3 i k)
  · have := stA_d a i
    rw [hi _ _ (h2 _ _ (by omega))]; exact (L4 i k1 k2).1
  · have := stA_d a i
    rw [hi _ _ (h2 _ _ (by omega))]; exact (L4 i k1 k2).2 j k3
  · have := stA_d a i
    rw [hi _ _ (h2 _ _ (by omega))]; exact (L5 i k).1
  · have := stA_d a i
    exact fr_JV5 h (h2 _ _ (by omega)) (h2 _ _ (by omega)) (h2 _ _ (by omega)) (L5 i k).2.1
/-- one row judged -/
theorem LIx_next {H H' : HP} {a n : Nat} {st : PS} {F : Nat → Nat → Option Nat} {U : Nat → UV} {V : Nat → JV} (h : Fr (JgS (stA a n) (a + 3)) H H') (L : LIx H a st F U V n) : hI H' 501 a 0 = Int32.ofNat st.1 ∧ (∀ i, i < st.1 → KRow H' a i (st.2 i)) ∧ (∀ i, i < n → JV5 H' (stA a i) (V i) ∧ okV (V i)) ∧ (∀ v, JV5 H' (stA a n) v → okV v → hI H' 704 (stA a n) 0 = bI (shR F U (st.2 n)) → LIx H' a st F U (setV V n v) (n + 1)) := by
  obtain ⟨L1, L2, L3, L4, L5⟩ := L
  have hi := h.2.2.2.2.1
  have dn := stA_d a n
  have c1 : hI H' 501 a 0 = Int32.ofNat st.1 := by rw [hi _ _ (fun k => by omega)]; exact L1
  have c3 : ∀ i, i < st.1 → KRow H' a i (st.2 i) := fun i k => by
    have := stA_d a i
    exact fr_KRow h (fun g x k1 k2 k3 k4 => by omega) (L3 i k)
  have c5 : ∀ i, i < n → JV5 H' (stA a i) (V i) ∧ okV (V i) := fun i k => by
    have := stA_d a i
    exact ⟨fr_JV5 h (fun k => by omega) (fun k => by omega) (fun k => by omega) (L5 i k).2.1, (L5 i k).2.2⟩
  refine ⟨c1, c3, c5, fun v hv ov h4 => ⟨c1, L2, c3, fun i k1 k2 => ⟨?_, fun j k3 => ?_⟩, fun i k => ?_⟩⟩
  · have := stA_d a i
    rw [hi _ _ (fun k => by omega)]; exact (L4 i (by omega) k2).1
  · have := stA_d a i
    rw [hi _ _ (fun k => by omega)]; exact (L4 i (by omega) k2).2 j k3
  · show _ ∧ JV5 H' (stA a i) (if i = n then v else V i) ∧ okV (if i = n then v else V i)
    by_cases e : i = n
    · subst e
      rw [if_pos rfl]; exact ⟨h4, hv, ov⟩
    · rw [if_neg e]
      have := stA_d a i
      refine ⟨?_, c5 i (by omega)⟩
      rw [hi _ _ (fun k => by omega)]; exact (L5 i (by omega)).1
theorem JgPv {a n g x : Nat} (hn : n < 60) (h : JgS (stA a n) (a + 3) g x) : PvS a g x := by
  have dn := stA_d a n
  omega
theorem K_findUnits0 {d : Nat} {q : HP → Bool → Prop} {H : HP} {a b : Nat} {t cu : Option Nat} (ss : tg H b = 7) (h5 : hI H 705 b 0 = 0) (hq : q H true) : CZ (d + 1) 0 0 mX4_findUnits [rv (some a), rv (some b), rv t, rv cu] H q := by
  refine C_X4_findUnits ?_
  unfold wb_X4_findUnits_0
  refine T_X4_findUnits_3 ?_
  unfold wb_X4_findUnits_3
  exact ⟨b, rfl, ss, fun _ => hq, fun h => absurd (show hI H 705 b 0 ≤ 0 by rw [h5]; decide) h⟩
theorem proveAll_end {d : Nat} {q : HP → Prop} {H : HP} {a : Nat} {t cu : Option Nat} (ht : tg H a = 5) (h : ¬ hI H 503 a 0 = 0) (hq : q H) (x : Int32) : L_X4_proveAll_12 d q a t cu x H := by
  refine T_X4_proveAll_12 ?_
  unfold wb_X4_proveAll_12
  exact ⟨ht, fun _ => hq, fun _ => ⟨fun _ => hq, fun _ => ⟨fun _ => hq, fun c => absurd c h⟩⟩⟩
theorem proveAll_loop {d : Nat} {q : HP → Prop} {H0 : HP} {a t p cu n : Nat} {T : TP} {st : PS} {U : Nat → UV} (sp : shProof H0 a) (hc : CT H0 t T p) (hu : CU H0 cu n U) (hok : ∀ i, okU (U i)) (ok : okSt T st) (hcu : cu + 102 ≤ a) (hta : t + 2 ≤ a) (hq : ∀ H', Fr (PvS a) H0 H' → PVd H' a st (jA (wF T n U) U st st.1) → q H') : ∀ (k i : Nat) (H : HP), k + i = st.1 → Fr (PvS a) H0 H → LIx H a st (wF T n U) U (jA (wF T n U) U st i).2.2 i → (jA (wF T n U) U st i).1 = 0 → hI H 502 a 0 = Int32.ofNat i → hI H 503 a 0 = 0 → L_X4_proveAll_12 (d + 5) q a (some t) (some cu) (Int32.ofNat i) H := by
  have e60 : (60 : Int32) = Int32.ofNat 60 := rfl
  intro k
  induction k with
  | zero =>
    intro i H hi hF L hJ h2 h3
    have sp' := fr_shProof hF (fun k => by omega) sp
    refine T_X4_proveAll_12 ?_
    unfold wb_X4_proveAll_12
    have ei : i = st.1 := by omega
    subst ei
    refine ⟨sp'.1, fun _ => hq H hF ⟨L.1, L.2.1, ?_, by rw [h3, hJ], L.2.2.1, fun i k => ?_⟩, fun h => ?_⟩
    · rw [h2, (jA_held st.1).2 hJ]
    · rw [(jA_held st.1).2 hJ] at k
      exact (L.2.2.2.2 i k).2
    · rw [L.1, iN_le (by have := L.2.1; omega) (by have := L.2.1; omega)] at h
      omega
  | succ k ih =>
    intro i H hi hF L hJ h2 h3
    have h60 := L.2.1
    have sp' := fr_shProof hF (fun k => by omega) sp
    have hc' := fr_CT hF (fun k => by omega) (fun k => by omega) (fun k => by omega) hc
    have hu' := fr_CU hF (fun g x k1 k2 k3 => by omega) hu
    obtain ⟨s1, s2, s3, s4, s5, s6, s7, s8⟩ := id sp'
    obtain ⟨r1, r2⟩ := s8 i (by omega)
    have ist : isA H (a + 1) 7 := isA_of s3 (by decide) (by decide)
    have vp60 : vp_in (Int32.ofNat i) 60 := vpi_of (by omega) (by decide)
    have di := stA_d a i
    have r1' : hR H 4615 (a + 1) i = some (stA a i) := r1
    refine T_X4_proveAll_12 ?_
    unfold wb_X4_proveAll_12
    rw [L.1, iN_le (by omega) (by omega), e60, iN_le (by omega) (by omega), h3, iN_cl (by omega), iN_inc (by omega)]
    refine ⟨s1, fun h => by omega, fun _ => ⟨fun h => by omega, fun _ => ⟨fun c => absurd rfl c, fun _ => ⟨a + 1, s2, ist, by rw [ln_of s3]; exact vp60, ?_⟩⟩⟩⟩
    rw [tg_of s3, r1']
    obtain ⟨k1, k2, k3, k4⟩ := L.2.2.1 i (by omega)
    -- what is done when the row is wrong
    have wrong : ∀ (K : HP) (w : Int32), w ≠ 0 → Fr (PvS a) H0 K → shProof K a → hI K 501 a 0 = Int32.ofNat st.1 → (∀ j, j < st.1 → KRow K a j (st.2 j)) → (∀ j, j < i → JV5 K (stA a j) ((jA (wF T n U) U st i).2.2 j) ∧ okV ((jA (wF T n U) U st i).2.2 j)) → hI K 502 a 0 = Int32.ofNat i → jRow (wF T n U) U st (jA (wF T n U) U st i).2.2 i = .inl w → L_X4_proveAll_12 (d + 5) q a (some t) (some cu) (Int32.ofNat (i + 1)) (sI (sI K 503 a 0 w) 502 a 0 ((hI (sI K 503 a 0 w) 502 a 0) + (0 : Int32))) := fun K w hw FK sK K1 K3 K5 K2 hr => by
      have F2 : Fr (fun g x => (g = 502 ∨ g = 503) ∧ x = a) K (sI (sI K 503 a 0 w) 502 a 0 ((hI (sI K 503 a 0 w) 502 a 0) + (0 : Int32))) := (Fr_sI ⟨Or.inr rfl, rfl⟩).tr (Fr_sI ⟨Or.inl rfl, rfl⟩)
      have e3 : hI (sI (sI K 503 a 0 w) 502 a 0 ((hI (sI K 503 a 0 w) 502 a 0) + (0 : Int32))) 503 a 0 = w := by
        rw [hIs_g _ _ _ _ _ _ (by decide), hIs_i, if_pos rfl]
      have e2 : hI (sI (sI K 503 a 0 w) 502 a 0 ((hI (sI K 503 a 0 w) 502 a 0) + (0 : Int32))) 502 a 0 = Int32.ofNat i := by
        rw [hIs_i, if_pos rfl, hIs_g _ _ _ _ _ _ (by decide), K2]
        refine i32_ext ?_
        rw [i32_addx] <;> rw [iN_toInt (by omega), i32_0] <;> omega
      have ej : jA (wF T n U) U st st.1 = (w, (jA (wF T n U) U st i).2) := by
        have e1 : jA (wF T n U) U st (i + 1) = (w, (jA (wF T n U) U st i).2) := by
          rw [jA_succ, hr]
          unfold jStep
          rw [if_pos hJ]
        have e4 := jA_stop (F := wF T n U) (U := U) (st := st) (n := i + 1) (by rw [e1]; exact hw) k
        have e5 : i + 1 + k = st.1 := by omega
        rw [e5] at e4
        rw [e4, e1]
      refine proveAll_end (by rw [fr_tg F2]; exact sK.1) (by rw [e3]; exact hw) (hq _ (FK.tr (F2.mono fun g x k => Or.inl k)) ?_) _
      rw [ej]
      refine ⟨by rw [F2.2.2.2.2.1 _ _ (fun k => by omega)]; exact K1, h60, ?_, e3, fun j hj => fr_KRow F2 (fun g x q1 q2 q3 q4 => by omega) (K3 j hj), fun j hj => ?_⟩
      · show _ = Int32.ofNat (jA (wF T n U) U st i).2.1
        rw [e2, (jA_held i).2 hJ]
      · have hj : j < (jA (wF T n U) U st i).2.1 := hj
        rw [(jA_held i).2 hJ] at hj
        have := stA_d a j
        exact ⟨fr_JV5 F2 (fun k => by omega) (fun k => by omega) (fun k => by omega) (K5 j hj).1, (K5 j hj).2⟩
    have jud : ∀ K, Fr (FoS a) H K → ((st.2 i).1 = 0 → allU (wF T n U) (st.2 i).2.2.2.2 ∧ ∀ j, j < (st.2 i).2.2.2.2.1 → hR K 4630 (a + 2) j = some (cu + 2 + 5 * ((fR (wF T n U) (st.2 i).2.2.2.2 j).getD 0))) → CI (d + 5) 0 0 mX6_judge [rv (some (stA a i)), rv (some (a + 2)), rv (some (a + 3))] K (fun H12 r15 => tg H12 a = 5 ∧ ((¬ (hI (sI H12 503 a 0 r15) 503 a 0) = 0 → L_X4_proveAll_12 (d + 5) q a (some t) (some cu) (Int32.ofNat (i + 1)) (sI (sI H12 503 a 0 r15) 502 a 0 ((hI (sI H12 503 a 0 r15) 502 a 0) + (0 : Int32)))) ∧ ((hI (sI H12 503 a 0 r15) 503 a 0) = 0 → L_X4_proveAll_12 (d + 5) q a (some t) (some cu) (Int32.ofNat (i + 1)) (sI (sI H12 503 a 0 r15) 502 a 0 ((hI (sI H12 503 a 0 r15) 502 a 0) + (1 : Int32)))))) := fun K FK hK => by
      have sK := fr_shProof FK (fun k => by omega) sp'
      have LK : LIx K a st (wF T n U) U (jA (wF T n U) U st i).2.2 i := fr_LIx FK (fun k => by omega) (fun g x k1 k2 => by omega) L
      have huK := fr_CU FK (fun g x k1 k2 k3 => by omega) hu'
      refine K_judge (T := T) (ad := fun j => cu + 2 + 5 * (if j < (st.2 i).2.2.2.2.1 then (fR (wF T n U) (st.2 i).2.2.2.2 j).getD 0 else 0)) sK LK (by omega) ok (fun c0 => ?_) fun H' r hJO => ?_
      · obtain ⟨h1, h2⟩ := hK c0
        have lt : ∀ j, j < (st.2 i).2.2.2.2.1 → ((fR (wF T n U) (st.2 i).2.2.2.2 j).getD 0) < n := fun j hj => by
          have := h1 j hj
          unfold fR at this ⊢
          rcases wF_cases (T := T) (n := n) (U := U) (fr := (st.2 i).2.2.2.2.2.2.1 j) (many := (st.2 i).2.2.2.2.2.2.2.1 j) hu.2.2.1 with ⟨w1, w2⟩ | ⟨m, w0, w1, w2⟩
          · rw [w1] at this; cases this
          · rw [w1]; exact w0
        have hn20 := hu.2.2.1
        refine ⟨h1, ⟨sK.2.2.2.2.1, fun j hj => ?_⟩, fun j => ?_⟩
        · simp only [if_pos hj]
          have l := lt j hj
          exact ⟨h2 j hj, (huK.1.2.2.2 _ (by omega)).2, huK.2.2.2 _ l, hok _⟩
        · show cu + 2 + 5 * (if j < (st.2 i).2.2.2.2.1 then (fR (wF T n U) (st.2 i).2.2.2.2 j).getD 0 else 0) + 5 ≤ a
          by_cases hj : j < (st.2 i).2.2.2.2.1
          · rw [if_pos hj]
            have l := lt j hj
            omega
          · rw [if_neg hj]; omega
      · obtain ⟨F12, hcase⟩ := hJO
        have FK0 : Fr (PvS a) H0 K := hF.tr (FK.mono fun g x k => Or.inr (Or.inl k))
        have F120 : Fr (PvS a) H0 H' := FK0.tr (F12.mono fun g x k => JgPv (by omega) k)
        have sP' := fr_shProof F12 (fun k => by omega) sK
        obtain ⟨n1, n3, n5, n7⟩ := LIx_next F12 LK
        have K2 : hI H' 502 a 0 = Int32.ofNat i := by
          rw [F12.2.2.2.2.1 _ _ (fun k => by omega), FK.2.2.2.2.1 _ _ (fun k => by omega)]; exact h2
        refine ⟨sP'.1, ?_⟩
        have e3 : hI (sI H' 503 a 0 r) 503 a 0 = r := by rw [hIs_i, if_pos rfl]
        rw [e3]
        rcases hcase with ⟨v, hres, hr, hv, h4⟩ | ⟨w, hres, hr⟩
        · refine ⟨fun c => absurd hr c, fun _ => ?_⟩
          subst hr
          have ov : okV v := jRow_ok (T := T) (ok i (by omega)) hok (fun j hj => (n5 j hj).2) hres
          have LN := n7 v hv ov h4
          have ej : jA (wF T n U) U st (i + 1) = (0, i + 1, setV (jA (wF T n U) U st i).2.2 i v) := by
            rw [jA_succ, hres]
            unfold jStep
            rw [if_pos hJ, (jA_held i).2 hJ]
          have F2 : Fr (fun g x => (g = 502 ∨ g = 503) ∧ x = a) H' (sI (sI H' 503 a 0 (0 : Int32)) 502 a 0 ((hI (sI H' 503 a 0 (0 : Int32)) 502 a 0) + (1 : Int32))) := (Fr_sI ⟨Or.inr rfl, rfl⟩).tr (Fr_sI ⟨Or.inl rfl, rfl⟩)
          refine ih (i + 1) _ (by omega) (F120.tr (F2.mono fun g x k => Or.inl k)) ?_ (by rw [ej]) ?_ ?_
          · rw [ej]
            exact fr_LIx F2 (fun k => by omega) (fun g x k1 k2 => by omega) LN
          · rw [hIs_i, if_pos rfl, hIs_g _ _ _ _ _ _ (by decide), K2, iN_inc (by omega)]
          · rw [hIs_g _ _ _ _ _ _ (by decide), hIs_i, if_pos rfl]
        · subst hr
          exact ⟨fun _ => wrong H' r (jRow_ne hres) F120 sP' n1 n3 n5 K2 hres, fun c => absurd c (jRow_ne hres)⟩
    have aft : ∀ K, Fr (FoS a) H K → ((st.2 i).1 = 0 → allU (wF T n U) (st.2 i).2.2.2.2 ∧ ∀ j, j < (st.2 i).2.2.2.2.1 → hR K 4630 (a + 2) j = some (cu + 2 + 5 * ((fR (wF T n U) (st.2 i).2.2.2.2 j).getD 0))) → tg K a = 5 ∧ (∃ a9, (hC K 500 a) = some a9 ∧ (isA K a9 7 ∧ (vp_in (Int32.ofNat i) (ln K a9) ∧ (∃ a13, (hR K (tg K a9) a9 i) = some a13 ∧ (tg K a13 = 7 ∧ (CI (d + 5) 0 0 mX6_judge [rv (hR K (tg K a9) a9 i), rv (hC K 505 a), rv (hC K 506 a)] K (fun H12 r15 => tg H12 a = 5 ∧ ((¬ (hI (sI H12 503 a 0 r15) 503 a 0) = 0 → L_X4_proveAll_12 (d + 5) q a (some t) (some cu) (Int32.ofNat (i + 1)) (sI (sI H12 503 a 0 r15) 502 a 0 ((hI (sI H12 503 a 0 r15) 502 a 0) + (0 : Int32)))) ∧ ((hI (sI H12 503 a 0 r15) 503 a 0) = 0 → L_X4_proveAll_12 (d + 5) q a (some t) (some cu) (Int32.ofNat (i + 1)) (sI (sI H12 503 a 0 r15) 502 a 0 ((hI (sI H12 503 a 0 r15) 502 a 0) + (1 : Int32)))))))))))) := fun K FK hK => by
      obtain ⟨t1, t2, t3, t4, t5, t6, t7, t8⟩ := fr_shProof FK (fun k => by omega) sp'
      obtain ⟨v1, v2⟩ := t8 i (by omega)
      have v1' : hR K 4615 (a + 1) i = some (stA a i) := v1
      refine ⟨t1, a + 1, t2, isA_of t3 (by decide) (by decide), by rw [ln_of t3]; exact vp60, stA a i, by rw [tg_of t3]; exact v1', v2.1, ?_⟩
      rw [tg_of t3, v1', t4, t6]
      exact jud K FK hK
    by_cases c0 : (st.2 i).1 = 0
    · have okr : okP T (st.2 i).2.2.2.2 := by
        rcases ok i (by omega) with h | h
        · exact h.2
        · omega
      refine K_findUnits (d := d + 1) sp' r2 hc' hu' hok (k3 c0).2.2 okr hcu (by omega) (fun hal K FK hf => ⟨fun c => (by cases c), fun _ => aft K FK fun _ => ⟨hal, hf⟩⟩) (fun hal K FK => ⟨fun _ => ?_, fun c => (by cases c)⟩)
      have FK0 : Fr (PvS a) H0 K := hF.tr (FK.mono fun g x k => Or.inr (Or.inl k))
      have sK := fr_shProof FK (fun k => by omega) sp'
      have LK : LIx K a st (wF T n U) U (jA (wF T n U) U st i).2.2 i := fr_LIx FK (fun k => by omega) (fun g x k1 k2 => by omega) L
      have K2 : hI K 502 a 0 = Int32.ofNat i := by rw [FK.2.2.2.2.1 _ _ (fun k => by omega)]; exact h2
      have hr : jRow (wF T n U) U st (jA (wF T n U) U st i).2.2 i = .inl (-8) := by
        unfold jRow jAtom
        rw [if_pos c0, if_neg hal]
      have e3 : hI (sI K 503 a 0 (-8 : Int32)) 503 a 0 = -8 := by rw [hIs_i, if_pos rfl]
      rw [e3]
      exact ⟨sK.1, fun _ => wrong K (-8) (by decide) FK0 sK LK.1 LK.2.2.1 (fun j hj => (LK.2.2.2.2 j hj).2) K2 hr, fun c => absurd c (by decide)⟩
    · refine K_findUnits0 r2.1 (k4 c0).2.2 ⟨fun c => (by cases c), fun _ => aft H Fr.rf fun c => absurd c c0⟩
theorem K_proveAll {d : Nat} {q : HP → Prop} {H : HP} {a t p cu n : Nat} {T : TP} {st : PS} {U : Nat → UV} (sp : shProof H a) (hc : CT H t T p) (hu : CU H cu n U) (hp : PRp H a st) (hok : ∀ i, okU (U i)) (ok : okSt T st) (hcu : cu + 102 ≤ a) (hta : t + 2 ≤ a) (hq : ∀ H', Fr (PvS a) H H' → PVd H' a st (jA (wF T n U) U st st.1) → q H') : CV (d + 6) 0 0 mX4_proveAll [rv (some a), rv (some t), rv (some cu)] H q := by
  refine C_X4_proveAll ?_
  unfold wb_X4_proveAll_0
  have F1 : Fr (fun g x => (g = 502 ∨ g = 503) ∧ x = a) H (sI (sI H 502 a 0 (0 : Int32)) 503 a 0 (0 : Int32)) := (Fr_sI ⟨Or.inl rfl, rfl⟩).tr (Fr_sI ⟨Or.inr rfl, rfl⟩)
  have e0 : (0 : Int32) = Int32.ofNat 0 := rfl
  refine ⟨sp.1, ?_⟩
  refine proveAll_loop (n := n) sp hc hu hok ok hcu hta hq st.1 0 _ rfl (F1.mono fun g x k => Or.inl k) (fr_LIx F1 (fun k => by omega) (fun g x k1 k2 => by omega) (LIx_0 hp)) rfl ?_ ?_
  · rw [hIs_g _ _ _ _ _ _ (by decide), hIs_i, if_pos rfl]; rfl
  · rw [hIs_i, if_pos rfl]
