
/-! ===== the class's claims ===== -/
theorem isA_sI (H : HP) (g a i : Nat) (v : Int32) : isA (sI H g a i v) = isA H := rfl
theorem isA_sL (H : HP) (g a i : Nat) (v : Int64) : isA (sL H g a i v) = isA H := rfl
theorem isA_sD (H : HP) (g a i : Nat) (v : UInt64) : isA (sD H g a i v) = isA H := rfl
theorem isA_sF (H : HP) (g a i : Nat) (v : UInt32) : isA (sF H g a i v) = isA H := rfl
theorem isA_sR (H : HP) (g a i : Nat) (v : Option Nat) : isA (sR H g a i v) = isA H := rfl
theorem isA_fI (H : HP) (g a : Nat) (v : Nat → Int32) : isA (fI H g a v) = isA H := rfl
theorem hIs (H : HP) (g a i : Nat) (v : Int32) (g' a' i' : Nat) : hI (sI H g a i v) g' a' i' = if g' = g ∧ a' = a ∧ i' = i then v else hI H g' a' i' := rfl
theorem hIs_g (H : HP) {g g' : Nat} (a i : Nat) (v : Int32) (a' i' : Nat) (h : g' ≠ g) : hI (sI H g a i v) g' a' i' = hI H g' a' i' := by rw [hIs, if_neg (fun k => h k.1)]
theorem hIs_i (H : HP) (g a i : Nat) (v : Int32) (i' : Nat) : hI (sI H g a i v) g a i' = if i' = i then v else hI H g a i' := by
  rw [hIs]
  by_cases h : i' = i
  · rw [if_pos ⟨rfl, rfl, h⟩, if_pos h]
  · rw [if_neg (fun k => h k.2.2), if_neg h]
def shCl (H : HP) (a : Nat) : Prop := tg H a = 1 ∧ (hC H 100 a = some (a + 1) ∧ hT H (a + 1) = (4224, 16)) ∧ (hC H 101 a = some (a + 2) ∧ hT H (a + 2) = (4240, 16)) ∧ (hC H 102 a = some (a + 3) ∧ hT H (a + 3) = (4256, 16)) ∧ (hC H 103 a = some (a + 4) ∧ hT H (a + 4) = (4272, 16)) ∧ (hC H 105 a = some (a + 5) ∧ hT H (a + 5) = (4290, 16)) ∧ (hC H 106 a = some (a + 6) ∧ hT H (a + 6) = (4304, 16)) ∧ (hC H 107 a = some (a + 7) ∧ hT H (a + 7) = (4320, 20)) ∧ (hC H 108 a = some (a + 8) ∧ hT H (a + 8) = (4336, 20)) ∧ (hC H 109 a = some (a + 9) ∧ tg H (a + 9) = 4) ∧ (hC H 110 a = some (a + 10) ∧ tg H (a + 10) = 4)
/-- all of an array of the shape: field, kind, tag, length -/
theorem arr_of {H : HP} {a g t n e : Nat} {b : Nat} (h : hC H g a = some b ∧ hT H b = (t, n)) (h1 : 4096 ≤ t) (h2 : t % 16 = e) : hC H g a = some b ∧ isA H b e ∧ tg H b = t ∧ ln H b = n := ⟨h.1, isA_of h.2 h1 h2, tg_of h.2, ln_of h.2⟩
theorem cA_x {H : HP} {a : Nat} (h : shCl H a) : hC H 100 a = some (a + 1) ∧ isA H (a + 1) 0 ∧ tg H (a + 1) = 4224 ∧ ln H (a + 1) = 16 := arr_of (e := 0) h.2.1 (by decide) (by decide)
theorem cA_y {H : HP} {a : Nat} (h : shCl H a) : hC H 101 a = some (a + 2) ∧ isA H (a + 2) 0 ∧ tg H (a + 2) = 4240 ∧ ln H (a + 2) = 16 := arr_of (e := 0) h.2.2.1 (by decide) (by decide)
theorem cA_p {H : HP} {a : Nat} (h : shCl H a) : hC H 102 a = some (a + 3) ∧ isA H (a + 3) 0 ∧ tg H (a + 3) = 4256 ∧ ln H (a + 3) = 16 := arr_of (e := 0) h.2.2.2.1 (by decide) (by decide)
theorem cA_q {H : HP} {a : Nat} (h : shCl H a) : hC H 103 a = some (a + 4) ∧ isA H (a + 4) 0 ∧ tg H (a + 4) = 4272 ∧ ln H (a + 4) = 16 := arr_of (e := 0) h.2.2.2.2.1 (by decide) (by decide)
theorem cA_j {H : HP} {a : Nat} (h : shCl H a) : hC H 105 a = some (a + 5) ∧ isA H (a + 5) 2 ∧ tg H (a + 5) = 4290 ∧ ln H (a + 5) = 16 := arr_of (e := 2) h.2.2.2.2.2.1 (by decide) (by decide)
theorem cA_v {H : HP} {a : Nat} (h : shCl H a) : hC H 106 a = some (a + 6) ∧ isA H (a + 6) 0 ∧ tg H (a + 6) = 4304 ∧ ln H (a + 6) = 16 := arr_of (e := 0) h.2.2.2.2.2.2.1 (by decide) (by decide)
theorem cA_b {H : HP} {a : Nat} (h : shCl H a) : hC H 107 a = some (a + 7) ∧ isA H (a + 7) 0 ∧ tg H (a + 7) = 4320 ∧ ln H (a + 7) = 20 := arr_of (e := 0) h.2.2.2.2.2.2.2.1 (by decide) (by decide)
theorem cA_n {H : HP} {a : Nat} (h : shCl H a) : hC H 108 a = some (a + 8) ∧ isA H (a + 8) 0 ∧ tg H (a + 8) = 4336 ∧ ln H (a + 8) = 20 := arr_of (e := 0) h.2.2.2.2.2.2.2.2.1 (by decide) (by decide)
theorem fr_hT {S : Nat → Nat → Prop} {H H' : HP} (h : Fr S H H') : hT H' = hT H := h.1
theorem fr_shCl {S : Nat → Nat → Prop} {H H' : HP} {a : Nat} (h : Fr S H H') (s : shCl H a) : shCl H' a := by
  unfold shCl at s ⊢
  rw [fr_tg h, fr_tg h, fr_tg h, h.1, h.2.1]
  exact s
abbrev CLM : Type := Nat × (Nat → Nat) × (Nat → Nat) × (Nat → Int32) × (Nat → Int32)
def CX (C : CLM) : Nat → Nat := C.2.1
def CY (C : CLM) : Nat → Nat := C.2.2.1
def CP (C : CLM) : Nat → Int32 := C.2.2.2.1
def CQ (C : CLM) : Nat → Int32 := C.2.2.2.2
def okCl (n : Nat) (C : CLM) : Prop := C.1 ≤ 16 ∧ ∀ i, i < C.1 → CX C i < n ∧ CY C i < n ∧ CX C i ≠ CY C i ∧ 1 ≤ (CP C i).toInt ∧ (CP C i).toInt ≤ 999999 ∧ 1 ≤ (CQ C i).toInt ∧ (CQ C i).toInt ≤ 999999
/-- the rows as they are told -/
def CRw (H : HP) (a : Nat) (C : CLM) : Prop := hI H 104 a 0 = Int32.ofNat C.1 ∧ ∀ i, i < C.1 → hI H 4224 (a + 1) i = Int32.ofNat (CX C i) ∧ hI H 4240 (a + 2) i = Int32.ofNat (CY C i) ∧ hI H 4256 (a + 3) i = CP C i ∧ hI H 4272 (a + 4) i = CQ C i
theorem fr_CRw {S : Nat → Nat → Prop} {H H' : HP} {a : Nat} {C : CLM} (h : Fr S H H') (h0 : ¬ S 104 a) (h1 : ¬ S 4224 (a + 1)) (h2 : ¬ S 4240 (a + 2)) (h3 : ¬ S 4256 (a + 3)) (h4 : ¬ S 4272 (a + 4)) (s : CRw H a C) : CRw H' a C := by
  have hi := h.2.2.2.2.1
  unfold CRw at s ⊢
  rw [hi _ _ h0, hi _ _ h1, hi _ _ h2, hi _ _ h3, hi _ _ h4]
  exact s
theorem lab_lt {X Y : Nat → Nat} : ∀ (k u : Nat), (∀ i, i < k → X i < 20 ∧ Y i < 20) → u < 20 → lab X Y k u < 20
  | 0, u, _, hu => hu
  | k + 1, u, h, hu => by
    unfold lab
    split
    · exact lab_lt k _ (fun i hi => h i (by omega)) (h k (by omega)).1
    · exact lab_lt k _ (fun i hi => h i (by omega)) hu
/-- one bunch becomes another -/
theorem merge_loop {d : Nat} {q : HP → Prop} {H0 : HP} {a one other : Nat} {f : Nat → Nat} (ho : one < 20) (ho' : other < 20) (hf : ∀ u, u < 20 → f u < 20) (hq : ∀ H', Fr (fun g x => g = 4320 ∧ x = a + 7) H0 H' → (∀ u, u < 20 → hI H' 4320 (a + 7) u = Int32.ofNat (if f u = other then one else f u)) → q H') : ∀ (k i : Nat) (H : HP), k + i = 20 → shCl H a → Fr (fun g x => g = 4320 ∧ x = a + 7) H0 H → (∀ u, u < 20 → hI H 4320 (a + 7) u = Int32.ofNat (if u < i then (if f u = other then one else f u) else f u)) → L_X0_mergeBunches_2 d q a (Int32.ofNat one) (Int32.ofNat other) (Int32.ofNat i) H := by
  have e20 : (20 : Int32) = Int32.ofNat 20 := rfl
  intro k
  induction k with
  | zero =>
    intro i H hi s hF hv
    refine T_X0_mergeBunches_2 ?_
    unfold wb_X0_mergeBunches_2
    rw [e20, iN_le (by omega) (by omega)]
    refine ⟨fun _ => hq H hF fun u hu => ?_, fun h => by omega⟩
    rw [hv u hu, if_pos (by omega)]
  | succ k ih =>
    intro i H hi s hF hv
    obtain ⟨b1, b2, b3, b4⟩ := cA_b s
    refine T_X0_mergeBunches_2 ?_
    unfold wb_X0_mergeBunches_2
    have hvi := hv i (by omega)
    rw [if_neg (by omega)] at hvi
    have hfi := hf i (by omega)
    have hin : vp_in (Int32.ofNat i) (ln H (a + 7)) := by rw [b4]; exact vpi_of (by omega) (by decide)
    rw [e20, iN_le (by omega) (by omega)]
    refine ⟨fun h => by omega, fun _ => ⟨s.1, a + 7, b1, b2, hin, ?_⟩⟩
    rw [b3, iN_cl (by omega), hvi, iN_eq (by omega) (by omega), iN_inc (by omega)]
    refine ⟨fun hne => ih (i + 1) H (by omega) s hF fun u hu => ?_, fun he => ⟨hin, ?_⟩⟩
    · rw [hv u hu]
      by_cases e : u = i
      · subst e; rw [if_neg (by omega), if_pos (by omega), if_neg hne]
      · by_cases hl : u < i
        · simp only [hl, show u < i + 1 by omega, if_true]
        · rw [if_neg hl, if_neg (by omega)]
    · have F1 : Fr (fun g x => g = 4320 ∧ x = a + 7) H (sI H 4320 (a + 7) i (Int32.ofNat one)) := Fr_sI ⟨rfl, rfl⟩
      refine ih (i + 1) _ (by omega) (fr_shCl F1 s) (hF.tr F1) fun u hu => ?_
      rw [hIs_i]
      by_cases e : u = i
      · subst e; rw [if_pos rfl, if_pos (by omega), if_pos he]
      · rw [if_neg e, hv u hu]
        by_cases hl : u < i
        · simp only [hl, show u < i + 1 by omega, if_true]
        · rw [if_neg hl, if_neg (by omega)]
theorem K_mergeBunches {d : Nat} {q : HP → Prop} {H : HP} {a one other : Nat} {f : Nat → Nat} (s : shCl H a) (ho : one < 20) (ho' : other < 20) (hf : ∀ u, u < 20 → f u < 20) (hv : ∀ u, u < 20 → hI H 4320 (a + 7) u = Int32.ofNat (f u)) (hq : ∀ H', Fr (fun g x => g = 4320 ∧ x = a + 7) H H' → (∀ u, u < 20 → hI H' 4320 (a + 7) u = Int32.ofNat (if f u = other then one else f u)) → q H') : CV (d + 1) 0 0 mX0_mergeBunches [rv (some a), .int (Int32.ofNat one), .int (Int32.ofNat other)] H q := by
  refine C_X0_mergeBunches ?_
  unfold wb_X0_mergeBunches_0
  exact merge_loop ho ho' hf hq 20 0 H rfl s Fr.rf fun u hu => by rw [if_neg (by omega)]; exact hv u hu
/-! the search for the way -/
abbrev NxtS (a : Nat) : Nat → Nat → Prop := fun g x => g = 4336 ∧ x = a + 8
theorem lt0 {x : Int32} : x < 0 ↔ ¬ 0 ≤ x.toInt := by rw [i32_lt, i32_0]; omega
/-- what the search's inner loop needs of the state -/
def SpI (H : HP) (a : Nat) (C : CLM) (N : Nat → Int32) : Prop := shCl H a ∧ CRw H a C ∧ (∀ i, i < C.1 → hI H 4290 (a + 5) i = bI (jnB (CX C) (CY C) i)) ∧ (∀ u, u < 20 → hI H 4336 (a + 8) u = N u)
theorem fr_SpI {H H' : HP} {a : Nat} {C : CLM} {N N' : Nat → Int32} (h : Fr (NxtS a) H H') (s : SpI H a C N) (hN : ∀ u, u < 20 → hI H' 4336 (a + 8) u = N' u) : SpI H' a C N' := by
  obtain ⟨s1, s2, s3, s4⟩ := s
  have hi := h.2.2.2.2.1
  refine ⟨fr_shCl h s1, fr_CRw h (fun k => by omega) (fun k => by omega) (fun k => by omega) (fun k => by omega) (fun k => by omega) s2, fun i hi' => ?_, hN⟩
  rw [hi _ _ (fun k => by omega)]; exact s3 i hi'
def setN (N : Nat → Int32) (u : Nat) (v : Int32) : Nat → Int32 := fun x => if x = u then v else N x
theorem SpI_set {H : HP} {a u : Nat} {C : CLM} {N : Nat → Int32} {v : Int32} (s : SpI H a C N) : SpI (sI H 4336 (a + 8) u v) a C (setN N u v) := by
  refine fr_SpI (Fr_sI ⟨rfl, rfl⟩) s fun x hx => ?_
  rw [hIs_i]
  unfold setN
  split
  · rfl
  · exact s.2.2.2 x hx
theorem spread_in {d : Nat} {q : HP → Prop} {H0 : HP} {a v r n : Nat} {C : CLM} (hok : okCl n C) (hn : n ≤ 20) (hv : v < 20) (hr : r < 16)
    (hq : ∀ (H : HP) (N : Nat → Int32) (g : Bool), SpI H a C N → Fr (NxtS a) H0 H → PtI (CX C) (CY C) C.1 v N → (g = false → ∀ i, i < C.1 → jnB (CX C) (CY C) i = true → (rch N (CX C i) ↔ rch N (CY C i))) → (g = true → cntB (opn (CX C) (CY C) N) C.1 + r + 1 ≤ 16) → L_X0_spreadFrom_33 d q a (bI g) (Int32.ofNat (r + 1)) H) :
    ∀ (k i : Nat) (H : HP) (N : Nat → Int32) (g : Bool), k + i = C.1 → SpI H a C N → Fr (NxtS a) H0 H → PtI (CX C) (CY C) C.1 v N → (g = false → ∀ j, j < i → jnB (CX C) (CY C) j = true → (rch N (CX C j) ↔ rch N (CY C j))) → (cntB (opn (CX C) (CY C) N) C.1 + r + (if g = true then 1 else 0) ≤ 16) → L_X0_spreadFrom_48 d q a (bI g) (Int32.ofNat r) (Int32.ofNat i) H := by
  intro k
  induction k with
  | zero =>
    intro i H N g hi sp hF hP hc hm
    refine T_X0_spreadFrom_48 ?_
    unfold wb_X0_spreadFrom_48
    have hCn := hok.1
    rw [sp.2.1.1, iN_le (by omega) (by omega), iN_inc (by omega)]
    refine ⟨sp.1.1, fun _ => hq H N g sp hF hP (fun e j hj => hc e j (by omega)) fun e => ?_, fun h => by omega⟩
    rw [if_pos e] at hm; exact hm
  | succ k ih =>
    intro i H N g hi sp hF hP hc hm
    obtain ⟨s, rw', sj, sn⟩ := id sp
    have hCn := hok.1
    obtain ⟨o1, o2, o3, -⟩ := hok.2 i (by omega)
    obtain ⟨r1, r2, r3, r4⟩ := rw'.2 i (by omega)
    obtain ⟨x1, x2, x3, x4⟩ := cA_x s
    obtain ⟨y1, y2, y3, y4⟩ := cA_y s
    obtain ⟨j1, j2, j3, j4⟩ := cA_j s
    obtain ⟨n1, n2, n3, n4⟩ := cA_n s
    have in16 : vp_in (Int32.ofNat i) 16 := vpi_of (by omega) (by decide)
    have inX : vp_in (Int32.ofNat (CX C i)) 20 := vpi_of (by omega) (by decide)
    have inY : vp_in (Int32.ofNat (CY C i)) 20 := vpi_of (by omega) (by decide)
    have nx := sn (CX C i) (by omega)
    have ny := sn (CY C i) (by omega)
    have z01 : ¬ (0 : Int32) = 1 := by decide
    have z10 : ¬ (1 : Int32) = 0 := by decide
    have goon : (jnB (CX C) (CY C) i = true → (rch N (CX C i) ↔ rch N (CY C i))) → L_X0_spreadFrom_48 d q a (bI g) (Int32.ofNat r) (Int32.ofNat (i + 1)) H := fun h => by
      refine ih (i + 1) H N g (by omega) sp hF hP (fun e j hj hjn => ?_) hm
      by_cases e2 : j = i
      · subst e2; exact h hjn
      · exact hc e j (by omega) hjn
    have step : ∀ (u w : Nat) (dd : Bool), u < 20 → w < 20 → jnB (CX C) (CY C) i = true → ends (CX C) (CY C) i dd u w → rch N w → ¬ rch N u → L_X0_spreadFrom_48 d q a (1 : Int32) (Int32.ofNat r) (Int32.ofNat (i + 1)) (sI H 4336 (a + 8) u (Int32.ofNat i)) := fun u w dd hu hw hj he h1 h2 => by
      obtain ⟨p1, p2⟩ := PtI_step hP (by omega) (by omega) hu hw hv hj he h1 h2 (N' := setN N u (Int32.ofNat i)) (fun x => rfl)
      refine ih (i + 1) _ _ true (by omega) (SpI_set sp) (hF.tr (Fr_sI ⟨rfl, rfl⟩)) p1 (fun e => by cases e) ?_
      rw [if_pos rfl]
      omega
    refine T_X0_spreadFrom_48 ?_
    unfold wb_X0_spreadFrom_48 wb_X0_spreadFrom_111
    have hle : ¬ Int32.ofNat C.1 ≤ Int32.ofNat i := by rw [iN_le (by omega) (by omega)]; omega
    simp only [s.1, rw'.1, hle, x1, x2, x3, x4, y1, y2, y3, y4, j1, j2, j3, j4, n1, n2, n3, n4, Option.some.injEq, exists_eq_left', in16, inX, inY, r1, r2, iN_cl (show CX C i < 2147483648 by omega), iN_cl (show CY C i < 2147483648 by omega), iN_cl (show i < 2147483648 by omega), nx, ny, sj i (by omega), bI_0, lt0, iN_inc (show i + 1 < 2147483648 by omega), true_and, z01, z10, not_true_eq_false, not_false_eq_true, true_implies, false_implies, and_true, Bool.not_eq_false, eq_self_iff_true]
    by_cases hj : jnB (CX C) (CY C) i = true
    · have hjf : ¬ jnB (CX C) (CY C) i = false := by rw [hj]; decide
      simp only [hj, hjf, Bool.true_eq_false, true_implies, false_implies, and_true, true_and]
      by_cases hx : rch N (CX C i)
      · by_cases hy : rch N (CY C i)
        · have hx' : 0 ≤ (N (CX C i)).toInt := hx
          have hy' : 0 ≤ (N (CY C i)).toInt := hy
          simp only [hx', hy', not_true_eq_false, not_false_eq_true, true_implies, false_implies, and_true, true_and]
          exact goon fun _ => ⟨fun _ => hy, fun _ => hx⟩
        · have hx' : 0 ≤ (N (CX C i)).toInt := hx
          have hy' : ¬ 0 ≤ (N (CY C i)).toInt := hy
          simp only [hx', hy', not_true_eq_false, not_false_eq_true, true_implies, false_implies, and_true, true_and]
          exact step (CY C i) (CX C i) false (by omega) (by omega) hj (Or.inr ⟨rfl, rfl, rfl⟩) hx hy
      · by_cases hy : rch N (CY C i)
        · have hx' : ¬ 0 ≤ (N (CX C i)).toInt := hx
          have hy' : 0 ≤ (N (CY C i)).toInt := hy
          simp only [hx', hy', not_true_eq_false, not_false_eq_true, true_implies, false_implies, and_true, true_and]
          exact step (CX C i) (CY C i) true (by omega) (by omega) hj (Or.inl ⟨rfl, rfl, rfl⟩) hy hx
        · have hx' : ¬ 0 ≤ (N (CX C i)).toInt := hx
          have hy' : ¬ 0 ≤ (N (CY C i)).toInt := hy
          simp only [hx', hy', not_true_eq_false, not_false_eq_true, true_implies, false_implies, and_true, true_and]
          exact goon fun _ => ⟨fun h => absurd h hx, fun h => absurd h hy⟩
    · have hjf : jnB (CX C) (CY C) i = false := by simpa using hj
      have g := goon fun h => absurd h hj
      simp only [hj, hjf, true_implies, false_implies, and_true, true_and]
      by_cases hx : 0 ≤ (N (CX C i)).toInt
      · simp only [hx, not_true_eq_false, false_implies, true_implies, true_and, and_true]; simpa using g
      · simp only [hx, not_false_eq_true, false_implies, true_implies, true_and, and_true]; simpa using g
