
theorem closed_of {X Y : Nat → Nat} {k : Nat} {N : Nat → Int32} (h : cntB (opn X Y N) k = 0) : ∀ i, i < k → jnB X Y i = true → (rch N (X i) ↔ rch N (Y i)) := by
  intro i hi hj
  have := cntB_zero k h i hi
  unfold opn at this
  rw [hj, Bool.true_and, Bool.not_eq_true', decide_eq_false_iff_not] at this
  have := Decidable.of_not_not this
  exact ⟨fun _ => this.2, fun _ => this.1⟩
theorem spread_out {d : Nat} {q : HP → Prop} {H0 : HP} {a v n : Nat} {C : CLM} (hok : okCl n C) (hn : n ≤ 20) (hv : v < 20) (hq : ∀ (H : HP) (N : Nat → Int32), SpI H a C N → Fr (NxtS a) H0 H → PtI (CX C) (CY C) C.1 v N → (∀ i, i < C.1 → jnB (CX C) (CY C) i = true → (rch N (CX C i) ↔ rch N (CY C i))) → q H) : ∀ (k r : Nat) (H : HP) (N : Nat → Int32) (g : Bool), k + r = 16 → SpI H a C N → Fr (NxtS a) H0 H → PtI (CX C) (CY C) C.1 v N → (g = false → ∀ i, i < C.1 → jnB (CX C) (CY C) i = true → (rch N (CX C i) ↔ rch N (CY C i))) → (g = true → cntB (opn (CX C) (CY C) N) C.1 + r ≤ 16) → L_X0_spreadFrom_33 d q a (bI g) (Int32.ofNat r) H := by
  have e16 : (16 : Int32) = Int32.ofNat 16 := rfl
  intro k
  induction k with
  | zero =>
    intro r H N g hr sp hF hP hc hm
    refine T_X0_spreadFrom_33 ?_
    unfold wb_X0_spreadFrom_33
    rw [e16, iN_le (by omega) (by omega)]
    refine ⟨fun _ => hq H N sp hF hP ?_, fun h => by omega⟩
    cases g with
    | false => exact hc rfl
    | true => exact closed_of (by have := hm rfl; omega)
  | succ k ih =>
    intro r H N g hr sp hF hP hc hm
    refine T_X0_spreadFrom_33 ?_
    unfold wb_X0_spreadFrom_33
    rw [e16, iN_le (by omega) (by omega)]
    refine ⟨fun h => by omega, fun _ => ⟨fun hg => hq H N sp hF hP (hc (bI_0.mp hg)), fun hg => ?_⟩⟩
    have hg := bI_1.mp hg
    exact spread_in hok hn hv (show r < 16 by omega) (fun H' N' g' a1 a2 a3 a4 a5 => ih (r + 1) H' N' g' (by omega) a1 a2 a3 a4 (fun e => by have := a5 e; omega)) C.1 0 H N false (by omega) sp hF hP (fun _ j hj => by omega) (by have := hm hg; simpa using this)
theorem spread_init {d : Nat} {q : HP → Prop} {H0 : HP} {a v n : Nat} {C : CLM} (hok : okCl n C) (hn : n ≤ 20) (hv : v < 20) (hq : ∀ (H : HP) (N : Nat → Int32), SpI H a C N → Fr (NxtS a) H0 H → PtI (CX C) (CY C) C.1 v N → (∀ i, i < C.1 → jnB (CX C) (CY C) i = true → (rch N (CX C i) ↔ rch N (CY C i))) → q H) : ∀ (k i : Nat) (H : HP) (N : Nat → Int32), k + i = 20 → SpI H a C N → Fr (NxtS a) H0 H → (∀ u, u < i → N u = -1) → L_X0_spreadFrom_2 d q a (Int32.ofNat v) (Int32.ofNat i) H := by
  have e20 : (20 : Int32) = Int32.ofNat 20 := rfl
  intro k
  induction k with
  | zero =>
    intro i H N hi sp hF hN
    obtain ⟨n1, n2, n3, n4⟩ := cA_n sp.1
    refine T_X0_spreadFrom_2 ?_
    unfold wb_X0_spreadFrom_2
    rw [e20, iN_le (by omega) (by omega)]
    refine ⟨fun _ => ⟨sp.1.1, a + 8, n1, n2, ?_, ?_⟩, fun h => by omega⟩
    · rw [n4]; exact vpi_of hv (by decide)
    · rw [n3, iN_cl (by omega)]
      refine spread_out hok hn hv hq 16 0 _ (setN N v 16) true rfl (SpI_set sp) (hF.tr (Fr_sI ⟨rfl, rfl⟩)) ?_ (fun h => by cases h) (fun _ => ?_)
      · refine PtI_start (by unfold setN; rw [if_pos rfl]) fun u hu hne => ?_
        unfold setN; rw [if_neg hne]; exact hN u (by omega)
      · have := cntB_le (opn (CX C) (CY C) (setN N v 16)) C.1
        have := hok.1
        omega
  | succ k ih =>
    intro i H N hi sp hF hN
    obtain ⟨n1, n2, n3, n4⟩ := cA_n sp.1
    refine T_X0_spreadFrom_2 ?_
    unfold wb_X0_spreadFrom_2
    rw [e20, iN_le (by omega) (by omega)]
    refine ⟨fun h => by omega, fun _ => ⟨sp.1.1, a + 8, n1, n2, ?_, ?_⟩⟩
    · rw [n4]; exact vpi_of (by omega) (by decide)
    · rw [n3, iN_cl (by omega), iN_inc (by omega)]
      refine ih (i + 1) _ (setN N i (-1)) (by omega) (SpI_set sp) (hF.tr (Fr_sI ⟨rfl, rfl⟩)) fun u hu => ?_
      unfold setN
      split
      · rfl
      · exact hN u (by omega)
theorem K_spreadFrom {d : Nat} {q : HP → Prop} {H : HP} {a v n : Nat} {C : CLM} {N0 : Nat → Int32} (hok : okCl n C) (hn : n ≤ 20) (hv : v < 20) (sp : SpI H a C N0) (hq : ∀ (H' : HP) (N : Nat → Int32), SpI H' a C N → Fr (NxtS a) H H' → PtI (CX C) (CY C) C.1 v N → (∀ u, u < 20 → (rch N u ↔ lab (CX C) (CY C) C.1 u = lab (CX C) (CY C) C.1 v)) → q H') : CV (d + 1) 0 0 mX0_spreadFrom [rv (some a), .int (Int32.ofNat v)] H q := by
  refine C_X0_spreadFrom ?_
  unfold wb_X0_spreadFrom_0
  exact spread_init hok hn hv (fun H' N a1 a2 a3 a4 => hq H' N a1 a2 a3 fun u hu => PtI_end a3 a4 hu) 20 0 H N0 rfl sp Fr.rf fun u hu => by omega
/-! the way -/
def stepF (C : CLM) (e : Nat × Bool) : FR := if e.2 = true then redF (CP C e.1).toInt64 (CQ C e.1).toInt64 else redF (CQ C e.1).toInt64 (CP C e.1).toInt64
def wayF (C : CLM) : List (Nat × Bool) → FR → Option FR
  | [], f => some f
  | e :: l, f => match mulF f.1 f.2 (stepF C e).1 (stepF C e).2 with
    | none => none
    | some g => wayF C l g
theorem stepF_ok {n : Nat} {C : CLM} (h : okCl n C) {e : Nat × Bool} (he : e.1 < C.1) : okF (stepF C e) ∧ 0 < (stepF C e).1.toInt := by
  obtain ⟨-, -, -, p1, p2, q1, q2⟩ := h.2 e.1 he
  have ep := i64_of32 (CP C e.1)
  have eq := i64_of32 (CQ C e.1)
  have pos : ∀ a b : Int64, 0 < a.toInt → 0 < b.toInt → 0 < (redF a b).1.toInt := fun a b ha hb => by
    obtain ⟨g, a', b', hg, -, e1, -, e3, -⟩ := gcL_spec (a := a) (b := b) (by omega) hb
    show 0 < (a / gcL a b).toInt
    rw [e3]
    rw [e1] at ha
    exact Int.pos_of_mul_pos_left (b := g) (by rw [Int.mul_comm]; exact ha) hg
  unfold stepF
  split
  · exact ⟨redF_ok (by omega) (by omega), pos _ _ (by omega) (by omega)⟩
  · exact ⟨redF_ok (by omega) (by omega), pos _ _ (by omega) (by omega)⟩
abbrev GoS (a : Nat) : Nat → Nat → Prop := fun g x => (g = 4336 ∧ x = a + 8) ∨ ((g = 400 ∨ g = 401) ∧ (x = a + 9 ∨ x = a + 10))
theorem Fr_SpI {S : Nat → Nat → Prop} {H H' : HP} {a : Nat} {C : CLM} {N : Nat → Int32} (h : Fr S H H') (hS : ∀ g x, S g x → (g = 400 ∨ g = 401)) (s : SpI H a C N) : SpI H' a C N := by
  obtain ⟨s1, s2, s3, s4⟩ := s
  have hi := h.2.2.2.2.1
  have no : ∀ g x, g ≠ 400 → g ≠ 401 → ¬ S g x := fun g x h1 h2 k => (hS g x k).elim h1 h2
  refine ⟨fr_shCl h s1, fr_CRw h (no _ _ (by decide) (by decide)) (no _ _ (by decide) (by decide)) (no _ _ (by decide) (by decide)) (no _ _ (by decide) (by decide)) (no _ _ (by decide) (by decide)) s2, fun i hi' => ?_, fun u hu => ?_⟩
  · rw [hi _ _ (no _ _ (by decide) (by decide))]; exact s3 i hi'
  · rw [hi _ _ (no _ _ (by decide) (by decide))]; exact s4 u hu
theorem getF_set_ne {H : HP} {a b : Nat} {f : FR} (h : a ≠ b) : getF (setF H b f) a = getF H a := fr_getF (S := fun _ x => x = b) (Fr_setF rfl rfl) (fun k => h k) (fun k => h k)
/-- one step of the way: what the trees' join does -/
theorem go_step {d n : Nat} {q : HP → Int32 → Prop} {H0 H : HP} {a v i w x4 : Nat} {dd : Bool} {C : CLM} {N : Nat → Int32} {f : FR} {s1 : Int64} (hok : okCl n C) (hn : n ≤ 20) (hi : i < C.1) (hw : w < 20) (sp : SpI H a C N) (hF : Fr (GoS a) H0 H) (hf : getF H (a + 9) = f) (okf : okF f) (hs : s1 = if dd = true then (CP C i).toInt64 else (CQ C i).toInt64) (hx4 : x4 < 1000)
    (hd : (dd = true ∧ CY C i = w) ∨ (dd = false ∧ CX C i = w))
    (h1 : ∀ H' g, mulF f.1 f.2 (stepF C (i, dd)).1 (stepF C (i, dd)).2 = some g → SpI H' a C N → Fr (GoS a) H0 H' → getF H' (a + 9) = g → okF g → L_X0_goFrom_37 (d + 3) q a (Int32.ofNat v) (Int32.ofNat w) (Int32.ofNat (x4 + 1)) H')
    (h0 : ∀ H', mulF f.1 f.2 (stepF C (i, dd)).1 (stepF C (i, dd)).2 = none → SpI H' a C N → Fr (GoS a) H0 H' → q H' (-15)) :
    wb_X0_goFrom_120 (d + 3) q a (Int32.ofNat v) (Int32.ofNat x4) (Int32.ofNat i) (bI dd) (some (a + 10)) s1 H := by
  obtain ⟨o1, o2, o3, p1, p2, q1, q2⟩ := hok.2 i hi
  have hCn := hok.1
  obtain ⟨so1, so2⟩ := stepF_ok hok (e := (i, dd)) hi
  have ep := i64_of32 (CP C i)
  have eq := i64_of32 (CQ C i)
  obtain ⟨s, rw', sj, sn⟩ := id sp
  obtain ⟨r1, r2, r3, r4⟩ := rw'.2 i hi
  obtain ⟨x1, x2, x3, x4'⟩ := cA_x s
  obtain ⟨y1, y2, y3, y4⟩ := cA_y s
  obtain ⟨pp1, pp2, pp3, pp4⟩ := cA_p s
  obtain ⟨qq1, qq2, qq3, qq4⟩ := cA_q s
  have w1 := s.2.2.2.2.2.2.2.2.2.1
  have t1 := s.2.2.2.2.2.2.2.2.2.2
  have in16 : vp_in (Int32.ofNat i) 16 := vpi_of (by omega) (by decide)
  -- behind the set of told
  have tail : ∀ H2, H2 = setF H (a + 10) (stepF C (i, dd)) → tg H2 a = 1 ∧ (∃ a9, (hC H2 110 a) = some a9 ∧ (tg H2 a9 = 4 ∧ (∃ a12, (hC H2 109 a) = some a12 ∧ (tg H2 a12 = 4 ∧ (CZ (d + 3) 0 0 mX3_multiplyBy [rv (hC H2 109 a), .long (hL H2 400 a9 0), .long (hL H2 401 a9 0)] H2 (fun H11 b14 => (b14 = true → (bI dd = 0 → tg H11 a = 1 ∧ (∃ a16, (hC H11 100 a) = some a16 ∧ (isA H11 a16 0 ∧ (vp_in (Int32.ofNat i) (ln H11 a16) ∧ (L_X0_goFrom_37 (d + 3) q a (Int32.ofNat v) (hI H11 (tg H11 a16) a16 (Int32.ofNat i).toNatClampNeg) (Int32.ofNat x4 + 1) H11))))) ∧ (¬ (bI dd = 0) → tg H11 a = 1 ∧ (∃ a20, (hC H11 101 a) = some a20 ∧ (isA H11 a20 0 ∧ (vp_in (Int32.ofNat i) (ln H11 a20) ∧ (L_X0_goFrom_37 (d + 3) q a (Int32.ofNat v) (hI H11 (tg H11 a20) a20 (Int32.ofNat i).toNatClampNeg) (Int32.ofNat x4 + 1) H11)))))) ∧ (b14 = false → q H11 (-15 : Int32)))))))) := by
    intro H2 e2
    have F2 : Fr (fun g x => (g = 400 ∨ g = 401) ∧ x = a + 10) H H2 := by rw [e2]; exact Fr_setF ⟨Or.inl rfl, rfl⟩ ⟨Or.inr rfl, rfl⟩
    have sp2 : SpI H2 a C N := Fr_SpI F2 (fun g x k => k.1) sp
    have g9 : getF H2 (a + 9) = f := by rw [e2, getF_set_ne (by omega)]; exact hf
    have g10 : getF H2 (a + 10) = stepF C (i, dd) := by rw [e2]; exact getF_setF
    have e400 : hL H2 400 (a + 10) 0 = (stepF C (i, dd)).1 := congrArg Prod.fst g10
    have e401 : hL H2 401 (a + 10) 0 = (stepF C (i, dd)).2 := congrArg Prod.snd g10
    have f400 : hL H2 400 (a + 9) 0 = f.1 := congrArg Prod.fst g9
    have f401 : hL H2 401 (a + 9) 0 = f.2 := congrArg Prod.snd g9
    have w2 := sp2.1.2.2.2.2.2.2.2.2.2.1
    have t2 := sp2.1.2.2.2.2.2.2.2.2.2.2
    refine ⟨sp2.1.1, a + 10, t2.1, t2.2, a + 9, w2.1, w2.2, ?_⟩
    rw [w2.1, e400, e401]
    have hFF : Fr (GoS a) H0 H2 := hF.tr (F2.mono fun g x k => Or.inr ⟨k.1, Or.inr k.2⟩)
    refine K_multiplyBy w2.2 (by rw [f401]; exact okf.1) (by rw [f400]; exact okf.2.1) so1.2.1 so1.1 (fun g hg => ⟨fun _ => ?_, fun h => by cases h⟩) (fun hg => ⟨fun h => (by cases h), fun _ => h0 H2 (by rw [← f400, ← f401]; exact hg) sp2 hFF⟩)
    rw [f400, f401] at hg
    have F3 : Fr (fun g x => (g = 400 ∨ g = 401) ∧ x = a + 9) H2 (setF H2 (a + 9) g) := Fr_setF ⟨Or.inl rfl, rfl⟩ ⟨Or.inr rfl, rfl⟩
    have sp3 : SpI (setF H2 (a + 9) g) a C N := Fr_SpI F3 (fun g x k => k.1) sp2
    have go := h1 (setF H2 (a + 9) g) g hg sp3 (hFF.tr (F3.mono fun g x k => Or.inr ⟨k.1, Or.inl k.2⟩)) getF_setF (mulF_ok (a := f.1) (b := f.2) okf so1.2.1 so1.1 so1.2.2 hg)
    obtain ⟨u1, u2, u3, u4⟩ := cA_x sp3.1
    obtain ⟨z1, z2, z3, z4⟩ := cA_y sp3.1
    have hr := (sp3.2.1.2 i hi)
    rw [iN_inc (by omega)]
    refine ⟨fun hb => ?_, fun hb => ?_⟩
    · rw [bI_0] at hb
      subst hb
      rcases hd with ⟨k, -⟩ | ⟨-, k⟩
      · cases k
      · refine ⟨sp3.1.1, a + 1, u1, u2, by rw [u4]; exact in16, ?_⟩
        rw [u3, iN_cl (by omega), hr.1, k]; exact go
    · rw [bI_1] at hb
      subst hb
      rcases hd with ⟨-, k⟩ | ⟨k, -⟩
      · refine ⟨sp3.1.1, a + 2, z1, z2, by rw [z4]; exact in16, ?_⟩
        rw [z3, iN_cl (by omega), hr.2.1, k]; exact go
      · cases k
  unfold wb_X0_goFrom_120
  rw [iN_cl (show i < 2147483648 by omega)] at tail
  refine ⟨fun hb => ?_, fun hb => ?_⟩
  · rw [bI_0] at hb
    subst hb
    refine ⟨s.1, a + 3, pp1, pp2, by rw [pp4]; exact in16, a + 10, rfl, t1.2, ?_⟩
    rw [pp3, iN_cl (by omega), r3, hs, if_neg (by decide)]
    exact K_set t1.2 (by omega) (by omega) (tail _ rfl)
  · rw [bI_1] at hb
    subst hb
    refine ⟨s.1, a + 4, qq1, qq2, by rw [qq4]; exact in16, a + 10, rfl, t1.2, ?_⟩
    rw [qq3, iN_cl (by omega), r4, hs, if_pos rfl]
    exact K_set t1.2 (by omega) (by omega) (tail _ rfl)
theorem go_loop {d n : Nat} {q : HP → Int32 → Prop} {H0 : HP} {a v : Nat} {C : CLM} {N : Nat → Int32} (hok : okCl n C) (hn : n ≤ 20) (hv : v < 20) (hP : PtI (CX C) (CY C) C.1 v N) {L : List (Nat × Bool)} {f0 : FR}
    (h1 : ∀ H' g, wayF C L f0 = some g → SpI H' a C N → Fr (GoS a) H0 H' → getF H' (a + 9) = g → okF g → q H' 0)
    (h0 : ∀ H', wayF C L f0 = none → SpI H' a C N → Fr (GoS a) H0 H' → q H' (-15)) :
    ∀ (l : List (Nat × Bool)) (u x4 : Nat) (H : HP) (f : FR), l = pth (CX C) (CY C) C.1 u v → u < 20 → rch N u → l.length + x4 ≤ 19 → SpI H a C N → Fr (GoS a) H0 H → getF H (a + 9) = f → okF f → wayF C l f = wayF C L f0 → L_X0_goFrom_37 (d + 3) q a (Int32.ofNat v) (Int32.ofNat u) (Int32.ofNat x4) H := by
  have e20 : (20 : Int32) = Int32.ofNat 20 := rfl
  have hCn := hok.1
  intro l
  induction l with
  | nil =>
    intro u x4 H f hl hu hr hlen sp hF hf okf hway
    have hlen : x4 ≤ 19 := by simpa using hlen
    have huv : u = v := by
      apply Classical.byContradiction
      intro hne
      obtain ⟨-, -, k⟩ := hP.2 u hu hr
      obtain ⟨i, dd, w, -, -, -, -, -, -, k⟩ := k hne
      rw [← hl] at k; cases k
    subst huv
    refine T_X0_goFrom_37 ?_
    unfold wb_X0_goFrom_37
    rw [e20, iN_le (by omega) (by omega)]
    refine ⟨fun h => by omega, fun _ => ⟨fun _ => h1 H f (hway ▸ rfl) sp hF hf okf, fun h => absurd rfl h⟩⟩
  | cons e l ih =>
    intro u x4 H f hl hu hr hlen sp hF hf okf hway
    have hlen : l.length + 1 + x4 ≤ 19 := hlen
    have huv : u ≠ v := by
      rintro rfl
      rw [pth_self] at hl; cases hl
    obtain ⟨-, -, k⟩ := hP.2 u hu hr
    obtain ⟨i, dd, w, hi, hw, eN, hj, he, hrw, k⟩ := k huv
    rw [← hl] at k
    injection k with k1 k2
    subst k1
    obtain ⟨s, rw', sj, sn⟩ := id sp
    obtain ⟨o1, o2, o3, p1, p2, q1, q2⟩ := hok.2 i hi
    obtain ⟨r1, r2, r3, r4⟩ := rw'.2 i hi
    obtain ⟨x1, x2, x3, x4'⟩ := cA_x s
    obtain ⟨pp1, pp2, pp3, pp4⟩ := cA_p s
    obtain ⟨qq1, qq2, qq3, qq4⟩ := cA_q s
    obtain ⟨n1, n2, n3, n4⟩ := cA_n s
    have t1 := s.2.2.2.2.2.2.2.2.2.2
    have in16 : vp_in (Int32.ofNat i) 16 := vpi_of (by omega) (by decide)
    have inU : vp_in (Int32.ofNat u) 20 := vpi_of (by omega) (by decide)
    have hXu : CX C i = u ↔ dd = true := by
      rcases he with ⟨e1, e2, -⟩ | ⟨e1, e2, -⟩
      · exact ⟨fun _ => e1, fun _ => e2⟩
      · refine ⟨fun k => ?_, fun k => by rw [e1] at k; cases k⟩
        exact absurd (k.trans e2.symm) o3
    have hd : (dd = true ∧ CY C i = w) ∨ (dd = false ∧ CX C i = w) := by
      rcases he with ⟨e1, -, e3⟩ | ⟨e1, -, e3⟩
      · exact Or.inl ⟨e1, e3⟩
      · exact Or.inr ⟨e1, e3⟩
    have hwayE : wayF C ((i, dd) :: l) f = match mulF f.1 f.2 (stepF C (i, dd)).1 (stepF C (i, dd)).2 with
      | none => none
      | some g => wayF C l g := rfl
    have go : ∀ s1 : Int64, (s1 = if dd = true then (CP C i).toInt64 else (CQ C i).toInt64) → wb_X0_goFrom_120 (d + 3) q a (Int32.ofNat v) (Int32.ofNat x4) (Int32.ofNat i) (bI dd) (some (a + 10)) s1 H := fun s1 hs1 => by
      refine go_step hok hn hi hw sp hF hf okf hs1 (by omega) hd (fun H' g hg a1 a2 a3 a4 => ih w (x4 + 1) H' g k2 hw hrw (by omega) a1 a2 a3 a4 ?_) (fun H' hg a1 a2 => h0 H' ?_ a1 a2)
      · rw [hwayE, hg] at hway; exact hway
      · rw [hwayE, hg] at hway; exact hway.symm
    refine T_X0_goFrom_37 ?_
    unfold wb_X0_goFrom_37
    have hle : ¬ (20 : Int32) ≤ Int32.ofNat x4 := by rw [e20, iN_le (by omega) (by omega)]; omega
    have hne : ¬ Int32.ofNat u = Int32.ofNat v := by rw [iN_eq (by omega) (by omega)]; exact huv
    have hN : hI H 4336 (a + 8) u = Int32.ofNat i := by rw [sn u hu]; exact eN
    have hneg : ¬ Int32.ofNat i < 0 := iN_neg (by omega) rfl
    have hlt : Int32.ofNat i < Int32.ofNat C.1 := by rw [iN_lt (by omega) (by omega)]; exact hi
    have z10 : ¬ (1 : Int32) = 0 := by decide
    cases dd with
    | true =>
      have hx : CX C i = u := hXu.mpr rfl
      have go := go _ (if_pos rfl).symm
      have b1 : bI true = 1 := rfl
      rw [b1] at go
      simp only [s.1, hle, hne, hN, hneg, hlt, rw'.1, x1, x2, x3, x4', pp1, pp2, pp3, pp4, n1, n2, n3, n4, t1.1, in16, inU, iN_cl (show u < 2147483648 by omega), iN_cl (show i < 2147483648 by omega), r1, r3, hx, Option.some.injEq, exists_eq_left', true_and, and_true, not_true_eq_false, not_false_eq_true, true_implies, false_implies, z10, eq_self_iff_true]
      exact go
    | false =>
      have hx : ¬ CX C i = u := fun h => by have := hXu.mp h; cases this
      have hx' : ¬ Int32.ofNat (CX C i) = Int32.ofNat u := by rw [iN_eq (by omega) (by omega)]; exact hx
      have go := go _ (if_neg (by decide)).symm
      have b0 : bI false = 0 := rfl
      rw [b0] at go
      simp only [s.1, hle, hne, hN, hneg, hlt, rw'.1, x1, x2, x3, x4', qq1, qq2, qq3, qq4, n1, n2, n3, n4, t1.1, in16, inU, iN_cl (show u < 2147483648 by omega), iN_cl (show i < 2147483648 by omega), r1, r4, hx', Option.some.injEq, exists_eq_left', true_and, and_true, not_true_eq_false, not_false_eq_true, true_implies, false_implies, eq_self_iff_true]
      exact go
theorem ok11 : okF (redF 1 1) ∧ redF 1 1 = (1, 1) := by
  have h : redF 1 1 = (1, 1) := by decide +kernel
  rw [h]
  exact ⟨⟨by decide, by decide, by decide⟩, rfl⟩
def bun (H : HP) (a : Nat) (C : CLM) : Prop := ∀ u, u < 20 → hI H 4320 (a + 7) u = Int32.ofNat (lab (CX C) (CY C) C.1 u)
/-- the bunches; or as they are made, when nothing is claimed -/
def bun0 (H : HP) (a : Nat) (C : CLM) : Prop := bun H a C ∨ (C.1 = 0 ∧ ∀ u, u < 20 → hI H 4320 (a + 7) u = 0)
theorem K_goFrom {d n : Nat} {q : HP → Int32 → Prop} {H : HP} {a u v : Nat} {C : CLM} {N0 : Nat → Int32} (hok : okCl n C) (hn : n ≤ 20) (hu : u < 20) (hv : v < 20) (sp : SpI H a C N0) (hb : bun0 H a C)
    (h5 : lab (CX C) (CY C) C.1 u ≠ lab (CX C) (CY C) C.1 v → ∀ H', Fr (GoS a) H H' → (∃ N, SpI H' a C N) → q H' (-5))
    (h1 : lab (CX C) (CY C) C.1 u = lab (CX C) (CY C) C.1 v → ∀ H' g, wayF C (pth (CX C) (CY C) C.1 u v) (1, 1) = some g → Fr (GoS a) H H' → (∃ N, SpI H' a C N) → getF H' (a + 9) = g → okF g → q H' 0)
    (h0 : lab (CX C) (CY C) C.1 u = lab (CX C) (CY C) C.1 v → ∀ H', wayF C (pth (CX C) (CY C) C.1 u v) (1, 1) = none → Fr (GoS a) H H' → (∃ N, SpI H' a C N) → q H' (-15)) : CI (d + 4) 0 0 mX0_goFrom [rv (some a), .int (Int32.ofNat u), .int (Int32.ofNat v)] H q := by
  refine C_X0_goFrom ?_
  unfold wb_X0_goFrom_0
  have w1 := sp.1.2.2.2.2.2.2.2.2.2.1
  have hX : ∀ i, i < C.1 → CX C i < 20 ∧ CY C i < 20 := fun i hi => by
    obtain ⟨o1, o2, -⟩ := hok.2 i hi
    omega
  have lu := lab_lt C.1 u hX hu
  have lv := lab_lt C.1 v hX hv
  refine ⟨sp.1.1, a + 9, w1.1, w1.2, ?_⟩
  rw [w1.1]
  refine K_set w1.2 (by decide) (by decide) ?_
  rw [ok11.2]
  have F1 : Fr (fun g x => (g = 400 ∨ g = 401) ∧ x = a + 9) H (setF H (a + 9) (1, 1)) := Fr_setF ⟨Or.inl rfl, rfl⟩ ⟨Or.inr rfl, rfl⟩
  have sp1 : SpI (setF H (a + 9) (1, 1)) a C N0 := Fr_SpI F1 (fun g x k => k.1) sp
  have hb1 : bun0 (setF H (a + 9) (1, 1)) a C := hb
  have g1 : getF (setF H (a + 9) (1, 1)) (a + 9) = (1, 1) := getF_setF
  have FG : Fr (GoS a) H (setF H (a + 9) (1, 1)) := F1.mono fun g x k => Or.inr ⟨k.1, Or.inl k.2⟩
  generalize setF H (a + 9) (1, 1) = H1 at *
  obtain ⟨b1, b2, b3, b4⟩ := cA_b sp1.1
  refine ⟨sp1.1.1, a + 7, b1, b2, by rw [b4]; exact vpi_of hu (by decide), by rw [b4]; exact vpi_of hv (by decide), ?_⟩
  rw [b3, iN_cl (by omega), iN_cl (by omega)]
  have main : lab (CX C) (CY C) C.1 u = lab (CX C) (CY C) C.1 v → CV (d + 3) 0 0 mX0_spreadFrom [rv (some a), .int (Int32.ofNat v)] H1 (fun H10 => L_X0_goFrom_37 (d + 3) q a (Int32.ofNat v) (Int32.ofNat u) (0 : Int32) H10) := fun hl => by
    refine K_spreadFrom hok hn hv sp1 fun H2 N sp2 F2 hP hR => ?_
    have F12 : Fr (GoS a) H H2 := FG.tr (F2.mono fun g x k => Or.inl k)
    have g2 : getF H2 (a + 9) = (1, 1) := by
      rw [fr_getF F2 (fun k => by omega) (fun k => by omega)]; exact g1
    have hr := (hR u hu).mpr hl
    have hlen := (hP.2 u hu hr).2.1
    have hCn := hok.1
    exact go_loop hok hn hv hP (L := pth (CX C) (CY C) C.1 u v) (f0 := (1, 1)) (fun H' g a1 a2 a3 a4 a5 => h1 hl H' g a1 a3 ⟨N, a2⟩ a4 a5) (fun H' a1 a2 a3 => h0 hl H' a1 a3 ⟨N, a2⟩) (pth (CX C) (CY C) C.1 u v) u 0 H2 (1, 1) rfl hu hr (by omega) sp2 F12 g2 ⟨by decide, by decide, by decide⟩ rfl
  rcases hb1 with hb1 | ⟨hc0, hz⟩
  · rw [hb1 u hu, hb1 v hv, iN_eq (by omega) (by omega)]
    exact ⟨main, fun hl => h5 hl H1 FG ⟨N0, sp1⟩⟩
  · rw [hz u hu, hz v hv]
    have l0 : ∀ w, lab (CX C) (CY C) C.1 w = w := fun w => by rw [hc0]; rfl
    refine ⟨fun _ => ?_, fun k => absurd rfl k⟩
    by_cases huv : u = v
    · exact main (by rw [huv])
    · refine K_spreadFrom hok hn hv sp1 fun H2 N sp2 F2 hP hR => ?_
      have F12 : Fr (GoS a) H H2 := FG.tr (F2.mono fun g x k => Or.inl k)
      have hr : ¬ rch N u := fun k => huv (by have := (hR u hu).mp k; rw [l0, l0] at this; exact this)
      obtain ⟨n1, n2, n3, n4⟩ := cA_n sp2.1
      refine T_X0_goFrom_37 ?_
      unfold wb_X0_goFrom_37
      refine ⟨fun k => absurd k (by decide), fun _ => ⟨fun k => absurd ((iN_eq (by omega) (by omega)).mp k) huv, fun _ => ⟨sp2.1.1, a + 8, n1, n2, by rw [n4]; exact vpi_of hu (by decide), ?_⟩⟩⟩
      rw [n3, iN_cl (by omega), sp2.2.2.2 u hu]
      have hneg : N u < 0 := by rw [i32_lt, i32_0]; exact Int.not_le.mp hr
      exact ⟨fun _ => h5 (by rw [l0, l0]; exact huv) H2 F12 ⟨N, sp2⟩, fun k => absurd hneg k⟩
