
/-! ===== the reference's claims ===== -/
theorem le0 {x : Int32} : (0 : Int32) ≤ x ↔ 0 ≤ x.toInt := by rw [i32_le, i32_0]
theorem fr_shM {S : Nat → Nat → Prop} {H H' : HP} {m : Nat} (h : Fr S H H') (s : shM H m) : shM H' m := by
  unfold shM at s ⊢
  rw [fr_tg h, h.1, h.2.1]
  exact s
def MCl (H : HP) (m : Nat) (C : CLM) : Prop := hI H 1307 m 0 = Int32.ofNat C.1 ∧ ∀ i, i < C.1 → hI H 4736 (m + 7) (4 * i) = Int32.ofNat (CX C i) ∧ hI H 4736 (m + 7) (4 * i + 1) = Int32.ofNat (CY C i) ∧ hI H 4736 (m + 7) (4 * i + 2) = CP C i ∧ hI H 4736 (m + 7) (4 * i + 3) = CQ C i
theorem fr_MCl {S : Nat → Nat → Prop} {H H' : HP} {m : Nat} {C : CLM} (h : Fr S H H') (h0 : ¬ S 1307 m) (h1 : ¬ S 4736 (m + 7)) (s : MCl H m C) : MCl H' m C := by
  have hi := h.2.2.2.2.1
  unfold MCl at s ⊢
  rw [hi _ _ h0, hi _ _ h1]
  exact s
def tellF (C : CLM) (i : Nat) : Int32 := if jnB (CX C) (CY C) i = true then 0 else match wayF C (pth (CX C) (CY C) i (CX C i) (CY C i)) (1, 1) with
  | none => -15
  | some f => if f = redF (CP C i).toInt64 (CQ C i).toInt64 then 1 else 2
theorem tellF_0 {C : CLM} {i : Nat} : tellF C i = 0 ↔ jnB (CX C) (CY C) i = true := by
  unfold tellF
  constructor
  · intro h
    apply Classical.byContradiction
    intro hn
    rw [if_neg hn] at h
    split at h
    · exact absurd h (by decide)
    · split at h
      · exact absurd h (by decide)
      · exact absurd h (by decide)
  · intro h; rw [if_pos h]
abbrev FrS (m : Nat) : Nat → Nat → Prop := fun g x => g = 5088 ∧ x = m + 29
def MBI (H : HP) (m k : Nat) (C : CLM) (N : Nat → Int32) : Prop := shM H m ∧ MCl H m C ∧ (∀ i, i < k → hI H 5072 (m + 28) i = tellF C i) ∧ (∀ u, u < 20 → hI H 5088 (m + 29) u = N u)
theorem fr_MBI {S : Nat → Nat → Prop} {H H' : HP} {m k : Nat} {C : CLM} {N : Nat → Int32} (h : Fr S H H') (h1 : ¬ S 1307 m) (h2 : ¬ S 4736 (m + 7)) (h3 : ¬ S 5072 (m + 28)) (h4 : ¬ S 5088 (m + 29)) (s : MBI H m k C N) : MBI H' m k C N := by
  obtain ⟨s1, s2, s3, s4⟩ := s
  have hi := h.2.2.2.2.1
  refine ⟨fr_shM h s1, fr_MCl h h1 h2 s2, fun i hi' => ?_, fun u hu => ?_⟩
  · rw [hi _ _ h3]; exact s3 i hi'
  · rw [hi _ _ h4]; exact s4 u hu
theorem MBI_set {H : HP} {m k u : Nat} {C : CLM} {N : Nat → Int32} {v : Int32} (s : MBI H m k C N) : MBI (sI H 5088 (m + 29) u v) m k C (setN N u v) := by
  obtain ⟨s1, s2, s3, s4⟩ := s
  have F : Fr (FrS m) H (sI H 5088 (m + 29) u v) := Fr_sI ⟨rfl, rfl⟩
  refine ⟨fr_shM F s1, fr_MCl F (fun k => by omega) (fun k => by omega) s2, fun i hi' => ?_, fun x hx => ?_⟩
  · rw [F.2.2.2.2.1 _ _ (fun k => by omega)]; exact s3 i hi'
  · rw [hIs_i]; unfold setN
    split
    · rfl
    · exact s4 x hx
theorem ix4a {i : Nat} (h : i < 1000) : (4 : Int32) * Int32.ofNat i = Int32.ofNat (4 * i) := by
  have e : (4 : Int32) = Int32.ofNat 4 := rfl
  rw [e, iN_mul (by omega) (by omega) (by omega)]
theorem ix4b {i : Nat} (h : i < 1000) : Int32.ofNat (4 * i) + (1 : Int32) = Int32.ofNat (4 * i + 1) ∧ Int32.ofNat (4 * i) + (2 : Int32) = Int32.ofNat (4 * i + 2) ∧ Int32.ofNat (4 * i) + (3 : Int32) = Int32.ofNat (4 * i + 3) := ⟨iN_add (m := 1) (by omega), iN_add (m := 2) (by omega), iN_add (m := 3) (by omega)⟩
theorem bound_in {d n k m v x c0 : Nat} {q : HP → Bool → Prop} {H0 : HP} {C : CLM} (hok : okCl n C) (hn : n ≤ 20) (hk : k ≤ C.1) (hv : v < 20)
    (hq : ∀ (H : HP) (N : Nat → Int32) (g : Bool), MBI H m k C N → Fr (FrS m) H0 H → PtI (CX C) (CY C) k v N → (g = false → ∀ i, i < k → jnB (CX C) (CY C) i = true → (rch N (CX C i) ↔ rch N (CY C i))) → (g = true → cntB (opn (CX C) (CY C) N) k + 1 ≤ c0) → L_X12_areBound_35 d q m (Int32.ofNat x) (Int32.ofNat k) (bI g) H) :
    ∀ (r i : Nat) (H : HP) (N : Nat → Int32) (g : Bool), r + i = k → MBI H m k C N → Fr (FrS m) H0 H → PtI (CX C) (CY C) k v N → (g = false → ∀ j, j < i → jnB (CX C) (CY C) j = true → (rch N (CX C j) ↔ rch N (CY C j))) → (cntB (opn (CX C) (CY C) N) k + (if g = true then 1 else 0) ≤ c0) → L_X12_areBound_46 d q m (Int32.ofNat x) (Int32.ofNat k) (bI g) (Int32.ofNat i) H := by
  have hCn := hok.1
  intro r
  induction r with
  | zero =>
    intro i H N g hi sp hF hP hc hm
    refine T_X12_areBound_46 ?_
    unfold wb_X12_areBound_46
    rw [iN_le (by omega) (by omega)]
    refine ⟨fun _ => hq H N g sp hF hP (fun e j hj => hc e j (by omega)) fun e => ?_, fun h => by omega⟩
    rw [if_pos e] at hm; exact hm
  | succ r ih =>
    intro i H N g hi sp hF hP hc hm
    obtain ⟨s, rw', st, sn⟩ := id sp
    obtain ⟨o1, o2, o3, -⟩ := hok.2 i (by omega)
    obtain ⟨r1, r2, r3, r4⟩ := rw'.2 i (by omega)
    obtain ⟨c1, c2, c3', c4⟩ := mA_claim s
    obtain ⟨t1, t2, t3, t4⟩ := mA_told s
    obtain ⟨f1, f2, f3, f4⟩ := mA_from s
    have in16 : vp_in (Int32.ofNat i) 16 := vpi_of (by omega) (by decide)
    have inA : vp_in (Int32.ofNat (4 * i)) 64 := vpi_of (by omega) (by decide)
    have inB : vp_in (Int32.ofNat (4 * i + 1)) 64 := vpi_of (by omega) (by decide)
    have inX : vp_in (Int32.ofNat (CX C i)) 20 := vpi_of (by omega) (by decide)
    have inY : vp_in (Int32.ofNat (CY C i)) 20 := vpi_of (by omega) (by decide)
    have nx := sn (CX C i) (by omega)
    have ny := sn (CY C i) (by omega)
    obtain ⟨ib1, -, -⟩ := ix4b (i := i) (by omega)
    have z01 : ¬ (0 : Int32) = 1 := by decide
    have z10 : ¬ (1 : Int32) = 0 := by decide
    have goon : (jnB (CX C) (CY C) i = true → (rch N (CX C i) ↔ rch N (CY C i))) → L_X12_areBound_46 d q m (Int32.ofNat x) (Int32.ofNat k) (bI g) (Int32.ofNat (i + 1)) H := fun h => by
      refine ih (i + 1) H N g (by omega) sp hF hP (fun e j hj hjn => ?_) hm
      by_cases e2 : j = i
      · subst e2; exact h hjn
      · exact hc e j (by omega) hjn
    have step : ∀ (u w : Nat) (dd : Bool), u < 20 → w < 20 → jnB (CX C) (CY C) i = true → ends (CX C) (CY C) i dd u w → rch N w → ¬ rch N u → L_X12_areBound_46 d q m (Int32.ofNat x) (Int32.ofNat k) (1 : Int32) (Int32.ofNat (i + 1)) (sI H 5088 (m + 29) u (Int32.ofNat i)) := fun u w dd hu hw hj he h1 h2 => by
      obtain ⟨p1, p2⟩ := PtI_step hP (by omega) (by omega) hu hw hv hj he h1 h2 (N' := setN N u (Int32.ofNat i)) (fun x => rfl)
      refine ih (i + 1) _ _ true (by omega) (MBI_set sp) (hF.tr (Fr_sI ⟨rfl, rfl⟩)) p1 (fun e => by cases e) ?_
      rw [if_pos rfl]
      omega
    have hle : ¬ Int32.ofNat k ≤ Int32.ofNat i := by rw [iN_le (by omega) (by omega)]; omega
    refine T_X12_areBound_46 ?_
    unfold wb_X12_areBound_46
    simp only [s.1, hle, c1, c2, c3', c4, t1, t2, t3, t4, f1, f2, f3, f4, ix4a (show i < 1000 by omega), ib1, Option.some.injEq, exists_eq_left', in16, inA, inB, inX, inY, iN_cl (show 4 * i < 2147483648 by omega), iN_cl (show 4 * i + 1 < 2147483648 by omega), iN_cl (show i < 2147483648 by omega), r1, r2, iN_cl (show CX C i < 2147483648 by omega), iN_cl (show CY C i < 2147483648 by omega), nx, ny, st i (by omega), tellF_0, le0, iN_inc (show i + 1 < 2147483648 by omega), true_and, and_true, z01, z10, not_true_eq_false, not_false_eq_true, true_implies, false_implies, eq_self_iff_true]
    by_cases hj : jnB (CX C) (CY C) i = true
    · simp only [hj, true_implies, false_implies, and_true, true_and, not_true_eq_false]
      by_cases hx : 0 ≤ (N (CX C i)).toInt
      · by_cases hy : 0 ≤ (N (CY C i)).toInt
        · simp only [hx, hy, z10, not_true_eq_false, not_false_eq_true, true_implies, false_implies, and_true, true_and]
          exact goon fun _ => ⟨fun _ => hy, fun _ => hx⟩
        · simp only [hx, hy, z10, not_true_eq_false, not_false_eq_true, true_implies, false_implies, and_true, true_and]
          exact step (CY C i) (CX C i) false (by omega) (by omega) hj (Or.inr ⟨rfl, rfl, rfl⟩) hx hy
      · by_cases hy : 0 ≤ (N (CY C i)).toInt
        · simp only [hx, hy, z10, not_true_eq_false, not_false_eq_true, true_implies, false_implies, and_true, true_and]
          exact step (CX C i) (CY C i) true (by omega) (by omega) hj (Or.inl ⟨rfl, rfl, rfl⟩) hy hx
        · simp only [hx, hy, z10, not_true_eq_false, not_false_eq_true, true_implies, false_implies, and_true, true_and]
          exact goon fun _ => ⟨fun h => absurd h hx, fun h => absurd h hy⟩
    · have hjf : jnB (CX C) (CY C) i = false := by simpa using hj
      simp only [hjf, Bool.false_eq_true, true_implies, false_implies, and_true, true_and, not_false_eq_true]
      exact goon fun h => absurd h hj
theorem bound_out {d n k m v x : Nat} {q : HP → Bool → Prop} {H0 : HP} {C : CLM} (hok : okCl n C) (hn : n ≤ 20) (hk : k ≤ C.1) (hv : v < 20) (hx : x < 20)
    (hq : ∀ (H : HP) (N : Nat → Int32) (b : Bool), MBI H m k C N → Fr (FrS m) H0 H → PtI (CX C) (CY C) k v N → (b = true ↔ rch N x) → (b = true ↔ lab (CX C) (CY C) k x = lab (CX C) (CY C) k v) → q H b) : ∀ (M : Nat) (H : HP) (N : Nat → Int32) (g : Bool), MBI H m k C N → Fr (FrS m) H0 H → PtI (CX C) (CY C) k v N → (g = false → ∀ i, i < k → jnB (CX C) (CY C) i = true → (rch N (CX C i) ↔ rch N (CY C i))) → cntB (opn (CX C) (CY C) N) k ≤ M → L_X12_areBound_35 d q m (Int32.ofNat x) (Int32.ofNat k) (bI g) H := by
  have hCn := hok.1
  have fin : ∀ (H : HP) (N : Nat → Int32), MBI H m k C N → Fr (FrS m) H0 H → PtI (CX C) (CY C) k v N → (∀ i, i < k → jnB (CX C) (CY C) i = true → (rch N (CX C i) ↔ rch N (CY C i))) → L_X12_areBound_35 d q m (Int32.ofNat x) (Int32.ofNat k) (bI false) H := by
    intro H N sp hF hP hc
    obtain ⟨f1, f2, f3, f4⟩ := mA_from sp.1
    have he := PtI_end hP hc hx
    refine T_X12_areBound_35 ?_
    unfold wb_X12_areBound_35
    refine ⟨fun _ => ⟨sp.1.1, m + 29, f1, f2, by rw [f4]; exact vpi_of hx (by decide), ?_⟩, fun h => absurd rfl h⟩
    rw [f3, iN_cl (by omega), sp.2.2.2 x hx, lt0]
    refine ⟨fun h => hq H N false sp hF hP ⟨fun k => (by cases k), fun k => absurd k h⟩ ⟨fun k => (by cases k), fun k => absurd (he.mpr k) h⟩, fun h => ?_⟩
    have h := Decidable.of_not_not h
    exact hq H N true sp hF hP ⟨fun _ => h, fun _ => rfl⟩ ⟨fun _ => he.mp h, fun _ => rfl⟩
  intro M
  induction M with
  | zero =>
    intro H N g sp hF hP hc hm
    cases g with
    | false => exact fin H N sp hF hP (hc rfl)
    | true =>
      refine T_X12_areBound_35 ?_
      unfold wb_X12_areBound_35
      refine ⟨fun h => (by cases h), fun _ => bound_in (c0 := 0) hok hn hk hv (fun H' N' g' a1 a2 a3 a4 a5 => ?_) k 0 H N false (by omega) sp hF hP (fun _ j hj => by omega) (by simpa using hm)⟩
      cases g' with
      | false => exact fin H' N' a1 a2 a3 (a4 rfl)
      | true => have := a5 rfl; omega
  | succ M ih =>
    intro H N g sp hF hP hc hm
    cases g with
    | false => exact fin H N sp hF hP (hc rfl)
    | true =>
      refine T_X12_areBound_35 ?_
      unfold wb_X12_areBound_35
      refine ⟨fun h => (by cases h), fun _ => bound_in (c0 := M + 1) hok hn hk hv (fun H' N' g' a1 a2 a3 a4 a5 => ?_) k 0 H N false (by omega) sp hF hP (fun _ j hj => by omega) (by simpa using hm)⟩
      cases g' with
      | false => exact fin H' N' a1 a2 a3 (a4 rfl)
      | true => exact ih H' N' true a1 a2 a3 a4 (by have := a5 rfl; omega)
theorem bound_init {d n k m v x : Nat} {q : HP → Bool → Prop} {H0 : HP} {C : CLM} (hok : okCl n C) (hn : n ≤ 20) (hk : k ≤ C.1) (hv : v < 20) (hx : x < 20)
    (hq : ∀ (H : HP) (N : Nat → Int32) (b : Bool), MBI H m k C N → Fr (FrS m) H0 H → PtI (CX C) (CY C) k v N → (b = true ↔ rch N x) → (b = true ↔ lab (CX C) (CY C) k x = lab (CX C) (CY C) k v) → q H b) : ∀ (r i : Nat) (H : HP) (N : Nat → Int32), r + i = 20 → MBI H m k C N → Fr (FrS m) H0 H → (∀ u, u < i → N u = -1) → L_X12_areBound_3 d q m (Int32.ofNat x) (Int32.ofNat v) (Int32.ofNat k) (Int32.ofNat i) H := by
  have e20 : (20 : Int32) = Int32.ofNat 20 := rfl
  intro r
  induction r with
  | zero =>
    intro i H N hi sp hF hN
    obtain ⟨f1, f2, f3, f4⟩ := mA_from sp.1
    refine T_X12_areBound_3 ?_
    unfold wb_X12_areBound_3
    rw [e20, iN_le (by omega) (by omega)]
    refine ⟨fun _ => ⟨sp.1.1, m + 29, f1, f2, by rw [f4]; exact vpi_of hv (by decide), ?_⟩, fun h => by omega⟩
    rw [f3, iN_cl (by omega)]
    refine bound_out hok hn hk hv hx hq (cntB (opn (CX C) (CY C) (setN N v 16)) k) _ (setN N v 16) true (MBI_set sp) (hF.tr (Fr_sI ⟨rfl, rfl⟩)) ?_ (fun h => by cases h) (Nat.le_refl _)
    refine PtI_start (by unfold setN; rw [if_pos rfl]) fun u hu hne => ?_
    unfold setN; rw [if_neg hne]; exact hN u (by omega)
  | succ r ih =>
    intro i H N hi sp hF hN
    obtain ⟨f1, f2, f3, f4⟩ := mA_from sp.1
    refine T_X12_areBound_3 ?_
    unfold wb_X12_areBound_3
    rw [e20, iN_le (by omega) (by omega)]
    refine ⟨fun h => by omega, fun _ => ⟨sp.1.1, m + 29, f1, f2, by rw [f4]; exact vpi_of (by omega) (by decide), ?_⟩⟩
    rw [f3, iN_cl (by omega), iN_inc (by omega)]
    refine ih (i + 1) _ (setN N i (-1)) (by omega) (MBI_set sp) (hF.tr (Fr_sI ⟨rfl, rfl⟩)) fun u hu => ?_
    unfold setN
    split
    · rfl
    · exact hN u (by omega)
theorem K_areBound {d n k m v x : Nat} {q : HP → Bool → Prop} {H : HP} {C : CLM} {N0 : Nat → Int32} (hok : okCl n C) (hn : n ≤ 20) (hk : k ≤ C.1) (hv : v < 20) (hx : x < 20) (sp : MBI H m k C N0)
    (hq : ∀ (H' : HP) (N : Nat → Int32) (b : Bool), MBI H' m k C N → Fr (FrS m) H H' → PtI (CX C) (CY C) k v N → (b = true ↔ rch N x) → (b = true ↔ lab (CX C) (CY C) k x = lab (CX C) (CY C) k v) → q H' b) : CZ (d + 1) 0 0 mX12_areBound [rv (some m), .int (Int32.ofNat x), .int (Int32.ofNat v), .int (Int32.ofNat k)] H q := by
  refine C_X12_areBound ?_
  unfold wb_X12_areBound_0
  exact bound_init hok hn hk hv hx hq 20 0 H N0 rfl sp Fr.rf fun u hu => by omega
/-! the way, of the reference -/
abbrev MgS (m : Nat) : Nat → Nat → Prop := fun g x => x = m ∧ (g = 1319 ∨ g = 1320 ∨ g = 1321)
theorem mgo_step {d n k : Nat} {q : HP → Prop} {H0 H : HP} {m v i w : Nat} {dd : Bool} {C : CLM} {N : Nat → Int32} {f : FR} {x6 x8 : Int64} (hok : okCl n C) (hn : n ≤ 20) (hi : i < C.1) (hw : w < 20) (sp : MBI H m k C N) (hF : Fr (MgS m) H0 H) (ho : hI H 1321 m 0 = 0) (h6 : x6 = f.1) (h8 : x8 = f.2) (okf : okF f)
    (hd : (dd = true ∧ CY C i = w) ∨ (dd = false ∧ CX C i = w))
    (h1 : ∀ H' g, mulF f.1 f.2 (stepF C (i, dd)).1 (stepF C (i, dd)).2 = some g → MBI H' m k C N → Fr (MgS m) H0 H' → getM H' m = g → okF g → hI H' 1321 m 0 = 0 → L_X12_goes_17 (d + 3) q m (Int32.ofNat v) (Int32.ofNat w) H')
    (h0 : ∀ H', mulF f.1 f.2 (stepF C (i, dd)).1 (stepF C (i, dd)).2 = none → MBI H' m k C N → Fr (MgS m) H0 H' → hI H' 1321 m 0 = 1 → L_X12_goes_17 (d + 3) q m (Int32.ofNat v) (Int32.ofNat w) H') :
    wb_X12_goes_88 (d + 3) q m (Int32.ofNat v) (Int32.ofNat i) (bI dd) x6 x8 (some m) (some (m + 7)) (Int32.ofNat (4 * i)) (if dd = true then 2 else 3) H := by
  obtain ⟨o1, o2, o3, p1, p2, q1, q2⟩ := hok.2 i hi
  have hCn := hok.1
  obtain ⟨so1, so2⟩ := stepF_ok hok (e := (i, dd)) hi
  have ep := i64_of32 (CP C i)
  have eq := i64_of32 (CQ C i)
  obtain ⟨ib1, ib2, ib3⟩ := ix4b (i := i) (by omega)
  obtain ⟨s, rw', st, sn⟩ := id sp
  obtain ⟨r1, r2, r3, r4⟩ := rw'.2 i hi
  obtain ⟨c1, c2, c3', c4⟩ := mA_claim s
  have inA : vp_in (Int32.ofNat (4 * i)) 64 := vpi_of (by omega) (by decide)
  have inB : vp_in (Int32.ofNat (4 * i + 1)) 64 := vpi_of (by omega) (by decide)
  have inC : vp_in (Int32.ofNat (4 * i + 2)) 64 := vpi_of (by omega) (by decide)
  have inD : vp_in (Int32.ofNat (4 * i + 3)) 64 := vpi_of (by omega) (by decide)
  have tail : ∀ H8, H8 = setM H m (stepF C (i, dd)) → tg H8 m = 13 ∧ (CV (d + 3) 0 0 mX12_times [rv (some m), .long x6, .long x8, .long (hL H8 1319 m 0), .long (hL H8 1320 m 0)] H8 (fun H12 => (bI dd = 0 → tg H12 m = 13 ∧ (∃ a14, (hC H12 1308 m) = some a14 ∧ (isA H12 a14 0 ∧ (vp_in ((4 : Int32) * Int32.ofNat i) (ln H12 a14) ∧ (L_X12_goes_17 (d + 3) q m (Int32.ofNat v) (hI H12 (tg H12 a14) a14 ((4 : Int32) * Int32.ofNat i).toNatClampNeg) H12))))) ∧ (¬ (bI dd = 0) → tg H12 m = 13 ∧ (∃ a18, (hC H12 1308 m) = some a18 ∧ (isA H12 a18 0 ∧ (vp_in (((4 : Int32) * Int32.ofNat i) + (1 : Int32)) (ln H12 a18) ∧ (L_X12_goes_17 (d + 3) q m (Int32.ofNat v) (hI H12 (tg H12 a18) a18 (((4 : Int32) * Int32.ofNat i) + (1 : Int32)).toNatClampNeg) H12))))))) := by
    intro H8 e8
    have F8 : Fr (MgS m) H H8 := by rw [e8]; exact Fr_setM ⟨rfl, Or.inl rfl⟩ ⟨rfl, Or.inr (Or.inl rfl)⟩
    have sp8 : MBI H8 m k C N := fr_MBI F8 (fun k => by omega) (fun k => by omega) (fun k => by omega) (fun k => by omega) sp
    have g8 : getM H8 m = stepF C (i, dd) := by rw [e8]; exact getM_setM
    have e1 : hL H8 1319 m 0 = (stepF C (i, dd)).1 := congrArg Prod.fst g8
    have e2 : hL H8 1320 m 0 = (stepF C (i, dd)).2 := congrArg Prod.snd g8
    have ho8 : hI H8 1321 m 0 = 0 := by rw [e8]; exact ho
    -- behind it all
    have fin : ∀ H12, MBI H12 m k C N → L_X12_goes_17 (d + 3) q m (Int32.ofNat v) (Int32.ofNat w) H12 → (bI dd = 0 → tg H12 m = 13 ∧ (∃ a14, (hC H12 1308 m) = some a14 ∧ (isA H12 a14 0 ∧ (vp_in ((4 : Int32) * Int32.ofNat i) (ln H12 a14) ∧ (L_X12_goes_17 (d + 3) q m (Int32.ofNat v) (hI H12 (tg H12 a14) a14 ((4 : Int32) * Int32.ofNat i).toNatClampNeg) H12))))) ∧ (¬ (bI dd = 0) → tg H12 m = 13 ∧ (∃ a18, (hC H12 1308 m) = some a18 ∧ (isA H12 a18 0 ∧ (vp_in (((4 : Int32) * Int32.ofNat i) + (1 : Int32)) (ln H12 a18) ∧ (L_X12_goes_17 (d + 3) q m (Int32.ofNat v) (hI H12 (tg H12 a18) a18 (((4 : Int32) * Int32.ofNat i) + (1 : Int32)).toNatClampNeg) H12))))) := by
      intro H12 sp12 go
      obtain ⟨c1, c2, c3', c4⟩ := mA_claim sp12.1
      obtain ⟨r1, r2, -, -⟩ := sp12.2.1.2 i hi
      rw [ix4a (by omega), ib1]
      refine ⟨fun hb => ?_, fun hb => ?_⟩
      · rw [bI_0] at hb
        subst hb
        rcases hd with ⟨k, -⟩ | ⟨-, k⟩
        · cases k
        · refine ⟨sp12.1.1, m + 7, c1, c2, by rw [c4]; exact inA, ?_⟩
          rw [c3', iN_cl (by omega), r1, k]; exact go
      · rw [bI_1] at hb
        subst hb
        rcases hd with ⟨-, k⟩ | ⟨k, -⟩
        · refine ⟨sp12.1.1, m + 7, c1, c2, by rw [c4]; exact inB, ?_⟩
          rw [c3', iN_cl (by omega), r2, k]; exact go
        · cases k
    refine ⟨sp8.1.1, ?_⟩
    rw [e1, e2, h6, h8]
    refine K_times sp8.1.1 (Or.inl ho8) okf so1.2.1 so1.1 (fun h => by omega) (fun g hg => ?_) (fun hg g => ?_)
    · have F9 : Fr (MgS m) H8 (setM H8 m g) := Fr_setM ⟨rfl, Or.inl rfl⟩ ⟨rfl, Or.inr (Or.inl rfl)⟩
      have sp9 : MBI (setM H8 m g) m k C N := fr_MBI F9 (fun k => by omega) (fun k => by omega) (fun k => by omega) (fun k => by omega) sp8
      exact fin _ sp9 (h1 _ g hg sp9 ((hF.tr F8).tr F9) getM_setM (mulF_ok (a := f.1) (b := f.2) okf so1.2.1 so1.1 so1.2.2 hg) ho8)
    · have F9 : Fr (MgS m) H8 (setM (sI H8 1321 m 0 1) m g) := (Fr_sI ⟨rfl, Or.inr (Or.inr rfl)⟩).tr (Fr_setM ⟨rfl, Or.inl rfl⟩ ⟨rfl, Or.inr (Or.inl rfl)⟩)
      have sp9 : MBI (setM (sI H8 1321 m 0 1) m g) m k C N := fr_MBI F9 (fun k => by omega) (fun k => by omega) (fun k => by omega) (fun k => by omega) sp8
      refine fin _ sp9 (h0 _ hg sp9 ((hF.tr F8).tr F9) ?_)
      show hI (sI H8 1321 m 0 1) 1321 m 0 = 1
      rw [hIs_i, if_pos rfl]
  unfold wb_X12_goes_88
  cases dd with
  | true =>
    rw [if_pos rfl, ib2]
    refine ⟨m + 7, rfl, c2, by rw [c4]; exact inC, s.1, fun h => (by cases h), fun _ => ⟨m + 7, c1, c2, ?_, m, rfl, s.1, ?_⟩⟩
    · rw [ix4a (by omega), ib3, c4]; exact inD
    · rw [ix4a (by omega), ib3, c3', iN_cl (by omega), iN_cl (by omega), r3, r4]
      refine K_becomes s.1 (by omega) (by omega) ?_
      have := tail _ rfl
      rw [ix4a (by omega)] at this
      exact this
  | false =>
    rw [if_neg (by decide), ib3]
    refine ⟨m + 7, rfl, c2, by rw [c4]; exact inD, s.1, fun _ => ⟨m + 7, c1, c2, ?_, m, rfl, s.1, ?_⟩, fun h => absurd rfl h⟩
    · rw [ix4a (by omega), ib2, c4]; exact inC
    · rw [ix4a (by omega), ib2, c3', iN_cl (by omega), iN_cl (by omega), r3, r4]
      refine K_becomes s.1 (by omega) (by omega) ?_
      have := tail _ rfl
      rw [ix4a (by omega)] at this
      exact this
theorem mgo_loop {d n k : Nat} {q : HP → Prop} {H0 : HP} {m v : Nat} {C : CLM} {N : Nat → Int32} (hok : okCl n C) (hn : n ≤ 20) (hk : k ≤ C.1) (hv : v < 20) (hP : PtI (CX C) (CY C) k v N) {L : List (Nat × Bool)} {f0 : FR}
    (h1 : ∀ H' g, wayF C L f0 = some g → MBI H' m k C N → Fr (MgS m) H0 H' → getM H' m = g → okF g → hI H' 1321 m 0 = 0 → q H')
    (h0 : ∀ H', wayF C L f0 = none → MBI H' m k C N → Fr (MgS m) H0 H' → hI H' 1321 m 0 = 1 → q H') :
    ∀ (l : List (Nat × Bool)) (u : Nat) (H : HP) (f : FR), l = pth (CX C) (CY C) k u v → u < 20 → rch N u → MBI H m k C N → Fr (MgS m) H0 H → getM H m = f → okF f → hI H 1321 m 0 = 0 → wayF C l f = wayF C L f0 → L_X12_goes_17 (d + 3) q m (Int32.ofNat v) (Int32.ofNat u) H := by
  have hCn := hok.1
  have n10 : ¬ (1 : Int32) = 0 := by decide
  intro l
  induction l with
  | nil =>
    intro u H f hl hu hr sp hF hf okf ho hway
    have huv : u = v := by
      apply Classical.byContradiction
      intro hne
      obtain ⟨-, -, k⟩ := hP.2 u hu hr
      obtain ⟨i, dd, w, -, -, -, -, -, -, k⟩ := k hne
      rw [← hl] at k; cases k
    subst huv
    refine T_X12_goes_17 ?_
    unfold wb_X12_goes_17
    exact ⟨fun _ => h1 H f (hway ▸ rfl) sp hF hf okf ho, fun h => absurd rfl h⟩
  | cons e l ih =>
    intro u H f hl hu hr sp hF hf okf ho hway
    have huv : u ≠ v := by
      rintro rfl
      rw [pth_self] at hl; cases hl
    obtain ⟨-, -, kk⟩ := hP.2 u hu hr
    obtain ⟨i, dd, w, hi, hw, eN, hj, he, hrw, kk⟩ := kk huv
    rw [← hl] at kk
    injection kk with k1 k2
    subst k1
    obtain ⟨s, rw', st, sn⟩ := id sp
    obtain ⟨o1, o2, o3, p1, p2, q1, q2⟩ := hok.2 i (by omega)
    obtain ⟨r1, r2, r3, r4⟩ := rw'.2 i (by omega)
    obtain ⟨c1, c2, c3', c4⟩ := mA_claim s
    obtain ⟨f1, f2, f3, f4⟩ := mA_from s
    have inU : vp_in (Int32.ofNat u) 20 := vpi_of (by omega) (by decide)
    have inA : vp_in (Int32.ofNat (4 * i)) 64 := vpi_of (by omega) (by decide)
    have hXu : CX C i = u ↔ dd = true := by
      rcases he with ⟨e1, e2, -⟩ | ⟨e1, e2, -⟩
      · exact ⟨fun _ => e1, fun _ => e2⟩
      · refine ⟨fun k => ?_, fun k => by rw [e1] at k; cases k⟩
        exact absurd (k.trans e2.symm) o3
    have hd : (dd = true ∧ CY C i = w) ∨ (dd = false ∧ CX C i = w) := by
      rcases he with ⟨e1, -, e3⟩ | ⟨e1, -, e3⟩
      · exact Or.inl ⟨e1, e3⟩
      · exact Or.inr ⟨e1, e3⟩
    have hwayE : wayF C ((i, dd) :: l) f = match mulF f.1 f.2 (stepF C (i, dd)).1 (stepF C (i, dd)).2 with
      | none => none
      | some g => wayF C l g := rfl
    have e6 : hL H 1319 m 0 = f.1 := congrArg Prod.fst hf
    have e8 : hL H 1320 m 0 = f.2 := congrArg Prod.snd hf
    have go := mgo_step (d := d) (q := q) hok hn (show i < C.1 by omega) hw sp hF ho e6 e8 okf hd (v := v) (fun H' g hg a1 a2 a3 a4 a5 => ih w H' g k2 hw hrw a1 a2 a3 a4 a5 (by rw [hwayE, hg] at hway; exact hway)) (fun H' hg a1 a2 a3 => ?_)
    · refine T_X12_goes_17 ?_
      unfold wb_X12_goes_17
      have hne : ¬ Int32.ofNat u = Int32.ofNat v := by rw [iN_eq (by omega) (by omega)]; exact huv
      refine ⟨fun h => absurd h hne, fun _ => ⟨s.1, fun h => absurd ho h, fun _ => ⟨m + 29, f1, f2, by rw [f4]; exact inU, m + 7, c1, c2, ?_, ?_⟩⟩⟩
      · rw [f3, iN_cl (by omega), sn u hu, eN, ix4a (by omega), c4]; exact inA
      · rw [f3, c3', iN_cl (show u < 2147483648 by omega), sn u hu, eN, ix4a (by omega), iN_cl (by omega), r1, c1, iN_eq (by omega) (by omega), hXu]
        cases dd with
        | true => exact ⟨fun h => absurd rfl h, fun _ => ⟨fun h => absurd h n10, fun _ => go⟩⟩
        | false => exact ⟨fun _ => ⟨fun _ => go, fun h => absurd rfl h⟩, fun h => by cases h⟩
    · refine T_X12_goes_17 ?_
      unfold wb_X12_goes_17
      have q0 := h0 H' (by rw [hwayE, hg] at hway; exact hway.symm) a1 a2 a3
      refine ⟨fun _ => q0, fun _ => ⟨a1.1.1, fun _ => q0, fun h => ?_⟩⟩
      rw [a3] at h; exact absurd h n10
theorem K_goes {d n k u : Nat} {q : HP → Prop} {H : HP} {m v : Nat} {C : CLM} {N : Nat → Int32} (hok : okCl n C) (hn : n ≤ 20) (hk : k ≤ C.1) (hu : u < 20) (hv : v < 20) (hP : PtI (CX C) (CY C) k v N) (hr : rch N u) (sp : MBI H m k C N)
    (h1 : ∀ H' g, wayF C (pth (CX C) (CY C) k u v) (1, 1) = some g → MBI H' m k C N → Fr (MgS m) H H' → getM H' m = g → okF g → hI H' 1321 m 0 = 0 → q H')
    (h0 : ∀ H', wayF C (pth (CX C) (CY C) k u v) (1, 1) = none → MBI H' m k C N → Fr (MgS m) H H' → hI H' 1321 m 0 = 1 → q H') : CV (d + 4) 0 0 mX12_goes [rv (some m), .int (Int32.ofNat u), .int (Int32.ofNat v)] H q := by
  refine C_X12_goes ?_
  unfold wb_X12_goes_0
  have F : Fr (MgS m) H (setM (sI H 1321 m 0 0) m (1, 1)) := (Fr_sI ⟨rfl, Or.inr (Or.inr rfl)⟩).tr (Fr_setM ⟨rfl, Or.inl rfl⟩ ⟨rfl, Or.inr (Or.inl rfl)⟩)
  refine ⟨sp.1.1, mgo_loop hok hn hk hv hP (L := pth (CX C) (CY C) k u v) (f0 := (1, 1)) h1 h0 (pth (CX C) (CY C) k u v) u (setM (sI H 1321 m 0 0) m (1, 1)) (1, 1) rfl hu hr (fr_MBI F (fun k => by omega) (fun k => by omega) (fun k => by omega) (fun k => by omega) sp) F getM_setM ⟨by decide, by decide, by decide⟩ ?_ rfl⟩
  show hI (sI H 1321 m 0 0) 1321 m 0 = 0
  rw [hIs_i, if_pos rfl]
