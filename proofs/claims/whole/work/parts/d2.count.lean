
/-! ===== count ===== -/
def cnF (f : Nat → Bool) : Nat → Nat → Nat
  | 0, _ => 0
  | r + 1, i => (if f i = true then 1 else 0) + cnF f r (i + 1)
theorem cnF_s (f : Nat → Bool) (r i : Nat) : cnF f (r + 1) i = (if f i = true then 1 else 0) + cnF f r (i + 1) := rfl
theorem cnF_le (f : Nat → Bool) : ∀ r i : Nat, cnF f r i ≤ r
  | 0, _ => Nat.le_refl 0
  | r + 1, i => by
    have := cnF_le f r (i + 1)
    rw [cnF_s]
    split <;> omega
theorem cnF_split (f : Nat → Bool) : ∀ a b i : Nat, cnF f (a + b) i = cnF f a i + cnF f b (i + a)
  | 0, b, i => by rw [Nat.zero_add, Nat.add_zero]; show _ = 0 + _; rw [Nat.zero_add]
  | a + 1, b, i => by
    have := cnF_split f a b (i + 1)
    rw [show a + 1 + b = (a + b) + 1 by omega, cnF_s, cnF_s, this, show i + 1 + a = i + (a + 1) by omega, Nat.add_assoc]
theorem cnF_cong {f g : Nat → Bool} : ∀ (r a b : Nat), (∀ j, j < r → g (a + j) = f (b + j)) → cnF g r a = cnF f r b
  | 0, _, _, _ => rfl
  | r + 1, a, b, h => by
    have h0 := h 0 (by omega)
    rw [Nat.add_zero, Nat.add_zero] at h0
    rw [cnF_s, cnF_s, h0, cnF_cong r (a + 1) (b + 1) (fun j hj => by
      have := h (j + 1) (by omega)
      rw [show a + (j + 1) = a + 1 + j by omega, show b + (j + 1) = b + 1 + j by omega] at this
      exact this)]
def fulT (T : TRs) : Nat → Bool := fun t => decide (tS (T t) ≠ -1)
def fulK (K : RKt) (r : Nat) : Nat → Bool := fun i => decide ((K r i).1 ≠ -1)
def fulM (K : RKt) : Nat → Bool := fun x => decide ((K (x / 6) (x % 6)).1 ≠ -1)
def plcN (K : RKt) : Nat := cnF (fulK K 0) 6 0 + cnF (fulK K 1) 6 0 + cnF (fulK K 2) 6 0
theorem plc_18 (K : RKt) : cnF (fulM K) 18 0 = plcN K := by
  have h : ∀ r, cnF (fulM K) 6 (6 * r) = cnF (fulK K r) 6 0 := fun r => cnF_cong 6 (6 * r) 0 fun j hj => by
    show decide ((K ((6 * r + j) / 6) ((6 * r + j) % 6)).1 ≠ -1) = decide ((K r (0 + j)).1 ≠ -1)
    rw [show (6 * r + j) / 6 = r by omega, show (6 * r + j) % 6 = 0 + j by omega]
  have h0 := h 0
  have h1 := h 1
  have h2 := h 2
  rw [show (18 : Nat) = 6 + (6 + 6) from rfl, cnF_split, cnF_split]
  unfold plcN
  rw [← h0, ← h1, ← h2]
  exact (Nat.add_assoc _ _ _).symm
theorem ftr_loop {d : Nat} {q : HP → Int32 → Prop} {H : HP} {T : TRs} (p : shP H) (c : CTr H T) (ok : okTR T) : ∀ (r i k : Nat), r + i = 4 → k ≤ i → q H (Int32.ofNat (k + cnF (fulT T) r i)) → L_X11_filledTracks_4 (d + 1) q 0 (Int32.ofNat k) (Int32.ofNat i) H := by
  have e4 : (4 : Int32) = Int32.ofNat 4 := rfl
  obtain ⟨s1, s2, s3, s4, s5, s6, s7, s8, s9, s10, s11, s12, s13, s14, -⟩ := id p
  intro r
  induction r with
  | zero =>
    intro i k e hk hq
    refine T_X11_filledTracks_4 ?_
    unfold wb_X11_filledTracks_4
    rw [e4, iN_le (by omega) (by omega)]
    exact ⟨fun _ => hq, fun h => by omega⟩
  | succ r ih =>
    intro i k e hk hq
    refine T_X11_filledTracks_4 ?_
    unfold wb_X11_filledTracks_4
    rw [e4, iN_le (by omega) (by omega)]
    refine ⟨fun h => by omega, fun _ => ⟨s1, 1090, s8, isA_of s14 (by decide) (by decide), by rw [ln_of s14]; exact vpi_of (by omega) (by decide), ?_⟩⟩
    obtain ⟨h1, sh⟩ := c.1 i (by omega)
    rw [tg_of s14, iN_cl (by omega), h1, iN_inc (by omega), iN_inc (by omega), Int32.add_zero]
    rw [cnF_s] at hq
    refine ⟨_, rfl, sh.1, K_isNothing (d := d) sh.1 (c.2 i (by omega)) (ok i) (fun h => ⟨fun k => (by cases k), fun _ => ih (i + 1) k (by omega) (by omega) ?_⟩) (fun h _ => ⟨fun _ => ?_, fun k => (by cases k)⟩)⟩
    · rw [if_neg (by unfold fulT; rw [h]; decide), Nat.zero_add] at hq; exact hq
    · rw [if_pos (by unfold fulT; exact decide_eq_true h), ← Nat.add_assoc] at hq
      exact ih (i + 1) (k + 1) (by omega) (by omega) hq
theorem fil_loop {d r : Nat} {q : HP → Int32 → Prop} {H : HP} {K : RKt} (c : CRk H K) (hr : r < 3) : ∀ (n i k : Nat), n + i = 6 → k ≤ i → q H (Int32.ofNat (k + cnF (fulK K r) n i)) → L_X5_filled_4 d q (1109 + 3 * r) (Int32.ofNat k) (Int32.ofNat i) H := by
  have e6 : (6 : Int32) = Int32.ofNat 6 := rfl
  obtain ⟨s1, s2, s3, s4, s5⟩ := (c.1 r hr).2.1
  intro n
  induction n with
  | zero =>
    intro i k e hk hq
    refine T_X5_filled_4 ?_
    unfold wb_X5_filled_4
    rw [e6, iN_le (by omega) (by omega)]
    exact ⟨fun _ => hq, fun h => by omega⟩
  | succ n ih =>
    intro i k e hk hq
    refine T_X5_filled_4 ?_
    unfold wb_X5_filled_4
    rw [e6, iN_le (by omega) (by omega)]
    refine ⟨fun h => by omega, fun _ => ⟨s1, 1109 + 3 * r + 1, s2, isA_of s3 (by decide) (by decide), by rw [ln_of s3]; exact vpi_of (by omega) (by decide), ?_⟩⟩
    rw [tg_of s3, iN_cl (by omega), (c.2 r hr i (by omega)).1, iN_inc (by omega), iN_inc (by omega), Int32.add_zero]
    rw [cnF_s] at hq
    refine ⟨fun h => ih (i + 1) (k + 1) (by omega) (by omega) ?_, fun h => ih (i + 1) k (by omega) (by omega) ?_⟩
    · rw [if_pos (by unfold fulK; exact decide_eq_true h), ← Nat.add_assoc] at hq; exact hq
    · rw [if_neg (by unfold fulK; rw [h]; decide), Nat.zero_add] at hq; exact hq
theorem K_filled {d r : Nat} {q : HP → Int32 → Prop} {H : HP} {K : RKt} (c : CRk H K) (hr : r < 3) (hq : q H (Int32.ofNat (cnF (fulK K r) 6 0))) : CI (d + 1) 0 0 mX5_filled [rv (some (1109 + 3 * r))] H q := by
  refine C_X5_filled ?_
  unfold wb_X5_filled_0
  exact fil_loop c hr 6 0 0 (by omega) (by omega) (by rw [Nat.zero_add]; exact hq)
theorem fpl_step {d r k : Nat} {q : HP → Int32 → Prop} {H : HP} {K : RKt} (p : shP H) (c : CRk H K) (hr : r < 3) (hk : k ≤ 6 * r) (hq : L_X11_filledPlaces_4 (d + 1) q 0 (Int32.ofNat (k + cnF (fulK K r) 6 0)) (Int32.ofNat (r + 1)) H) : L_X11_filledPlaces_4 (d + 1) q 0 (Int32.ofNat k) (Int32.ofNat r) H := by
  have e3 : (3 : Int32) = Int32.ofNat 3 := rfl
  obtain ⟨s1, s2, s3, s4, s5, s6, s7, s8, s9, s10, s11, s12, s13, s14, s15, -⟩ := id p
  refine T_X11_filledPlaces_4 ?_
  unfold wb_X11_filledPlaces_4
  rw [e3, iN_le (by omega) (by omega)]
  refine ⟨fun h => by omega, fun _ => ⟨s1, 1091, s9, isA_of s15 (by decide) (by decide), by rw [ln_of s15]; exact vpi_of (by omega) (by decide), ?_⟩⟩
  have h1 := (c.1 r hr).1
  have hle := cnF_le (fulK K r) 6 0
  rw [tg_of s15, iN_cl (by omega), h1, iN_inc (by omega)]
  refine ⟨_, rfl, (c.1 r hr).2.1.1, K_filled (d := d) c hr ?_⟩
  rw [iN_add (by omega)]
  exact hq
theorem K_filledPlaces {d : Nat} {q : HP → Int32 → Prop} {H : HP} {K : RKt} (p : shP H) (c : CRk H K) (hq : q H (Int32.ofNat (plcN K))) : CI (d + 2) 0 0 mX11_filledPlaces [rv (some 0)] H q := by
  have h0 := cnF_le (fulK K 0) 6 0
  have h1 := cnF_le (fulK K 1) 6 0
  refine C_X11_filledPlaces ?_
  unfold wb_X11_filledPlaces_0
  refine fpl_step (d := d) (r := 0) (k := 0) p c (by omega) (by omega) ?_
  refine fpl_step (d := d) (r := 1) p c (by omega) (by omega) ?_
  refine fpl_step (d := d) (r := 2) p c (by omega) (by omega) ?_
  refine T_X11_filledPlaces_4 ?_
  unfold wb_X11_filledPlaces_4
  refine ⟨fun _ => ?_, fun k => absurd (show (3 : Int32) ≤ Int32.ofNat (2 + 1) by decide) k⟩
  rw [Nat.zero_add]; exact hq
theorem K_filledTracks {d : Nat} {q : HP → Int32 → Prop} {H : HP} {T : TRs} (p : shP H) (c : CTr H T) (ok : okTR T) (hq : q H (Int32.ofNat (cnF (fulT T) 4 0))) : CI (d + 2) 0 0 mX11_filledTracks [rv (some 0)] H q := by
  refine C_X11_filledTracks ?_
  unfold wb_X11_filledTracks_0
  exact ftr_loop (d := d) p c ok 4 0 0 (by omega) (by omega) (by rw [Nat.zero_add]; exact hq)
theorem mct_loop {d m : Nat} {q : HP → Int32 → Prop} {H : HP} {T : TRs} (sm : shM H m) (c : MTr H m T) (ok : okTR T) : ∀ (r i k : Nat), r + i = 4 → k ≤ i → q H (Int32.ofNat (k + cnF (fulT T) r i)) → L_X12_count_73 d q m (Int32.ofNat k) (Int32.ofNat i) H := by
  have e4 : (4 : Int32) = Int32.ofNat 4 := rfl
  obtain ⟨x1, x2, x3, x4⟩ := mA_sort sm
  intro r
  induction r with
  | zero =>
    intro i k e hk hq
    refine T_X12_count_73 ?_
    unfold wb_X12_count_73
    rw [e4, iN_le (by omega) (by omega)]
    exact ⟨fun _ => hq, fun h => by omega⟩
  | succ r ih =>
    intro i k e hk hq
    refine T_X12_count_73 ?_
    unfold wb_X12_count_73
    rw [e4, iN_le (by omega) (by omega)]
    refine ⟨fun h => by omega, fun _ => ⟨sm.1, m + 31, x1, x2, by rw [x4]; exact vpi_of (by omega) (by decide), ?_⟩⟩
    have hs : tS (T i) < 0 ↔ tS (T i) = -1 := by
      rcases (ok i).1 with h | h | h <;> rw [h] <;> decide
    rw [x3, iN_cl (by omega), (c i (by omega)).1, iN_inc (by omega), iN_inc (by omega), Int32.add_zero, hs]
    rw [cnF_s] at hq
    refine ⟨fun h => ih (i + 1) k (by omega) (by omega) ?_, fun h => ih (i + 1) (k + 1) (by omega) (by omega) ?_⟩
    · rw [if_neg (by unfold fulT; rw [h]; decide), Nat.zero_add] at hq; exact hq
    · rw [if_pos (by unfold fulT; exact decide_eq_true h), ← Nat.add_assoc] at hq; exact hq
theorem mcp_loop {d m : Nat} {q : HP → Int32 → Prop} {H : HP} {K : RKt} (sm : shM H m) (c : MRk H m K) (ok : okRK K) : ∀ (r i k : Nat), r + i = 18 → k ≤ i → q H (Int32.ofNat (k + cnF (fulM K) r i)) → L_X12_count_105 d q m (Int32.ofNat k) (Int32.ofNat i) H := by
  have e18 : (18 : Int32) = Int32.ofNat 18 := rfl
  obtain ⟨x1, x2, x3, x4⟩ := mA_rackKind sm
  intro r
  induction r with
  | zero =>
    intro i k e hk hq
    refine T_X12_count_105 ?_
    unfold wb_X12_count_105
    rw [e18, iN_le (by omega) (by omega)]
    exact ⟨fun _ => hq, fun h => by omega⟩
  | succ r ih =>
    intro i k e hk hq
    refine T_X12_count_105 ?_
    unfold wb_X12_count_105
    rw [e18, iN_le (by omega) (by omega)]
    refine ⟨fun h => by omega, fun _ => ⟨sm.1, m + 35, x1, x2, by rw [x4]; exact vpi_of (by omega) (by decide), ?_⟩⟩
    have hs : (K (i / 6) (i % 6)).1 < 0 ↔ (K (i / 6) (i % 6)).1 = -1 := by
      rcases ok (i / 6) (i % 6) with h | h | h <;> rw [h] <;> decide
    have hv := (c (i / 6) (by omega) (i % 6) (by omega)).1
    rw [show 6 * (i / 6) + i % 6 = i by omega] at hv
    rw [x3, iN_cl (by omega), hv, iN_inc (by omega), iN_inc (by omega), Int32.add_zero, hs]
    rw [cnF_s] at hq
    refine ⟨fun h => ih (i + 1) k (by omega) (by omega) ?_, fun h => ih (i + 1) (k + 1) (by omega) (by omega) ?_⟩
    · rw [if_neg (by unfold fulM; rw [h]; decide), Nat.zero_add] at hq; exact hq
    · rw [if_pos (by unfold fulM; exact decide_eq_true h), ← Nat.add_assoc] at hq; exact hq
def countA (n c l : Nat) (pr : Bool) (P : PG) (T : TRs) (K : RKt) (w : Int32) : Int32 := if w = 0 then Int32.ofNat n else if w = 1 then Int32.ofNat c else if w = 2 then Int32.ofNat l else if w = 3 then (if pr = true then Int32.ofNat (gH P) else 0) else if w = 4 then Int32.ofNat (cnF (fulT T) 4 0) else if w = 5 then Int32.ofNat (plcN K) else -2
theorem w5 {w : Int32} (h : w.toInt < 0 ∨ 5 < w.toInt) : w ≠ 0 ∧ w ≠ 1 ∧ w ≠ 2 ∧ w ≠ 3 ∧ w ≠ 4 ∧ w ≠ 5 := by
  refine ⟨?_, ?_, ?_, ?_, ?_, ?_⟩ <;> (intro k; subst k; revert h; decide)
theorem K_ccount {d n p : Nat} {q : HP → Int32 → Prop} {H : HP} {U : Nat → UV} {C : CLM} {T : TP} {pr : Bool} {P : PG} {TT : TRs} {K : RKt} {w : Int32} (s : shP H) (hu : CU H 3 n U) (hc : CCl H 105 C) (ht : CT H 1 T p) (hp : CPr H pr P) (c : CTr H TT) (ok : okTR TT) (rk : CRk H K) (hq : q H (countA n C.1 T.1 pr P TT K w)) : CI (d + 3) 0 0 mX11_count [rv (some 0), .int w] H q := by
  obtain ⟨s1, s2, s3, s4, -⟩ := id s
  refine C_X11_count ?_
  unfold wb_X11_count_0
  unfold countA at hq
  refine ⟨fun h => ?_, fun h => ?_, fun h => ?_, fun h => ?_, fun h => ?_, fun h => ?_, fun h => ?_⟩
  · obtain ⟨w0, w1, w2, w3, w4, w5⟩ := w5 h
    rw [if_neg w0, if_neg w1, if_neg w2, if_neg w3, if_neg w4, if_neg w5] at hq; exact hq
  · subst h
    refine ⟨s1, 3, s3, hu.1.1, ?_⟩
    rw [hu.2.1]; exact hq
  · subst h
    refine ⟨s1, 105, s4, hc.1.1, ?_⟩
    rw [hc.2.1.1]; exact hq
  · subst h
    refine ⟨s1, 1, s2, ht.1.1, ?_⟩
    rw [ht.2.1]; exact hq
  · subst h
    obtain ⟨c1, la, dr, -, c3, c4, c5, c6, c7, c8⟩ := hp
    refine ⟨s1, la, c3, c5.1, ?_⟩
    cases hpr : pr with
    | true =>
      rw [(c7 hpr).2.1.2.2.1]
      rw [hpr] at hq; exact hq
    | false =>
      rw [c8 hpr]
      rw [hpr] at hq; exact hq
  · subst h
    exact ⟨s1, K_filledTracks (d := d) s c ok hq⟩
  · subst h
    exact ⟨s1, K_filledPlaces (d := d) s rk hq⟩
theorem K_mcount {d m n : Nat} {q : HP → Int32 → Prop} {H : HP} {U : Nat → UV} {C : CLM} {T : TP} {pr : Bool} {P : PG} {TT : TRs} {K : RKt} {w : Int32} (hu : MU H m n U) (hc : MCl H m C) (ht : MT0 H m T) (hp : MPr H m pr P) (c : MTr H m TT) (ok : okTR TT) (rk : MRk H m K) (okr : okRK K) (hq : q H (countA n C.1 T.1 pr P TT K w)) : CI (d + 1) 0 0 mX12_count [rv (some m), .int w] H q := by
  have sm := hu.1
  refine C_X12_count ?_
  unfold wb_X12_count_0
  unfold countA at hq
  refine ⟨fun h => ?_, fun h => ?_, fun h => ?_, fun h => ?_, fun h => ?_, fun h => ?_, fun h => ?_⟩
  · obtain ⟨w0, w1, w2, w3, w4, w5⟩ := w5 h
    rw [if_neg w0, if_neg w1, if_neg w2, if_neg w3, if_neg w4, if_neg w5] at hq; exact hq
  · subst h
    refine ⟨sm.1, ?_⟩
    rw [hu.2.1]; exact hq
  · subst h
    refine ⟨sm.1, ?_⟩
    rw [hc.1]; exact hq
  · subst h
    refine ⟨sm.1, ?_⟩
    rw [ht.2.1]; exact hq
  · subst h
    refine ⟨sm.1, ?_⟩
    rw [hp.1]
    cases hpr : pr with
    | true =>
      rw [hpr] at hq
      refine ⟨fun k => absurd k (by decide), fun _ => ?_⟩
      rw [(hp.2 hpr).1.1]; exact hq
    | false =>
      rw [hpr] at hq
      exact ⟨fun _ => hq, fun k => absurd rfl k⟩
  · subst h
    exact mct_loop sm c ok 4 0 0 (by omega) (by omega) (by rw [Nat.zero_add]; exact hq)
  · subst h
    exact mcp_loop sm rk okr 18 0 0 (by omega) (by omega) (by rw [Nat.zero_add, plc_18]; exact hq)
