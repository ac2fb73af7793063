
/-! ===== shift: one rack's places laid into another, until one does not take ===== -/
def shfR (a b : Nat) : Nat → RKt → RKt × Int32
  | 0, K => (K, 6)
  | n + 1, K => if (K a (5 - n)).1 = -1 ∨ tkR b (K a (5 - n)).1 then shfR a b n (putK K b (5 - n) (K a (5 - n))) else (K, Int32.ofNat (5 - n))
theorem okRK_shfR {a b : Nat} : ∀ {n : Nat} {K : RKt}, okRK K → okRK (shfR a b n K).1
  | 0, K, h => h
  | n + 1, K, h => by
    unfold shfR
    split
    · exact okRK_shfR (okRK_put h (h _ _))
    · exact h
theorem shfR_s {a b n : Nat} {K : RKt} (h : (K a (5 - n)).1 = -1 ∨ tkR b (K a (5 - n)).1) : shfR a b (n + 1) K = shfR a b n (putK K b (5 - n) (K a (5 - n))) := if_pos h
theorem shfR_n {a b n : Nat} {K : RKt} (h : ¬ ((K a (5 - n)).1 = -1 ∨ tkR b (K a (5 - n)).1)) : shfR a b (n + 1) K = (K, Int32.ofNat (5 - n)) := if_neg h
theorem cshift_loop {d a b : Nat} {q : HP → Int32 → Prop} (ha : a < 3) (hb : b < 3) : ∀ (n : Nat) {H : HP} {K : RKt}, n ≤ 6 → CRk H K → (∀ H', Fr RcS H H' → CRk H' (shfR a b n K).1 → q H' (shfR a b n K).2) → L_X11_shift_27 (d + 1) q (some (1109 + 3 * a)) (some (1109 + 3 * b)) (Int32.ofNat (6 - n)) H := by
  intro n
  have e6 : (6 : Int32) = Int32.ofNat 6 := rfl
  induction n with
  | zero =>
    intro H K hn c hq
    refine T_X11_shift_27 ?_
    unfold wb_X11_shift_27
    exact ⟨fun _ => hq H Fr.rf c, fun k => absurd (show (6 : Int32) ≤ Int32.ofNat (6 - 0) by decide) k⟩
  | succ n ih =>
    intro H K hn c hq
    refine T_X11_shift_27 ?_
    unfold wb_X11_shift_27
    have ej : 6 - (n + 1) = 5 - n := by omega
    rw [ej]
    have h5 : 5 - n < 6 := by omega
    rw [e6, iN_le (by decide) (by omega)]
    refine ⟨fun k => by omega, fun _ => ?_⟩
    obtain ⟨sh1, sh2, sh3, sh4, sh5⟩ := (c.1 a ha).2.1
    obtain ⟨v1, v2⟩ := c.2 a ha (5 - n) h5
    refine ⟨_, rfl, sh1, 1109 + 3 * a + 1, sh2, isA_of sh3 (by decide) (by decide), by rw [ln_of sh3]; exact vpi_of h5 (by decide), 1109 + 3 * a + 2, sh4, isA_of sh5 (by decide) (by decide), by rw [ln_of sh5]; exact vpi_of h5 (by decide), _, rfl, (c.1 b hb).2.1.1, ?_⟩
    rw [tg_of sh3, tg_of sh5, iN_cl (by omega), v1]
    have cc : ((K a (5 - n)).1 = -1 ∨ hI H 600 (1109 + 3 * b) 0 = 2 ∨ hI H 600 (1109 + 3 * b) 0 = (K a (5 - n)).1) ↔ ((K a (5 - n)).1 = -1 ∨ tkR b (K a (5 - n)).1) := by
      have e2 : (2 : Int32) = Int32.ofNat 2 := rfl
      rw [(c.1 b hb).2.2, e2, iN_eq (by omega) (by omega)]
    refine K_store (c.1 b hb).2.1 h5 (fun h => ⟨fun _ => ?_, fun k => (by cases k)⟩) (fun h => ⟨fun k => (by cases k), fun _ => ?_⟩)
    · obtain ⟨F, c'⟩ := CRk_put (k := (K a (5 - n)).1) c hb h5 v2
      have c' : CRk (sL (sI H 4112 (1109 + 3 * b + 1) (5 - n) (K a (5 - n)).1) 4131 (1109 + 3 * b + 2) (5 - n) (hL H 4131 (1109 + 3 * a + 2) (5 - n))) (putK K b (5 - n) (K a (5 - n))) := c'
      rw [iN_inc (by omega)]
      have e' : 5 - n + 1 = 6 - n := by omega
      rw [e']
      refine ih (by omega) c' fun H' F' c2 => ?_
      have := hq H' (F.tr F')
      rw [shfR_s (cc.mp h)] at this
      exact this c2
    · have := hq H Fr.rf
      rw [shfR_n (fun k => h (cc.mpr k))] at this
      exact this c
theorem mshift_loop {d m a b : Nat} {q : HP → Int32 → Prop} (ha : a < 3) (hb : b < 3) : ∀ (n : Nat) {H : HP} {K : RKt}, n ≤ 6 → shM H m → okRK K → MRk H m K → (∀ H', Fr (RmS m) H H' → MRk H' m (shfR a b n K).1 → q H' (shfR a b n K).2) → L_X12_shift_18 d q m (Int32.ofNat a) (Int32.ofNat b) (Int32.ofNat (6 - n)) H := by
  intro n
  have e6 : (6 : Int32) = Int32.ofNat 6 := rfl
  have e2 : (2 : Int32) = Int32.ofNat 2 := rfl
  induction n with
  | zero =>
    intro H K hn sm ok c hq
    refine T_X12_shift_18 ?_
    unfold wb_X12_shift_18
    exact ⟨fun _ => hq H Fr.rf c, fun k => absurd (show (6 : Int32) ≤ Int32.ofNat (6 - 0) by decide) k⟩
  | succ n ih =>
    intro H K hn sm ok c hq
    refine T_X12_shift_18 ?_
    unfold wb_X12_shift_18
    have ej : 6 - (n + 1) = 5 - n := by omega
    rw [ej]
    have h5 : 5 - n < 6 := by omega
    rw [ix6 (by omega), ix6 (by omega)]
    obtain ⟨v1, v2⟩ := c a ha (5 - n) h5
    obtain ⟨x1, x2, x3, x4⟩ := mA_rackKind sm
    have l1 : vp_in (Int32.ofNat (6 * a + (5 - n))) 18 := vpi_of (by omega) (by decide)
    have l2 : vp_in (Int32.ofNat (6 * b + (5 - n))) 18 := vpi_of (by omega) (by decide)
    have hk : (K a (5 - n)).1 < 0 ↔ (K a (5 - n)).1 = -1 := by
      rcases ok a (5 - n) with h | h | h <;> rw [h] <;> decide
    have main : ((K a (5 - n)).1 = -1 ∨ tkR b (K a (5 - n)).1) → ∀ H1, rkM H m (6 * b + (5 - n)) (K a (5 - n)).1 (K a (5 - n)).2 = H1 → L_X12_shift_18 d q m (Int32.ofNat a) (Int32.ofNat b) (Int32.ofNat (5 - n) + 1) H1 := fun h H1 eH => by
      subst eH
      obtain ⟨F, c'⟩ := MRk_put (k := (K a (5 - n)).1) (w := (K a (5 - n)).2) c hb h5
      have c' : MRk (rkM H m (6 * b + (5 - n)) (K a (5 - n)).1 (K a (5 - n)).2) m (putK K b (5 - n) (K a (5 - n))) := c'
      rw [iN_inc (by omega)]
      have e' : 5 - n + 1 = 6 - n := by omega
      rw [e']
      refine ih (by omega) (fr_shM F sm) (okRK_put ok (ok _ _)) c' fun H' F' c2 => ?_
      have := hq H' (F.tr F')
      rw [shfR_s h] at this
      exact this c2
    have w : ((K a (5 - n)).1 = -1 ∨ tkR b (K a (5 - n)).1) → vp_in (Int32.ofNat (6 * b + (5 - n))) (ln H (m + 35)) ∧ (∃ a6, (hC (sI H 5184 (m + 35) (6 * b + (5 - n)) (K a (5 - n)).1) 1362 m) = some a6 ∧ (isA (sI H 5184 (m + 35) (6 * b + (5 - n)) (K a (5 - n)).1) a6 0 ∧ (vp_in (Int32.ofNat (6 * a + (5 - n))) (ln (sI H 5184 (m + 35) (6 * b + (5 - n)) (K a (5 - n)).1) a6) ∧ (vp_in (Int32.ofNat (6 * b + (5 - n))) (ln (sI H 5184 (m + 35) (6 * b + (5 - n)) (K a (5 - n)).1) a6) ∧ (∀ H10, (sI (sI H 5184 (m + 35) (6 * b + (5 - n)) (K a (5 - n)).1) (tg (sI H 5184 (m + 35) (6 * b + (5 - n)) (K a (5 - n)).1) a6) a6 (6 * b + (5 - n)) (hI (sI H 5184 (m + 35) (6 * b + (5 - n)) (K a (5 - n)).1) (tg (sI H 5184 (m + 35) (6 * b + (5 - n)) (K a (5 - n)).1) a6) a6 (6 * a + (5 - n)))) = H10 → (L_X12_shift_18 d q m (Int32.ofNat a) (Int32.ofNat b) (Int32.ofNat (5 - n) + 1) H10)))))) := fun h => by
      have sm2 : shM (sI H 5184 (m + 35) (6 * b + (5 - n)) (K a (5 - n)).1) m := sm
      obtain ⟨y1, y2, y3, y4⟩ := mA_rackNumber sm2
      refine ⟨by rw [x4]; exact l2, m + 36, y1, y2, by rw [y4]; exact l1, by rw [y4]; exact l2, fun H10 eH => ?_⟩
      rw [y3, hIs_g _ _ _ _ _ _ (by decide), v2] at eH
      exact main h H10 eH
    rw [e6, iN_le (by decide) (by omega)]
    refine ⟨fun k => by omega, fun _ => ⟨sm.1, m + 35, x1, x2, by rw [x4]; exact l1, ?_⟩⟩
    rw [x3, iN_cl (by omega), iN_cl (by omega), v1, hk]
    refine ⟨fun h => w (Or.inl h), fun h => ⟨fun h2 => w (Or.inr (Or.inl ?_)), fun h2 => ⟨fun h3 => w (Or.inr (Or.inr h3)), fun h3 => ?_⟩⟩⟩
    · rw [e2, iN_eq (by omega) (by omega)] at h2; exact h2
    · have := hq H Fr.rf
      rw [shfR_n (fun k => k.elim h (fun k => k.elim (fun k => h2 (by rw [k]; rfl)) h3))] at this
      exact this c
def shiftK (K : RKt) (r s : Int32) : RKt := if inN 3 r ∧ inN 3 s then (shfR r.toInt.toNat s.toInt.toNat 6 K).1 else K
def shiftA (K : RKt) (r s : Int32) : Int32 := if inN 3 r ∧ inN 3 s then (shfR r.toInt.toNat s.toInt.toNat 6 K).2 else -1
theorem okRK_shift {K : RKt} {r s : Int32} (h : okRK K) : okRK (shiftK K r s) := by
  unfold shiftK
  split
  · exact okRK_shfR h
  · exact h
theorem K_cshift {d : Nat} {q : HP → Int32 → Prop} {H : HP} {K : RKt} {r t : Int32} (s : shP H) (rk : CRk H K) (hq : ∀ H', Fr RcS H H' → CRk H' (shiftK K r t) → q H' (shiftA K r t)) : CI (d + 2) 0 0 mX11_shift [rv (some 0), .int r, .int t] H q := by
  obtain ⟨s1, s2, s3, -⟩ := id s
  refine C_X11_shift ?_
  unfold wb_X11_shift_0
  have h0 := hq H Fr.rf
  unfold shiftK shiftA at h0 hq
  refine ⟨s1, K_rackAt (d := d) s rk.1 (fun a ha e => ⟨s1, K_rackAt (d := d) s rk.1 (fun b hb e' => ⟨fun k => (by cases k), fun x hx => ⟨fun k => (by cases k), fun y hy => ?_⟩⟩) (fun h => ⟨fun k => (by cases k), fun x hx => ⟨fun _ => ?_, fun y hy => (by cases hy)⟩⟩)⟩) (fun h => ⟨s1, K_rackAt (d := d) s rk.1 (fun b hb e' => ⟨fun _ => ?_, fun y hy => (by cases hy)⟩) (fun h' => ⟨fun _ => ?_, fun y hy => (by cases hy)⟩)⟩)⟩
  · obtain ⟨r1, r2⟩ := inN_of (n := 3) (by decide) ha e
    obtain ⟨t1, t2⟩ := inN_of (n := 3) (by decide) hb e'
    refine cshift_loop (d := d) ha hb 6 (by decide) rk fun H' F' c' => ?_
    have := hq H' F'
    rw [if_pos ⟨r1, t1⟩, if_pos ⟨r1, t1⟩, r2, t2] at this
    exact this c'
  · rw [if_neg (fun k => notN (n := 3) h k.2), if_neg (fun k => notN (n := 3) h k.2)] at h0; exact h0 rk
  · rw [if_neg (fun k => notN (n := 3) h k.1), if_neg (fun k => notN (n := 3) h k.1)] at h0; exact h0 rk
  · rw [if_neg (fun k => notN (n := 3) h k.1), if_neg (fun k => notN (n := 3) h k.1)] at h0; exact h0 rk
theorem K_mshift {d m : Nat} {q : HP → Int32 → Prop} {H : HP} {K : RKt} {r t : Int32} (sm : shM H m) (ok : okRK K) (rk : MRk H m K) (hq : ∀ H', Fr (RmS m) H H' → MRk H' m (shiftK K r t) → q H' (shiftA K r t)) : CI (d + 3) 0 0 mX12_shift [rv (some m), .int r, .int t] H q := by
  refine C_X12_shift ?_
  unfold wb_X12_shift_0
  have h0 := hq H Fr.rf
  unfold shiftK shiftA at h0 hq
  refine K_misRack (d := d) (fun a ha e => ⟨fun k => (by cases k), fun _ => K_misRack (d := d) (fun b hb e' => ⟨fun _ => ?_, fun k => (by cases k)⟩) (fun h => ⟨fun k => (by cases k), fun _ => ?_⟩)⟩) (fun h => ⟨fun _ => ?_, fun k => (by cases k)⟩)
  · obtain ⟨r1, r2⟩ := inN_of (n := 3) (by decide) ha e
    obtain ⟨t1, t2⟩ := inN_of (n := 3) (by decide) hb e'
    subst e
    subst e'
    refine mshift_loop (d := d + 2) ha hb 6 (by decide) sm ok rk fun H' F' c' => ?_
    have := hq H' F'
    rw [if_pos ⟨r1, t1⟩, if_pos ⟨r1, t1⟩, r2, t2] at this
    exact this c'
  · rw [if_neg (fun k => notN (n := 3) h k.2), if_neg (fun k => notN (n := 3) h k.2)] at h0; exact h0 rk
  · rw [if_neg (fun k => notN (n := 3) h k.1), if_neg (fun k => notN (n := 3) h k.1)] at h0; exact h0 rk
