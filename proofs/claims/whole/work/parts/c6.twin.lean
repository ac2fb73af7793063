
/-! ===== tracks: twin ===== -/
theorem Fr_fD {S : Nat → Nat → Prop} {H : HP} {g a : Nat} {v : Nat → UInt64} (h : S g a) : Fr S H (fD H g a v) := ⟨rfl, rfl, rfl, rfl, fun _ _ _ => rfl, fun _ _ _ => rfl, fun _ _ _ => rfl, c3_out _ h, fun _ _ _ => rfl⟩
theorem x8copy_loop {d : Nat} {q : HP → Prop} {H0 : HP} {a b : Nat} (hb : ∀ k, k < 30 → vp_nar .boolean (hI H0 4178 (b + 2) k) = hI H0 4178 (b + 2) k) (hq : ∀ H', Fr (fun g x => g = 4178 ∧ x = a + 2) H0 H' → (∀ k, k < 30 → hI H' 4178 (a + 2) k = hI H0 4178 (b + 2) k) → q H') : ∀ (r k : Nat) (H : HP), r + k = 30 → shTrack H a → shTrack H b → Fr (fun g x => g = 4178 ∧ x = a + 2) H0 H → (∀ j, j < k → hI H 4178 (a + 2) j = hI H0 4178 (b + 2) j) → (∀ j, j < 30 → hI H 4178 (b + 2) j = hI H0 4178 (b + 2) j) → L_X8_copy_33 d q a (some b) (Int32.ofNat k) H := by
  have e30 : (30 : Int32) = Int32.ofNat 30 := rfl
  intro r
  induction r with
  | zero =>
    intro k H e sa sb F h1 h2
    refine T_X8_copy_33 ?_
    unfold wb_X8_copy_33
    rw [e30, iN_le (by omega) (by omega)]
    exact ⟨fun _ => hq H F (fun j hj => h1 j (by omega)), fun h => by omega⟩
  | succ r ih =>
    intro k H e sa sb F h1 h2
    refine T_X8_copy_33 ?_
    unfold wb_X8_copy_33
    rw [e30, iN_le (by omega) (by omega)]
    refine ⟨fun h => by omega, fun _ => ⟨sa.1, b, rfl, sb.1, b + 2, sb.2.2.2.1, isA_of sb.2.2.2.2 (by decide) (by decide), by rw [ln_of sb.2.2.2.2]; exact vpi_of (by omega) (by decide), a + 2, sa.2.2.2.1, isA_of sa.2.2.2.2 (by decide) (by decide), by rw [ln_of sa.2.2.2.2]; exact vpi_of (by omega) (by decide), ?_⟩⟩
    rw [tg_of sa.2.2.2.2, tg_of sb.2.2.2.2, iN_cl (by omega), iN_inc (by omega), h2 k (by omega), hb k (by omega)]
    have F1 : Fr (fun g x => g = 4178 ∧ x = a + 2) H (sI H 4178 (a + 2) k (hI H0 4178 (b + 2) k)) := Fr_sI ⟨rfl, rfl⟩
    refine ih (k + 1) _ (by omega) (fr_shTrack F1 sa) (fr_shTrack F1 sb) (F.tr F1) (fun j hj => ?_) (fun j hj => ?_)
    · rw [hIs_i]
      by_cases ej : j = k
      · rw [if_pos ej, ej]
      · rw [if_neg ej]; exact h1 j (by omega)
    · rw [hIs]
      by_cases ej : 4178 = 4178 ∧ b + 2 = a + 2 ∧ j = k
      · rw [if_pos ej, ej.2.2]
      · rw [if_neg ej]; exact h2 j hj
theorem K_x8copy {d : Nat} {q : HP → Prop} {H : HP} {a b : Nat} (hab : a = b ∨ a + 3 ≤ b ∨ b + 3 ≤ a) (sa : shTrack H a) (sb : shTrack H b) (hb : ∀ k, k < 30 → vp_nar .boolean (hI H 4178 (b + 2) k) = hI H 4178 (b + 2) k) (hq : ∀ H', Fr (T1S a) H H' → hI H' 900 a 0 = hI H 900 b 0 → hI H' 901 a 0 = hI H 901 b 0 → (∀ k, k < 30 → hD H' 4165 (a + 1) k = hD H 4165 (b + 1) k ∧ hI H' 4178 (a + 2) k = hI H 4178 (b + 2) k) → q H') : CV (d + 1) 0 0 mX8_copy [rv (some a), rv (some b)] H q := by
  refine C_X8_copy ?_
  unfold wb_X8_copy_0
  have e0 : hI (sI H 900 a 0 (hI H 900 b 0)) 901 b 0 = hI H 901 b 0 := hIs_g _ _ _ _ _ _ (by decide)
  rw [show ((0 : Int32).toNatClampNeg) = 0 from rfl, show ((30 : Int32).toNatClampNeg) = 30 from rfl]
  refine ⟨b, rfl, sb.1, sa.1, b + 1, sb.2.1, ?_⟩
  rw [e0]
  have F1 : Fr (T1S a) H (sI (sI H 900 a 0 (hI H 900 b 0)) 901 a 0 (hI H 901 b 0)) := (Fr_sI ⟨by omega, by omega⟩).tr (Fr_sI ⟨by omega, by omega⟩)
  have k1 : hI (sI (sI H 900 a 0 (hI H 900 b 0)) 901 a 0 (hI H 901 b 0)) 900 a 0 = hI H 900 b 0 := by
    rw [hIs_g _ _ _ _ _ _ (by decide), hIs_i, if_pos rfl]
  have k2 : hI (sI (sI H 900 a 0 (hI H 900 b 0)) 901 a 0 (hI H 901 b 0)) 901 a 0 = hI H 901 b 0 := by
    rw [hIs_i, if_pos rfl]
  have k3 : hD (sI (sI H 900 a 0 (hI H 900 b 0)) 901 a 0 (hI H 901 b 0)) = hD H := rfl
  have k4 : ∀ x i, hI (sI (sI H 900 a 0 (hI H 900 b 0)) 901 a 0 (hI H 901 b 0)) 4178 x i = hI H 4178 x i := fun x i => by
    rw [hIs_g _ _ _ _ _ _ (by decide), hIs_g _ _ _ _ _ _ (by decide)]
  have sa1 := fr_shTrack F1 sa
  have sb1 := fr_shTrack F1 sb
  generalize sI (sI H 900 a 0 (hI H 900 b 0)) 901 a 0 (hI H 901 b 0) = H1 at *
  refine ⟨isA_of sb1.2.2.1 (by decide) (by decide), a + 1, sa1.2.1, isA_of sa1.2.2.1 (by decide) (by decide), by rw [ln_of sb1.2.2.1]; decide, by rw [ln_of sa1.2.2.1]; decide, fun H10 e => ?_⟩
  rw [tg_of sa1.2.2.1, tg_of sb1.2.2.1] at e
  have F2 : Fr (T1S a) H1 H10 := by rw [← e]; exact Fr_fD ⟨by omega, by omega⟩
  have m1 : hI H10 = hI H1 := by rw [← e]; rfl
  have m2 : ∀ k, k < 30 → hD H10 4165 (a + 1) k = hD H 4165 (b + 1) k := fun k hk => by
    rw [← e, hD_fD, c3_self, cpy0 hk, k3]
  clear e
  refine x8copy_loop (d := d) (H0 := H10) (fun k hk => ?_) (fun H' F3 h3 => ?_) 30 0 _ (by omega) (fr_shTrack F2 sa1) (fr_shTrack F2 sb1) Fr.rf (fun j hj => by omega) (fun j hj => rfl)
  · rw [m1, k4]; exact hb k hk
  · refine hq H' ((F1.tr F2).tr (F3.mono (fun g x k => ⟨by omega, by omega⟩))) ?_ ?_ (fun k hk => ⟨?_, ?_⟩)
    · rw [F3.2.2.2.2.1 _ _ (fun k => absurd k.1 (by decide)), m1]; exact k1
    · rw [F3.2.2.2.2.1 _ _ (fun k => absurd k.1 (by decide)), m1]; exact k2
    · rw [F3.2.2.2.2.2.2.2.1 _ _ (fun k => absurd k.1 (by decide))]; exact m2 k hk
    · rw [h3 k hk, m1, k4]
def twinT (T : TRs) (t o : Int32) : TRs := if inN 4 t ∧ inN 4 o ∧ tS (T o.toInt.toNat) ≠ -1 then putT T t.toInt.toNat (T o.toInt.toNat) else T
def twinA (T : TRs) (t o : Int32) : Int32 := if inN 4 t ∧ inN 4 o then (if tS (T o.toInt.toNat) = -1 then -6 else Int32.ofNat (tN (T o.toInt.toNat))) else -1
theorem okTR_twin {T : TRs} {t o : Int32} (h : okTR T) : okTR (twinT T t o) := by
  unfold twinT
  split
  · exact okTR_put h (h _)
  · exact h
theorem odd01 {H : HP} {a k : Nat} {T : TRK} (c : CT1 H a T) (hs : tS T = 0 ∨ tS T = 1) (hk : k < 30) : hI H 4178 (a + 2) k = 0 ∨ hI H 4178 (a + 2) k = 1 := by
  rcases hs with hs | hs
  · have := c.2.2.1 hs k hk
    cases h : tF T k with
    | none => rw [h] at this; exact Or.inr this
    | some v => rw [h] at this; exact Or.inl this.1
  · have := c.2.2.2 hs k hk
    cases h : tD T k with
    | none => rw [h] at this; exact Or.inr this
    | some v => rw [h] at this; exact Or.inl this.1
theorem K_ctwin {d : Nat} {q : HP → Int32 → Prop} {H : HP} {T : TRs} {t o : Int32} (p : shP H) (c : CTr H T) (ok : okTR T) (hq : ∀ H', Fr TcS H H' → CTr H' (twinT T t o) → q H' (twinA T t o)) : CI (d + 2) 0 0 mX11_twin [rv (some 0), .int t, .int o] H q := by
  refine C_X11_twin ?_
  unfold wb_X11_twin_0
  have h0 := hq H Fr.rf
  unfold twinT twinA at h0 hq
  refine ⟨p.1, K_trackAt (d := d) p c.1 (fun a ha e => ⟨p.1, K_trackAt (d := d) p c.1 (fun b hb e' => ⟨fun k => (by cases k), fun x hx => ⟨fun k => (by cases k), fun y hy => ?_⟩⟩) (fun h => ⟨fun k => (by cases k), fun x hx => ⟨fun _ => ?_, fun y hy => (by cases hy)⟩⟩)⟩) (fun h => ⟨p.1, K_trackAt (d := d) p c.1 (fun b hb e' => ⟨fun _ => ?_, fun x hx => (by cases hx)⟩) (fun h2 => ⟨fun _ => ?_, fun x hx => (by cases hx)⟩)⟩)⟩
  · obtain ⟨n1, n2⟩ := inN_of2 (n := 4) (by decide) ha e
    obtain ⟨o1, o2⟩ := inN_of2 (n := 4) (by decide) hb e'
    injection hx with hx
    subst hx
    injection hy with hy
    subst hy
    refine ⟨(c.1 b hb).2.1, K_isNothing (d := d) (c.1 b hb).2.1 (c.2 b hb) (ok b) (fun h => ⟨fun k => (by cases k), fun _ => ?_⟩) (fun h h01 => ⟨fun _ => ⟨(c.1 a ha).2.1, ?_⟩, fun k => (by cases k)⟩)⟩
    · rw [o2, if_neg (fun k => k.2.2 h), if_pos ⟨n1, o1⟩, if_pos h] at h0; exact h0 c
    · obtain ⟨b1, b2, b3, b4⟩ := c.2 b hb
      refine K_x8copy (d := d) (by omega) (c.1 a ha).2 (c.1 b hb).2 (fun k hk => ?_) (fun H' F g1 g2 g3 => ⟨by rw [fr_tg F]; exact (c.1 a ha).2.1, ?_⟩)
      · rcases odd01 (c.2 b hb) h01 hk with h | h <;> rw [h] <;> rfl
      · have cn : CT1 H' (1097 + 3 * a) (T b) := by
          refine ⟨by rw [g1]; exact b1, by rw [g2]; exact b2, fun hs k hk => ?_, fun hs k hk => ?_⟩
          · rw [(g3 k hk).1, (g3 k hk).2]; exact b3 hs k hk
          · rw [(g3 k hk).1, (g3 k hk).2]; exact b4 hs k hk
        obtain ⟨F', c'⟩ := CTr_put c ha F cn
        have := hq H' F'
        rw [n2, o2, if_pos ⟨n1, o1, h⟩, if_pos ⟨n1, o1⟩, if_neg h] at this
        rw [cn.2.1]; exact this c'
  · rw [if_neg (fun k => notN (n := 4) h k.2.1), if_neg (fun k => notN (n := 4) h k.2)] at h0; exact h0 c
  · rw [if_neg (fun k => notN (n := 4) h k.1), if_neg (fun k => notN (n := 4) h k.1)] at h0; exact h0 c
  · rw [if_neg (fun k => notN (n := 4) h k.1), if_neg (fun k => notN (n := 4) h k.1)] at h0; exact h0 c
theorem mtwin_loop {d m t o : Nat} {q : HP → Int32 → Prop} {H0 : HP} (ht : t < 4) (ho : o < 4) (hq : ∀ H', Fr (TmS m) H0 H' → (∀ a i, hI H' a i = hI H0 a i) → (∀ j, j < 30 → hF H' 5156 (m + 33) (30 * t + j) = hF H0 5156 (m + 33) (30 * o + j) ∧ hD H' 5173 (m + 34) (30 * t + j) = hD H0 5173 (m + 34) (30 * o + j)) → (∀ x, (x < 30 * t ∨ 30 * t + 30 ≤ x) → hF H' 5156 (m + 33) x = hF H0 5156 (m + 33) x ∧ hD H' 5173 (m + 34) x = hD H0 5173 (m + 34) x) → q H' (hI H0 5136 (m + 32) t)) : ∀ (r k : Nat) (H : HP), r + k = 30 → shM H m → Fr (TmS m) H0 H → (∀ a i, hI H a i = hI H0 a i) → (∀ j, j < k → hF H 5156 (m + 33) (30 * t + j) = hF H0 5156 (m + 33) (30 * o + j) ∧ hD H 5173 (m + 34) (30 * t + j) = hD H0 5173 (m + 34) (30 * o + j)) → (∀ x, (x < 30 * t ∨ 30 * t + k ≤ x) → hF H 5156 (m + 33) x = hF H0 5156 (m + 33) x ∧ hD H 5173 (m + 34) x = hD H0 5173 (m + 34) x) → L_X12_twin_54 d q m (Int32.ofNat t) (Int32.ofNat o) (Int32.ofNat k) H := by
  have e30 : (30 : Int32) = Int32.ofNat 30 := rfl
  intro r
  induction r with
  | zero =>
    intro k H e sm F hi h1 h2
    refine T_X12_twin_54 ?_
    unfold wb_X12_twin_54
    obtain ⟨y1, y2, y3, y4⟩ := mA_size sm
    rw [e30, iN_le (by omega) (by omega)]
    refine ⟨fun _ => ⟨sm.1, m + 32, y1, y2, by rw [y4]; exact vpi_of ht (by decide), ?_⟩, fun h => by omega⟩
    rw [y3, iN_cl (by omega), hi]
    exact hq H F hi (fun j hj => h1 j (by omega)) (fun x k1 => h2 x (by omega))
  | succ r ih =>
    intro k H e sm F hi h1 h2
    refine T_X12_twin_54 ?_
    unfold wb_X12_twin_54
    rw [ix30 (by omega), ix30 (by omega), e30, iN_le (by omega) (by omega)]
    refine ⟨fun h => by omega, fun _ => ?_⟩
    obtain ⟨x1, x2, x3, x4⟩ := mA_floats sm
    refine ⟨sm.1, m + 33, x1, x2, by rw [x4]; exact vpi_of (by omega) (by decide), by rw [x4]; exact vpi_of (by omega) (by decide), ?_⟩
    rw [x3, iN_cl (by omega), iN_cl (by omega)]
    have sm2 : shM (sF H 5156 (m + 33) (30 * t + k) (hF H 5156 (m + 33) (30 * o + k))) m := sm
    obtain ⟨y1, y2, y3, y4⟩ := mA_doubles sm2
    refine ⟨m + 34, y1, y2, by rw [y4]; exact vpi_of (by omega) (by decide), by rw [y4]; exact vpi_of (by omega) (by decide), fun H14 eH => ?_⟩
    rw [y3, hD_sF] at eH
    rw [iN_inc (by omega)]
    have F1 : Fr (TmS m) H H14 := by
      rw [← eH]; exact (Fr_sF ⟨by omega, by omega⟩).tr (Fr_sD ⟨by omega, by omega⟩)
    have hf : ∀ x, hF H14 5156 (m + 33) x = if x = 30 * t + k then hF H 5156 (m + 33) (30 * o + k) else hF H 5156 (m + 33) x := fun x => by
      rw [← eH, hF_sD, hFs]
      by_cases e : x = 30 * t + k
      · rw [if_pos e, if_pos ⟨rfl, rfl, e⟩]
      · rw [if_neg e, if_neg (fun h => e h.2.2)]
    have hd : ∀ x, hD H14 5173 (m + 34) x = if x = 30 * t + k then hD H 5173 (m + 34) (30 * o + k) else hD H 5173 (m + 34) x := fun x => by
      rw [← eH, hDs, hD_sF]
      by_cases e : x = 30 * t + k
      · rw [if_pos e, if_pos ⟨rfl, rfl, e⟩]
      · rw [if_neg e, if_neg (fun h => e h.2.2)]
    have hi' : ∀ a i, hI H14 a i = hI H0 a i := fun a i => by rw [← eH]; exact hi a i
    clear eH
    obtain ⟨w1, w2⟩ := h2 (30 * o + k) (by omega)
    refine ih (k + 1) H14 (by omega) (fr_shM F1 sm) (F.tr F1) hi' (fun j hj => ?_) (fun x k1 => ?_)
    · rw [hf, hd]
      by_cases e : j = k
      · rw [if_pos (by rw [e]), if_pos (by rw [e]), e]; exact ⟨w1, w2⟩
      · rw [if_neg (by omega), if_neg (by omega)]; exact h1 j (by omega)
    · rw [hf, hd, if_neg (by omega), if_neg (by omega)]; exact h2 x (by omega)
theorem K_mtwin {d m : Nat} {q : HP → Int32 → Prop} {H : HP} {T : TRs} {t o : Int32} (sm : shM H m) (c : MTr H m T) (ok : okTR T) (hq : ∀ H', Fr (TmS m) H H' → MTr H' m (twinT T t o) → q H' (twinA T t o)) : CI (d + 3) 0 0 mX12_twin [rv (some m), .int t, .int o] H q := by
  refine C_X12_twin ?_
  unfold wb_X12_twin_0
  have h0 := hq H Fr.rf
  unfold twinT twinA at h0 hq
  refine K_isTrack (d := d) (fun a ha e => ⟨fun k => (by cases k), fun _ => K_isTrack (d := d) (fun b hb e' => ⟨fun _ => ⟨sm.1, ?_⟩, fun k => (by cases k)⟩) (fun h => ⟨fun k => (by cases k), fun _ => ?_⟩)⟩) (fun h => ⟨fun _ => ?_, fun k => (by cases k)⟩)
  · obtain ⟨n1, n2⟩ := inN_of2 (n := 4) (by decide) ha e
    obtain ⟨o1, o2⟩ := inN_of2 (n := 4) (by decide) hb e'
    obtain ⟨x1, x2, x3, x4⟩ := mA_sort sm
    obtain ⟨b1, b2, b3, b4⟩ := c b hb
    subst e
    subst e'
    refine ⟨m + 31, x1, x2, by rw [x4]; exact vpi_of hb (by decide), ?_⟩
    rw [x3, iN_cl (by omega), iN_cl (by omega), b1]
    have hs : 0 ≤ tS (T b) ↔ tS (T b) ≠ -1 := by
      rcases (ok b).1 with h | h | h <;> rw [h] <;> decide
    rw [hs]
    refine ⟨fun h => ⟨by rw [x4]; exact vpi_of hb (by decide), by rw [x4]; exact vpi_of ha (by decide), ?_⟩, fun h => ?_⟩
    · have sm2 : shM (sI H 5120 (m + 31) a (tS (T b))) m := sm
      obtain ⟨y1, y2, y3, y4⟩ := mA_size sm2
      refine ⟨m + 32, y1, y2, by rw [y4]; exact vpi_of hb (by decide), by rw [y4]; exact vpi_of ha (by decide), fun H15 eH => ?_⟩
      rw [y3, hIs_g _ _ _ _ _ _ (by decide), b2] at eH
      have F : Fr (TmS m) H H15 := by
        rw [← eH]; exact (Fr_sI ⟨by omega, by omega⟩).tr (Fr_sI ⟨by omega, by omega⟩)
      have g1 : ∀ i, hI H15 5120 (m + 31) i = if i = a then tS (T b) else hI H 5120 (m + 31) i := fun i => by
        rw [← eH, hIs_g _ _ _ _ _ _ (by decide), hIs_i]
      have g2 : ∀ i, hI H15 5136 (m + 32) i = if i = a then Int32.ofNat (tN (T b)) else hI H 5136 (m + 32) i := fun i => by
        rw [← eH, hIs_i, hIs_g _ _ _ _ _ _ (by decide)]
      have g3 : hF H15 = hF H := by rw [← eH]; rfl
      have g4 : hD H15 = hD H := by rw [← eH]; rfl
      clear eH
      refine mtwin_loop (d := d + 2) ha hb (fun H' F' hi h1 h2 => ?_) 30 0 H15 (by omega) (fr_shM F sm) Fr.rf (fun _ _ => rfl) (fun j hj => by omega) (fun x hx => ⟨rfl, rfl⟩)
      have := hq H' (F.tr F')
      rw [n2, o2, if_pos ⟨n1, o1, h⟩, if_pos ⟨n1, o1⟩, if_neg h] at this
      rw [g2, if_pos rfl]
      rw [g3, g4] at h1 h2
      refine this (MTr_put c ⟨fun t' ht' => ⟨?_, ?_⟩, fun t' k ht' hk => h2 _ (by omega)⟩ ⟨?_, ?_, fun hs k hk => ?_, fun hs k hk => ?_⟩)
      · rw [hi, g1, if_neg ht']
      · rw [hi, g2, if_neg ht']
      · rw [hi, g1, if_pos rfl]
      · rw [hi, g2, if_pos rfl]
      · rw [(h1 k hk).1]; exact b3 hs k hk
      · rw [(h1 k hk).2]; exact b4 hs k hk
    · have h := Classical.byContradiction h
      rw [o2, if_neg (fun k => k.2.2 h), if_pos ⟨n1, o1⟩, if_pos h] at h0; exact h0 c
  · rw [if_neg (fun k => notN (n := 4) h k.2.1), if_neg (fun k => notN (n := 4) h k.2)] at h0; exact h0 c
  · rw [if_neg (fun k => notN (n := 4) h k.1), if_neg (fun k => notN (n := 4) h k.1)] at h0; exact h0 c
