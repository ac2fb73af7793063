
/-! ===== tracks: change, whole tracks ===== -/
theorem ali32_rf (x : UInt32) : alike32 x x = true := by unfold alike32; rw [decide_eq_true rfl]; rfl
theorem ali64_rf (x : UInt64) : alike64 x x = true := by unfold alike64; rw [decide_eq_true rfl]; rfl
theorem chF_nn {u w : UV} {v : UInt32} (hu : okU u) (hw : okU w) (hv : nnF v) : nnF (chF u w v) := (chF_steps hu hw hv (ali32_rf _) (ali32_rf _) (ali32_rf _) (ali32_rf _) (ali32_rf _) (ali32_rf _) (ali32_rf _) (ali32_rf _)).2
theorem chD_nn {u w : UV} {v : UInt64} (hu : okU u) (hw : okU w) (hv : nnD v) : nnD (chD u w v) := (chD_steps hu hw hv (ali64_rf _) (ali64_rf _) (ali64_rf _) (ali64_rf _) (ali64_rf _) (ali64_rf _) (ali64_rf _) (ali64_rf _)).2
def cvI (T : TRK) (u w : UV) (i : Nat) : TRK := (tS T, tN T, (fun k => if k < i then (tF T k).map (chF u w) else tF T k), (fun k => if k < i then (tD T k).map (chD u w) else tD T k))
theorem okTk_cv {T : TRK} {u w : UV} {i : Nat} (h : okTk T) (hu : okU u) (hw : okU w) : okTk (cvI T u w i) := by
  obtain ⟨h1, h2, h3, h4⟩ := h
  refine ⟨h1, h2, fun k v e => ?_, fun k v e => ?_⟩
  · have e : (if k < i then (tF T k).map (chF u w) else tF T k) = some v := e
    by_cases hk : k < i
    · rw [if_pos hk] at e
      cases hf : tF T k with
      | none => rw [hf] at e; cases e
      | some z =>
        rw [hf] at e
        have e : some (chF u w z) = some v := e
        injection e with e
        rw [← e]; exact chF_nn hu hw (h3 k z hf)
    · rw [if_neg hk] at e; exact h3 k v e
  · have e : (if k < i then (tD T k).map (chD u w) else tD T k) = some v := e
    by_cases hk : k < i
    · rw [if_pos hk] at e
      cases hf : tD T k with
      | none => rw [hf] at e; cases e
      | some z =>
        rw [hf] at e
        have e : some (chD u w z) = some v := e
        injection e with e
        rw [← e]; exact chD_nn hu hw (h4 k z hf)
    · rw [if_neg hk] at e; exact h4 k v e
theorem CT1_cv0 {H : HP} {a : Nat} {T : TRK} {u w : UV} (c : CT1 H a T) : CT1 H a (cvI T u w 0) := by
  obtain ⟨c1, c2, c3, c4⟩ := c
  exact ⟨c1, c2, fun h k hk => by show cfv (hD H 4165 (a + 1) k) (hI H 4178 (a + 2) k) (if k < 0 then (tF T k).map (chF u w) else tF T k); rw [if_neg (by omega)]; exact c3 h k hk, fun h k hk => by show cdv (hD H 4165 (a + 1) k) (hI H 4178 (a + 2) k) (if k < 0 then (tD T k).map (chD u w) else tD T k); rw [if_neg (by omega)]; exact c4 h k hk⟩
theorem conv_loop {d n : Nat} {q : HP → Prop} {H0 : HP} {a x y : Nat} {T : TRK} {U : Nat → UV} (ha : 1097 ≤ a) (hx : x < n) (hy : y < n) (hok : ∀ i, okU (U i)) (ok : okTk T) (h01 : tS T = 0 ∨ tS T = 1) (hq : ∀ H', Fr (T1S a) H0 H' → CT1 H' a (cvI T (U x) (U y) (tN T)) → q H') : ∀ (r i : Nat) (H : HP), r + i = tN T → shTrack H a → CU H 3 n U → Fr (T1S a) H0 H → CT1 H a (cvI T (U x) (U y) i) → L_X8_convert_2 (d + 1) q a (some (3 + 2 + 5 * x)) (some (3 + 2 + 5 * y)) (Int32.ofNat i) H := by
  have e30 : (30 : Int32) = Int32.ofNat 30 := rfl
  have h30 := ok.2.1
  intro r
  induction r with
  | zero =>
    intro i H e sh hu F c
    refine T_X8_convert_2 ?_
    unfold wb_X8_convert_2
    have c2 : hI H 901 a 0 = Int32.ofNat (tN T) := c.2.1
    rw [c2, iN_le (by omega) (by omega)]
    have e : i = tN T := by omega
    subst e
    exact ⟨sh.1, fun _ => hq H F c, fun k => by omega⟩
  | succ r ih =>
    intro i H e sh hu F c
    refine T_X8_convert_2 ?_
    unfold wb_X8_convert_2
    obtain ⟨z1, z2, z3, z4, z5⟩ := id sh
    obtain ⟨c1, c2, c3, c4⟩ := id c
    have c1 : hI H 900 a 0 = tS T := c1
    have c2 : hI H 901 a 0 = Int32.ofNat (tN T) := c2
    rw [c2, iN_le (by omega) (by omega), e30, iN_le (by omega) (by omega)]
    refine ⟨z1, fun k => by omega, fun _ => ⟨fun k => by omega, fun _ => ⟨a + 2, z4, isA_of z5 (by decide) (by decide), by rw [ln_of z5]; exact vpi_of (by omega) (by decide), ?_⟩⟩⟩
    rw [tg_of z5, iN_cl (by omega), iN_inc (by omega), c1]
    obtain ⟨v1, v2, v3, v4⟩ := hu
    have hu : CU H 3 n U := ⟨v1, v2, v3, v4⟩
    have sx := (v1.2.2.2 x (by omega)).2
    have sy := (v1.2.2.2 y (by omega)).2
    have cx := v4 x hx
    have cy := v4 y hy
    refine ⟨fun ho => ih (i + 1) H (by omega) sh hu F ⟨c1, c2, fun h k hk => ?_, fun h k hk => ?_⟩, fun ho => ⟨fun h => ?_, fun h => ?_⟩⟩
    · have := c3 h k hk
      have this : cfv (hD H 4165 (a + 1) k) (hI H 4178 (a + 2) k) (if k < i then (tF T k).map (chF (U x) (U y)) else tF T k) := this
      show cfv (hD H 4165 (a + 1) k) (hI H 4178 (a + 2) k) (if k < i + 1 then (tF T k).map (chF (U x) (U y)) else tF T k)
      by_cases ek : k = i
      · subst ek
        rw [if_neg (by omega)] at this
        rw [if_pos (by omega)]
        cases hf : tF T k with
        | none => rw [hf] at this; exact this
        | some v => rw [hf] at this; exact absurd this.1 ho
      · by_cases hki : k < i
        · rw [if_pos (by omega)]; rw [if_pos hki] at this; exact this
        · rw [if_neg (by omega)]; rw [if_neg hki] at this; exact this
    · have := c4 h k hk
      have this : cdv (hD H 4165 (a + 1) k) (hI H 4178 (a + 2) k) (if k < i then (tD T k).map (chD (U x) (U y)) else tD T k) := this
      show cdv (hD H 4165 (a + 1) k) (hI H 4178 (a + 2) k) (if k < i + 1 then (tD T k).map (chD (U x) (U y)) else tD T k)
      by_cases ek : k = i
      · subst ek
        rw [if_neg (by omega)] at this
        rw [if_pos (by omega)]
        cases hf : tD T k with
        | none => rw [hf] at this; exact this
        | some v => rw [hf] at this; exact absurd this.1 ho
      · by_cases hki : k < i
        · rw [if_pos (by omega)]; rw [if_pos hki] at this; exact this
        · rw [if_neg (by omega)]; rw [if_neg hki] at this; exact this
    · have hs1 : tS T = 1 := by
        rcases h01 with k | k
        · exact absurd k h
        · exact k
      have hv := c4 hs1 i (by omega)
      have hv : cdv (hD H 4165 (a + 1) i) (hI H 4178 (a + 2) i) (if i < i then (tD T i).map (chD (U x) (U y)) else tD T i) := hv
      rw [if_neg (by omega)] at hv
      cases hf : tD T i with
      | none =>
        rw [hf] at hv
        have hv : hI H 4178 (a + 2) i = 1 := hv
        rw [hv] at ho; exact absurd ho (by decide)
      | some v =>
        rw [hf] at hv
        obtain ⟨hv1, hv2⟩ : hI H 4178 (a + 2) i = 0 ∧ hD H 4165 (a + 1) i = v := hv
        have vn := ok.2.2.2 i v hf
        refine ⟨a + 1, z2, isA_of z3 (by decide) (by decide), by rw [ln_of z3]; exact vpi_of (by omega) (by decide), ?_⟩
        rw [tg_of z3, hv2]
        refine K_inDoubles (d := d) sx sy cx cy (hok x) (hok y) vn fun cn => ⟨isA_of z3 (by decide) (by decide), by rw [ln_of z3]; exact vpi_of (by omega) (by decide), ?_⟩
        rw [tg_of z3]
        have F1 : Fr (T1S a) H (sD H 4165 (a + 1) i (chD (U x) (U y) v)) := Fr_sD ⟨by omega, by omega⟩
        refine ih (i + 1) _ (by omega) (fr_shTrack F1 sh) (fr_CU F1 (fun g b k1 k2 k3 => by omega) hu) (F.tr F1) ⟨c1, c2, fun h2 => absurd (h2.symm.trans hs1) (by decide), fun h2 k hk => ?_⟩
        show cdv (hD (sD H 4165 (a + 1) i (chD (U x) (U y) v)) 4165 (a + 1) k) (hI H 4178 (a + 2) k) (if k < i + 1 then (tD T k).map (chD (U x) (U y)) else tD T k)
        rw [hDs]
        by_cases ek : k = i
        · subst ek
          rw [if_pos ⟨rfl, rfl, rfl⟩, if_pos (by omega), hf]
          exact ⟨hv1, rfl⟩
        · have this : cdv (hD H 4165 (a + 1) k) (hI H 4178 (a + 2) k) (if k < i then (tD T k).map (chD (U x) (U y)) else tD T k) := c4 hs1 k hk
          rw [if_neg (fun e => ek e.2.2)]
          by_cases hki : k < i
          · rw [if_pos (by omega)]; rw [if_pos hki] at this; exact this
          · rw [if_neg (by omega)]; rw [if_neg hki] at this; exact this
    · have hv := c3 h i (by omega)
      have hv : cfv (hD H 4165 (a + 1) i) (hI H 4178 (a + 2) i) (if i < i then (tF T i).map (chF (U x) (U y)) else tF T i) := hv
      rw [if_neg (by omega)] at hv
      cases hf : tF T i with
      | none =>
        rw [hf] at hv
        have hv : hI H 4178 (a + 2) i = 1 := hv
        rw [hv] at ho; exact absurd ho (by decide)
      | some v =>
        rw [hf] at hv
        obtain ⟨hv1, hv2⟩ : hI H 4178 (a + 2) i = 0 ∧ hD H 4165 (a + 1) i = FP.f2d v := hv
        have vn := ok.2.2.1 i v hf
        refine ⟨a + 1, z2, isA_of z3 (by decide) (by decide), by rw [ln_of z3]; exact vpi_of (by omega) (by decide), ?_⟩
        rw [tg_of z3, hv2, d2f_f2d' vn]
        intro r15 h15
        have e15 := ali32 h15 vn
        rw [e15]
        refine K_inFloats (d := d) sx sy cx cy (hok x) (hok y) vn fun cn => ?_
        intro r18 h18
        have e18 := ali64 h18 (f2d_nn cn)
        refine ⟨isA_of z3 (by decide) (by decide), by rw [ln_of z3]; exact vpi_of (by omega) (by decide), ?_⟩
        rw [tg_of z3, e18]
        have F1 : Fr (T1S a) H (sD H 4165 (a + 1) i (FP.f2d (chF (U x) (U y) v))) := Fr_sD ⟨by omega, by omega⟩
        refine ih (i + 1) _ (by omega) (fr_shTrack F1 sh) (fr_CU F1 (fun g b k1 k2 k3 => by omega) hu) (F.tr F1) ⟨c1, c2, fun h2 k hk => ?_, fun h2 => absurd (h.symm.trans h2) (by decide)⟩
        show cfv (hD (sD H 4165 (a + 1) i (FP.f2d (chF (U x) (U y) v))) 4165 (a + 1) k) (hI H 4178 (a + 2) k) (if k < i + 1 then (tF T k).map (chF (U x) (U y)) else tF T k)
        rw [hDs]
        by_cases ek : k = i
        · subst ek
          rw [if_pos ⟨rfl, rfl, rfl⟩, if_pos (by omega), hf]
          exact ⟨hv1, rfl⟩
        · have this : cfv (hD H 4165 (a + 1) k) (hI H 4178 (a + 2) k) (if k < i then (tF T k).map (chF (U x) (U y)) else tF T k) := c3 h k hk
          rw [if_neg (fun e => ek e.2.2)]
          by_cases hki : k < i
          · rw [if_pos (by omega)]; rw [if_pos hki] at this; exact this
          · rw [if_neg (by omega)]; rw [if_neg hki] at this; exact this
def changeT (T : TRs) (n : Nat) (U : Nat → UV) (t x y : Int32) : TRs := if (inN 4 t ∧ inN n x ∧ inN n y) ∧ tS (T t.toInt.toNat) ≠ -1 ∧ eq5 (U x.toInt.toNat).2.1 (U y.toInt.toNat).2.1 = true then putT T t.toInt.toNat (cvI (T t.toInt.toNat) (U x.toInt.toNat) (U y.toInt.toNat) (tN (T t.toInt.toNat))) else T
def changeA (T : TRs) (n : Nat) (U : Nat → UV) (t x y : Int32) : Int32 := if inN 4 t ∧ inN n x ∧ inN n y then (if tS (T t.toInt.toNat) = -1 then -6 else if eq5 (U x.toInt.toNat).2.1 (U y.toInt.toNat).2.1 = true then Int32.ofNat (tN (T t.toInt.toNat)) else -13) else -1
theorem okTR_change {T : TRs} {n : Nat} {U : Nat → UV} {t x y : Int32} (h : okTR T) (hU : ∀ i, okU (U i)) : okTR (changeT T n U t x y) := by
  unfold changeT
  split
  · exact okTR_put h (okTk_cv (h _) (hU _) (hU _))
  · exact h
theorem K_cchange {d n : Nat} {q : HP → Int32 → Prop} {H : HP} {T : TRs} {U : Nat → UV} {t x y : Int32} (p : shP H) (c : CTr H T) (ok : okTR T) (hu : CU H 3 n U) (hok : ∀ i, okU (U i)) (hq : ∀ H', Fr TcS H H' → CTr H' (changeT T n U t x y) → q H' (changeA T n U t x y)) : CI (d + 3) 0 0 mX11_change [rv (some 0), .int t, .int x, .int y] H q := by
  obtain ⟨s1, s2, s3, -⟩ := id p
  have hn20 := hu.2.2.1
  refine C_X11_change ?_
  unfold wb_X11_change_0
  have h0 := hq H Fr.rf
  unfold changeT changeA at h0 hq
  have bad : ¬ (inN 4 t ∧ inN n x ∧ inN n y) → q H (-1) := fun k => by
    rw [if_neg (fun z => k z.1), if_neg k] at h0; exact h0 c
  refine ⟨s1, K_trackAt (d := d + 1) p c.1 (fun a ha e => ?_) (fun h => ?_)⟩
  · refine ⟨s1, 3, s3, hu.1.1, ?_⟩
    rw [s3]
    refine K_at (d := d + 1) hu (fun b hb e2 => ?_) (fun h => ?_)
    · refine ⟨s1, 3, s3, hu.1.1, ?_⟩
      rw [s3]
      refine K_at (d := d + 1) hu (fun b' hb' e3 => ?_) (fun h => ⟨fun k => (by cases k), fun _ _ => ⟨fun k => (by cases k), fun _ _ => ⟨fun _ => bad fun z => notN h z.2.2, fun k hk => (by cases hk)⟩⟩⟩)
      refine ⟨fun k => (by cases k), fun w hw => ⟨fun k => (by cases k), fun w2 hw2 => ⟨fun k => (by cases k), fun w3 hw3 => ?_⟩⟩⟩
      injection hw with hw
      injection hw2 with hw2
      injection hw3 with hw3
      subst hw
      subst hw2
      subst hw3
      obtain ⟨i1, j1⟩ := inN_of2 (n := 4) (by decide) ha e
      obtain ⟨i2, j2⟩ := inN_of2 (n := n) (by omega) hb e2
      obtain ⟨i3, j3⟩ := inN_of2 (n := n) (by omega) hb' e3
      have sh := (c.1 a ha).2
      have sx := (hu.1.2.2.2 b (by omega)).2
      have sy := (hu.1.2.2.2 b' (by omega)).2
      refine ⟨sh.1, K_isNothing (d := d + 1) sh.1 (c.2 a ha) (ok a) (fun h => ⟨fun k => (by cases k), fun _ => ?_⟩) (fun h h01 => ⟨fun _ => ⟨sx.1, K_isLike (d := d) sx sy (hu.2.2.2 b hb) (hu.2.2.2 b' hb') ⟨fun he => ⟨sh.1, ?_⟩, fun he => ?_⟩⟩, fun k => (by cases k)⟩)⟩
      · rw [j1, if_neg (fun k => k.2.1 h), if_pos ⟨i1, i2, i3⟩, if_pos h] at h0; exact h0 c
      · refine C_X8_convert ?_
        unfold wb_X8_convert_0
        refine conv_loop (d := d) (by omega) hb hb' hok (ok a) h01 (fun H' F' c1 => ⟨by rw [fr_tg F']; exact sh.1, ?_⟩) (tN (T a)) 0 H (by omega) sh hu Fr.rf (CT1_cv0 (c.2 a ha))
        obtain ⟨F2, c2⟩ := CTr_put c ha F' c1
        have := hq H' F2
        rw [j1, j2, j3, if_pos ⟨⟨i1, i2, i3⟩, h, he⟩, if_pos ⟨i1, i2, i3⟩, if_neg h, if_pos he] at this
        rw [c1.2.1]; exact this c2
      · rw [j1, j2, j3, if_neg (fun k => by rw [he] at k; cases k.2.2), if_pos ⟨i1, i2, i3⟩, if_neg h, if_neg (by rw [he]; decide)] at h0
        exact h0 c
    · refine ⟨s1, 3, s3, hu.1.1, ?_⟩
      rw [s3]
      exact K_at (d := d + 1) hu (fun b' hb' e3 => ⟨fun k => (by cases k), fun _ _ => ⟨fun _ => bad fun z => notN h z.2.1, fun _ k => (by cases k)⟩⟩) (fun h2 => ⟨fun k => (by cases k), fun _ _ => ⟨fun _ => bad fun z => notN h z.2.1, fun _ k => (by cases k)⟩⟩)
  · refine ⟨s1, 3, s3, hu.1.1, ?_⟩
    rw [s3]
    have b2 := bad fun z => notN (n := 4) h z.1
    refine K_at (d := d + 1) hu (fun b hb e2 => ⟨s1, 3, s3, hu.1.1, ?_⟩) (fun h2 => ⟨s1, 3, s3, hu.1.1, ?_⟩)
    · rw [s3]
      exact K_at (d := d + 1) hu (fun b' hb' e3 => ⟨fun _ => b2, fun _ k => (by cases k)⟩) (fun h2 => ⟨fun _ => b2, fun _ k => (by cases k)⟩)
    · rw [s3]
      exact K_at (d := d + 1) hu (fun b' hb' e3 => ⟨fun _ => b2, fun _ k => (by cases k)⟩) (fun h2 => ⟨fun _ => b2, fun _ k => (by cases k)⟩)
