
/-! ===== tracks: track, item ===== -/
theorem hDs (H : HP) (g a i : Nat) (v : UInt64) (g' a' i' : Nat) : hD (sD H g a i v) g' a' i' = if g' = g ∧ a' = a ∧ i' = i then v else hD H g' a' i' := rfl
theorem hFs (H : HP) (g a i : Nat) (v : UInt32) (g' a' i' : Nat) : hF (sF H g a i v) g' a' i' = if g' = g ∧ a' = a ∧ i' = i then v else hF H g' a' i' := rfl
theorem nar_0 : vp_nar .boolean 0 = 0 := rfl
theorem nar_1 : vp_nar .boolean 1 = 1 := rfl
theorem nar_b (b : Bool) : vp_nar .boolean (bI b) = bI b := by cases b <;> rfl
theorem K_tstore {d k : Nat} {q : HP → Prop} {H : HP} {a : Nat} {v : UInt64} (s : shTrack H a) (hk : k < 30) (hq : q (sI (sD H 4165 (a + 1) k v) 4178 (a + 2) k 0)) : CV (d + 1) 0 0 mX8_store [rv (some a), .int (Int32.ofNat k), .double v] H q := by
  obtain ⟨s1, s2, s3, s4, s5⟩ := s
  refine C_X8_store ?_
  unfold wb_X8_store_0
  refine ⟨s1, a + 1, s2, isA_of s3 (by decide) (by decide), by rw [ln_of s3]; exact vpi_of hk (by decide), a + 2, s4, isA_of (H := sD H (tg H (a + 1)) (a + 1) (Int32.ofNat k).toNatClampNeg v) s5 (by decide) (by decide), ?_, ?_⟩
  · rw [ln_of (H := sD H (tg H (a + 1)) (a + 1) (Int32.ofNat k).toNatClampNeg v) s5]; exact vpi_of hk (by decide)
  · rw [tg_of (H := sD H (tg H (a + 1)) (a + 1) (Int32.ofNat k).toNatClampNeg v) s5, tg_of s3, iN_cl (by omega), nar_0]; exact hq
theorem fr_shTrack {S : Nat → Nat → Prop} {H H' : HP} {a : Nat} (h : Fr S H H') (s : shTrack H a) : shTrack H' a := by
  unfold shTrack at s ⊢
  rw [fr_tg h, h.2.1, h.1]; exact s
theorem Fr_tst {H : HP} {a k : Nat} {v : UInt64} {o : Int32} : Fr (T1S a) H (sI (sD H 4165 (a + 1) k v) 4178 (a + 2) k o) := (Fr_sD ⟨by omega, by omega⟩).tr (Fr_sI ⟨by omega, by omega⟩)
theorem tst_D {H : HP} {a k k' : Nat} {v : UInt64} {o : Int32} : hD (sI (sD H 4165 (a + 1) k v) 4178 (a + 2) k o) 4165 (a + 1) k' = if k' = k then v else hD H 4165 (a + 1) k' := by
  show hD (sD H 4165 (a + 1) k v) 4165 (a + 1) k' = _
  rw [hDs]
  by_cases e : k' = k
  · rw [if_pos e, if_pos ⟨rfl, rfl, e⟩]
  · rw [if_neg e, if_neg (fun h => e h.2.2)]
theorem tst_I {H : HP} {a k k' : Nat} {v : UInt64} {o : Int32} : hI (sI (sD H 4165 (a + 1) k v) 4178 (a + 2) k o) 4178 (a + 2) k' = if k' = k then o else hI H 4178 (a + 2) k' := by
  rw [hIs_i]; rfl
theorem tst_G {H : HP} {a k g x i : Nat} {v : UInt64} {o : Int32} (h : g ≠ 4178) : hI (sI (sD H 4165 (a + 1) k v) 4178 (a + 2) k o) g x i = hI H g x i := by
  rw [hIs_g _ _ _ _ _ _ h]; rfl
theorem become_loop {d : Nat} {q : HP → Prop} {H0 : HP} {a : Nat} {s n : Int32} (hq : ∀ H', Fr (T1S a) H0 H' → hI H' 900 a 0 = s → hI H' 901 a 0 = n → (∀ k, k < 30 → hD H' 4165 (a + 1) k = FP.dconst0 ∧ hI H' 4178 (a + 2) k = 0) → q H') : ∀ (r k : Nat) (H : HP), r + k = 30 → Fr (T1S a) H0 H → shTrack H a → hI H 900 a 0 = s → hI H 901 a 0 = n → (∀ j, j < k → hD H 4165 (a + 1) j = FP.dconst0 ∧ hI H 4178 (a + 2) j = 0) → L_X8_become_12 (d + 1) q a (Int32.ofNat k) H := by
  have e30 : (30 : Int32) = Int32.ofNat 30 := rfl
  intro r
  induction r with
  | zero =>
    intro k H e F sh h1 h2 hj
    refine T_X8_become_12 ?_
    unfold wb_X8_become_12
    rw [e30, iN_le (by omega) (by omega)]
    exact ⟨fun _ => hq H F h1 h2 (fun j h => hj j (by omega)), fun h => by omega⟩
  | succ r ih =>
    intro k H e F sh h1 h2 hj
    refine T_X8_become_12 ?_
    unfold wb_X8_become_12
    rw [e30, iN_le (by omega) (by omega)]
    refine ⟨fun h => by omega, fun _ => ⟨sh.1, K_tstore (d := d) sh (by omega) ?_⟩⟩
    rw [iN_inc (by omega)]
    refine ih (k + 1) _ (by omega) (F.tr Fr_tst) (fr_shTrack (Fr_tst (a := a)) sh) (by rw [tst_G (by decide)]; exact h1) (by rw [tst_G (by decide)]; exact h2) (fun j h => ?_)
    rw [tst_D, tst_I]
    by_cases ej : j = k
    · rw [if_pos ej, if_pos ej]; exact ⟨rfl, rfl⟩
    · rw [if_neg ej, if_neg ej]; exact hj j (by omega)
theorem K_become {d : Nat} {q : HP → Prop} {H : HP} {a : Nat} {s n : Int32} (sh : shTrack H a) (hq : ∀ H', Fr (T1S a) H H' → hI H' 900 a 0 = s → hI H' 901 a 0 = n → (∀ k, k < 30 → hD H' 4165 (a + 1) k = FP.dconst0 ∧ hI H' 4178 (a + 2) k = 0) → q H') : CV (d + 2) 0 0 mX8_become [rv (some a), .int s, .int n] H q := by
  refine C_X8_become ?_
  unfold wb_X8_become_0
  have F : Fr (T1S a) H (sI (sI H 900 a 0 s) 901 a 0 n) := (Fr_sI ⟨by omega, by omega⟩).tr (Fr_sI ⟨by omega, by omega⟩)
  exact ⟨sh.1, become_loop (d := d) hq 30 0 _ (by omega) F (fr_shTrack F sh) (by rw [hIs_g _ _ _ _ _ _ (by decide), hIs_i, if_pos rfl]) (by rw [hIs_i, if_pos rfl]) (fun j h => by omega)⟩
def newT (s n : Int32) : TRK := (s, (if s.toInt < 0 then 0 else n.toInt.toNat), fun _ => some FP.fconst0, fun _ => some FP.dconst0)
abbrev okNew (s n : Int32) : Prop := (-1 ≤ s.toInt ∧ s.toInt ≤ 1) ∧ (s.toInt < 0 ∨ (0 ≤ n.toInt ∧ n.toInt ≤ 30))
theorem okTk_new {s n : Int32} (h : okNew s n) : okTk (newT s n) := by
  have i1 : ∀ x : Int32, x.toInt = -1 → x = -1 := fun x k => i32_ext (by rw [k]; rfl)
  refine ⟨?_, ?_, fun k v e => ?_, fun k v e => ?_⟩
  · show s = -1 ∨ s = 0 ∨ s = 1
    have := h.1
    by_cases h1 : s.toInt = -1
    · exact Or.inl (i1 s h1)
    · by_cases h2 : s.toInt = 0
      · exact Or.inr (Or.inl (i32_ext (by rw [h2]; rfl)))
      · exact Or.inr (Or.inr (i32_ext (show s.toInt = 1 by omega)))
  · show (if s.toInt < 0 then 0 else n.toInt.toNat) ≤ 30
    split
    · omega
    · have := h.2; omega
  · have e : some FP.fconst0 = some v := e
    injection e with e
    rw [← e]; exact fz_nn
  · have e : some FP.dconst0 = some v := e
    injection e with e
    rw [← e]; exact dz_nn
def trackT (T : TRs) (t s n : Int32) : TRs := if inN 4 t ∧ okNew s n then putT T t.toInt.toNat (newT s n) else T
def trackA (t s n : Int32) : Int32 := if inN 4 t then (if okNew s n then 1 else -2) else -1
theorem okTR_track {T : TRs} {t s n : Int32} (h : okTR T) : okTR (trackT T t s n) := by
  unfold trackT
  split
  · rename_i k; exact okTR_put h (okTk_new k.2)
  · exact h
theorem CT1_new {H' : HP} {a : Nat} {s n n' : Int32} (h : okNew s n) (hn : n' = if s.toInt < 0 then 0 else n) (h1 : hI H' 900 a 0 = s) (h2 : hI H' 901 a 0 = n') (h3 : ∀ k, k < 30 → hD H' 4165 (a + 1) k = FP.dconst0 ∧ hI H' 4178 (a + 2) k = 0) : CT1 H' a (newT s n) := by
  refine ⟨h1, ?_, fun _ k hk => ⟨(h3 k hk).2, ?_⟩, fun _ k hk => ⟨(h3 k hk).2, (h3 k hk).1⟩⟩
  · rw [h2, hn]
    show _ = Int32.ofNat (if s.toInt < 0 then 0 else n.toInt.toNat)
    by_cases hs : s.toInt < 0
    · rw [if_pos hs, if_pos hs]; rfl
    · rw [if_neg hs, if_neg hs]
      have := h.2
      exact iN_inj (by omega) (by omega)
  · rw [(h3 k hk).1]; exact f2d_z.symm
theorem K_ctrack {d : Nat} {q : HP → Int32 → Prop} {H : HP} {T : TRs} {t s n : Int32} (p : shP H) (c : CTr H T) (hq : ∀ H', Fr TcS H H' → CTr H' (trackT T t s n) → q H' (trackA t s n)) : CI (d + 3) 0 0 mX11_track [rv (some 0), .int t, .int s, .int n] H q := by
  refine C_X11_track ?_
  unfold wb_X11_track_0
  have e1 : (1 : Int32).toInt = 1 := rfl
  have em : (-1 : Int32).toInt = -1 := rfl
  have e30 : (30 : Int32).toInt = 30 := rfl
  have h0 := hq H Fr.rf
  unfold trackT trackA at h0 hq
  refine ⟨p.1, K_trackAt (d := d + 1) p c.1 (fun a ha e => ⟨fun k => (by cases k), fun b hb => ?_⟩) (fun h => ⟨fun _ => ?_, fun b hb => (by cases hb)⟩)⟩
  · injection hb with hb
    subst hb
    obtain ⟨n1, n2⟩ := inN_of2 (n := 4) (by decide) ha e
    have bad : ¬ okNew s n → q H (-2) := fun k => by
      rw [if_neg (fun x => k x.2), if_pos n1, if_neg k] at h0; exact h0 c
    have good : ∀ n' : Int32, (n' = if s.toInt < 0 then 0 else n) → okNew s n → CV (d + 2) 0 0 mX8_become [rv (some (1097 + 3 * a)), .int s, .int n'] H (fun H5 => q H5 1) := fun n' hn ok => K_become (d := d) (c.1 a ha).2 fun H' F g1 g2 g3 => by
      obtain ⟨F', c'⟩ := CTr_put c ha F (CT1_new ok hn g1 g2 g3)
      have := hq H' F'
      rw [if_pos ⟨n1, ok⟩, if_pos n1, if_pos ok, n2] at this
      exact this c'
    rw [i32_lt, i32_lt, i32_lt, i32_lt, i32_le, i32_le, i32_0, e1, em, e30]
    refine ⟨fun k => bad fun x => by have := x.1; omega, fun k1 => ⟨fun k => bad fun x => by have := x.1; omega, fun k2 => ⟨fun k3 => ⟨fun k4 => by omega, fun _ => ⟨(c.1 a ha).2.1, good 0 (by rw [if_pos k3]) ⟨⟨by omega, by omega⟩, Or.inl k3⟩⟩⟩, fun k3 => ⟨fun k4 => bad fun x => by have := x.2; omega, fun k4 => ⟨fun k5 => ⟨fun _ => ⟨(c.1 a ha).2.1, good n (by rw [if_neg k3]) ⟨⟨by omega, by omega⟩, Or.inr ⟨by omega, by omega⟩⟩⟩, fun k6 => by omega⟩, fun k5 => bad fun x => by have := x.2; omega⟩⟩⟩⟩⟩
  · rw [if_neg (fun x => notN (n := 4) h x.1), if_neg (notN (n := 4) h)] at h0
    exact h0 c
def fbO (w : Option UInt32) : Int64 := match w with
  | none => 2143289344
  | some v => v.toInt32.toInt64
def dbO (w : Option UInt64) : Int64 := match w with
  | none => 9221120237041090560
  | some v => v.toInt64
theorem K_bitsF {d : Nat} {q : HP → Int64 → Prop} {H : HP} {a : Nat} {x : UInt64} {o : Int32} {w : Option UInt32} (ht : tg H a = 9) (sb : shBits H 1092) (h9 : hI H 900 a 0 = 0) (c : cfv x o w) (hw : ∀ v, w = some v → FP.Core.val32 v ≠ .nan) (hq : q H (fbO w)) : CJ (d + 5) 0 0 mX8_bitsOf [rv (some a), .double x, .int o, rv (some 1092)] H q := by
  refine C_X8_bitsOf ?_
  unfold wb_X8_bitsOf_0
  refine ⟨ht, fun k => absurd h9 k, fun _ => ?_⟩
  cases w with
  | none =>
    have c : o = 1 := c
    rw [c]
    exact ⟨fun k => absurd k (by decide), fun _ => hq⟩
  | some v =>
    have hn := hw v rfl
    obtain ⟨c1, c2⟩ : o = 0 ∧ x = FP.f2d v := c
    rw [c1, c2, d2f_f2d' hn]
    refine ⟨fun _ r hr => ⟨1092, rfl, sb.1, ?_⟩, fun k => absurd rfl k⟩
    have er := ali32 hr hn
    subst er
    exact K_ofFloat (d := d) sb hn hq
theorem K_bitsD {d : Nat} {q : HP → Int64 → Prop} {H : HP} {a : Nat} {x : UInt64} {o : Int32} {w : Option UInt64} (ht : tg H a = 9) (sb : shBits H 1092) (h9 : ¬ hI H 900 a 0 = 0) (c : cdv x o w) (hw : ∀ v, w = some v → FP.Core.val64 v ≠ .nan) (hq : q H (dbO w)) : CJ (d + 5) 0 0 mX8_bitsOf [rv (some a), .double x, .int o, rv (some 1092)] H q := by
  refine C_X8_bitsOf ?_
  unfold wb_X8_bitsOf_0
  refine ⟨ht, fun _ => ?_, fun k => absurd k h9⟩
  cases w with
  | none =>
    have c : o = 1 := c
    rw [c]
    exact ⟨fun k => absurd k (by decide), fun _ => hq⟩
  | some v =>
    obtain ⟨c1, c2⟩ : o = 0 ∧ x = v := c
    rw [c1, c2]
    exact ⟨fun _ => ⟨1092, rfl, sb.1, K_ofDouble (d := d) sb (hw v rfl) hq⟩, fun k => absurd rfl k⟩
def itemB (T : TRK) (k : Nat) : Int64 := if tS T = 0 then fbO (tF T k) else dbO (tD T k)
def itemA (T : TRs) (t i : Int32) : Int64 := if barA T t i = 0 then itemB (T t.toInt.toNat) i.toInt.toNat else -9223372036854775808
theorem K_citem {d : Nat} {q : HP → Int64 → Prop} {H : HP} {T : TRs} {t i : Int32} (p : shP H) (sb : shBits H 1092) (c : CTr H T) (ok : okTR T) (hq : q H (itemA T t i)) : CJ (d + 6) 0 0 mX11_item [rv (some 0), .int t, .int i] H q := by
  obtain ⟨s1, s2, s3, s4, s5, s6, s7, s8, s9, s10, s11, s12, s13, s14, -⟩ := id p
  refine C_X11_item ?_
  unfold wb_X11_item_0
  unfold itemA at hq
  refine ⟨s1, K_crefuse (d := d + 3) p c ok (fun a j ha hj hj30 et ei na nj hs hb => ⟨fun _ => ⟨s1, 1090, s8, isA_of s14 (by decide) (by decide), ?_, ?_⟩, fun k => absurd rfl k⟩) (fun hb => ⟨fun k => absurd k hb, fun _ => ?_⟩)⟩
  · rw [et, ln_of s14]; exact vpi_of ha (by decide)
  · obtain ⟨h1, sh⟩ := c.1 a ha
    obtain ⟨z1, z2, z3, z4, z5⟩ := id sh
    obtain ⟨c1, c2, c3, c4⟩ := c.2 a ha
    rw [if_pos hb, na, nj] at hq
    have eR : hR H (tg H 1090) 1090 t.toNatClampNeg = some (1097 + 3 * a) := by rw [tg_of s14, et, iN_cl (by omega)]; exact h1
    rw [eR, s10]
    refine ⟨_, rfl, z1, 1097 + 3 * a + 1, z2, isA_of z3 (by decide) (by decide), by rw [ei, ln_of z3]; exact vpi_of hj30 (by decide), 1097 + 3 * a + 2, z4, isA_of z5 (by decide) (by decide), by rw [ei, ln_of z5]; exact vpi_of hj30 (by decide), ?_⟩
    rw [tg_of z3, tg_of z5, ei, iN_cl (by omega)]
    unfold itemB at hq
    rcases hs with hs | hs
    · rw [if_pos hs] at hq
      exact K_bitsF (d := d) z1 sb (by rw [c1]; exact hs) (c3 hs j hj30) ((ok a).2.2.1 j) hq
    · rw [if_neg (by rw [hs]; decide)] at hq
      exact K_bitsD (d := d) z1 sb (by rw [c1, hs]; decide) (c4 hs j hj30) ((ok a).2.2.2 j) hq
  · rw [if_neg hb] at hq; exact hq
