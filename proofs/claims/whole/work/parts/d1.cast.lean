
/-! ===== tracks: cast ===== -/
def icF (o : Option UInt32) : Int32 := match o with
  | none => 0
  | some v => FP.f2i v
def lcF (o : Option UInt32) : Int64 := match o with
  | none => 0
  | some v => FP.f2l v
def icD (o : Option UInt64) : Int32 := match o with
  | none => 0
  | some v => FP.d2i v
def lcD (o : Option UInt64) : Int64 := match o with
  | none => 0
  | some v => FP.d2l v
def icT (T : TRK) (k : Nat) : Int32 := if tS T = 0 then icF (tF T k) else icD (tD T k)
def lcT (T : TRK) (k : Nat) : Int64 := if tS T = 0 then lcF (tF T k) else lcD (tD T k)
def castB (a : Int32) (b : Int64) (w : Int32) : Int64 := if w = 0 then a.toInt64 else if w = 1 then a.toInt8.toInt32.toInt64 else if w = 2 then a.toInt16.toInt32.toInt64 else b
def castA (T : TRs) (t i w : Int32) : Int64 := if (0 ≤ w.toInt ∧ w.toInt ≤ 3) ∧ barA T t i = 0 then castB (icT (T t.toInt.toNat) i.toInt.toNat) (lcT (T t.toInt.toNat) i.toInt.toNat) w else -9223372036854775808
theorem w3 {w : Int32} (h : 0 ≤ w.toInt ∧ w.toInt ≤ 3) (h0 : w ≠ 0) (h1 : w ≠ 1) (h2 : w ≠ 2) : w = 3 := by
  have e : ∀ n : Nat, n < 4 → w.toInt = n → w = Int32.ofNat n := fun n hn k => iN_inj (by omega) k
  have c : w.toInt = 0 ∨ w.toInt = 1 ∨ w.toInt = 2 ∨ w.toInt = 3 := by omega
  rcases c with c | c | c | c
  · exact absurd (e 0 (by omega) c) h0
  · exact absurd (e 1 (by omega) c) h1
  · exact absurd (e 2 (by omega) c) h2
  · exact e 3 (by omega) c
theorem K_ccast {d : Nat} {q : HP → Int64 → Prop} {H : HP} {T : TRs} {t i w : Int32} (p : shP H) (c : CTr H T) (ok : okTR T) (hq : q H (castA T t i w)) : CJ (d + 3) 0 0 mX11_cast [rv (some 0), .int t, .int i, .int w] H q := by
  obtain ⟨s1, s2, s3, s4, s5, s6, s7, s8, s9, s10, s11, s12, s13, s14, -⟩ := id p
  refine C_X11_cast ?_
  unfold wb_X11_cast_0
  unfold castA at hq
  refine ⟨s1, K_crefuse (d := d) p c ok (fun a j ha hj hj30 et ei na nj hs hb => ⟨fun _ => ⟨s1, 1090, s8, isA_of s14 (by decide) (by decide), ?_, ?_⟩, fun k => absurd rfl k⟩) (fun hb => ⟨fun k => absurd k hb, fun _ => ?_⟩)⟩
  · rw [et, ln_of s14]; exact vpi_of ha (by decide)
  · obtain ⟨h1, sh⟩ := c.1 a ha
    obtain ⟨z1, z2, z3, z4, z5⟩ := id sh
    obtain ⟨c1, c2, c3, c4⟩ := c.2 a ha
    have eR : hR H (tg H 1090) 1090 t.toNatClampNeg = some (1097 + 3 * a) := by rw [tg_of s14, et, iN_cl (by omega)]; exact h1
    rw [eR, ei]
    have main : ∀ x : UInt64, FP.d2i x = icT (T a) j → FP.d2l x = lcT (T a) j → ((w.toInt < 0 ∨ 3 < w.toInt) → q H (-9223372036854775808 : Int64)) ∧ (w = 0 → q H ((FP.d2i x).toInt64)) ∧ (w = 1 → q H (((FP.d2i x).toInt8.toInt32).toInt64)) ∧ (w = 2 → q H (((FP.d2i x).toInt16.toInt32).toInt64)) ∧ (w = 3 → q H (FP.d2l x)) := fun x e1 e2 => by
      rw [e1, e2]
      rw [na, nj] at hq
      refine ⟨fun h => ?_, fun h => ?_, fun h => ?_, fun h => ?_, fun h => ?_⟩
      · rw [if_neg (fun k => by have := k.1; omega)] at hq; exact hq
      · subst h
        rw [if_pos ⟨by decide, hb⟩] at hq; exact hq
      · subst h
        rw [if_pos ⟨by decide, hb⟩] at hq; exact hq
      · subst h
        rw [if_pos ⟨by decide, hb⟩] at hq; exact hq
      · subst h
        rw [if_pos ⟨by decide, hb⟩] at hq; exact hq
    refine ⟨_, rfl, z1, ?_⟩
    refine C_X8_number ?_
    unfold wb_X8_number_0
    refine ⟨z1, 1097 + 3 * a + 2, z4, isA_of z5 (by decide) (by decide), by rw [ln_of z5]; exact vpi_of hj30 (by decide), ?_⟩
    rw [tg_of z5, iN_cl (by omega)]
    rcases hs with hs | hs
    · have hv := c3 hs j hj30
      have x1 : icT (T a) j = icF (tF (T a) j) := if_pos hs
      have x2 : lcT (T a) j = lcF (tF (T a) j) := if_pos hs
      rw [x1, x2] at main
      cases hf : tF (T a) j with
      | none =>
        rw [hf] at hv main
        have hv : hI H 4178 (1097 + 3 * a + 2) j = 1 := hv
        rw [hv]
        exact ⟨fun k => absurd k (by decide), fun _ => main _ d2i_z d2l_z⟩
      | some v =>
        rw [hf] at hv main
        obtain ⟨hv1, hv2⟩ : hI H 4178 (1097 + 3 * a + 2) j = 0 ∧ hD H 4165 (1097 + 3 * a + 1) j = FP.f2d v := hv
        have vn := (ok a).2.2.1 j v hf
        rw [hv1]
        refine ⟨fun _ => ⟨1097 + 3 * a + 1, z2, isA_of z3 (by decide) (by decide), by rw [ln_of z3]; exact vpi_of hj30 (by decide), ?_⟩, fun k => absurd rfl k⟩
        rw [tg_of z3, hv2]
        exact main _ (d2i_f2d vn) (d2l_f2d vn)
    · have hv := c4 hs j hj30
      have x1 : icT (T a) j = icD (tD (T a) j) := if_neg (by rw [hs]; decide)
      have x2 : lcT (T a) j = lcD (tD (T a) j) := if_neg (by rw [hs]; decide)
      rw [x1, x2] at main
      cases hf : tD (T a) j with
      | none =>
        rw [hf] at hv main
        have hv : hI H 4178 (1097 + 3 * a + 2) j = 1 := hv
        rw [hv]
        exact ⟨fun k => absurd k (by decide), fun _ => main _ d2i_z d2l_z⟩
      | some v =>
        rw [hf] at hv main
        obtain ⟨hv1, hv2⟩ : hI H 4178 (1097 + 3 * a + 2) j = 0 ∧ hD H 4165 (1097 + 3 * a + 1) j = v := hv
        rw [hv1]
        refine ⟨fun _ => ⟨1097 + 3 * a + 1, z2, isA_of z3 (by decide) (by decide), by rw [ln_of z3]; exact vpi_of hj30 (by decide), ?_⟩, fun k => absurd rfl k⟩
        rw [tg_of z3, hv2]
        exact main _ rfl rfl
  · rw [if_neg (fun k => hb k.2)] at hq; exact hq
theorem K_mcast {d m : Nat} {q : HP → Int64 → Prop} {H : HP} {T : TRs} {t i w : Int32} (sm : shM H m) (c : MTr H m T) (ok : okTR T) (hq : q H (castA T t i w)) : CJ (d + 4) 0 0 mX12_cast [rv (some m), .int t, .int i, .int w] H q := by
  refine C_X12_cast ?_
  unfold wb_X12_cast_0
  unfold castA at hq
  obtain ⟨x1, x2, x3, x4⟩ := mA_sort sm
  obtain ⟨f1, f2, f3, f4⟩ := mA_floats sm
  obtain ⟨g1, g2, g3, g4⟩ := mA_doubles sm
  have e3 : (3 : Int64).toInt = 3 := rfl
  refine K_isIn (d := d + 2) ?_
  rw [i64_of32, i64_0, e3]
  refine ⟨fun hd => ?_, fun hd => ⟨sm.1, K_barred (d := d) sm c ok (fun a j ha hj hj30 et ei na nj hs hb => ⟨fun _ => ⟨sm.1, m + 33, f1, f2, ?_⟩, fun k => absurd rfl k⟩) (fun hb => ⟨fun k => absurd k hb, fun _ => ?_⟩)⟩⟩
  · have hd := of_decide_eq_false hd
    rw [if_neg (fun k => hd k.1)] at hq; exact hq
  · have hd := of_decide_eq_true hd
    obtain ⟨c1, c2, c3, c4⟩ := c a ha
    rw [if_pos ⟨hd, hb⟩, na, nj] at hq
    subst et
    subst ei
    rw [ix30 (by omega)]
    refine ⟨by rw [f4]; exact vpi_of (by omega) (by decide), m + 34, g1, g2, by rw [g4]; exact vpi_of (by omega) (by decide), m + 31, x1, x2, by rw [x4]; exact vpi_of ha (by decide), ?_⟩
    rw [x3, f3, g3, iN_cl (by omega), iN_cl (by omega), c1]
    have n01 : ¬ ((0 : Int32) = 0) → False := fun k => k rfl
    have n10 : ((1 : Int32) = 0) → False := fun k => absurd k (by decide)
    refine ⟨fun h => ?_, fun h => ?_⟩
    · have hs1 : tS (T a) = 1 := by
        rcases hs with hs | hs
        · exact absurd hs h
        · exact hs
      have hv := c4 hs1 j hj30
      have y1 : icT (T a) j = icD (tD (T a) j) := if_neg h
      have y2 : lcT (T a) j = lcD (tD (T a) j) := if_neg h
      rw [y1, y2] at hq
      have k1 : FP.d2i (hD H 5173 (m + 34) (30 * a + j)) = icD (tD (T a) j) := by
        cases hf : tD (T a) j with
        | none => rw [hf] at hv; exact d2i_n hv
        | some v =>
          rw [hf] at hv
          have hv : hD H 5173 (m + 34) (30 * a + j) = v := hv
          rw [hv]; rfl
      have k2 : FP.d2l (hD H 5173 (m + 34) (30 * a + j)) = lcD (tD (T a) j) := by
        cases hf : tD (T a) j with
        | none => rw [hf] at hv; exact d2l_n hv
        | some v =>
          rw [hf] at hv
          have hv : hD H 5173 (m + 34) (30 * a + j) = v := hv
          rw [hv]; rfl
      rw [k1, k2]
      unfold castB at hq
      refine ⟨fun h3 => ⟨fun _ => ⟨fun h0 => ⟨fun h1 => ?_, fun h1 => ?_⟩, fun h0 => ?_⟩, fun k => (n01 k).elim⟩, fun h3 => ⟨fun _ => ?_, fun k => (n01 k).elim⟩⟩
      · have h2 : w = 2 := Classical.byContradiction fun h2 => h3 (w3 hd h0 h1 h2)
        rw [if_neg h0, if_neg h1, if_pos h2] at hq; exact hq
      · rw [if_neg h0, if_pos h1] at hq; exact hq
      · rw [if_pos h0] at hq; exact hq
      · rw [if_neg (by rw [h3]; decide), if_neg (by rw [h3]; decide), if_neg (by rw [h3]; decide)] at hq; exact hq
    · have hv := c3 h j hj30
      have y1 : icT (T a) j = icF (tF (T a) j) := if_pos h
      have y2 : lcT (T a) j = lcF (tF (T a) j) := if_pos h
      rw [y1, y2] at hq
      have k1 : FP.f2i (hF H 5156 (m + 33) (30 * a + j)) = icF (tF (T a) j) := by
        cases hf : tF (T a) j with
        | none => rw [hf] at hv; exact f2i_n hv
        | some v =>
          rw [hf] at hv
          have hv : hF H 5156 (m + 33) (30 * a + j) = v := hv
          rw [hv]; rfl
      have k2 : FP.f2l (hF H 5156 (m + 33) (30 * a + j)) = lcF (tF (T a) j) := by
        cases hf : tF (T a) j with
        | none => rw [hf] at hv; exact f2l_n hv
        | some v =>
          rw [hf] at hv
          have hv : hF H 5156 (m + 33) (30 * a + j) = v := hv
          rw [hv]; rfl
      rw [k1, k2]
      unfold castB at hq
      refine ⟨fun h3 => ⟨fun k => (n10 k).elim, fun _ => ⟨fun h0 => ⟨fun h1 => ?_, fun h1 => ?_⟩, fun h0 => ?_⟩⟩, fun h3 => ⟨fun k => (n10 k).elim, fun _ => ?_⟩⟩
      · have h2 : w = 2 := Classical.byContradiction fun h2 => h3 (w3 hd h0 h1 h2)
        rw [if_neg h0, if_neg h1, if_pos h2] at hq; exact hq
      · rw [if_neg h0, if_pos h1] at hq; exact hq
      · rw [if_pos h0] at hq; exact hq
      · rw [if_neg (by rw [h3]; decide), if_neg (by rw [h3]; decide), if_neg (by rw [h3]; decide)] at hq; exact hq
  · rw [if_neg (fun k => hb k.2)] at hq; exact hq
