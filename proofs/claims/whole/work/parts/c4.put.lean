
/-! ===== tracks: put, putBits ===== -/
def setTF (T : TRK) (k : Nat) (w : Option UInt32) : TRK := (tS T, tN T, (fun j => if j = k then w else tF T j), tD T)
def setTD (T : TRK) (k : Nat) (w : Option UInt64) : TRK := (tS T, tN T, tF T, (fun j => if j = k then w else tD T j))
def setTk (T : TRK) (k : Nat) (f : Option UInt32) (w : Option UInt64) : TRK := if tS T = 0 then setTF T k f else setTD T k w
abbrev noNF (w : Option UInt32) : Prop := ∀ v, w = some v → FP.Core.val32 v ≠ .nan
abbrev noND (w : Option UInt64) : Prop := ∀ v, w = some v → FP.Core.val64 v ≠ .nan
theorem okTk_set {T : TRK} {k : Nat} {f : Option UInt32} {w : Option UInt64} (h : okTk T) (hf : noNF f) (hw : noND w) : okTk (setTk T k f w) := by
  obtain ⟨h1, h2, h3, h4⟩ := h
  unfold setTk
  split
  · refine ⟨h1, h2, fun j v e => ?_, h4⟩
    have e : (if j = k then f else tF T j) = some v := e
    by_cases ej : j = k
    · rw [if_pos ej] at e; exact hf v e
    · rw [if_neg ej] at e; exact h3 j v e
  · refine ⟨h1, h2, h3, fun j v e => ?_⟩
    have e : (if j = k then w else tD T j) = some v := e
    by_cases ej : j = k
    · rw [if_pos ej] at e; exact hw v e
    · rw [if_neg ej] at e; exact h4 j v e
theorem CT1_setF {H H' : HP} {a k : Nat} {T : TRK} {x : UInt64} {o : Int32} {f : Option UInt32} {w : Option UInt64} (c : CT1 H a T) (hs : tS T = 0) (e1 : hI H' 900 a 0 = hI H 900 a 0) (e2 : hI H' 901 a 0 = hI H 901 a 0) (eD : ∀ j, hD H' 4165 (a + 1) j = if j = k then x else hD H 4165 (a + 1) j) (eI : ∀ j, hI H' 4178 (a + 2) j = if j = k then o else hI H 4178 (a + 2) j) (v : cfv x o f) : CT1 H' a (setTk T k f w) := by
  unfold setTk
  rw [if_pos hs]
  obtain ⟨c1, c2, c3, c4⟩ := c
  refine ⟨by rw [e1]; exact c1, by rw [e2]; exact c2, fun _ j hj => ?_, fun h => absurd (hs.symm.trans h) (by decide)⟩
  show cfv _ _ (if j = k then f else tF T j)
  rw [eD, eI]
  by_cases ej : j = k
  · rw [if_pos ej, if_pos ej, if_pos ej]; exact v
  · rw [if_neg ej, if_neg ej, if_neg ej]; exact c3 hs j hj
theorem CT1_setD {H H' : HP} {a k : Nat} {T : TRK} {x : UInt64} {o : Int32} {f : Option UInt32} {w : Option UInt64} (c : CT1 H a T) (hs : tS T = 1) (e1 : hI H' 900 a 0 = hI H 900 a 0) (e2 : hI H' 901 a 0 = hI H 901 a 0) (eD : ∀ j, hD H' 4165 (a + 1) j = if j = k then x else hD H 4165 (a + 1) j) (eI : ∀ j, hI H' 4178 (a + 2) j = if j = k then o else hI H 4178 (a + 2) j) (v : cdv x o w) : CT1 H' a (setTk T k f w) := by
  unfold setTk
  rw [if_neg (by rw [hs]; decide)]
  obtain ⟨c1, c2, c3, c4⟩ := c
  refine ⟨by rw [e1]; exact c1, by rw [e2]; exact c2, fun h => absurd (hs.symm.trans h) (by decide), fun _ j hj => ?_⟩
  show cdv _ _ (if j = k then w else tD T j)
  rw [eD, eI]
  by_cases ej : j = k
  · rw [if_pos ej, if_pos ej, if_pos ej]; exact v
  · rw [if_neg ej, if_neg ej, if_neg ej]; exact c4 hs j hj
theorem MTr_setF {H : HP} {m t k : Nat} {T : TRs} {x : UInt32} {f : Option UInt32} {w : Option UInt64} (c : MTr H m T) (ht : t < 4) (hk : k < 30) (hs : tS (T t) = 0) (v : mfv x f) : Fr (TmS m) H (sF H 5156 (m + 33) (30 * t + k) x) ∧ MTr (sF H 5156 (m + 33) (30 * t + k) x) m (putT T t (setTk (T t) k f w)) := by
  refine ⟨Fr_sF ⟨by omega, by omega⟩, MTr_put c ⟨fun t' _ => ⟨rfl, rfl⟩, fun t' k' h1 h2 => ⟨?_, rfl⟩⟩ ?_⟩
  · rw [hFs, if_neg (fun h => by omega)]
  · obtain ⟨c1, c2, c3, c4⟩ := c t ht
    unfold setTk
    rw [if_pos hs]
    refine ⟨c1, c2, fun _ j hj => ?_, fun h => absurd (hs.symm.trans h) (by decide)⟩
    show mfv _ (if j = k then f else tF (T t) j)
    rw [hFs]
    by_cases ej : j = k
    · rw [if_pos ej, if_pos ⟨rfl, rfl, by rw [ej]⟩]; exact v
    · rw [if_neg ej, if_neg (fun h => by omega)]; exact c3 hs j hj
theorem MTr_setD {H : HP} {m t k : Nat} {T : TRs} {x : UInt64} {f : Option UInt32} {w : Option UInt64} (c : MTr H m T) (ht : t < 4) (hk : k < 30) (hs : tS (T t) = 1) (v : mdv x w) : Fr (TmS m) H (sD H 5173 (m + 34) (30 * t + k) x) ∧ MTr (sD H 5173 (m + 34) (30 * t + k) x) m (putT T t (setTk (T t) k f w)) := by
  refine ⟨Fr_sD ⟨by omega, by omega⟩, MTr_put c ⟨fun t' _ => ⟨rfl, rfl⟩, fun t' k' h1 h2 => ⟨rfl, ?_⟩⟩ ?_⟩
  · rw [hDs, if_neg (fun h => by omega)]
  · obtain ⟨c1, c2, c3, c4⟩ := c t ht
    unfold setTk
    rw [if_neg (by rw [hs]; decide)]
    refine ⟨c1, c2, fun h => absurd (hs.symm.trans h) (by decide), fun _ j hj => ?_⟩
    show mdv _ (if j = k then w else tD (T t) j)
    rw [hDs]
    by_cases ej : j = k
    · rw [if_pos ej, if_pos ⟨rfl, rfl, by rw [ej]⟩]; exact v
    · rw [if_neg ej, if_neg (fun h => by omega)]; exact c4 hs j hj
def putF (v : Int32) : UInt32 := FP.fdiv (FP.i2f v) 1148846080
def putD (v : Int32) : UInt64 := FP.ddiv (FP.i2d v) 4652007308841189376
theorem putF_nn (v : Int32) : FP.Core.val32 (putF v) ≠ .nan := (FP.Core.notNaN_iff32 _).mp (FP.Core.fdiv_out (FP.Core.FFin.notNaN (FP.Core.i2f_fin v)) ((FP.Core.fin_bits32 _).mpr (by decide)) (fun k => absurd ((FP.Core.zero_bits232 _).mp k) (by decide)))
theorem putD_nn (v : Int32) : FP.Core.val64 (putD v) ≠ .nan := (FP.Core.notNaN_iff _).mp (FP.Core.ddiv_out (FP.Core.DFin.notNaN (FP.Core.i2d_fin v)) ((FP.Core.fin_bits _).mpr (by decide)) (fun k => absurd ((FP.Core.zero_bits2 _).mp k) (by decide)))
def bitF (b : Int64) : Option UInt32 := if FP.fIsNaN b.toInt32.toUInt32 = true then none else some b.toInt32.toUInt32
def bitD (b : Int64) : Option UInt64 := if FP.dIsNaN b.toUInt64 = true then none else some b.toUInt64
def putIT (T : TRs) (t i : Int32) (f : Option UInt32) (w : Option UInt64) : TRs := if barA T t i = 0 then putT T t.toInt.toNat (setTk (T t.toInt.toNat) i.toInt.toNat f w) else T
def putIA (T : TRs) (t i : Int32) : Int32 := if barA T t i = 0 then 1 else barA T t i
theorem okTR_putI {T : TRs} {t i : Int32} {f : Option UInt32} {w : Option UInt64} (h : okTR T) (hf : noNF f) (hw : noND w) : okTR (putIT T t i f w) := by
  unfold putIT
  split
  · exact okTR_put h (okTk_set (h _) hf hw)
  · exact h
theorem nn_putF (v : Int32) : noNF (some (putF v)) := fun x e => by injection e with e; rw [← e]; exact putF_nn v
theorem nn_putD (v : Int32) : noND (some (putD v)) := fun x e => by injection e with e; rw [← e]; exact putD_nn v
theorem bitF_n {b : Int64} (h : FP.fIsNaN b.toInt32.toUInt32 = true) : bitF b = none := if_pos h
theorem bitF_s {b : Int64} (h : FP.fIsNaN b.toInt32.toUInt32 = false) : bitF b = some b.toInt32.toUInt32 := if_neg (by rw [h]; decide)
theorem bitD_n {b : Int64} (h : FP.dIsNaN b.toUInt64 = true) : bitD b = none := if_pos h
theorem bitD_s {b : Int64} (h : FP.dIsNaN b.toUInt64 = false) : bitD b = some b.toUInt64 := if_neg (by rw [h]; decide)
theorem nn_bitF (b : Int64) : noNF (bitF b) := fun x e => by
  cases h : FP.fIsNaN b.toInt32.toUInt32 with
  | true => rw [bitF_n h] at e; cases e
  | false => rw [bitF_s h] at e; injection e with e; rw [← e]; exact (FP.Core.notNaN_iff32 _).mp h
theorem nn_bitD (b : Int64) : noND (bitD b) := fun x e => by
  cases h : FP.dIsNaN b.toUInt64 with
  | true => rw [bitD_n h] at e; cases e
  | false => rw [bitD_s h] at e; injection e with e; rw [← e]; exact (FP.Core.notNaN_iff _).mp h
theorem K_cput {d : Nat} {q : HP → Int32 → Prop} {H : HP} {T : TRs} {t i v : Int32} (p : shP H) (c : CTr H T) (ok : okTR T) (hq : ∀ H', Fr TcS H H' → CTr H' (putIT T t i (some (putF v)) (some (putD v))) → q H' (putIA T t i)) : CI (d + 3) 0 0 mX11_put [rv (some 0), .int t, .int i, .int v] H q := by
  obtain ⟨s1, s2, s3, s4, s5, s6, s7, s8, s9, s10, s11, s12, s13, s14, -⟩ := id p
  refine C_X11_put ?_
  unfold wb_X11_put_0
  have h0 := hq H Fr.rf
  unfold putIT putIA at h0 hq
  refine ⟨s1, K_crefuse (d := d) p c ok (fun a j ha hj hj30 et ei na nj hs hb => ⟨fun _ => ⟨s1, 1090, s8, isA_of s14 (by decide) (by decide), ?_, ?_⟩, fun k => absurd rfl k⟩) (fun hb => ⟨fun k => absurd k hb, fun _ => ?_⟩)⟩
  · rw [et, ln_of s14]; exact vpi_of ha (by decide)
  · obtain ⟨h1, sh⟩ := c.1 a ha
    have eR : hR H (tg H 1090) 1090 t.toNatClampNeg = some (1097 + 3 * a) := by rw [tg_of s14, et, iN_cl (by omega)]; exact h1
    rw [eR]
    refine ⟨_, rfl, sh.1, ?_⟩
    rw [(c.2 a ha).1]
    have hqk : ∀ H', Fr TcS H H' → CTr H' (putT T a (setTk (T a) j (some (putF v)) (some (putD v)))) → q H' 1 := fun H' F' c' => by
      have := hq H' F'
      rw [if_pos hb, if_pos hb, na, nj] at this
      exact this c'
    refine ⟨fun h r hr => ?_, fun h r hr r2 hr2 => ?_⟩
    · have hs1 : tS (T a) = 1 := by
        rcases hs with hs | hs
        · exact absurd hs h
        · exact hs
      have er : r = putD v := ali64 hr (putD_nn v)
      rw [er, ei]
      refine K_tstore (d := d + 1) sh hj30 ?_
      obtain ⟨F', c'⟩ := CTr_put c ha Fr_tst (CT1_setD (f := some (putF v)) (w := some (putD v)) (c.2 a ha) hs1 (tst_G (by decide)) (tst_G (by decide)) (fun x => tst_D) (fun x => tst_I) ⟨rfl, rfl⟩)
      exact hqk _ F' c'
    · have er : r = putF v := ali32 hr (putF_nn v)
      have er2 : r2 = FP.f2d (putF v) := by rw [er] at hr2; exact ali64 hr2 (f2d_nn (putF_nn v))
      rw [er2, ei]
      refine K_tstore (d := d + 1) sh hj30 ?_
      obtain ⟨F', c'⟩ := CTr_put c ha Fr_tst (CT1_setF (f := some (putF v)) (w := some (putD v)) (c.2 a ha) h (tst_G (by decide)) (tst_G (by decide)) (fun x => tst_D) (fun x => tst_I) ⟨rfl, rfl⟩)
      exact hqk _ F' c'
  · rw [if_neg hb, if_neg hb] at h0; exact h0 c
theorem K_mput {d m : Nat} {q : HP → Int32 → Prop} {H : HP} {T : TRs} {t i v : Int32} (sm : shM H m) (c : MTr H m T) (ok : okTR T) (hq : ∀ H', Fr (TmS m) H H' → MTr H' m (putIT T t i (some (putF v)) (some (putD v))) → q H' (putIA T t i)) : CI (d + 4) 0 0 mX12_put [rv (some m), .int t, .int i, .int v] H q := by
  refine C_X12_put ?_
  unfold wb_X12_put_0
  have h0 := hq H Fr.rf
  unfold putIT putIA at h0 hq
  obtain ⟨x1, x2, x3, x4⟩ := mA_sort sm
  obtain ⟨y1, y2, y3, y4⟩ := mA_floats sm
  obtain ⟨z1, z2, z3, z4⟩ := mA_doubles sm
  refine ⟨sm.1, K_barred (d := d) sm c ok (fun a j ha hj hj30 et ei na nj hs hb => ⟨fun _ => ⟨sm.1, m + 31, x1, x2, ?_, ?_⟩, fun k => absurd rfl k⟩) (fun hb => ⟨fun k => absurd k hb, fun _ => ?_⟩)⟩
  · rw [et, x4]; exact vpi_of ha (by decide)
  · have hqk : ∀ H', Fr (TmS m) H H' → MTr H' m (putT T a (setTk (T a) j (some (putF v)) (some (putD v)))) → q H' 1 := fun H' F' c' => by
      have := hq H' F'
      rw [if_pos hb, if_pos hb, na, nj] at this
      exact this c'
    subst et
    subst ei
    rw [x3, ix30 (by omega), iN_cl (by omega), (c a ha).1]
    refine ⟨fun h r hr => ?_, fun h r hr => ?_⟩
    · have hs1 : tS (T a) = 1 := by
        rcases hs with hs | hs
        · exact absurd hs h
        · exact hs
      have er : r = putD v := ali64 hr (putD_nn v)
      refine ⟨m + 34, z1, z2, by rw [z4]; exact vpi_of (by omega) (by decide), ?_⟩
      rw [z3, iN_cl (by omega), er]
      obtain ⟨F', c'⟩ := MTr_setD (f := some (putF v)) (w := some (putD v)) (x := putD v) c ha hj30 hs1 rfl
      exact hqk _ F' c'
    · have er : r = putF v := ali32 hr (putF_nn v)
      refine ⟨m + 33, y1, y2, by rw [y4]; exact vpi_of (by omega) (by decide), ?_⟩
      rw [y3, iN_cl (by omega), er]
      obtain ⟨F', c'⟩ := MTr_setF (f := some (putF v)) (w := some (putD v)) (x := putF v) c ha hj30 h rfl
      exact hqk _ F' c'
  · rw [if_neg hb, if_neg hb] at h0; exact h0 c
theorem bitF_m {b : Int64} {r : UInt32} (h : raw2fAny b.toInt32 r) : mfv r (bitF b) := by
  obtain ⟨h1, h2⟩ := raw_f h
  cases k : FP.fIsNaN b.toInt32.toUInt32 with
  | true => rw [bitF_n k]; exact h2 ((FP.Core.fIsNaN_iff _).mp k)
  | false => rw [bitF_s k]; exact h1 ((FP.Core.notNaN_iff32 _).mp k)
theorem bitD_m {b : Int64} {r : UInt64} (h : raw2dAny b r) : mdv r (bitD b) := by
  obtain ⟨h1, h2⟩ := raw_d h
  cases k : FP.dIsNaN b.toUInt64 with
  | true => rw [bitD_n k]; exact h2 ((FP.Core.dIsNaN_iff _).mp k)
  | false => rw [bitD_s k]; exact h1 ((FP.Core.notNaN_iff _).mp k)
theorem K_mputBits {d m : Nat} {q : HP → Int32 → Prop} {H : HP} {T : TRs} {t i : Int32} {b : Int64} (sm : shM H m) (c : MTr H m T) (ok : okTR T) (hq : ∀ H', Fr (TmS m) H H' → MTr H' m (putIT T t i (bitF b) (bitD b)) → q H' (putIA T t i)) : CI (d + 4) 0 0 mX12_putBits [rv (some m), .int t, .int i, .long b] H q := by
  refine C_X12_putBits ?_
  unfold wb_X12_putBits_0
  have h0 := hq H Fr.rf
  unfold putIT putIA at h0 hq
  obtain ⟨x1, x2, x3, x4⟩ := mA_sort sm
  obtain ⟨y1, y2, y3, y4⟩ := mA_floats sm
  obtain ⟨z1, z2, z3, z4⟩ := mA_doubles sm
  refine ⟨sm.1, K_barred (d := d) sm c ok (fun a j ha hj hj30 et ei na nj hs hb => ⟨fun _ => ⟨sm.1, m + 31, x1, x2, ?_, ?_⟩, fun k => absurd rfl k⟩) (fun hb => ⟨fun k => absurd k hb, fun _ => ?_⟩)⟩
  · rw [et, x4]; exact vpi_of ha (by decide)
  · have hqk : ∀ H', Fr (TmS m) H H' → MTr H' m (putT T a (setTk (T a) j (bitF b) (bitD b))) → q H' 1 := fun H' F' c' => by
      have := hq H' F'
      rw [if_pos hb, if_pos hb, na, nj] at this
      exact this c'
    subst et
    subst ei
    rw [x3, ix30 (by omega), iN_cl (by omega), (c a ha).1]
    refine ⟨fun h r hr => ?_, fun h r hr => ?_⟩
    · have hs1 : tS (T a) = 1 := by
        rcases hs with hs | hs
        · exact absurd hs h
        · exact hs
      refine ⟨m + 34, z1, z2, by rw [z4]; exact vpi_of (by omega) (by decide), ?_⟩
      rw [z3, iN_cl (by omega)]
      obtain ⟨F', c'⟩ := MTr_setD (f := bitF b) (w := bitD b) c ha hj30 hs1 (bitD_m hr)
      exact hqk _ F' c'
    · refine ⟨m + 33, y1, y2, by rw [y4]; exact vpi_of (by omega) (by decide), ?_⟩
      rw [y3, iN_cl (by omega)]
      obtain ⟨F', c'⟩ := MTr_setF (f := bitF b) (w := bitD b) c ha hj30 h (bitF_m hr)
      exact hqk _ F' c'
  · rw [if_neg hb, if_neg hb] at h0; exact h0 c
