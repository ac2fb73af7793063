
/-! ===== the class: putBits ===== -/
theorem lo32 (x : Int64) : x.toInt32.toUInt32.toNat = (x &&& 4294967295).toBitVec.toNat := by
  have e1 : x.toInt32.toUInt32.toNat = (x.toBitVec.signExtend 32).toNat := rfl
  have e2 : (x &&& 4294967295).toBitVec.toNat = (x.toBitVec &&& (4294967295#64)).toNat := by rw [Int64.toBitVec_and]; rfl
  rw [e1, e2, BitVec.signExtend_eq_setWidth_of_le _ (by decide), BitVec.toNat_setWidth, BitVec.toNat_and]
  exact (and_lo x.toBitVec.toNat 32).symm
theorem Fr_stb {H : HP} {a k : Nat} {v : UInt64} {o : Int32} : Fr (T1S a) H (sD (sI H 4178 (a + 2) k o) 4165 (a + 1) k v) := (Fr_sI ⟨by omega, by omega⟩).tr (Fr_sD ⟨by omega, by omega⟩)
theorem stb_D {H : HP} {a k k' : Nat} {v : UInt64} {o : Int32} : hD (sD (sI H 4178 (a + 2) k o) 4165 (a + 1) k v) 4165 (a + 1) k' = if k' = k then v else hD H 4165 (a + 1) k' := by
  rw [hDs]
  by_cases e : k' = k
  · rw [if_pos e, if_pos ⟨rfl, rfl, e⟩]
  · rw [if_neg e, if_neg (fun h => e h.2.2)]; rfl
theorem stb_I {H : HP} {a k k' : Nat} {v : UInt64} {o : Int32} : hI (sD (sI H 4178 (a + 2) k o) 4165 (a + 1) k v) 4178 (a + 2) k' = if k' = k then o else hI H 4178 (a + 2) k' := by
  show hI (sI H 4178 (a + 2) k o) 4178 (a + 2) k' = _
  rw [hIs_i]
theorem stb_G {H : HP} {a k g x i : Nat} {v : UInt64} {o : Int32} (h : g ≠ 4178) : hI (sD (sI H 4178 (a + 2) k o) 4165 (a + 1) k v) g x i = hI H g x i := by
  show hI (sI H 4178 (a + 2) k o) g x i = _
  rw [hIs_g _ _ _ _ _ _ h]
theorem sb47_D {d k : Nat} {q : HP → Prop} {H : HP} {a : Nat} {T : TRK} {b : Int64} {f : Option UInt32} (sh : shTrack H a) (sb : shBits H 1092) (c : CT1 H a T) (hk : k < 30) (hs : tS T = 1) (hq : ∀ H', Fr (T1S a) H H' → CT1 H' a (setTk T k f (bitD b)) → q H') : wb_X8_storeBits_47 (d + 4) q a (Int32.ofNat k) (some 1092) b (hC H 903 a) (Int32.ofNat k) (bI (FP.dIsNaN b.toUInt64)) H := by
  obtain ⟨z1, z2, z3, z4, z5⟩ := sh
  unfold wb_X8_storeBits_47
  refine ⟨a + 2, z4, isA_of z5 (by decide) (by decide), by rw [ln_of z5]; exact vpi_of hk (by decide), ?_⟩
  rw [tg_of z5, iN_cl (by omega), nar_b]
  have w5 : hT (sI H 4178 (a + 2) k (bI (FP.dIsNaN b.toUInt64))) (a + 2) = (4178, 30) := z5
  have w3 : hT (sI H 4178 (a + 2) k (bI (FP.dIsNaN b.toUInt64))) (a + 1) = (4165, 30) := z3
  have wb : shBits (sI H 4178 (a + 2) k (bI (FP.dIsNaN b.toUInt64))) 1092 := sb
  refine ⟨z1, a + 2, z4, isA_of w5 (by decide) (by decide), by rw [ln_of w5]; exact vpi_of hk (by decide), ?_⟩
  rw [tg_of w5, hIs_i, if_pos rfl, hIs_g _ _ _ _ _ _ (by decide), c.1, hs]
  have hqk : ∀ x, cdv x (bI (FP.dIsNaN b.toUInt64)) (bitD b) → q (sD (sI H 4178 (a + 2) k (bI (FP.dIsNaN b.toUInt64))) 4165 (a + 1) k x) := fun x v => hq _ Fr_stb (CT1_setD c hs (stb_G (by decide)) (stb_G (by decide)) (fun j => stb_D) (fun j => stb_I) v)
  cases hn : FP.dIsNaN b.toUInt64 with
  | true =>
    rw [hn] at hqk w3
    refine ⟨fun k => absurd k (by decide), fun _ => ⟨a + 1, z2, isA_of w3 (by decide) (by decide), by rw [ln_of w3]; exact vpi_of hk (by decide), ?_⟩⟩
    rw [tg_of w3]
    exact hqk _ (by rw [bitD_n hn]; rfl)
  | false =>
    rw [hn] at hqk w3 wb
    refine ⟨fun _ => ⟨fun _ => ⟨1092, rfl, wb.1, K_toDouble (d := d) wb hn ⟨a + 1, z2, isA_of w3 (by decide) (by decide), by rw [ln_of w3]; exact vpi_of hk (by decide), ?_⟩⟩, fun k => absurd k (by decide)⟩, fun k => absurd rfl k⟩
    rw [tg_of w3]
    exact hqk _ (by rw [bitD_s hn]; exact ⟨rfl, rfl⟩)
theorem sb47_F {d k : Nat} {q : HP → Prop} {H : HP} {a : Nat} {T : TRK} {b : Int64} {w : Option UInt64} (sh : shTrack H a) (sb : shBits H 1092) (c : CT1 H a T) (hk : k < 30) (hs : tS T = 0) (hq : ∀ H', Fr (T1S a) H H' → CT1 H' a (setTk T k (bitF b) w) → q H') : wb_X8_storeBits_47 (d + 4) q a (Int32.ofNat k) (some 1092) (b &&& 4294967295) (hC H 903 a) (Int32.ofNat k) (bI (FP.fIsNaN b.toInt32.toUInt32)) H := by
  obtain ⟨z1, z2, z3, z4, z5⟩ := sh
  unfold wb_X8_storeBits_47
  refine ⟨a + 2, z4, isA_of z5 (by decide) (by decide), by rw [ln_of z5]; exact vpi_of hk (by decide), ?_⟩
  rw [tg_of z5, iN_cl (by omega), nar_b]
  have w5 : hT (sI H 4178 (a + 2) k (bI (FP.fIsNaN b.toInt32.toUInt32))) (a + 2) = (4178, 30) := z5
  have w3 : hT (sI H 4178 (a + 2) k (bI (FP.fIsNaN b.toInt32.toUInt32))) (a + 1) = (4165, 30) := z3
  have wb : shBits (sI H 4178 (a + 2) k (bI (FP.fIsNaN b.toInt32.toUInt32))) 1092 := sb
  refine ⟨z1, a + 2, z4, isA_of w5 (by decide) (by decide), by rw [ln_of w5]; exact vpi_of hk (by decide), ?_⟩
  rw [tg_of w5, hIs_i, if_pos rfl, hIs_g _ _ _ _ _ _ (by decide), c.1, hs]
  have hqk : ∀ x, cfv x (bI (FP.fIsNaN b.toInt32.toUInt32)) (bitF b) → q (sD (sI H 4178 (a + 2) k (bI (FP.fIsNaN b.toInt32.toUInt32))) 4165 (a + 1) k x) := fun x v => hq _ Fr_stb (CT1_setF c hs (stb_G (by decide)) (stb_G (by decide)) (fun j => stb_D) (fun j => stb_I) v)
  cases hn : FP.fIsNaN b.toInt32.toUInt32 with
  | true =>
    rw [hn] at hqk w3
    refine ⟨fun k => absurd k (by decide), fun _ => ⟨a + 1, z2, isA_of w3 (by decide) (by decide), by rw [ln_of w3]; exact vpi_of hk (by decide), ?_⟩⟩
    rw [tg_of w3]
    exact hqk _ (by rw [bitF_n hn]; rfl)
  | false =>
    rw [hn] at hqk w3 wb
    refine ⟨fun _ => ⟨fun k => absurd rfl k, fun _ => ⟨1092, rfl, wb.1, K_toFloat (d := d) wb (lo32 b) hn ⟨a + 1, z2, isA_of w3 (by decide) (by decide), by rw [ln_of w3]; exact vpi_of hk (by decide), ?_⟩⟩⟩, fun k => absurd rfl k⟩
    rw [tg_of w3]
    exact hqk _ (by rw [bitF_s hn]; exact ⟨rfl, rfl⟩)
theorem K_storeBits {d k : Nat} {q : HP → Prop} {H : HP} {a : Nat} {T : TRK} {b : Int64} (sh : shTrack H a) (sb : shBits H 1092) (c : CT1 H a T) (hk : k < 30) (hs : tS T = 0 ∨ tS T = 1) (hq : ∀ H', Fr (T1S a) H H' → CT1 H' a (setTk T k (bitF b) (bitD b)) → q H') : CV (d + 5) 0 0 mX8_storeBits [rv (some a), .int (Int32.ofNat k), .long b, rv (some 1092)] H q := by
  refine C_X8_storeBits ?_
  unfold wb_X8_storeBits_0
  rw [c.1]
  rcases hs with hs | hs
  · refine ⟨sh.1, fun k => absurd hs k, fun _ => ⟨fun k => absurd hs k, fun _ => ⟨1092, rfl, sb.1, K_isNoFloat (d := d + 1) (lo32 b) (sb47_F (d := d) sh sb c hk hs hq)⟩⟩⟩
  · have hn : ¬ tS T = 0 := by rw [hs]; decide
    refine ⟨sh.1, fun _ => ⟨fun _ => ⟨1092, rfl, sb.1, K_isNoDouble (d := d + 1) (sb47_D (d := d) sh sb c hk hs hq)⟩, fun k => absurd k hn⟩, fun k => absurd k hn⟩
theorem K_cputBits {d : Nat} {q : HP → Int32 → Prop} {H : HP} {T : TRs} {t i : Int32} {b : Int64} (p : shP H) (sb : shBits H 1092) (c : CTr H T) (ok : okTR T) (hq : ∀ H', Fr TcS H H' → CTr H' (putIT T t i (bitF b) (bitD b)) → q H' (putIA T t i)) : CI (d + 6) 0 0 mX11_putBits [rv (some 0), .int t, .int i, .long b] H q := by
  obtain ⟨s1, s2, s3, s4, s5, s6, s7, s8, s9, s10, s11, s12, s13, s14, -⟩ := id p
  refine C_X11_putBits ?_
  unfold wb_X11_putBits_0
  have h0 := hq H Fr.rf
  unfold putIT putIA at h0 hq
  refine ⟨s1, K_crefuse (d := d + 3) p c ok (fun a j ha hj hj30 et ei na nj hs hb => ⟨fun _ => ⟨s1, 1090, s8, isA_of s14 (by decide) (by decide), ?_, ?_⟩, fun k => absurd rfl k⟩) (fun hb => ⟨fun k => absurd k hb, fun _ => ?_⟩)⟩
  · rw [et, ln_of s14]; exact vpi_of ha (by decide)
  · obtain ⟨h1, sh⟩ := c.1 a ha
    have eR : hR H (tg H 1090) 1090 t.toNatClampNeg = some (1097 + 3 * a) := by rw [tg_of s14, et, iN_cl (by omega)]; exact h1
    rw [eR, s10, ei]
    refine ⟨_, rfl, sh.1, K_storeBits (d := d) sh sb (c.2 a ha) hj30 hs fun H' F c1 => ?_⟩
    obtain ⟨F', c'⟩ := CTr_put c ha F c1
    have := hq H' F'
    rw [if_pos hb, if_pos hb, na, nj] at this
    exact this c'
  · rw [if_neg hb, if_neg hb] at h0; exact h0 c
