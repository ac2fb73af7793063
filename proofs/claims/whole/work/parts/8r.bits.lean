
/-! ===== results as bits ===== -/
theorem fr_shBits {S : Nat → Nat → Prop} {H H' : HP} {b : Nat} (h : Fr S H H') (h1 : ¬ S 4101 (b + 1)) (h2 : ¬ S 301 b) (s : shBits H b) : shBits H' b := by
  obtain ⟨s1, s2, s3, s4, s5⟩ := s
  have hd := h.2.2.2.2.2.2.2.1
  refine ⟨by rw [fr_tg h]; exact s1, by rw [h.2.1]; exact s2, by rw [h.1]; exact s3, fun i hi => ?_, ?_⟩
  · rw [hd _ _ h1]; exact s4 i hi
  · rw [hd _ _ h2]; exact s5
def asD (f : FR) : UInt64 := FP.ddiv (FP.l2d f.1) (FP.l2d f.2)
theorem asD_nn {f : FR} (h : 0 < f.2.toInt) : FP.Core.val64 (asD f) ≠ .nan := by
  have hb : f.2 ≠ 0 := fun k => by rw [k] at h; exact absurd h (by decide)
  exact (FP.Core.notNaN_iff _).mp (FP.Core.ddiv_out (FP.Core.DFin.notNaN (FP.Core.l2d_fin f.1)) (FP.Core.l2d_fin f.2) (fun k => FP.Core.l2d_ne_zero hb ((FP.Core.zero_bits2 _).mp k)))
theorem d2f_nn {a : UInt64} (h : FP.Core.val64 a ≠ .nan) : FP.Core.val32 (FP.d2f a) ≠ .nan := by
  have hb := (FP.Core.notNaN_iff a).mpr h
  unfold FP.d2f
  rw [hb]
  show FP.Core.val32 (FP.Core.d2f a) ≠ _
  rw [FP.Core.val32_d2f]
  exact fun k => h (FP.Core.round_nan.mp k)
theorem K_asDouble {d : Nat} {q : HP → UInt64 → Prop} {H : HP} {a : Nat} (ht : tg H a = 4) (hf : 0 < (getF H a).2.toInt) (hq : q H (asD (getF H a))) : CD (d + 1) 0 0 mX3_asDouble [rv (some a)] H q := by
  refine C_X3_asDouble ?_
  unfold wb_X3_asDouble_0
  refine ⟨ht, fun r hr => ?_⟩
  have := ali64 (x := asD (getF H a)) hr (asD_nn hf)
  rw [this]; exact hq
theorem K_dNaN {d : Nat} {q : HP → Bool → Prop} {H : HP} {x : UInt64} (h1 : FP.Core.val64 x = .nan → q H true) (h0 : FP.Core.val64 x ≠ .nan → q H false) : CZ (d + 1) 0 0 mJxe99ae_isNaN_b9ae7 [.double x] H q := by
  refine C_Jxe99ae_isNaN_b9ae7 ?_
  unfold wb_Jxe99ae_isNaN_b9ae7_0
  by_cases hn : FP.Core.val64 x = .nan
  · have e : FP.dcmp x x = none := (FP.Core.dcmp_none x x).mpr (Or.inl hn)
    rw [e]
    exact ⟨fun k => absurd k (by decide), fun _ => h1 hn⟩
  · have e : FP.dcmp x x = some .eq := FP.Core.dcmp_self hn
    rw [e]
    exact ⟨fun _ => h0 hn, fun k => absurd rfl k⟩
theorem K_fNaN {d : Nat} {q : HP → Bool → Prop} {H : HP} {x : UInt32} (h1 : FP.Core.val32 x = .nan → q H true) (h0 : FP.Core.val32 x ≠ .nan → q H false) : CZ (d + 1) 0 0 mJxf58ca_isNaN_12338 [.float x] H q := by
  refine C_Jxf58ca_isNaN_12338 ?_
  unfold wb_Jxf58ca_isNaN_12338_0
  by_cases hn : FP.Core.val32 x = .nan
  · have e : FP.fcmp x x = none := (FP.Core.fcmp_none x x).mpr (Or.inl hn)
    rw [e]
    exact ⟨fun k => absurd k (by decide), fun _ => h1 hn⟩
  · have e : FP.fcmp x x = some .eq := FP.Core.fcmp_self hn
    rw [e]
    exact ⟨fun _ => h0 hn, fun k => absurd rfl k⟩
/-- the bits that are told of a double, of a float -/
def dB (x : UInt64) : Int64 := if FP.Core.val64 x = .nan then 9221120237041090560 else x.toInt64
def fB (x : UInt32) : Int64 := if FP.Core.val32 x = .nan then 2143289344 else x.toInt32.toInt64
theorem dB_nn {x : UInt64} (h : FP.Core.val64 x ≠ .nan) : dB x = x.toInt64 := if_neg h
theorem fB_nn {x : UInt32} (h : FP.Core.val32 x ≠ .nan) : fB x = x.toInt32.toInt64 := if_neg h
theorem K_dtlb {d : Nat} {q : HP → Int64 → Prop} {H : HP} {x : UInt64} (hq : q H (dB x)) : CJ (d + 2) 0 0 mJxe99ae_doubleToLongBits_ccdee [.double x] H q := by
  refine C_Jxe99ae_doubleToLongBits_ccdee ?_
  unfold wb_Jxe99ae_doubleToLongBits_ccdee_0
  refine K_dNaN (d := d) (fun hn => ⟨fun _ => ?_, fun k => (by cases k)⟩) (fun hn => ⟨fun k => (by cases k), fun _ => ?_⟩)
  · unfold dB at hq; rw [if_pos hn] at hq; exact hq
  · rw [dB_nn hn] at hq; exact hq
theorem K_ftib {d : Nat} {q : HP → Int32 → Prop} {H : HP} {x : UInt32} (hq : ∀ r : Int32, r.toInt64 = fB x → q H r) : CI (d + 2) 0 0 mJxf58ca_floatToIntBits_5c35a [.float x] H q := by
  refine C_Jxf58ca_floatToIntBits_5c35a ?_
  unfold wb_Jxf58ca_floatToIntBits_5c35a_0
  refine K_fNaN (d := d) (fun hn => ⟨fun _ => ?_, fun k => (by cases k)⟩) (fun hn => ⟨fun k => (by cases k), fun _ => ?_⟩)
  · refine hq _ ?_
    unfold fB
    rw [if_pos hn]; rfl
  · exact hq _ (fB_nn hn).symm
def bitsA (o : Option FR) (w : Int32) : Int64 := if 0 ≤ w.toInt ∧ w.toInt ≤ 1 then (match o with
  | none => -9223372036854775808
  | some f => if w = 1 then dB (asD f) else fB (FP.d2f (asD f))) else -9223372036854775808
theorem toldV_ok {v : JV} {u : UV} {f : FR} (hv : okV v) (hu : okU u) (h : toldV v u = some f) : okF f := by
  unfold toldV at h
  obtain ⟨-, -, -, -, p1, p2, p3⟩ := hu
  by_cases h5 : eq5 v.1 u.2.1 = true
  · rw [if_pos h5] at h
    cases ha : addF v.2.1 v.2.2 (-u.2.2.2.1) u.2.2.2.2 with
    | none => rw [ha] at h; cases h
    | some g =>
      rw [ha] at h
      simp only at h
      exact divF_ok (addF_ok hv.2.1 p3.1 ha) p1 h
  · rw [if_neg h5] at h; cases h
theorem toldG_ok {pr : Bool} {P : PG} {n : Nat} {U : Nat → UV} {x u : Int32} {f : FR} (ok : okPG P) (hU : ∀ i, okU (U i)) (h : toldG pr P n U x u = some f) : okF f := by
  unfold toldG at h
  by_cases hc : pr = true ∧ inN n u
  · rw [if_pos hc] at h
    unfold toldF at h
    cases hs : sideP P x with
    | none => rw [hs] at h; cases h
    | some i =>
      rw [hs] at h
      exact toldV_ok (okV_at ok hs) (hU _) h
  · rw [if_neg hc] at h; cases h
theorem K_cbits {d n : Nat} {q : HP → Int64 → Prop} {H : HP} {pr : Bool} {P : PG} {U : Nat → UV} {x u w : Int32} (s : shP H) (sb : shBits H 1092) (c : CPr H pr P) (ok : okPG P) (hu : CU H 3 n U) (hok : ∀ i, okU (U i)) (hq : ∀ H', Fr AnS H H' → q H' (bitsA (toldG pr P n U x u) w)) : CJ (d + 5) 0 0 mX11_bits [rv (some 0), .int x, .int u, .int w] H q := by
  obtain ⟨s1, s2, s3, -, -, -, -, -, -, s9, s10, -, -, -, -, -, s11, s12⟩ := id s
  refine C_X11_bits ?_
  unfold wb_X11_bits_0
  have e1 : (1 : Int32).toInt = 1 := rfl
  rw [i32_lt, i32_lt, i32_0, e1]
  refine ⟨fun h => ?_, fun h => ⟨fun h2 => ?_, fun h2 => ⟨s1, K_answerIn (d := d) s c ok hu hok (fun f hf H' F' g' => ⟨fun _ => ⟨by rw [fr_tg F']; exact s1, 1094, by rw [F'.2.1]; exact s10, by rw [fr_tg F']; exact s11, ?_⟩, fun k => (by cases k)⟩) (fun hf H' F' => ⟨fun k => (by cases k), fun _ => ?_⟩)⟩⟩⟩
  · have := hq H Fr.rf
    unfold bitsA at this
    rw [if_neg (by omega)] at this; exact this
  · have := hq H Fr.rf
    unfold bitsA at this
    rw [if_neg (by omega)] at this; exact this
  · have hr := hq H' F'
    have hp := (toldG_ok ok hok hf).1
    unfold bitsA at hr
    rw [if_pos (by omega), hf] at hr
    simp only at hr
    have sb' : shBits H' 1092 := fr_shBits F' (fun k => by omega) (fun k => by omega) sb
    have e1212 : hC H' 1212 0 = some 1092 := by rw [F'.2.1]; exact s9
    rw [F'.2.1, s10]
    refine K_asDouble (d := d + 3) (by rw [fr_tg F']; exact s11) (by rw [g']; exact hp) ?_
    rw [g']
    have hn := asD_nn hp
    have hn2 := d2f_nn hn
    refine ⟨fun h3 => ⟨by rw [fr_tg F']; exact s1, fun r hr2 => ⟨1092, e1212, sb'.1, ?_⟩⟩, fun h3 => ⟨by rw [fr_tg F']; exact s1, 1092, e1212, sb'.1, ?_⟩⟩
    · rw [if_neg h3, fB_nn hn2] at hr
      have er := ali32 hr2 hn2
      subst er
      rw [e1212]
      exact K_ofFloat (d := d) sb' hn2 hr
    · rw [if_pos h3, dB_nn hn] at hr
      rw [e1212]
      exact K_ofDouble (d := d) sb' hn hr
  · have hr := hq H' F'
    unfold bitsA at hr
    rw [if_pos (by omega), hf] at hr; exact hr
