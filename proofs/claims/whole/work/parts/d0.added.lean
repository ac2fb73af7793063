
/-! ===== tracks: added ===== -/
def plusF (s w : Option UInt32) : Option UInt32 := match s, w with
  | some a, some b => if FP.Core.val32 (FP.fadd a b) = .nan then none else some (FP.fadd a b)
  | some _, none => none
  | none, _ => none
def sumF (g : Nat → Option UInt32) : Nat → Nat → Option UInt32 → Option UInt32
  | 0, _, s => s
  | r + 1, i, s => sumF g r (i + 1) (plusF s (g i))
theorem sumF_s (g : Nat → Option UInt32) (r i : Nat) (s : Option UInt32) : sumF g (r + 1) i s = sumF g r (i + 1) (plusF s (g i)) := rfl
theorem sumF_none (g : Nat → Option UInt32) : ∀ r i : Nat, sumF g r i none = none
  | 0, _ => rfl
  | r + 1, i => by rw [sumF_s]; exact sumF_none g r (i + 1)
theorem plusF_n {a b : UInt32} (h : FP.Core.val32 (FP.fadd a b) = .nan) : plusF (some a) (some b) = none := if_pos h
theorem plusF_y {a b : UInt32} (h : FP.Core.val32 (FP.fadd a b) ≠ .nan) : plusF (some a) (some b) = some (FP.fadd a b) := if_neg h
theorem plusF_nn {s w : Option UInt32} {v : UInt32} (h : plusF s w = some v) : nnF v := by
  cases s with
  | none => cases h
  | some a => cases w with
    | none => cases h
    | some b =>
      by_cases k : FP.Core.val32 (FP.fadd a b) = .nan
      · rw [plusF_n k] at h; cases h
      · rw [plusF_y k] at h
        injection h with h
        rw [← h]; exact k
theorem sumF_nn (g : Nat → Option UInt32) : ∀ (r i : Nat) (s : Option UInt32), (∀ v, s = some v → nnF v) → ∀ v, sumF g r i s = some v → nnF v
  | 0, _, s, h, v, e => h v e
  | r + 1, i, s, h, v, e => sumF_nn g r (i + 1) (plusF s (g i)) (fun z hz => plusF_nn hz) v (by rw [sumF_s] at e; exact e)
theorem csumF_loop {d : Nat} {q : HP → Int64 → Prop} {H : HP} {a : Nat} {T : TRK} (sh : shTrack H a) (sb : shBits H 1092) (c : CT1 H a T) (ok : okTk T) (hs : tS T = 0) : ∀ (r i : Nat) (sv : UInt32), r + i = tN T → nnF sv → q H (fbO (sumF (tF T) r i (some sv))) → L_X8_sumBits_5 (d + 5) q a (some 1092) (FP.f2d sv) (Int32.ofNat i) H := by
  have e30 : (30 : Int32) = Int32.ofNat 30 := rfl
  have h30 := ok.2.1
  obtain ⟨z1, z2, z3, z4, z5⟩ := id sh
  obtain ⟨c1, c2, c3, c4⟩ := id c
  intro r
  induction r with
  | zero =>
    intro i sv e hn hq
    refine T_X8_sumBits_5 ?_
    unfold wb_X8_sumBits_5
    rw [c2, iN_le (by omega) (by omega)]
    refine ⟨z1, fun _ => K_bitsF (d := d) (w := some sv) z1 sb (by rw [c.1]; exact hs) ⟨rfl, rfl⟩ (fun v e => ?_) hq, fun k => by omega⟩
    injection e with e
    rw [← e]; exact hn
  | succ r ih =>
    intro i sv e hn hq
    refine T_X8_sumBits_5 ?_
    unfold wb_X8_sumBits_5
    rw [c2, iN_le (by omega) (by omega), e30, iN_le (by omega) (by omega)]
    refine ⟨z1, fun k => by omega, fun _ => ⟨fun k => by omega, fun _ => ⟨a + 2, z4, isA_of z5 (by decide) (by decide), by rw [ln_of z5]; exact vpi_of (by omega) (by decide), ?_⟩⟩⟩
    rw [tg_of z5, iN_cl (by omega), iN_inc (by omega)]
    rw [sumF_s] at hq
    have hv := c3 hs i (by omega)
    have odd : q H (fbO none) → CJ (d + 5) 0 0 mX8_bitsOf [rv (some a), .double FP.dconst0, .int 1, rv (some 1092)] H (fun H r => q H r) := fun h => K_bitsF (d := d) (w := none) z1 sb (by rw [c.1]; exact hs) rfl (fun v e => by cases e) h
    cases hf : tF T i with
    | none =>
      rw [hf] at hv hq
      have hv : hI H 4178 (a + 2) i = 1 := hv
      rw [hv]
      refine ⟨fun _ => odd ?_, fun k => absurd k (by decide)⟩
      have hq : q H (fbO (sumF (tF T) r (i + 1) none)) := hq
      rw [sumF_none] at hq; exact hq
    | some v =>
      rw [hf] at hv hq
      obtain ⟨hv1, hv2⟩ : hI H 4178 (a + 2) i = 0 ∧ hD H 4165 (a + 1) i = (FP.f2d v) := hv
      have vn : nnF v := ok.2.2.1 i v hf
      rw [hv1]
      have next : nnF (FP.fadd sv v) → L_X8_sumBits_5 (d + 5) q a (some 1092) (FP.f2d (FP.fadd sv v)) (Int32.ofNat (i + 1)) H := fun h => by
        refine ih (i + 1) _ (by omega) h ?_
        rw [plusF_y h] at hq; exact hq
      have stop : FP.Core.val32 (FP.fadd sv v) = .nan → q H (fbO none) := fun h => by
        rw [plusF_n h, sumF_none] at hq; exact hq
      have in1 : vp_in (Int32.ofNat i) (ln H (a + 1)) := by rw [ln_of z3]; exact vpi_of (by omega) (by decide)
      refine ⟨fun k => absurd rfl k, fun _ => ⟨1092, rfl, sb.1, K_isEndless (d := d + 4) sb (fun b hb => ⟨fun k => (by cases k), fun _ => ⟨z1, a + 1, z2, isA_of z3 (by decide) (by decide), in1, ?_⟩⟩) (fun hb => ⟨fun _ => ⟨z1, ?_⟩, fun k => (by cases k)⟩)⟩⟩
      · have hx : FP.Core.val64 (FP.dneg (FP.f2d sv)) = .inf (!b) := by rw [FP.val64_dneg, hb]; rfl
        rw [tg_of z3, hv2, c1, hs, deq_inf hx, f2d_inf vn]
        have hb' := (f2d_inf hn).mp hb
        refine ⟨fun hne => ⟨fun k => absurd rfl k, fun _ r33 h33 => ⟨in1, fun r35 h35 r36 h36 r37 h37 => ?_⟩⟩, fun he => odd (stop (fadd_n.mpr (Or.inr (Or.inr ⟨b, hb', he⟩))))⟩
        have na : nnF (FP.fadd sv v) := fun k => by
          rcases fadd_n.mp k with k | k | ⟨s, k1, k2⟩
          · exact hn k
          · exact vn k
          · rw [hb'] at k1
            injection k1 with k1
            subst k1
            exact hne k2
        rw [d2f_f2d' hn] at h33
        rw [d2f_f2d' vn] at h35
        have e1 := ali32 h33 hn
        have e2 := ali32 h35 vn
        subst e1
        subst e2
        have e3 := ali32 h36 na
        subst e3
        have e4 := ali64 h37 (f2d_nn na)
        rw [e4]; exact next na
      · rw [c1, hs]
        refine ⟨fun k => absurd rfl k, fun _ r20 h20 => ⟨a + 1, z2, isA_of z3 (by decide) (by decide), in1, ?_⟩⟩
        rw [tg_of z3, hv2]
        intro r24 h24 r25 h25 r26 h26
        have na : nnF (FP.fadd sv v) := fun k => by
          rcases fadd_n.mp k with k | k | ⟨s, k1, k2⟩
          · exact hn k
          · exact vn k
          · exact hb s ((f2d_inf hn).mpr k1)
        rw [d2f_f2d' hn] at h20
        rw [d2f_f2d' vn] at h24
        have e1 := ali32 h20 hn
        have e2 := ali32 h24 vn
        subst e1
        subst e2
        have e3 := ali32 h25 na
        subst e3
        have e4 := ali64 h26 (f2d_nn na)
        rw [e4]; exact next na
theorem plusF_m {x y r : UInt32} {s w : Option UInt32} (hx : mfv x s) (hy : mfv y w) (h : alike32 r (FP.fadd x y) = true) : mfv r (plusF s w) := by
  cases s with
  | none => exact ali32n h (fadd_n.mpr (Or.inl hx))
  | some a => cases w with
    | none => exact ali32n h (fadd_n.mpr (Or.inr (Or.inl hy)))
    | some b =>
      have hx : x = a := hx
      have hy : y = b := hy
      subst hx
      subst hy
      by_cases k : FP.Core.val32 (FP.fadd x y) = .nan
      · rw [plusF_n k]; exact ali32n h k
      · rw [plusF_y k]; exact ali32 h k
theorem msumF_loop {d m t : Nat} {q : HP → Int64 → Prop} {H : HP} {T : TRs} (sm : shM H m) (c : MTr H m T) (ok : okTR T) (ht : t < 4) (hs : tS (T t) = 0) : ∀ (r i : Nat) (x2 : UInt32) (x3 : UInt64) (s : Option UInt32), r + i = tN (T t) → mfv x2 s → (∀ v, s = some v → nnF v) → q H (fbO (sumF (tF (T t)) r i s)) → L_X12_added__30 (d + 2) q m (Int32.ofNat t) x2 x3 (Int32.ofNat (30 * t + i)) H := by
  have h30 := (ok t).2.1
  obtain ⟨c1, c2, c3, c4⟩ := c t ht
  obtain ⟨y1, y2, y3, y4⟩ := mA_size sm
  obtain ⟨x1, x2, x3, x4⟩ := mA_sort sm
  obtain ⟨f1, f2, f3, f4⟩ := mA_floats sm
  obtain ⟨g1, g2, g3, g4⟩ := mA_doubles sm
  intro r
  induction r with
  | zero =>
    intro i v2 v3 s e hx hn hq
    refine T_X12_added__30 ?_
    unfold wb_X12_added__30
    refine ⟨sm.1, m + 32, y1, y2, by rw [y4]; exact vpi_of ht (by decide), ?_⟩
    rw [y3, iN_cl (by omega), c2, ix30 (by omega), iN_le (by omega) (by omega)]
    refine ⟨fun _ => ⟨m + 31, x1, x2, by rw [x4]; exact vpi_of ht (by decide), ?_⟩, fun k => by omega⟩
    rw [x3, c1, hs]
    refine ⟨fun k => absurd rfl k, fun _ => K_ftib (d := d) fun r hr => ?_⟩
    rw [hr, fB_of hx hn]; exact hq
  | succ r ih =>
    intro i v2 v3 s e hx hn hq
    refine T_X12_added__30 ?_
    unfold wb_X12_added__30
    refine ⟨sm.1, m + 32, y1, y2, by rw [y4]; exact vpi_of ht (by decide), ?_⟩
    rw [y3, iN_cl (by omega), c2, ix30 (by omega), iN_le (by omega) (by omega)]
    refine ⟨fun k => by omega, fun _ => ⟨m + 33, f1, f2, by rw [f4]; exact vpi_of (by omega) (by decide), ?_⟩⟩
    rw [f3, iN_cl (by omega), iN_inc (by omega)]
    refine fun r15 h15 => ⟨m + 34, g1, g2, by rw [g4]; exact vpi_of (by omega) (by decide), ?_⟩
    rw [g3]
    exact fun r19 h19 => ih (i + 1) r15 r19 (plusF s (tF (T t) i)) (by omega) (plusF_m hx (c3 hs i (by omega)) h15) (fun v hv => plusF_nn hv) (by rw [sumF_s] at hq; exact hq)
def plusD (s w : Option UInt64) : Option UInt64 := match s, w with
  | some a, some b => if FP.Core.val64 (FP.dadd a b) = .nan then none else some (FP.dadd a b)
  | some _, none => none
  | none, _ => none
def sumD (g : Nat → Option UInt64) : Nat → Nat → Option UInt64 → Option UInt64
  | 0, _, s => s
  | r + 1, i, s => sumD g r (i + 1) (plusD s (g i))
theorem sumD_s (g : Nat → Option UInt64) (r i : Nat) (s : Option UInt64) : sumD g (r + 1) i s = sumD g r (i + 1) (plusD s (g i)) := rfl
theorem sumD_none (g : Nat → Option UInt64) : ∀ r i : Nat, sumD g r i none = none
  | 0, _ => rfl
  | r + 1, i => by rw [sumD_s]; exact sumD_none g r (i + 1)
theorem plusD_n {a b : UInt64} (h : FP.Core.val64 (FP.dadd a b) = .nan) : plusD (some a) (some b) = none := if_pos h
theorem plusD_y {a b : UInt64} (h : FP.Core.val64 (FP.dadd a b) ≠ .nan) : plusD (some a) (some b) = some (FP.dadd a b) := if_neg h
theorem plusD_nn {s w : Option UInt64} {v : UInt64} (h : plusD s w = some v) : nnD v := by
  cases s with
  | none => cases h
  | some a => cases w with
    | none => cases h
    | some b =>
      by_cases k : FP.Core.val64 (FP.dadd a b) = .nan
      · rw [plusD_n k] at h; cases h
      · rw [plusD_y k] at h
        injection h with h
        rw [← h]; exact k
theorem sumD_nn (g : Nat → Option UInt64) : ∀ (r i : Nat) (s : Option UInt64), (∀ v, s = some v → nnD v) → ∀ v, sumD g r i s = some v → nnD v
  | 0, _, s, h, v, e => h v e
  | r + 1, i, s, h, v, e => sumD_nn g r (i + 1) (plusD s (g i)) (fun z hz => plusD_nn hz) v (by rw [sumD_s] at e; exact e)
theorem csumD_loop {d : Nat} {q : HP → Int64 → Prop} {H : HP} {a : Nat} {T : TRK} (sh : shTrack H a) (sb : shBits H 1092) (c : CT1 H a T) (ok : okTk T) (hs : tS T = 1) : ∀ (r i : Nat) (sv : UInt64), r + i = tN T → nnD sv → q H (dbO (sumD (tD T) r i (some sv))) → L_X8_sumBits_5 (d + 5) q a (some 1092) sv (Int32.ofNat i) H := by
  have e30 : (30 : Int32) = Int32.ofNat 30 := rfl
  have h30 := ok.2.1
  obtain ⟨z1, z2, z3, z4, z5⟩ := id sh
  obtain ⟨c1, c2, c3, c4⟩ := id c
  intro r
  induction r with
  | zero =>
    intro i sv e hn hq
    refine T_X8_sumBits_5 ?_
    unfold wb_X8_sumBits_5
    rw [c2, iN_le (by omega) (by omega)]
    refine ⟨z1, fun _ => K_bitsD (d := d) (w := some sv) z1 sb (by rw [c.1, hs]; decide) ⟨rfl, rfl⟩ (fun v e => ?_) hq, fun k => by omega⟩
    injection e with e
    rw [← e]; exact hn
  | succ r ih =>
    intro i sv e hn hq
    refine T_X8_sumBits_5 ?_
    unfold wb_X8_sumBits_5
    rw [c2, iN_le (by omega) (by omega), e30, iN_le (by omega) (by omega)]
    refine ⟨z1, fun k => by omega, fun _ => ⟨fun k => by omega, fun _ => ⟨a + 2, z4, isA_of z5 (by decide) (by decide), by rw [ln_of z5]; exact vpi_of (by omega) (by decide), ?_⟩⟩⟩
    rw [tg_of z5, iN_cl (by omega), iN_inc (by omega)]
    rw [sumD_s] at hq
    have hv := c4 hs i (by omega)
    have odd : q H (dbO none) → CJ (d + 5) 0 0 mX8_bitsOf [rv (some a), .double FP.dconst0, .int 1, rv (some 1092)] H (fun H r => q H r) := fun h => K_bitsD (d := d) (w := none) z1 sb (by rw [c.1, hs]; decide) rfl (fun v e => by cases e) h
    cases hf : tD T i with
    | none =>
      rw [hf] at hv hq
      have hv : hI H 4178 (a + 2) i = 1 := hv
      rw [hv]
      refine ⟨fun _ => odd ?_, fun k => absurd k (by decide)⟩
      have hq : q H (dbO (sumD (tD T) r (i + 1) none)) := hq
      rw [sumD_none] at hq; exact hq
    | some v =>
      rw [hf] at hv hq
      obtain ⟨hv1, hv2⟩ : hI H 4178 (a + 2) i = 0 ∧ hD H 4165 (a + 1) i = v := hv
      have vn : nnD v := ok.2.2.2 i v hf
      rw [hv1]
      have next : nnD (FP.dadd sv v) → L_X8_sumBits_5 (d + 5) q a (some 1092) (FP.dadd sv v) (Int32.ofNat (i + 1)) H := fun h => by
        refine ih (i + 1) _ (by omega) h ?_
        rw [plusD_y h] at hq; exact hq
      have stop : FP.Core.val64 (FP.dadd sv v) = .nan → q H (dbO none) := fun h => by
        rw [plusD_n h, sumD_none] at hq; exact hq
      have in1 : vp_in (Int32.ofNat i) (ln H (a + 1)) := by rw [ln_of z3]; exact vpi_of (by omega) (by decide)
      refine ⟨fun k => absurd rfl k, fun _ => ⟨1092, rfl, sb.1, K_isEndless (d := d + 4) sb (fun b hb => ⟨fun k => (by cases k), fun _ => ⟨z1, a + 1, z2, isA_of z3 (by decide) (by decide), in1, ?_⟩⟩) (fun hb => ⟨fun _ => ⟨z1, ?_⟩, fun k => (by cases k)⟩)⟩⟩
      · have hx : FP.Core.val64 (FP.dneg sv) = .inf (!b) := by rw [FP.val64_dneg, hb]; rfl
        rw [tg_of z3, hv2, c1, hs, deq_inf hx]
        refine ⟨fun hne => ⟨fun _ => ⟨in1, fun r32 h32 => ?_⟩, fun k => absurd k (by decide)⟩, fun he => odd (stop (dadd_n.mpr (Or.inr (Or.inr ⟨b, hb, he⟩))))⟩
        have na : nnD (FP.dadd sv v) := fun k => by
          rcases dadd_n.mp k with k | k | ⟨s, k1, k2⟩
          · exact hn k
          · exact vn k
          · rw [hb] at k1
            injection k1 with k1
            subst k1
            exact hne k2
        have e3 := ali64 h32 na
        rw [e3]; exact next na
      · rw [c1, hs]
        refine ⟨fun _ => ⟨a + 1, z2, isA_of z3 (by decide) (by decide), in1, ?_⟩, fun k => absurd k (by decide)⟩
        rw [tg_of z3, hv2]
        intro r19 h19
        have na : nnD (FP.dadd sv v) := fun k => by
          rcases dadd_n.mp k with k | k | ⟨s, k1, k2⟩
          · exact hn k
          · exact vn k
          · exact hb s k1
        have e3 := ali64 h19 na
        rw [e3]; exact next na
theorem plusD_m {x y r : UInt64} {s w : Option UInt64} (hx : mdv x s) (hy : mdv y w) (h : alike64 r (FP.dadd x y) = true) : mdv r (plusD s w) := by
  cases s with
  | none => exact ali64n h (dadd_n.mpr (Or.inl hx))
  | some a => cases w with
    | none => exact ali64n h (dadd_n.mpr (Or.inr (Or.inl hy)))
    | some b =>
      have hx : x = a := hx
      have hy : y = b := hy
      subst hx
      subst hy
      by_cases k : FP.Core.val64 (FP.dadd x y) = .nan
      · rw [plusD_n k]; exact ali64n h k
      · rw [plusD_y k]; exact ali64 h k
theorem msumD_loop {d m t : Nat} {q : HP → Int64 → Prop} {H : HP} {T : TRs} (sm : shM H m) (c : MTr H m T) (ok : okTR T) (ht : t < 4) (hs : tS (T t) = 1) : ∀ (r i : Nat) (x2 : UInt32) (x3 : UInt64) (s : Option UInt64), r + i = tN (T t) → mdv x3 s → (∀ v, s = some v → nnD v) → q H (dbO (sumD (tD (T t)) r i s)) → L_X12_added__30 (d + 2) q m (Int32.ofNat t) x2 x3 (Int32.ofNat (30 * t + i)) H := by
  have h30 := (ok t).2.1
  obtain ⟨c1, c2, c3, c4⟩ := c t ht
  obtain ⟨y1, y2, y3, y4⟩ := mA_size sm
  obtain ⟨x1, x2, x3, x4⟩ := mA_sort sm
  obtain ⟨f1, f2, f3, f4⟩ := mA_floats sm
  obtain ⟨g1, g2, g3, g4⟩ := mA_doubles sm
  intro r
  induction r with
  | zero =>
    intro i v2 v3 s e hx hn hq
    refine T_X12_added__30 ?_
    unfold wb_X12_added__30
    refine ⟨sm.1, m + 32, y1, y2, by rw [y4]; exact vpi_of ht (by decide), ?_⟩
    rw [y3, iN_cl (by omega), c2, ix30 (by omega), iN_le (by omega) (by omega)]
    refine ⟨fun _ => ⟨m + 31, x1, x2, by rw [x4]; exact vpi_of ht (by decide), ?_⟩, fun k => by omega⟩
    rw [x3, c1, hs]
    refine ⟨fun _ => K_dtlb (d := d) ?_, fun k => absurd k (by decide)⟩
    rw [dB_of hx hn]; exact hq
  | succ r ih =>
    intro i v2 v3 s e hx hn hq
    refine T_X12_added__30 ?_
    unfold wb_X12_added__30
    refine ⟨sm.1, m + 32, y1, y2, by rw [y4]; exact vpi_of ht (by decide), ?_⟩
    rw [y3, iN_cl (by omega), c2, ix30 (by omega), iN_le (by omega) (by omega)]
    refine ⟨fun k => by omega, fun _ => ⟨m + 33, f1, f2, by rw [f4]; exact vpi_of (by omega) (by decide), ?_⟩⟩
    rw [f3, iN_cl (by omega), iN_inc (by omega)]
    refine fun r15 h15 => ⟨m + 34, g1, g2, by rw [g4]; exact vpi_of (by omega) (by decide), ?_⟩
    rw [g3]
    exact fun r19 h19 => ih (i + 1) r15 r19 (plusD s (tD (T t) i)) (by omega) (plusD_m hx (c4 hs i (by omega)) h19) (fun v hv => plusD_nn hv) (by rw [sumD_s] at hq; exact hq)
def addedA (T : TRs) (t : Int32) : Int64 := if inN 4 t then (if tS (T t.toInt.toNat) = -1 then -9223372036854775808 else if tS (T t.toInt.toNat) = 0 then fbO (sumF (tF (T t.toInt.toNat)) (tN (T t.toInt.toNat)) 0 (some FP.fconst0)) else dbO (sumD (tD (T t.toInt.toNat)) (tN (T t.toInt.toNat)) 0 (some FP.dconst0))) else -9223372036854775808
theorem K_cadded {d : Nat} {q : HP → Int64 → Prop} {H : HP} {T : TRs} {t : Int32} (p : shP H) (sb : shBits H 1092) (c : CTr H T) (ok : okTR T) (hq : q H (addedA T t)) : CJ (d + 7) 0 0 mX11_added [rv (some 0), .int t] H q := by
  obtain ⟨s1, s2, s3, s4, s5, s6, s7, s8, s9, s10, -⟩ := id p
  refine C_X11_added ?_
  unfold wb_X11_added_0
  unfold addedA at hq
  refine ⟨s1, K_trackAt (d := d + 5) p c.1 (fun a ha e => ⟨fun k => (by cases k), fun b hb => ?_⟩) (fun h => ⟨fun _ => ?_, fun b hb => (by cases hb)⟩)⟩
  · injection hb with hb
    subst hb
    obtain ⟨n1, n2⟩ := inN_of2 (n := 4) (by decide) ha e
    have sh := (c.1 a ha).2
    rw [if_pos n1, n2] at hq
    refine ⟨sh.1, K_isNothing (d := d + 5) sh.1 (c.2 a ha) (ok a) (fun h => ⟨fun k => (by cases k), fun _ => ?_⟩) (fun h h01 => ⟨fun _ => ⟨s1, sh.1, ?_⟩, fun k => (by cases k)⟩)⟩
    · rw [if_pos h] at hq; exact hq
    · rw [if_neg h] at hq
      rw [s10]
      refine C_X8_sumBits ?_
      unfold wb_X8_sumBits_0
      rcases h01 with hs | hs
      · rw [if_pos hs] at hq
        rw [← f2d_z]
        exact csumF_loop (d := d) sh sb (c.2 a ha) (ok a) hs (tN (T a)) 0 FP.fconst0 (by omega) fz_nn hq
      · rw [if_neg (by rw [hs]; decide)] at hq
        exact csumD_loop (d := d) sh sb (c.2 a ha) (ok a) hs (tN (T a)) 0 FP.dconst0 (by omega) dz_nn hq
  · rw [if_neg (notN (n := 4) h)] at hq; exact hq
theorem K_madded {d m : Nat} {q : HP → Int64 → Prop} {H : HP} {T : TRs} {t : Int32} (sm : shM H m) (c : MTr H m T) (ok : okTR T) (hq : q H (addedA T t)) : CJ (d + 3) 0 0 mX12_added_ [rv (some m), .int t] H q := by
  refine C_X12_added_ ?_
  unfold wb_X12_added__0
  unfold addedA at hq
  obtain ⟨x1, x2, x3, x4⟩ := mA_sort sm
  refine K_isTrack (d := d) (fun a ha e => ⟨fun k => (by cases k), fun _ => ⟨sm.1, m + 31, x1, x2, ?_, ?_⟩⟩) (fun h => ⟨fun _ => ?_, fun k => (by cases k)⟩)
  · rw [e, x4]; exact vpi_of ha (by decide)
  · obtain ⟨n1, n2⟩ := inN_of2 (n := 4) (by decide) ha e
    rw [if_pos n1, n2] at hq
    subst e
    have hs : 0 ≤ tS (T a) ↔ tS (T a) ≠ -1 := by
      rcases (ok a).1 with h | h | h <;> rw [h] <;> decide
    rw [x3, iN_cl (by omega), (c a ha).1, hs, ix30b (by omega)]
    refine ⟨fun h => ?_, fun h => ?_⟩
    · rw [if_neg h] at hq
      rcases (ok a).1 with k | k | k
      · exact absurd k h
      · rw [if_pos k] at hq
        exact msumF_loop (d := d) sm c ok ha k (tN (T a)) 0 FP.fconst0 FP.dconst0 (some FP.fconst0) (by omega) rfl (fun v e => by injection e with e; rw [← e]; exact fz_nn) hq
      · rw [if_neg (by rw [k]; decide)] at hq
        exact msumD_loop (d := d) sm c ok ha k (tN (T a)) 0 FP.fconst0 FP.dconst0 (some FP.dconst0) (by omega) rfl (fun v e => by injection e with e; rw [← e]; exact dz_nn) hq
    · rw [if_pos (Classical.byContradiction h)] at hq; exact hq
  · rw [if_neg (notN (n := 4) h)] at hq; exact hq
