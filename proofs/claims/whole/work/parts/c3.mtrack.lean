
/-! ===== the reference: track, item ===== -/
theorem ix30 {i j : Nat} (h : 30 * i + j < 2147483648) : (30 : Int32) * Int32.ofNat i + Int32.ofNat j = Int32.ofNat (30 * i + j) := by
  have e : (30 : Int32) = Int32.ofNat 30 := rfl
  rw [e, iN_mul (by omega) (by omega) (by omega), iN_add h]
theorem ix30b {i : Nat} (h : i < 1000) : (30 : Int32) * Int32.ofNat i = Int32.ofNat (30 * i) := by
  have e : (30 : Int32) = Int32.ofNat 30 := rfl
  rw [e, iN_mul (by omega) (by omega) (by omega)]
theorem ix30c {i : Nat} (h : i < 1000) : (30 : Int32) * Int32.ofNat i + 30 = Int32.ofNat (30 * i + 30) := ix30 (j := 30) (by omega)
theorem mtrack_loop {d m t : Nat} {q : HP → Int32 → Prop} {H0 : HP} (ht : t < 4) (hq : ∀ H', Fr (TmS m) H0 H' → (∀ a i, hI H' a i = hI H0 a i) → (∀ x, 30 * t ≤ x → x < 30 * t + 30 → hF H' 5156 (m + 33) x = FP.fconst0 ∧ hD H' 5173 (m + 34) x = FP.dconst0) → (∀ x, (x < 30 * t ∨ 30 * t + 30 ≤ x) → hF H' 5156 (m + 33) x = hF H0 5156 (m + 33) x ∧ hD H' 5173 (m + 34) x = hD H0 5173 (m + 34) x) → q H' 1) : ∀ (r k : Nat) (H : HP), r + k = 30 → shM H m → Fr (TmS m) H0 H → (∀ a i, hI H a i = hI H0 a i) → (∀ x, 30 * t ≤ x → x < 30 * t + k → hF H 5156 (m + 33) x = FP.fconst0 ∧ hD H 5173 (m + 34) x = FP.dconst0) → (∀ x, (x < 30 * t ∨ 30 * t + k ≤ x) → hF H 5156 (m + 33) x = hF H0 5156 (m + 33) x ∧ hD H 5173 (m + 34) x = hD H0 5173 (m + 34) x) → L_X12_track_68 d q m (Int32.ofNat t) (Int32.ofNat (30 * t + k)) H := by
  intro r
  induction r with
  | zero =>
    intro k H e sm F hi h1 h2
    refine T_X12_track_68 ?_
    unfold wb_X12_track_68
    rw [ix30c (by omega), iN_le (by omega) (by omega)]
    exact ⟨fun _ => hq H F hi (fun x k1 k2 => h1 x k1 (by omega)) (fun x k1 => h2 x (by omega)), fun h => by omega⟩
  | succ r ih =>
    intro k H e sm F hi h1 h2
    refine T_X12_track_68 ?_
    unfold wb_X12_track_68
    rw [ix30c (by omega), iN_le (by omega) (by omega)]
    refine ⟨fun h => by omega, fun _ => ?_⟩
    obtain ⟨x1, x2, x3, x4⟩ := mA_floats sm
    have sm2 : shM (sF H 5156 (m + 33) (30 * t + k) FP.fconst0) m := sm
    obtain ⟨y1, y2, y3, y4⟩ := mA_doubles sm2
    refine ⟨sm.1, m + 33, x1, x2, by rw [x4]; exact vpi_of (by omega) (by decide), ?_⟩
    rw [x3, iN_cl (by omega)]
    refine ⟨m + 34, y1, y2, by rw [y4]; exact vpi_of (by omega) (by decide), ?_⟩
    rw [y3, iN_inc (by omega)]
    have F1 : Fr (TmS m) H (sD (sF H 5156 (m + 33) (30 * t + k) FP.fconst0) 5173 (m + 34) (30 * t + k) FP.dconst0) := (Fr_sF ⟨by omega, by omega⟩).tr (Fr_sD ⟨by omega, by omega⟩)
    have hf : ∀ x, hF (sD (sF H 5156 (m + 33) (30 * t + k) FP.fconst0) 5173 (m + 34) (30 * t + k) FP.dconst0) 5156 (m + 33) x = if x = 30 * t + k then FP.fconst0 else hF H 5156 (m + 33) x := fun x => by
      show hF (sF H 5156 (m + 33) (30 * t + k) FP.fconst0) 5156 (m + 33) x = _
      rw [hFs]
      by_cases e : x = 30 * t + k
      · rw [if_pos e, if_pos ⟨rfl, rfl, e⟩]
      · rw [if_neg e, if_neg (fun h => e h.2.2)]
    have hd : ∀ x, hD (sD (sF H 5156 (m + 33) (30 * t + k) FP.fconst0) 5173 (m + 34) (30 * t + k) FP.dconst0) 5173 (m + 34) x = if x = 30 * t + k then FP.dconst0 else hD H 5173 (m + 34) x := fun x => by
      rw [hDs]
      by_cases e : x = 30 * t + k
      · rw [if_pos e, if_pos ⟨rfl, rfl, e⟩]
      · rw [if_neg e, if_neg (fun h => e h.2.2)]; rfl
    refine ih (k + 1) _ (by omega) (fr_shM F1 sm) (F.tr F1) hi (fun x k1 k2 => ?_) (fun x k1 => ?_)
    · rw [hf, hd]
      by_cases e : x = 30 * t + k
      · rw [if_pos e, if_pos e]; exact ⟨rfl, rfl⟩
      · rw [if_neg e, if_neg e]; exact h1 x k1 (by omega)
    · rw [hf, hd, if_neg (by omega), if_neg (by omega)]; exact h2 x (by omega)
theorem K_mtrack {d m : Nat} {q : HP → Int32 → Prop} {H : HP} {T : TRs} {t s n : Int32} (sm : shM H m) (c : MTr H m T) (hq : ∀ H', Fr (TmS m) H H' → MTr H' m (trackT T t s n) → q H' (trackA t s n)) : CI (d + 3) 0 0 mX12_track [rv (some m), .int t, .int s, .int n] H q := by
  refine C_X12_track ?_
  unfold wb_X12_track_0
  have e1 : (1 : Int64).toInt = 1 := rfl
  have em : (-1 : Int64).toInt = -1 := rfl
  have e30 : (30 : Int64).toInt = 30 := rfl
  have h0 := hq H Fr.rf
  unfold trackT trackA at h0 hq
  refine K_isTrack (d := d) (fun a ha e => ⟨fun _ => K_isIn (d := d + 1) ?_, fun k => (by cases k)⟩) (fun h => ⟨fun k => (by cases k), fun _ => ?_⟩)
  · obtain ⟨n1, n2⟩ := inN_of2 (n := 4) (by decide) ha e
    subst e
    have bad : ¬ okNew s n → q H (-2) := fun k => by
      rw [if_neg (fun x => k x.2), if_pos n1, if_neg k] at h0; exact h0 c
    have fin : okNew s n → ∀ n' : Int32, (n' = if s.toInt < 0 then 0 else n) → L_X12_track_68 (d + 2) q m (Int32.ofNat a) (Int32.ofNat (30 * a)) (sI (sI H 5120 (m + 31) a s) 5136 (m + 32) a n') := fun ok n' hn => by
      have F : Fr (TmS m) H (sI (sI H 5120 (m + 31) a s) 5136 (m + 32) a n') := (Fr_sI ⟨by omega, by omega⟩).tr (Fr_sI ⟨by omega, by omega⟩)
      refine mtrack_loop (d := d + 2) ha (fun H' F' hi h1 h2 => ?_) 30 0 _ (by omega) (fr_shM F sm) Fr.rf (fun _ _ => rfl) (fun x k1 k2 => by omega) (fun x k => ⟨rfl, rfl⟩)
      have := hq H' (F.tr F')
      rw [if_pos ⟨n1, ok⟩, if_pos n1, if_pos ok, n2] at this
      refine this (MTr_put c ⟨fun t' ht' => ⟨?_, ?_⟩, fun t' k ht' hk => h2 _ (by omega)⟩ ⟨?_, ?_, fun _ k hk => ?_, fun _ k hk => ?_⟩)
      · rw [hi, hIs_g _ _ _ _ _ _ (by decide), hIs_i, if_neg ht']
      · rw [hi, hIs_i, if_neg ht', hIs_g _ _ _ _ _ _ (by decide)]
      · rw [hi, hIs_g _ _ _ _ _ _ (by decide), hIs_i, if_pos rfl]; rfl
      · rw [hi, hIs_i, if_pos rfl, hn]
        show _ = Int32.ofNat (if s.toInt < 0 then 0 else n.toInt.toNat)
        by_cases hs : s.toInt < 0
        · rw [if_pos hs, if_pos hs]; rfl
        · rw [if_neg hs, if_neg hs]
          have := ok.2
          exact iN_inj (by omega) (by omega)
      · exact (h1 (30 * a + k) (by omega) (by omega)).1
      · exact (h1 (30 * a + k) (by omega) (by omega)).2
    obtain ⟨x1, x2, x3, x4⟩ := mA_sort sm
    have sm2 : shM (sI H 5120 (m + 31) a s) m := sm
    obtain ⟨y1, y2, y3, y4⟩ := mA_size sm2
    have tail : okNew s n → tg H m = 13 ∧ (∃ a6, (hC H 1357 m) = some a6 ∧ (isA H a6 0 ∧ (vp_in (Int32.ofNat a) (ln H a6) ∧ ((0 ≤ s → ∃ a9, (hC (sI H (tg H a6) a6 (Int32.ofNat a).toNatClampNeg s) 1358 m) = some a9 ∧ (isA (sI H (tg H a6) a6 (Int32.ofNat a).toNatClampNeg s) a9 0 ∧ (vp_in (Int32.ofNat a) (ln (sI H (tg H a6) a6 (Int32.ofNat a).toNatClampNeg s) a9) ∧ (L_X12_track_68 (d + 2) q m (Int32.ofNat a) ((30 : Int32) * Int32.ofNat a) (sI (sI H (tg H a6) a6 (Int32.ofNat a).toNatClampNeg s) (tg (sI H (tg H a6) a6 (Int32.ofNat a).toNatClampNeg s) a9) a9 (Int32.ofNat a).toNatClampNeg n))))) ∧ (¬ (0 ≤ s) → ∃ a12, (hC (sI H (tg H a6) a6 (Int32.ofNat a).toNatClampNeg s) 1358 m) = some a12 ∧ (isA (sI H (tg H a6) a6 (Int32.ofNat a).toNatClampNeg s) a12 0 ∧ (vp_in (Int32.ofNat a) (ln (sI H (tg H a6) a6 (Int32.ofNat a).toNatClampNeg s) a12) ∧ (L_X12_track_68 (d + 2) q m (Int32.ofNat a) ((30 : Int32) * Int32.ofNat a) (sI (sI H (tg H a6) a6 (Int32.ofNat a).toNatClampNeg s) (tg (sI H (tg H a6) a6 (Int32.ofNat a).toNatClampNeg s) a12) a12 (Int32.ofNat a).toNatClampNeg (0 : Int32)))))))))) := fun ok => by
      refine ⟨sm.1, m + 31, x1, x2, by rw [x4]; exact vpi_of ha (by decide), ?_⟩
      rw [x3, iN_cl (by omega), i32_le, i32_0, ix30b (by omega)]
      refine ⟨fun hs => ⟨m + 32, y1, y2, by rw [y4]; exact vpi_of ha (by decide), ?_⟩, fun hs => ⟨m + 32, y1, y2, by rw [y4]; exact vpi_of ha (by decide), ?_⟩⟩
      · rw [y3]; exact fin ok n (by rw [if_neg (by omega)])
      · rw [y3]; exact fin ok 0 (by rw [if_pos (by omega)])
    rw [i64_of32, e1, em]
    refine ⟨fun hb => ?_, fun hb => ?_⟩
    · have hb := of_decide_eq_false hb
      exact bad fun x => hb x.1
    · have hb := of_decide_eq_true hb
      refine ⟨fun hs => tail ⟨hb, Or.inl (by rw [i32_lt, i32_0] at hs; exact hs)⟩, fun hs => K_isIn (d := d + 1) ?_⟩
      rw [i32_lt, i32_0] at hs
      rw [i64_of32, i64_0, e30]
      refine ⟨fun h => tail ⟨hb, Or.inr (of_decide_eq_true h)⟩, fun h => bad fun x => ?_⟩
      have h := of_decide_eq_false h
      have := x.2
      omega
  · rw [if_neg (fun x => notN (n := 4) h x.1), if_neg (notN (n := 4) h)] at h0
    exact h0 c
theorem dB_of {x : UInt64} {w : Option UInt64} (h : mdv x w) (hw : ∀ v, w = some v → FP.Core.val64 v ≠ .nan) : dB x = dbO w := by
  cases w with
  | none =>
    have h : FP.Core.val64 x = .nan := h
    unfold dB; rw [if_pos h]; rfl
  | some v =>
    have h : x = v := h
    rw [h, dB_nn (hw v rfl)]; rfl
theorem fB_of {x : UInt32} {w : Option UInt32} (h : mfv x w) (hw : ∀ v, w = some v → FP.Core.val32 v ≠ .nan) : fB x = fbO w := by
  cases w with
  | none =>
    have h : FP.Core.val32 x = .nan := h
    unfold fB; rw [if_pos h]; rfl
  | some v =>
    have h : x = v := h
    rw [h, fB_nn (hw v rfl)]; rfl
theorem K_mitem {d m : Nat} {q : HP → Int64 → Prop} {H : HP} {T : TRs} {t i : Int32} (sm : shM H m) (c : MTr H m T) (ok : okTR T) (hq : q H (itemA T t i)) : CJ (d + 4) 0 0 mX12_item [rv (some m), .int t, .int i] H q := by
  refine C_X12_item ?_
  unfold wb_X12_item_0
  unfold itemA at hq
  obtain ⟨x1, x2, x3, x4⟩ := mA_sort sm
  obtain ⟨y1, y2, y3, y4⟩ := mA_floats sm
  obtain ⟨z1, z2, z3, z4⟩ := mA_doubles sm
  refine ⟨sm.1, K_barred (d := d) sm c ok (fun a j ha hj hj30 et ei na nj hs hb => ⟨fun _ => ⟨sm.1, m + 31, x1, x2, ?_, ?_⟩, fun k => absurd rfl k⟩) (fun hb => ⟨fun k => absurd k hb, fun _ => ?_⟩)⟩
  · rw [et, x4]; exact vpi_of ha (by decide)
  · obtain ⟨c1, c2, c3, c4⟩ := c a ha
    rw [if_pos hb, na, nj] at hq
    subst et
    subst ei
    rw [x3, ix30 (by omega), iN_cl (by omega), c1]
    unfold itemB at hq
    refine ⟨fun h => ?_, fun h => ?_⟩
    · rw [if_neg h] at hq
      have hs1 : tS (T a) = 1 := by
        rcases hs with hs | hs
        · exact absurd hs h
        · exact hs
      refine ⟨m + 34, z1, z2, by rw [z4]; exact vpi_of (by omega) (by decide), ?_⟩
      rw [z3, iN_cl (by omega)]
      refine K_dtlb (d := d + 1) ?_
      rw [dB_of (c4 hs1 j hj30) ((ok a).2.2.2 j)]; exact hq
    · rw [if_pos h] at hq
      refine ⟨m + 33, y1, y2, by rw [y4]; exact vpi_of (by omega) (by decide), ?_⟩
      rw [y3, iN_cl (by omega)]
      refine K_ftib (d := d + 1) fun r hr => ?_
      rw [hr, fB_of (c3 h j hj30) ((ok a).2.2.1 j)]; exact hq
  · rw [if_neg hb] at hq; exact hq
