
/-! ===== the reference: change ===== -/
theorem mch_loop {d m n t x y : Nat} {q : HP → Int32 → Prop} {H0 : HP} {T : TRs} {U : Nat → UV} (ht : t < 4) (hx : x < n) (hy : y < n) (hok : ∀ i, okU (U i)) (ok : okTR T) (h01 : tS (T t) = 0 ∨ tS (T t) = 1) (hq : ∀ H', Fr (TmS m) H0 H' → MTr H' m (putT T t (cvI (T t) (U x) (U y) (tN (T t)))) → q H' (Int32.ofNat (tN (T t)))) : ∀ (r i : Nat) (H : HP), r + i = tN (T t) → MU H m n U → Fr (TmS m) H0 H → MTr H m (putT T t (cvI (T t) (U x) (U y) i)) → L_X12_change_55 (d + 1) q m (Int32.ofNat t) (Int32.ofNat x) (Int32.ofNat y) (Int32.ofNat (30 * t + i)) H := by
  have h30 := (ok t).2.1
  intro r
  induction r with
  | zero =>
    intro i H e hu F c
    have sm := hu.1
    refine T_X12_change_55 ?_
    unfold wb_X12_change_55
    obtain ⟨y1, y2, y3, y4⟩ := mA_size sm
    have c2 : hI H 5136 (m + 32) t = Int32.ofNat (tN (T t)) := by
      rw [(c t ht).2.1]; unfold putT; rw [if_pos rfl]; rfl
    have e : i = tN (T t) := by omega
    subst e
    refine ⟨sm.1, m + 32, y1, y2, by rw [y4]; exact vpi_of ht (by decide), ?_⟩
    rw [y3, iN_cl (by omega), c2, ix30 (by omega), iN_le (by omega) (by omega)]
    exact ⟨fun _ => ⟨by rw [y4]; exact vpi_of ht (by decide), hq H F c⟩, fun k => by omega⟩
  | succ r ih =>
    intro i H e hu F c
    have sm := hu.1
    have hn20 := hu.2.2.1
    refine T_X12_change_55 ?_
    unfold wb_X12_change_55
    obtain ⟨y1, y2, y3, y4⟩ := mA_size sm
    obtain ⟨x1, x2, x3, x4⟩ := mA_sort sm
    obtain ⟨f1, f2, f3, f4⟩ := mA_floats sm
    obtain ⟨g1, g2, g3, g4⟩ := mA_doubles sm
    have ct := c t ht
    have ep : putT T t (cvI (T t) (U x) (U y) i) t = cvI (T t) (U x) (U y) i := if_pos rfl
    rw [ep] at ct
    obtain ⟨c1, c2, c3, c4⟩ := ct
    have c1 : hI H 5120 (m + 31) t = tS (T t) := c1
    have c2 : hI H 5136 (m + 32) t = Int32.ofNat (tN (T t)) := c2
    refine ⟨sm.1, m + 32, y1, y2, by rw [y4]; exact vpi_of ht (by decide), ?_⟩
    rw [y3, iN_cl (by omega), c2, ix30 (by omega), iN_le (by omega) (by omega)]
    refine ⟨fun k => by omega, fun _ => ⟨m + 31, x1, x2, by rw [x4]; exact vpi_of ht (by decide), ?_⟩⟩
    rw [x3, c1, iN_inc (by omega)]
    refine ⟨fun h => ?_, fun h => ?_⟩
    · have hs1 : tS (T t) = 1 := by
        rcases h01 with k | k
        · exact absurd k h
        · exact k
      refine ⟨m + 34, g1, g2, by rw [g4]; exact vpi_of (by omega) (by decide), ?_⟩
      rw [g3, iN_cl (by omega)]
      have hv : mdv (hD H 5173 (m + 34) (30 * t + i)) (if i < i then (tD (T t) i).map (chD (U x) (U y)) else tD (T t) i) := c4 hs1 i (by omega)
      rw [if_neg (by omega)] at hv
      refine K_changedWide (d := d) sm (by omega) (by omega) (hu.2.2.2 x hx) (hu.2.2.2 y hy) (hok x) (hok y) hv (fun z hz => (ok t).2.2.2 i z hz) fun r hr => ⟨g2, by rw [g4]; exact vpi_of (by omega) (by decide), ?_⟩
      rw [g3]
      have F1 : Fr (TmS m) H (sD H 5173 (m + 34) (30 * t + i) r) := Fr_sD ⟨by omega, by omega⟩
      refine ih (i + 1) _ (by omega) (fr_MU F1 (fun k => by omega) (fun g a k1 k2 k3 => by omega) hu) (F.tr F1) fun t' ht' => ?_
      have s' := c t' ht'
      unfold putT at s' ⊢
      by_cases et : t' = t
      · subst et
        rw [if_pos rfl]
        refine ⟨c1, c2, fun h2 => absurd (h2.symm.trans hs1) (by decide), fun h2 k hk => ?_⟩
        show mdv (hD (sD H 5173 (m + 34) (30 * t' + i) r) 5173 (m + 34) (30 * t' + k)) (if k < i + 1 then (tD (T t') k).map (chD (U x) (U y)) else tD (T t') k)
        rw [hDs]
        by_cases ek : k = i
        · subst ek
          rw [if_pos ⟨rfl, rfl, rfl⟩, if_pos (by omega)]; exact hr
        · have this : mdv (hD H 5173 (m + 34) (30 * t' + k)) (if k < i then (tD (T t') k).map (chD (U x) (U y)) else tD (T t') k) := c4 hs1 k hk
          rw [if_neg (fun e => by omega)]
          by_cases hki : k < i
          · rw [if_pos (by omega)]; rw [if_pos hki] at this; exact this
          · rw [if_neg (by omega)]; rw [if_neg hki] at this; exact this
      · rw [if_neg et] at s' ⊢
        obtain ⟨k1, k2, k3, k4⟩ := s'
        refine ⟨k1, k2, k3, fun h2 k hk => ?_⟩
        rw [hDs, if_neg (fun e => by omega)]; exact k4 h2 k hk
    · refine ⟨m + 33, f1, f2, by rw [f4]; exact vpi_of (by omega) (by decide), ?_⟩
      rw [f3, iN_cl (by omega)]
      have hv : mfv (hF H 5156 (m + 33) (30 * t + i)) (if i < i then (tF (T t) i).map (chF (U x) (U y)) else tF (T t) i) := c3 h i (by omega)
      rw [if_neg (by omega)] at hv
      refine K_changed (d := d) sm (by omega) (by omega) (hu.2.2.2 x hx) (hu.2.2.2 y hy) (hok x) (hok y) hv (fun z hz => (ok t).2.2.1 i z hz) fun r hr => ⟨f2, by rw [f4]; exact vpi_of (by omega) (by decide), ?_⟩
      rw [f3]
      have F1 : Fr (TmS m) H (sF H 5156 (m + 33) (30 * t + i) r) := Fr_sF ⟨by omega, by omega⟩
      refine ih (i + 1) _ (by omega) (fr_MU F1 (fun k => by omega) (fun g a k1 k2 k3 => by omega) hu) (F.tr F1) fun t' ht' => ?_
      have s' := c t' ht'
      unfold putT at s' ⊢
      by_cases et : t' = t
      · subst et
        rw [if_pos rfl]
        refine ⟨c1, c2, fun h2 k hk => ?_, fun h2 => absurd (h.symm.trans h2) (by decide)⟩
        show mfv (hF (sF H 5156 (m + 33) (30 * t' + i) r) 5156 (m + 33) (30 * t' + k)) (if k < i + 1 then (tF (T t') k).map (chF (U x) (U y)) else tF (T t') k)
        rw [hFs]
        by_cases ek : k = i
        · subst ek
          rw [if_pos ⟨rfl, rfl, rfl⟩, if_pos (by omega)]; exact hr
        · have this : mfv (hF H 5156 (m + 33) (30 * t' + k)) (if k < i then (tF (T t') k).map (chF (U x) (U y)) else tF (T t') k) := c3 h k hk
          rw [if_neg (fun e => by omega)]
          by_cases hki : k < i
          · rw [if_pos (by omega)]; rw [if_pos hki] at this; exact this
          · rw [if_neg (by omega)]; rw [if_neg hki] at this; exact this
      · rw [if_neg et] at s' ⊢
        obtain ⟨k1, k2, k3, k4⟩ := s'
        refine ⟨k1, k2, fun h2 k hk => ?_, k4⟩
        rw [hFs, if_neg (fun e => by omega)]; exact k3 h2 k hk
theorem K_mchange {d m n : Nat} {q : HP → Int32 → Prop} {H : HP} {T : TRs} {U : Nat → UV} {t x y : Int32} (c : MTr H m T) (ok : okTR T) (hu : MU H m n U) (hok : ∀ i, okU (U i)) (hq : ∀ H', Fr (TmS m) H H' → MTr H' m (changeT T n U t x y) → q H' (changeA T n U t x y)) : CI (d + 3) 0 0 mX12_change [rv (some m), .int t, .int x, .int y] H q := by
  have sm := hu.1
  have hn20 := hu.2.2.1
  refine C_X12_change ?_
  unfold wb_X12_change_0
  have h0 := hq H Fr.rf
  unfold changeT changeA at h0 hq
  have bad : ¬ (inN 4 t ∧ inN n x ∧ inN n y) → q H (-1) := fun k => by
    rw [if_neg (fun z => k z.1), if_neg k] at h0; exact h0 c
  refine K_isTrack (d := d) (fun a ha e => ⟨fun k => (by cases k), fun _ => ⟨sm.1, K_isUnit (d := d) hu (fun b hb e2 => ⟨fun k => (by cases k), fun _ => ⟨sm.1, K_isUnit (d := d) hu (fun b' hb' e3 => ⟨fun _ => ⟨sm.1, ?_⟩, fun k => (by cases k)⟩) (fun h => ⟨fun k => (by cases k), fun _ => bad fun z => notN h z.2.2⟩)⟩⟩) (fun h => ⟨fun _ => bad fun z => notN h z.2.1, fun k => (by cases k)⟩)⟩⟩) (fun h => ⟨fun _ => bad fun z => notN (n := 4) h z.1, fun k => (by cases k)⟩)
  obtain ⟨i1, j1⟩ := inN_of2 (n := 4) (by decide) ha e
  obtain ⟨i2, j2⟩ := inN_of2 (n := n) (by omega) hb e2
  obtain ⟨i3, j3⟩ := inN_of2 (n := n) (by omega) hb' e3
  obtain ⟨x1, x2, x3, x4⟩ := mA_sort sm
  have hs : 0 ≤ tS (T a) ↔ tS (T a) ≠ -1 := by
    rcases (ok a).1 with h | h | h <;> rw [h] <;> decide
  subst e
  subst e2
  subst e3
  refine ⟨m + 31, x1, x2, by rw [x4]; exact vpi_of ha (by decide), ?_⟩
  rw [x3, iN_cl (by omega), (c a ha).1, hs]
  refine ⟨fun h => K_areLike (d := d + 1) sm (by omega) (by omega) (hu.2.2.2 b hb) (hu.2.2.2 b' hb') ⟨fun he => ?_, fun he => ?_⟩, fun h => ?_⟩
  · have h01 : tS (T a) = 0 ∨ tS (T a) = 1 := by
      rcases (ok a).1 with k | k
      · exact absurd k h
      · exact k
    rw [ix30b (by omega)]
    have e0 : putT T a (cvI (T a) (U b) (U b') 0) = putT T a (T a) := by
      unfold putT cvI
      funext t'
      by_cases et : t' = a
      · rw [if_pos et, if_pos et]
        have : ∀ k, ¬ k < 0 := fun k => by omega
        simp only [this, if_false]
        rfl
      · rw [if_neg et, if_neg et]
    refine mch_loop (d := d + 1) ha hb hb' hok ok h01 (fun H' F' c' => ?_) (tN (T a)) 0 H (by omega) hu Fr.rf (by rw [e0]; exact MTr_put c ⟨fun _ _ => ⟨rfl, rfl⟩, fun _ _ _ _ => ⟨rfl, rfl⟩⟩ (c a ha))
    have := hq H' F'
    rw [j1, j2, j3, if_pos ⟨⟨i1, i2, i3⟩, h, he⟩, if_pos ⟨i1, i2, i3⟩, if_neg h, if_pos he] at this
    exact this c'
  · rw [j1, j2, j3, if_neg (fun k => by rw [he] at k; cases k.2.2), if_pos ⟨i1, i2, i3⟩, if_neg h, if_neg (by rw [he]; decide)] at h0
    exact h0 c
  · have h := Classical.byContradiction h
    rw [j1, if_neg (fun k => k.2.1 h), if_pos ⟨i1, i2, i3⟩, if_pos h] at h0; exact h0 c
