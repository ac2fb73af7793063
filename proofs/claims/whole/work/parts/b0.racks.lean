
/-! ===== racks on both sides ===== -/
abbrev RKt : Type := Nat → Nat → Int32 × Int32
def putK (K : RKt) (r i : Nat) (v : Int32 × Int32) : RKt := fun r' i' => if r' = r ∧ i' = i then v else K r' i'
def okRK (K : RKt) : Prop := ∀ r i, (K r i).1 = -1 ∨ (K r i).1 = 0 ∨ (K r i).1 = 1
def CRk (H : HP) (K : RKt) : Prop := shRacks H ∧ ∀ r, r < 3 → ∀ i, i < 6 → hI H 4112 (1109 + 3 * r + 1) i = (K r i).1 ∧ (hL H 4131 (1109 + 3 * r + 2) i).toInt32 = (K r i).2
def MRk (H : HP) (m : Nat) (K : RKt) : Prop := ∀ r, r < 3 → ∀ i, i < 6 → hI H 5184 (m + 35) (6 * r + i) = (K r i).1 ∧ hI H 5200 (m + 36) (6 * r + i) = (K r i).2
theorem okRK_put {K : RKt} {r i : Nat} {v : Int32 × Int32} (h : okRK K) (hv : v.1 = -1 ∨ v.1 = 0 ∨ v.1 = 1) : okRK (putK K r i v) := fun r' i' => by
  unfold putK
  split
  · exact hv
  · exact h r' i'
theorem fr_shRacks {S : Nat → Nat → Prop} {H H' : HP} (h : Fr S H H') (h1 : ¬ S 4585 1091) (h2 : ∀ x, 1109 ≤ x → x < 1118 → ¬ S 600 x) (s : shRacks H) : shRacks H' := fun i hi => by
  obtain ⟨s1, s2, s3⟩ := s i hi
  refine ⟨by rw [h.2.2.2.2.2.2.2.2 _ _ h1]; exact s1, ?_, by rw [h.2.2.2.2.1 _ _ (h2 _ (by omega) (by omega))]; exact s3⟩
  unfold shRack at s2 ⊢
  rw [fr_tg h, h.2.1, h.1]; exact s2
theorem fr_CRk {S : Nat → Nat → Prop} {H H' : HP} {K : RKt} (h : Fr S H H') (h1 : ¬ S 4585 1091) (h2 : ∀ g x, 1109 ≤ x → x < 1118 → ¬ S g x) (s : CRk H K) : CRk H' K := by
  refine ⟨fr_shRacks h h1 (fun x k1 k2 => h2 _ x k1 k2) s.1, fun r hr i hi => ?_⟩
  rw [h.2.2.2.2.1 _ _ (h2 _ _ (by omega) (by omega)), h.2.2.2.2.2.1 _ _ (h2 _ _ (by omega) (by omega))]
  exact s.2 r hr i hi
theorem fr_MRk {S : Nat → Nat → Prop} {H H' : HP} {m : Nat} {K : RKt} (h : Fr S H H') (h1 : ¬ S 5184 (m + 35)) (h2 : ¬ S 5200 (m + 36)) (s : MRk H m K) : MRk H' m K := fun r hr i hi => by
  rw [h.2.2.2.2.1 _ _ h1, h.2.2.2.2.1 _ _ h2]; exact s r hr i hi
abbrev RcS : Nat → Nat → Prop := fun g x => (g = 4112 ∨ g = 4131) ∧ 1109 ≤ x ∧ x < 1118
abbrev RmS (m : Nat) : Nat → Nat → Prop := fun g x => (g = 5184 ∧ x = m + 35) ∨ (g = 5200 ∧ x = m + 36)
theorem CRk_put {H : HP} {K : RKt} {r i : Nat} {k : Int32} {v : Int64} {w : Int32} (s : CRk H K) (hr : r < 3) (hi : i < 6) (hv : v.toInt32 = w) : Fr RcS H (sL (sI H 4112 (1109 + 3 * r + 1) i k) 4131 (1109 + 3 * r + 2) i v) ∧ CRk (sL (sI H 4112 (1109 + 3 * r + 1) i k) 4131 (1109 + 3 * r + 2) i v) (putK K r i (k, w)) := by
  have F : Fr RcS H (sL (sI H 4112 (1109 + 3 * r + 1) i k) 4131 (1109 + 3 * r + 2) i v) := (Fr_sI ⟨Or.inl rfl, by omega, by omega⟩).tr (Fr_sL ⟨Or.inr rfl, by omega, by omega⟩)
  refine ⟨F, fr_shRacks F (fun k => by omega) (fun x k1 k2 k => by omega) s.1, fun r' hr' i' hi' => ?_⟩
  have e1 : hI (sL (sI H 4112 (1109 + 3 * r + 1) i k) 4131 (1109 + 3 * r + 2) i v) 4112 (1109 + 3 * r' + 1) i' = if r' = r ∧ i' = i then k else hI H 4112 (1109 + 3 * r' + 1) i' := by
    show hI (sI H 4112 (1109 + 3 * r + 1) i k) 4112 (1109 + 3 * r' + 1) i' = _
    rw [hIs]
    by_cases e : r' = r ∧ i' = i
    · rw [if_pos e, if_pos ⟨rfl, by rw [e.1], e.2⟩]
    · rw [if_neg e, if_neg (fun k => e ⟨by omega, k.2.2⟩)]
  have e2 : hL (sL (sI H 4112 (1109 + 3 * r + 1) i k) 4131 (1109 + 3 * r + 2) i v) 4131 (1109 + 3 * r' + 2) i' = if r' = r ∧ i' = i then v else hL H 4131 (1109 + 3 * r' + 2) i' := by
    rw [hLs]
    show (if _ then v else hL H 4131 (1109 + 3 * r' + 2) i') = _
    by_cases e : r' = r ∧ i' = i
    · rw [if_pos e, if_pos ⟨rfl, by rw [e.1], e.2⟩]
    · rw [if_neg e, if_neg (fun k => e ⟨by omega, k.2.2⟩)]
  rw [e1, e2]
  unfold putK
  by_cases e : r' = r ∧ i' = i
  · rw [if_pos e, if_pos e, if_pos e]; exact ⟨rfl, hv⟩
  · rw [if_neg e, if_neg e, if_neg e]; exact s.2 r' hr' i' hi'
theorem MRk_put {H : HP} {m : Nat} {K : RKt} {r i : Nat} {k w : Int32} (s : MRk H m K) (hr : r < 3) (hi : i < 6) : Fr (RmS m) H (rkM H m (6 * r + i) k w) ∧ MRk (rkM H m (6 * r + i) k w) m (putK K r i (k, w)) := by
  refine ⟨(Fr_sI (Or.inl ⟨rfl, rfl⟩)).tr (Fr_sI (Or.inr ⟨rfl, rfl⟩)), fun r' hr' i' hi' => ?_⟩
  have e1 : hI (rkM H m (6 * r + i) k w) 5184 (m + 35) (6 * r' + i') = if r' = r ∧ i' = i then k else hI H 5184 (m + 35) (6 * r' + i') := by
    unfold rkM
    rw [hIs_g _ _ _ _ _ _ (by decide), hIs_i]
    by_cases e : r' = r ∧ i' = i
    · rw [if_pos e, if_pos (by rw [e.1, e.2])]
    · rw [if_neg e, if_neg (by omega)]
  have e2 : hI (rkM H m (6 * r + i) k w) 5200 (m + 36) (6 * r' + i') = if r' = r ∧ i' = i then w else hI H 5200 (m + 36) (6 * r' + i') := by
    unfold rkM
    rw [hIs_i]
    by_cases e : r' = r ∧ i' = i
    · rw [if_pos e, if_pos (by rw [e.1, e.2])]
    · rw [if_neg e, if_neg (by omega), hIs_g _ _ _ _ _ _ (by decide)]
  rw [e1, e2]
  unfold putK
  by_cases e : r' = r ∧ i' = i
  · rw [if_pos e, if_pos e, if_pos e]; exact ⟨rfl, rfl⟩
  · rw [if_neg e, if_neg e, if_neg e]; exact s r' hr' i' hi'
/-- what a place of a rack takes -/
abbrev tkR (r : Nat) (k : Int32) : Prop := r = 2 ∨ Int32.ofNat r = k
def stoK (K : RKt) (r i : Nat) (k v : Int32) : RKt := if tkR r k then putK K r i (k, v) else K
def stoA (r : Nat) (k : Int32) : Int32 := if tkR r k then 1 else -16
theorem tkR_of {H : HP} {K : RKt} {r : Nat} {k : Int32} (s : CRk H K) (hr : r < 3) (hk : k ≠ -1) : (k = -1 ∨ hI H 600 (1109 + 3 * r) 0 = 2 ∨ hI H 600 (1109 + 3 * r) 0 = k) ↔ tkR r k := by
  have e2 : (2 : Int32) = Int32.ofNat 2 := rfl
  rw [(s.1 r hr).2.2, e2, iN_eq (by omega) (by omega)]
  exact ⟨fun h => h.elim (fun h => absurd h hk) id, Or.inr⟩
theorem K_cstoreR {d r i : Nat} {q : HP → Bool → Prop} {H : HP} {K : RKt} {k w : Int32} {v : Int64} (s : CRk H K) (hr : r < 3) (hi : i < 6) (hk : k ≠ -1) (hv : v.toInt32 = w) (h1 : tkR r k → ∀ H', Fr RcS H H' → CRk H' (putK K r i (k, w)) → q H' true) (h0 : ¬ tkR r k → q H false) : CZ (d + 1) 0 0 mX5_store [rv (some (1109 + 3 * r)), .int (Int32.ofNat i), .int k, .long v] H q := by
  refine K_store (s.1 r hr).2.1 hi (fun h => ?_) (fun h => h0 (fun k' => h ((tkR_of s hr hk).mpr k')))
  obtain ⟨F, c⟩ := CRk_put (k := k) s hr hi hv
  exact h1 ((tkR_of s hr hk).mp h) _ F c
theorem i64_32 (x : Int32) : x.toInt64.toInt32 = x := by
  refine i32_ext ?_
  have := i64_of32 x
  have a1 := i32_lo x
  have a2 := i32_hi x
  rw [Int64.toInt_toInt32, this]
  exact Int.bmod_eq_of_le (by omega) (by omega)
def hangK (K : RKt) (n : Nat) (r i u : Int32) : RKt := if inN 3 r ∧ inN n u ∧ inN 6 i then stoK K r.toInt.toNat i.toInt.toNat 0 u else K
def hangA (n : Nat) (r i u : Int32) : Int32 := if inN 3 r ∧ inN n u then (if inN 6 i then stoA r.toInt.toNat 0 else -7) else -1
theorem K_chang {d n : Nat} {q : HP → Int32 → Prop} {H : HP} {U : Nat → UV} {K : RKt} {r i u : Int32} (s : shP H) (hu : CU H 3 n U) (rk : CRk H K) (hq : ∀ H', Fr RcS H H' → CRk H' (hangK K n r i u) → q H' (hangA n r i u)) : CI (d + 2) 0 0 mX11_hang [rv (some 0), .int r, .int i, .int u] H q := by
  obtain ⟨s1, s2, s3, -⟩ := id s
  refine C_X11_hang ?_
  unfold wb_X11_hang_0
  have h0 := hq H Fr.rf
  unfold hangK hangA at h0 hq
  refine ⟨s1, K_rackAt (d := d) s rk.1 (fun a ha e => ⟨fun k => (by cases k), fun b hb => ⟨s1, 3, s3, hu.1.1, ?_⟩⟩) (fun h => ⟨fun _ => ?_, fun b hb => (by cases hb)⟩)⟩
  · obtain ⟨r1, r2⟩ := inN_of (n := 3) (by decide) ha e
    injection hb with hb
    subst hb
    rw [s3]
    refine K_at3 (d := d) hu fun o p1 n1 t1 => ?_
    by_cases hx : inN n u
    · rw [p1 hx]
      refine ⟨fun k => (by cases k), fun b hb => K_isPlace (d := d) (fun j hj e' => ⟨fun _ => ⟨(rk.1 a ha).2.1.1, ?_⟩, fun k => (by cases k)⟩) (fun h => ⟨fun k => (by cases k), fun _ => ?_⟩)⟩
      · obtain ⟨i1, i2⟩ := inN_of (n := 6) (by decide) hj e'
        have hqk : ∀ H', Fr RcS H H' → CRk H' (stoK K a j 0 u) → q H' (stoA a 0) := fun H' F' c' => by
          have := hq H' F'
          rw [if_pos ⟨r1, hx, i1⟩, if_pos ⟨r1, hx⟩, if_pos i1, r2, i2] at this
          exact this c'
        subst e'
        unfold stoK stoA at hqk
        refine K_cstoreR (d := d) rk ha hj (by decide) (i64_32 u) (fun ht H' F' c' => ⟨fun k => (by cases k), fun _ => ?_⟩) (fun ht => ⟨fun _ => ?_, fun k => (by cases k)⟩)
        · have := hqk H' F'
          rw [if_pos ht, if_pos ht] at this
          exact this c'
        · have := hqk H Fr.rf
          rw [if_neg ht, if_neg ht] at this
          exact this rk
      · rw [if_neg (fun k => notN h k.2.2), if_pos ⟨r1, hx⟩, if_neg (notN h)] at h0
        exact h0 rk
    · rw [n1 hx]
      rw [if_neg (fun k => hx k.2.1), if_neg (fun k => hx k.2)] at h0
      exact ⟨fun _ => h0 rk, fun b hb => (by cases hb)⟩
  · rw [if_neg (fun k => notN (n := 3) h k.1), if_neg (fun k => notN (n := 3) h k.1)] at h0
    exact h0 rk
theorem K_mstoreR {d m r i : Nat} {q : HP → Int32 → Prop} {H : HP} {K : RKt} {k v : Int32} (sm : shM H m) (s : MRk H m K) (hr : r < 3) (hi : i < 6) (hq : ∀ H', Fr (RmS m) H H' → MRk H' m (stoK K r i k v) → q H' (stoA r k)) : CI (d + 1) 0 0 mX12_stores [rv (some m), .int (Int32.ofNat r), .int (Int32.ofNat i), .int k, .int v] H q := by
  unfold stoK stoA at hq
  refine K_stores sm hr hi (fun h => ?_) (fun h => ?_)
  · obtain ⟨F, c⟩ := MRk_put (k := k) (w := v) s hr hi
    have := hq _ F
    rw [if_pos h, if_pos h] at this
    exact this c
  · have := hq H Fr.rf
    rw [if_neg h, if_neg h] at this
    exact this s
theorem K_mhang {d n m : Nat} {q : HP → Int32 → Prop} {H : HP} {U : Nat → UV} {K : RKt} {r i u : Int32} (hu : MU H m n U) (rk : MRk H m K) (hq : ∀ H', Fr (RmS m) H H' → MRk H' m (hangK K n r i u) → q H' (hangA n r i u)) : CI (d + 3) 0 0 mX12_hang [rv (some m), .int r, .int i, .int u] H q := by
  have sm := hu.1
  refine C_X12_hang ?_
  unfold wb_X12_hang_0
  have h0 := hq H Fr.rf
  unfold hangK hangA at h0 hq
  refine K_misRack (d := d) (fun a ha e => ⟨fun k => (by cases k), fun _ => ⟨sm.1, K_isUnit (d := d) hu (fun b hb e2 => ⟨fun _ => K_misPlace (d := d) (fun j hj e' => ⟨fun k => (by cases k), fun _ => ⟨sm.1, ?_⟩⟩) (fun h => ⟨fun _ => ?_, fun k => (by cases k)⟩), fun k => (by cases k)⟩) (fun h => ⟨fun k => (by cases k), fun _ => ?_⟩)⟩⟩) (fun h => ⟨fun _ => ?_, fun k => (by cases k)⟩)
  · obtain ⟨r1, r2⟩ := inN_of (n := 3) (by decide) ha e
    obtain ⟨u1, u2⟩ := inN_of hu.2.2.1 hb e2
    obtain ⟨i1, i2⟩ := inN_of (n := 6) (by decide) hj e'
    subst e
    subst e'
    refine K_mstoreR (d := d + 1) sm rk ha hj fun H' F' c' => ?_
    have := hq H' F'
    rw [if_pos ⟨r1, u1, i1⟩, if_pos ⟨r1, u1⟩, if_pos i1, r2, i2] at this
    exact this c'
  · obtain ⟨r1, r2⟩ := inN_of (n := 3) (by decide) ha e
    obtain ⟨u1, u2⟩ := inN_of hu.2.2.1 hb e2
    rw [if_neg (fun k => notN (n := 6) h k.2.2), if_pos ⟨r1, u1⟩, if_neg (notN (n := 6) h)] at h0
    exact h0 rk
  · rw [if_neg (fun k => notN h k.2.1), if_neg (fun k => notN h k.2)] at h0
    exact h0 rk
  · rw [if_neg (fun k => notN (n := 3) h k.1), if_neg (fun k => notN (n := 3) h k.1)] at h0
    exact h0 rk
theorem okRK_sto {K : RKt} {r i : Nat} {k v : Int32} (h : okRK K) (hk : k = -1 ∨ k = 0 ∨ k = 1) : okRK (stoK K r i k v) := by
  unfold stoK
  split
  · exact okRK_put h hk
  · exact h
theorem okRK_hang {K : RKt} {n : Nat} {r i u : Int32} (h : okRK K) : okRK (hangK K n r i u) := by
  unfold hangK
  split
  · exact okRK_sto h (Or.inr (Or.inl rfl))
  · exact h
def holdK (K : RKt) (pr : Bool) (P : PG) (r i k : Int32) : RKt := if inN 3 r ∧ inN 6 i ∧ pr = true ∧ inH P k then stoK K r.toInt.toNat i.toInt.toNat 1 (gV P k.toInt.toNat).2.1.toInt32 else K
def holdA (pr : Bool) (P : PG) (r i k : Int32) : Int32 := if inN 3 r then (if inN 6 i then (if pr = true then (if inH P k then stoA r.toInt.toNat 1 else -1) else -3) else -7) else -1
theorem okRK_hold {K : RKt} {pr : Bool} {P : PG} {r i k : Int32} (h : okRK K) : okRK (holdK K pr P r i k) := by
  unfold holdK
  split
  · exact okRK_sto h (Or.inr (Or.inr rfl))
  · exact h
theorem K_chold {d : Nat} {q : HP → Int32 → Prop} {H : HP} {K : RKt} {pr : Bool} {P : PG} {r i k : Int32} (s : shP H) (c : CPr H pr P) (ok : okPG P) (rk : CRk H K) (hq : ∀ H', Fr RcS H H' → CRk H' (holdK K pr P r i k) → q H' (holdA pr P r i k)) : CI (d + 2) 0 0 mX11_hold [rv (some 0), .int r, .int i, .int k] H q := by
  obtain ⟨s1, s2, s3, -⟩ := id s
  have h60 : gH P ≤ 60 := by have := ok.2.1; have := ok.2.2.1; omega
  obtain ⟨c1, la, dr, -, c3, c4, c5, c6, c7, c8⟩ := c
  refine C_X11_hold ?_
  unfold wb_X11_hold_0
  have h0 := hq H Fr.rf
  unfold holdK holdA at h0 hq
  refine ⟨s1, K_rackAt (d := d) s rk.1 (fun a ha e => ⟨fun k => (by cases k), fun b hb => K_isPlace (d := d) (fun j hj e' => ⟨fun _ => ⟨s1, ?_⟩, fun k => (by cases k)⟩) (fun h => ⟨fun k => (by cases k), fun _ => ?_⟩)⟩) (fun h => ⟨fun _ => ?_, fun b hb => (by cases hb)⟩)⟩
  · obtain ⟨r1, r2⟩ := inN_of (n := 3) (by decide) ha e
    obtain ⟨i1, i2⟩ := inN_of (n := 6) (by decide) hj e'
    injection hb with hb
    subst hb
    rw [c1, bI_nz, bI_z, c3]
    refine ⟨fun hp => ?_, fun hp => ?_⟩
    · have cf := c7 hp
      refine ⟨la, rfl, cf.1.1, K_heldStep (d := d) cf.1 cf.2.1.2.2.1 h60 (fun x hx ex => ⟨fun k => (by cases k), fun y hy => ?_⟩) (fun h => ⟨fun _ => ?_, fun y hy => (by cases hy)⟩)⟩
      · obtain ⟨k1, k2⟩ := inH_of h60 hx ex
        have hx : x < gH P := hx
        obtain ⟨z1, -, -, -, -, -, -, -, -, z2, z3, z4, z5⟩ := (cf.1.2.2.2.2.2.2.2 x (by omega)).2
        have v2 : getF H (stA la x + 6) = (gV P x).2 := (cf.2.1.2.2.2.2.2 x hx).1.2
        injection hy with hy
        subst hy
        refine ⟨z1, stA la x + 6, z4, z5, (rk.1 a ha).2.1.1, ?_⟩
        rw [getF_1 v2]
        have hqk : ∀ H', Fr RcS H H' → CRk H' (stoK K a j 1 (gV P x).2.1.toInt32) → q H' (stoA a 1) := fun H' F' c' => by
          have := hq H' F'
          rw [if_pos ⟨r1, i1, hp, k1⟩, if_pos r1, if_pos i1, if_pos hp, if_pos k1, r2, i2, k2] at this
          exact this c'
        subst e'
        unfold stoK stoA at hqk
        refine K_cstoreR (d := d) rk ha hj (by decide) rfl (fun ht H' F' c' => ⟨fun k => (by cases k), fun _ => ?_⟩) (fun ht => ⟨fun _ => ?_, fun k => (by cases k)⟩)
        · have := hqk H' F'
          rw [if_pos ht, if_pos ht] at this
          exact this c'
        · have := hqk H Fr.rf
          rw [if_neg ht, if_neg ht] at this
          exact this rk
      · have h : k.toInt < 0 ∨ (gH P : Int) ≤ k.toInt := h
        have hk : ¬ inH P k := fun x => by have := x.1; have := x.2; omega
        rw [if_neg (fun x => hk x.2.2.2), if_pos r1, if_pos i1, if_pos hp, if_neg hk] at h0
        exact h0 rk
    · rw [if_neg (fun x => by rw [hp] at x; cases x.2.2.1), if_pos r1, if_pos i1, if_neg (by rw [hp]; decide)] at h0
      exact h0 rk
  · obtain ⟨r1, r2⟩ := inN_of (n := 3) (by decide) ha e
    rw [if_neg (fun x => notN (n := 6) h x.2.1), if_pos r1, if_neg (notN (n := 6) h)] at h0
    exact h0 rk
  · rw [if_neg (fun x => notN (n := 3) h x.1), if_neg (notN (n := 3) h)] at h0
    exact h0 rk
theorem K_mhold {d m : Nat} {q : HP → Int32 → Prop} {H : HP} {K : RKt} {pr : Bool} {P : PG} {r i k : Int32} (sm : shM H m) (c : MPr H m pr P) (ok : okPG P) (rk : MRk H m K) (hq : ∀ H', Fr (RmS m) H H' → MRk H' m (holdK K pr P r i k) → q H' (holdA pr P r i k)) : CI (d + 3) 0 0 mX12_hold [rv (some m), .int r, .int i, .int k] H q := by
  have h60 : gH P ≤ 60 := by have := ok.2.1; have := ok.2.2.1; omega
  refine C_X12_hold ?_
  unfold wb_X12_hold_0
  have h0 := hq H Fr.rf
  unfold holdK holdA at h0 hq
  refine K_misRack (d := d) (fun a ha e => ⟨fun _ => K_misPlace (d := d) (fun j hj e' => ⟨fun _ => ⟨sm.1, ?_⟩, fun k => (by cases k)⟩) (fun h => ⟨fun k => (by cases k), fun _ => ?_⟩), fun k => (by cases k)⟩) (fun h => ⟨fun k => (by cases k), fun _ => ?_⟩)
  · obtain ⟨r1, r2⟩ := inN_of (n := 3) (by decide) ha e
    obtain ⟨i1, i2⟩ := inN_of (n := 6) (by decide) hj e'
    rw [c.1, bI_nz, bI_z]
    refine ⟨fun hp => ?_, fun hp => ?_⟩
    · obtain ⟨⟨j1, j2, j3⟩, -, -⟩ := c.2 hp
      obtain ⟨u1, u2, u3, u4⟩ := mA_valueUp sm
      refine K_isStep (d := d) sm j1 h60 (fun x hx ex => ⟨fun k => (by cases k), fun _ => ⟨sm.1, m + 23, u1, u2, ?_, ?_⟩⟩) (fun h => ⟨fun _ => ?_, fun k => (by cases k)⟩)
      · have hx : x < gH P := hx
        rw [ex, u4]; exact vpi_of (by omega) (by decide)
      · obtain ⟨k1, k2⟩ := inH_of h60 hx ex
        have hx' : x < gH P := hx
        rw [ex, u3, iN_cl (by omega), (j3 x hx).1.2.2.1]
        subst e
        subst e'
        refine K_mstoreR (d := d + 1) sm rk ha hj fun H' F' c' => ?_
        have := hq H' F'
        rw [if_pos ⟨r1, i1, hp, k1⟩, if_pos r1, if_pos i1, if_pos hp, if_pos k1, r2, i2, k2] at this
        exact this c'
      · have h : k.toInt < 0 ∨ (gH P : Int) ≤ k.toInt := h
        have hk : ¬ inH P k := fun x => by have := x.1; have := x.2; omega
        rw [if_neg (fun x => hk x.2.2.2), if_pos r1, if_pos i1, if_pos hp, if_neg hk] at h0
        exact h0 rk
    · rw [if_neg (fun x => by rw [hp] at x; cases x.2.2.1), if_pos r1, if_pos i1, if_neg (by rw [hp]; decide)] at h0
      exact h0 rk
  · obtain ⟨r1, r2⟩ := inN_of (n := 3) (by decide) ha e
    rw [if_neg (fun x => notN (n := 6) h x.2.1), if_pos r1, if_neg (notN (n := 6) h)] at h0
    exact h0 rk
  · rw [if_neg (fun x => notN (n := 3) h x.1), if_neg (notN (n := 3) h)] at h0
    exact h0 rk
def rackA (K : RKt) (r i w : Int32) : Int32 := if inN 3 r ∧ inN 2 w then (if inN 6 i then (if (K r.toInt.toNat i.toInt.toNat).1 = -1 then -6 else if w = 0 then (K r.toInt.toNat i.toInt.toNat).1 else (K r.toInt.toNat i.toInt.toNat).2) else -7) else -1
theorem K_crack {d : Nat} {q : HP → Int32 → Prop} {H : HP} {K : RKt} {r i w : Int32} (s : shP H) (rk : CRk H K) (hq : q H (rackA K r i w)) : CI (d + 2) 0 0 mX11_rack [rv (some 0), .int r, .int i, .int w] H q := by
  obtain ⟨s1, s2, s3, -⟩ := id s
  refine C_X11_rack ?_
  unfold wb_X11_rack_0
  unfold rackA at hq
  have e1 : (1 : Int32).toInt = 1 := rfl
  refine ⟨s1, K_rackAt (d := d) s rk.1 (fun a ha e => ⟨fun k => (by cases k), fun b hb => ?_⟩) (fun h => ⟨fun _ => ?_, fun b hb => (by cases hb)⟩)⟩
  · obtain ⟨r1, r2⟩ := inN_of (n := 3) (by decide) ha e
    injection hb with hb
    subst hb
    rw [i32_lt, i32_le, i32_0, e1]
    refine ⟨fun h => ?_, fun h => ⟨fun h2 => K_isPlace (d := d) (fun j hj e' => ⟨fun _ => ?_, fun k => (by cases k)⟩) (fun h3 => ⟨fun k => (by cases k), fun _ => ?_⟩), fun h2 => ?_⟩⟩
    · rw [if_neg (fun k => by have := k.2.1; omega)] at hq; exact hq
    · obtain ⟨i1, i2⟩ := inN_of (n := 6) (by decide) hj e'
      obtain ⟨sh1, sh2, sh3, sh4, sh5⟩ := (rk.1 a ha).2.1
      obtain ⟨v1, v2⟩ := rk.2 a ha j hj
      rw [if_pos ⟨r1, by omega, by omega⟩, if_pos i1, r2, i2] at hq
      subst e'
      have in6 : vp_in (Int32.ofNat j) (ln H (1109 + 3 * a + 1)) := by rw [ln_of sh3]; exact vpi_of hj (by decide)
      refine ⟨sh1, 1109 + 3 * a + 1, sh2, isA_of sh3 (by decide) (by decide), in6, ?_⟩
      rw [tg_of sh3, iN_cl (by omega), v1]
      refine ⟨fun hk => ⟨fun hw => ⟨1109 + 3 * a + 2, sh4, isA_of sh5 (by decide) (by decide), by rw [ln_of sh5]; exact vpi_of hj (by decide), ?_⟩, fun hw => ⟨in6, ?_⟩⟩, fun hk => ?_⟩
      · rw [if_neg hk, if_neg hw] at hq
        rw [tg_of sh5, v2]; exact hq
      · rw [if_neg hk, if_pos hw] at hq; exact hq
      · rw [if_pos hk] at hq; exact hq
    · rw [if_pos ⟨r1, by omega, by omega⟩, if_neg (notN (n := 6) h3)] at hq; exact hq
    · rw [if_neg (fun k => by have := k.2.2; omega)] at hq; exact hq
  · rw [if_neg (fun k => notN (n := 3) h k.1)] at hq; exact hq
theorem K_mrack {d m : Nat} {q : HP → Int32 → Prop} {H : HP} {K : RKt} {r i w : Int32} (sm : shM H m) (rk : MRk H m K) (ok : okRK K) (hq : q H (rackA K r i w)) : CI (d + 3) 0 0 mX12_rack [rv (some m), .int r, .int i, .int w] H q := by
  refine C_X12_rack ?_
  unfold wb_X12_rack_0
  unfold rackA at hq
  have e1 : (1 : Int64).toInt = 1 := rfl
  refine K_misRack (d := d) (fun a ha e => ⟨fun k => (by cases k), fun _ => K_isIn (d := d + 1) ?_⟩) (fun h => ⟨fun _ => ?_, fun k => (by cases k)⟩)
  · obtain ⟨r1, r2⟩ := inN_of (n := 3) (by decide) ha e
    rw [i64_of32, i64_0, e1]
    refine ⟨fun hb => ?_, fun hb => ?_⟩
    · have hb := of_decide_eq_true hb
      have hw2 : inN 2 w := ⟨hb.1, by omega⟩
      refine K_misPlace (d := d) (fun j hj e' => ⟨fun _ => ⟨sm.1, ?_⟩, fun k => (by cases k)⟩) (fun h3 => ⟨fun k => (by cases k), fun _ => ?_⟩)
      · obtain ⟨i1, i2⟩ := inN_of (n := 6) (by decide) hj e'
        obtain ⟨v1, v2⟩ := rk a ha j hj
        obtain ⟨x1, x2, x3, x4⟩ := mA_rackKind sm
        obtain ⟨y1, y2, y3, y4⟩ := mA_rackNumber sm
        rw [if_pos ⟨r1, hw2⟩, if_pos i1, r2, i2] at hq
        subst e
        subst e'
        have in18 : vp_in (Int32.ofNat (6 * a + j)) 18 := vpi_of (by omega) (by decide)
        have hk : (0 : Int32) ≤ (K a j).1 ↔ ¬ (K a j).1 = -1 := by
          rcases ok a j with h | h | h <;> rw [h] <;> decide
        rw [ix6 (by omega)]
        refine ⟨m + 35, x1, x2, by rw [x4]; exact in18, ?_⟩
        rw [x3, iN_cl (by omega), v1, hk]
        refine ⟨fun hk => ⟨fun hw => ⟨m + 36, y1, y2, by rw [y4]; exact in18, ?_⟩, fun hw => ⟨by rw [x4]; exact in18, ?_⟩⟩, fun hk => ?_⟩
        · rw [if_neg hk, if_neg hw] at hq
          rw [y3, v2]; exact hq
        · rw [if_neg hk, if_pos hw] at hq; exact hq
        · rw [if_pos (Classical.byContradiction hk)] at hq; exact hq
      · rw [if_pos ⟨r1, hw2⟩, if_neg (notN (n := 6) h3)] at hq; exact hq
    · have hb := of_decide_eq_false hb
      rw [if_neg (fun k => hb ⟨k.2.1, by have := k.2.2; omega⟩)] at hq; exact hq
  · rw [if_neg (fun k => notN (n := 3) h k.1)] at hq; exact hq
