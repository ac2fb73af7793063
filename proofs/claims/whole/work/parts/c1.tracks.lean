
/-! ===== tracks on both sides ===== -/
abbrev TRK : Type := Int32 × Nat × (Nat → Option UInt32) × (Nat → Option UInt64)
def tS (T : TRK) : Int32 := T.1
def tN (T : TRK) : Nat := T.2.1
def tF (T : TRK) : Nat → Option UInt32 := T.2.2.1
def tD (T : TRK) : Nat → Option UInt64 := T.2.2.2
abbrev TRs : Type := Nat → TRK
def okTk (T : TRK) : Prop := (tS T = -1 ∨ tS T = 0 ∨ tS T = 1) ∧ tN T ≤ 30 ∧ (∀ k v, tF T k = some v → FP.Core.val32 v ≠ .nan) ∧ (∀ k v, tD T k = some v → FP.Core.val64 v ≠ .nan)
def okTR (T : TRs) : Prop := ∀ t, okTk (T t)
def cfv (x : UInt64) (o : Int32) (w : Option UInt32) : Prop := match w with
  | none => o = 1
  | some v => o = 0 ∧ x = FP.f2d v
def cdv (x : UInt64) (o : Int32) (w : Option UInt64) : Prop := match w with
  | none => o = 1
  | some v => o = 0 ∧ x = v
def mfv (x : UInt32) (w : Option UInt32) : Prop := match w with
  | none => FP.Core.val32 x = .nan
  | some v => x = v
def mdv (x : UInt64) (w : Option UInt64) : Prop := match w with
  | none => FP.Core.val64 x = .nan
  | some v => x = v
def CT1 (H : HP) (a : Nat) (T : TRK) : Prop := hI H 900 a 0 = tS T ∧ hI H 901 a 0 = Int32.ofNat (tN T) ∧ (tS T = 0 → ∀ k, k < 30 → cfv (hD H 4165 (a + 1) k) (hI H 4178 (a + 2) k) (tF T k)) ∧ (tS T = 1 → ∀ k, k < 30 → cdv (hD H 4165 (a + 1) k) (hI H 4178 (a + 2) k) (tD T k))
def CTr (H : HP) (T : TRs) : Prop := shTracks H ∧ ∀ t, t < 4 → CT1 H (1097 + 3 * t) (T t)
def MT1 (H : HP) (m t : Nat) (T : TRK) : Prop := hI H 5120 (m + 31) t = tS T ∧ hI H 5136 (m + 32) t = Int32.ofNat (tN T) ∧ (tS T = 0 → ∀ k, k < 30 → mfv (hF H 5156 (m + 33) (30 * t + k)) (tF T k)) ∧ (tS T = 1 → ∀ k, k < 30 → mdv (hD H 5173 (m + 34) (30 * t + k)) (tD T k))
def MTr (H : HP) (m : Nat) (T : TRs) : Prop := ∀ t, t < 4 → MT1 H m t (T t)
def putT (T : TRs) (t : Nat) (v : TRK) : TRs := fun t' => if t' = t then v else T t'
theorem okTR_put {T : TRs} {t : Nat} {v : TRK} (h : okTR T) (hv : okTk v) : okTR (putT T t v) := fun t' => by
  unfold putT
  split
  · exact hv
  · exact h t'
abbrev TcS : Nat → Nat → Prop := fun _ x => 1097 ≤ x ∧ x < 1109
abbrev T1S (a : Nat) : Nat → Nat → Prop := fun _ x => a ≤ x ∧ x < a + 3
abbrev TmS (m : Nat) : Nat → Nat → Prop := fun _ x => m + 31 ≤ x ∧ x ≤ m + 34
theorem fr_CT1 {S : Nat → Nat → Prop} {H H' : HP} {a : Nat} {T : TRK} (h : Fr S H H') (h1 : ∀ g x, a ≤ x → x < a + 3 → ¬ S g x) (s : CT1 H a T) : CT1 H' a T := by
  have hi := h.2.2.2.2.1
  have hd := h.2.2.2.2.2.2.2.1
  unfold CT1 at s ⊢
  rw [hi _ _ (h1 900 a (by omega) (by omega)), hi _ _ (h1 901 a (by omega) (by omega)), hi _ _ (h1 4178 (a + 2) (by omega) (by omega)), hd _ _ (h1 4165 (a + 1) (by omega) (by omega))]
  exact s
theorem fr_shTracks {S : Nat → Nat → Prop} {H H' : HP} (h : Fr S H H') (h1 : ¬ S 4568 1090) (s : shTracks H) : shTracks H' := fun i hi => by
  obtain ⟨s1, s2⟩ := s i hi
  refine ⟨by rw [h.2.2.2.2.2.2.2.2 _ _ h1]; exact s1, ?_⟩
  unfold shTrack at s2 ⊢
  rw [fr_tg h, h.2.1, h.1]; exact s2
theorem fr_CTr {S : Nat → Nat → Prop} {H H' : HP} {T : TRs} (h : Fr S H H') (h1 : ¬ S 4568 1090) (h2 : ∀ g x, 1097 ≤ x → x < 1109 → ¬ S g x) (s : CTr H T) : CTr H' T := ⟨fr_shTracks h h1 s.1, fun t ht => fr_CT1 h (fun g x k1 k2 => h2 g x (by omega) (by omega)) (s.2 t ht)⟩
theorem fr_MTr {S : Nat → Nat → Prop} {H H' : HP} {m : Nat} {T : TRs} (h : Fr S H H') (h1 : ∀ g x, m + 31 ≤ x → x ≤ m + 34 → ¬ S g x) (s : MTr H m T) : MTr H' m T := fun t ht => by
  have hi := h.2.2.2.2.1
  have hf := h.2.2.2.2.2.2.1
  have hd := h.2.2.2.2.2.2.2.1
  have s := s t ht
  unfold MT1 at s ⊢
  rw [hi _ _ (h1 5120 (m + 31) (by omega) (by omega)), hi _ _ (h1 5136 (m + 32) (by omega) (by omega)), hf _ _ (h1 5156 (m + 33) (by omega) (by omega)), hd _ _ (h1 5173 (m + 34) (by omega) (by omega))]
  exact s
theorem CTr_put {H H' : HP} {T : TRs} {t : Nat} {v : TRK} (s : CTr H T) (ht : t < 4) (F : Fr (T1S (1097 + 3 * t)) H H') (c : CT1 H' (1097 + 3 * t) v) : Fr TcS H H' ∧ CTr H' (putT T t v) := by
  refine ⟨F.mono (fun g x k => ⟨by omega, by omega⟩), fr_shTracks F (fun k => by omega) s.1, fun t' ht' => ?_⟩
  unfold putT
  by_cases e : t' = t
  · rw [if_pos e, e]; exact c
  · rw [if_neg e]
    exact fr_CT1 F (fun g x k1 k2 k3 => by omega) (s.2 t' ht')
/-- the reference's other tracks are left as they are -/
def offT (H H' : HP) (m t : Nat) : Prop := (∀ t', t' ≠ t → hI H' 5120 (m + 31) t' = hI H 5120 (m + 31) t' ∧ hI H' 5136 (m + 32) t' = hI H 5136 (m + 32) t') ∧ ∀ t' k, t' ≠ t → k < 30 → hF H' 5156 (m + 33) (30 * t' + k) = hF H 5156 (m + 33) (30 * t' + k) ∧ hD H' 5173 (m + 34) (30 * t' + k) = hD H 5173 (m + 34) (30 * t' + k)
theorem MTr_put {H H' : HP} {m : Nat} {T : TRs} {t : Nat} {v : TRK} (s : MTr H m T) (o : offT H H' m t) (c : MT1 H' m t v) : MTr H' m (putT T t v) := fun t' ht' => by
  unfold putT
  by_cases e : t' = t
  · rw [if_pos e, e]; exact c
  · rw [if_neg e]
    obtain ⟨s1, s2, s3, s4⟩ := s t' ht'
    refine ⟨by rw [(o.1 t' e).1]; exact s1, by rw [(o.1 t' e).2]; exact s2, fun h k hk => ?_, fun h k hk => ?_⟩
    · rw [(o.2 t' k e hk).1]; exact s3 h k hk
    · rw [(o.2 t' k e hk).2]; exact s4 h k hk
theorem inN_of2 {n i : Nat} {x : Int32} (hn : n ≤ 1000) (hi : i < n) (e : x = Int32.ofNat i) : inN n x ∧ x.toInt.toNat = i := by
  rw [e, inN, iN_toInt (by omega)]
  exact ⟨⟨by omega, by omega⟩, by omega⟩
def barA (T : TRs) (t i : Int32) : Int32 := if inN 4 t then (if tS (T t.toInt.toNat) = -1 then -6 else if inN (tN (T t.toInt.toNat)) i then 0 else -7) else -1
theorem K_isNothing {d : Nat} {q : HP → Bool → Prop} {H : HP} {a : Nat} {T : TRK} (ht : tg H a = 9) (c : CT1 H a T) (ok : okTk T) (h1 : tS T = -1 → q H true) (h0 : tS T ≠ -1 → (tS T = 0 ∨ tS T = 1) → q H false) : CZ (d + 1) 0 0 mX8_isNothing [rv (some a)] H q := by
  refine C_X8_isNothing ?_
  unfold wb_X8_isNothing_0
  refine ⟨ht, ?_⟩
  rw [c.1]
  rcases ok.1 with h | h | h
  · rw [h]; exact ⟨fun k => absurd k (by decide), fun _ => h1 h⟩
  · rw [h]; exact ⟨fun _ => h0 (by rw [h]; decide) (Or.inl h), fun k => absurd (show (0 : Int32) ≤ 0 by decide) k⟩
  · rw [h]; exact ⟨fun _ => h0 (by rw [h]; decide) (Or.inr h), fun k => absurd (show (0 : Int32) ≤ 1 by decide) k⟩
theorem K_crefuse {d : Nat} {q : HP → Int32 → Prop} {H : HP} {T : TRs} {t i : Int32} (s : shP H) (c : CTr H T) (ok : okTR T) (h0 : ∀ a j, a < 4 → j < tN (T a) → j < 30 → t = Int32.ofNat a → i = Int32.ofNat j → t.toInt.toNat = a → i.toInt.toNat = j → (tS (T a) = 0 ∨ tS (T a) = 1) → barA T t i = 0 → q H 0) (h1 : barA T t i ≠ 0 → q H (barA T t i)) : CI (d + 2) 0 0 mX11_itemRefusal [rv (some 0), .int t, .int i] H q := by
  refine C_X11_itemRefusal ?_
  unfold wb_X11_itemRefusal_0
  refine ⟨s.1, K_trackAt (d := d) s c.1 (fun a ha e => ⟨fun k => (by cases k), fun b hb => ?_⟩) (fun h => ⟨fun _ => ?_, fun b hb => (by cases hb)⟩)⟩
  · injection hb with hb
    subst hb
    obtain ⟨n1, n2⟩ := inN_of2 (n := 4) (by decide) ha e
    have hb : barA T t i = if tS (T a) = -1 then -6 else if inN (tN (T a)) i then 0 else -7 := by
      unfold barA; rw [if_pos n1, n2]
    have h30 := (ok a).2.1
    refine ⟨(c.1 a ha).2.1, K_isNothing (d := d) (c.1 a ha).2.1 (c.2 a ha) (ok a) (fun h => ⟨fun k => (by cases k), fun _ => ?_⟩) (fun h h01 => ⟨fun _ => ⟨fun hi => ?_, fun hi => ⟨(c.1 a ha).2.1, ?_⟩⟩, fun k => (by cases k)⟩)⟩
    · rw [if_pos h] at hb
      rw [← hb]; exact h1 (by rw [hb]; decide)
    · rw [i32_lt, i32_0] at hi
      rw [if_neg h, if_neg (fun k => by have := k.1; omega)] at hb
      rw [← hb]; exact h1 (by rw [hb]; decide)
    · rw [i32_lt, i32_0] at hi
      rw [(c.2 a ha).2.1, i32_lt, iN_toInt (by omega)]
      refine ⟨fun h2 => ?_, fun h2 => ?_⟩
      · rw [if_neg h, if_pos ⟨by omega, h2⟩] at hb
        exact h0 a i.toInt.toNat ha (by omega) (by omega) e (iN_inj (by omega) (by omega)) n2 rfl h01 hb
      · rw [if_neg h, if_neg (fun k => h2 k.2)] at hb
        rw [← hb]; exact h1 (by rw [hb]; decide)
  · have hb : barA T t i = -1 := by unfold barA; rw [if_neg (notN (n := 4) h)]
    rw [← hb]; exact h1 (by rw [hb]; decide)
theorem K_isTrack {d : Nat} {q : HP → Bool → Prop} {H : HP} {x : Int32} (h1 : ∀ i : Nat, i < 4 → x = Int32.ofNat i → q H true) (h0 : (x.toInt < 0 ∨ (4 : Int) ≤ x.toInt) → q H false) : CZ (d + 2) 0 0 mX12_isTrack [.int x] H q := by
  refine C_X12_isTrack ?_
  unfold wb_X12_isTrack_0
  exact K_inN (n := 4) (by decide) rfl h1 h0
theorem K_barred {d m : Nat} {q : HP → Int32 → Prop} {H : HP} {T : TRs} {t i : Int32} (sm : shM H m) (c : MTr H m T) (ok : okTR T) (h0 : ∀ a j, a < 4 → j < tN (T a) → j < 30 → t = Int32.ofNat a → i = Int32.ofNat j → t.toInt.toNat = a → i.toInt.toNat = j → (tS (T a) = 0 ∨ tS (T a) = 1) → barA T t i = 0 → q H 0) (h1 : barA T t i ≠ 0 → q H (barA T t i)) : CI (d + 3) 0 0 mX12_barred [rv (some m), .int t, .int i] H q := by
  refine C_X12_barred ?_
  unfold wb_X12_barred_0
  refine K_isTrack (d := d) (fun a ha e => ⟨fun _ => ⟨sm.1, ?_⟩, fun k => (by cases k)⟩) (fun h => ⟨fun k => (by cases k), fun _ => ?_⟩)
  · obtain ⟨n1, n2⟩ := inN_of2 (n := 4) (by decide) ha e
    have hb : barA T t i = if tS (T a) = -1 then -6 else if inN (tN (T a)) i then 0 else -7 := by
      unfold barA; rw [if_pos n1, n2]
    have h30 := (ok a).2.1
    obtain ⟨x1, x2, x3, x4⟩ := mA_sort sm
    obtain ⟨y1, y2, y3, y4⟩ := mA_size sm
    have e' := e
    subst e'
    refine ⟨m + 31, x1, x2, by rw [x4]; exact vpi_of ha (by decide), ?_⟩
    rw [x3, iN_cl (by omega), (c a ha).1]
    have hs : 0 ≤ tS (T a) ↔ tS (T a) ≠ -1 := by
      rcases (ok a).1 with h | h | h <;> rw [h] <;> decide
    have h01 : tS (T a) ≠ -1 → (tS (T a) = 0 ∨ tS (T a) = 1) := fun h => by
      rcases (ok a).1 with k | k | k
      · exact absurd k h
      · exact Or.inl k
      · exact Or.inr k
    rw [hs]
    refine ⟨fun h => ⟨m + 32, y1, y2, by rw [y4]; exact vpi_of ha (by decide), K_isIn (d := d + 1) ?_⟩, fun h => ?_⟩
    · have h := h
      rw [y3, (c a ha).2.1, i64_of32, i64_of32, i64_0]
      have em : (Int32.ofNat (tN (T a)) - 1).toInt = (tN (T a) : Int) - 1 := by
        have e0 := iN_toInt (n := tN (T a)) (by omega)
        have e1 : (1 : Int32).toInt = 1 := rfl
        rw [Int32.toInt_sub, e0, e1]
        exact Int.bmod_eq_of_le (by omega) (by omega)
      rw [em]
      refine ⟨fun hd => ?_, fun hd => ?_⟩
      · have hd := of_decide_eq_false hd
        rw [if_neg h, if_neg (fun k => hd ⟨k.1, by have := k.2; omega⟩)] at hb
        rw [← hb]; exact h1 (by rw [hb]; decide)
      · have hd := of_decide_eq_true hd
        rw [if_neg h, if_pos ⟨hd.1, by omega⟩] at hb
        exact h0 a i.toInt.toNat ha (by omega) (by omega) rfl (iN_inj (by omega) (by omega)) n2 rfl (h01 h) hb
    · have h := Classical.byContradiction h
      rw [if_pos h] at hb
      rw [← hb]; exact h1 (by rw [hb]; decide)
  · have hb : barA T t i = -1 := by unfold barA; rw [if_neg (notN (n := 4) h)]
    rw [← hb]; exact h1 (by rw [hb]; decide)
