
theorem ext_tg {P : Nat → Prop} {H H' : HP} {a t : Nat} (h : Ext P H H') (ha : a < hN H) (e : tg H a = t) : tg H' a = t := by
  have := h.2.2.1 a ha
  unfold tg at e ⊢; rw [this]; exact e
theorem ext_zUnit {P : Nat → Prop} {H H' : HP} {a : Nat} (h : Ext P H H') (h1 : a + 5 ≤ hN H) (h2 : ∀ x, a ≤ x → x < a + 5 → ¬ P x) (z : zUnit H a) : zUnit H' a := by
  obtain ⟨⟨z1, z2, z3, z4, z5, z6, z7, z8, z9⟩, y1, y2, y3, y4, y5⟩ := z
  obtain ⟨e1, e2, e3, e4, e5, e6, e7, e8, e9⟩ := id h
  refine ⟨⟨ext_tg h (by omega) z1, ?_, ?_, ?_, ?_, ?_, ext_tg h (by omega) z7, ?_, ext_tg h (by omega) z9⟩, ?_, fun j => ?_, fun j => ?_, ?_, ?_⟩
  · rw [e9 _ _ (by omega) (h2 _ (by omega) (by omega))]; exact z2
  · rw [e3 _ (by omega)]; exact z3
  · rw [e9 _ _ (by omega) (h2 _ (by omega) (by omega))]; exact z4
  · rw [e3 _ (by omega)]; exact z5
  · rw [e9 _ _ (by omega) (h2 _ (by omega) (by omega))]; exact z6
  · rw [e9 _ _ (by omega) (h2 _ (by omega) (by omega))]; exact z8
  · rw [e4 _ _ (by omega) (h2 _ (by omega) (by omega))]; exact y1
  · rw [e4 _ _ (by omega) (h2 _ (by omega) (by omega))]; exact y2 j
  · rw [e4 _ _ (by omega) (h2 _ (by omega) (by omega))]; exact y3 j
  · show (hL _ 400 (a + 3) 0, hL _ 401 (a + 3) 0) = _
    rw [e5 _ _ (by omega) (h2 _ (by omega) (by omega)), e5 _ _ (by omega) (h2 _ (by omega) (by omega))]; exact y4
  · show (hL _ 400 (a + 4) 0, hL _ 401 (a + 4) 0) = _
    rw [e5 _ _ (by omega) (h2 _ (by omega) (by omega)), e5 _ _ (by omega) (h2 _ (by omega) (by omega))]; exact y5
def zUnits (H : HP) (a : Nat) : Prop := shUnits H a ∧ hI H 1101 a 0 = 0 ∧ ∀ i, i < 20 → zUnit H (a + 2 + 5 * i)
theorem usinit_loop {d : Nat} {q : HP → Prop} {H0 : HP} {a : Nat} (h0 : hN H0 = a + 1) (hlim : a + 102 < scrA) (hq : ∀ H', Ext (fun x => x = a) H0 H' → hN H' = a + 102 → zUnits H' a → q H') : ∀ (k i : Nat) (H : HP), k + i = 20 → Ext (fun x => x = a) H0 H → hN H = a + 2 + 5 * i → tg H a = 11 → hC H 1100 a = some (a + 1) → hT H (a + 1) = (4358, 20) → hI H 1101 a 0 = 0 → (∀ j, j < i → hR H 4358 (a + 1) j = some (a + 2 + 5 * j) ∧ zUnit H (a + 2 + 5 * j)) → L_X10_init_20 (d + 2) (5 * k) (18 * k) q a (Int32.ofNat i) H := by
  have hs : scrA = 1000000 := rfl
  have e20 : (20 : Int32) = Int32.ofNat 20 := rfl
  intro k
  induction k with
  | zero =>
    intro i H hi E hn h1 h2 h3 h4 hj
    refine T_X10_init_20 ?_
    unfold wb_X10_init_20
    rw [e20, iN_le (by omega) (by omega)]
    exact ⟨fun _ => hq H E (by omega) ⟨⟨h1, h2, h3, fun j hj' => ⟨(hj j (by omega)).1, (hj j (by omega)).2.1⟩⟩, h4, fun j hj' => (hj j (by omega)).2⟩, fun h => by omega⟩
  | succ k ih =>
    intro i H hi E hn h1 h2 h3 h4 hj
    refine T_X10_init_20 ?_
    unfold wb_X10_init_20
    rw [e20, iN_le (by omega) (by omega)]
    refine ⟨fun h => by omega, fun _ => ⟨h1, by omega, by omega, by omega, by omega, by omega, ?_⟩⟩
    have E1 : Ext (fun x => x = a + 1) H (nw H 10 0) := Ext_nw
    have hlen : hN (nw H 10 0) = hN H + 1 := rfl
    refine K_uinit (tg_self H 10 0) rfl (by omega) fun H7 E7 n7 z7 => ?_
    have E17 : Ext (fun x => x = a + 1) H H7 := E1.tr E7 (fun x hx k => by omega)
    have t7 : hT H7 (a + 1) = (4358, 20) := by rw [E17.2.2.1 _ (by omega)]; exact h3
    have tn : tg H7 (hN H) = 10 := z7.1.1
    refine ⟨a + 1, h2, isA_of t7 (by decide) (by decide), ?_, tn, ?_⟩
    · rw [ln_of t7]; exact vpi_of (by omega) (by omega)
    · rw [tg_of t7, iN_cl (by omega), iN_inc (by omega)]
      have c1 : 5 * (k + 1) - 1 - 4 = 5 * k := by omega
      have c2 : 18 * (k + 1) - 5 - 13 = 18 * k := by omega
      rw [c1, c2]
      have E8 : Ext (fun x => x = a + 1) H7 (sR H7 4358 (a + 1) i (some (hN H))) := Ext_sR rfl
      have E78 : Ext (fun x => x = a + 1) H (sR H7 4358 (a + 1) i (some (hN H))) := E17.tr E8 (fun _ _ k => k)
      refine ih (i + 1) _ (by omega) (E.tr E78 (fun x hx k => by omega)) (by show hN H7 = _; omega) (ext_tg E78 (by omega) h1) ?_ t7 ?_ (fun j hj' => ⟨?_, ?_⟩)
      · rw [E78.2.2.2.2.2.2.2.2 _ _ (by omega) (by omega)]; exact h2
      · rw [E78.2.2.2.1 _ _ (by omega) (by omega)]; exact h4
      · show u3 (hR H7) 4358 (a + 1) i (some (hN H)) 4358 (a + 1) j = _
        by_cases e : j = i
        · rw [e, u3_same, hn]
        · rw [u3_i _ _ _ _ _ _ e]
          have ER : Ext (fun _ => False) H (nw H 10 0) := Ext_nw
          have ER7 : Ext (fun _ => False) H H7 := ER.tr E7 (fun x hx k => by omega)
          rw [ER7.2.2.2.2.2.2.2.1 _ _ (by omega) (fun k => k)]
          exact (hj j (by omega)).1
      · by_cases e : j = i
        · rw [e, ← hn]
          exact ext_zUnit E8 (by omega) (fun x k1 k2 k3 => by omega) z7
        · exact ext_zUnit E78 (by omega) (fun x k1 k2 k3 => by omega) (hj j (by omega)).2
theorem K_usinit {d : Nat} {q : HP → Prop} {H : HP} {a : Nat} (ht : tg H a = 11) (hn : hN H = a + 1) (hlim : a + 102 < scrA) (hq : ∀ H', Ext (fun x => x = a) H H' → hN H' = a + 102 → zUnits H' a → q H') : CV (d + 3) 101 380 mX10_init [rv (some a)] H q := by
  have hs : scrA = 1000000 := rfl
  refine C_X10_init ?_
  unfold wb_X10_init_0
  have t1 : tg (nw H 4358 20) a = 11 := by rw [tg_nw, if_neg (by omega)]; exact ht
  refine ⟨by omega, by omega, by omega, t1, ?_⟩
  have E : Ext (fun x => x = a) H (sI (sC (nw H 4358 20) 1100 a (some (hN H))) 1101 a 0 (0 : Int32)) := ((Ext_nw (P := fun x => x = a)).tr (Ext_sC (P := fun x => x = a) rfl) (fun _ _ k => k)).tr (Ext_sI (P := fun x => x = a) rfl) (fun _ _ k => k)
  refine usinit_loop hn hlim hq 20 0 _ rfl E (by show hN H + 1 = _; omega) t1 ?_ ?_ ?_ (fun j hj => by omega)
  · show u2 _ 1100 a (some (hN H)) 1100 a = _
    unfold u2; rw [if_pos ⟨rfl, rfl⟩, hn]
  · show u1 (hT H) (hN H) (4358, 20) (a + 1) = _
    unfold u1; rw [if_pos (by omega)]
  · rw [hI_sI, u3_same]
