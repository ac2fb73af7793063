
def shProof (H : HP) (a : Nat) : Prop := tg H a = 5 ∧ hC H 500 a = some (a + 1) ∧ hT H (a + 1) = (4615, 60) ∧ hC H 505 a = some (a + 2) ∧ hT H (a + 2) = (4630, 4) ∧ hC H 506 a = some (a + 3) ∧ tg H (a + 3) = 4 ∧ ∀ i, i < 60 → hR H 4615 (a + 1) i = some (a + 4 + 7 * i) ∧ shStep H (a + 4 + 7 * i)
def zProof (H : HP) (a : Nat) : Prop := shProof H a ∧ hI H 501 a 0 = 0 ∧ hI H 502 a 0 = 0 ∧ hI H 503 a 0 = 0 ∧ hI H 504 a 0 = 0
theorem ext_step {P : Nat → Prop} {H H' : HP} {a : Nat} (h : Ext P H H') (h1 : a + 7 ≤ hN H) (h2 : ¬ P a) (z : shStep H a) : shStep H' a := by
  obtain ⟨z1, z2, z3, z4, z5, z6, z7, z8, z9, z10, z11, z12, z13⟩ := z
  exact ⟨ext_tg h (by omega) z1, ext_hC h (by omega) h2 z2, ext_hT h (by omega) z3, ext_hC h (by omega) h2 z4, ext_hT h (by omega) z5, ext_hC h (by omega) h2 z6, ext_hT h (by omega) z7, ext_hC h (by omega) h2 z8, ext_hT h (by omega) z9, ext_hC h (by omega) h2 z10, ext_hT h (by omega) z11, ext_hC h (by omega) h2 z12, ext_tg h (by omega) z13⟩
theorem pinit_loop {d : Nat} {q : HP → Prop} {H0 : HP} {a : Nat} (h0 : hN H0 = a + 1) (hlim : a + 424 < scrA) (hq : ∀ H', Ext (fun x => x = a) H0 H' → hN H' = a + 424 → zProof H' a → q H') : ∀ (k i : Nat) (H : HP), k + i = 60 → Ext (fun x => x = a) H0 H → hN H = a + 4 + 7 * i → tg H a = 5 → hC H 500 a = some (a + 1) → hT H (a + 1) = (4615, 60) → hC H 505 a = some (a + 2) → hT H (a + 2) = (4630, 4) → hC H 506 a = some (a + 3) → tg H (a + 3) = 4 → (hI H 501 a 0 = 0 ∧ hI H 502 a 0 = 0 ∧ hI H 503 a 0 = 0 ∧ hI H 504 a 0 = 0) → (∀ j, j < i → hR H 4615 (a + 1) j = some (a + 4 + 7 * j) ∧ shStep H (a + 4 + 7 * j)) → L_X4_init_54 (d + 2) (7 * k) (36 * k) q a (Int32.ofNat i) H := by
  have hs : scrA = 1000000 := rfl
  have e60 : (60 : Int32) = Int32.ofNat 60 := rfl
  intro k
  induction k with
  | zero =>
    intro i H hi E hn h1 h2 h3 h4 h5 h6 h7 h8 hj
    refine T_X4_init_54 ?_
    unfold wb_X4_init_54
    rw [e60, iN_le (by omega) (by omega)]
    exact ⟨fun _ => hq H E (by omega) ⟨⟨h1, h2, h3, h4, h5, h6, h7, fun j hj' => hj j (by omega)⟩, h8⟩, fun h => by omega⟩
  | succ k ih =>
    intro i H hi E hn h1 h2 h3 h4 h5 h6 h7 h8 hj
    refine T_X4_init_54 ?_
    unfold wb_X4_init_54
    rw [e60, iN_le (by omega) (by omega)]
    refine ⟨fun h => by omega, fun _ => ⟨h1, by omega, by omega, by omega, by omega, by omega, ?_⟩⟩
    have hlen : hN (nw H 7 0) = hN H + 1 := rfl
    refine K_sinit (tg_self H 7 0) rfl (by omega) fun H7 E7 n7 z7 => ?_
    have ER : Ext (fun _ => False) H (nw H 7 0) := Ext_nw
    have ER7 : Ext (fun _ => False) H H7 := ER.tr E7 (fun x hx k => by omega)
    have t7 : hT H7 (a + 1) = (4615, 60) := ext_hT ER7 (by omega) h3
    have tn : tg H7 (hN H) = 7 := z7.1
    refine ⟨a + 1, h2, isA_of t7 (by decide) (by decide), ?_, tn, ?_⟩
    · rw [ln_of t7]; exact vpi_of (by omega) (by omega)
    · rw [tg_of t7, iN_cl (by omega), iN_inc (by omega)]
      have c1 : 7 * (k + 1) - 1 - 6 = 7 * k := by omega
      have c2 : 36 * (k + 1) - 13 - 23 = 36 * k := by omega
      rw [c1, c2]
      have E8 : Ext (fun x => x = a + 1) H7 (sR H7 4615 (a + 1) i (some (hN H))) := Ext_sR rfl
      have E78 : Ext (fun x => x = a + 1) H (sR H7 4615 (a + 1) i (some (hN H))) := (ER7.mono (fun x _ k => k.elim)).tr E8 (fun _ _ k => k)
      have hi' := E78.2.2.2.1
      refine ih (i + 1) _ (by omega) (E.tr E78 (fun x hx k => by omega)) (by show hN H7 = _; omega) (ext_tg E78 (by omega) h1) (ext_hC E78 (by omega) (by omega) h2) t7 (ext_hC E78 (by omega) (by omega) h4) (ext_hT E78 (by omega) h5) (ext_hC E78 (by omega) (by omega) h6) (ext_tg E78 (by omega) h7) ?_ (fun j hj' => ⟨?_, ?_⟩)
      · rw [hi' _ _ (by omega) (by omega), hi' _ _ (by omega) (by omega), hi' _ _ (by omega) (by omega), hi' _ _ (by omega) (by omega)]; exact h8
      · show u3 (hR H7) 4615 (a + 1) i (some (hN H)) 4615 (a + 1) j = _
        by_cases e : j = i
        · rw [e, u3_same, hn]
        · rw [u3_i _ _ _ _ _ _ e, ER7.2.2.2.2.2.2.2.1 _ _ (by omega) (fun k => k)]
          exact (hj j (by omega)).1
      · by_cases e : j = i
        · rw [e, ← hn]
          exact ext_step E8 (by omega) (by omega) z7
        · exact ext_step E78 (by omega) (by omega) (hj j (by omega)).2
