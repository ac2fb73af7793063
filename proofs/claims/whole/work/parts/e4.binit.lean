
/-! ===== building the class: bits ===== -/
theorem mkD_2 : (4611686018427387904 : UInt64) = mkD 1 ((2 ^ 0 : Nat) : Int) := by decide +kernel
theorem mkD_end : mkD 1 ((2 ^ 10 : Nat) : Int) = 9218868437227405312 := by decide +kernel
theorem mkD_end_nn : FP.Core.val64 (mkD 1 ((2 ^ 10 : Nat) : Int)) ≠ .nan := by rw [mkD_end, inf_pos]; exact fun k => by cases k
theorem mkD_dbl {i : Nat} (hi : i < 10) : FP.dmul (mkD 1 ((2 ^ i : Nat) : Int)) (mkD 1 ((2 ^ i : Nat) : Int)) = mkD 1 ((2 ^ (i + 1) : Nat) : Int) := by
  rw [dmul_mkD (ex1 hi) (ex1 hi), Nat.pow_succ]
  congr 1
  omega
theorem mkD_nn10 {i : Nat} (hi : i < 10) : FP.Core.val64 (mkD 1 ((2 ^ (i + 1) : Nat) : Int)) ≠ .nan := by
  by_cases e : i = 9
  · subst e; exact mkD_end_nn
  · exact mkD_nn (ex1 (by omega))
theorem binit_loop {d ca sa : Nat} {q : HP → Prop} {H0 : HP} {b : Nat} (h0 : hN H0 ≤ b + 1) (hb : b < hN H0) (hq : ∀ H', Ext (fun x => x = b) H0 H' → hN H' = b + 2 → shBits H' b → q H') : ∀ (r i : Nat) (H : HP), r + i = 10 → Ext (fun x => x = b) H0 H → hN H = b + 2 → tg H b = 3 → hC H 300 b = some (b + 1) → hT H (b + 1) = (4101, 10) → (∀ j, j < i → hD H 4101 (b + 1) j = mkD 1 ((2 ^ j : Nat) : Int)) → L_X2_init_18 d ca sa q b (mkD 1 ((2 ^ i : Nat) : Int)) (Int32.ofNat i) H := by
  have e10 : (10 : Int32) = Int32.ofNat 10 := rfl
  intro r
  induction r with
  | zero =>
    intro i H e E hn h1 h2 h3 h4
    refine T_X2_init_18 ?_
    unfold wb_X2_init_18
    rw [e10, iN_le (by omega) (by omega)]
    have ei : i = 10 := by omega
    subst ei
    have E1 : Ext (fun x => x = b) H (sD H 301 b 0 (mkD 1 ((2 ^ 10 : Nat) : Int))) := Ext_sD rfl
    refine ⟨fun _ => ⟨h1, hq _ (E.tr E1 (fun _ _ k => k)) hn ⟨h1, h2, h3, fun j hj => ?_, ?_⟩⟩, fun k => by omega⟩
    · rw [hDs, if_neg (fun k => absurd k.1 (by decide))]; exact h4 j hj
    · rw [hDs, if_pos ⟨rfl, rfl, rfl⟩]; exact mkD_end
  | succ r ih =>
    intro i H e E hn h1 h2 h3 h4
    refine T_X2_init_18 ?_
    unfold wb_X2_init_18
    rw [e10, iN_le (by omega) (by omega)]
    refine ⟨fun k => by omega, fun _ => ⟨h1, b + 1, h2, isA_of h3 (by decide) (by decide), by rw [ln_of h3]; exact vpi_of (by omega) (by decide), fun r6 h6 => ?_⟩⟩
    rw [mkD_dbl (by omega)] at h6
    have e6 := ali64 h6 (mkD_nn10 (by omega))
    rw [e6, tg_of h3, iN_cl (by omega), iN_inc (by omega)]
    have E1 : Ext (fun x => x = b) H0 (sD H 4101 (b + 1) i (mkD 1 ((2 ^ i : Nat) : Int))) := E.tr (Ext_sD (P := fun x => x = b + 1) rfl) (fun x hx k => by omega)
    refine ih (i + 1) _ (by omega) E1 hn h1 h2 h3 (fun j hj => ?_)
    rw [hDs]
    by_cases ej : j = i
    · rw [if_pos ⟨rfl, rfl, ej⟩, ej]
    · rw [if_neg (fun k => ej k.2.2)]; exact h4 j (by omega)
theorem K_binit {d : Nat} {q : HP → Prop} {H : HP} {b : Nat} (ht : tg H b = 3) (hn : hN H = b + 1) (hlim : b + 3 < scrA) (hq : ∀ H', Ext (fun x => x = b) H H' → hN H' = b + 2 → shBits H' b → q H') : CV (d + 1) 1 10 mX2_init [rv (some b)] H q := by
  have hs : scrA = 1000000 := rfl
  refine C_X2_init ?_
  unfold wb_X2_init_0
  refine ⟨by omega, by decide, by decide, nA_tg' (by omega) ht, ?_⟩
  rw [mkD_2]
  exact binit_loop (by omega) (by omega) hq 10 0 _ (by omega) nA_Ext (by show hN H + 1 = _; omega) (nA_tg (by omega) ht) (nA_hC hn) (nA_hT hn) (fun j hj => by omega)
