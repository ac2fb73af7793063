
/-! ===== building: what is new lies behind what there was ===== -/
def Ext (P : Nat → Prop) (H H' : HP) : Prop := hN H ≤ hN H' ∧ hX H' = hX H ∧ (∀ a, a < hN H → hT H' a = hT H a) ∧ (∀ g a, a < hN H → ¬ P a → hI H' g a = hI H g a) ∧ (∀ g a, a < hN H → ¬ P a → hL H' g a = hL H g a) ∧ (∀ g a, a < hN H → ¬ P a → hF H' g a = hF H g a) ∧ (∀ g a, a < hN H → ¬ P a → hD H' g a = hD H g a) ∧ (∀ g a, a < hN H → ¬ P a → hR H' g a = hR H g a) ∧ (∀ g a, a < hN H → ¬ P a → hC H' g a = hC H g a)
theorem Ext.rf {P : Nat → Prop} {H : HP} : Ext P H H := ⟨Nat.le_refl _, rfl, fun _ _ => rfl, fun _ _ _ _ => rfl, fun _ _ _ _ => rfl, fun _ _ _ _ => rfl, fun _ _ _ _ => rfl, fun _ _ _ _ => rfl, fun _ _ _ _ => rfl⟩
theorem Ext.tr {P P2 : Nat → Prop} {H H1 H2 : HP} (a : Ext P H H1) (b : Ext P2 H1 H2) (h : ∀ x, x < hN H → P2 x → P x) : Ext P H H2 := by
  obtain ⟨a1, a2, a3, a4, a5, a6, a7, a8, a9⟩ := a
  obtain ⟨b1, b2, b3, b4, b5, b6, b7, b8, b9⟩ := b
  refine ⟨Nat.le_trans a1 b1, b2.trans a2, fun x hx => (b3 x (by omega)).trans (a3 x hx), ?_, ?_, ?_, ?_, ?_, ?_⟩
  · exact fun g x hx hp => (b4 g x (by omega) fun k => hp (h x hx k)).trans (a4 g x hx hp)
  · exact fun g x hx hp => (b5 g x (by omega) fun k => hp (h x hx k)).trans (a5 g x hx hp)
  · exact fun g x hx hp => (b6 g x (by omega) fun k => hp (h x hx k)).trans (a6 g x hx hp)
  · exact fun g x hx hp => (b7 g x (by omega) fun k => hp (h x hx k)).trans (a7 g x hx hp)
  · exact fun g x hx hp => (b8 g x (by omega) fun k => hp (h x hx k)).trans (a8 g x hx hp)
  · exact fun g x hx hp => (b9 g x (by omega) fun k => hp (h x hx k)).trans (a9 g x hx hp)
theorem Ext.mono {P P' : Nat → Prop} {H H1 : HP} (a : Ext P H H1) (h : ∀ x, x < hN H → P x → P' x) : Ext P' H H1 := by
  obtain ⟨a1, a2, a3, a4, a5, a6, a7, a8, a9⟩ := a
  exact ⟨a1, a2, a3, fun g x hx hp => a4 g x hx fun k => hp (h x hx k), fun g x hx hp => a5 g x hx fun k => hp (h x hx k), fun g x hx hp => a6 g x hx fun k => hp (h x hx k), fun g x hx hp => a7 g x hx fun k => hp (h x hx k), fun g x hx hp => a8 g x hx fun k => hp (h x hx k), fun g x hx hp => a9 g x hx fun k => hp (h x hx k)⟩
theorem z3_lt {α : Type} (f : Nat → Nat → Nat → α) {n : Nat} {v : α} {g a : Nat} (h : a < n) : z3 f n v g a = f g a := by
  funext i; unfold z3; rw [if_neg (by omega)]
theorem z2_lt {α : Type} (f : Nat → Nat → α) {n : Nat} {v : α} {g a : Nat} (h : a < n) : z2 f n v g a = f g a := by
  unfold z2; rw [if_neg (by omega)]
theorem Ext_nw {P : Nat → Prop} {H : HP} {t n : Nat} : Ext P H (nw H t n) := by
  refine ⟨by rw [hN_nw]; omega, rfl, fun a ha => ?_, fun g a ha _ => z3_lt _ ha, fun g a ha _ => z3_lt _ ha, fun g a ha _ => z3_lt _ ha, fun g a ha _ => z3_lt _ ha, fun g a ha _ => z3_lt _ ha, fun g a ha _ => z2_lt _ ha⟩
  rw [hT_nw]; unfold u1; rw [if_neg (by omega)]
theorem u3_P {α : Type} (f : Nat → Nat → Nat → α) {P : Nat → Prop} {g a i : Nat} {v : α} (h : P a) {g' a' : Nat} (hn : ¬ P a') : u3 f g a i v g' a' = f g' a' := by
  funext i'
  unfold u3
  rw [if_neg]
  rintro ⟨_, rfl, _⟩
  exact hn h
theorem Ext_sI {P : Nat → Prop} {H : HP} {g a i : Nat} {v : Int32} (h : P a) : Ext P H (sI H g a i v) := ⟨Nat.le_refl _, rfl, fun _ _ => rfl, fun _ _ _ hn => u3_P _ h hn, fun _ _ _ _ => rfl, fun _ _ _ _ => rfl, fun _ _ _ _ => rfl, fun _ _ _ _ => rfl, fun _ _ _ _ => rfl⟩
theorem Ext_sL {P : Nat → Prop} {H : HP} {g a i : Nat} {v : Int64} (h : P a) : Ext P H (sL H g a i v) := ⟨Nat.le_refl _, rfl, fun _ _ => rfl, fun _ _ _ _ => rfl, fun _ _ _ hn => u3_P _ h hn, fun _ _ _ _ => rfl, fun _ _ _ _ => rfl, fun _ _ _ _ => rfl, fun _ _ _ _ => rfl⟩
theorem Ext_sD {P : Nat → Prop} {H : HP} {g a i : Nat} {v : UInt64} (h : P a) : Ext P H (sD H g a i v) := ⟨Nat.le_refl _, rfl, fun _ _ => rfl, fun _ _ _ _ => rfl, fun _ _ _ _ => rfl, fun _ _ _ _ => rfl, fun _ _ _ hn => u3_P _ h hn, fun _ _ _ _ => rfl, fun _ _ _ _ => rfl⟩
theorem Ext_sR {P : Nat → Prop} {H : HP} {g a i : Nat} {v : Option Nat} (h : P a) : Ext P H (sR H g a i v) := ⟨Nat.le_refl _, rfl, fun _ _ => rfl, fun _ _ _ _ => rfl, fun _ _ _ _ => rfl, fun _ _ _ _ => rfl, fun _ _ _ _ => rfl, fun _ _ _ hn => u3_P _ h hn, fun _ _ _ _ => rfl⟩
theorem Ext_sC {P : Nat → Prop} {H : HP} {g a : Nat} {v : Option Nat} (h : P a) : Ext P H (sC H g a v) := by
  refine ⟨Nat.le_refl _, rfl, fun _ _ => rfl, fun _ _ _ _ => rfl, fun _ _ _ _ => rfl, fun _ _ _ _ => rfl, fun _ _ _ _ => rfl, fun _ _ _ _ => rfl, fun g' a' _ hn => ?_⟩
  rw [hC_sC]; unfold u2
  rw [if_neg]
  rintro ⟨_, rfl⟩
  exact hn h
/-- a fraction made: 0 by 1 -/
theorem K_finit {d : Nat} {q : HP → Prop} {H : HP} {a : Nat} (ht : tg H a = 4) (hq : q (setF H a (0, 1))) : CV (d + 1) 0 0 mX3_init [rv (some a)] H q := by
  refine C_X3_init ?_
  unfold wb_X3_init_0
  exact ⟨ht, hq⟩
