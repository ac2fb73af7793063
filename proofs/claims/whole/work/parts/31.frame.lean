
/-! ===== what a call leaves as it was ===== -/
def Fr (S : Nat → Nat → Prop) (H H' : HP) : Prop := hT H' = hT H ∧ hC H' = hC H ∧ hN H' = hN H ∧ hX H' = hX H ∧ (∀ g a, ¬ S g a → hI H' g a = hI H g a) ∧ (∀ g a, ¬ S g a → hL H' g a = hL H g a) ∧ (∀ g a, ¬ S g a → hF H' g a = hF H g a) ∧ (∀ g a, ¬ S g a → hD H' g a = hD H g a) ∧ (∀ g a, ¬ S g a → hR H' g a = hR H g a)
theorem Fr.rf {S : Nat → Nat → Prop} {H : HP} : Fr S H H := ⟨rfl, rfl, rfl, rfl, fun _ _ _ => rfl, fun _ _ _ => rfl, fun _ _ _ => rfl, fun _ _ _ => rfl, fun _ _ _ => rfl⟩
theorem Fr.tr {S : Nat → Nat → Prop} {H H1 H2 : HP} (a : Fr S H H1) (b : Fr S H1 H2) : Fr S H H2 := by
  obtain ⟨a1, a2, a3, a4, a5, a6, a7, a8, a9⟩ := a
  obtain ⟨b1, b2, b3, b4, b5, b6, b7, b8, b9⟩ := b
  exact ⟨b1.trans a1, b2.trans a2, b3.trans a3, b4.trans a4, fun g x h => (b5 g x h).trans (a5 g x h), fun g x h => (b6 g x h).trans (a6 g x h), fun g x h => (b7 g x h).trans (a7 g x h), fun g x h => (b8 g x h).trans (a8 g x h), fun g x h => (b9 g x h).trans (a9 g x h)⟩
theorem Fr.mono {S S' : Nat → Nat → Prop} {H H1 : HP} (a : Fr S H H1) (h : ∀ g x, S g x → S' g x) : Fr S' H H1 := by
  obtain ⟨a1, a2, a3, a4, a5, a6, a7, a8, a9⟩ := a
  exact ⟨a1, a2, a3, a4, fun g x k => a5 g x fun e => k (h g x e), fun g x k => a6 g x fun e => k (h g x e), fun g x k => a7 g x fun e => k (h g x e), fun g x k => a8 g x fun e => k (h g x e), fun g x k => a9 g x fun e => k (h g x e)⟩
theorem u3_out {α : Type} (f : Nat → Nat → Nat → α) {S : Nat → Nat → Prop} {g a i : Nat} {v : α} (h : S g a) : ∀ g' a', ¬ S g' a' → u3 f g a i v g' a' = f g' a' := by
  intro g' a' hn
  funext i'
  unfold u3
  rw [if_neg]
  rintro ⟨rfl, rfl, _⟩
  exact hn h
theorem c3_out {α : Type} (f : Nat → Nat → Nat → α) {S : Nat → Nat → Prop} {g a : Nat} {v : Nat → α} (h : S g a) : ∀ g' a', ¬ S g' a' → c3 f g a v g' a' = f g' a' := by
  intro g' a' hn
  funext i'
  unfold c3
  rw [if_neg]
  rintro ⟨rfl, rfl⟩
  exact hn h
theorem Fr_sI {S : Nat → Nat → Prop} {H : HP} {g a i : Nat} {v : Int32} (h : S g a) : Fr S H (sI H g a i v) := ⟨rfl, rfl, rfl, rfl, u3_out _ h, fun _ _ _ => rfl, fun _ _ _ => rfl, fun _ _ _ => rfl, fun _ _ _ => rfl⟩
theorem Fr_sL {S : Nat → Nat → Prop} {H : HP} {g a i : Nat} {v : Int64} (h : S g a) : Fr S H (sL H g a i v) := ⟨rfl, rfl, rfl, rfl, fun _ _ _ => rfl, u3_out _ h, fun _ _ _ => rfl, fun _ _ _ => rfl, fun _ _ _ => rfl⟩
theorem Fr_sF {S : Nat → Nat → Prop} {H : HP} {g a i : Nat} {v : UInt32} (h : S g a) : Fr S H (sF H g a i v) := ⟨rfl, rfl, rfl, rfl, fun _ _ _ => rfl, fun _ _ _ => rfl, u3_out _ h, fun _ _ _ => rfl, fun _ _ _ => rfl⟩
theorem Fr_sD {S : Nat → Nat → Prop} {H : HP} {g a i : Nat} {v : UInt64} (h : S g a) : Fr S H (sD H g a i v) := ⟨rfl, rfl, rfl, rfl, fun _ _ _ => rfl, fun _ _ _ => rfl, fun _ _ _ => rfl, u3_out _ h, fun _ _ _ => rfl⟩
theorem Fr_sR {S : Nat → Nat → Prop} {H : HP} {g a i : Nat} {v : Option Nat} (h : S g a) : Fr S H (sR H g a i v) := ⟨rfl, rfl, rfl, rfl, fun _ _ _ => rfl, fun _ _ _ => rfl, fun _ _ _ => rfl, fun _ _ _ => rfl, u3_out _ h⟩
theorem Fr_fI {S : Nat → Nat → Prop} {H : HP} {g a : Nat} {v : Nat → Int32} (h : S g a) : Fr S H (fI H g a v) := ⟨rfl, rfl, rfl, rfl, c3_out _ h, fun _ _ _ => rfl, fun _ _ _ => rfl, fun _ _ _ => rfl, fun _ _ _ => rfl⟩
theorem Fr_setF {S : Nat → Nat → Prop} {H : HP} {a : Nat} {f : FR} (h : S 400 a) (h' : S 401 a) : Fr S H (setF H a f) := (Fr_sL h).tr (Fr_sL h')
theorem Fr_setM {S : Nat → Nat → Prop} {H : HP} {m : Nat} {f : FR} (h : S 1319 m) (h' : S 1320 m) : Fr S H (setM H m f) := (Fr_sL h).tr (Fr_sL h')
theorem getF_setF {H : HP} {a : Nat} {f : FR} : getF (setF H a f) a = f := by
  unfold getF setF
  rw [hL_sL, u3_g _ _ _ _ _ _ (by decide), hL_sL, u3_same, u3_same]
theorem getM_setM {H : HP} {m : Nat} {f : FR} : getM (setM H m f) m = f := by
  unfold getM setM
  rw [hL_sL, u3_g _ _ _ _ _ _ (by decide), hL_sL, u3_same, u3_same]
theorem fr_getF {S : Nat → Nat → Prop} {H H' : HP} {a : Nat} (h : Fr S H H') (h1 : ¬ S 400 a) (h2 : ¬ S 401 a) : getF H' a = getF H a := by
  obtain ⟨-, -, -, -, -, b, -⟩ := h
  show (hL H' 400 a 0, hL H' 401 a 0) = (hL H 400 a 0, hL H 401 a 0)
  rw [b _ _ h1, b _ _ h2]
theorem fr_tg {S : Nat → Nat → Prop} {H H' : HP} (h : Fr S H H') (a : Nat) : tg H' a = tg H a := congrArg (fun f => (f a).1) h.1
theorem fr_unit {S : Nat → Nat → Prop} {H H' : HP} {a : Nat} (h : Fr S H H') (s : shUnit H a) : shUnit H' a := by
  unfold shUnit at s ⊢
  rw [fr_tg h, fr_tg h, fr_tg h, h.1, h.2.1]
  exact s
theorem fr_CUn {S : Nat → Nat → Prop} {H H' : HP} {a : Nat} {u : UV} (h : Fr S H H') (h1 : ∀ g b, a ≤ b → b < a + 5 → ¬ S g b) (s : CUn H a u) : CUn H' a u := by
  obtain ⟨s1, s2, s3, s4, s5, s6⟩ := s
  have hi := h.2.2.2.2.1
  refine ⟨?_, fun j hj => ?_, fun j hj => ?_, ?_, ?_, fun j hj => ?_⟩
  · rw [hi _ _ (h1 _ _ (by omega) (by omega))]; exact s1
  · rw [hi _ _ (h1 _ _ (by omega) (by omega))]; exact s2 j hj
  · rw [hi _ _ (h1 _ _ (by omega) (by omega))]; exact s3 j hj
  · rw [fr_getF h (h1 _ _ (by omega) (by omega)) (h1 _ _ (by omega) (by omega))]; exact s4
  · rw [fr_getF h (h1 _ _ (by omega) (by omega)) (h1 _ _ (by omega) (by omega))]; exact s5
  · rw [hi _ _ (h1 _ _ (by omega) (by omega))]; exact s6 j hj
