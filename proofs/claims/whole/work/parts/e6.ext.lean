
/-! ===== building the class: what stays ===== -/
def exA (H H' : HP) (x : Nat) : Prop := (∀ g, hI H' g x = hI H g x) ∧ (∀ g, hL H' g x = hL H g x) ∧ (∀ g, hD H' g x = hD H g x) ∧ (∀ g, hR H' g x = hR H g x) ∧ (∀ g, hC H' g x = hC H g x) ∧ hT H' x = hT H x
theorem exA_of {P : Nat → Prop} {H H' : HP} {x : Nat} (h : Ext P H H') (hx : x < hN H) (hp : ¬ P x) : exA H H' x := by
  obtain ⟨e1, e2, e3, e4, e5, e6, e7, e8, e9⟩ := h
  exact ⟨fun g => e4 g x hx hp, fun g => e5 g x hx hp, fun g => e7 g x hx hp, fun g => e8 g x hx hp, fun g => e9 g x hx hp, e3 x hx⟩
theorem exA_tg {H H' : HP} {x : Nat} (h : exA H H' x) : tg H' x = tg H x := by unfold tg; rw [h.2.2.2.2.2]
def exR (H H' : HP) (a n : Nat) : Prop := ∀ x, a ≤ x → x < a + n → exA H H' x
theorem exR_of {P : Nat → Prop} {H H' : HP} {a n : Nat} (h : Ext P H H') (hn : a + n ≤ hN H) (hp : ∀ x, a ≤ x → x < a + n → ¬ P x) : exR H H' a n := fun x h1 h2 => exA_of h (by omega) (hp x h1 h2)
theorem exR_sub {H H' : HP} {a n b k : Nat} (h : exR H H' a n) (h1 : a ≤ b) (h2 : b + k ≤ a + n) : exR H H' b k := fun x k1 k2 => h x (by omega) (by omega)
theorem ex_getF {H H' : HP} {a : Nat} (h : exA H H' a) : getF H' a = getF H a := by
  unfold getF; rw [h.2.1, h.2.1]
theorem ex_shUnit {H H' : HP} {a : Nat} (h : exR H H' a 5) (s : shUnit H a) : shUnit H' a := by
  unfold shUnit at s ⊢
  have h0 := h a (by omega) (by omega)
  have h1 := h (a + 1) (by omega) (by omega)
  have h2 := h (a + 2) (by omega) (by omega)
  have h3 := h (a + 3) (by omega) (by omega)
  have h4 := h (a + 4) (by omega) (by omega)
  rw [exA_tg h0, exA_tg h3, exA_tg h4, h1.2.2.2.2.2, h2.2.2.2.2.2]
  simp only [h0.2.2.2.2.1]
  exact s
theorem ex_zUnit {H H' : HP} {a : Nat} (h : exR H H' a 5) (s : zUnit H a) : zUnit H' a := by
  obtain ⟨z1, z2, z3, z4, z5, z6⟩ := s
  have h0 := h a (by omega) (by omega)
  have h1 := h (a + 1) (by omega) (by omega)
  have h2 := h (a + 2) (by omega) (by omega)
  exact ⟨ex_shUnit h z1, by rw [h0.1]; exact z2, by rw [h1.1]; exact z3, by rw [h2.1]; exact z4, by rw [ex_getF (h (a + 3) (by omega) (by omega))]; exact z5, by rw [ex_getF (h (a + 4) (by omega) (by omega))]; exact z6⟩
theorem ex_shUnits {H H' : HP} {a : Nat} (h : exR H H' a 102) (s : shUnits H a) : shUnits H' a := by
  obtain ⟨s1, s2, s3, s4⟩ := s
  have h0 := h a (by omega) (by omega)
  have h1 := h (a + 1) (by omega) (by omega)
  refine ⟨by rw [exA_tg h0]; exact s1, by rw [h0.2.2.2.2.1]; exact s2, by rw [h1.2.2.2.2.2]; exact s3, fun i hi => ?_⟩
  obtain ⟨q1, q2⟩ := s4 i hi
  exact ⟨by rw [h1.2.2.2.1]; exact q1, ex_shUnit (exR_sub h (by omega) (by omega)) q2⟩
theorem ex_zUnits {H H' : HP} {a : Nat} (h : exR H H' a 102) (s : zUnits H a) : zUnits H' a := ⟨ex_shUnits h s.1, by rw [(h a (by omega) (by omega)).1]; exact s.2.1, fun i hi => ex_zUnit (exR_sub h (by omega) (by omega)) (s.2.2 i hi)⟩
theorem ex_CUn {H H' : HP} {a : Nat} {u : UV} (h : exR H H' a 5) (s : CUn H a u) : CUn H' a u := by
  obtain ⟨s1, s2, s3, s4, s5, s6⟩ := s
  have h0 := h a (by omega) (by omega)
  have h1 := h (a + 1) (by omega) (by omega)
  have h2 := h (a + 2) (by omega) (by omega)
  refine ⟨by rw [h0.1]; exact s1, by rw [h1.1]; exact s2, by rw [h2.1]; exact s3, by rw [ex_getF (h (a + 3) (by omega) (by omega))]; exact s4, by rw [ex_getF (h (a + 4) (by omega) (by omega))]; exact s5, by rw [h1.1]; exact s6⟩
theorem ex_CU {H H' : HP} {a n : Nat} {U : Nat → UV} (h : exR H H' a 102) (s : CU H a n U) : CU H' a n U := ⟨ex_shUnits h s.1, by rw [(h a (by omega) (by omega)).1]; exact s.2.1, s.2.2.1, fun i hi => ex_CUn (exR_sub h (by omega) (by have := s.2.2.1; omega)) (s.2.2.2 i hi)⟩
theorem ex_shTape {H H' : HP} {a : Nat} (h : exR H H' a 2) (s : shTape H a) : shTape H' a := by
  obtain ⟨s1, s2, s3⟩ := s
  have h0 := h a (by omega) (by omega)
  exact ⟨by rw [exA_tg h0]; exact s1, by rw [h0.2.2.2.2.1]; exact s2, by rw [(h (a + 1) (by omega) (by omega)).2.2.2.2.2]; exact s3⟩
theorem ex_shCl {H H' : HP} {a : Nat} (h : exR H H' a 11) (s : shCl H a) : shCl H' a := by
  have h0 := h a (by omega) (by omega)
  unfold shCl at s ⊢
  rw [exA_tg h0, exA_tg (h (a + 9) (by omega) (by omega)), exA_tg (h (a + 10) (by omega) (by omega)), (h (a + 1) (by omega) (by omega)).2.2.2.2.2, (h (a + 2) (by omega) (by omega)).2.2.2.2.2, (h (a + 3) (by omega) (by omega)).2.2.2.2.2, (h (a + 4) (by omega) (by omega)).2.2.2.2.2, (h (a + 5) (by omega) (by omega)).2.2.2.2.2, (h (a + 6) (by omega) (by omega)).2.2.2.2.2, (h (a + 7) (by omega) (by omega)).2.2.2.2.2, (h (a + 8) (by omega) (by omega)).2.2.2.2.2]
  simp only [h0.2.2.2.2.1]
  exact s
theorem ex_CCl {H H' : HP} {a : Nat} {C : CLM} (h : exR H H' a 11) (s : CCl H a C) : CCl H' a C := by
  obtain ⟨s1, s2, s3, s4, s5⟩ := s
  have e := fun k (hk : k < 11) => (h (a + k) (by omega) (by omega)).1
  refine ⟨ex_shCl h s1, ?_, by rw [e 5 (by decide)]; exact s3, ?_, by rw [e 6 (by decide)]; exact s5⟩
  · unfold CRw at s2 ⊢
    rw [(h a (by omega) (by omega)).1, e 1 (by decide), e 2 (by decide), e 3 (by decide), e 4 (by decide)]
    exact s2
  · unfold bun0 bun at s4 ⊢
    rw [e 7 (by decide)]; exact s4
theorem ex_shDef {H H' : HP} {b : Nat} (h : exR H H' b 13) (s : shDef H b) : shDef H' b := by
  obtain ⟨s1, s2, s3, s4, s5, s6, s7, s8, s9, s10⟩ := s
  have h0 := h b (by omega) (by omega)
  have e := fun k (hk : k < 13) => (h (b + k) (by omega) (by omega)).2.2.2.2.2
  have c := h0.2.2.2.2.1
  refine ⟨by rw [exA_tg h0]; exact s1, by rw [c, e 1 (by decide)]; exact s2, by rw [c, e 2 (by decide)]; exact s3, by rw [c, e 3 (by decide)]; exact s4, by rw [c, e 4 (by decide)]; exact s5, by rw [c, e 5 (by decide)]; exact s6, by rw [c, e 6 (by decide)]; exact s7, by rw [c, e 7 (by decide)]; exact s8, by rw [c]; exact s9, ex_shUnit (exR_sub h (by omega) (by omega)) s10⟩
theorem ex_LtB {H H' : HP} {b : Nat} (h : exR H H' b 13) (s : LtB H b) : LtB H' b := by
  unfold LtB at s ⊢
  rw [(h (b + 8 + 1) (by omega) (by omega)).1]; exact s
theorem ex_shStep {H H' : HP} {a : Nat} (h : exR H H' a 7) (s : shStep H a) : shStep H' a := by
  have h0 := h a (by omega) (by omega)
  unfold shStep at s ⊢
  simp only [exA_tg h0, exA_tg (h (a + 1) (by omega) (by omega)), exA_tg (h (a + 2) (by omega) (by omega)), exA_tg (h (a + 3) (by omega) (by omega)), exA_tg (h (a + 4) (by omega) (by omega)), exA_tg (h (a + 5) (by omega) (by omega)), exA_tg (h (a + 6) (by omega) (by omega)), (h (a + 1) (by omega) (by omega)).2.2.2.2.2, (h (a + 2) (by omega) (by omega)).2.2.2.2.2, (h (a + 3) (by omega) (by omega)).2.2.2.2.2, (h (a + 4) (by omega) (by omega)).2.2.2.2.2, (h (a + 5) (by omega) (by omega)).2.2.2.2.2, (h (a + 6) (by omega) (by omega)).2.2.2.2.2, h0.2.2.2.2.1]
  exact s
theorem ex_shProof {H H' : HP} {a : Nat} (h : exR H H' a 424) (s : shProof H a) : shProof H' a := by
  obtain ⟨s1, s2, s3, s4, s5, s6, s7, s8⟩ := s
  have h0 := h a (by omega) (by omega)
  have h1 := h (a + 1) (by omega) (by omega)
  refine ⟨by rw [exA_tg h0]; exact s1, by rw [h0.2.2.2.2.1]; exact s2, by rw [h1.2.2.2.2.2]; exact s3, by rw [h0.2.2.2.2.1]; exact s4, by rw [(h (a + 2) (by omega) (by omega)).2.2.2.2.2]; exact s5, by rw [h0.2.2.2.2.1]; exact s6, by rw [exA_tg (h (a + 3) (by omega) (by omega))]; exact s7, fun i hi => ?_⟩
  obtain ⟨q1, q2⟩ := s8 i hi
  exact ⟨by rw [h1.2.2.2.1]; exact q1, ex_shStep (exR_sub h (by omega) (by omega)) q2⟩
theorem ex_shBits {H H' : HP} {b : Nat} (h : exR H H' b 2) (s : shBits H b) : shBits H' b := by
  obtain ⟨s1, s2, s3, s4, s5⟩ := s
  have h0 := h b (by omega) (by omega)
  have h1 := h (b + 1) (by omega) (by omega)
  exact ⟨by rw [exA_tg h0]; exact s1, by rw [h0.2.2.2.2.1]; exact s2, by rw [h1.2.2.2.2.2]; exact s3, by rw [h1.2.2.1]; exact s4, by rw [h0.2.2.1]; exact s5⟩
theorem ex_shTrack {H H' : HP} {a : Nat} (h : exR H H' a 3) (s : shTrack H a) : shTrack H' a := by
  have h0 := h a (by omega) (by omega)
  unfold shTrack at s ⊢
  rw [exA_tg h0, (h (a + 1) (by omega) (by omega)).2.2.2.2.2, (h (a + 2) (by omega) (by omega)).2.2.2.2.2]
  simp only [h0.2.2.2.2.1]
  exact s
theorem ex_shRack {H H' : HP} {a : Nat} (h : exR H H' a 3) (s : shRack H a) : shRack H' a := by
  have h0 := h a (by omega) (by omega)
  unfold shRack at s ⊢
  rw [exA_tg h0, (h (a + 1) (by omega) (by omega)).2.2.2.2.2, (h (a + 2) (by omega) (by omega)).2.2.2.2.2]
  simp only [h0.2.2.2.2.1]
  exact s
/-! object 0 while it is made -/
abbrev FdL : Type := List (Nat × Nat)
def flds (L : FdL) (H : HP) : Prop := ∀ p, p ∈ L → hC H p.1 0 = some p.2
def SX (H : HP) (n : Nat) (L : FdL) : Prop := hN H = n ∧ tg H 0 = 12 ∧ flds L H
abbrev P0 : Nat → Prop := fun x => x = 0
theorem sx_sub {H H' : HP} {n n' t l : Nat} {L : FdL} {P : Nat → Prop} (s : SX H n L) (h0 : 0 < n) (E : Ext P (nw H t l) H') (hp : ∀ x, x < n → ¬ P x) (hn : hN H' = n') : SX H' n' L ∧ Ext P0 H H' := by
  obtain ⟨s1, s2, s3⟩ := s
  have E1 : Ext P0 H H' := (Ext_nw (P := P0)).tr E (fun x hx k => absurd k (hp x (by omega)))
  have EE : Ext (fun _ => False) H H' := (Ext_nw (P := fun _ => False)).tr E (fun x hx k => absurd k (hp x (by omega)))
  refine ⟨⟨hn, ext_tg E1 (by omega) s2, fun p hpm => ?_⟩, E1⟩
  rw [EE.2.2.2.2.2.2.2.2 p.1 0 (by omega) (fun k => k)]; exact s3 p hpm
theorem sx_sC {H : HP} {n g v : Nat} {L : FdL} (s : SX H n L) (hg : ∀ p, p ∈ L → p.1 ≠ g) : SX (sC H g 0 (some v)) n ((g, v) :: L) ∧ Ext P0 H (sC H g 0 (some v)) := by
  obtain ⟨s1, s2, s3⟩ := s
  refine ⟨⟨s1, s2, fun p hp => ?_⟩, Ext_sC rfl⟩
  show u2 (hC H) g 0 (some v) p.1 0 = _
  unfold u2
  rcases List.mem_cons.mp hp with h | h
  · rw [h, if_pos ⟨rfl, rfl⟩]
  · rw [if_neg (fun k => hg p h k.1)]; exact s3 p h
theorem sx_sR {H : HP} {n g i : Nat} {v : Option Nat} {L : FdL} (s : SX H n L) : SX (sR H g 0 i v) n L ∧ Ext P0 H (sR H g 0 i v) := ⟨s, Ext_sR rfl⟩
theorem sx_arr {H : HP} {n g t l : Nat} {L : FdL} (s : SX H n L) (h0 : 0 < n) (hg : ∀ p, p ∈ L → p.1 ≠ g) : SX (sC (nw H t l) g 0 (some (hN H))) (n + 1) ((g, n) :: L) ∧ Ext P0 H (sC (nw H t l) g 0 (some (hN H))) ∧ tg (nw H t l) 0 = 12 ∧ hT (sC (nw H t l) g 0 (some (hN H))) n = (t, l) := by
  obtain ⟨a1, a2⟩ := sx_sub (P := fun _ => False) (H' := nw H t l) (n' := n + 1) s h0 Ext.rf (fun _ _ k => k) (by show hN H + 1 = _; rw [s.1])
  obtain ⟨b1, b2⟩ := sx_sC (v := n) a1 hg
  rw [s.1]
  refine ⟨b1, a2.tr b2 (fun _ _ k => k), a1.2.1, ?_⟩
  show u1 (hT H) (hN H) (t, l) n = _
  unfold u1; rw [if_pos s.1.symm]
