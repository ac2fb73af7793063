
/-! ===== the class reads a whole definition ===== -/
def sgO (o : Bool × Nat × Nat) : Int32 := if o.1 = true then -1 else 1
def CDf (H : HP) (b : Nat) (D : DRes) : Prop := hI H 204 b 0 = Int32.ofNat D.1 ∧ hI H 4368 (b + 1) 0 = Int32.ofNat D.2.1.1 ∧ hI H 4368 (b + 1) 1 = Int32.ofNat D.2.1.2 ∧ hI H 205 b 0 = Int32.ofNat D.2.2.1.1 ∧ (∀ j, j < D.2.2.1.1 → DRw H b j (D.2.2.1.2 j)) ∧ hI H 202 b 0 = bI D.2.2.2.isSome ∧ ∀ o, D.2.2.2 = some o → hI H 203 b 0 = sgO o ∧ hI H 4384 (b + 2) 0 = Int32.ofNat o.2.1 ∧ hI H 4384 (b + 2) 1 = Int32.ofNat o.2.2
theorem fr_CDf {S : Nat → Nat → Prop} {H H' : HP} {b : Nat} {D : DRes} (h : Fr S H H') (h0 : ∀ g, 202 ≤ g → g ≤ 205 → ¬ S g b) (h1 : ∀ g x, b + 1 ≤ x → x ≤ b + 6 → ¬ S g x) (s : CDf H b D) : CDf H' b D := by
  have hi := h.2.2.2.2.1
  obtain ⟨s1, s2, s3, s4, s5, s6, s7⟩ := s
  refine ⟨by rw [hi _ _ (h0 _ (by omega) (by omega))]; exact s1, by rw [hi _ _ (h1 _ _ (by omega) (by omega))]; exact s2, by rw [hi _ _ (h1 _ _ (by omega) (by omega))]; exact s3, by rw [hi _ _ (h0 _ (by omega) (by omega))]; exact s4, fun j hj => fr_DRw h (h1 _ _ (by omega) (by omega)) (h1 _ _ (by omega) (by omega)) (h1 _ _ (by omega) (by omega)) (h1 _ _ (by omega) (by omega)) (s5 j hj), by rw [hi _ _ (h0 _ (by omega) (by omega))]; exact s6, fun o ho => ?_⟩
  obtain ⟨k1, k2, k3⟩ := s7 o ho
  exact ⟨by rw [hi _ _ (h0 _ (by omega) (by omega))]; exact k1, by rw [hi _ _ (h1 _ _ (by omega) (by omega))]; exact k2, by rw [hi _ _ (h1 _ _ (by omega) (by omega))]; exact k3⟩
abbrev DfS (t b : Nat) : Nat → Nat → Prop := fun g x => (g = 802 ∧ x = t) ∨ ((g = 202 ∨ g = 203 ∨ g = 204 ∨ g = 205) ∧ x = b) ∨ (b + 1 ≤ x ∧ x ≤ b + 6)
theorem fig_let {x : Int32} (h : isFig x = true) : isLet x = false ∧ x ≠ 43 ∧ x ≠ 45 ∧ x ≠ 0 := by
  unfold isFig at h
  have h := of_decide_eq_true h
  have e : ∀ y : Int32, y.toInt < 48 → x ≠ y := fun y hy k => by rw [k] at h; omega
  refine ⟨?_, e 43 (by decide), e 45 (by decide), e 0 (by decide)⟩
  unfold isLet
  exact decide_eq_false (fun k => by omega)
/-- what comes behind the product -/
theorem read98 {d t b p sgn : Nat} {T : TP} {q : HP → Bool → Prop} {H : HP} {s1 : Int32} {res : Nat ⊕ Option (Bool × Nat × Nat)} {bs : Bool} (hbt : t + 2 ≤ b) (sd : shDef H b) (hc : CT H t T p) (hs1 : s1 = bI bs)
    (hno : bs = false → res = (if p < T.1 then .inl p else .inr none))
    (hyes : bs = true → ∀ r, dRat T p = r → res = (match r with
      | .inl f => .inl f
      | .inr (u, l, p2) => if p2 < T.1 then .inl p2 else .inr (some (decide (sgn = 45), u, l))))
    (h1 : ∀ o, res = .inr o → ∀ H' p', Fr (fun g x => (g = 802 ∧ x = t) ∨ (g = 202 ∧ x = b) ∨ (g = 4384 ∧ x = b + 2)) H H' → CT H' t T p' → hI H' 202 b 0 = bI o.isSome → (∀ s, o = some s → hI H' 4384 (b + 2) 0 = Int32.ofNat s.2.1 ∧ hI H' 4384 (b + 2) 1 = Int32.ofNat s.2.2 ∧ s.1 = decide (sgn = 45)) → q H' true)
    (h0 : ∀ f, res = .inl f → ∀ H', Fr (fun g x => (g = 802 ∧ x = t) ∨ (g = 202 ∧ x = b) ∨ (g = 4384 ∧ x = b + 2)) H H' → CT H' t T f → q H' false) : wb_X1_read_98 (d + 4) q b (some t) (some b) s1 H := by
  unfold wb_X1_read_98
  subst hs1
  have FA : Fr (fun g x => g = 202 ∧ x = b) H (sI H 202 b 0 (bI bs)) := Fr_sI ⟨rfl, rfl⟩
  have vA : hI (sI H 202 b 0 (bI bs)) 202 b 0 = bI bs := by rw [hIs_i, if_pos rfl]
  have oz : okZ (bI bs) := by cases bs; exact Or.inl rfl; exact Or.inr rfl
  refine ⟨b, rfl, sd.1, oz, ?_⟩
  generalize sI H 202 b 0 (bI bs) = A at FA vA ⊢
  have sA := fr_shDef FA sd
  have cA : CT A t T p := fr_CT FA (fun k => by omega) (fun k => by omega) (fun k => by omega) hc
  have FA' : Fr (fun g x => (g = 802 ∧ x = t) ∨ (g = 202 ∧ x = b) ∨ (g = 4384 ∧ x = b + 2)) H A := FA.mono fun g x k => Or.inr (Or.inl k)
  rw [vA]
  refine ⟨sA.1, fun hz => ⟨t, rfl, cA.1.1, K_isAtEnd (d := d + 3) cA ?_⟩, fun hz => ?_⟩
  · have hb : bs = false := bI_z.mp hz
    have hr := hno hb
    by_cases hp : p < T.1
    · rw [if_pos hp] at hr
      rw [decide_eq_false (by omega)]
      exact h0 p hr A FA' cA
    · rw [if_neg hp] at hr
      rw [decide_eq_true (by omega)]
      exact h1 none hr A p FA' cA (by rw [vA, hb]; rfl) (fun s hs => by cases hs)
  · have hb : bs = true := bI_nz.mp hz
    obtain ⟨x1, x2, x3, x4⟩ := dA_1 sA
    rw [x1]
    have ha : hT A (b + 2) = (4384, 2) := sA.2.2.1.2
    refine K_readRatio (d := d) (Or.inr rfl) ha (by omega) cA (fun u l p1 hr B FB cB u0 u1 => ⟨fun _ => ⟨t, rfl, cB.1.1, K_isAtEnd (d := d + 3) cB ?_⟩, fun k => (by cases k)⟩) (fun f hr B FB cB => ⟨fun k => (by cases k), fun _ => ?_⟩) (fun f hr hst B FB cB => ⟨fun _ => ⟨t, rfl, cB.1.1, K_isAtEnd (d := d + 3) cB ?_⟩, fun k => (by cases k)⟩)
    · have hres := hyes hb _ hr
      have FB' := FA'.tr (FB.mono fun g x k => (k.elim (fun k => Or.inl k) (fun k => Or.inr (Or.inr k)) : (g = 802 ∧ x = t) ∨ (g = 202 ∧ x = b) ∨ (g = 4384 ∧ x = b + 2)))
      simp only at hres
      by_cases hp : p1 < T.1
      · rw [if_pos hp] at hres
        rw [decide_eq_false (by omega)]
        exact h0 p1 hres B FB' cB
      · rw [if_neg hp] at hres
        rw [decide_eq_true (by omega)]
        refine h1 _ hres B p1 FB' cB ?_ (fun s hs => ?_)
        · rw [FB.2.2.2.2.1 _ _ (fun k => by omega), vA, hb]; rfl
        · injection hs with hs
          subst hs
          exact ⟨u0, u1, rfl⟩
    · have hres := hyes hb _ hr
      have FB' := FA'.tr (FB.mono fun g x k => (k.elim (fun k => Or.inl k) (fun k => Or.inr (Or.inr k)) : (g = 802 ∧ x = t) ∨ (g = 202 ∧ x = b) ∨ (g = 4384 ∧ x = b + 2)))
      exact h0 f hres B FB' cB
    · have hres := hyes hb _ hr
      have FB' := FA'.tr (FB.mono fun g x k => (k.elim (fun k => Or.inl k) (fun k => Or.inr (Or.inr k)) : (g = 802 ∧ x = t) ∨ (g = 202 ∧ x = b) ∨ (g = 4384 ∧ x = b + 2)))
      have hlt := lk_lt (T := T) (p := f) rfl (fig_let hst).2.2.2
      rw [decide_eq_false (by omega)]
      exact h0 f hres B FB' cB
theorem K_dread {d t b p0 : Nat} {T : TP} {q : HP → Bool → Prop} {H : HP} (hbt : t + 2 ≤ b) (sd : shDef H b) (hc0 : CT H t T p0)
    (h1 : ∀ D, dDef T = .inr D → ∀ H' p', Fr (DfS t b) H H' → CT H' t T p' → CDf H' b D → q H' true)
    (h0 : ∀ f, dDef T = .inl f → ∀ H', Fr (DfS t b) H H' → CT H' t T f → q H' false) : CZ (d + 5) 0 0 mX1_read [rv (some b), rv (some t)] H q := by
  refine C_X1_read ?_
  unfold wb_X1_read_0
  have FA : Fr (TaS t) H (atT H t 0) := Fr_at
  have cA : CT (atT H t 0) t T 0 := hc0.at (Nat.zero_le _)
  have sA := fr_shDef FA sd
  have eA : sI H 802 t 0 (0 : Int32) = atT H t 0 := rfl
  refine ⟨t, rfl, hc0.1.1, ?_⟩
  rw [eA]
  refine ⟨sA.1, ?_⟩
  generalize atT H t 0 = A at FA cA sA ⊢
  have FB : Fr (fun g x => g = 202 ∧ x = b) A (sI A 202 b 0 (0 : Int32)) := Fr_sI ⟨rfl, rfl⟩
  generalize sI A 202 b 0 (0 : Int32) = B at FB ⊢
  have sB := fr_shDef FB sA
  have cB : CT B t T 0 := fr_CT FB (fun k => by omega) (fun k => by omega) (fun k => by omega) cA
  have FHB : Fr (DfS t b) H B := (FA.mono fun g x k => Or.inl k).tr (FB.mono fun g x k => Or.inr (Or.inl ⟨Or.inl k.1, k.2⟩))
  have r1 := run_in let0 (T := T) 4 0 (Nat.zero_le _)
  have r4 := run_le (P := isLet) (T := T) 4 0
  refine K_takeName (d := d + 1) cB ?_
  have FC : Fr (TaS t) B (atT B t (0 + run isLet T 4 0)) := Fr_at
  have cC : CT (atT B t (0 + run isLet T 4 0)) t T (0 + run isLet T 4 0) := cB.at r1
  rw [Nat.zero_add] at FC cC r1 ⊢
  generalize hl : run isLet T 4 0 = l at FC cC r1 r4 ⊢
  generalize atT B t l = C at FC cC ⊢
  have sC := fr_shDef FC sB
  have FD : Fr (fun g x => g = 204 ∧ x = b) C (sI C 204 b 0 (Int32.ofNat l)) := Fr_sI ⟨rfl, rfl⟩
  have vD : hI (sI C 204 b 0 (Int32.ofNat l)) 204 b 0 = Int32.ofNat l := by rw [hIs_i, if_pos rfl]
  generalize sI C 204 b 0 (Int32.ofNat l) = D at FD vD ⊢
  have sD := fr_shDef FD sC
  have cD : CT D t T l := fr_CT FD (fun k => by omega) (fun k => by omega) (fun k => by omega) cC
  have FHD : Fr (DfS t b) H D := FHB.tr ((FC.mono fun g x k => Or.inl k).tr (FD.mono fun g x k => Or.inr (Or.inl ⟨Or.inr (Or.inr (Or.inl k.1)), k.2⟩)))
  have ez : Int32.ofNat l = 0 ↔ l = 0 := ⟨fun h => by
    have := congrArg Int32.toInt h
    rw [iN_toInt (by omega), i32_0] at this; omega, fun h => by rw [h]; rfl⟩
  rw [vD, ez]
  have hdef : dDef T = (match pNam T 0 with
    | .inl f => .inl f
    | .inr l => if lk T l = 61 then (match dRat T (l + 1) with
      | .inl f => .inl f
      | .inr (u, w, p1) => match dProd T 31 0 p1 false dR0 with
        | .inl f => .inl f
        | .inr (p2, n, R) => match dOff T p2 with
          | .inl f => .inl f
          | .inr o => .inr (l, (u, w), (n, R), o)) else .inl l) := by
    unfold dDef
    cases pNam T 0 with
    | inl f => rfl
    | inr l =>
      simp only
      split
      · rcases dRat T (l + 1) with f | ⟨u, w, p1⟩
        · rfl
        · simp only
          rcases dProd T 31 0 p1 false dR0 with f | ⟨p2, n, R⟩
          · rfl
          · simp only
            rcases dOff T p2 with f | o <;> rfl
      · rfl
  refine ⟨sC.1, fun hl0 => ?_, fun hl0 => ⟨cD.1.1, K_takes (d := d + 2) cD (fun h61 => ⟨fun k => (by cases k), fun _ => ?_⟩) (fun h61 => ⟨fun _ => ?_, fun k => (by cases k)⟩)⟩⟩
  · have en : pNam T 0 = .inl l := by
      unfold pNam
      rw [hl, if_pos (Or.inl hl0), Nat.zero_add]
    rw [en] at hdef
    exact h0 l hdef D FHD cD
  · have hlt := lk_lt h61 (by decide)
    have hnl : ¬ isLet (lk T (0 + l)) = true := by rw [Nat.zero_add, h61]; decide
    have en : pNam T 0 = .inr l := by
      unfold pNam
      rw [hl, if_neg (fun k => k.elim hl0 hnl)]
    rw [en] at hdef
    simp only at hdef
    rw [if_pos h61] at hdef
    have FE : Fr (TaS t) D (atT D t (l + 1)) := Fr_at
    have cE : CT (atT D t (l + 1)) t T (l + 1) := cD.at hlt
    have vE : hI (atT D t (l + 1)) 204 b 0 = Int32.ofNat l := by rw [FE.2.2.2.2.1 _ _ (fun k => by omega)]; exact vD
    generalize atT D t (l + 1) = E at FE cE vE ⊢
    have sE := fr_shDef FE sD
    have FHE : Fr (DfS t b) H E := FHD.tr (FE.mono fun g x k => Or.inl k)
    obtain ⟨x1, x2, x3, x4⟩ := dA_0 sE
    rw [x1]
    have ha : hT E (b + 1) = (4368, 2) := sE.2.1.2
    have RtD : ∀ g x, ((g = 802 ∧ x = t) ∨ (g = 4368 ∧ x = b + 1)) → DfS t b g x := fun g x k => by
      rcases k with k | k
      · exact Or.inl k
      · exact Or.inr (Or.inr (by omega))
    have DpD : ∀ g x, DpS t b g x → DfS t b g x := fun g x k => by
      rcases k with k | k | k | k | k | k
      · exact Or.inl k
      · exact Or.inr (Or.inl ⟨by omega, k.2⟩)
      all_goals exact Or.inr (Or.inr (by omega))
    -- behind the product
    have tail : ∀ (G : HP) (p2 : Nat), Fr (DfS t b) H G → shDef G b → CT G t T p2 → (∀ res, dOff T p2 = res → (∀ f, res = .inl f → ∀ H', Fr (DfS t b) H H' → CT H' t T f → q H' false)) → (∀ o, dOff T p2 = .inr o → ∀ H' p', Fr (fun g x => (g = 802 ∧ x = t) ∨ (g = 202 ∧ x = b) ∨ (g = 203 ∧ x = b) ∨ (g = 4384 ∧ x = b + 2)) G H' → CT H' t T p' → hI H' 202 b 0 = bI o.isSome → (∀ s, o = some s → hI H' 203 b 0 = sgO s ∧ hI H' 4384 (b + 2) 0 = Int32.ofNat s.2.1 ∧ hI H' 4384 (b + 2) 1 = Int32.ofNat s.2.2) → q H' true) → CI (d + 4) 0 0 mX7_look [rv (some t), .int (0 : Int32)] G (fun H16 r18 => (¬ r18 = (45 : Int32) → tg H16 b = 2 ∧ (tg (sI H16 203 b 0 (1 : Int32)) t = 8 ∧ (CZ (d + 4) 0 0 mX7_takes [rv (some t), .int (43 : Int32)] (sI H16 203 b 0 (1 : Int32)) (fun H20 b22 => (b22 = true → wb_X1_read_98 (d + 4) q b (some t) (some b) (1 : Int32) H20) ∧ (b22 = false → tg H20 t = 8 ∧ (CZ (d + 4) 0 0 mX7_takes [rv (some t), .int (45 : Int32)] H20 (fun H23 b25 => (b25 = false → wb_X1_read_98 (d + 4) q b (some t) (some b) (0 : Int32) H23) ∧ (b25 = true → wb_X1_read_98 (d + 4) q b (some t) (some b) (1 : Int32) H23)))))))) ∧ (r18 = (45 : Int32) → tg H16 b = 2 ∧ (tg (sI H16 203 b 0 (-1 : Int32)) t = 8 ∧ (CZ (d + 4) 0 0 mX7_takes [rv (some t), .int (43 : Int32)] (sI H16 203 b 0 (-1 : Int32)) (fun H27 b29 => (b29 = true → wb_X1_read_98 (d + 4) q b (some t) (some b) (1 : Int32) H27) ∧ (b29 = false → tg H27 t = 8 ∧ (CZ (d + 4) 0 0 mX7_takes [rv (some t), .int (45 : Int32)] H27 (fun H30 b32 => (b32 = false → wb_X1_read_98 (d + 4) q b (some t) (some b) (0 : Int32) H30) ∧ (b32 = true → wb_X1_read_98 (d + 4) q b (some t) (some b) (1 : Int32) H30))))))))) := by
      intro G p2 FHG sG cG hF hT'
      refine K_look (d := d + 3) (k := p2) cG (by rw [i32_0]; omega) ?_
      -- the sign kept
      have sgn : ∀ v : Int32, ∃ X, sI G 203 b 0 v = X ∧ Fr (fun g x => g = 203 ∧ x = b) G X ∧ hI X 203 b 0 = v ∧ shDef X b ∧ CT X t T p2 := fun v => by
        have FX : Fr (fun g x => g = 203 ∧ x = b) G (sI G 203 b 0 v) := Fr_sI ⟨rfl, rfl⟩
        exact ⟨_, rfl, FX, by rw [hIs_i, if_pos rfl], fr_shDef FX sG, fr_CT FX (fun k => by omega) (fun k => by omega) (fun k => by omega) cG⟩
      have SgD : ∀ g x, (g = 203 ∧ x = b) → DfS t b g x := fun g x k => Or.inr (Or.inl ⟨by omega, k.2⟩)
      have R9D : ∀ g x, ((g = 802 ∧ x = t) ∨ (g = 202 ∧ x = b) ∨ (g = 4384 ∧ x = b + 2)) → DfS t b g x := fun g x k => by
        rcases k with k | k | k
        · exact Or.inl k
        · exact Or.inr (Or.inl ⟨by omega, k.2⟩)
        · exact Or.inr (Or.inr (by omega))
      have R9T : ∀ g x, ((g = 802 ∧ x = t) ∨ (g = 202 ∧ x = b) ∨ (g = 4384 ∧ x = b + 2)) → ((g = 802 ∧ x = t) ∨ (g = 202 ∧ x = b) ∨ (g = 203 ∧ x = b) ∨ (g = 4384 ∧ x = b + 2)) := fun g x k => by omega
      have SgT : ∀ g x, (g = 203 ∧ x = b) → ((g = 802 ∧ x = t) ∨ (g = 202 ∧ x = b) ∨ (g = 203 ∧ x = b) ∨ (g = 4384 ∧ x = b + 2)) := fun g x k => by omega
      have TaT : ∀ g x, TaS t g x → ((g = 802 ∧ x = t) ∨ (g = 202 ∧ x = b) ∨ (g = 203 ∧ x = b) ∨ (g = 4384 ∧ x = b + 2)) := fun g x k => Or.inl k
      -- a sign and a ratio
      have withS : ∀ (X : HP) (sv : Nat) (v : Int32), Fr (fun g x => g = 203 ∧ x = b) G X → hI X 203 b 0 = v → shDef X b → CT X t T p2 → lk T p2 = Int32.ofNat sv → (sv = 43 ∧ v = 1 ∨ sv = 45 ∧ v = -1) → wb_X1_read_98 (d + 4) q b (some t) (some b) (1 : Int32) (atT X t (p2 + 1)) := by
        intro X sv v FX vX sX cX hlk hv
        have hne0 : lk T p2 ≠ 0 := by rw [hlk]; rcases hv with ⟨h, -⟩ | ⟨h, -⟩ <;> rw [h] <;> decide
        have hlt2 := lk_lt (T := T) (p := p2) rfl hne0
        have FN : Fr (TaS t) X (atT X t (p2 + 1)) := Fr_at
        have hoff : dOff T p2 = (match dRat T (p2 + 1) with
          | .inl f => .inl f
          | .inr (u, l, p3) => if p3 < T.1 then .inl p3 else .inr (some (decide (sv = 45), u, l))) := by
          unfold dOff
          have hs : lk T p2 = 43 ∨ lk T p2 = 45 := by
            rw [hlk]
            rcases hv with ⟨h, -⟩ | ⟨h, -⟩
            · left; rw [h]; rfl
            · right; rw [h]; rfl
          have hd : decide (lk T p2 = 45) = decide (sv = 45) := by
            rw [hlk]
            rcases hv with ⟨h, -⟩ | ⟨h, -⟩ <;> rw [h] <;> decide
          rw [if_pos hs, hd]
          rcases dRat T (p2 + 1) with f | ⟨u, l, p3⟩ <;> rfl
        refine read98 (d := d) (p := p2 + 1) (sgn := sv) (res := dOff T p2) (bs := true) hbt (fr_shDef FN sX) (cX.at hlt2) rfl (fun k => (by cases k)) (fun _ r hr => (by rw [hoff, hr])) (fun o ho Y p' FY cY v202 vO => ?_) (fun f hf Y FY cY => ?_)
        · refine hT' o ho Y p' ((FX.mono SgT).tr ((FN.mono TaT).tr (FY.mono R9T))) cY v202 fun s hs => ?_
          obtain ⟨k1, k2, k3⟩ := vO s hs
          refine ⟨?_, k1, k2⟩
          rw [FY.2.2.2.2.1 _ _ (fun k => by omega), FN.2.2.2.2.1 _ _ (fun k => by omega), vX]
          unfold sgO
          rw [k3]
          rcases hv with ⟨h, h'⟩ | ⟨h, h'⟩
          · rw [h', h]; rfl
          · rw [h', h]; rfl
        · exact hF _ rfl f hf Y (FHG.tr ((FX.mono SgD).tr ((FN.mono fun g x k => Or.inl k).tr (FY.mono R9D)))) cY
      refine ⟨fun h45 => ⟨sG.1, ?_⟩, fun h45 => ⟨sG.1, ?_⟩⟩
      · obtain ⟨X, eX, FX, vX, sX, cX⟩ := sgn 1
        rw [eX]
        refine ⟨cX.1.1, K_takes (d := d + 2) cX (fun h43 => ⟨fun _ => withS X 43 1 FX vX sX cX h43 (Or.inl ⟨rfl, rfl⟩), fun k => (by cases k)⟩) (fun h43 => ⟨fun k => (by cases k), fun _ => ⟨cX.1.1, K_takes (d := d + 2) cX (fun k => absurd k h45) (fun _ => ⟨fun _ => ?_, fun k => (by cases k)⟩)⟩⟩)⟩
        have hoff : dOff T p2 = (if p2 < T.1 then .inl p2 else .inr none) := by
          unfold dOff
          rw [if_neg (fun k => k.elim h43 h45)]
        refine read98 (d := d) (p := p2) (sgn := 0) (res := dOff T p2) (bs := false) hbt sX cX rfl (fun _ => hoff) (fun k => (by cases k)) (fun o ho Y p' FY cY v202 vO => ?_) (fun f hf Y FY cY => ?_)
        · refine hT' o ho Y p' ((FX.mono SgT).tr (FY.mono R9T)) cY v202 fun s hs => ?_
          rw [ho] at hoff
          rw [hs] at hoff
          split at hoff
          · cases hoff
          · cases hoff
        · exact hF _ rfl f hf Y (FHG.tr ((FX.mono SgD).tr (FY.mono R9D))) cY
      · obtain ⟨X, eX, FX, vX, sX, cX⟩ := sgn (-1)
        rw [eX]
        refine ⟨cX.1.1, K_takes (d := d + 2) cX (fun h43 => (by rw [h43] at h45; exact absurd h45 (by decide))) (fun h43 => ⟨fun k => (by cases k), fun _ => ⟨cX.1.1, K_takes (d := d + 2) cX (fun _ => ⟨fun k => (by cases k), fun _ => withS X 45 (-1) FX vX sX cX h45 (Or.inr ⟨rfl, rfl⟩)⟩) (fun k => absurd h45 k)⟩⟩)⟩
    refine ⟨sD.1.symm ▸ sE.1, K_readRatio (d := d) (Or.inl rfl) ha (by omega) cE (fun u w p1 hr F' FF cF u0 u1 => ⟨fun k => (by cases k), fun _ => ⟨(fr_shDef FF sE).1, ?_⟩⟩) (fun f hr F' FF cF => ⟨fun _ => ?_, fun k => (by cases k)⟩) (fun f hr hst F' FF cF => ⟨fun k => (by cases k), fun _ => ⟨(fr_shDef FF sE).1, ?_⟩⟩)⟩
    · -- a ratio
      have sF := fr_shDef FF sE
      have FHF := FHE.tr (FF.mono RtD)
      have hin := (dRat_in (T := T) (p := l + 1) hlt).2 u w p1 hr
      rw [hr] at hdef
      simp only at hdef
      have vF : hI F' 204 b 0 = Int32.ofNat l := by rw [FF.2.2.2.2.1 _ _ (fun k => by omega)]; exact vE
      refine K_readProduct (d := d) hbt sF cF (by omega) (fun p2 m R hp G FG cG v205 rows => ⟨fun _ => ⟨cG.1.1, ?_⟩, fun k => (by cases k)⟩) (fun f hp G FG cG => ⟨fun k => (by cases k), fun _ => ?_⟩) (fun f hp hst G FG cG => ⟨fun _ => ⟨cG.1.1, ?_⟩, fun k => (by cases k)⟩)
      · have sG := fr_shDef FG sF
        have FHG := FHF.tr (FG.mono DpD)
        rw [hp] at hdef
        simp only at hdef
        refine tail G p2 FHG sG cG (fun res hres f hf H' F9 c9 => ?_) (fun o ho H' p' F9 c9 v202 vO => ?_)
        · rw [hres, hf] at hdef
          exact h0 f hdef H' F9 c9
        · rw [ho] at hdef
          have F9D : Fr (DfS t b) G H' := F9.mono fun g x k => by
            rcases k with k | k | k | k
            · exact Or.inl k
            · exact Or.inr (Or.inl ⟨by omega, k.2⟩)
            · exact Or.inr (Or.inl ⟨by omega, k.2⟩)
            · exact Or.inr (Or.inr (by omega))
          refine h1 _ hdef H' p' (FHG.tr F9D) c9 ⟨?_, ?_, ?_, ?_, fun j hj => fr_DRw F9 (fun k => by omega) (fun k => by omega) (fun k => by omega) (fun k => by omega) (rows j hj), v202, vO⟩
          · rw [F9.2.2.2.2.1 _ _ (fun k => by omega), FG.2.2.2.2.1 _ _ (fun k => by omega)]; exact vF
          · rw [F9.2.2.2.2.1 _ _ (fun k => by omega), FG.2.2.2.2.1 _ _ (fun k => by omega)]; exact u0
          · rw [F9.2.2.2.2.1 _ _ (fun k => by omega), FG.2.2.2.2.1 _ _ (fun k => by omega)]; exact u1
          · rw [F9.2.2.2.2.1 _ _ (fun k => by omega)]; exact v205
      · rw [hp] at hdef
        exact h0 f hdef G (FHF.tr (FG.mono DpD)) cG
      · -- a fifth letter in the product
        have sG := fr_shDef FG sF
        have FHG := FHF.tr (FG.mono DpD)
        rw [hp] at hdef
        simp only at hdef
        obtain ⟨-, -, -, k43, k45, -, k0⟩ := let_ne hst
        have hltf := lk_lt (T := T) (p := f) rfl k0
        have hoff : dOff T f = .inl f := by
          unfold dOff
          rw [if_neg (fun k => k.elim k43 k45), if_pos hltf]
        refine tail G f FHG sG cG (fun res hres f' hf H' F9 c9 => ?_) (fun o ho H' p' F9 c9 v202 vO => ?_)
        · rw [← hres, hoff] at hf
          injection hf with hf
          subst hf
          exact h0 f hdef H' F9 c9
        · rw [hoff] at ho; cases ho
    · rw [hr] at hdef
      exact h0 f hdef F' (FHE.tr (FF.mono RtD)) cF
    · -- a seventh figure
      have sF := fr_shDef FF sE
      have FHF := FHE.tr (FF.mono RtD)
      have hin := (dRat_in (T := T) (p := l + 1) hlt).1 f hr
      rw [hr] at hdef
      simp only at hdef
      have hpr : dProd T 31 0 f false dR0 = .inl f := by
        have hnl := (fig_let hst).1
        have hr0 : run isLet T 4 f = 0 := (run_zero (by decide)).mpr hnl
        unfold dProd pNam
        rw [hr0, if_pos (Or.inl rfl)]; rfl
      have hlf := lk_lt (T := T) (p := f) rfl (fig_let hst).2.2.2
      have hf3 : 3 ≤ f := by
        have h1 : l + 1 < f := by
          refine Classical.byContradiction fun k => ?_
          have e : f = l + 1 := by omega
          unfold dRat at hr
          cases hdn : dNum T (l + 1) with
          | inl f' =>
            rw [hdn] at hr
            injection hr with hr
            unfold dNum at hdn
            split at hdn
            · rename_i hor
              injection hdn with hdn
              have hz : run isFig T 6 (l + 1) = 0 := by omega
              have := (run_zero (P := isFig) (T := T) (n := 6) (p := l + 1) (by decide)).mp hz
              rw [← e, hst] at this; cases this
            · cases hdn
          | inr vp =>
            obtain ⟨v, p1⟩ := vp
            rw [hdn] at hr
            simp only at hr
            obtain ⟨m1, m2, -⟩ := (dNum_in (T := T) (p := l + 1) hlt).2 v p1 hdn
            split at hr
            · rename_i h47
              have hlt3 := lk_lt h47 (by decide)
              cases hdn2 : dNum T (p1 + 1) with
              | inl f' =>
                rw [hdn2] at hr
                injection hr with hr
                have := (dNum_in (T := T) (p := p1 + 1) hlt3).1 f' hdn2
                omega
              | inr vp2 => rw [hdn2] at hr; cases hr
            · cases hr
        omega
      refine K_readProduct (d := d) hbt sF cF hf3 (fun p2 m R hp => (by rw [hpr] at hp; cases hp)) (fun f' hp G FG cG => ⟨fun k => (by cases k), fun _ => ?_⟩) (fun f' hp hst2 => ?_)
      · rw [hpr] at hp
        injection hp with hp
        subst hp
        exact h0 f hdef G (FHF.tr (FG.mono DpD)) cG
      · rw [hpr] at hp
        injection hp with hp
        subst hp
        rw [(fig_let hst).1] at hst2; cases hst2
  · -- no sign of equality
    by_cases hlet : isLet (lk T (0 + l)) = true
    · have en : pNam T 0 = .inl l := by
        unfold pNam
        rw [hl, if_pos (Or.inr hlet), Nat.zero_add]
      rw [en] at hdef
      exact h0 l hdef D FHD cD
    · have en : pNam T 0 = .inr l := by
        unfold pNam
        rw [hl, if_neg (fun k => k.elim hl0 hlet)]
      rw [en] at hdef
      simp only at hdef
      rw [if_neg h61] at hdef
      exact h0 l hdef D FHD cD
