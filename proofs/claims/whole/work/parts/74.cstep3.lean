
/-- a part as the class holds it -/
def SPr (H : HP) (a : Nat) (R : PRow) : Prop := hI H 705 a 0 = Int32.ofNat R.1 ∧ hI H 706 a 0 = Int32.ofNat R.2.2.2.2 ∧ (∀ i, (i < R.1 ∨ i = 0) → amtR (hI H 4480 (a + 1) i) (hI H 4496 (a + 2) i) (R.2.1 i)) ∧ (∀ i, i < R.1 → hI H 4512 (a + 3) i = Int32.ofNat (R.2.2.1 i) ∧ hI H 4528 (a + 4) i = Int32.ofNat (R.2.2.2.1 i))
abbrev ReS (t a : Nat) : Nat → Nat → Prop := fun g x => (g = 802 ∧ x = t) ∨ (g = 4480 ∧ x = a + 1) ∨ (g = 4496 ∧ x = a + 2) ∨ (g = 4512 ∧ x = a + 3) ∨ (g = 4528 ∧ x = a + 4) ∨ (g = 705 ∧ x = a) ∨ (g = 706 ∧ x = a)
theorem NuS_Re {t a g x : Nat} (h : NuS t a g x) : ReS t a g x := by
  rcases h with h | h | h
  · exact Or.inl h
  · exact Or.inr (Or.inl h)
  · exact Or.inr (Or.inr (Or.inl h))
theorem NaS_Re {t a g x : Nat} (h : NaS t a g x) : ReS t a g x := by
  rcases h with h | h | h | h
  · exact Or.inl h
  · exact Or.inr (Or.inr (Or.inr (Or.inl h)))
  · exact Or.inr (Or.inr (Or.inr (Or.inr (Or.inl h))))
  · exact Or.inr (Or.inr (Or.inr (Or.inr (Or.inr (Or.inl h)))))
/-- what a part's reading leaves -/
def ReO (H H' : HP) (t a p1 : Nat) (T : TP) : Prop := Fr (ReS t a) H H' ∧ shStep H' a ∧ CT H' t T p1
theorem NuO.re {H0 H H' : HP} {t a i p p1 : Nat} {T : TP} (o : ReO H0 H t a p T) (h : NuO H H' t a i p1 T) : ReO H0 H' t a p1 T := ⟨o.1.tr (h.1.mono fun _ _ => NuS_Re), h.2.1, h.2.2.1⟩
theorem NaO.re {H0 H H' : HP} {t a i p p1 : Nat} {T : TP} (o : ReO H0 H t a p T) (h : NaO H H' t a i p1 T) : ReO H0 H' t a p1 T := ⟨o.1.tr (h.1.mono fun _ _ => NaS_Re), h.2.1, h.2.2.1⟩
/-- one more measure read -/
theorem SPr_set {H H1 H2 : HP} {t a i v p1 : Nat} {T : TP} {R : PRow} (hat : a + 7 ≤ t ∨ t + 2 ≤ a) (hR : R.1 = i) (hs : i = 0 ∨ SPr H a R) (hg : hI H 706 a 0 = Int32.ofNat R.2.2.2.2) (h1 : NuO H H1 t a i p1 T) (ha : amtR (hI H1 4480 (a + 1) i) (hI H1 4496 (a + 2) i) v) (h2 : NaO H1 H2 t a i (p1 + run isLet T 4 p1) T) (e1 : hI H2 4512 (a + 3) i = Int32.ofNat p1) (e2 : hI H2 4528 (a + 4) i = Int32.ofNat (run isLet T 4 p1)) (e3 : hI H2 705 a 0 = Int32.ofNat (i + 1)) : SPr H2 a (setP R i v p1 (run isLet T 4 p1)) := by
  obtain ⟨f1, s1, t1, o1⟩ := h1
  obtain ⟨f2, s2, t2, o2⟩ := h2
  have k1 := f1.2.2.2.2.1
  have k2 := f2.2.2.2.2.1
  refine ⟨e3, ?_, fun j hj => ?_, fun j hj => ?_⟩
  · rw [k2 _ _ (fun k => by omega), k1 _ _ (fun k => by omega)]; exact hg
  · rw [k2 4480 _ (fun k => by omega), k2 4496 _ (fun k => by omega)]
    show amtR _ _ (putC R.2.1 i v j)
    unfold putC
    by_cases e : j = i
    · rw [if_pos e, e]; exact ha
    · have hj : j < i + 1 ∨ j = 0 := hj
      rw [if_neg e, (o1 j e).1, (o1 j e).2]
      rcases hs with hs | hs
      · omega
      · exact hs.2.2.1 j (by omega)
  · have hj : j < i + 1 := hj
    show _ = Int32.ofNat (putC R.2.2.1 i p1 j) ∧ _ = Int32.ofNat (putC R.2.2.2.1 i (run isLet T 4 p1) j)
    unfold putC
    by_cases e : j = i
    · rw [if_pos e, if_pos e, e]; exact ⟨e1, e2⟩
    · rw [if_neg e, if_neg e, (o2 j e).1, (o2 j e).2, k1 _ _ (fun k => by omega), k1 _ _ (fun k => by omega)]
      rcases hs with hs | hs
      · omega
      · exact hs.2.2.2 j (by omega)
theorem pow_not {c : Int32} (h : isLet c = true) : isPow c = false ∧ isFig c = false := by
  unfold isLet at h
  unfold isPow isFig
  rw [decide_eq_true_iff] at h
  rw [decide_eq_false_iff_not, decide_eq_false_iff_not]
  omega
theorem fig_not {c : Int32} (h : isFig c = true) : isLet c = false := by
  unfold isFig at h
  unfold isLet
  rw [decide_eq_true_iff] at h
  rw [decide_eq_false_iff_not]
  omega
theorem run_zero {P : Int32 → Bool} {T : TP} {n p : Nat} (hn : 0 < n) : run P T n p = 0 ↔ P (lk T p) = false := by
  cases n with
  | zero => omega
  | succ n =>
    unfold run
    by_cases h : P (lk T p) = true
    · rw [if_pos h, h]; exact ⟨fun k => by omega, fun k => (by cases k)⟩
    · rw [if_neg h]; exact ⟨fun _ => by simpa using h, fun _ => rfl⟩
theorem mix_loop {d : Nat} {q : HP → Bool → Prop} {H0 : HP} {t a : Nat} {T : TP} (hat : a + 7 ≤ t ∨ t + 2 ≤ a) : ∀ (n i p : Nat) (R : PRow) (H : HP), n + i = 4 → 1 ≤ i → R.1 = i → (n ≠ 0 → isFig (lk T p) = true) → ReO H0 H t a p T → SPr H a R →
    (∀ p1 R1, pMix T n i p R = .inr (p1, R1) → ∀ H', ReO H0 H' t a p1 T → SPr H' a R1 → q H' true) →
    (∀ f, pMix T n i p R = .inl f → ∀ H', ReO H0 H' t a f T → q H' false) →
    (∀ f, pMix T n i p R = .inl f → (isFig (lk T f) = true ∨ isLet (lk T f) = true) → ∀ H', ReO H0 H' t a f T → q H' true) → L_X6_read_45 (d + 4) q a (some t) (Int32.ofNat i) H := by
  have e4 : (4 : Int32) = Int32.ofNat 4 := rfl
  have e0 : (0 : Int32) = Int32.ofNat 0 := rfl
  intro n
  induction n with
  | zero =>
    intro i p R H hi h1 hR hf hO hs q1 q0 qs
    refine T_X6_read_45 ?_
    unfold wb_X6_read_45
    rw [e4, iN_le (by omega) (by omega)]
    exact ⟨fun _ => q1 p R rfl H hO hs, fun h => by omega⟩
  | succ n ih =>
    intro i p R H hi h1 hR hf hO hs q1 q0 qs
    have hf := hf (by omega)
    have hmix : pMix T (n + 1) i p R = (match pAmt T p with
      | .inl f => .inl f
      | .inr (v, p1) => match pNam T p1 with
        | .inl f => .inl f
        | .inr l => pMix T n (i + 1) (p1 + l) (setP R i v p1 l)) := by
      show (if isFig (lk T p) = true then _ else _) = _
      rw [if_pos hf]
      rcases pAmt T p with f | ⟨v, p1⟩
      · rfl
      · simp only
        cases pNam T p1 <;> rfl
    have hne : ¬ Int32.ofNat i = 0 := by rw [e0, iN_eq (by omega) (by omega)]; omega
    refine T_X6_read_45 ?_
    unfold wb_X6_read_45
    rw [e4, iN_le (by omega) (by omega)]
    refine ⟨fun h => by omega, fun _ => ⟨hO.2.1.1, K_readNumber (show i < 4 by omega) hat hO.2.1 hO.2.2 hf (fun v p1 hv H1 O1 ha => ?_) (fun f hv H1 O1 => ?_) (fun f hv hx H1 O1 => ?_)⟩⟩
    · rw [hv] at hmix
      simp only at hmix
      refine ⟨fun _ => ⟨O1.2.1.1, K_readName (show i < 4 by omega) hat O1.2.1 O1.2.2.1 (fun hl H2 O2 n1 n2 n3 => ?_) (fun hl H2 O2 n3 => ?_)⟩, fun h => (by cases h)⟩
      · have hO2 := NaO.re (NuO.re hO O1) O2
        have s2 := SPr_set hat hR (Or.inr hs) hs.2.1 O1 ha O2 n1 n2 n3
        refine ⟨fun _ => ⟨fun _ => ⟨t, rfl, O2.2.2.1.1.1, K_isFigure (k := p1 + run isLet T 4 p1) O2.2.2.1 (by rw [i32_0]; omega) ?_⟩, fun h => absurd h hne⟩, fun h => (by cases h)⟩
        by_cases hx : isLet (lk T (p1 + run isLet T 4 p1)) = true
        · have hpn : pNam T p1 = .inl (p1 + run isLet T 4 p1) := by unfold pNam; rw [if_pos (Or.inr hx)]
          rw [hpn] at hmix
          have nf := (pow_not hx).2
          refine ⟨fun h => (by rw [nf] at h; cases h), fun _ => qs _ hmix (Or.inr hx) H2 hO2⟩
        · have hpn : pNam T p1 = .inr (run isLet T 4 p1) := by unfold pNam; rw [if_neg (fun k => k.elim hl hx)]
          rw [hpn] at hmix
          simp only at hmix
          rw [iN_inc (by omega)]
          refine ⟨fun hfg => ?_, fun hfg => ?_⟩
          · refine ih (i + 1) (p1 + run isLet T 4 p1) _ H2 (by omega) (by omega) rfl (fun _ => hfg) hO2 s2 (fun p2 R2 h => q1 p2 R2 (hmix.trans h)) (fun f h => q0 f (hmix.trans h)) (fun f h => qs f (hmix.trans h))
          · refine q1 (p1 + run isLet T 4 p1) (setP R i v p1 (run isLet T 4 p1)) (hmix.trans ?_) H2 hO2 s2
            cases n with
            | zero => rfl
            | succ n =>
              show (if isFig (lk T (p1 + run isLet T 4 p1)) = true then _ else _) = _
              rw [if_neg (by rw [hfg]; decide)]
      · have hpn : pNam T p1 = .inl p1 := by unfold pNam; rw [if_pos (Or.inl hl), hl]; rfl
        rw [hpn] at hmix
        refine ⟨fun h => (by cases h), fun _ => ⟨fun _ => q0 _ hmix H2 (NaO.re (NuO.re hO O1) O2), fun h => absurd h hne⟩⟩
    · rw [hv] at hmix
      exact ⟨fun h => (by cases h), fun _ => q0 f hmix H1 (NuO.re hO O1)⟩
    · rw [hv] at hmix
      have hl : run isLet T 4 f = 0 := (run_zero (by decide)).mpr (fig_not hx)
      refine ⟨fun _ => ⟨O1.2.1.1, K_readName (show i < 4 by omega) hat O1.2.1 O1.2.2.1 (fun k => absurd hl k) (fun _ H2 O2 n3 => ?_)⟩, fun h => (by cases h)⟩
      exact ⟨fun h => (by cases h), fun _ => ⟨fun _ => q0 f hmix H2 (NaO.re (NuO.re hO O1) O2), fun h => absurd h hne⟩⟩
theorem SPr_fig {H : HP} {a g : Nat} {R : PRow} {v : Int32} (hs : SPr H a R) (hv : v = Int32.ofNat g) : SPr (sI H 706 a 0 v) a (figP R g) := by
  have F : Fr (fun g x => g = 706 ∧ x = a) H (sI H 706 a 0 v) := Fr_sI ⟨rfl, rfl⟩
  have hi := F.2.2.2.2.1
  obtain ⟨s1, s2, s3, s4⟩ := hs
  refine ⟨?_, ?_, fun i h => ?_, fun i h => ?_⟩
  · rw [hi _ _ (fun k => by omega)]; exact s1
  · rw [hIs_i, if_pos rfl]; exact hv
  · rw [hi _ _ (fun k => by omega), hi _ _ (fun k => by omega)]; exact s3 i h
  · rw [hi _ _ (fun k => by omega), hi _ _ (fun k => by omega)]; exact s4 i h
theorem ReO_fig {H0 H : HP} {t a p : Nat} {T : TP} {v : Int32} (hat : a + 7 ≤ t ∨ t + 2 ≤ a) (h : ReO H0 H t a p T) : ReO H0 (sI H 706 a 0 v) t a p T := by
  have F : Fr (fun g x => g = 706 ∧ x = a) H (sI H 706 a 0 v) := Fr_sI ⟨rfl, rfl⟩
  exact ⟨h.1.tr (F.mono fun g x k => Or.inr (Or.inr (Or.inr (Or.inr (Or.inr (Or.inr k)))))), fr_shStep F h.2.1, fr_CT F (fun k => by omega) (fun k => by omega) (fun k => by omega) h.2.2⟩
theorem ReO_at {H0 H : HP} {t a p p1 : Nat} {T : TP} (hat : a + 7 ≤ t ∨ t + 2 ≤ a) (h : ReO H0 H t a p T) (hp : p1 ≤ T.1) : ReO H0 (atT H t p1) t a p1 T :=
  ⟨h.1.tr (Fr_at.mono fun g x k => Or.inl k), fr_shStep Fr_at h.2.1, h.2.2.at hp⟩
theorem SPr_at {H : HP} {t a p1 : Nat} {R : PRow} (hat : a + 7 ≤ t ∨ t + 2 ≤ a) (hs : SPr H a R) : SPr (atT H t p1) a R := by
  have hi := (Fr_at (H := H) (t := t) (p := p1)).2.2.2.2.1
  obtain ⟨s1, s2, s3, s4⟩ := hs
  refine ⟨?_, ?_, fun i h => ?_, fun i h => ?_⟩
  · rw [hi _ _ (fun k => by omega)]; exact s1
  · rw [hi _ _ (fun k => by omega)]; exact s2
  · rw [hi _ _ (fun k => by omega), hi _ _ (fun k => by omega)]; exact s3 i h
  · rw [hi _ _ (fun k => by omega), hi _ _ (fun k => by omega)]; exact s4 i h
theorem K_sread {d : Nat} {q : HP → Bool → Prop} {H : HP} {t a p : Nat} {T : TP} (hat : a + 7 ≤ t ∨ t + 2 ≤ a) (s : shStep H a) (h : CT H t T p) (g1 : hI H 706 a 0 = 1) (g0 : hI H 705 a 0 = 0)
    (q1 : ∀ p1 R1, pAtom T p = .inr (p1, R1) → ∀ H', ReO H H' t a p1 T → SPr H' a R1 → q H' true)
    (q0 : ∀ f, pAtom T p = .inl f → ∀ H', ReO H H' t a f T → q H' false)
    (qs : ∀ f, pAtom T p = .inl f → (isFig (lk T f) = true ∨ isLet (lk T f) = true) → ∀ H', ReO H H' t a f T → q H' true) : CZ (d + 5) 0 0 mX6_read [rv (some a), rv (some t)] H q := by
  refine C_X6_read ?_
  unfold wb_X6_read_0
  have in0 : vp_in (0 : Int32) 4 := vpi_of (n := 0) (by decide) (by decide)
  have hO : ReO H H t a p T := ⟨Fr.rf, s, h⟩
  refine ⟨t, rfl, h.1.1, K_isFigure (k := p) h (by rw [i32_0]; omega) ⟨fun hf => ?_, fun hf => ?_⟩⟩
  · -- a number first
    have e4 : (4 : Int32) = Int32.ofNat 4 := rfl
    have e0 : (0 : Int32) = Int32.ofNat 0 := rfl
    have hat0 : pAtom T p = pNumd T p := by unfold pAtom; rw [if_pos hf]
    have h40 : ¬ (4 : Int32) ≤ 0 := by decide
    refine T_X6_read_45 ?_
    unfold wb_X6_read_45
    refine ⟨fun k => absurd k h40, fun _ => ⟨s.1, ?_⟩⟩
    have kn := @K_readNumber d
    refine K_readNumber (i := 0) (by decide) hat s h hf (fun v p1 hv H1 O1 ha => ?_) (fun f hv H1 O1 => ?_) (fun f hv hx H1 O1 => ?_)
    · have hp1 := O1.2.2.1.2.2.2.2.1
      refine ⟨fun _ => ⟨O1.2.1.1, K_readName (i := 0) (by decide) hat O1.2.1 O1.2.2.1 (fun hl H2 O2 n1 n2 n3 => ?_) (fun hl H2 O2 n3 => ?_)⟩, fun k => (by cases k)⟩
      · have hO2 := NaO.re (NuO.re hO O1) O2
        have s2 : SPr H2 a (setP pR0 0 v p1 (run isLet T 4 p1)) := SPr_set (R := pR0) hat rfl (Or.inl rfl) g1 O1 ha O2 n1 n2 n3
        have hlt : isLet (lk T p1) = true := by
          by_cases c : isLet (lk T p1) = true
          · exact c
          · exact absurd ((run_zero (by decide)).mpr (by simpa using c)) hl
        have hN : pNumd T p = (match pNam T p1 with
          | .inl f => .inl f
          | .inr l => if pOwn T (p1 + l) = true then .inr (p1 + l + 1, figP (setP pR0 0 v p1 l) (figN T (p1 + l))) else pMix T 3 1 (p1 + l) (setP pR0 0 v p1 l)) := by
          unfold pNumd
          rw [hv]
          show (if isLet (lk T p1) = true then _ else _) = _
          rw [if_pos hlt]
          cases pNam T p1 <;> rfl
        refine ⟨fun _ => ⟨fun k => absurd rfl k, fun _ => ?_⟩, fun k => (by cases k)⟩
        refine K_endsByFigure O2.2.2.1 ?_
        by_cases hx : isLet (lk T (p1 + run isLet T 4 p1)) = true
        · have hpn : pNam T p1 = .inl (p1 + run isLet T 4 p1) := by unfold pNam; rw [if_pos (Or.inr hx)]
          rw [hpn] at hN
          obtain ⟨np, nf⟩ := pow_not hx
          have no : pOwn T (p1 + run isLet T 4 p1) = false := by unfold pOwn; rw [np]; rfl
          rw [no]
          refine ⟨fun _ => ⟨t, rfl, O2.2.2.1.1.1, K_isFigure (k := p1 + run isLet T 4 p1) O2.2.2.1 (by rw [i32_0]; omega) ⟨fun k => (by rw [nf] at k; cases k), fun _ => qs _ (hat0.trans hN) (Or.inr hx) H2 hO2⟩⟩, fun k => (by cases k)⟩
        · have hpn : pNam T p1 = .inr (run isLet T 4 p1) := by unfold pNam; rw [if_neg (fun k => k.elim hl hx)]
          rw [hpn] at hN
          simp only at hN
          refine ⟨fun ho => ?_, fun ho => ?_⟩
          · rw [if_neg (by rw [ho]; decide)] at hN
            refine ⟨t, rfl, O2.2.2.1.1.1, K_isFigure (k := p1 + run isLet T 4 p1) O2.2.2.1 (by rw [i32_0]; omega) ⟨fun hfg => ?_, fun hfg => ?_⟩⟩
            · exact mix_loop hat 3 1 (p1 + run isLet T 4 p1) _ H2 rfl (Nat.le_refl _) rfl (fun _ => hfg) hO2 s2 (fun p2 R2 k => q1 p2 R2 (hat0.trans (hN.trans k))) (fun f k => q0 f (hat0.trans (hN.trans k))) (fun f k => qs f (hat0.trans (hN.trans k)))
            · refine q1 _ _ (hat0.trans (hN.trans ?_)) H2 hO2 s2
              show (if isFig (lk T (p1 + run isLet T 4 p1)) = true then _ else _) = _
              rw [if_neg (by rw [hfg]; decide)]
          · rw [if_pos ho] at hN
            have hpw : isPow (lk T (p1 + run isLet T 4 p1)) = true := by
              unfold pOwn at ho
              rw [Bool.and_eq_true, Bool.and_eq_true, Bool.and_eq_true] at ho
              exact ho.1.1.1
            obtain ⟨w1, w2, w3, w4⟩ := pow_lt' hpw
            refine ⟨t, rfl, O2.2.2.1.1.1, K_takePower O2.2.2.1 (fun _ => ?_) (fun k => (by rw [hpw] at k; cases k))⟩
            have hO3 := ReO_at hat hO2 (p1 := p1 + run isLet T 4 p1 + 1) w1
            have s3 := SPr_at (t := t) (p1 := p1 + run isLet T 4 p1 + 1) hat s2
            exact ⟨hO3.2.1.1, q1 _ _ (hat0.trans hN) _ (ReO_fig hat hO3) (SPr_fig s3 w4)⟩
      · have hn : isLet (lk T p1) = false := (run_zero (by decide)).mp hl
        have hN : pNumd T p = .inr (p1, (0, putC pR0.2.1 0 v, pR0.2.2.1, pR0.2.2.2.1, 1)) := by
          unfold pNumd
          rw [hv]
          show (if isLet (lk T p1) = true then _ else _) = _
          rw [if_neg (by rw [hn]; decide)]
        refine ⟨fun k => (by cases k), fun _ => ⟨fun k => absurd rfl k, fun _ => q1 _ _ (hat0.trans hN) H2 (NaO.re (NuO.re hO O1) O2) ⟨?_, ?_, fun i hi => ?_, fun i hi => (by cases hi)⟩⟩⟩
        · rw [n3, O1.1.2.2.2.2.1 _ _ (fun k => by omega)]; exact g0
        · rw [O2.1.2.2.2.2.1 _ _ (fun k => by omega), O1.1.2.2.2.2.1 _ _ (fun k => by omega)]; exact g1
        · have hi0 : i = 0 := by
            rcases hi with k | k
            · cases k
            · exact k
          subst hi0
          rw [O2.1.2.2.2.2.1 4480 _ (fun k => by omega), O2.1.2.2.2.2.1 4496 _ (fun k => by omega)]
          show amtR _ _ (putC (fun _ => 0) 0 v 0)
          unfold putC
          rw [if_pos rfl]; exact ha
    · have hN : pNumd T p = .inl f := by unfold pNumd; rw [hv]
      exact ⟨fun k => (by cases k), fun _ => q0 f (hat0.trans hN) H1 (NuO.re hO O1)⟩
    · have hN : pNumd T p = .inl f := by unfold pNumd; rw [hv]
      have hl : run isLet T 4 f = 0 := (run_zero (by decide)).mpr (fig_not hx)
      refine ⟨fun _ => ⟨O1.2.1.1, K_readName (i := 0) (by decide) hat O1.2.1 O1.2.2.1 (fun k => absurd hl k) (fun _ H2 O2 n3 => ?_)⟩, fun k => (by cases k)⟩
      exact ⟨fun k => (by cases k), fun _ => ⟨fun k => absurd rfl k, fun _ => qs f (hat0.trans hN) (Or.inl hx) H2 (NaO.re (NuO.re hO O1) O2)⟩⟩
  · -- a name
    have hN : pAtom T p = (match pNam T p with
      | .inl f => .inl f
      | .inr l => if isPow (lk T (p + l)) = true then .inr (p + l + 1, figP (setP pR0 0 1000 p l) (figN T (p + l))) else .inr (p + l, setP pR0 0 1000 p l)) := by
      unfold pAtom; rw [if_neg (by rw [hf]; decide)]
      cases pNam T p <;> rfl
    obtain ⟨x1, x2, x3, x4⟩ := sA_1 s
    obtain ⟨y1, y2, y3, y4⟩ := sA_2 s
    have c0 : (0 : Int32).toNatClampNeg = 0 := rfl
    rw [c0]
    refine ⟨s.1, a + 1, x1, x2, by rw [x4]; exact in0, ?_⟩
    rw [x3]
    refine ⟨a + 2, y1, y2, ?_, ?_⟩
    · rw [ln_sI, y4]; exact in0
    rw [tg_sI, y3]
    intro H12 e12
    have F1 : Fr (fun g x => (g = 4480 ∧ x = a + 1) ∨ (g = 4496 ∧ x = a + 2)) H H12 := by
      rw [← e12]; exact (Fr_sI (Or.inl ⟨rfl, rfl⟩)).tr (Fr_sI (Or.inr ⟨rfl, rfl⟩))
    have O1 : NuO H H12 t a 0 p T := by
      refine ⟨F1.mono fun g x k => Or.inr k, fr_shStep F1 s, fr_CT F1 (fun k => by omega) (fun k => by omega) (fun k => by omega) h, fun j hj => ?_⟩
      rw [← e12]
      simp only [hIs, Nat.reduceEqDiff, false_and, if_false, hj, and_false]
      exact ⟨trivial, trivial⟩
    have ha : amtR (hI H12 4480 (a + 1) 0) (hI H12 4496 (a + 2) 0) 1000 := by
      have v1 : hI H12 4480 (a + 1) 0 = 1 := by rw [← e12]; simp only [hIs, Nat.reduceEqDiff, false_and, if_false, and_self, if_true]
      have v2 : hI H12 4496 (a + 2) 0 = 1 := by rw [← e12]; simp only [hIs, and_self, if_true]
      rw [v1, v2]
      unfold amtR
      rw [i32_1]
      refine ⟨by omega, by omega, by omega, by omega, by omega⟩
    clear e12
    refine K_readName (i := 0) (by decide) hat O1.2.1 O1.2.2.1 (fun hl H2 O2 n1 n2 n3 => ?_) (fun hl H2 O2 n3 => ?_)
    · have hO2 := NaO.re (NuO.re hO O1) O2
      have s2 : SPr H2 a (setP pR0 0 1000 p (run isLet T 4 p)) := SPr_set (R := pR0) hat rfl (Or.inl rfl) g1 O1 ha O2 n1 n2 n3
      refine ⟨fun _ => ⟨O2.2.2.1.1.1, ?_⟩, fun k => (by cases k)⟩
      by_cases hx : isLet (lk T (p + run isLet T 4 p)) = true
      · have hpn : pNam T p = .inl (p + run isLet T 4 p) := by unfold pNam; rw [if_pos (Or.inr hx)]
        rw [hpn] at hN
        have np := (pow_not hx).1
        refine K_takePower O2.2.2.1 (fun k => (by rw [np] at k; cases k)) (fun _ => ⟨hO2.2.1.1, qs _ hN (Or.inr hx) _ (ReO_fig hat hO2)⟩)
      · have hpn : pNam T p = .inr (run isLet T 4 p) := by unfold pNam; rw [if_neg (fun k => k.elim hl hx)]
        rw [hpn] at hN
        simp only at hN
        refine K_takePower O2.2.2.1 (fun hpw => ?_) (fun hpw => ?_)
        · obtain ⟨w1, w2, w3, w4⟩ := pow_lt' hpw
          rw [if_pos hpw] at hN
          have hO3 := ReO_at hat hO2 (p1 := p + run isLet T 4 p + 1) w1
          have s3 := SPr_at (t := t) (p1 := p + run isLet T 4 p + 1) hat s2
          exact ⟨hO3.2.1.1, q1 _ _ hN _ (ReO_fig hat hO3) (SPr_fig s3 w4)⟩
        · rw [if_neg (by rw [hpw]; decide)] at hN
          have s3 : SPr (sI H2 706 a 0 1) a (figP (setP pR0 0 1000 p (run isLet T 4 p)) 1) := SPr_fig s2 rfl
          exact ⟨hO2.2.1.1, q1 _ _ hN _ (ReO_fig hat hO2) s3⟩
    · have hpn : pNam T p = .inl p := by unfold pNam; rw [if_pos (Or.inl hl), hl]; rfl
      rw [hpn] at hN
      exact ⟨fun k => (by cases k), fun _ => q0 _ hN H2 (NaO.re (NuO.re hO O1) O2)⟩
