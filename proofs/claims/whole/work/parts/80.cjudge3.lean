
/-! ===== the class: mixed measures, products and sums judged ===== -/
theorem fr_Fnd {H H' : HP} {b sp fo m : Nat} {ad : Nat → Nat} {u : Nat → UV} (h : Fr (JgS b sp) H H') (hsp : sp < b) (had : ∀ i, i < m → ad i + 5 ≤ sp) (s : Fnd H fo m ad u) : Fnd H' fo m ad u := by
  refine ⟨by rw [h.1]; exact s.1, fun i hi => ?_⟩
  obtain ⟨s1, s2, s3, s4⟩ := s.2 i hi
  have := had i hi
  refine ⟨?_, fr_unit h s2, fr_CUn h (fun g x k1 k2 k3 => by omega) s3, s4⟩
  rw [h.2.2.2.2.2.2.2.2 _ _ (fun k => by omega)]; exact s1
theorem fr_JV5 {S : Nat → Nat → Prop} {H H' : HP} {l : Nat} {v : JV} (h : Fr S H H') (h1 : ¬ S 4544 (l + 5)) (h2 : ¬ S 400 (l + 6)) (h3 : ¬ S 401 (l + 6)) (s : JV5 H l v) : JV5 H' l v := by
  refine ⟨fun j hj => ?_, ?_⟩
  · rw [h.2.2.2.2.1 _ _ h1]; exact s.1 j hj
  · rw [fr_getF h h2 h3]; exact s.2
theorem mixed_loop {d : Nat} {q : HP → Int32 → Prop} {H0 : HP} {b sp fo : Nat} {ad : Nat → Nat} {u : Nat → UV} {R : PRow} {T : TP} {P : Nat → Int32} {res : JR} (ss : shStep H0 b) (hp : SPr H0 b R) (ok : okP T R) (tsp : tg H0 sp = 4) (hf0 : Fnd H0 fo R.1 ad u) (had : ∀ i, i < R.1 → ad i + 5 ≤ sp) (hsp : sp < b) (hq : ∀ H' r, JO H0 b sp false res H' r → q H' r) : ∀ (k i : Nat) (f : FR) (H : HP), k + i = R.1 → Fr (JgS b sp) H0 H → getF H (b + 6) = f → okF f → (∀ j, j < 5 → hI H 4544 (b + 5) j = P j) → hI H 704 b 0 = 0 → orR P (mixF u R.2.1 k i f) = res → L_X6_judgeMixed_40 (d + 3) q b (some fo) (some sp) (Int32.ofNat i) H := by
  have e4 : (4 : Int32) = Int32.ofNat 4 := rfl
  have hm := ok.1
  intro k
  induction k with
  | zero =>
    intro i f H hi hF hf of hP h4 hres
    have ss' := fr_shStep hF ss
    have k5 : hI H 705 b 0 = Int32.ofNat R.1 := by rw [hF.2.2.2.2.1 _ _ (fun k => by omega)]; exact hp.1
    refine T_X6_judgeMixed_40 ?_
    unfold wb_X6_judgeMixed_40
    rw [k5, iN_le (by omega) (by omega)]
    refine ⟨ss'.1, fun _ => hq _ _ ⟨hF, Or.inl ⟨(P, f), hres.symm, rfl, ⟨hP, hf⟩, h4⟩⟩, fun h => by omega⟩
  | succ k ih =>
    intro i f H hi hF hf of hP h4 hres
    have ss' := fr_shStep hF ss
    have k5 : hI H 705 b 0 = Int32.ofNat R.1 := by rw [hF.2.2.2.2.1 _ _ (fun k => by omega)]; exact hp.1
    have hf' := fr_Fnd hF hsp had hf0
    obtain ⟨f1, f2, f3, f4⟩ := hf'.2 i (by omega)
    have hadi := had i (by omega)
    obtain ⟨x1, x2, x3, x4⟩ := sA_1 ss'
    obtain ⟨y1, y2, y3, y4⟩ := sA_2 ss'
    obtain ⟨b1, b2⟩ := step_b6 ss'
    obtain ⟨u1, u2, -, -, -, -⟩ := unit_3 f2
    have am : amtR (hI H 4480 (b + 1) i) (hI H 4496 (b + 2) i) (R.2.1 i) := by
      rw [hF.2.2.2.2.1 _ _ (fun k => by omega), hF.2.2.2.2.1 _ _ (fun k => by omega)]
      exact hp.2.2.1 i (Or.inl (by omega))
    obtain ⟨m1, m2, m3⟩ := amt_red am (ok.2.2.2.1 i)
    have tsp' : tg H sp = 4 := by rw [fr_tg hF]; exact tsp
    have vp4 : vp_in (Int32.ofNat i) 4 := vpi_of (by omega) (by decide)
    refine T_X6_judgeMixed_40 ?_
    unfold wb_X6_judgeMixed_40
    rw [k5, iN_le (by omega) (by omega), e4, iN_le (by omega) (by omega), iN_cl (by omega)]
    refine ⟨ss'.1, fun h => by omega, fun _ => ⟨fun h => by omega, fun _ => ⟨b + 1, x1, x2, by rw [x4]; exact vp4, b + 2, y1, y2, by rw [y4]; exact vp4, sp, rfl, tsp', ?_⟩⟩⟩
    rw [x3, y3]
    refine K_set tsp' m2 m3 ?_
    rw [m1]
    have F1 : Fr (JgS b sp) H (setF H sp (thF (R.2.1 i))) := Fr_setF (Or.inr (Or.inr ⟨Or.inl rfl, Or.inr rfl⟩)) (Or.inr (Or.inr ⟨Or.inr rfl, Or.inr rfl⟩))
    have eg : getF (setF H sp (thF (R.2.1 i))) sp = thF (R.2.1 i) := getF_setF
    have cu1 := fr_CUn F1 (fun g x k1 k2 k3 => by omega) f3
    have eo := cu1.2.2.2.1
    have eg1 : hL (setF H sp (thF (R.2.1 i))) 400 sp 0 = (thF (R.2.1 i)).1 := congrArg Prod.fst eg
    have eg2 : hL (setF H sp (thF (R.2.1 i))) 401 sp 0 = (thF (R.2.1 i)).2 := congrArg Prod.snd eg
    have eo1 : hL (setF H sp (thF (R.2.1 i))) 400 (ad i + 3) 0 = (u i).2.2.1.1 := congrArg Prod.fst eo
    have eo2 : hL (setF H sp (thF (R.2.1 i))) 401 (ad i + 3) 0 = (u i).2.2.1.2 := congrArg Prod.snd eo
    have et1 : tg (setF H sp (thF (R.2.1 i))) fo = 4630 := tg_of hf'.1
    refine ⟨fo, rfl, isA_of hf'.1 (by decide) (by decide), by show vp_in _ (ln H fo); rw [ln_of hf'.1]; exact vp4, ad i, by rw [et1]; exact f1, f2.1, tsp', ?_⟩
    have u1' : hC (setF H sp (thF (R.2.1 i))) 1003 (ad i) = some (ad i + 3) := u1
    rw [u1']
    unfold mixF at hres
    refine K_multiply (a := sp) (b := ad i + 3) tsp' u2 (by rw [eg]; exact thF_ok (ok.2.2.2.1 i)) (by rw [eo]; exact f4.2.2.2.2.1) (fun t ot e => ⟨fun c => (by cases c), fun _ => ?_⟩) (fun e => ⟨fun _ => ?_, fun c => (by cases c)⟩)
    · rw [eg1, eg2, eo1, eo2] at e
      rw [e] at hres
      simp only at hres
      have F2 : Fr (JgS b sp) (setF H sp (thF (R.2.1 i))) (setF (setF H sp (thF (R.2.1 i))) sp t) := Fr_setF (Or.inr (Or.inr ⟨Or.inl rfl, Or.inr rfl⟩)) (Or.inr (Or.inr ⟨Or.inr rfl, Or.inr rfl⟩))
      generalize hK : setF (setF H sp (thF (R.2.1 i))) sp t = K at F2 ⊢
      have F3 := F1.tr F2
      have es : getF K sp = t := by rw [← hK]; exact getF_setF
      have ev : getF K (b + 6) = f := by
        rw [← hf, ← hK]
        show (hL (setF (setF H sp _) sp t) 400 (b + 6) 0, hL (setF (setF H sp _) sp t) 401 (b + 6) 0) = _
        unfold setF
        simp only [hL_sL, u3_get]
        have n1 : ¬ (b + 6 = sp) := by omega
        simp only [n1, false_and, and_false, if_false]
      have es1 : hL K 400 sp 0 = t.1 := congrArg Prod.fst es
      have es2 : hL K 401 sp 0 = t.2 := congrArg Prod.snd es
      have ev1 : hL K 400 (b + 6) 0 = f.1 := congrArg Prod.fst ev
      have ev2 : hL K 401 (b + 6) 0 = f.2 := congrArg Prod.snd ev
      have ssK := fr_shStep F3 ss'
      obtain ⟨c1, c2⟩ := step_b6 ssK
      have tK : tg K sp = 4 := by rw [fr_tg F3]; exact tsp'
      refine ⟨ssK.1, b + 6, c1, c2, ?_⟩
      rw [c1]
      refine K_add c2 tK (by rw [ev]; exact of) (by rw [es]; exact ot) (fun g og e2 => ⟨fun _ => ?_, fun c => (by cases c)⟩) (fun e2 => ⟨fun c => (by cases c), fun _ => ?_⟩)
      · rw [ev1, ev2, es1, es2] at e2
        rw [e2] at hres
        have F4 : Fr (JgS b sp) K (setF K (b + 6) g) := Fr_setF (Or.inr (Or.inr ⟨Or.inl rfl, Or.inl rfl⟩)) (Or.inr (Or.inr ⟨Or.inr rfl, Or.inl rfl⟩))
        rw [iN_inc (by omega)]
        refine ih (i + 1) g _ (by omega) (hF.tr (F3.tr F4)) getF_setF og (fun j hj => ?_) ?_ hres
        · rw [← hK]; exact hP j hj
        · rw [← hK]; exact h4
      · rw [ev1, ev2, es1, es2] at e2
        rw [e2] at hres
        exact hq _ _ ⟨hF.tr F3, Or.inr ⟨_, hres.symm, rfl⟩⟩
    · rw [eg1, eg2, eo1, eo2] at e
      rw [e] at hres
      exact hq _ _ ⟨hF.tr F1, Or.inr ⟨_, hres.symm, rfl⟩⟩
theorem K_judgeMixed {d : Nat} {q : HP → Int32 → Prop} {H : HP} {b sp fo : Nat} {ad : Nat → Nat} {u : Nat → UV} {R : PRow} {T : TP} (ss : shStep H b) (hp : SPr H b R) (ok : okP T R) (hz4 : hI H 704 b 0 = 0) (hm1 : 1 ≤ R.1) (tsp : tg H sp = 4) (hf : Fnd H fo R.1 ad u) (had : ∀ i, i < R.1 → ad i + 5 ≤ sp) (hsp : sp < b) (hq : ∀ H' r, JO H b sp false (jMixed R.1 u R.2.1) H' r → q H' r) : CI (d + 4) 0 0 mX6_judgeMixed [rv (some b), rv (some fo), rv (some sp)] H q := by
  refine C_X6_judgeMixed ?_
  unfold wb_X6_judgeMixed_0
  refine ⟨ss.1, K_mixedRefusal ss.1 hp.1 ok.1 hm1 hf ⟨fun c => ?_, fun c => hq _ _ ⟨Fr.rf, Or.inr ⟨_, ?_, rfl⟩⟩⟩⟩
  · obtain ⟨f1, f2, f3, f4⟩ := hf.2 0 (by omega)
    obtain ⟨x1, x2, x3, x4⟩ := sA_5 ss
    obtain ⟨-, -, -, -, u5, u6⟩ := unit_3 f2
    obtain ⟨b1, b2⟩ := step_b6 ss
    have ec : (0 : Int32).toNatClampNeg = 0 := rfl
    have ec5 : (5 : Int32).toNatClampNeg = 5 := rfl
    refine ⟨fo, rfl, isA_of hf.1 (by decide) (by decide), by rw [ln_of hf.1]; exact vpi_of (n := 0) (m := 4) (by decide) (by decide), ad 0, by rw [tg_of hf.1, ec]; exact f1, f2.1, ss.1, ad 0 + 2, u5, isA_of u6 (by decide) (by decide), b + 5, x1, x2, by rw [ec, ec5, ln_of u6]; omega, by rw [ec, ec5, x4]; omega, b + 6, b1, b2, ?_⟩
    rw [x3, tg_of u6, ec, ec5]
    have F1 : Fr (JgS b sp) H (fI H 4544 (b + 5) (va_cpy (hI H 4208 (ad 0 + 2)) (hI H 4544 (b + 5)) 0 0 5)) := Fr_fI (Or.inr (Or.inl ⟨rfl, rfl⟩))
    have hP : ∀ j, j < 5 → hI (fI H 4544 (b + 5) (va_cpy (hI H 4208 (ad 0 + 2)) (hI H 4544 (b + 5)) 0 0 5)) 4544 (b + 5) j = (u 0).2.1 j := fun j hj => by
      rw [hI_fI, c3_self, cpy0 hj]; exact f3.2.2.1 j hj
    have h4 : hI (fI H 4544 (b + 5) (va_cpy (hI H 4208 (ad 0 + 2)) (hI H 4544 (b + 5)) 0 0 5)) 704 b 0 = 0 := by
      rw [hI_fI, c3_g _ _ _ _ _ (by decide)]; exact hz4
    generalize fI H 4544 (b + 5) (va_cpy (hI H 4208 (ad 0 + 2)) (hI H 4544 (b + 5)) 0 0 5) = H1 at F1 hP h4 ⊢
    have ss1 := fr_shStep F1 ss
    obtain ⟨c1, c2⟩ := step_b6 ss1
    rw [c1]
    refine K_set c2 (by decide) (by decide) ?_
    have er : redF 0 1 = (0, 1) := redF_id okF_01
    rw [er]
    have F2 : Fr (JgS b sp) H1 (setF H1 (b + 6) (0, 1)) := Fr_setF (Or.inr (Or.inr ⟨Or.inl rfl, Or.inl rfl⟩)) (Or.inr (Or.inr ⟨Or.inr rfl, Or.inl rfl⟩))
    have e0 : (0 : Int32) = Int32.ofNat 0 := rfl
    unfold jMixed at hq
    rw [if_pos c] at hq
    rw [e0]
    exact mixed_loop ss hp ok tsp hf had hsp hq R.1 0 (0, 1) _ rfl (F1.tr F2) getF_setF okF_01 hP h4 rfl
  · unfold jMixed; rw [if_neg c]
/-- two steps before a third -/
def Sides (H : HP) (b sp l r : Nat) (vl vr : JV) (shl enl shr enr : Bool) : Prop := shStep H b ∧ shStep H l ∧ shStep H r ∧ l + 7 ≤ b ∧ r + 7 ≤ b ∧ sp < l ∧ sp < r ∧ hR H 701 b 0 = some l ∧ hR H 702 b 0 = some r ∧ JV5 H l vl ∧ JV5 H r vr ∧ okV vl ∧ okV vr ∧ hI H 704 l 0 = bI shl ∧ hI H 703 l 0 = bI enl ∧ hI H 704 r 0 = bI shr ∧ hI H 703 r 0 = bI enr ∧ hI H 704 b 0 = 0
theorem Sides.ss {H : HP} {b sp l r : Nat} {vl vr : JV} {shl enl shr enr : Bool} (s : Sides H b sp l r vl vr shl enl shr enr) : shStep H b := s.1
theorem Sides.sl {H : HP} {b sp l r : Nat} {vl vr : JV} {shl enl shr enr : Bool} (s : Sides H b sp l r vl vr shl enl shr enr) : shStep H l := s.2.1
theorem Sides.sr {H : HP} {b sp l r : Nat} {vl vr : JV} {shl enl shr enr : Bool} (s : Sides H b sp l r vl vr shl enl shr enr) : shStep H r := s.2.2.1
theorem Sides.dl {H : HP} {b sp l r : Nat} {vl vr : JV} {shl enl shr enr : Bool} (s : Sides H b sp l r vl vr shl enl shr enr) : l + 7 ≤ b := s.2.2.2.1
theorem Sides.dr {H : HP} {b sp l r : Nat} {vl vr : JV} {shl enl shr enr : Bool} (s : Sides H b sp l r vl vr shl enl shr enr) : r + 7 ≤ b := s.2.2.2.2.1
theorem Sides.pl {H : HP} {b sp l r : Nat} {vl vr : JV} {shl enl shr enr : Bool} (s : Sides H b sp l r vl vr shl enl shr enr) : sp < l := s.2.2.2.2.2.1
theorem Sides.pr {H : HP} {b sp l r : Nat} {vl vr : JV} {shl enl shr enr : Bool} (s : Sides H b sp l r vl vr shl enl shr enr) : sp < r := s.2.2.2.2.2.2.1
theorem Sides.cl {H : HP} {b sp l r : Nat} {vl vr : JV} {shl enl shr enr : Bool} (s : Sides H b sp l r vl vr shl enl shr enr) : hR H 701 b 0 = some l := s.2.2.2.2.2.2.2.1
theorem Sides.cr {H : HP} {b sp l r : Nat} {vl vr : JV} {shl enl shr enr : Bool} (s : Sides H b sp l r vl vr shl enl shr enr) : hR H 702 b 0 = some r := s.2.2.2.2.2.2.2.2.1
theorem Sides.jl {H : HP} {b sp l r : Nat} {vl vr : JV} {shl enl shr enr : Bool} (s : Sides H b sp l r vl vr shl enl shr enr) : JV5 H l vl := s.2.2.2.2.2.2.2.2.2.1
theorem Sides.jr {H : HP} {b sp l r : Nat} {vl vr : JV} {shl enl shr enr : Bool} (s : Sides H b sp l r vl vr shl enl shr enr) : JV5 H r vr := s.2.2.2.2.2.2.2.2.2.2.1
theorem Sides.ol {H : HP} {b sp l r : Nat} {vl vr : JV} {shl enl shr enr : Bool} (s : Sides H b sp l r vl vr shl enl shr enr) : okV vl := s.2.2.2.2.2.2.2.2.2.2.2.1
theorem Sides.okr {H : HP} {b sp l r : Nat} {vl vr : JV} {shl enl shr enr : Bool} (s : Sides H b sp l r vl vr shl enl shr enr) : okV vr := s.2.2.2.2.2.2.2.2.2.2.2.2.1
theorem Sides.l4 {H : HP} {b sp l r : Nat} {vl vr : JV} {shl enl shr enr : Bool} (s : Sides H b sp l r vl vr shl enl shr enr) : hI H 704 l 0 = bI shl := s.2.2.2.2.2.2.2.2.2.2.2.2.2.1
theorem Sides.l3 {H : HP} {b sp l r : Nat} {vl vr : JV} {shl enl shr enr : Bool} (s : Sides H b sp l r vl vr shl enl shr enr) : hI H 703 l 0 = bI enl := s.2.2.2.2.2.2.2.2.2.2.2.2.2.2.1
theorem Sides.r4 {H : HP} {b sp l r : Nat} {vl vr : JV} {shl enl shr enr : Bool} (s : Sides H b sp l r vl vr shl enl shr enr) : hI H 704 r 0 = bI shr := s.2.2.2.2.2.2.2.2.2.2.2.2.2.2.2.1
theorem Sides.r3 {H : HP} {b sp l r : Nat} {vl vr : JV} {shl enl shr enr : Bool} (s : Sides H b sp l r vl vr shl enl shr enr) : hI H 703 r 0 = bI enr := s.2.2.2.2.2.2.2.2.2.2.2.2.2.2.2.2.1
theorem Sides.b4 {H : HP} {b sp l r : Nat} {vl vr : JV} {shl enl shr enr : Bool} (s : Sides H b sp l r vl vr shl enl shr enr) : hI H 704 b 0 = 0 := s.2.2.2.2.2.2.2.2.2.2.2.2.2.2.2.2.2
theorem fr_Sides {H H' : HP} {b sp l r : Nat} {vl vr : JV} {shl enl shr enr : Bool} (h : Fr (JgS b sp) H H') (h4 : hI H' 704 b 0 = 0) (s : Sides H b sp l r vl vr shl enl shr enr) : Sides H' b sp l r vl vr shl enl shr enr := by
  obtain ⟨ss, sl, sr, dl, dr, pl, pr, cl, cr, jl, jr, ol, okr, l4, l3, r4, r3, b4⟩ := s
  have hi := h.2.2.2.2.1
  have hr := h.2.2.2.2.2.2.2.2
  refine ⟨fr_shStep h ss, fr_shStep h sl, fr_shStep h sr, dl, dr, pl, pr, ?_, ?_, fr_JV5 h (fun k => by omega) (fun k => by omega) (fun k => by omega) jl, fr_JV5 h (fun k => by omega) (fun k => by omega) (fun k => by omega) jr, ol, okr, ?_, ?_, ?_, ?_, h4⟩
  · rw [hr _ _ (fun k => by omega)]; exact cl
  · rw [hr _ _ (fun k => by omega)]; exact cr
  · rw [hi _ _ (fun k => by omega)]; exact l4
  · rw [hi _ _ (fun k => by omega)]; exact l3
  · rw [hi _ _ (fun k => by omega)]; exact r4
  · rw [hi _ _ (fun k => by omega)]; exact r3
theorem prd_in {dv : Bool} {l r : JV} (hl : okV l) (hr : okV r) : ∀ j, j < 5 → -36 ≤ (prdP dv l r j).toInt ∧ (prdP dv l r j).toInt ≤ 36 := fun j hj => by
  have h1 := hl.1 j hj
  have h2 := hr.1 j hj
  unfold prdP
  cases dv with
  | true =>
    rw [if_pos rfl]
    have e := i32_neg (r.1 j) (by omega)
    rw [i32_addx] <;> rw [e] <;> omega
  | false =>
    rw [if_neg (by decide), i32_addx] <;> omega
theorem prod_loop {d : Nat} {q : HP → Int32 → Prop} {H0 : HP} {b sp l r : Nat} {vl vr : JV} {shl enl shr enr dv : Bool} {x1 : Int32} {res : JR} (hx : x1 = bI dv) (s0 : Sides H0 b sp l r vl vr shl enl shr enr) (hq : ∀ H' r, JO H0 b sp false res H' r → q H' r) (hres : (if wide 5 (prdP dv vl vr) 18 = true then .inl (-12) else orR (prdP dv vl vr) (if dv = true then divF vl.2.1 vl.2.2 vr.2.1 vr.2.2 else mulF vl.2.1 vl.2.2 vr.2.1 vr.2.2)) = res) : ∀ (k i : Nat) (H : HP), k + i = 5 → Fr (JgS b sp) H0 H → (∀ j, j < i → hI H 4544 (b + 5) j = prdP dv vl vr j) → hI H 704 b 0 = 0 → L_X6_judgeProduct_61 (d + 3) q b x1 (Int32.ofNat i) H := by
  have e5 : (5 : Int32) = Int32.ofNat 5 := rfl
  have e18 : (18 : Int32) = Int32.ofNat 18 := rfl
  intro k
  induction k with
  | zero =>
    intro i H hi hF hP h4
    have s := fr_Sides hF h4 s0
    obtain ⟨p1, p2⟩ := step_pw s.ss
    obtain ⟨b1, b2⟩ := step_b6 s.ss
    obtain ⟨l1, l2⟩ := step_b6 s.sl
    obtain ⟨r1, r2⟩ := step_b6 s.sr
    refine T_X6_judgeProduct_61 ?_
    unfold wb_X6_judgeProduct_61
    rw [e5, iN_le (by omega) (by omega), p1, e18]
    refine ⟨fun _ => ⟨s.ss.1, K_goesBeyond (d := d + 1) p2 (by decide) (by decide) (fun j hj => hP j (by omega)) (fun j hj => by have := prd_in (dv := dv) s.ol s.okr j hj; omega) (by decide) ⟨fun c => ?_, fun c => ?_⟩⟩, fun h => by omega⟩
    · rw [if_neg (by rw [c]; decide)] at hres
      refine ⟨s.ss.1, l, s.cl, s.sl.1, b + 6, b1, b2, ?_⟩
      rw [b1, l1]
      refine K_copy b2 l2 ?_
      rw [s.jl.2]
      have F2 : Fr (JgS b sp) H (setF H (b + 6) vl.2) := Fr_setF (Or.inr (Or.inr ⟨Or.inl rfl, Or.inl rfl⟩)) (Or.inr (Or.inr ⟨Or.inr rfl, Or.inl rfl⟩))
      have ev : getF (setF H (b + 6) vl.2) (b + 6) = vl.2 := getF_setF
      have s2 := fr_Sides F2 (by exact h4) s
      have hP2 : ∀ j, j < 5 → hI (setF H (b + 6) vl.2) 4544 (b + 5) j = prdP dv vl vr j := fun j hj => hP j (by omega)
      have h42 : hI (setF H (b + 6) vl.2) 704 b 0 = 0 := h4
      have b1' : hC (setF H (b + 6) vl.2) 712 b = some (b + 6) := b1
      have r1' : hC (setF H (b + 6) vl.2) 712 r = some (r + 6) := r1
      have cr2 := s2.cr
      generalize setF H (b + 6) vl.2 = H2 at F2 ev s2 hP2 h42 b1' r1' cr2 ⊢
      have b2' : tg H2 (b + 6) = 4 := by rw [fr_tg F2]; exact b2
      have r2' : tg H2 (r + 6) = 4 := by rw [fr_tg F2]; exact r2
      have er := s2.jr.2
      have ev1 : hL H2 400 (b + 6) 0 = vl.2.1 := congrArg Prod.fst ev
      have ev2 : hL H2 401 (b + 6) 0 = vl.2.2 := congrArg Prod.snd ev
      have er1 : hL H2 400 (r + 6) 0 = vr.2.1 := congrArg Prod.fst er
      have er2 : hL H2 401 (r + 6) 0 = vr.2.2 := congrArg Prod.snd er
      have done : ∀ f, orR (prdP dv vl vr) (some f) = res → q (setF H2 (b + 6) f) 0 := fun f e => by
        have F3 : Fr (JgS b sp) H2 (setF H2 (b + 6) f) := Fr_setF (Or.inr (Or.inr ⟨Or.inl rfl, Or.inl rfl⟩)) (Or.inr (Or.inr ⟨Or.inr rfl, Or.inl rfl⟩))
        exact hq _ _ ⟨hF.tr (F2.tr F3), Or.inl ⟨_, e.symm, rfl, ⟨hP2, getF_setF⟩, h42⟩⟩
      have bad : orR (prdP dv vl vr) none = res → q H2 (-15) := fun e => hq _ _ ⟨hF.tr F2, Or.inr ⟨_, e.symm, rfl⟩⟩
      cases dv with
      | true =>
        rw [if_pos rfl] at hres
        refine ⟨fun c => absurd (hx.symm.trans c) (by decide), fun _ => ⟨s2.ss.1, r, cr2, s2.sr.1, b + 6, b1', b2', ?_⟩⟩
        rw [b1', r1']
        refine K_divide b2' r2' (by rw [ev]; exact s2.ol.2) (by rw [er]; exact s2.okr.2) (fun g og e => ⟨fun c => (by cases c), fun _ => done g ?_⟩) (fun e => ⟨fun _ => bad ?_, fun c => (by cases c)⟩)
        · rw [ev1, ev2, er1, er2] at e
          rw [← e]; exact hres
        · rw [ev1, ev2, er1, er2] at e
          rw [← e]; exact hres
      | false =>
        rw [if_neg (by decide)] at hres
        refine ⟨fun _ => ⟨s2.ss.1, r, cr2, s2.sr.1, b + 6, b1', b2', ?_⟩, fun c => absurd hx c⟩
        rw [b1', r1']
        refine K_multiply b2' r2' (by rw [ev]; exact s2.ol.2) (by rw [er]; exact s2.okr.2) (fun g og e => ⟨fun c => (by cases c), fun _ => done g ?_⟩) (fun e => ⟨fun _ => bad ?_, fun c => (by cases c)⟩)
        · rw [ev1, ev2, er1, er2] at e
          rw [← e]; exact hres
        · rw [ev1, ev2, er1, er2] at e
          rw [← e]; exact hres
    · rw [if_pos c] at hres
      exact hq _ _ ⟨hF, Or.inr ⟨_, hres.symm, rfl⟩⟩
  | succ k ih =>
    intro i H hi hF hP h4
    have s := fr_Sides hF h4 s0
    obtain ⟨x1', x2, x3, x4⟩ := sA_5 s.ss
    obtain ⟨l1, l2, l3, l4⟩ := sA_5 s.sl
    obtain ⟨r1, r2, r3, r4⟩ := sA_5 s.sr
    have vp5 : vp_in (Int32.ofNat i) 5 := vpi_of (by omega) (by decide)
    refine T_X6_judgeProduct_61 ?_
    unfold wb_X6_judgeProduct_61
    rw [e5, iN_le (by omega) (by omega), iN_cl (by omega), iN_inc (by omega)]
    have go : ∀ w, w = prdP dv vl vr i → L_X6_judgeProduct_61 (d + 3) q b x1 (Int32.ofNat (i + 1)) (sI H 4544 (b + 5) i w) := fun w hw => by
      have F2 : Fr (JgS b sp) H (sI H 4544 (b + 5) i w) := Fr_sI (Or.inr (Or.inl ⟨rfl, rfl⟩))
      refine ih (i + 1) _ (by omega) (hF.tr F2) (fun j hj => ?_) ?_
      · rw [hIs_i]
        by_cases e : j = i
        · rw [if_pos e, e]; exact hw
        · rw [if_neg e]; exact hP j (by omega)
      · rw [hIs_g _ _ _ _ _ _ (by decide)]; exact h4
    have jl := s.jl.1 i (by omega)
    have jr := s.jr.1 i (by omega)
    refine ⟨fun h => by omega, fun _ => ⟨s.ss.1, l, s.cl, s.sl.1, l + 5, l1, l2, by rw [l4]; exact vp5, fun c => ⟨r, s.cr, s.sr.1, r + 5, r1, r2, by rw [r4]; exact vp5, b + 5, x1', x2, by rw [x4]; exact vp5, ?_⟩, fun c => ⟨r, s.cr, s.sr.1, r + 5, r1, r2, by rw [r4]; exact vp5, b + 5, x1', x2, by rw [x4]; exact vp5, ?_⟩⟩⟩
    · rw [x3, l3, r3, jl, jr]
      refine go _ ?_
      have : dv = false := by
        cases dv with
        | true => exact absurd (hx.symm.trans c) (by decide)
        | false => rfl
      unfold prdP
      rw [this, if_neg (by decide)]
    · rw [x3, l3, r3, jl, jr]
      refine go _ ?_
      have : dv = true := by
        cases dv with
        | true => rfl
        | false => exact absurd hx c
      unfold prdP
      rw [this, if_pos rfl]
theorem jProd_eq {bad dv : Bool} {l r : JV} (hb : bad = false) (hn : ¬ (dv = true ∧ r.2.1 = 0)) : (if wide 5 (prdP dv l r) 18 = true then .inl (-12) else orR (prdP dv l r) (if dv = true then divF l.2.1 l.2.2 r.2.1 r.2.2 else mulF l.2.1 l.2.2 r.2.1 r.2.2)) = jProd bad dv l r := by
  have h1 : ¬ (bad = true) := by rw [hb]; decide
  unfold jProd
  rw [if_neg h1, if_neg hn]
theorem K_judgeProduct {d : Nat} {q : HP → Int32 → Prop} {H : HP} {b sp l r : Nat} {vl vr : JV} {shl enl shr enr dv : Bool} (s : Sides H b sp l r vl vr shl enl shr enr) (hk : (hI H 700 b 0 = 2) = (dv = true)) (hq : ∀ H' w, JO H b sp false (jProd ((shl && !enl) || (shr && !enr)) dv vl vr) H' w → q H' w) : CI (d + 4) 0 0 mX6_judgeProduct [rv (some b)] H q := by
  obtain ⟨r1, r2⟩ := step_b6 s.sr
  refine C_X6_judgeProduct ?_
  unfold wb_X6_judgeProduct_0
  rw [s.cl]
  have bad : ∀ w, jProd ((shl && !enl) || (shr && !enr)) dv vl vr = .inl w → q H w := fun w e => hq _ _ ⟨Fr.rf, Or.inr ⟨w, e, rfl⟩⟩
  have shift : ((shl && !enl) || (shr && !enr)) = true → q H (-10) := fun c => bad _ (by unfold jProd; rw [if_pos c])
  refine ⟨s.ss.1, fun c => ⟨l, rfl, s.sl.1, K_isShifted s.sl.1 s.l4 s.l3 ⟨fun c1 => shift (by rw [c1]; rfl), fun c1 => ⟨s.ss.1, r, s.cr, s.sr.1, ?_⟩⟩⟩, fun c => ⟨l, rfl, s.sl.1, K_isShifted s.sl.1 s.l4 s.l3 ⟨fun c1 => shift (by rw [c1]; rfl), fun c1 => ⟨s.ss.1, r, s.cr, s.sr.1, ?_⟩⟩⟩⟩
  · rw [s.cr]
    have hd : dv = false := by
      cases dv with
      | true => exact absurd (hk.symm ▸ rfl) c
      | false => rfl
    refine K_isShifted s.sr.1 s.r4 s.r3 ⟨fun c2 => ⟨fun _ => ?_, fun h => absurd rfl h⟩, fun c2 => shift (by rw [c1, c2]; rfl)⟩
    have hb : ((shl && !enl) || (shr && !enr)) = false := by rw [c1, c2]; rfl
    subst hd
    refine prod_loop (x1 := 0) (dv := false) rfl s hq ?_ 5 0 H rfl Fr.rf (fun j hj => by omega) s.b4
    exact jProd_eq hb (fun k => absurd k.1 (by decide))
  · rw [s.cr]
    have hd : dv = true := hk ▸ c
    refine K_isShifted s.sr.1 s.r4 s.r3 ⟨fun c2 => ⟨fun h => absurd h (by decide), fun _ => ⟨s.ss.1, r, s.cr, s.sr.1, r + 6, r1, r2, fun c3 => ?_, fun c3 => ?_⟩⟩, fun c2 => shift (by rw [c1, c2]; rfl)⟩
    · have hb : ((shl && !enl) || (shr && !enr)) = false := by rw [c1, c2]; rfl
      have er1 : hL H 400 (r + 6) 0 = vr.2.1 := congrArg Prod.fst s.jr.2
      rw [er1] at c3
      subst hd
      refine prod_loop (x1 := 1) (dv := true) rfl s hq ?_ 5 0 H rfl Fr.rf (fun j hj => by omega) s.b4
      exact jProd_eq hb (fun k => c3 k.2)
    · have hb : ((shl && !enl) || (shr && !enr)) = false := by rw [c1, c2]; rfl
      have er1 : hL H 400 (r + 6) 0 = vr.2.1 := congrArg Prod.fst s.jr.2
      rw [er1] at c3
      refine bad _ ?_
      unfold jProd
      rw [if_neg (by rw [hb]; decide), if_pos ⟨hd, c3⟩]
theorem eg_setF {H : HP} {a : Nat} {f : FR} : getF (setF H a f) a = f := getF_setF
theorem K_judgeSum {d : Nat} {q : HP → Int32 → Prop} {H : HP} {b sp l r : Nat} {vl vr : JV} {shl enl shr enr mn : Bool} (s : Sides H b sp l r vl vr shl enl shr enr) (hk : (hI H 700 b 0 = 3) = (mn = false)) (hq : ∀ H' w, JO H b sp false (jSum mn vl vr) H' w → q H' w) : CI (d + 4) 0 0 mX6_judgeSum [rv (some b)] H q := by
  obtain ⟨p1, p2⟩ := step_pw s.ss
  obtain ⟨lp1, lp2⟩ := step_pw s.sl
  obtain ⟨rp1, rp2⟩ := step_pw s.sr
  obtain ⟨b1, b2⟩ := step_b6 s.ss
  obtain ⟨l1, l2⟩ := step_b6 s.sl
  obtain ⟨r1, r2⟩ := step_b6 s.sr
  have ec : (0 : Int32).toNatClampNeg = 0 := rfl
  have ec5 : (5 : Int32).toNatClampNeg = 5 := rfl
  refine C_X6_judgeSum ?_
  unfold wb_X6_judgeSum_0
  refine ⟨s.ss.1, l, s.cl, s.sl.1, r, s.cr, s.sr.1, ?_⟩
  rw [lp1, rp1]
  unfold jSum at hq
  refine K_equalRows lp2 rp2 (by decide) (by decide) (by decide) (by decide) s.jl.1 s.jr.1 ⟨fun c => ?_, fun c => hq _ _ ⟨Fr.rf, Or.inr ⟨-13, by rw [if_neg (by rw [c]; decide)], rfl⟩⟩⟩
  rw [if_pos c] at hq
  have isl : isA H (l + 5) 0 := isA_of lp2 (by decide) (by decide)
  have isb : isA H (b + 5) 0 := isA_of p2 (by decide) (by decide)
  refine ⟨s.ss.1, l, s.cl, s.sl.1, l + 5, lp1, isl, b + 5, p1, isb, by rw [ec, ec5, ln_of lp2]; omega, by rw [ec, ec5, ln_of p2]; omega, l, s.cl, s.sl.1, b + 6, b1, b2, ?_⟩
  rw [tg_of lp2, tg_of p2, ec, ec5]
  have F1 : Fr (JgS b sp) H (fI H 4544 (b + 5) (va_cpy (hI H 4544 (l + 5)) (hI H 4544 (b + 5)) 0 0 5)) := Fr_fI (Or.inr (Or.inl ⟨rfl, rfl⟩))
  have hP : ∀ j, j < 5 → hI (fI H 4544 (b + 5) (va_cpy (hI H 4544 (l + 5)) (hI H 4544 (b + 5)) 0 0 5)) 4544 (b + 5) j = vl.1 j := fun j hj => by
    rw [hI_fI, c3_self, cpy0 hj]; exact s.jl.1 j hj
  have h4 : hI (fI H 4544 (b + 5) (va_cpy (hI H 4544 (l + 5)) (hI H 4544 (b + 5)) 0 0 5)) 704 b 0 = 0 := by
    rw [hI_fI, c3_g _ _ _ _ _ (by decide)]; exact s.b4
  generalize fI H 4544 (b + 5) (va_cpy (hI H 4544 (l + 5)) (hI H 4544 (b + 5)) 0 0 5) = H1 at F1 hP h4 ⊢
  have s1 := fr_Sides F1 h4 s
  obtain ⟨b1', b2'⟩ := step_b6 s1.ss
  obtain ⟨l1', l2'⟩ := step_b6 s1.sl
  rw [b1', l1']
  refine K_copy b2' l2' ?_
  rw [s1.jl.2]
  have F2 : Fr (JgS b sp) H1 (setF H1 (b + 6) vl.2) := Fr_setF (Or.inr (Or.inr ⟨Or.inl rfl, Or.inl rfl⟩)) (Or.inr (Or.inr ⟨Or.inr rfl, Or.inl rfl⟩))
  have ev : getF (setF H1 (b + 6) vl.2) (b + 6) = vl.2 := getF_setF
  have h42 : hI (setF H1 (b + 6) vl.2) 704 b 0 = 0 := h4
  have s2 := fr_Sides F2 h42 s1
  have hP2 : ∀ j, j < 5 → hI (setF H1 (b + 6) vl.2) 4544 (b + 5) j = vl.1 j := hP
  have k7 : hI (setF H1 (b + 6) vl.2) 700 b 0 = hI H 700 b 0 := (F1.tr F2).2.2.2.2.1 700 b (fun k => by omega) ▸ rfl
  generalize setF H1 (b + 6) vl.2 = H2 at F2 ev h42 s2 hP2 k7 ⊢
  obtain ⟨c1, c2⟩ := step_b6 s2.ss
  obtain ⟨e1, e2⟩ := step_b6 s2.sr
  have er := s2.jr.2
  have ev1 : hL H2 400 (b + 6) 0 = vl.2.1 := congrArg Prod.fst ev
  have ev2 : hL H2 401 (b + 6) 0 = vl.2.2 := congrArg Prod.snd ev
  have er1 : hL H2 400 (r + 6) 0 = vr.2.1 := congrArg Prod.fst er
  have er2 : hL H2 401 (r + 6) 0 = vr.2.2 := congrArg Prod.snd er
  have done : ∀ f, addF vl.2.1 vl.2.2 (if mn = true then -vr.2.1 else vr.2.1) vr.2.2 = some f → q (setF H2 (b + 6) f) 0 := fun f e => by
    have F3 : Fr (JgS b sp) H2 (setF H2 (b + 6) f) := Fr_setF (Or.inr (Or.inr ⟨Or.inl rfl, Or.inl rfl⟩)) (Or.inr (Or.inr ⟨Or.inr rfl, Or.inl rfl⟩))
    exact hq _ _ ⟨F1.tr (F2.tr F3), Or.inl ⟨(vl.1, f), by rw [e]; rfl, rfl, ⟨hP2, getF_setF⟩, h42⟩⟩
  have bad : addF vl.2.1 vl.2.2 (if mn = true then -vr.2.1 else vr.2.1) vr.2.2 = none → q H2 (-15) := fun e => hq _ _ ⟨F1.tr F2, Or.inr ⟨_, by rw [e]; rfl, rfl⟩⟩
  rw [k7]
  refine ⟨s2.ss.1, fun c => ⟨r, s2.cr, s2.sr.1, b + 6, c1, c2, ?_⟩, fun c => ⟨r, s2.cr, s2.sr.1, b + 6, c1, c2, ?_⟩⟩
  · have hm : mn = true := by
      cases mn with
      | true => rfl
      | false => exact absurd (hk.symm ▸ rfl) c
    rw [hm, if_pos rfl] at done bad
    rw [c1, e1]
    refine K_subtract c2 e2 (by rw [ev]; exact s2.ol.2) (by rw [er]; exact s2.okr.2) (fun g og e => ⟨fun c => (by cases c), fun _ => done g ?_⟩) (fun e => ⟨fun _ => bad ?_, fun c => (by cases c)⟩)
    · rw [ev1, ev2, er1, er2] at e; exact e
    · rw [ev1, ev2, er1, er2] at e; exact e
  · have hm : mn = false := hk ▸ c
    rw [hm, if_neg (by decide)] at done bad
    rw [c1, e1]
    refine K_add c2 e2 (by rw [ev]; exact s2.ol.2) (by rw [er]; exact s2.okr.2) (fun g og e => ⟨fun c => (by cases c), fun _ => done g ?_⟩) (fun e => ⟨fun _ => bad ?_, fun c => (by cases c)⟩)
    · rw [ev1, ev2, er1, er2] at e; exact e
    · rw [ev1, ev2, er1, er2] at e; exact e
