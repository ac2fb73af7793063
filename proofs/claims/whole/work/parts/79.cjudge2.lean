
/-! ===== the class: one measure judged ===== -/
abbrev JgS (b sp : Nat) : Nat → Nat → Prop := fun g x => (g = 704 ∧ x = b) ∨ (g = 4544 ∧ x = b + 5) ∨ ((g = 400 ∨ g = 401) ∧ (x = b + 6 ∨ x = sp))
def JV5 (H : HP) (b : Nat) (v : JV) : Prop := (∀ j, j < 5 → hI H 4544 (b + 5) j = v.1 j) ∧ getF H (b + 6) = v.2
def JO (H : HP) (b sp : Nat) (sh : Bool) (res : JR) (H' : HP) (r : Int32) : Prop := Fr (JgS b sp) H H' ∧ ((∃ v, res = .inr v ∧ r = 0 ∧ JV5 H' b v ∧ hI H' 704 b 0 = bI sh) ∨ ∃ w, res = .inl w ∧ r = w)
theorem amt_red {x y : Int32} {th : Nat} (h : amtR x y th) (ht : th < 1000000000) : redF x.toInt64 y.toInt64 = thF th ∧ x.toInt64.toInt ≠ -9223372036854775808 ∧ 0 < y.toInt64.toInt := by
  obtain ⟨h1, h2, h3, h4, h5⟩ := h
  have e : (Int64.ofInt (th : Int)).toInt = th := i64_of (by omega) (by omega)
  have ex : x.toInt64.toInt = x.toInt := sgn_toInt64
  have ey : y.toInt64.toInt = y.toInt := sgn_toInt64
  refine ⟨redF_eq (by omega) (by omega) (by omega) (by rw [e1000]; omega) ?_, by omega, by omega⟩
  rw [ex, ey, e, e1000, h5]
theorem step_b6 {H : HP} {b : Nat} (s : shStep H b) : hC H 712 b = some (b + 6) ∧ tg H (b + 6) = 4 := ⟨s.2.2.2.2.2.2.2.2.2.2.2.1, s.2.2.2.2.2.2.2.2.2.2.2.2⟩
theorem step_pw {H : HP} {b : Nat} (s : shStep H b) : hC H 711 b = some (b + 5) ∧ hT H (b + 5) = (4544, 5) := ⟨s.2.2.2.2.2.2.2.2.2.1, s.2.2.2.2.2.2.2.2.2.2.1⟩
theorem unit_3 {H : HP} {a : Nat} (s : shUnit H a) : hC H 1003 a = some (a + 3) ∧ tg H (a + 3) = 4 ∧ hC H 1004 a = some (a + 4) ∧ tg H (a + 4) = 4 ∧ hC H 1002 a = some (a + 2) ∧ hT H (a + 2) = (4208, 5) := by
  obtain ⟨a1, a2, a3, a4, a5, a6, a7, a8, a9⟩ := s
  exact ⟨a6, a7, a8, a9, a4, a5⟩
theorem single_mul {d : Nat} {q : HP → Int32 → Prop} {H0 : HP} {b sp ad g : Nat} {u : UV} {P : Nat → Int32} {sh : Bool} {res : JR} (ss : shStep H0 b) (su : shUnit H0 ad) (cu : CUn H0 ad u) (ou : okU u) (had : ad + 5 ≤ b) (hsp : sp < b ∧ ad + 5 ≤ sp) (h6 : hI H0 706 b 0 = Int32.ofNat g) (hg : g ≤ 4) (hq : ∀ H' r, JO H0 b sp sh res H' r → q H' r) : ∀ (k i : Nat) (f : FR) (H : HP), k + i = g → Fr (JgS b sp) H0 H → getF H (b + 6) = f → okF f → (∀ j, j < 5 → hI H 4544 (b + 5) j = P j) → hI H 704 b 0 = bI sh → (match powF u.2.2.1 k f with
      | none => .inl (-15)
      | some f => orR P (addF f.1 f.2 u.2.2.2.1 u.2.2.2.2)) = res → L_X6_judgeSingle_107 (d + 3) q b (some ad) (Int32.ofNat i) H := by
  intro k
  induction k with
  | zero =>
    intro i f H hi hF hf of hP h4 hres
    have ss' := fr_shStep hF ss
    have su' := fr_unit hF su
    have cu' := fr_CUn hF (fun g x k1 k2 k3 => by omega) cu
    have k6 : hI H 706 b 0 = Int32.ofNat g := by rw [hF.2.2.2.2.1 _ _ (fun k => by omega)]; exact h6
    obtain ⟨b1, b2⟩ := step_b6 ss'
    obtain ⟨u1, u2, u3, u4, -, -⟩ := unit_3 su'
    have ef1 : hL H 400 (b + 6) 0 = f.1 := congrArg Prod.fst hf
    have ef2 : hL H 401 (b + 6) 0 = f.2 := congrArg Prod.snd hf
    have eo := cu'.2.2.2.2.1
    have eo1 : hL H 400 (ad + 4) 0 = u.2.2.2.1 := congrArg Prod.fst eo
    have eo2 : hL H 401 (ad + 4) 0 = u.2.2.2.2 := congrArg Prod.snd eo
    refine T_X6_judgeSingle_107 ?_
    unfold wb_X6_judgeSingle_107
    rw [k6, iN_le (by omega) (by omega), b1]
    refine ⟨ss'.1, fun _ => ⟨ad, rfl, su'.1, b + 6, rfl, b2, ?_⟩, fun h => by omega⟩
    have hres' : orR P (addF f.1 f.2 u.2.2.2.1 u.2.2.2.2) = res := hres
    rw [u3]
    refine K_add b2 u4 (by rw [hf]; exact of) (by rw [eo]; exact ou.2.2.2.2.2.2) (fun g og e => ⟨fun c => (by cases c), fun _ => ?_⟩) (fun e => ⟨fun _ => ?_, fun c => (by cases c)⟩)
    · rw [ef1, ef2, eo1, eo2] at e
      rw [e] at hres'
      have F2 : Fr (JgS b sp) H (setF H (b + 6) g) := Fr_setF (Or.inr (Or.inr ⟨Or.inl rfl, Or.inl rfl⟩)) (Or.inr (Or.inr ⟨Or.inr rfl, Or.inl rfl⟩))
      exact hq _ _ ⟨hF.tr F2, Or.inl ⟨(P, g), hres'.symm, rfl, ⟨hP, getF_setF⟩, h4⟩⟩
    · rw [ef1, ef2, eo1, eo2] at e
      rw [e] at hres'
      exact hq _ _ ⟨hF, Or.inr ⟨_, hres'.symm, rfl⟩⟩
  | succ k ih =>
    intro i f H hi hF hf of hP h4 hres
    have ss' := fr_shStep hF ss
    have su' := fr_unit hF su
    have cu' := fr_CUn hF (fun g x k1 k2 k3 => by omega) cu
    have k6 : hI H 706 b 0 = Int32.ofNat g := by rw [hF.2.2.2.2.1 _ _ (fun k => by omega)]; exact h6
    obtain ⟨b1, b2⟩ := step_b6 ss'
    obtain ⟨u1, u2, u3, u4, -, -⟩ := unit_3 su'
    have ef1 : hL H 400 (b + 6) 0 = f.1 := congrArg Prod.fst hf
    have ef2 : hL H 401 (b + 6) 0 = f.2 := congrArg Prod.snd hf
    have eo := cu'.2.2.2.1
    have eo1 : hL H 400 (ad + 3) 0 = u.2.2.1.1 := congrArg Prod.fst eo
    have eo2 : hL H 401 (ad + 3) 0 = u.2.2.1.2 := congrArg Prod.snd eo
    refine T_X6_judgeSingle_107 ?_
    unfold wb_X6_judgeSingle_107
    rw [k6, iN_le (by omega) (by omega), b1]
    refine ⟨ss'.1, fun h => by omega, fun _ => ⟨ad, rfl, su'.1, b + 6, rfl, b2, ?_⟩⟩
    unfold powF at hres
    rw [u1]
    refine K_multiply b2 u2 (by rw [hf]; exact of) (by rw [eo]; exact ou.2.2.2.2.1) (fun g og e => ⟨fun _ => ?_, fun c => (by cases c)⟩) (fun e => ⟨fun c => (by cases c), fun _ => ?_⟩)
    · rw [ef1, ef2, eo1, eo2] at e
      rw [e] at hres
      have F2 : Fr (JgS b sp) H (setF H (b + 6) g) := Fr_setF (Or.inr (Or.inr ⟨Or.inl rfl, Or.inl rfl⟩)) (Or.inr (Or.inr ⟨Or.inr rfl, Or.inl rfl⟩))
      rw [iN_inc (by omega)]
      exact ih (i + 1) g _ (by omega) (hF.tr F2) getF_setF og hP h4 hres
    · rw [ef1, ef2, eo1, eo2] at e
      rw [e] at hres
      exact hq _ _ ⟨hF, Or.inr ⟨_, hres.symm, rfl⟩⟩
theorem sng_in {u : UV} {g : Nat} (ou : okU u) (hg : g ≤ 4) : ∀ j, j < 5 → -36 ≤ (sngP u g j).toInt ∧ (sngP u g j).toInt ≤ 36 := fun j hj => by
  have h := ou.2.2.2.1 j hj
  have e := iN_toInt (n := g) (by omega)
  unfold sngP
  have h36 : -36 ≤ (u.2.1 j).toInt * g ∧ (u.2.1 j).toInt * g ≤ 36 := by
    have : g = 0 ∨ g = 1 ∨ g = 2 ∨ g = 3 ∨ g = 4 := by omega
    rcases this with rfl | rfl | rfl | rfl | rfl <;> omega
  rw [i32_mulx] <;> rw [e] <;> omega
theorem single_pow {d : Nat} {q : HP → Int32 → Prop} {H0 : HP} {b sp ad g : Nat} {u : UV} {f : FR} {sh : Bool} {res : JR} (ss : shStep H0 b) (su : shUnit H0 ad) (cu : CUn H0 ad u) (ou : okU u) (had : ad + 5 ≤ b) (hsp : sp < b ∧ ad + 5 ≤ sp) (h6 : hI H0 706 b 0 = Int32.ofNat g) (hg : g ≤ 4) (of : okF f) (hq : ∀ H' r, JO H0 b sp sh res H' r → q H' r) (hres : (if wide 5 (sngP u g) 18 = true then .inl (-12) else match powF u.2.2.1 g f with
      | none => .inl (-15)
      | some f => orR (sngP u g) (addF f.1 f.2 u.2.2.2.1 u.2.2.2.2)) = res) : ∀ (k i : Nat) (H : HP), k + i = 5 → Fr (JgS b sp) H0 H → getF H (b + 6) = f → (∀ j, j < i → hI H 4544 (b + 5) j = sngP u g j) → hI H 704 b 0 = bI sh → L_X6_judgeSingle_62 (d + 3) q b (some ad) (Int32.ofNat i) H := by
  have e5 : (5 : Int32) = Int32.ofNat 5 := rfl
  have e18 : (18 : Int32) = Int32.ofNat 18 := rfl
  intro k
  induction k with
  | zero =>
    intro i H hi hF hf hP h4
    have ss' := fr_shStep hF ss
    obtain ⟨p1, p2⟩ := step_pw ss'
    refine T_X6_judgeSingle_62 ?_
    unfold wb_X6_judgeSingle_62
    rw [e5, iN_le (by omega) (by omega), p1, e18]
    refine ⟨fun _ => ⟨ss'.1, K_goesBeyond (d := d + 1) p2 (by decide) (by decide) (fun j hj => hP j (by omega)) (fun j hj => by have := sng_in ou hg j hj; omega) (by decide) ⟨fun c => ?_, fun c => ?_⟩⟩, fun h => by omega⟩
    · rw [if_neg (by rw [c]; decide)] at hres
      have e0 : (0 : Int32) = Int32.ofNat 0 := rfl
      rw [e0]
      exact single_mul ss su cu ou had hsp h6 hg hq g 0 f H rfl hF hf of (fun j hj => hP j (by omega)) h4 hres
    · rw [if_pos c] at hres
      exact hq _ _ ⟨hF, Or.inr ⟨_, hres.symm, rfl⟩⟩
  | succ k ih =>
    intro i H hi hF hf hP h4
    have ss' := fr_shStep hF ss
    have su' := fr_unit hF su
    have cu' := fr_CUn hF (fun g x k1 k2 k3 => by omega) cu
    have k6 : hI H 706 b 0 = Int32.ofNat g := by rw [hF.2.2.2.2.1 _ _ (fun k => by omega)]; exact h6
    obtain ⟨x1, x2, x3, x4⟩ := sA_5 ss'
    obtain ⟨-, -, -, -, u5, u6⟩ := unit_3 su'
    refine T_X6_judgeSingle_62 ?_
    unfold wb_X6_judgeSingle_62
    rw [e5, iN_le (by omega) (by omega), iN_cl (by omega)]
    refine ⟨fun h => by omega, fun _ => ⟨ss'.1, ad, rfl, su'.1, ad + 2, u5, isA_of u6 (by decide) (by decide), by rw [ln_of u6]; exact vpi_of (by omega) (by decide), b + 5, x1, x2, by rw [x4]; exact vpi_of (by omega) (by decide), ?_⟩⟩
    rw [x3, tg_of u6, k6, cu'.2.2.1 i (by omega), iN_inc (by omega)]
    have F2 : Fr (JgS b sp) H (sI H 4544 (b + 5) i (u.2.1 i * Int32.ofNat g)) := Fr_sI (Or.inr (Or.inl ⟨rfl, rfl⟩))
    refine ih (i + 1) _ (by omega) (hF.tr F2) hf (fun j hj => ?_) ?_
    · rw [hIs_i]
      by_cases e : j = i
      · rw [if_pos e, e]; rfl
      · rw [if_neg e]; exact hP j (by omega)
    · rw [hIs_g _ _ _ _ _ _ (by decide)]; exact h4
theorem K_judgeSingle {d : Nat} {q : HP → Int32 → Prop} {H : HP} {b sp ad : Nat} {u : UV} {R : PRow} {T : TP} {o : Option Nat} (ss : shStep H b) (hp : SPr H b R) (ok : okP T R) (hz : ∀ j, j < 5 → hI H 4544 (b + 5) j = 0) (hz4 : hI H 704 b 0 = 0) (hm : R.1 ≤ 1) (ho : R.1 = 1 → o = some ad ∧ shUnit H ad ∧ CUn H ad u ∧ okU u ∧ ad + 5 ≤ sp) (hsp : sp < b) (hq : ∀ H' r, JO H b sp (decide (R.1 = 1) && offU u) (if R.1 = 0 then .inr (fun _ => 0, thF (R.2.1 0)) else jSingle u R.2.2.2.2 (R.2.1 0)) H' r → q H' r) : CI (d + 4) 0 0 mX6_judgeSingle [rv (some b), rv o] H q := by
  obtain ⟨x1, x2, x3, x4⟩ := sA_1 ss
  obtain ⟨y1, y2, y3, y4⟩ := sA_2 ss
  obtain ⟨b1, b2⟩ := step_b6 ss
  obtain ⟨r1, r2, r3, r4⟩ := hp
  obtain ⟨m1, m2, m3⟩ := amt_red (r3 0 (Or.inr rfl)) (ok.2.2.2.1 0)
  refine C_X6_judgeSingle ?_
  unfold wb_X6_judgeSingle_0
  have ec : (0 : Int32).toNatClampNeg = 0 := rfl
  have vp : vp_in (0 : Int32) 4 := vpi_of (n := 0) (m := 4) (by decide) (by decide)
  refine ⟨ss.1, b + 1, x1, x2, by rw [x4]; exact vp, b + 2, y1, y2, by rw [y4]; exact vp, b + 6, b1, b2, ?_⟩
  rw [x3, y3, ec, b1]
  refine K_set b2 m2 m3 ?_
  rw [m1]
  have F1 : Fr (JgS b sp) H (setF H (b + 6) (thF (R.2.1 0))) := Fr_setF (Or.inr (Or.inr ⟨Or.inl rfl, Or.inl rfl⟩)) (Or.inr (Or.inr ⟨Or.inr rfl, Or.inl rfl⟩))
  have g5 : hI (setF H (b + 6) (thF (R.2.1 0))) 705 b 0 = Int32.ofNat R.1 := r1
  have e0 : (0 : Int32) = Int32.ofNat 0 := rfl
  refine ⟨ss.1, fun c => ?_, fun c => ?_⟩
  · rw [g5] at c
    have h0 : R.1 = 0 := by
      have := congrArg Int32.toInt c
      rw [iN_toInt (by omega), i32_0] at this; omega
    rw [if_pos h0] at hq
    refine hq _ _ ⟨F1, Or.inl ⟨_, rfl, rfl, ⟨fun j hj => hz j hj, getF_setF⟩, ?_⟩⟩
    have : hI (setF H (b + 6) (thF (R.2.1 0))) 704 b 0 = 0 := hz4
    rw [this, h0]; rfl
  · have h1 : R.1 = 1 := by
      have : R.1 ≠ 0 := fun h => c (by rw [g5, h]; rfl)
      omega
    obtain ⟨e, su, cu, ou, had⟩ := ho h1
    rw [if_neg (by omega)] at hq
    have hsh : (decide (R.1 = 1) && offU u) = offU u := by rw [h1]; rfl
    rw [hsh] at hq
    have su1 := fr_unit F1 su
    have cu1 := fr_CUn F1 (fun g x k1 k2 k3 => by omega) cu
    refine ⟨fun c => (by rw [e] at c; cases c), fun x hx => ?_⟩
    rw [e] at hx
    injection hx with hx
    subst hx
    refine ⟨su1.1, ?_⟩
    rw [e]
    refine K_hasOffset su1 cu1 ?_
    have F2 : Fr (JgS b sp) H (sI (setF H (b + 6) (thF (R.2.1 0))) 704 b 0 (bI (offU u))) := F1.tr (Fr_sI (Or.inl ⟨rfl, rfl⟩))
    have k4 : hI (sI (setF H (b + 6) (thF (R.2.1 0))) 704 b 0 (bI (offU u))) 704 b 0 = bI (offU u) := by rw [hIs_i, if_pos rfl]
    have k6 : hI (sI (setF H (b + 6) (thF (R.2.1 0))) 704 b 0 (bI (offU u))) 706 b 0 = Int32.ofNat R.2.2.2.2 := by rw [hIs_g _ _ _ _ _ _ (by decide)]; exact r2
    have e1 : (1 : Int32) = Int32.ofNat 1 := rfl
    have hg := ok.2.2.1
    have go : ¬ (offU u = true ∧ 1 < R.2.2.2.2) → L_X6_judgeSingle_62 (d + 3) q b (some ad) (0 : Int32) (sI (setF H (b + 6) (thF (R.2.1 0))) 704 b 0 (bI (offU u))) := fun hn => by
      unfold jSingle at hq
      rw [if_neg hn] at hq
      rw [e0]
      exact single_pow ss su cu ou (by omega) ⟨hsp, had⟩ r2 hg (thF_ok (ok.2.2.2.1 0)) hq rfl 5 0 _ rfl F2 getF_setF (fun j hj => by omega) k4
    rw [k4, k6, e1, iN_le (by omega) (by omega)]
    refine ⟨ss.1, fun c => go fun k => ?_, fun c => ⟨fun h => go fun k => by omega, fun h => ?_⟩⟩
    · rw [k.1] at c; exact absurd c (by decide)
    · refine hq _ _ ⟨F2, Or.inr ⟨-10, ?_, rfl⟩⟩
      have ho : offU u = true := by
        cases hh : offU u with
        | true => rfl
        | false => rw [hh] at c; exact absurd rfl c
      unfold jSingle
      rw [if_pos ⟨ho, by omega⟩]
