
/-! ===== the class: results in parts ===== -/
def prtF (us : Nat → UV) (many k : Nat) : Nat → Nat → FR → Option FR
  | 0, _, _ => none
  | n + 1, j, l => match divF l.1 l.2 (us j).2.2.1.1 (us j).2.2.1.2 with
    | none => none
    | some w => if j = k then some (if j + 1 = many then w else (w.1 / w.2, 1)) else (match mulF (w.1 / w.2) 1 (us j).2.2.1.1 (us j).2.2.1.2 with
      | none => none
      | some t => match addF l.1 l.2 (-t.1) t.2 with
        | none => none
        | some l' => prtF us many k n (j + 1) l')
theorem prtF_succ (us : Nat → UV) (many k n j : Nat) (l : FR) : prtF us many k (n + 1) j l = (match divF l.1 l.2 (us j).2.2.1.1 (us j).2.2.1.2 with
    | none => none
    | some w => if j = k then some (if j + 1 = many then w else (w.1 / w.2, 1)) else (match mulF (w.1 / w.2) 1 (us j).2.2.1.1 (us j).2.2.1.2 with
      | none => none
      | some t => match addF l.1 l.2 (-t.1) t.2 with
        | none => none
        | some l' => prtF us many k n (j + 1) l')) := rfl
theorem cut_ok {w : FR} (h : okF w) : okF (w.1 / w.2, 1) := by
  obtain ⟨h1, h2, h3⟩ := h
  refine ⟨by show 0 < (1 : Int64).toInt; decide, ?_, ?_⟩
  · show (w.1 / w.2).toInt ≠ _
    have a1 := i64_lo w.1
    have a2 := i64_hi w.1
    rw [i64_div (by omega)]
    have e : (w.1.toInt.tdiv w.2.toInt).natAbs = w.1.toInt.natAbs / w.2.toInt.natAbs := Int.natAbs_tdiv _ _
    have l := Nat.div_le_self w.1.toInt.natAbs w.2.toInt.natAbs
    omega
  · show Int.gcd (w.1 / w.2).toInt (1 : Int64).toInt = 1
    rw [i64_1, Int.gcd_one_right]
abbrev splC (n : Nat) (U : Nat → UV) (us : Nat → Int32) (v : JV) (i : Nat) : Prop := inN n (us i) ∧ offU (U (us i).toInt.toNat) = false ∧ eq5 (U (us i).toInt.toNat).2.1 v.1 = true ∧ (1 ≤ i → ltL (U (us i).toInt.toNat).2.2.1.1 (U (us i).toInt.toNat).2.2.1.2 (U (us (i - 1)).toInt.toNat).2.2.1.1 (U (us (i - 1)).toInt.toNat).2.2.1.2 = true)
abbrev splA (n : Nat) (U : Nat → UV) (us : Nat → Int32) (v : JV) (many : Nat) : Prop := ∀ i, i < many → splC n U us v i
def us3 (a b c : Int32) (i : Nat) : Int32 := if i = 0 then a else if i = 1 then b else c
def mny (b c : Int32) : Nat := if c = -1 then (if b = -1 then 1 else 2) else 3
def partedV (v : JV) (n : Nat) (U : Nat → UV) (us : Nat → Int32) (many : Nat) (k : Int32) : Option FR := if inN many k ∧ splA n U us v many ∧ 0 ≤ v.2.1.toInt then prtF (fun i => U (us i).toInt.toNat) many k.toInt.toNat many 0 v.2 else none
def partedG (pr : Bool) (P : PG) (n : Nat) (U : Nat → UV) (a b c k : Int32) : Option FR := if pr = true then (match sideP P 0 with
  | none => none
  | some i => partedV (gV P i) n U (us3 a b c) (mny b c) k) else none
def adU (x : Int32) : Nat := 3 + 2 + 5 * x.toInt.toNat
/-- the row of the units by which it is parted -/
def SPL (H : HP) (n : Nat) (us : Nat → Int32) : Prop := ∀ i, i < 3 → (inN n (us i) → hR H 4598 1096 i = some (adU (us i))) ∧ (¬ inN n (us i) → hR H 4598 1096 i = none)
theorem ltL_cm {f g : FR} {r : Int32} (hr : r.toInt = cmL f.1 f.2 g.1 g.2) : r.toInt < 0 ↔ ltL f.1 f.2 g.1 g.2 = true := by
  rw [hr]; exact cmL_lt
theorem splits_loop {d n many sa : Nat} {q : HP → Bool → Prop} {H : HP} {U : Nat → UV} {us : Nat → Int32} {v : JV} (s : shP H) (hu : CU H 3 n U) (hok : ∀ i, okU (U i)) (sp : SPL H n us) (h3 : many ≤ 3) (ss : shStep H sa) (jv : JV5 H sa v) (h1 : splA n U us v many → q H true) (h0 : ¬ splA n U us v many → q H false) : ∀ (k i : Nat) (o : Option Nat), k + i = many → (∀ j, j < i → splC n U us v j) → o = (if i = 0 then none else some (adU (us (i - 1)))) → L_X11_splits_5 (d + 2) q 0 (some sa) (Int32.ofNat many) o (Int32.ofNat i) H := by
  obtain ⟨s1, s2, s3, -, -, -, -, -, -, -, -, -, s12, -, -, s15, -, -⟩ := id s
  have e3 : (3 : Int32) = Int32.ofNat 3 := rfl
  intro k
  induction k with
  | zero =>
    intro i o hi hd ho
    refine T_X11_splits_5 ?_
    unfold wb_X11_splits_5
    rw [iN_le (by omega) (by omega)]
    have e : i = many := by omega
    subst e
    exact ⟨fun _ => h1 hd, fun h => by omega⟩
  | succ k ih =>
    intro i o hi hd ho
    refine T_X11_splits_5 ?_
    unfold wb_X11_splits_5
    rw [iN_le (by omega) (by omega), e3, iN_le (by omega) (by omega)]
    obtain ⟨p1, p0⟩ := sp i (by omega)
    have bad : ¬ splC n U us v i → q H false := fun h => h0 fun k => h (k i (by omega))
    refine ⟨fun h => by omega, fun _ => ⟨fun h => by omega, fun _ => ⟨s1, 1096, s12, isA_of s15 (by decide) (by decide), by rw [ln_of s15]; exact vpi_of (by omega) (by decide), ?_⟩⟩⟩
    rw [tg_of s15, iN_cl (by omega), iN_inc (by omega)]
    by_cases hin : inN n (us i)
    · rw [p1 hin]
      have hlt : (us i).toInt.toNat < n := by have := hin.1; have := hin.2; omega
      obtain ⟨y1, y2, y3, y4, y5, y6, y7, y8, y9⟩ := id (hu.1.2.2.2 (us i).toInt.toNat (by have := hu.2.2.1; omega)).2
      have hcu := hu.2.2.2 (us i).toInt.toNat hlt
      obtain ⟨u1, u2, u3, u4, u5, u6⟩ := id hcu
      obtain ⟨z1, -, -, -, -, -, -, -, -, z2, z3, z4, z5⟩ := ss
      refine ⟨fun k => (by cases k), fun b hb => ?_⟩
      injection hb with hb
      subst hb
      refine ⟨y1, K_hasOffset (d := d + 1) (hu.1.2.2.2 (us i).toInt.toNat (by have := hu.2.2.1; omega)).2 hcu ⟨fun ho' => ?_, fun ho' => ⟨y1, sa, rfl, z1, ?_⟩⟩⟩
      · exact bad fun k => by rw [k.2.1] at ho'; cases ho'
      · unfold adU
        rw [y4, z2]
        refine K_equalRows (d := d + 1) y5 z3 (by decide) (by decide) (by decide) (by decide) u3 jv.1 ⟨fun hb => ⟨fun hn => ?_, fun b' hb' => ?_⟩, fun hb => ?_⟩
        · have hi0 : i = 0 := Classical.byContradiction fun k => by rw [if_neg k] at ho; rw [ho] at hn; cases hn
          exact ih (i + 1) _ (by omega) (fun j hj => by
            have : j = i := by omega
            rw [this]
            exact ⟨hin, ho', hb, fun k => by omega⟩) (by rw [if_neg (by omega)]; rfl)
        · have hi0 : ¬ i = 0 := fun k => by rw [if_pos k] at ho; rw [ho] at hb'; cases hb'
          rw [if_neg hi0] at ho
          rw [ho] at hb'
          injection hb' with hb'
          subst hb'
          have hin' := (hd (i - 1) (by omega)).1
          have hlt' : (us (i - 1)).toInt.toNat < n := by have := hin'.1; have := hin'.2; omega
          obtain ⟨x1, x2, x3, x4, x5, x6, x7, x8, x9⟩ := id (hu.1.2.2.2 (us (i - 1)).toInt.toNat (by have := hu.2.2.1; omega)).2
          obtain ⟨w1, w2, w3, w4, w5, w6⟩ := hu.2.2.2 (us (i - 1)).toInt.toNat hlt'
          have o1 := (hok (us i).toInt.toNat).2.2.2.2.1
          have o2 := (hok (us (i - 1)).toInt.toNat).2.2.2.2.1
          refine ⟨y1, x1, _, y6, y7, ?_⟩
          unfold adU
          rw [y6, x6]
          refine K_compareWith (d := d) y7 x7 (by rw [getF_2 u4]; exact o1.1) (by rw [getF_2 w4]; exact o2.1) fun r hr => ?_
          rw [getF_1 u4, getF_2 u4, getF_1 w4, getF_2 w4] at hr
          have hc := ltL_cm hr
          rw [i32_lt, i32_0]
          refine ⟨fun h => ?_, fun h => bad fun k => h (hc.mpr (k.2.2.2 (by omega)))⟩
          refine ih (i + 1) _ (by omega) (fun j hj => ?_) (by rw [if_neg (by omega)]; rfl)
          by_cases e : j = i
          · rw [e]; exact ⟨hin, ho', hb, fun _ => hc.mp h⟩
          · exact hd j (by omega)
        · refine bad fun k => ?_
          have hb : eq5 (U (us i).toInt.toNat).2.1 v.1 = false := hb
          rw [k.2.2.1] at hb; cases hb
    · rw [p0 hin]
      exact ⟨fun _ => bad fun k => hin k.1, fun b hb => (by cases hb)⟩
theorem K_splits {d n many sa : Nat} {q : HP → Bool → Prop} {H : HP} {U : Nat → UV} {us : Nat → Int32} {v : JV} (s : shP H) (hu : CU H 3 n U) (hok : ∀ i, okU (U i)) (sp : SPL H n us) (h3 : many ≤ 3) (ss : shStep H sa) (jv : JV5 H sa v) (h1 : splA n U us v many → q H true) (h0 : ¬ splA n U us v many → q H false) : CZ (d + 3) 0 0 mX11_splits [rv (some 0), rv (some sa), .int (Int32.ofNat many)] H q := by
  refine C_X11_splits ?_
  unfold wb_X11_splits_0
  exact splits_loop (d := d) s hu hok sp h3 ss jv h1 h0 many 0 none rfl (fun j hj => by omega) rfl
theorem K_cutToWhole {d : Nat} {q : HP → Prop} {H : HP} {a : Nat} (ht : tg H a = 4) (hf : 0 < (getF H a).2.toInt) (hq : q (setF H a ((getF H a).1 / (getF H a).2, 1))) : CV (d + 1) 0 0 mX3_cutToWhole [rv (some a)] H q := by
  refine C_X3_cutToWhole ?_
  unfold wb_X3_cutToWhole_0
  have hn : ¬ hL H 401 a 0 = 0 := fun k => by
    have : (getF H a).2 = 0 := k
    rw [this] at hf; exact absurd hf (by decide)
  exact ⟨ht, fun k => absurd k hn, fun _ => ⟨hn, hq⟩⟩
abbrev PtS : Nat → Nat → Prop := fun g x => (g = 400 ∨ g = 401) ∧ (x = 1094 ∨ x = 1095)
theorem partOf_loop {d n many : Nat} {q : HP → Bool → Prop} {H0 : HP} {U : Nat → UV} {us : Nat → Int32} {v : JV} {kk : Nat} (s : shP H0) (hu : CU H0 3 n U) (hok : ∀ i, okU (U i)) (sp : SPL H0 n us) (h3 : many ≤ 3) (hk : kk < many) (hs : splA n U us v many) (h1 : ∀ f, okF f → prtF (fun i => U (us i).toInt.toNat) many kk many 0 v.2 = some f → ∀ H', Fr PtS H0 H' → getF H' 1094 = f → q H' true) (h0 : prtF (fun i => U (us i).toInt.toNat) many kk many 0 v.2 = none → ∀ H', Fr PtS H0 H' → q H' false) : ∀ (r j : Nat) (H : HP) (l : FR), r + j = many → j ≤ kk → Fr PtS H0 H → getF H 1095 = l → okF l → prtF (fun i => U (us i).toInt.toNat) many kk many 0 v.2 = prtF (fun i => U (us i).toInt.toNat) many kk r j l → L_X11_partOf_14 (d + 3) q 0 (Int32.ofNat many) (Int32.ofNat kk) (Int32.ofNat j) H := by
  obtain ⟨s1, s2, s3, -, -, -, -, -, -, -, s10, s11, s12, -, -, s15, s16, s17⟩ := id s
  have e3 : (3 : Int32) = Int32.ofNat 3 := rfl
  intro r
  induction r with
  | zero => intro j H l hr hj; omega
  | succ r ih =>
    intro j H l hr hj F gl ol hp
    refine T_X11_partOf_14 ?_
    unfold wb_X11_partOf_14
    have hin := (hs j (by omega)).1
    have hlt : (us j).toInt.toNat < n := by have := hin.1; have := hin.2; omega
    have hn20 := hu.2.2.1
    obtain ⟨y1, y2, y3, y4, y5, y6, y7, y8, y9⟩ := id (hu.1.2.2.2 (us j).toInt.toNat (by omega)).2
    obtain ⟨u1, u2, u3, u4, u5, u6⟩ := hu.2.2.2 (us j).toInt.toNat hlt
    obtain ⟨-, -, -, -, p1, p2, p3⟩ := hok (us j).toInt.toNat
    have eT : ∀ a, tg H a = tg H0 a := fun a => fr_tg F a
    have eC : ∀ g a, hC H g a = hC H0 g a := fun g a => by rw [F.2.1]
    have hTs : hT H 1096 = (4598, 3) := by rw [F.1]; exact s15
    have hsp : hR H 4598 1096 j = some (adU (us j)) := by
      rw [F.2.2.2.2.2.2.2.2 _ _ (fun k => by omega)]; exact (sp j (by omega)).1 hin
    rw [i32_lt, iN_toInt (by omega), iN_toInt (by omega), e3, iN_le (by omega) (by omega)]
    refine ⟨fun h => by omega, fun _ => ⟨fun h => by omega, fun _ => ⟨by rw [eT]; exact s1, 1096, by rw [eC]; exact s12, isA_of hTs (by decide) (by decide), by rw [ln_of hTs]; exact vpi_of (by omega) (by decide), ?_⟩⟩⟩
    rw [tg_of hTs, iN_cl (by omega), hsp]
    refine ⟨fun k => (by cases k), fun b hb => ⟨1094, by rw [eC]; exact s10, by rw [eT]; exact s16, ?_⟩⟩
    injection hb with hb
    subst hb
    rw [eC 1213, s10, eC 1214, s11]
    refine K_copy (d := d + 2) (by rw [eT]; exact s16) (by rw [eT]; exact s17) ?_
    rw [gl]
    have F1 : Fr PtS H (setF H 1094 l) := Fr_setF ⟨Or.inl rfl, Or.inl rfl⟩ ⟨Or.inr rfl, Or.inl rfl⟩
    have g1 : getF (setF H 1094 l) 1094 = l := getF_setF
    have k1 : getF (setF H 1094 l) 1095 = l := by rw [getF_set_ne (by decide)]; exact gl
    generalize setF H 1094 l = A at F1 g1 k1 ⊢
    have FA := F.tr F1
    have aT : ∀ a, tg A a = tg H0 a := fun a => fr_tg FA a
    have aC : ∀ g a, hC A g a = hC H0 g a := fun g a => by rw [FA.2.1]
    have fac : ∀ {B : HP}, Fr PtS H0 B → getF B (3 + 2 + 5 * (us j).toInt.toNat + 3) = (U (us j).toInt.toNat).2.2.1 := fun FB => by
      rw [fr_getF FB (fun k => by omega) (fun k => by omega)]; exact u4
    unfold adU
    rw [aC 1213, s10, aC 1003, y6]
    refine ⟨by rw [aT]; exact s1, by rw [aT]; exact y1, 1094, rfl, by rw [aT]; exact s16, ?_⟩
    have ef := hp
    rw [prtF_succ] at ef
    refine K_divide (d := d) (by rw [aT]; exact s16) (by rw [aT]; exact y7) (by rw [g1]; exact ol) (by rw [fac FA]; exact p1) (fun w ow hw => ⟨fun _ => ?_, fun k => (by cases k)⟩) (fun hw => ⟨fun k => (by cases k), fun _ => ?_⟩)
    · rw [getF_1 g1, getF_2 g1, getF_1 (fac FA), getF_2 (fac FA)] at hw
      rw [hw] at ef
      simp only at ef
      have F2 : Fr PtS A (setF A 1094 w) := Fr_setF ⟨Or.inl rfl, Or.inl rfl⟩ ⟨Or.inr rfl, Or.inl rfl⟩
      have g2 : getF (setF A 1094 w) 1094 = w := getF_setF
      have k2 : getF (setF A 1094 w) 1095 = l := by rw [getF_set_ne (by decide)]; exact k1
      generalize setF A 1094 w = B at F2 g2 k2 ⊢
      have FB := FA.tr F2
      have bT : ∀ a, tg B a = tg H0 a := fun a => fr_tg FB a
      have bC : ∀ g a, hC B g a = hC H0 g a := fun g a => by rw [FB.2.1]
      have ejk : Int32.ofNat j = Int32.ofNat kk ↔ j = kk := iN_eq (by omega) (by omega)
      have em : (Int32.ofNat many - (1 : Int32)).toInt = (many : Int) - 1 := held_last (by omega)
      rw [i32_le, em, iN_toInt (by omega), ejk]
      refine ⟨fun hm => ⟨fun hne => by omega, fun he => ?_⟩, fun hm => ?_⟩
      · rw [if_pos he, if_pos (by omega)] at ef
        exact h1 w ow ef B FB g2
      · rw [bC 1213, s10]
        refine ⟨by rw [bT]; exact s1, 1094, rfl, by rw [bT]; exact s16, K_cutToWhole (d := d + 2) (by rw [bT]; exact s16) (by rw [g2]; exact ow.1) ?_⟩
        rw [g2]
        have oc := cut_ok ow
        have F3 : Fr PtS B (setF B 1094 (w.1 / w.2, 1)) := Fr_setF ⟨Or.inl rfl, Or.inl rfl⟩ ⟨Or.inr rfl, Or.inl rfl⟩
        have g3 : getF (setF B 1094 (w.1 / w.2, 1)) 1094 = (w.1 / w.2, 1) := getF_setF
        have k3 : getF (setF B 1094 (w.1 / w.2, 1)) 1095 = l := by rw [getF_set_ne (by decide)]; exact k2
        generalize setF B 1094 (w.1 / w.2, 1) = D at F3 g3 k3 ⊢
        have FD := FB.tr F3
        have dT : ∀ a, tg D a = tg H0 a := fun a => fr_tg FD a
        have dC : ∀ g a, hC D g a = hC H0 g a := fun g a => by rw [FD.2.1]
        refine ⟨fun hne => ?_, fun he => ?_⟩
        · rw [if_neg hne] at ef
          rw [dC 1213, s10, dC 1003, y6]
          refine ⟨by rw [dT]; exact s1, by rw [dT]; exact y1, 1094, rfl, by rw [dT]; exact s16, ?_⟩
          refine K_multiply (d := d) (by rw [dT]; exact s16) (by rw [dT]; exact y7) (by rw [g3]; exact oc) (by rw [fac FD]; exact p1) (fun t ot ht => ⟨fun k => (by cases k), fun _ => ?_⟩) (fun ht => ⟨fun _ => ?_, fun k => (by cases k)⟩)
          · rw [getF_1 g3, getF_2 g3, getF_1 (fac FD), getF_2 (fac FD)] at ht
            rw [ht] at ef
            simp only at ef
            have F4 : Fr PtS D (setF D 1094 t) := Fr_setF ⟨Or.inl rfl, Or.inl rfl⟩ ⟨Or.inr rfl, Or.inl rfl⟩
            have g4 : getF (setF D 1094 t) 1094 = t := getF_setF
            have k4 : getF (setF D 1094 t) 1095 = l := by rw [getF_set_ne (by decide)]; exact k3
            generalize setF D 1094 t = E at F4 g4 k4 ⊢
            have FE := FD.tr F4
            have eT' : ∀ a, tg E a = tg H0 a := fun a => fr_tg FE a
            have eC' : ∀ g a, hC E g a = hC H0 g a := fun g a => by rw [FE.2.1]
            rw [eC' 1214, s11, eC' 1213, s10]
            refine ⟨by rw [eT']; exact s1, 1095, rfl, by rw [eT']; exact s17, ?_⟩
            refine K_subtract (d := d) (by rw [eT']; exact s17) (by rw [eT']; exact s16) (by rw [k4]; exact ol) (by rw [g4]; exact ot) (fun f of hf => ⟨fun _ => ?_, fun k => (by cases k)⟩) (fun hf => ⟨fun k => (by cases k), fun _ => ?_⟩)
            · rw [getF_1 k4, getF_2 k4, getF_1 g4, getF_2 g4] at hf
              rw [hf] at ef
              rw [iN_inc (by omega)]
              exact ih (j + 1) _ f (by omega) (by omega) (FE.tr (Fr_setF ⟨Or.inl rfl, Or.inr rfl⟩ ⟨Or.inr rfl, Or.inr rfl⟩)) getF_setF of ef
            · rw [getF_1 k4, getF_2 k4, getF_1 g4, getF_2 g4] at hf
              rw [hf] at ef
              exact h0 ef E FE
          · rw [getF_1 g3, getF_2 g3, getF_1 (fac FD), getF_2 (fac FD)] at ht
            rw [ht] at ef
            exact h0 ef D FD
        · rw [if_pos he, if_neg (by omega)] at ef
          exact h1 _ oc ef D FD g3
    · rw [getF_1 g1, getF_2 g1, getF_1 (fac FA), getF_2 (fac FA)] at hw
      rw [hw] at ef
      exact h0 ef A FA
theorem K_cpartOf {d n many sa : Nat} {q : HP → Bool → Prop} {H : HP} {U : Nat → UV} {us : Nat → Int32} {v : JV} {kk : Nat} (s : shP H) (hu : CU H 3 n U) (hok : ∀ i, okU (U i)) (sp : SPL H n us) (h3 : many ≤ 3) (hk : kk < many) (hs : splA n U us v many) (ss : shStep H sa) (jv : JV5 H sa v) (ov : okV v) (h1 : ∀ f, okF f → prtF (fun i => U (us i).toInt.toNat) many kk many 0 v.2 = some f → ∀ H', Fr PtS H H' → getF H' 1094 = f → q H' true) (h0 : prtF (fun i => U (us i).toInt.toNat) many kk many 0 v.2 = none → ∀ H', Fr PtS H H' → q H' false) : CZ (d + 4) 0 0 mX11_partOf [rv (some 0), rv (some sa), .int (Int32.ofNat many), .int (Int32.ofNat kk)] H q := by
  obtain ⟨s1, s2, s3, -, -, -, -, -, -, -, s10, s11, s12, -, -, s15, s16, s17⟩ := id s
  obtain ⟨z1, -, -, -, -, -, -, -, -, z2, z3, z4, z5⟩ := ss
  refine C_X11_partOf ?_
  unfold wb_X11_partOf_0
  refine ⟨s1, sa, rfl, z1, 1095, s11, s17, ?_⟩
  rw [s11, z4]
  refine K_copy (d := d + 2) s17 z5 ?_
  rw [jv.2]
  exact partOf_loop (d := d) s hu hok sp h3 hk hs h1 h0 many 0 _ v.2 rfl (Nat.zero_le _) (Fr_setF ⟨Or.inl rfl, Or.inr rfl⟩ ⟨Or.inr rfl, Or.inr rfl⟩) getF_setF ov.2 rfl
