
/-! ===== a formula judged: row by row ===== -/
abbrev JV : Type := (Nat → Int32) × FR
abbrev JR : Type := Int32 ⊕ JV
def thF (th : Nat) : FR := redF (Int64.ofInt th) 1000
def orR (p : Nat → Int32) (o : Option FR) : JR := match o with
  | none => .inl (-15)
  | some f => .inr (p, f)
def powF (t : FR) : Nat → FR → Option FR
  | 0, f => some f
  | n + 1, f => match mulF f.1 f.2 t.1 t.2 with
    | none => none
    | some g => powF t n g
def sngP (u : UV) (g : Nat) : Nat → Int32 := fun j => u.2.1 j * Int32.ofNat g
def jSingle (u : UV) (g th : Nat) : JR := if offU u = true ∧ 1 < g then .inl (-10)
  else if wide 5 (sngP u g) 18 = true then .inl (-12)
  else match powF u.2.2.1 g (thF th) with
    | none => .inl (-15)
    | some f => orR (sngP u g) (addF f.1 f.2 u.2.2.2.1 u.2.2.2.2)
def mixF (u : Nat → UV) (th : Nat → Nat) : Nat → Nat → FR → Option FR
  | 0, _, f => some f
  | n + 1, i, f => match mulF (thF (th i)).1 (thF (th i)).2 (u i).2.2.1.1 (u i).2.2.1.2 with
    | none => none
    | some t => match addF f.1 f.2 t.1 t.2 with
      | none => none
      | some g => mixF u th n (i + 1) g
abbrev mixA (m : Nat) (u : Nat → UV) : Prop := ∀ i, i < m → offU (u i) = false
abbrev mixB (m : Nat) (u : Nat → UV) : Prop := ∀ i, i < m → 1 ≤ i → eq5 (u i).2.1 (u 0).2.1 = true
abbrev mixC (m : Nat) (u : Nat → UV) : Prop := ∀ i, i < m → 1 ≤ i → ltL (u i).2.2.1.1 (u i).2.2.1.2 (u (i - 1)).2.2.1.1 (u (i - 1)).2.2.1.2 = true
def mixW (m : Nat) (u : Nat → UV) : Int32 := if mixA m u then (if mixB m u then (if mixC m u then 0 else -14) else -13) else -10
def jMixed (m : Nat) (u : Nat → UV) (th : Nat → Nat) : JR := if mixW m u = 0 then orR (u 0).2.1 (mixF u th m 0 (0, 1)) else .inl (mixW m u)
def fR (F : Nat → Nat → Option Nat) (R : PRow) (i : Nat) : Option Nat := F (R.2.2.1 i) (R.2.2.2.1 i)
def uR (F : Nat → Nat → Option Nat) (U : Nat → UV) (R : PRow) (i : Nat) : UV := U ((fR F R i).getD 0)
abbrev allU (F : Nat → Nat → Option Nat) (R : PRow) : Prop := ∀ i, i < R.1 → (fR F R i).isSome = true
def jAtom (F : Nat → Nat → Option Nat) (U : Nat → UV) (R : PRow) : JR := if allU F R then
    (if R.1 = 0 then .inr (fun _ => 0, thF (R.2.1 0)) else if R.1 = 1 then jSingle (uR F U R 0) R.2.2.2.2 (R.2.1 0) else jMixed R.1 (uR F U R) R.2.1)
  else .inl (-8)
def prdP (dv : Bool) (l r : JV) : Nat → Int32 := fun j => l.1 j + (if dv = true then -(r.1 j) else r.1 j)
def jProd (bad dv : Bool) (l r : JV) : JR := if bad = true then .inl (-10)
  else if dv = true ∧ r.2.1 = 0 then .inl (-9)
  else if wide 5 (prdP dv l r) 18 = true then .inl (-12)
  else orR (prdP dv l r) (if dv = true then divF l.2.1 l.2.2 r.2.1 r.2.2 else mulF l.2.1 l.2.2 r.2.1 r.2.2)
def jSum (mn : Bool) (l r : JV) : JR := if eq5 l.1 r.1 = true then orR l.1 (addF l.2.1 l.2.2 (if mn = true then -r.2.1 else r.2.1) r.2.2) else .inl (-13)
/-- whether a row is one measure by a unit with an offset; and not in ( ) -/
def shR (F : Nat → Nat → Option Nat) (U : Nat → UV) (r : RS) : Bool := decide (r.1 = 0) && decide (r.2.2.2.2.1 = 1) && offU (uR F U r.2.2.2.2 0)
def bareR (F : Nat → Nat → Option Nat) (U : Nat → UV) (r : RS) : Bool := shR F U r && !r.2.2.2.1
def jRow (F : Nat → Nat → Option Nat) (U : Nat → UV) (st : PS) (V : Nat → JV) (n : Nat) : JR :=
  if (st.2 n).1 = 0 then jAtom F U (st.2 n).2.2.2.2
  else if (st.2 n).1 = 1 ∨ (st.2 n).1 = 2 then jProd (bareR F U (st.2 (st.2 n).2.1) || bareR F U (st.2 (st.2 n).2.2.1)) (decide ((st.2 n).1 = 2)) (V (st.2 n).2.1) (V (st.2 n).2.2.1)
  else jSum (decide ((st.2 n).1 ≠ 3)) (V (st.2 n).2.1) (V (st.2 n).2.2.1)
abbrev JS : Type := Int32 × Nat × (Nat → JV)
def setV (V : Nat → JV) (n : Nat) (v : JV) : Nat → JV := fun i => if i = n then v else V i
def jStep (J : JS) (r : JR) : JS := if J.1 = 0 then (match r with
  | .inl w => (w, J.2)
  | .inr v => (0, J.2.1 + 1, setV J.2.2 J.2.1 v)) else J
def jA (F : Nat → Nat → Option Nat) (U : Nat → UV) (st : PS) : Nat → JS
  | 0 => (0, 0, fun _ => (fun _ => 0, (0, 1)))
  | n + 1 => jStep (jA F U st n) (jRow F U st (jA F U st n).2.2 n)
/-- the unit of a name -/
def wF (T : TP) (n : Nat) (U : Nat → UV) (fr many : Nat) : Option Nat := if (whoF (fun i => nmEq (U i) T fr many) n 0).toInt < 0 then none else some (whoF (fun i => nmEq (U i) T fr many) n 0).toInt.toNat
theorem wF_cases {T : TP} {n : Nat} {U : Nat → UV} {fr many : Nat} (hn : n ≤ 20) : (wF T n U fr many = none ∧ whoF (fun i => nmEq (U i) T fr many) n 0 = -1) ∨ ∃ j, j < n ∧ wF T n U fr many = some j ∧ whoF (fun i => nmEq (U i) T fr many) n 0 = Int32.ofNat j := by
  unfold wF
  rcases whoF_cases (P := fun i => nmEq (U i) T fr many) n 0 with h | ⟨j, h1, h2, h3, -⟩
  · rw [h]
    exact Or.inl ⟨if_pos (by decide), rfl⟩
  · rw [h3]
    refine Or.inr ⟨j, by omega, ?_, rfl⟩
    have e := iN_toInt (n := j) (by omega)
    rw [e, if_neg (by omega), Int.toNat_natCast]
/-! what holds of a row that is judged fine -/
def okV (v : JV) : Prop := (∀ j, j < 5 → -18 ≤ (v.1 j).toInt ∧ (v.1 j).toInt ≤ 18) ∧ okF v.2
theorem e1000 : (1000 : Int64).toInt = 1000 := rfl
theorem thF_ok {th : Nat} (h : th < 1000000000) : okF (thF th) := by
  have e : (Int64.ofInt (th : Int)).toInt = th := i64_of (by omega) (by omega)
  exact redF_ok (by omega) (by rw [e1000]; omega)
theorem okF_01 : okF (0, 1) := ⟨by decide, by decide, by decide⟩
theorem gcL_1 {b : Int64} (hb : 0 < b.toInt) : gcL b 1 = 1 := by
  refine i64_ext ?_
  rw [gcL_toInt (by omega) (by rw [i64_1]; omega), i64_1, Int.gcd_one_right]; rfl
theorem div_1 {b : Int64} : b / 1 = b := by
  refine i64_ext ?_
  rw [i64_div (by rw [i64_1]; omega), i64_1, Int.tdiv_one]
theorem gcL_cop {f : FR} (h : okF f) : gcL f.1 f.2 = 1 := by
  refine i64_ext ?_
  have := h.1
  rw [gcL_toInt h.2.1 (by omega), h.2.2]; rfl
theorem redF_id {f : FR} (h : okF f) : redF f.1 f.2 = f := by
  unfold redF
  rw [gcL_cop h, div_1, div_1]
/-- nothing added -/
theorem addF_0 {f : FR} (h : okF f) : addF f.1 f.2 0 1 = some f := by
  obtain ⟨h1, h2, h3⟩ := id h
  have b1 := i64_hi f.2
  have a1 := i64_lo f.1
  have a2 := i64_hi f.1
  unfold addF
  rw [gcL_1 h1, div_1, div_1]
  have p1 : prL f.1 1 = f.1 := i64_ext (by rw [prL_fit (by rw [i64_1, Int.mul_one]; unfold fitI; omega), i64_1, Int.mul_one])
  have p2 : prL f.2 1 = f.2 := i64_ext (by rw [prL_fit (by rw [i64_1, Int.mul_one]; unfold fitI; omega), i64_1, Int.mul_one])
  have p0 : prL 0 f.2 = 0 := i64_ext (by rw [prL_fit (by rw [i64_0, Int.zero_mul]; unfold fitI; omega), i64_0, Int.zero_mul])
  have t0 : toL f.1 0 = f.1 := i64_ext (by rw [toL_fit (by rw [i64_0, Int.add_zero]; unfold fitI; omega), i64_0, Int.add_zero])
  rw [p1, p2, p0, t0, redF_id h]
  refine if_pos ⟨?_, ?_, ?_, ?_⟩
  · rw [i64_1, Int.mul_one]; unfold fitI; omega
  · rw [i64_0, Int.zero_mul]; unfold fitI; omega
  · rw [i64_0, Int.add_zero]; unfold fitI; omega
  · rw [i64_1, Int.mul_one]; unfold fitI; omega
theorem add0_F {f : FR} (h : okF f) : addF 0 1 f.1 f.2 = some f := by
  obtain ⟨h1, h2, h3⟩ := id h
  have b1 := i64_hi f.2
  have a1 := i64_lo f.1
  have a2 := i64_hi f.1
  have g1 : gcL 1 f.2 = 1 := by
    refine i64_ext ?_
    rw [gcL_toInt (by rw [i64_1]; omega) (by omega), i64_1, Int.gcd_one_left]; rfl
  unfold addF
  rw [g1, div_1, div_1]
  have p1 : prL f.1 1 = f.1 := i64_ext (by rw [prL_fit (by rw [i64_1, Int.mul_one]; unfold fitI; omega), i64_1, Int.mul_one])
  have p2 : prL 1 f.2 = f.2 := i64_ext (by rw [prL_fit (by rw [i64_1, Int.one_mul]; unfold fitI; omega), i64_1, Int.one_mul])
  have p0 : prL 0 f.2 = 0 := i64_ext (by rw [prL_fit (by rw [i64_0, Int.zero_mul]; unfold fitI; omega), i64_0, Int.zero_mul])
  have t0 : toL 0 f.1 = f.1 := i64_ext (by rw [toL_fit (by rw [i64_0, Int.zero_add]; unfold fitI; omega), i64_0, Int.zero_add])
  rw [p1, p2, p0, t0, redF_id h]
  refine if_pos ⟨?_, ?_, ?_, ?_⟩
  · rw [i64_0, Int.zero_mul]; unfold fitI; omega
  · rw [i64_1, Int.mul_one]; unfold fitI; omega
  · rw [i64_0, Int.zero_add]; unfold fitI; omega
  · rw [i64_1, Int.one_mul]; unfold fitI; omega
/-- one number written twice -/
theorem redF_eq {a b c e : Int64} (ha : a.toInt ≠ -9223372036854775808) (hb : 0 < b.toInt) (hc : c.toInt ≠ -9223372036854775808) (he : 0 < e.toInt) (h : a.toInt * e.toInt = c.toInt * b.toInt) : redF a b = redF c e := by
  refine okF_eq (redF_ok ha hb) (redF_ok hc he) ?_
  obtain ⟨g, a', b', g1, -, g3, g4, g5, g6, -, -, -⟩ := gcL_spec ha hb
  obtain ⟨k, c', e', k1, -, k3, k4, k5, k6, -, -, -⟩ := gcL_spec hc he
  show (a / gcL a b).toInt * (e / gcL c e).toInt = (c / gcL c e).toInt * (b / gcL a b).toInt
  rw [g5, g6, k5, k6]
  rw [g3, g4, k3, k4] at h
  have hgk : (g * k) * (a' * e') = (g * k) * (c' * b') := by
    have e1 : (g * k) * (a' * e') = g * a' * (k * e') := by rw [Int.mul_assoc, Int.mul_assoc, Int.mul_left_comm k]
    have e2 : (g * k) * (c' * b') = k * c' * (g * b') := by rw [Int.mul_comm g k, Int.mul_assoc, Int.mul_assoc, Int.mul_left_comm g]
    rw [e1, e2]; exact h
  exact Int.eq_of_mul_eq_mul_left (Int.ne_of_gt (Int.mul_pos g1 k1)) hgk
theorem powF_ok {t : FR} (ht : okF t) : ∀ (n : Nat) (f g : FR), okF f → powF t n f = some g → okF g
  | 0, f, g, hf, h => by cases h; exact hf
  | n + 1, f, g, hf, h => by
    unfold powF at h
    cases hm : mulF f.1 f.2 t.1 t.2 with
    | none => rw [hm] at h; cases h
    | some k => rw [hm] at h; exact powF_ok ht n k g (mulF_ok hf ht.2.1 ht.1 ht.2.2 hm) h
theorem mixF_ok {u : Nat → UV} {th : Nat → Nat} (hu : ∀ i, okU (u i)) (ht : ∀ i, th i < 1000000000) : ∀ (n i : Nat) (f g : FR), okF f → mixF u th n i f = some g → okF g
  | 0, i, f, g, hf, h => by cases h; exact hf
  | n + 1, i, f, g, hf, h => by
    unfold mixF at h
    have o1 := thF_ok (ht i)
    have o2 := (hu i).2.2.2.2.1
    cases hm : mulF (thF (th i)).1 (thF (th i)).2 (u i).2.2.1.1 (u i).2.2.1.2 with
    | none => rw [hm] at h; cases h
    | some t =>
      rw [hm] at h
      have o3 := mulF_ok o1 o2.2.1 o2.1 o2.2.2 hm
      simp only at h
      cases ha : addF f.1 f.2 t.1 t.2 with
      | none => rw [ha] at h; cases h
      | some k => rw [ha] at h; exact mixF_ok hu ht n (i + 1) k g (addF_ok hf.1 o3.1 ha) h
theorem orR_ok {p : Nat → Int32} {o : Option FR} {v : JV} (hp : ∀ j, j < 5 → -18 ≤ (p j).toInt ∧ (p j).toInt ≤ 18) (ho : ∀ f, o = some f → okF f) (h : orR p o = .inr v) : okV v := by
  cases o with
  | none => cases h
  | some f => cases h; exact ⟨hp, ho f rfl⟩
theorem wide_no {f : Nat → Int32} (h : ¬ wide 5 f 18 = true) : ∀ j, j < 5 → -18 ≤ (f j).toInt ∧ (f j).toInt ≤ 18 := fun j hj => by
  have := Classical.byContradiction (fun k => h (wide_iff.mpr k)) j hj
  omega
theorem jAtom_ok {T : TP} {F : Nat → Nat → Option Nat} {U : Nat → UV} {R : PRow} {v : JV} (hR : okP T R) (hU : ∀ i, okU (U i)) (h : jAtom F U R = .inr v) : okV v := by
  obtain ⟨r1, r2, r3, r4, r5, r6⟩ := hR
  have o1 : ∀ i, okU (uR F U R i) := fun i => hU _
  unfold jAtom at h
  by_cases ha : allU F R
  · rw [if_pos ha] at h
    by_cases h0 : R.1 = 0
    · rw [if_pos h0] at h
      cases h
      exact ⟨fun j _ => ⟨by show -18 ≤ (0 : Int32).toInt; decide, by show (0 : Int32).toInt ≤ 18; decide⟩, thF_ok (r4 0)⟩
    · rw [if_neg h0] at h
      by_cases h1 : R.1 = 1
      · rw [if_pos h1] at h
        unfold jSingle at h
        by_cases c1 : offU (uR F U R 0) = true ∧ 1 < R.2.2.2.2
        · rw [if_pos c1] at h; cases h
        · rw [if_neg c1] at h
          by_cases c2 : wide 5 (sngP (uR F U R 0) R.2.2.2.2) 18 = true
          · rw [if_pos c2] at h; cases h
          · rw [if_neg c2] at h
            have u := o1 0
            cases hp : powF (uR F U R 0).2.2.1 R.2.2.2.2 (thF (R.2.1 0)) with
            | none => rw [hp] at h; cases h
            | some f =>
              rw [hp] at h
              have k := powF_ok u.2.2.2.2.1 _ _ _ (thF_ok (r4 0)) hp
              exact orR_ok (wide_no c2) (fun g e => addF_ok k.1 u.2.2.2.2.2.2.1 e) h
      · rw [if_neg h1] at h
        unfold jMixed at h
        by_cases c1 : mixW R.1 (uR F U R) = 0
        · rw [if_pos c1] at h
          exact orR_ok (fun j hj => by have := (o1 0).2.2.2.1 j hj; omega) (fun g e => mixF_ok o1 r4 _ _ _ _ okF_01 e) h
        · rw [if_neg c1] at h; cases h
  · rw [if_neg ha] at h; cases h
theorem jProd_ok {bad dv : Bool} {l r v : JV} (hl : okV l) (hr : okV r) (h : jProd bad dv l r = .inr v) : okV v := by
  unfold jProd at h
  by_cases c1 : bad = true
  · rw [if_pos c1] at h; cases h
  · rw [if_neg c1] at h
    by_cases c2 : dv = true ∧ r.2.1 = 0
    · rw [if_pos c2] at h; cases h
    · rw [if_neg c2] at h
      by_cases c3 : wide 5 (prdP dv l r) 18 = true
      · rw [if_pos c3] at h; cases h
      · rw [if_neg c3] at h
        refine orR_ok (wide_no c3) (fun f e => ?_) h
        by_cases c4 : dv = true
        · rw [if_pos c4] at e; exact divF_ok hl.2 hr.2 e
        · rw [if_neg c4] at e; exact mulF_ok hl.2 hr.2.2.1 hr.2.1 hr.2.2.2 e
theorem jSum_ok {mn : Bool} {l r v : JV} (hl : okV l) (hr : okV r) (h : jSum mn l r = .inr v) : okV v := by
  unfold jSum at h
  by_cases c1 : eq5 l.1 r.1 = true
  · rw [if_pos c1] at h
    exact orR_ok hl.1 (fun f e => addF_ok hl.2.1 hr.2.1 e) h
  · rw [if_neg c1] at h; cases h
theorem jRow_ok {T : TP} {F : Nat → Nat → Option Nat} {U : Nat → UV} {st : PS} {V : Nat → JV} {n : Nat} {v : JV} (hr : okRow T n (st.2 n)) (hU : ∀ i, okU (U i)) (hV : ∀ i, i < n → okV (V i)) (h : jRow F U st V n = .inr v) : okV v := by
  unfold jRow at h
  by_cases c0 : (st.2 n).1 = 0
  · rw [if_pos c0] at h
    rcases hr with hr | hr
    · exact jAtom_ok hr.2 hU h
    · omega
  · rw [if_neg c0] at h
    rcases hr with hr | ⟨-, -, h1, h2⟩
    · exact absurd hr.1 c0
    · by_cases c1 : (st.2 n).1 = 1 ∨ (st.2 n).1 = 2
      · rw [if_pos c1] at h; exact jProd_ok (hV _ h1) (hV _ h2) h
      · rw [if_neg c1] at h; exact jSum_ok (hV _ h1) (hV _ h2) h
