
/-! ===== the class's bits of doubles: comparisons, cases ===== -/
theorem iN_neg {x : Int32} {n : Nat} (h : n < 2147483648) (e : x = Int32.ofNat n) : ¬ x < 0 := by
  rw [e, i32_lt, iN_toInt h, i32_0]; omega
theorem cmp_lt {x y : Int} {k : CmpOp} : Op.cmpValue (some (compare x y)) k < 0 ↔ x < y := by
  rw [FP.Core.compare_ite]
  by_cases h : x < y
  · rw [if_pos h]; exact ⟨fun _ => h, fun _ => by cases k <;> decide⟩
  · rw [if_neg h]
    refine ⟨fun e => ?_, fun e => absurd e h⟩
    split at e
    · cases k <;> exact absurd e (by decide)
    · cases k <;> exact absurd e (by decide)
theorem cmp_eq {x y : Int} {k : CmpOp} : Op.cmpValue (some (compare x y)) k = 0 ↔ x = y := by
  rw [FP.Core.compare_ite]
  by_cases h : x < y
  · rw [if_pos h]; exact ⟨fun e => by cases k <;> exact absurd e (by decide), fun e => by omega⟩
  · rw [if_neg h]
    by_cases h2 : x = y
    · rw [if_pos h2]; exact ⟨fun _ => h2, fun _ => by cases k <;> decide⟩
    · rw [if_neg h2]; exact ⟨fun e => by cases k <;> exact absurd e (by decide), fun e => absurd e h2⟩
theorem cmp_ge {x y : Int} {k : CmpOp} : 0 ≤ Op.cmpValue (some (compare x y)) k ↔ y ≤ x := by
  have h := cmp_lt (x := x) (y := y) (k := k)
  have e : ∀ z : Int32, 0 ≤ z ↔ ¬ z < 0 := fun z => by rw [i32_le, i32_lt, i32_0]; omega
  rw [e, h]; omega
theorem pow_lt_iff {c L a b : Nat} (h1 : 2 ^ L ≤ c) (h2 : c < 2 ^ (L + 1)) : c * 2 ^ a < 2 ^ b ↔ L + a < b := by
  constructor
  · intro h
    have : 2 ^ (L + a) < 2 ^ b := by
      refine Nat.lt_of_le_of_lt ?_ h
      rw [Nat.pow_add]; exact Nat.mul_le_mul_right _ h1
    exact (Nat.pow_lt_pow_iff_right (by decide)).mp this
  · intro h
    have : c * 2 ^ a < 2 ^ (L + 1 + a) := by
      rw [Nat.pow_add 2 (L + 1) a]; exact Nat.mul_lt_mul_of_pos_right h2 (two_pos a)
    exact Nat.lt_of_lt_of_le this (Nat.pow_le_pow_right (by decide) (by omega))
/-- the order against a power of two -/
theorem lt_mkD {c L : Nat} {q r : Int} (h1 : 2 ^ L ≤ c) (h2 : c < 2 ^ (L + 1)) (hq : -1074 ≤ q) (hr : -1074 ≤ r) : ((c * 2 ^ (q + 1074).toNat : Nat) : Int) < ((1 * 2 ^ (r + 1074).toNat : Nat) : Int) ↔ (L : Int) + q < r := by
  rw [Int.ofNat_lt, Nat.one_mul, pow_lt_iff h1 h2]; omega
def shBits (H : HP) (b : Nat) : Prop := tg H b = 3 ∧ hC H 300 b = some (b + 1) ∧ hT H (b + 1) = (4101, 10) ∧ (∀ i : Nat, i < 10 → hD H 4101 (b + 1) i = mkD 1 ((2 ^ i : Nat) : Int)) ∧ hD H 301 b 0 = 9218868437227405312
theorem shl_one : ∀ i : Nat, i < 10 → (1 : Int32) <<< (Int32.ofNat i &&& 31) = Int32.ofNat (2 ^ i) := by decide +kernel
theorem ex1 {i : Nat} (h : i < 10) : exD 1 ((2 ^ i : Nat) : Int) := by
  have : (2 : Nat) ^ i ≤ 2 ^ 9 := Nat.pow_le_pow_right (by decide) (by omega)
  have := two_pos i
  exact ⟨by omega, by omega, by omega⟩
theorem iN_pred {n : Nat} (h : n + 1 < 2147483648) : Int32.ofNat (n + 1) + (-1) = Int32.ofNat n := by
  refine iN_inj (by omega) ?_
  have := iN_toInt (n := n + 1) (by omega)
  have e : (-1 : Int32).toInt = -1 := rfl
  rw [i32_addx] <;> rw [this, e] <;> omega
theorem iN_m1 : Int32.ofNat 0 + (-1) = (-1 : Int32) := by decide
/-- the greatest power of two of a number of 1 or more -/
theorem expL_loop {d : Nat} {q : HP → Int32 → Prop} {H : HP} {b c L : Nat} {q0 : Int} (s : shBits H b) (h1 : 2 ^ L ≤ c) (h2 : c < 2 ^ (L + 1)) (hc : c < 9007199254740992) (hq : q0 ≤ 971) (hE : 0 ≤ (L : Int) + q0) (hL : L ≤ 52) (hr : ∀ r : Int32, r.toInt = (L : Int) + q0 → q H r) : ∀ (k acc : Nat) (x7 : Int32), k ≤ 10 → (acc : Int) ≤ (L : Int) + q0 → (L : Int) + q0 - acc < ((2 ^ k : Nat) : Int) → x7.toInt = (k : Int) - 1 → L_X2_exponentOf_22 d q b (Int32.ofNat acc) (mkD c (q0 - acc)) 1 x7 H := by
  obtain ⟨s1, s2, s3, s4, s5⟩ := s
  have n10 : ¬ (1 : Int32) = 0 := by decide
  intro k
  induction k with
  | zero =>
    intro acc x7 hk ha hlt hx
    have e0 : (2 : Nat) ^ 0 = 1 := rfl
    rw [e0] at hlt
    refine T_X2_exponentOf_22 ?_
    unfold wb_X2_exponentOf_22
    rw [i32_lt, hx, i32_0]
    exact ⟨fun _ => hr _ (by rw [iN_toInt (by omega)]; omega), fun h => by omega⟩
  | succ k ih =>
    intro acc x7 hk ha hlt hx
    have ex : x7 = Int32.ofNat k := iN_inj (by omega) (by omega)
    have p2 : (2 : Nat) ^ (k + 1) = 2 * 2 ^ k := by rw [Nat.pow_succ]; omega
    rw [p2] at hlt
    have hp := two_pos k
    have hpk : (2 : Nat) ^ k ≤ 2 ^ 9 := Nat.pow_le_pow_right (by decide) (by omega)
    have hex : exD c (q0 - acc) := ⟨hc, by omega, by omega⟩
    have hlt2 := lt_mkD (q := q0 - acc) (r := ((2 ^ k : Nat) : Int)) h1 h2 (by omega) (by omega)
    have next : x7 + (-1) = x7 + (-1) := rfl
    have hx' : (x7 + (-1)).toInt = (k : Int) - 1 := by
      have e : (-1 : Int32).toInt = -1 := rfl
      rw [i32_addx] <;> rw [hx, e] <;> omega
    refine T_X2_exponentOf_22 ?_
    unfold wb_X2_exponentOf_22
    rw [i32_lt, hx, i32_0]
    refine ⟨fun h => by omega, fun _ => ⟨fun h => absurd h n10, fun _ => ⟨s1, b + 1, s2, isA_of s3 (by decide) (by decide), ?_, ?_⟩⟩⟩
    · rw [ln_of s3, ex]; exact vpi_of (by omega) (by omega)
    · rw [tg_of s3, ex, iN_cl (by omega), s4 k (by omega), dcmp_mkD hex (ex1 (by omega)), cmp_lt, hlt2, ← ex]
      refine ⟨fun hl => ⟨fun _ => ih acc _ (by omega) ha (by omega) hx', fun h => absurd h n10⟩, fun hl => ⟨?_, fun r hal => ?_⟩⟩
      · rw [ln_of s3, ex]; exact vpi_of (by omega) (by omega)
      · rw [ddiv_mkD hex (ex1 (by omega))] at hal
        have er := ali64 hal (mkD_nn ⟨hc, by omega, by omega⟩)
        rw [er, ex, shl_one k (by omega), iN_add (by omega), ← ex]
        have e2 : q0 - acc - ((2 ^ k : Nat) : Int) = q0 - ((acc + 2 ^ k : Nat) : Int) := by omega
        rw [e2]
        exact ih (acc + 2 ^ k) _ (by omega) (by omega) (by omega) hx'
theorem two_mk : (4611686018427387904 : UInt64) = mkD 1 1 := by decide +kernel
theorem one_mk : FP.dconst1 = mkD 1 0 := by decide +kernel
theorem ge_two {c L : Nat} {q : Int} (h1 : 2 ^ L ≤ c) (h2 : c < 2 ^ (L + 1)) (hx : exD c q) : 0 ≤ Op.cmpValue (FP.dcmp (mkD c q) (4611686018427387904 : UInt64)) .g ↔ ¬ ((L : Int) + q < 1) := by
  have h := dcmp_mkD hx (d := 1) (r := 1) ⟨by decide, by decide, by decide⟩
  rw [← two_mk] at h
  rw [h, cmp_ge, ← Int.not_lt, lt_mkD h1 h2 hx.2.1 (by decide)]
theorem lt_one {c L : Nat} {q : Int} (h1 : 2 ^ L ≤ c) (h2 : c < 2 ^ (L + 1)) (hx : exD c q) : Op.cmpValue (FP.dcmp (mkD c q) FP.dconst1) .l < 0 ↔ (L : Int) + q < 0 := by
  have h := dcmp_mkD hx (d := 1) (r := 0) ⟨by decide, by decide, by decide⟩
  rw [← one_mk] at h
  rw [h, cmp_lt, lt_mkD h1 h2 hx.2.1 (by decide)]
theorem hmul_t {c acc k : Nat} {q0 : Int} (hk : k < 10) (hex : exD c (q0 + acc)) (hex2 : exD c (q0 + acc + ((2 ^ k : Nat) : Int))) : ∀ r, alike64 r (FP.dmul (mkD c (q0 + acc)) (mkD 1 ((2 ^ k : Nat) : Int))) = true → r = mkD c (q0 + acc + ((2 ^ k : Nat) : Int)) := fun r hal => by
  rw [dmul_mkD hex (ex1 hk)] at hal
  rw [Nat.mul_one] at hal
  exact ali64 hal (mkD_nn hex2)
theorem ar_no {L acc P : Nat} {q0 : Int} (hl : ¬ ((L : Int) + (q0 + acc + (P : Int)) < 1)) (hlt : -((L : Int) + q0) - acc < ((2 * P : Nat) : Int) ∨ acc + 2 * P = 1024) (hle : acc + 2 * P ≤ 1024) : (-((L : Int) + q0) - acc < (P : Int) ∨ acc + P = 1024) ∧ acc + P ≤ 1024 := by omega
theorem ar_yes {L acc P : Nat} {q0 : Int} (hl : (L : Int) + (q0 + acc + (P : Int)) < 1) (hlt : -((L : Int) + q0) - acc < ((2 * P : Nat) : Int) ∨ acc + 2 * P = 1024) (hle : acc + 2 * P ≤ 1024) (ha : (acc : Int) ≤ -((L : Int) + q0)) (hP : P ≤ 2 ^ 9) : ((acc + P : Nat) : Int) ≤ -((L : Int) + q0) ∧ (-((L : Int) + q0) - ((acc + P : Nat) : Int) < (P : Int) ∨ acc + P + P = 1024) ∧ acc + P + P ≤ 1024 ∧ q0 + acc + (P : Int) = q0 + ((acc + P : Nat) : Int) := by
  clear hP
  omega
theorem ar_sub {acc P : Nat} {x : Int32} (hP : P ≤ 2 ^ 9) (hle : acc + 2 * P ≤ 1024) (hx : x.toInt = -(acc : Int)) : (x - Int32.ofNat P).toInt = -((acc + P : Nat) : Int) := by
  have e9 : (2 : Nat) ^ 9 = 512 := rfl
  rw [e9] at hP
  have := iN_toInt (n := P) (by omega)
  rw [i32_subx] <;> rw [hx, this] <;> omega
/-- below 1: down to -1023 -/
theorem expS_loop {d : Nat} {q : HP → Int32 → Prop} {H : HP} {b c L : Nat} {q0 : Int} (s : shBits H b) (h1 : 2 ^ L ≤ c) (h2 : c < 2 ^ (L + 1)) (hc : c < 9007199254740992) (hq : -1074 ≤ q0) (hE : (L : Int) + q0 < 0) (hr : ∀ r : Int32, (r.toInt = (L : Int) + q0 ∨ (r.toInt = -1023 ∧ (L : Int) + q0 ≤ -1023)) → q H r) : ∀ (k acc : Nat) (x3 x7 : Int32), k ≤ 10 → (acc : Int) ≤ -((L : Int) + q0) → (-((L : Int) + q0) - acc < ((2 ^ k : Nat) : Int) ∨ acc + 2 ^ k = 1024) → acc + 2 ^ k ≤ 1024 → x3.toInt = -(acc : Int) → x7.toInt = (k : Int) - 1 → L_X2_exponentOf_22 d q b x3 (mkD c (q0 + acc)) 0 x7 H := by
  obtain ⟨s1, s2, s3, s4, s5⟩ := s
  intro k
  induction k with
  | zero =>
    intro acc x3 x7 hk ha hlt hle hx3 hx
    have e0 : (2 : Nat) ^ 0 = 1 := rfl
    rw [e0] at hlt hle
    refine T_X2_exponentOf_22 ?_
    unfold wb_X2_exponentOf_22
    rw [i32_lt, hx, i32_0]
    exact ⟨fun _ => hr _ (by omega), fun h => by omega⟩
  | succ k ih =>
    intro acc x3 x7 hk ha hlt hle hx3 hx
    have ex : x7 = Int32.ofNat k := iN_inj (by omega) (by omega)
    have p2 : (2 : Nat) ^ (k + 1) = 2 * 2 ^ k := by rw [Nat.pow_succ]; omega
    rw [p2] at hlt hle
    have hp := two_pos k
    have hpk : (2 : Nat) ^ k ≤ 2 ^ 9 := Nat.pow_le_pow_right (by decide) (by omega)
    have hex : exD c (q0 + acc) := ⟨hc, by omega, by omega⟩
    have hex2 : exD c (q0 + acc + ((2 ^ k : Nat) : Int)) := ⟨hc, by omega, by omega⟩
    have hx' : (x7 + (-1)).toInt = (k : Int) - 1 := by
      have e : (-1 : Int32).toInt = -1 := rfl
      rw [i32_addx] <;> rw [hx, e] <;> omega
    have hk10 : k < 10 := hk
    have inK : vp_in x7 10 := by rw [ex]; exact vpi_of hk10 (by decide)
    have hk32 : k < 2147483648 := Nat.lt_trans hk10 (by decide)
    have ecl : x7.toNatClampNeg = k := by rw [ex]; exact iN_cl hk32
    have eD : hD H 4101 (b + 1) k = mkD 1 ((2 ^ k : Nat) : Int) := s4 k hk10
    have esh : (1 : Int32) <<< (x7 &&& 31) = Int32.ofNat (2 ^ k) := by rw [ex]; exact shl_one k hk10
    have no : ¬ ((L : Int) + (q0 + acc + ((2 ^ k : Nat) : Int)) < 1) → L_X2_exponentOf_22 d q b x3 (mkD c (q0 + acc)) 0 (x7 + (-1)) H := fun hl => ih acc x3 _ (Nat.le_of_lt hk10) ha (ar_no hl hlt hle).1 (ar_no hl hlt hle).2 hx3 hx'
    have yes : ((L : Int) + (q0 + acc + ((2 ^ k : Nat) : Int)) < 1) → L_X2_exponentOf_22 d q b (x3 - Int32.ofNat (2 ^ k)) (mkD c (q0 + acc + ((2 ^ k : Nat) : Int))) 0 (x7 + (-1)) H := fun hl => by
      obtain ⟨y1, y2, y3, y4⟩ := ar_yes hl hlt hle ha hpk
      rw [y4]
      exact ih (acc + 2 ^ k) _ _ (Nat.le_of_lt hk10) y1 y2 y3 (ar_sub hpk hle hx3) hx'
    have neg : ¬ x7 < 0 := iN_neg hk32 ex
    clear ih hlt hle ha hpk hp p2 hx hE hx' hx3 hr
    have hmul := hmul_t hk10 hex hex2
    have hge := ge_two h1 h2 hex2
    refine T_X2_exponentOf_22 ?_
    unfold wb_X2_exponentOf_22
    refine ⟨fun h => absurd h neg, fun _ => ⟨fun _ => ⟨fun h => absurd rfl h, fun _ => ⟨s1, b + 1, s2, isA_of s3 (by decide) (by decide), ?_, fun r5 hal => ?_⟩⟩, fun h => absurd rfl h⟩⟩
    · rw [ln_of s3]; exact inK
    · rw [tg_of s3, ecl, eD] at hal
      rw [hmul r5 hal, hge]
      refine ⟨no, fun hl => ⟨?_, fun r7 hal => ?_⟩⟩
      · rw [ln_of s3]; exact inK
      · rw [tg_of s3, ecl, eD] at hal
        rw [hmul r7 hal, esh]
        exact yes (Decidable.of_not_not hl)
theorem hE10 {L : Nat} {q0 : Int} (hL : L ≤ 52) (hq : q0 ≤ 971) : (L : Int) + q0 - ((0 : Nat) : Int) < ((2 ^ 10 : Nat) : Int) := by
  have e : (2 : Nat) ^ 10 = 1024 := rfl
  rw [e]; omega
theorem K_exponentOf {d : Nat} {q : HP → Int32 → Prop} {H : HP} {b c L : Nat} {q0 : Int} (s : shBits H b) (h1 : 2 ^ L ≤ c) (h2 : c < 2 ^ (L + 1)) (hc : c < 9007199254740992) (hq1 : -1074 ≤ q0) (hq2 : q0 ≤ 971) (hr : ∀ r : Int32, (r.toInt = (L : Int) + q0 ∨ (r.toInt = -1023 ∧ (L : Int) + q0 ≤ -1023)) → q H r) : CI (d + 1) 0 0 mX2_exponentOf [rv (some b), .double (mkD c q0)] H q := by
  refine C_X2_exponentOf ?_
  unfold wb_X2_exponentOf_0
  have hL : L ≤ 52 := by
    have : 2 ^ L < 2 ^ 53 := by omega
    have := (Nat.pow_lt_pow_iff_right (by decide : 1 < 2)).mp this
    omega
  rw [lt_one h1 h2 ⟨hc, hq1, hq2⟩]
  refine ⟨fun h => ?_, fun h => ?_⟩
  · have := expS_loop (d := d) s h1 h2 hc hq1 h hr 10 0 0 9 (by omega) (by omega) (Or.inr rfl) (by decide) rfl rfl
    simpa using this
  · have := expL_loop (d := d) s h1 h2 hc hq2 (by omega) hL (fun r h => hr r (Or.inl h)) 10 0 9 (by omega) (by omega) (hE10 hL hq2) rfl
    simpa using this
/-- scaled by a power of two -/
theorem abs_shr : ∀ n i : Nat, n < 1024 → i < 10 → ((Int32.ofNat n >>> (Int32.ofNat i &&& 31)) &&& 1 = 0 ↔ n / 2 ^ i % 2 = 0) := by
  intro n i hn hi
  have e1 : (Int32.ofNat i &&& 31) = Int32.ofNat i := by
    have : ∀ i : Nat, i < 10 → (Int32.ofNat i &&& 31) = Int32.ofNat i := by decide +kernel
    exact this i hi
  have e2 : Int32.ofNat n >>> Int32.ofNat i = Int32.ofNat (n / 2 ^ i) := by
    apply Int32.toBitVec_inj.mp
    rw [Int32.toBitVec_shiftRight]
    have hm : (Int32.ofNat i).toBitVec.smod 32 = BitVec.ofNat 32 i := by
      have : ∀ i : Nat, i < 10 → (Int32.ofNat i).toBitVec.smod 32 = BitVec.ofNat 32 i := by decide +kernel
      exact this i hi
    rw [hm]
    apply BitVec.eq_of_toNat_eq
    have hmsb : (Int32.ofNat n).toBitVec.msb = false := by
      show (BitVec.ofNat 32 n).msb = false
      rw [BitVec.msb_eq_decide, BitVec.toNat_ofNat]
      exact decide_eq_false (by omega)
    rw [BitVec.sshiftRight_eq', BitVec.toNat_ofNat]
    rw [BitVec.toNat_sshiftRight_of_msb_false hmsb]
    show (BitVec.ofNat 32 n).toNat >>> (i % 2 ^ 32) = (BitVec.ofNat 32 (n / 2 ^ i)).toNat
    rw [BitVec.toNat_ofNat, BitVec.toNat_ofNat, Nat.shiftRight_eq_div_pow, Nat.mod_eq_of_lt (show i < 2 ^ 32 by omega), Nat.mod_eq_of_lt (show n < 2 ^ 32 by omega)]
    have : n / 2 ^ i ≤ n := Nat.div_le_self _ _
    rw [Nat.mod_eq_of_lt (by omega)]
  rw [e1, e2]
  have e3 : Int32.ofNat (n / 2 ^ i) &&& 1 = Int32.ofNat (n / 2 ^ i % 2) := by
    apply Int32.toBitVec_inj.mp
    rw [Int32.toBitVec_and]
    apply BitVec.eq_of_toNat_eq
    rw [BitVec.toNat_and]
    show (BitVec.ofNat 32 (n / 2 ^ i)).toNat &&& 1 = (BitVec.ofNat 32 (n / 2 ^ i % 2)).toNat
    have : n / 2 ^ i ≤ n := Nat.div_le_self _ _
    rw [BitVec.toNat_ofNat, BitVec.toNat_ofNat, Nat.and_one_is_mod]; omega
  rw [e3]
  have := iN_eq (n := n / 2 ^ i % 2) (m := 0) (by omega) (by omega)
  exact this
theorem scaled_loop {d : Nat} {q : HP → UInt64 → Prop} {H : HP} {b c n : Nat} {q0 : Int} {s3 : Int32} {sg : Bool} (s : shBits H b) (hc : c < 9007199254740992) (hn : n < 1024) (hs : s3.toInt = if sg = true then -(n : Int) else n) (h1 : -1074 ≤ q0) (h2 : q0 ≤ 971) (h3 : -1074 ≤ q0 + s3.toInt) (h4 : q0 + s3.toInt ≤ 971) (hr : q H (mkD c (q0 + s3.toInt))) : ∀ (k i : Nat), k + i = 10 → L_X2_scaled_6 (d + 1) q b s3 (mkD c (q0 + if sg = true then -((n % 2 ^ i : Nat) : Int) else ((n % 2 ^ i : Nat) : Int))) (Int32.ofNat i) H := by
  obtain ⟨s1, s2, s3', s4, s5⟩ := s
  have e10 : (10 : Int32) = Int32.ofNat 10 := rfl
  intro k
  induction k with
  | zero =>
    intro i hi
    refine T_X2_scaled_6 ?_
    unfold wb_X2_scaled_6
    rw [e10, iN_le (by omega) (by omega)]
    have : n % 2 ^ i = n := by
      rw [show i = 10 by omega]
      exact Nat.mod_eq_of_lt (by show n < 1024; omega)
    refine ⟨fun _ => ?_, fun h => by omega⟩
    rw [this, ← hs]; exact hr
  | succ k ih =>
    intro i hi
    have nx := ih (i + 1) (by omega)
    have hmod : n % 2 ^ (i + 1) = n % 2 ^ i + 2 ^ i * (n / 2 ^ i % 2) := Nat.mod_pow_succ
    have hp := two_pos i
    have hpi : (2 : Nat) ^ i ≤ 2 ^ 9 := Nat.pow_le_pow_right (by decide) (by omega)
    have hle : n % 2 ^ (i + 1) ≤ n := Nat.mod_le _ _
    have hle' : n % 2 ^ i ≤ n := Nat.mod_le _ _
    have habs := abs_shr n i hn (by omega)
    refine T_X2_scaled_6 ?_
    unfold wb_X2_scaled_6
    rw [e10, iN_le (by omega) (by omega)]
    refine ⟨fun h => by omega, fun _ => K_absI (by rw [hs]; split <;> omega) fun y hy => ?_⟩
    have ey : y = Int32.ofNat n := iN_inj (by omega) (by rw [hy, hs]; split <;> omega)
    rw [ey, habs, iN_inc (by omega), i32_le, i32_0]
    refine ⟨fun hz => ?_, fun hz => ?_⟩
    · rw [hmod, hz, Nat.mul_zero, Nat.add_zero] at nx; exact nx
    · have hz1 : n / 2 ^ i % 2 = 1 := by omega
      rw [hz1, Nat.mul_one] at hmod
      have hn0 : 0 < n := by omega
      refine ⟨fun hsg => ⟨s1, b + 1, s2, isA_of s3' (by decide) (by decide), ?_, fun r hal => ?_⟩, fun hsg => ⟨s1, b + 1, s2, isA_of s3' (by decide) (by decide), ?_, fun r hal => ?_⟩⟩
      · rw [ln_of s3']; exact vpi_of (by omega) (by omega)
      · have hsg' : sg = true := by
          cases sg
          · rw [if_neg (by decide)] at hs; omega
          · rfl
        subst hsg'
        rw [if_pos rfl] at hs nx hal
        rw [tg_of s3', iN_cl (by omega), s4 i (by omega), ddiv_mkD ⟨hc, by omega, by omega⟩ (ex1 (by omega))] at hal
        have er := ali64 hal (mkD_nn ⟨hc, by omega, by omega⟩)
        rw [er]
        have e2 : q0 + -((n % 2 ^ i : Nat) : Int) - ((2 ^ i : Nat) : Int) = q0 + -((n % 2 ^ (i + 1) : Nat) : Int) := by omega
        rw [e2]; exact nx
      · rw [ln_of s3']; exact vpi_of (by omega) (by omega)
      · have hsg' : sg = false := by
          cases sg
          · rfl
          · rw [if_pos rfl] at hs; omega
        subst hsg'
        rw [if_neg (by decide)] at hs nx hal
        rw [tg_of s3', iN_cl (by omega), s4 i (by omega), dmul_mkD ⟨hc, by omega, by omega⟩ (ex1 (by omega)), Nat.mul_one] at hal
        have er := ali64 hal (mkD_nn ⟨hc, by omega, by omega⟩)
        rw [er]
        have e2 : q0 + ((n % 2 ^ i : Nat) : Int) + ((2 ^ i : Nat) : Int) = q0 + ((n % 2 ^ (i + 1) : Nat) : Int) := by omega
        rw [e2]; exact nx
theorem K_scaled {d : Nat} {q : HP → UInt64 → Prop} {H : HP} {b c : Nat} {q0 : Int} {s3 : Int32} (s : shBits H b) (hc : c < 9007199254740992) (hn : -1023 ≤ s3.toInt ∧ s3.toInt ≤ 1023) (h1 : -1074 ≤ q0) (h2 : q0 ≤ 971) (h3 : -1074 ≤ q0 + s3.toInt) (h4 : q0 + s3.toInt ≤ 971) (hr : q H (mkD c (q0 + s3.toInt))) : CD (d + 2) 0 0 mX2_scaled [rv (some b), .double (mkD c q0), .int s3] H q := by
  refine C_X2_scaled ?_
  unfold wb_X2_scaled_0
  have := scaled_loop (d := d) (n := s3.toInt.natAbs) (sg := decide (s3.toInt < 0)) (s3 := s3) s hc (by omega) (by by_cases k : s3.toInt < 0 <;> simp [k] <;> omega) h1 h2 h3 h4 hr 10 0 rfl
  have e : s3.toInt.natAbs % 2 ^ 0 = 0 := Nat.mod_one _
  rw [e] at this
  have e2 : q0 + (if decide (s3.toInt < 0) = true then -((0 : Nat) : Int) else ((0 : Nat) : Int)) = q0 := by split <;> omega
  rw [e2] at this
  exact this
