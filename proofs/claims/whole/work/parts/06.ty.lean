
/-! ===== typed ends and calls ===== -/
def bI (b : Bool) : Int32 := match b with
  | true => 1
  | false => 0
theorem bI_0 {b : Bool} : bI b = 0 ↔ b = false := by cases b <;> decide
theorem bI_1 {b : Bool} : ¬ bI b = 0 ↔ b = true := by cases b <;> decide
theorem nar_bI (b : Bool) : narrow .boolean (.int (bI b)) = .int (bI b) ∧ fits .boolean (.int (bI b)) = true := by cases b <;> exact ⟨rfl, rfl⟩
def okZ (x : Int32) : Prop := x = 0 ∨ x = 1
theorem nar_Z {x : Int32} (h : okZ x) : narrow .boolean (.int x) = .int x ∧ fits .boolean (.int x) = true := by rcases h with rfl | rfl <;> exact ⟨rfl, rfl⟩
theorem rv_cat (o : Option Nat) : (rv o).category = 1 := by cases o <;> rfl
theorem vc_int (x : Int32) : (Value.int x).category = 1 := rfl
theorem vc_long (x : Int64) : (Value.long x).category = 2 := rfl
theorem vc_float (x : UInt32) : (Value.float x).category = 1 := rfl
theorem vc_double (x : UInt64) : (Value.double x).category = 2 := rfl
theorem lgc_ge {x y : Int64} : 0 ≤ lg_cmp x y ↔ y ≤ x := lg_cmp_ge x y
theorem lgc_le {x y : Int64} : lg_cmp x y ≤ 0 ↔ x ≤ y := lg_cmp_le x y
theorem lgc_gt {x y : Int64} : 0 < lg_cmp x y ↔ y < x := lg_cmp_gt x y
theorem lgc_lt {x y : Int64} : lg_cmp x y < 0 ↔ x < y := lg_cmp_lt x y
theorem lgc_eq {x y : Int64} : lg_cmp x y = 0 ↔ x = y := lg_cmp_eq x y
theorem tg_self (H : HP) (t n : Nat) : tg (nw H t n) (hN H) = t := by rw [tg_nw, if_pos rfl]
theorem el_6 : ∀ t : Nat, 6 ≤ 6 → t % 16 = 6 → aelt t = .object (RX9, TX9, 5).1 := fun t _ h => by unfold aelt; simp only [h]
theorem el_7 : ∀ t : Nat, 6 ≤ 7 → t % 16 = 7 → aelt t = .object (RX6, TX6, 13).1 := fun t _ h => by unfold aelt; simp only [h]
theorem el_8 : ∀ t : Nat, 6 ≤ 8 → t % 16 = 8 → aelt t = .object (RX8, TX8, 4).1 := fun t _ h => by unfold aelt; simp only [h]
theorem el_9 : ∀ t : Nat, 6 ≤ 9 → t % 16 = 9 → aelt t = .object (RX5, TX5, 3).1 := fun t _ h => by unfold aelt; simp only [h]
def qV (q : HP → Prop) : HP → Option Value → Prop := fun H r => r = none ∧ q H
def qI (q : HP → Int32 → Prop) : HP → Option Value → Prop := fun H r => ∃ x, r = some (.int x) ∧ q H x
def qZ (q : HP → Bool → Prop) : HP → Option Value → Prop := fun H r => ∃ b, r = some (.int (bI b)) ∧ q H b
def qJ (q : HP → Int64 → Prop) : HP → Option Value → Prop := fun H r => ∃ x, r = some (.long x) ∧ q H x
def qF (q : HP → UInt32 → Prop) : HP → Option Value → Prop := fun H r => ∃ x, r = some (.float x) ∧ q H x
def qD (q : HP → UInt64 → Prop) : HP → Option Value → Prop := fun H r => ∃ x, r = some (.double x) ∧ q H x
def qR (q : HP → Option Nat → Prop) : HP → Option Value → Prop := fun H r => ∃ o, r = some (rv o) ∧ q H o
abbrev CV (d mc ms : Nat) (M : MM) (vs : List Value) (H : HP) (q : HP → Prop) : Prop := Call d mc ms M vs H (qV q)
abbrev CI (d mc ms : Nat) (M : MM) (vs : List Value) (H : HP) (q : HP → Int32 → Prop) : Prop := Call d mc ms M vs H (qI q)
abbrev CZ (d mc ms : Nat) (M : MM) (vs : List Value) (H : HP) (q : HP → Bool → Prop) : Prop := Call d mc ms M vs H (qZ q)
abbrev CJ (d mc ms : Nat) (M : MM) (vs : List Value) (H : HP) (q : HP → Int64 → Prop) : Prop := Call d mc ms M vs H (qJ q)
abbrev CF (d mc ms : Nat) (M : MM) (vs : List Value) (H : HP) (q : HP → UInt32 → Prop) : Prop := Call d mc ms M vs H (qF q)
abbrev CD (d mc ms : Nat) (M : MM) (vs : List Value) (H : HP) (q : HP → UInt64 → Prop) : Prop := Call d mc ms M vs H (qD q)
abbrev CR (d mc ms : Nat) (M : MM) (vs : List Value) (H : HP) (q : HP → Option Nat → Prop) : Prop := Call d mc ms M vs H (qR q)
abbrev uc_X11_init : Nat := 1117
abbrev us_X11_init : Nat := 6106
abbrev uc_X12_init : Nat := 36
abbrev us_X12_init : Nat := 1816
