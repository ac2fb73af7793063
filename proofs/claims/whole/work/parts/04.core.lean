
/-! ===== the abstract heap: typed stores by (field or array kind, address, index) ===== -/
abbrev HP : Type := (Nat → Nat → Nat → Int32) × (Nat → Nat → Nat → Int64) × (Nat → Nat → Nat → UInt32) × (Nat → Nat → Nat → UInt64) × (Nat → Nat → Nat → Option Nat) × (Nat → Nat → Option Nat) × (Nat → Nat × Nat) × Nat × (Nat × (Nat → Int32))
def hI (H : HP) : Nat → Nat → Nat → Int32 := H.1
def hL (H : HP) : Nat → Nat → Nat → Int64 := H.2.1
def hF (H : HP) : Nat → Nat → Nat → UInt32 := H.2.2.1
def hD (H : HP) : Nat → Nat → Nat → UInt64 := H.2.2.2.1
def hR (H : HP) : Nat → Nat → Nat → Option Nat := H.2.2.2.2.1
def hC (H : HP) : Nat → Nat → Option Nat := H.2.2.2.2.2.1
def hT (H : HP) : Nat → Nat × Nat := H.2.2.2.2.2.2.1
def hN (H : HP) : Nat := H.2.2.2.2.2.2.2.1
def hX (H : HP) : Nat × (Nat → Int32) := H.2.2.2.2.2.2.2.2
def tg (H : HP) (a : Nat) : Nat := (hT H a).1
def ln (H : HP) (a : Nat) : Nat := (hT H a).2
def u3 {α : Type} (f : Nat → Nat → Nat → α) (g a i : Nat) (v : α) : Nat → Nat → Nat → α := fun g' a' i' => if g' = g ∧ a' = a ∧ i' = i then v else f g' a' i'
def u2 {α : Type} (f : Nat → Nat → α) (g a : Nat) (v : α) : Nat → Nat → α := fun g' a' => if g' = g ∧ a' = a then v else f g' a'
def z3 {α : Type} (f : Nat → Nat → Nat → α) (a : Nat) (v : α) : Nat → Nat → Nat → α := fun g' a' i' => if a' = a then v else f g' a' i'
def z2 {α : Type} (f : Nat → Nat → α) (a : Nat) (v : α) : Nat → Nat → α := fun g' a' => if a' = a then v else f g' a'
def u1 {α : Type} (f : Nat → α) (a : Nat) (v : α) : Nat → α := fun a' => if a' = a then v else f a'
def sI (H : HP) (g a i : Nat) (v : Int32) : HP := (u3 H.1 g a i v, H.2)
def sL (H : HP) (g a i : Nat) (v : Int64) : HP := (H.1, u3 H.2.1 g a i v, H.2.2)
def sF (H : HP) (g a i : Nat) (v : UInt32) : HP := (H.1, H.2.1, u3 H.2.2.1 g a i v, H.2.2.2)
def sD (H : HP) (g a i : Nat) (v : UInt64) : HP := (H.1, H.2.1, H.2.2.1, u3 H.2.2.2.1 g a i v, H.2.2.2.2)
def sR (H : HP) (g a i : Nat) (v : Option Nat) : HP := (H.1, H.2.1, H.2.2.1, H.2.2.2.1, u3 H.2.2.2.2.1 g a i v, H.2.2.2.2.2)
def sC (H : HP) (g a : Nat) (v : Option Nat) : HP := (H.1, H.2.1, H.2.2.1, H.2.2.2.1, H.2.2.2.2.1, u2 H.2.2.2.2.2.1 g a v, H.2.2.2.2.2.2)
/-- a new cell, at the next address, of a tag and a length, all 0 -/
def nw (H : HP) (t n : Nat) : HP := (z3 H.1 (hN H) 0, z3 H.2.1 (hN H) 0, z3 H.2.2.1 (hN H) 0, z3 H.2.2.2.1 (hN H) 0, z3 H.2.2.2.2.1 (hN H) none, z2 H.2.2.2.2.2.1 (hN H) none, u1 H.2.2.2.2.2.2.1 (hN H) (t, n), hN H + 1, hX H)

theorem hI_sI (H : HP) (g a i : Nat) (v : Int32) : hI (sI H g a i v) = u3 (hI H) g a i v := rfl
theorem hL_sI (H : HP) (g a i : Nat) (v : Int32) : hL (sI H g a i v) = hL H := rfl
theorem hF_sI (H : HP) (g a i : Nat) (v : Int32) : hF (sI H g a i v) = hF H := rfl
theorem hD_sI (H : HP) (g a i : Nat) (v : Int32) : hD (sI H g a i v) = hD H := rfl
theorem hR_sI (H : HP) (g a i : Nat) (v : Int32) : hR (sI H g a i v) = hR H := rfl
theorem hC_sI (H : HP) (g a i : Nat) (v : Int32) : hC (sI H g a i v) = hC H := rfl
theorem hT_sI (H : HP) (g a i : Nat) (v : Int32) : hT (sI H g a i v) = hT H := rfl
theorem hN_sI (H : HP) (g a i : Nat) (v : Int32) : hN (sI H g a i v) = hN H := rfl
theorem hX_sI (H : HP) (g a i : Nat) (v : Int32) : hX (sI H g a i v) = hX H := rfl
theorem tg_sI (H : HP) (g a i : Nat) (v : Int32) : tg (sI H g a i v) = tg H := rfl
theorem ln_sI (H : HP) (g a i : Nat) (v : Int32) : ln (sI H g a i v) = ln H := rfl
theorem hI_sL (H : HP) (g a i : Nat) (v : Int64) : hI (sL H g a i v) = hI H := rfl
theorem hL_sL (H : HP) (g a i : Nat) (v : Int64) : hL (sL H g a i v) = u3 (hL H) g a i v := rfl
theorem hF_sL (H : HP) (g a i : Nat) (v : Int64) : hF (sL H g a i v) = hF H := rfl
theorem hD_sL (H : HP) (g a i : Nat) (v : Int64) : hD (sL H g a i v) = hD H := rfl
theorem hR_sL (H : HP) (g a i : Nat) (v : Int64) : hR (sL H g a i v) = hR H := rfl
theorem hC_sL (H : HP) (g a i : Nat) (v : Int64) : hC (sL H g a i v) = hC H := rfl
theorem hT_sL (H : HP) (g a i : Nat) (v : Int64) : hT (sL H g a i v) = hT H := rfl
theorem hN_sL (H : HP) (g a i : Nat) (v : Int64) : hN (sL H g a i v) = hN H := rfl
theorem hX_sL (H : HP) (g a i : Nat) (v : Int64) : hX (sL H g a i v) = hX H := rfl
theorem tg_sL (H : HP) (g a i : Nat) (v : Int64) : tg (sL H g a i v) = tg H := rfl
theorem ln_sL (H : HP) (g a i : Nat) (v : Int64) : ln (sL H g a i v) = ln H := rfl
theorem hI_sF (H : HP) (g a i : Nat) (v : UInt32) : hI (sF H g a i v) = hI H := rfl
theorem hL_sF (H : HP) (g a i : Nat) (v : UInt32) : hL (sF H g a i v) = hL H := rfl
theorem hF_sF (H : HP) (g a i : Nat) (v : UInt32) : hF (sF H g a i v) = u3 (hF H) g a i v := rfl
theorem hD_sF (H : HP) (g a i : Nat) (v : UInt32) : hD (sF H g a i v) = hD H := rfl
theorem hR_sF (H : HP) (g a i : Nat) (v : UInt32) : hR (sF H g a i v) = hR H := rfl
theorem hC_sF (H : HP) (g a i : Nat) (v : UInt32) : hC (sF H g a i v) = hC H := rfl
theorem hT_sF (H : HP) (g a i : Nat) (v : UInt32) : hT (sF H g a i v) = hT H := rfl
theorem hN_sF (H : HP) (g a i : Nat) (v : UInt32) : hN (sF H g a i v) = hN H := rfl
theorem hX_sF (H : HP) (g a i : Nat) (v : UInt32) : hX (sF H g a i v) = hX H := rfl
theorem tg_sF (H : HP) (g a i : Nat) (v : UInt32) : tg (sF H g a i v) = tg H := rfl
theorem ln_sF (H : HP) (g a i : Nat) (v : UInt32) : ln (sF H g a i v) = ln H := rfl
theorem hI_sD (H : HP) (g a i : Nat) (v : UInt64) : hI (sD H g a i v) = hI H := rfl
theorem hL_sD (H : HP) (g a i : Nat) (v : UInt64) : hL (sD H g a i v) = hL H := rfl
theorem hF_sD (H : HP) (g a i : Nat) (v : UInt64) : hF (sD H g a i v) = hF H := rfl
theorem hD_sD (H : HP) (g a i : Nat) (v : UInt64) : hD (sD H g a i v) = u3 (hD H) g a i v := rfl
theorem hR_sD (H : HP) (g a i : Nat) (v : UInt64) : hR (sD H g a i v) = hR H := rfl
theorem hC_sD (H : HP) (g a i : Nat) (v : UInt64) : hC (sD H g a i v) = hC H := rfl
theorem hT_sD (H : HP) (g a i : Nat) (v : UInt64) : hT (sD H g a i v) = hT H := rfl
theorem hN_sD (H : HP) (g a i : Nat) (v : UInt64) : hN (sD H g a i v) = hN H := rfl
theorem hX_sD (H : HP) (g a i : Nat) (v : UInt64) : hX (sD H g a i v) = hX H := rfl
theorem tg_sD (H : HP) (g a i : Nat) (v : UInt64) : tg (sD H g a i v) = tg H := rfl
theorem ln_sD (H : HP) (g a i : Nat) (v : UInt64) : ln (sD H g a i v) = ln H := rfl
theorem hI_sR (H : HP) (g a i : Nat) (v : Option Nat) : hI (sR H g a i v) = hI H := rfl
theorem hL_sR (H : HP) (g a i : Nat) (v : Option Nat) : hL (sR H g a i v) = hL H := rfl
theorem hF_sR (H : HP) (g a i : Nat) (v : Option Nat) : hF (sR H g a i v) = hF H := rfl
theorem hD_sR (H : HP) (g a i : Nat) (v : Option Nat) : hD (sR H g a i v) = hD H := rfl
theorem hR_sR (H : HP) (g a i : Nat) (v : Option Nat) : hR (sR H g a i v) = u3 (hR H) g a i v := rfl
theorem hC_sR (H : HP) (g a i : Nat) (v : Option Nat) : hC (sR H g a i v) = hC H := rfl
theorem hT_sR (H : HP) (g a i : Nat) (v : Option Nat) : hT (sR H g a i v) = hT H := rfl
theorem hN_sR (H : HP) (g a i : Nat) (v : Option Nat) : hN (sR H g a i v) = hN H := rfl
theorem hX_sR (H : HP) (g a i : Nat) (v : Option Nat) : hX (sR H g a i v) = hX H := rfl
theorem tg_sR (H : HP) (g a i : Nat) (v : Option Nat) : tg (sR H g a i v) = tg H := rfl
theorem ln_sR (H : HP) (g a i : Nat) (v : Option Nat) : ln (sR H g a i v) = ln H := rfl
theorem hI_sC (H : HP) (g a : Nat) (v : Option Nat) : hI (sC H g a v) = hI H := rfl
theorem hL_sC (H : HP) (g a : Nat) (v : Option Nat) : hL (sC H g a v) = hL H := rfl
theorem hF_sC (H : HP) (g a : Nat) (v : Option Nat) : hF (sC H g a v) = hF H := rfl
theorem hD_sC (H : HP) (g a : Nat) (v : Option Nat) : hD (sC H g a v) = hD H := rfl
theorem hR_sC (H : HP) (g a : Nat) (v : Option Nat) : hR (sC H g a v) = hR H := rfl
theorem hC_sC (H : HP) (g a : Nat) (v : Option Nat) : hC (sC H g a v) = u2 (hC H) g a v := rfl
theorem hT_sC (H : HP) (g a : Nat) (v : Option Nat) : hT (sC H g a v) = hT H := rfl
theorem hN_sC (H : HP) (g a : Nat) (v : Option Nat) : hN (sC H g a v) = hN H := rfl
theorem hX_sC (H : HP) (g a : Nat) (v : Option Nat) : hX (sC H g a v) = hX H := rfl
theorem tg_sC (H : HP) (g a : Nat) (v : Option Nat) : tg (sC H g a v) = tg H := rfl
theorem ln_sC (H : HP) (g a : Nat) (v : Option Nat) : ln (sC H g a v) = ln H := rfl

theorem hI_nw (H : HP) (t n : Nat) : hI (nw H t n) = z3 (hI H) (hN H) 0 := rfl
theorem hL_nw (H : HP) (t n : Nat) : hL (nw H t n) = z3 (hL H) (hN H) 0 := rfl
theorem hF_nw (H : HP) (t n : Nat) : hF (nw H t n) = z3 (hF H) (hN H) 0 := rfl
theorem hD_nw (H : HP) (t n : Nat) : hD (nw H t n) = z3 (hD H) (hN H) 0 := rfl
theorem hR_nw (H : HP) (t n : Nat) : hR (nw H t n) = z3 (hR H) (hN H) none := rfl
theorem hC_nw (H : HP) (t n : Nat) : hC (nw H t n) = z2 (hC H) (hN H) none := rfl
theorem hT_nw (H : HP) (t n : Nat) : hT (nw H t n) = u1 (hT H) (hN H) (t, n) := rfl
theorem hN_nw (H : HP) (t n : Nat) : hN (nw H t n) = hN H + 1 := rfl
theorem hX_nw (H : HP) (t n : Nat) : hX (nw H t n) = hX H := rfl
theorem tg_nw (H : HP) (t n a : Nat) : tg (nw H t n) a = if a = hN H then t else tg H a := by
  show (u1 (hT H) (hN H) (t, n) a).1 = _
  unfold u1; split <;> rfl
theorem ln_nw (H : HP) (t n a : Nat) : ln (nw H t n) a = if a = hN H then n else ln H a := by
  show (u1 (hT H) (hN H) (t, n) a).2 = _
  unfold u1; split <;> rfl
theorem u3_get {α : Type} (f : Nat → Nat → Nat → α) (g a i : Nat) (v : α) (g' a' i' : Nat) : u3 f g a i v g' a' i' = if g' = g ∧ a' = a ∧ i' = i then v else f g' a' i' := rfl
theorem u3_same {α : Type} (f : Nat → Nat → Nat → α) (g a i : Nat) (v : α) : u3 f g a i v g a i = v := by simp [u3]
theorem u3_g {α : Type} (f : Nat → Nat → Nat → α) {g g' : Nat} (a i : Nat) (v : α) (a' i' : Nat) (h : g' ≠ g) : u3 f g a i v g' a' i' = f g' a' i' := by simp [u3, h]
theorem u3_a {α : Type} (f : Nat → Nat → Nat → α) (g g' : Nat) {a a' : Nat} (i : Nat) (v : α) (i' : Nat) (h : a' ≠ a) : u3 f g a i v g' a' i' = f g' a' i' := by simp [u3, h]
theorem u3_i {α : Type} (f : Nat → Nat → Nat → α) (g g' a a' : Nat) {i i' : Nat} (v : α) (h : i' ≠ i) : u3 f g a i v g' a' i' = f g' a' i' := by simp [u3, h]
/-! ===== kinds of fields and arrays; the relation to the machine's heap ===== -/
def scrA : Nat := 1000000
def strA : Nat := 1000001
def strV : Nat := 1000002
def strF : Nat := 1000003
def gid (c j : Nat) : Nat := 100 * (c + 1) + j
def aelt (t : Nat) : FieldType := match t % 16 with
  | 0 => .int
  | 1 => .byte
  | 2 => .boolean
  | 3 => .long
  | 4 => .float
  | 5 => .double
  | 6 => .object RX9
  | 7 => .object RX6
  | 8 => .object RX8
  | _ => .object RX5
def aval (ad : Nat → Nat) (H : HP) (t a : Nat) : (Nat → Int32) ⊕ (Nat → Int64) ⊕ (Nat → UInt32) ⊕ (Nat → UInt64) ⊕ (Nat → Option Nat) := match t % 16 with
  | 0 => .inl (hI H t a)
  | 1 => .inl (hI H t a)
  | 2 => .inl (hI H t a)
  | 3 => .inr (.inl (hL H t a))
  | 4 => .inr (.inr (.inl (hF H t a)))
  | 5 => .inr (.inr (.inr (.inl (hD H t a))))
  | _ => .inr (.inr (.inr (.inr (fun i => (hR H t a i).map ad))))
def rv (o : Option Nat) : Value := match o with
  | none => .null
  | some a => .ref a
def fval (kd : Nat → Nat → Nat) (ad : Nat → Nat) (H : HP) (c a j : Nat) : Value := match kd c j with
  | 0 => .int (hI H (gid c j) a 0)
  | 1 => .long (hL H (gid c j) a 0)
  | 2 => .double (hD H (gid c j) a 0)
  | 3 => va_rf ((hR H (gid c j) a 0).map ad)
  | _ => va_rf ((hC H (gid c j) a).map ad)

def kd (c j : Nat) : Nat := match c with
  | 0 => match j with
    | 0 => 4
    | 1 => 4
    | 2 => 4
    | 3 => 4
    | 4 => 0
    | 5 => 4
    | 6 => 4
    | 7 => 4
    | 8 => 4
    | 9 => 4
    | 10 => 4
    | _ => 4
  | 1 => match j with
    | 0 => 4
    | 1 => 4
    | 2 => 0
    | 3 => 0
    | 4 => 0
    | 5 => 0
    | 6 => 4
    | 7 => 4
    | 8 => 4
    | 9 => 4
    | 10 => 4
    | 11 => 4
    | _ => 4
  | 2 => match j with
    | 0 => 4
    | 1 => 2
    | _ => 4
  | 3 => match j with
    | 0 => 1
    | 1 => 1
    | _ => 4
  | 4 => match j with
    | 0 => 4
    | 1 => 0
    | 2 => 0
    | 3 => 0
    | 4 => 0
    | 5 => 4
    | 6 => 4
    | _ => 4
  | 5 => match j with
    | 0 => 0
    | 1 => 4
    | 2 => 4
    | _ => 4
  | 6 => match j with
    | 0 => 0
    | 1 => 3
    | 2 => 3
    | 3 => 0
    | 4 => 0
    | 5 => 0
    | 6 => 0
    | 7 => 4
    | 8 => 4
    | 9 => 4
    | 10 => 4
    | 11 => 4
    | 12 => 4
    | _ => 4
  | 7 => match j with
    | 0 => 4
    | 1 => 0
    | 2 => 0
    | _ => 4
  | 8 => match j with
    | 0 => 0
    | 1 => 0
    | 2 => 4
    | 3 => 4
    | _ => 4
  | 9 => match j with
    | 0 => 4
    | 1 => 0
    | 2 => 4
    | 3 => 4
    | 4 => 4
    | _ => 4
  | 10 => match j with
    | 0 => 4
    | 1 => 0
    | _ => 4
  | 11 => match j with
    | 0 => 4
    | 1 => 4
    | 2 => 4
    | 3 => 4
    | 4 => 4
    | 5 => 0
    | 6 => 4
    | 7 => 3
    | 8 => 3
    | 9 => 0
    | 10 => 4
    | 11 => 4
    | 12 => 4
    | 13 => 4
    | 14 => 4
    | 15 => 4
    | _ => 4
  | 12 => match j with
    | 0 => 0
    | 1 => 4
    | 2 => 4
    | 3 => 4
    | 4 => 4
    | 5 => 4
    | 6 => 4
    | 7 => 0
    | 8 => 4
    | 9 => 0
    | 10 => 0
    | 11 => 0
    | 12 => 4
    | 13 => 4
    | 14 => 4
    | 15 => 4
    | 16 => 4
    | 17 => 4
    | 18 => 4
    | 19 => 1
    | 20 => 1
    | 21 => 0
    | 22 => 4
    | 23 => 0
    | 24 => 0
    | 25 => 0
    | 26 => 0
    | 27 => 0
    | 28 => 0
    | 29 => 0
    | 30 => 0
    | 31 => 0
    | 32 => 0
    | 33 => 4
    | 34 => 4
    | 35 => 4
    | 36 => 4
    | 37 => 4
    | 38 => 0
    | 39 => 0
    | 40 => 0
    | 41 => 0
    | 42 => 0
    | 43 => 0
    | 44 => 0
    | 45 => 4
    | 46 => 4
    | 47 => 4
    | 48 => 4
    | 49 => 0
    | 50 => 4
    | 51 => 4
    | 52 => 0
    | 53 => 4
    | 54 => 4
    | 55 => 4
    | 56 => 4
    | 57 => 4
    | 58 => 4
    | 59 => 4
    | 60 => 4
    | 61 => 4
    | 62 => 4
    | _ => 4
  | _ => 4

abbrev QA : Type := Nat × Nat × Nat
def adr (base b : Nat) (q : QA) (a : Nat) : Nat := if a = scrA then b else if a = strA then q.1 else if a = strV then q.2.1 else if a = strF then q.2.2 else base + a
theorem adr_own {base b a : Nat} {q : QA} (h : a < scrA) : adr base b q a = base + a := by
  unfold adr
  rw [if_neg (by omega), if_neg (by unfold scrA at h; unfold strA; omega), if_neg (by unfold scrA at h; unfold strV; omega), if_neg (by unfold scrA at h; unfold strF; omega)]
def cv (ad : Nat → Nat) (v : Value) : Value := match v with
  | .ref a => .ref (ad a)
  | .int x => .int x
  | .long x => .long x
  | .float x => .float x
  | .double x => .double x
  | .null => .null
  | .retAddr x => .retAddr x
theorem cv_cat (ad : Nat → Nat) (v : Value) : (cv ad v).category = v.category := by cases v <;> rfl
theorem cv_rv (ad : Nat → Nat) (o : Option Nat) : cv ad (rv o) = va_rf (o.map ad) := by cases o <;> rfl
def clv (ad : Nat → Nat) (l : List (Nat × Value)) : List (Nat × Value) := l.map (fun x => (x.1, cv ad x.2))
def cst (ad : Nat → Nat) (l : List Value) : List Value := l.map (cv ad)
theorem cst_nil (ad : Nat → Nat) : cst ad [] = [] := rfl
theorem cst_cons (ad : Nat → Nat) (v : Value) (l : List Value) : cst ad (v :: l) = cv ad v :: cst ad l := rfl
theorem cst_app (ad : Nat → Nat) (l k : List Value) : cst ad (l ++ k) = cst ad l ++ cst ad k := List.map_append
theorem cst_rev (ad : Nat → Nat) (l : List Value) : cst ad l.reverse = (cst ad l).reverse := List.map_reverse
theorem cst_len (ad : Nat → Nat) (l : List Value) : (cst ad l).length = l.length := List.length_map _
theorem cst_cat (ad : Nat → Nat) (l : List Value) : ((cst ad l).map fun v => v.category).sum = (l.map fun v => v.category).sum := by
  unfold cst
  rw [List.map_map]
  congr 1
  exact List.map_congr_left (fun v _ => cv_cat ad v)
def Cel (D : va_G) (ad : Nat → Nat) (cA : Nat → ClassId) (H : HP) (a : Nat) (Hm : Heap) : Prop :=
  (∀ (ci : Nat) (r : vw_C), tg H a = ci + 1 → vwCl[ci]? = some r → t_OB (ad a) (D.1 ci) r.2.2 (D.2 ci) Hm (fval kd ad H ci a)) ∧
  (4096 ≤ tg H a → Hm[ad a]? = some (vp_cell (cA a) (ln H a, aval ad H (tg H a) a)))
theorem tbG_good {ws : List Cond} (h : ∀ w ∈ ws, w ∈ tbG) : GoodIn tbG ws := fun w hw => ⟨h w hw, good_of_word (List.mem_filter.mp (h w hw)).2⟩
theorem tbG_lw {args : Array Value} {s : State} (h : ∀ w ∈ lw_tbl, w.before args s = true) : ∀ w ∈ tbG, w.before args s = true := fun w hw => h w (List.mem_filter.mp hw).1
def nestL : List (String × Nat × MethodName × String) := [("UnitProver", 11, ⟨"UnitProver$Tape", "<init>", "()V"⟩, "UnitProver"), ("UnitProver$Units", 21, ⟨"UnitProver$Unit", "<init>", "()V"⟩, "UnitProver"), ("UnitProver$Unit", 27, ⟨"UnitProver$Fraction", "<init>", "()V"⟩, "UnitProver"), ("UnitProver", 27, ⟨"UnitProver$Claims", "<init>", "()V"⟩, "UnitProver"), ("UnitProver$Claims", 43, ⟨"UnitProver$Fraction", "<init>", "()V"⟩, "UnitProver"), ("UnitProver", 40, ⟨"UnitProver$Definition", "<init>", "()V"⟩, "UnitProver"), ("UnitProver$Definition", 37, ⟨"UnitProver$Unit", "<init>", "()V"⟩, "UnitProver"), ("UnitProver$Proof", 39, ⟨"UnitProver$Fraction", "<init>", "()V"⟩, "UnitProver"), ("UnitProver$Proof", 44, ⟨"UnitProver$Step", "<init>", "()V"⟩, "UnitProver"), ("UnitProver$Step", 29, ⟨"UnitProver$Fraction", "<init>", "()V"⟩, "UnitProver"), ("UnitProver", 76, ⟨"UnitProver$Fraction", "<init>", "()V"⟩, "UnitProver"), ("UnitProver", 93, ⟨"UnitProver$Track", "<init>", "()V"⟩, "UnitProver"), ("UnitProver$Definition", 107, ⟨"UnitProver", "goesBeyond", "([II)Z"⟩, "UnitProver"), ("UnitProver$Unit", 39, ⟨"UnitProver", "equalRows", "([I[I)Z"⟩, "UnitProver"), ("UnitProver$Step", 131, ⟨"UnitProver", "goesBeyond", "([II)Z"⟩, "UnitProver"), ("UnitProver$Step", 179, ⟨"UnitProver", "equalRows", "([I[I)Z"⟩, "UnitProver")]
/-- the text constant, below the base, and words of the tables that are no 'good' words -/
def strOK (base : Nat) (q : QA) (s : State) (Hm : Heap) : Prop := vk_S 1 [5] [[109, 103, 115, 107, 97]] (fun _ => q.1) (fun _ => q.2.1) (fun x => base ≤ x) s Hm ∧ vk_R RX10 26 "mgska" q.1 s ∧ va_Z "java/lang/String" "COMPACT_STRINGS" "Z" (.int 1) (fun x => base ≤ x) s Hm ∧ (va_Z "jdk/internal/util/Preconditions" "SIOOBE_FORMATTER" "Ljava/util/function/BiFunction;" .null (fun x => base ≤ x) s Hm ∨ va_Z "jdk/internal/util/Preconditions" "SIOOBE_FORMATTER" "Ljava/util/function/BiFunction;" (.ref q.2.2) (fun x => base ≤ x) s Hm) ∧ (∀ x ∈ nestL, va_Nw (.methodLinkNest x.1 x.2.1 x.2.2.1 x.2.2.2) s) ∧ (∀ C ∈ [RX9, RX6, RX8, RX5], va_AO C s)
def Rep (D : va_G) (base b : Nat) (q : QA) (tys : List (ClassId × FieldType)) (cA : Nat → ClassId) (H : HP) (s : State) (Hm : Heap) : Prop :=
  va_K D vwCl tys s ∧ (∀ a, a < hN H → Cel D (adr base b q) cA H a Hm) ∧ Hm.size = base + hN H ∧ (∀ a, a < hN H → 4096 ≤ tg H a → ∃ t0 : Nat, tys[t0]? = some (cA a, aelt (tg H a))) ∧ (∀ a, tg H a ≠ 0 → a < hN H) ∧ hN H ≤ scrA ∧ va_X b (hX H).1 (hX H).2 s Hm ∧ b < base ∧ (hX H).1 ≤ 3072 ∧ strOK base q s Hm


abbrev MM : Type := MethodName × ByteArray × Nat × Option FieldType
def Cx (d : Nat) (M : MM) (p : Program) (R : Room) (s : State) (m : MethodId) (args : Array Value) (meth : Method) (c : Code) : Prop :=
  p.tables.exec = Jvm.exec ∧ c.code = M.2.1 ∧ c.maxLocals = M.2.2.1 ∧ meth.sig.returnType = M.2.2.2 ∧ s.vm.findClass M.1.cls = some m.cls ∧ meth.locks = false ∧ (M.1.name = "<init>" → meth.name = "<init>") ∧ (∀ w ∈ tbG, w.before args s = true) ∧ d ≤ R.frames ∧ 64 * d ≤ R.locals
/-- a return instruction, with what is returned on the stack -/
def RetOK (M : MM) (pc : Nat) (r : Option Value) : Prop := match r with
  | none => decode M.2.1 pc = .ok (.return_, 1) ∧ M.2.2.2 = none
  | some (.int x) => decode M.2.1 pc = .ok (.ireturn, 1) ∧ ∃ ty, M.2.2.2 = some ty ∧ narrow ty (.int x) = .int x
  | some (.long _) => decode M.2.1 pc = .ok (.lreturn, 1) ∧ M.2.2.2 = some .long
  | some (.float _) => decode M.2.1 pc = .ok (.freturn, 1) ∧ M.2.2.2 = some .float
  | some (.double _) => decode M.2.1 pc = .ok (.dreturn, 1) ∧ M.2.2.2 = some .double
  | some .null => decode M.2.1 pc = .ok (.areturn, 1) ∧ ∃ n, M.2.2.2 = some (.object n)
  | some (.ref _) => decode M.2.1 pc = .ok (.areturn, 1) ∧ ∃ n, M.2.2.2 = some (.object n)
  | some (.retAddr _) => False
/-- the walk at this frame ends in Z, if it does at every return instruction where Q holds -/
def WP (d : Nat) (M : MM) (ca sa pc : Nat) (ls : List (Nat × Value)) (st : List Value) (H : HP) (Q : HP → Option Value → Prop) : Prop :=
  ∀ ⦃p : Program⦄ ⦃l : Launch⦄ ⦃e : Env⦄ ⦃R : Room⦄ ⦃s : State⦄ ⦃m : MethodId⦄ ⦃args : Array Value⦄ ⦃below : List Frame⦄ ⦃meth : Method⦄ ⦃c : Code⦄ ⦃Hm : Heap⦄ ⦃locs : List Loc⦄ ⦃cells slots : Nat⦄ ⦃d0 : Drawn⦄ ⦃D : va_G⦄ ⦃base b : Nat⦄ ⦃q : QA⦄ ⦃tys : List (ClassId × FieldType)⦄ ⦃cA : Nat → ClassId⦄ ⦃lsm : Array Slot⦄ ⦃Z : State → Prop⦄,
    Cx d M p R s m args meth c → s.drawn.sameBut d0 lw_cs → Rep D base b q tys cA H s Hm → va_S (fun x => base ≤ x) s.heap Hm locs → base ≤ s.heap.size →
    cells + ca ≤ R.cells → slots + sa ≤ R.slots → lv_has lsm M.2.2.1 (clv (adr base b q) ls) →
    (∀ (pc' : Nat) (lsm' : Array Slot) (Hm' : Heap) (locs' : List Loc) (cells' slots' : Nat) (d0' : Drawn) (tys' : List (ClassId × FieldType)) (cA' : Nat → ClassId) (H' : HP) (r : Option Value),
      s.drawn.sameBut d0' lw_cs → Rep D base b q tys' cA' H' s Hm' → va_S (fun x => base ≤ x) s.heap Hm' locs' → cells' ≤ R.cells → slots' ≤ R.slots → Q H' r → RetOK M pc' (r.map (cv (adr base b q))) →
      W p l e R (s.setDrawn d0') m args below meth c Hm' locs' cells' slots' Z (F0 m pc' lsm' (r.map (cv (adr base b q))).toList)) →
    W p l e R (s.setDrawn d0) m args below meth c Hm locs cells slots Z (F0 m pc lsm (cst (adr base b q) st))
section RULES
variable {d : Nat} {M : MM} {ca sa pc : Nat} {ls ls' : List (Nat × Value)} {st : List Value} {H : HP} {Q : HP → Option Value → Prop}
theorem map_get {ad : Nat → Nat} {l : List (Nat × Value)} {k i : Nat} {v : Value} (h : l[k]? = some (i, v)) : (clv ad l)[k]? = some (i, cv ad v) := by
  unfold clv; rw [List.getElem?_map, h]; rfl
def st1 (l : List (Nat × Value)) (i : Nat) (v : Value) : List (Nat × Value) := (i, v) :: l.filter (fun q => !(q.1 == i) && !(q.1 + 1 == i && q.2.category == 2))
def st2 (l : List (Nat × Value)) (i : Nat) (v : Value) : List (Nat × Value) := (i, v) :: l.filter (fun q => !(q.1 == i) && (!(q.1 == i + 1) && !(q.1 + 1 == i && q.2.category == 2)))
theorem map_st1 {ad : Nat → Nat} {l l' : List (Nat × Value)} {i : Nat} {v : Value} (h : st1 l i v = l') : (i, cv ad v) :: (clv ad l).filter (fun q => !(q.1 == i) && !(q.1 + 1 == i && q.2.category == 2)) = clv ad l' := by
  subst h
  unfold st1 clv
  rw [List.map_cons, List.filter_map]
  congr 2
  congr 1
  funext x
  simp [cv_cat]
theorem map_st2 {ad : Nat → Nat} {l l' : List (Nat × Value)} {i : Nat} {v : Value} (h : st2 l i v = l') : (i, cv ad v) :: (clv ad l).filter (fun q => !(q.1 == i) && (!(q.1 == i + 1) && !(q.1 + 1 == i && q.2.category == 2))) = clv ad l' := by
  subst h
  unfold st2 clv
  rw [List.map_cons, List.filter_map]
  congr 2
  congr 1
  funext x
  simp [cv_cat]
/-- fewer locals, in any order -/
theorem wp_sub (ks : List Nat) (h : lv_pick ls ks = ls') (k : WP d M ca sa pc ls' st H Q) : WP d M ca sa pc ls st H Q := by
  intro p l e R s m args below meth c Hm locs cells slots d0 D base b q tys cA lsm Z hc hd0 hr hs hbs hcl hsl hl hz
  refine k hc hd0 hr hs hbs hcl hsl (lv_sub hl ks ?_) hz
  subst h
  unfold lv_pick clv
  rw [List.map_filterMap]
  congr 1
  funext x
  rw [List.getElem?_map]
theorem wp_sub' (h : ∀ x ∈ ls', x ∈ ls) (k : WP d M ca sa pc ls' st H Q) : WP d M ca sa pc ls st H Q := by
  intro p l e R s m args below meth c Hm locs cells slots d0 D base b q tys cA lsm Z hc hd0 hr hs hbs hcl hsl hl hz
  refine k hc hd0 hr hs hbs hcl hsl ⟨hl.1, hl.2.1, fun x hx => ?_⟩ hz
  obtain ⟨y, hy, rfl⟩ := List.mem_map.mp hx
  exact hl.2.2 _ (List.mem_map.mpr ⟨y, h y hy, rfl⟩)
theorem WP.weaken {Q' : HP → Option Value → Prop} (k : WP d M ca sa pc ls st H Q) (h : ∀ H' r, Q H' r → Q' H' r) : WP d M ca sa pc ls st H Q' := by
  intro p l e R s m args below meth c Hm locs cells slots d0 D base b q tys cA lsm Z hc hd0 hr hs hbs hcl hsl hl hz
  exact k hc hd0 hr hs hbs hcl hsl hl (fun pc' lsm' Hm' locs' cells' slots' d0' tys' cA' H' r a1 a2 a3 a4 a5 a6 a7 => hz pc' lsm' Hm' locs' cells' slots' d0' tys' cA' H' r a1 a2 a3 a4 a5 (h _ _ a6) a7)
theorem wp_return (hd : decode M.2.1 pc = .ok (.return_, 1)) (hr : M.2.2.2 = none) (k : Q H none) : WP d M ca sa pc ls [] H Q := by
  intro p l e R s m args below meth c Hm locs cells slots d0 D base b q tys cA lsm Z hc hd0 hr' hs hbs hcl hsl hl hz
  exact hz pc lsm Hm locs cells slots d0 tys cA H none hd0 hr' hs (by omega) (by omega) k ⟨hd, hr⟩
theorem wp_ireturn {x : Int32} {ty : FieldType} (hd : decode M.2.1 pc = .ok (.ireturn, 1)) (hr : M.2.2.2 = some ty) (hn : narrow ty (.int x) = .int x) (k : Q H (some (.int x))) : WP d M ca sa pc ls [.int x] H Q := by
  intro p l e R s m args below meth c Hm locs cells slots d0 D base b q tys cA lsm Z hc hd0 hr' hs hbs hcl hsl hl hz
  exact hz pc lsm Hm locs cells slots d0 tys cA H (some (.int x)) hd0 hr' hs (by omega) (by omega) k ⟨hd, ty, hr, hn⟩
theorem wp_lreturn {x : Int64} (hd : decode M.2.1 pc = .ok (.lreturn, 1)) (hr : M.2.2.2 = some .long) (k : Q H (some (.long x))) : WP d M ca sa pc ls [.long x] H Q := by
  intro p l e R s m args below meth c Hm locs cells slots d0 D base b q tys cA lsm Z hc hd0 hr' hs hbs hcl hsl hl hz
  exact hz pc lsm Hm locs cells slots d0 tys cA H (some (.long x)) hd0 hr' hs (by omega) (by omega) k ⟨hd, hr⟩
theorem wp_freturn {x : UInt32} (hd : decode M.2.1 pc = .ok (.freturn, 1)) (hr : M.2.2.2 = some .float) (k : Q H (some (.float x))) : WP d M ca sa pc ls [.float x] H Q := by
  intro p l e R s m args below meth c Hm locs cells slots d0 D base b q tys cA lsm Z hc hd0 hr' hs hbs hcl hsl hl hz
  exact hz pc lsm Hm locs cells slots d0 tys cA H (some (.float x)) hd0 hr' hs (by omega) (by omega) k ⟨hd, hr⟩
theorem wp_dreturn {x : UInt64} (hd : decode M.2.1 pc = .ok (.dreturn, 1)) (hr : M.2.2.2 = some .double) (k : Q H (some (.double x))) : WP d M ca sa pc ls [.double x] H Q := by
  intro p l e R s m args below meth c Hm locs cells slots d0 D base b q tys cA lsm Z hc hd0 hr' hs hbs hcl hsl hl hz
  exact hz pc lsm Hm locs cells slots d0 tys cA H (some (.double x)) hd0 hr' hs (by omega) (by omega) k ⟨hd, hr⟩
theorem wp_areturn {o : Option Nat} {n : String} (hd : decode M.2.1 pc = .ok (.areturn, 1)) (hr : M.2.2.2 = some (.object n)) (k : Q H (some (rv o))) : WP d M ca sa pc ls [rv o] H Q := by
  intro p l e R s m args below meth c Hm locs cells slots d0 D base b q tys cA lsm Z hc hd0 hr' hs hbs hcl hsl hl hz
  exact hz pc lsm Hm locs cells slots d0 tys cA H (some (rv o)) hd0 hr' hs (by omega) (by omega) k (by cases o <;> exact ⟨hd, n, hr⟩)

theorem wp_iconst {n : Int} {v : Int32} (hd : decode M.2.1 pc = .ok (.iconst n, 1)) (hv : Int32.ofInt n = v) (k : WP d M ca sa (pc + 1) ls (.int v :: st) H Q) : WP d M ca sa pc ls (st) H Q := by
  intro p l e R s m args below meth c Hm locs cells slots d0 D base b q tys cA lsm Z hc hd0 hr hs hbs hcl hsl hl hz
  refine lv_iconst hc.1 hc.2.1 hd hv ?_
  exact k hc hd0 hr hs hbs hcl hsl hl hz
theorem wp_bipush {n : Int} {v : Int32} (hd : decode M.2.1 pc = .ok (.bipush n, 2)) (hv : (Int8.ofInt n).toInt32 = v) (k : WP d M ca sa (pc + 2) ls (.int v :: st) H Q) : WP d M ca sa pc ls (st) H Q := by
  intro p l e R s m args below meth c Hm locs cells slots d0 D base b q tys cA lsm Z hc hd0 hr hs hbs hcl hsl hl hz
  refine lv_bipush hc.1 hc.2.1 hd hv ?_
  exact k hc hd0 hr hs hbs hcl hsl hl hz
theorem wp_sipush {n : Int} {v : Int32} (hd : decode M.2.1 pc = .ok (.sipush n, 3)) (hv : (Int16.ofInt n).toInt32 = v) (k : WP d M ca sa (pc + 3) ls (.int v :: st) H Q) : WP d M ca sa pc ls (st) H Q := by
  intro p l e R s m args below meth c Hm locs cells slots d0 D base b q tys cA lsm Z hc hd0 hr hs hbs hcl hsl hl hz
  refine lv_sipush hc.1 hc.2.1 hd hv ?_
  exact k hc hd0 hr hs hbs hcl hsl hl hz
theorem wp_lconst {n : Fin 2} {v : Int64} (hd : decode M.2.1 pc = .ok (.lconst n, 1)) (hv : Int64.ofNat (n : Nat) = v) (k : WP d M ca sa (pc + 1) ls (.long v :: st) H Q) : WP d M ca sa pc ls (st) H Q := by
  intro p l e R s m args below meth c Hm locs cells slots d0 D base b q tys cA lsm Z hc hd0 hr hs hbs hcl hsl hl hz
  refine lv_lconst hc.1 hc.2.1 hd hv ?_
  exact k hc hd0 hr hs hbs hcl hsl hl hz
theorem wp_fconst0 (hd : decode M.2.1 pc = .ok (.fconst 0, 1)) (k : WP d M ca sa (pc + 1) ls (.float FP.fconst0 :: st) H Q) : WP d M ca sa pc ls (st) H Q := by
  intro p l e R s m args below meth c Hm locs cells slots d0 D base b q tys cA lsm Z hc hd0 hr hs hbs hcl hsl hl hz
  refine lv_fconst0 hc.1 hc.2.1 hd ?_
  exact k hc hd0 hr hs hbs hcl hsl hl hz
theorem wp_fconst1 (hd : decode M.2.1 pc = .ok (.fconst 1, 1)) (k : WP d M ca sa (pc + 1) ls (.float FP.fconst1 :: st) H Q) : WP d M ca sa pc ls (st) H Q := by
  intro p l e R s m args below meth c Hm locs cells slots d0 D base b q tys cA lsm Z hc hd0 hr hs hbs hcl hsl hl hz
  refine lv_fconst1 hc.1 hc.2.1 hd ?_
  exact k hc hd0 hr hs hbs hcl hsl hl hz
theorem wp_fconst2 (hd : decode M.2.1 pc = .ok (.fconst 2, 1)) (k : WP d M ca sa (pc + 1) ls (.float FP.fconst2 :: st) H Q) : WP d M ca sa pc ls (st) H Q := by
  intro p l e R s m args below meth c Hm locs cells slots d0 D base b q tys cA lsm Z hc hd0 hr hs hbs hcl hsl hl hz
  refine lv_fconst2 hc.1 hc.2.1 hd ?_
  exact k hc hd0 hr hs hbs hcl hsl hl hz
theorem wp_dconst0 (hd : decode M.2.1 pc = .ok (.dconst 0, 1)) (k : WP d M ca sa (pc + 1) ls (.double FP.dconst0 :: st) H Q) : WP d M ca sa pc ls (st) H Q := by
  intro p l e R s m args below meth c Hm locs cells slots d0 D base b q tys cA lsm Z hc hd0 hr hs hbs hcl hsl hl hz
  refine lv_dconst0 hc.1 hc.2.1 hd ?_
  exact k hc hd0 hr hs hbs hcl hsl hl hz
theorem wp_dconst1 (hd : decode M.2.1 pc = .ok (.dconst 1, 1)) (k : WP d M ca sa (pc + 1) ls (.double FP.dconst1 :: st) H Q) : WP d M ca sa pc ls (st) H Q := by
  intro p l e R s m args below meth c Hm locs cells slots d0 D base b q tys cA lsm Z hc hd0 hr hs hbs hcl hsl hl hz
  refine lv_dconst1 hc.1 hc.2.1 hd ?_
  exact k hc hd0 hr hs hbs hcl hsl hl hz
theorem wp_null (hd : decode M.2.1 pc = .ok (.aconst_null, 1)) (k : WP d M ca sa (pc + 1) ls (rv none :: st) H Q) : WP d M ca sa pc ls (st) H Q := by
  intro p l e R s m args below meth c Hm locs cells slots d0 D base b q tys cA lsm Z hc hd0 hr hs hbs hcl hsl hl hz
  refine lv_null hc.1 hc.2.1 hd ?_
  exact k hc hd0 hr hs hbs hcl hsl hl hz
theorem wp_iadd {x y : Int32} (hd : decode M.2.1 pc = .ok (.iadd, 1)) (k : WP d M ca sa (pc + 1) ls (.int (x + y) :: st) H Q) : WP d M ca sa pc ls (.int y :: .int x :: st) H Q := by
  intro p l e R s m args below meth c Hm locs cells slots d0 D base b q tys cA lsm Z hc hd0 hr hs hbs hcl hsl hl hz
  refine lv_iadd hc.1 hc.2.1 hd ?_
  exact k hc hd0 hr hs hbs hcl hsl hl hz
theorem wp_isub {x y : Int32} (hd : decode M.2.1 pc = .ok (.isub, 1)) (k : WP d M ca sa (pc + 1) ls (.int (x - y) :: st) H Q) : WP d M ca sa pc ls (.int y :: .int x :: st) H Q := by
  intro p l e R s m args below meth c Hm locs cells slots d0 D base b q tys cA lsm Z hc hd0 hr hs hbs hcl hsl hl hz
  refine lv_isub hc.1 hc.2.1 hd ?_
  exact k hc hd0 hr hs hbs hcl hsl hl hz
theorem wp_imul {x y : Int32} (hd : decode M.2.1 pc = .ok (.imul, 1)) (k : WP d M ca sa (pc + 1) ls (.int (x * y) :: st) H Q) : WP d M ca sa pc ls (.int y :: .int x :: st) H Q := by
  intro p l e R s m args below meth c Hm locs cells slots d0 D base b q tys cA lsm Z hc hd0 hr hs hbs hcl hsl hl hz
  refine lv_imul hc.1 hc.2.1 hd ?_
  exact k hc hd0 hr hs hbs hcl hsl hl hz
theorem wp_iand {x y : Int32} (hd : decode M.2.1 pc = .ok (.iand, 1)) (k : WP d M ca sa (pc + 1) ls (.int (x &&& y) :: st) H Q) : WP d M ca sa pc ls (.int y :: .int x :: st) H Q := by
  intro p l e R s m args below meth c Hm locs cells slots d0 D base b q tys cA lsm Z hc hd0 hr hs hbs hcl hsl hl hz
  refine lv_iand hc.1 hc.2.1 hd ?_
  exact k hc hd0 hr hs hbs hcl hsl hl hz
theorem wp_ior {x y : Int32} (hd : decode M.2.1 pc = .ok (.ior, 1)) (k : WP d M ca sa (pc + 1) ls (.int (x ||| y) :: st) H Q) : WP d M ca sa pc ls (.int y :: .int x :: st) H Q := by
  intro p l e R s m args below meth c Hm locs cells slots d0 D base b q tys cA lsm Z hc hd0 hr hs hbs hcl hsl hl hz
  refine lv_ior hc.1 hc.2.1 hd ?_
  exact k hc hd0 hr hs hbs hcl hsl hl hz
theorem wp_ixor {x y : Int32} (hd : decode M.2.1 pc = .ok (.ixor, 1)) (k : WP d M ca sa (pc + 1) ls (.int (x ^^^ y) :: st) H Q) : WP d M ca sa pc ls (.int y :: .int x :: st) H Q := by
  intro p l e R s m args below meth c Hm locs cells slots d0 D base b q tys cA lsm Z hc hd0 hr hs hbs hcl hsl hl hz
  refine lv_ixor hc.1 hc.2.1 hd ?_
  exact k hc hd0 hr hs hbs hcl hsl hl hz
theorem wp_ishl {x y : Int32} (hd : decode M.2.1 pc = .ok (.ishl, 1)) (k : WP d M ca sa (pc + 1) ls (.int (x <<< (y &&& 31)) :: st) H Q) : WP d M ca sa pc ls (.int y :: .int x :: st) H Q := by
  intro p l e R s m args below meth c Hm locs cells slots d0 D base b q tys cA lsm Z hc hd0 hr hs hbs hcl hsl hl hz
  refine lv_ishl hc.1 hc.2.1 hd ?_
  exact k hc hd0 hr hs hbs hcl hsl hl hz
theorem wp_ishr {x y : Int32} (hd : decode M.2.1 pc = .ok (.ishr, 1)) (k : WP d M ca sa (pc + 1) ls (.int (x >>> (y &&& 31)) :: st) H Q) : WP d M ca sa pc ls (.int y :: .int x :: st) H Q := by
  intro p l e R s m args below meth c Hm locs cells slots d0 D base b q tys cA lsm Z hc hd0 hr hs hbs hcl hsl hl hz
  refine lv_ishr hc.1 hc.2.1 hd ?_
  exact k hc hd0 hr hs hbs hcl hsl hl hz
theorem wp_idiv {x y : Int32} (hd : decode M.2.1 pc = .ok (.idiv, 1)) (hne : ¬ y = 0) (k : WP d M ca sa (pc + 1) ls (.int (x / y) :: st) H Q) : WP d M ca sa pc ls (.int y :: .int x :: st) H Q := by
  intro p l e R s m args below meth c Hm locs cells slots d0 D base b q tys cA lsm Z hc hd0 hr hs hbs hcl hsl hl hz
  refine lv_idiv hc.1 hc.2.1 hd hne ?_
  exact k hc hd0 hr hs hbs hcl hsl hl hz
theorem wp_irem {x y : Int32} (hd : decode M.2.1 pc = .ok (.irem, 1)) (hne : ¬ y = 0) (k : WP d M ca sa (pc + 1) ls (.int (x - x / y * y) :: st) H Q) : WP d M ca sa pc ls (.int y :: .int x :: st) H Q := by
  intro p l e R s m args below meth c Hm locs cells slots d0 D base b q tys cA lsm Z hc hd0 hr hs hbs hcl hsl hl hz
  refine lv_irem hc.1 hc.2.1 hd hne ?_
  exact k hc hd0 hr hs hbs hcl hsl hl hz
theorem wp_ineg {x : Int32} (hd : decode M.2.1 pc = .ok (.ineg, 1)) (k : WP d M ca sa (pc + 1) ls (.int (-x) :: st) H Q) : WP d M ca sa pc ls (.int x :: st) H Q := by
  intro p l e R s m args below meth c Hm locs cells slots d0 D base b q tys cA lsm Z hc hd0 hr hs hbs hcl hsl hl hz
  refine lv_ineg hc.1 hc.2.1 hd ?_
  exact k hc hd0 hr hs hbs hcl hsl hl hz
theorem wp_ladd {x y : Int64} (hd : decode M.2.1 pc = .ok (.ladd, 1)) (k : WP d M ca sa (pc + 1) ls (.long (x + y) :: st) H Q) : WP d M ca sa pc ls (.long y :: .long x :: st) H Q := by
  intro p l e R s m args below meth c Hm locs cells slots d0 D base b q tys cA lsm Z hc hd0 hr hs hbs hcl hsl hl hz
  refine lv_ladd hc.1 hc.2.1 hd ?_
  exact k hc hd0 hr hs hbs hcl hsl hl hz
theorem wp_lsub {x y : Int64} (hd : decode M.2.1 pc = .ok (.lsub, 1)) (k : WP d M ca sa (pc + 1) ls (.long (x - y) :: st) H Q) : WP d M ca sa pc ls (.long y :: .long x :: st) H Q := by
  intro p l e R s m args below meth c Hm locs cells slots d0 D base b q tys cA lsm Z hc hd0 hr hs hbs hcl hsl hl hz
  refine lv_lsub hc.1 hc.2.1 hd ?_
  exact k hc hd0 hr hs hbs hcl hsl hl hz
theorem wp_lmul {x y : Int64} (hd : decode M.2.1 pc = .ok (.lmul, 1)) (k : WP d M ca sa (pc + 1) ls (.long (x * y) :: st) H Q) : WP d M ca sa pc ls (.long y :: .long x :: st) H Q := by
  intro p l e R s m args below meth c Hm locs cells slots d0 D base b q tys cA lsm Z hc hd0 hr hs hbs hcl hsl hl hz
  refine lv_lmul hc.1 hc.2.1 hd ?_
  exact k hc hd0 hr hs hbs hcl hsl hl hz
theorem wp_land {x y : Int64} (hd : decode M.2.1 pc = .ok (.land, 1)) (k : WP d M ca sa (pc + 1) ls (.long (x &&& y) :: st) H Q) : WP d M ca sa pc ls (.long y :: .long x :: st) H Q := by
  intro p l e R s m args below meth c Hm locs cells slots d0 D base b q tys cA lsm Z hc hd0 hr hs hbs hcl hsl hl hz
  refine lv_land hc.1 hc.2.1 hd ?_
  exact k hc hd0 hr hs hbs hcl hsl hl hz
theorem wp_lor {x y : Int64} (hd : decode M.2.1 pc = .ok (.lor, 1)) (k : WP d M ca sa (pc + 1) ls (.long (x ||| y) :: st) H Q) : WP d M ca sa pc ls (.long y :: .long x :: st) H Q := by
  intro p l e R s m args below meth c Hm locs cells slots d0 D base b q tys cA lsm Z hc hd0 hr hs hbs hcl hsl hl hz
  refine lv_lor hc.1 hc.2.1 hd ?_
  exact k hc hd0 hr hs hbs hcl hsl hl hz
theorem wp_lxor {x y : Int64} (hd : decode M.2.1 pc = .ok (.lxor, 1)) (k : WP d M ca sa (pc + 1) ls (.long (x ^^^ y) :: st) H Q) : WP d M ca sa pc ls (.long y :: .long x :: st) H Q := by
  intro p l e R s m args below meth c Hm locs cells slots d0 D base b q tys cA lsm Z hc hd0 hr hs hbs hcl hsl hl hz
  refine lv_lxor hc.1 hc.2.1 hd ?_
  exact k hc hd0 hr hs hbs hcl hsl hl hz
theorem wp_ldiv {x y : Int64} (hd : decode M.2.1 pc = .ok (.ldiv, 1)) (hne : ¬ y = 0) (k : WP d M ca sa (pc + 1) ls (.long (x / y) :: st) H Q) : WP d M ca sa pc ls (.long y :: .long x :: st) H Q := by
  intro p l e R s m args below meth c Hm locs cells slots d0 D base b q tys cA lsm Z hc hd0 hr hs hbs hcl hsl hl hz
  refine lv_ldiv hc.1 hc.2.1 hd hne ?_
  exact k hc hd0 hr hs hbs hcl hsl hl hz
theorem wp_lrem {x y : Int64} (hd : decode M.2.1 pc = .ok (.lrem, 1)) (hne : ¬ y = 0) (k : WP d M ca sa (pc + 1) ls (.long (x - x / y * y) :: st) H Q) : WP d M ca sa pc ls (.long y :: .long x :: st) H Q := by
  intro p l e R s m args below meth c Hm locs cells slots d0 D base b q tys cA lsm Z hc hd0 hr hs hbs hcl hsl hl hz
  refine lv_lrem hc.1 hc.2.1 hd hne ?_
  exact k hc hd0 hr hs hbs hcl hsl hl hz
theorem wp_lneg {x : Int64} (hd : decode M.2.1 pc = .ok (.lneg, 1)) (k : WP d M ca sa (pc + 1) ls (.long (-x) :: st) H Q) : WP d M ca sa pc ls (.long x :: st) H Q := by
  intro p l e R s m args below meth c Hm locs cells slots d0 D base b q tys cA lsm Z hc hd0 hr hs hbs hcl hsl hl hz
  refine lv_lneg hc.1 hc.2.1 hd ?_
  exact k hc hd0 hr hs hbs hcl hsl hl hz
theorem wp_lcmp {x y : Int64} (hd : decode M.2.1 pc = .ok (.lcmp, 1)) (k : WP d M ca sa (pc + 1) ls (.int (lg_cmp x y) :: st) H Q) : WP d M ca sa pc ls (.long y :: .long x :: st) H Q := by
  intro p l e R s m args below meth c Hm locs cells slots d0 D base b q tys cA lsm Z hc hd0 hr hs hbs hcl hsl hl hz
  refine W.lcmp hc.1 hc.2.1 hd ?_
  exact k hc hd0 hr hs hbs hcl hsl hl hz
theorem wp_i2l {x : Int32} (hd : decode M.2.1 pc = .ok (.i2l, 1)) (k : WP d M ca sa (pc + 1) ls (.long x.toInt64 :: st) H Q) : WP d M ca sa pc ls (.int x :: st) H Q := by
  intro p l e R s m args below meth c Hm locs cells slots d0 D base b q tys cA lsm Z hc hd0 hr hs hbs hcl hsl hl hz
  refine lv_i2l hc.1 hc.2.1 hd rfl ?_
  exact k hc hd0 hr hs hbs hcl hsl hl hz
theorem wp_l2i {x : Int64} (hd : decode M.2.1 pc = .ok (.l2i, 1)) (k : WP d M ca sa (pc + 1) ls (.int x.toInt32 :: st) H Q) : WP d M ca sa pc ls (.long x :: st) H Q := by
  intro p l e R s m args below meth c Hm locs cells slots d0 D base b q tys cA lsm Z hc hd0 hr hs hbs hcl hsl hl hz
  refine lv_l2i hc.1 hc.2.1 hd rfl ?_
  exact k hc hd0 hr hs hbs hcl hsl hl hz
theorem wp_i2b {x : Int32} (hd : decode M.2.1 pc = .ok (.i2b, 1)) (k : WP d M ca sa (pc + 1) ls (.int x.toInt8.toInt32 :: st) H Q) : WP d M ca sa pc ls (.int x :: st) H Q := by
  intro p l e R s m args below meth c Hm locs cells slots d0 D base b q tys cA lsm Z hc hd0 hr hs hbs hcl hsl hl hz
  refine lv_i2b hc.1 hc.2.1 hd rfl ?_
  exact k hc hd0 hr hs hbs hcl hsl hl hz
theorem wp_i2s {x : Int32} (hd : decode M.2.1 pc = .ok (.i2s, 1)) (k : WP d M ca sa (pc + 1) ls (.int x.toInt16.toInt32 :: st) H Q) : WP d M ca sa pc ls (.int x :: st) H Q := by
  intro p l e R s m args below meth c Hm locs cells slots d0 D base b q tys cA lsm Z hc hd0 hr hs hbs hcl hsl hl hz
  refine lv_i2s hc.1 hc.2.1 hd rfl ?_
  exact k hc hd0 hr hs hbs hcl hsl hl hz
theorem wp_i2c {x : Int32} (hd : decode M.2.1 pc = .ok (.i2c, 1)) (k : WP d M ca sa (pc + 1) ls (.int (x.toUInt32 % 65536).toInt32 :: st) H Q) : WP d M ca sa pc ls (.int x :: st) H Q := by
  intro p l e R s m args below meth c Hm locs cells slots d0 D base b q tys cA lsm Z hc hd0 hr hs hbs hcl hsl hl hz
  refine lv_i2c hc.1 hc.2.1 hd rfl ?_
  exact k hc hd0 hr hs hbs hcl hsl hl hz
theorem wp_lushr {x : Int64} {y : Int32} (hd : decode M.2.1 pc = .ok (.lushr, 1)) (k : WP d M ca sa (pc + 1) ls (.long (x.toUInt64 >>> (y.toInt64.toUInt64 &&& Int64.toUInt64 63)).toInt64 :: st) H Q) : WP d M ca sa pc ls (.int y :: .long x :: st) H Q := by
  intro p l e R s m args below meth c Hm locs cells slots d0 D base b q tys cA lsm Z hc hd0 hr hs hbs hcl hsl hl hz
  refine lv_lushr hc.1 hc.2.1 hd rfl ?_
  exact k hc hd0 hr hs hbs hcl hsl hl hz
theorem wp_lshl {x : Int64} {y : Int32} (hd : decode M.2.1 pc = .ok (.lshl, 1)) (k : WP d M ca sa (pc + 1) ls (.long (x <<< (y.toInt64 &&& 63)) :: st) H Q) : WP d M ca sa pc ls (.int y :: .long x :: st) H Q := by
  intro p l e R s m args below meth c Hm locs cells slots d0 D base b q tys cA lsm Z hc hd0 hr hs hbs hcl hsl hl hz
  refine lv_lshl hc.1 hc.2.1 hd rfl ?_
  exact k hc hd0 hr hs hbs hcl hsl hl hz
theorem wp_lshr {x : Int64} {y : Int32} (hd : decode M.2.1 pc = .ok (.lshr, 1)) (k : WP d M ca sa (pc + 1) ls (.long (x >>> (y.toInt64 &&& 63)) :: st) H Q) : WP d M ca sa pc ls (.int y :: .long x :: st) H Q := by
  intro p l e R s m args below meth c Hm locs cells slots d0 D base b q tys cA lsm Z hc hd0 hr hs hbs hcl hsl hl hz
  refine lv_lshr hc.1 hc.2.1 hd rfl ?_
  exact k hc hd0 hr hs hbs hcl hsl hl hz
theorem wp_fcmp {x y : UInt32} {op : CmpOp} (hd : decode M.2.1 pc = .ok (.fcmp op, 1)) (k : WP d M ca sa (pc + 1) ls (.int (Op.cmpValue (FP.fcmp x y) op) :: st) H Q) : WP d M ca sa pc ls (.float y :: .float x :: st) H Q := by
  intro p l e R s m args below meth c Hm locs cells slots d0 D base b q tys cA lsm Z hc hd0 hr hs hbs hcl hsl hl hz
  refine lv_fcmp hc.1 hc.2.1 hd ?_
  exact k hc hd0 hr hs hbs hcl hsl hl hz
theorem wp_dcmp {x y : UInt64} {op : CmpOp} (hd : decode M.2.1 pc = .ok (.dcmp op, 1)) (k : WP d M ca sa (pc + 1) ls (.int (Op.cmpValue (FP.dcmp x y) op) :: st) H Q) : WP d M ca sa pc ls (.double y :: .double x :: st) H Q := by
  intro p l e R s m args below meth c Hm locs cells slots d0 D base b q tys cA lsm Z hc hd0 hr hs hbs hcl hsl hl hz
  refine lv_dcmp hc.1 hc.2.1 hd ?_
  exact k hc hd0 hr hs hbs hcl hsl hl hz
theorem wp_i2f {x : Int32} (hd : decode M.2.1 pc = .ok (.i2f, 1)) (k : WP d M ca sa (pc + 1) ls (.float (FP.i2f x) :: st) H Q) : WP d M ca sa pc ls (.int x :: st) H Q := by
  intro p l e R s m args below meth c Hm locs cells slots d0 D base b q tys cA lsm Z hc hd0 hr hs hbs hcl hsl hl hz
  refine lv_i2f hc.1 hc.2.1 hd ?_
  exact k hc hd0 hr hs hbs hcl hsl hl hz
theorem wp_l2f {x : Int64} (hd : decode M.2.1 pc = .ok (.l2f, 1)) (k : WP d M ca sa (pc + 1) ls (.float (FP.l2f x) :: st) H Q) : WP d M ca sa pc ls (.long x :: st) H Q := by
  intro p l e R s m args below meth c Hm locs cells slots d0 D base b q tys cA lsm Z hc hd0 hr hs hbs hcl hsl hl hz
  refine lv_l2f hc.1 hc.2.1 hd ?_
  exact k hc hd0 hr hs hbs hcl hsl hl hz
theorem wp_f2i {x : UInt32} (hd : decode M.2.1 pc = .ok (.f2i, 1)) (k : WP d M ca sa (pc + 1) ls (.int (FP.f2i x) :: st) H Q) : WP d M ca sa pc ls (.float x :: st) H Q := by
  intro p l e R s m args below meth c Hm locs cells slots d0 D base b q tys cA lsm Z hc hd0 hr hs hbs hcl hsl hl hz
  refine lv_f2i hc.1 hc.2.1 hd ?_
  exact k hc hd0 hr hs hbs hcl hsl hl hz
theorem wp_f2l {x : UInt32} (hd : decode M.2.1 pc = .ok (.f2l, 1)) (k : WP d M ca sa (pc + 1) ls (.long (FP.f2l x) :: st) H Q) : WP d M ca sa pc ls (.float x :: st) H Q := by
  intro p l e R s m args below meth c Hm locs cells slots d0 D base b q tys cA lsm Z hc hd0 hr hs hbs hcl hsl hl hz
  refine lv_f2l hc.1 hc.2.1 hd ?_
  exact k hc hd0 hr hs hbs hcl hsl hl hz
theorem wp_i2d {x : Int32} (hd : decode M.2.1 pc = .ok (.i2d, 1)) (k : WP d M ca sa (pc + 1) ls (.double (FP.i2d x) :: st) H Q) : WP d M ca sa pc ls (.int x :: st) H Q := by
  intro p l e R s m args below meth c Hm locs cells slots d0 D base b q tys cA lsm Z hc hd0 hr hs hbs hcl hsl hl hz
  refine lv_i2d hc.1 hc.2.1 hd ?_
  exact k hc hd0 hr hs hbs hcl hsl hl hz
theorem wp_l2d {x : Int64} (hd : decode M.2.1 pc = .ok (.l2d, 1)) (k : WP d M ca sa (pc + 1) ls (.double (FP.l2d x) :: st) H Q) : WP d M ca sa pc ls (.long x :: st) H Q := by
  intro p l e R s m args below meth c Hm locs cells slots d0 D base b q tys cA lsm Z hc hd0 hr hs hbs hcl hsl hl hz
  refine lv_l2d hc.1 hc.2.1 hd ?_
  exact k hc hd0 hr hs hbs hcl hsl hl hz
theorem wp_d2i {x : UInt64} (hd : decode M.2.1 pc = .ok (.d2i, 1)) (k : WP d M ca sa (pc + 1) ls (.int (FP.d2i x) :: st) H Q) : WP d M ca sa pc ls (.double x :: st) H Q := by
  intro p l e R s m args below meth c Hm locs cells slots d0 D base b q tys cA lsm Z hc hd0 hr hs hbs hcl hsl hl hz
  refine lv_d2i hc.1 hc.2.1 hd ?_
  exact k hc hd0 hr hs hbs hcl hsl hl hz
theorem wp_d2l {x : UInt64} (hd : decode M.2.1 pc = .ok (.d2l, 1)) (k : WP d M ca sa (pc + 1) ls (.long (FP.d2l x) :: st) H Q) : WP d M ca sa pc ls (.double x :: st) H Q := by
  intro p l e R s m args below meth c Hm locs cells slots d0 D base b q tys cA lsm Z hc hd0 hr hs hbs hcl hsl hl hz
  refine lv_d2l hc.1 hc.2.1 hd ?_
  exact k hc hd0 hr hs hbs hcl hsl hl hz
theorem wp_dneg {x : UInt64} (hd : decode M.2.1 pc = .ok (.dneg, 1)) (k : WP d M ca sa (pc + 1) ls (.double (FP.dneg x) :: st) H Q) : WP d M ca sa pc ls (.double x :: st) H Q := by
  intro p l e R s m args below meth c Hm locs cells slots d0 D base b q tys cA lsm Z hc hd0 hr hs hbs hcl hsl hl hz
  refine lv_dneg hc.1 hc.2.1 hd ?_
  exact k hc hd0 hr hs hbs hcl hsl hl hz
theorem wp_fneg {x : UInt32} (hd : decode M.2.1 pc = .ok (.fneg, 1)) (k : WP d M ca sa (pc + 1) ls (.float (FP.fneg x) :: st) H Q) : WP d M ca sa pc ls (.float x :: st) H Q := by
  intro p l e R s m args below meth c Hm locs cells slots d0 D base b q tys cA lsm Z hc hd0 hr hs hbs hcl hsl hl hz
  refine lv_fneg hc.1 hc.2.1 hd ?_
  exact k hc hd0 hr hs hbs hcl hsl hl hz
theorem wp_fadd {x y : UInt32} (hd : decode M.2.1 pc = .ok (.fadd, 1)) (k : ∀ r : UInt32, alike32 r (FP.fadd x y) = true → WP d M ca sa (pc + 1) ls (.float r :: st) H Q) : WP d M ca sa pc ls (.float y :: .float x :: st) H Q := by
  intro p l e R s m args below meth c Hm locs cells slots d0 D base b q tys cA lsm Z hc hd0 hr hs hbs hcl hsl hl hz
  refine lv_fadd_any hd0 lw_bits hc.1 hc.2.1 hd (fun r d1 hal hd1 => ?_)
  exact k r hal hc hd1 hr hs hbs hcl hsl hl hz
theorem wp_fsub {x y : UInt32} (hd : decode M.2.1 pc = .ok (.fsub, 1)) (k : ∀ r : UInt32, alike32 r (FP.fsub x y) = true → WP d M ca sa (pc + 1) ls (.float r :: st) H Q) : WP d M ca sa pc ls (.float y :: .float x :: st) H Q := by
  intro p l e R s m args below meth c Hm locs cells slots d0 D base b q tys cA lsm Z hc hd0 hr hs hbs hcl hsl hl hz
  refine lv_fsub_any hd0 lw_bits hc.1 hc.2.1 hd (fun r d1 hal hd1 => ?_)
  exact k r hal hc hd1 hr hs hbs hcl hsl hl hz
theorem wp_fmul {x y : UInt32} (hd : decode M.2.1 pc = .ok (.fmul, 1)) (k : ∀ r : UInt32, alike32 r (FP.fmul x y) = true → WP d M ca sa (pc + 1) ls (.float r :: st) H Q) : WP d M ca sa pc ls (.float y :: .float x :: st) H Q := by
  intro p l e R s m args below meth c Hm locs cells slots d0 D base b q tys cA lsm Z hc hd0 hr hs hbs hcl hsl hl hz
  refine lv_fmul_any hd0 lw_bits hc.1 hc.2.1 hd (fun r d1 hal hd1 => ?_)
  exact k r hal hc hd1 hr hs hbs hcl hsl hl hz
theorem wp_fdiv {x y : UInt32} (hd : decode M.2.1 pc = .ok (.fdiv, 1)) (k : ∀ r : UInt32, alike32 r (FP.fdiv x y) = true → WP d M ca sa (pc + 1) ls (.float r :: st) H Q) : WP d M ca sa pc ls (.float y :: .float x :: st) H Q := by
  intro p l e R s m args below meth c Hm locs cells slots d0 D base b q tys cA lsm Z hc hd0 hr hs hbs hcl hsl hl hz
  refine lv_fdiv_any hd0 lw_bits hc.1 hc.2.1 hd (fun r d1 hal hd1 => ?_)
  exact k r hal hc hd1 hr hs hbs hcl hsl hl hz
theorem wp_dadd {x y : UInt64} (hd : decode M.2.1 pc = .ok (.dadd, 1)) (k : ∀ r : UInt64, alike64 r (FP.dadd x y) = true → WP d M ca sa (pc + 1) ls (.double r :: st) H Q) : WP d M ca sa pc ls (.double y :: .double x :: st) H Q := by
  intro p l e R s m args below meth c Hm locs cells slots d0 D base b q tys cA lsm Z hc hd0 hr hs hbs hcl hsl hl hz
  refine lv_dadd_any hd0 lw_bits hc.1 hc.2.1 hd (fun r d1 hal hd1 => ?_)
  exact k r hal hc hd1 hr hs hbs hcl hsl hl hz
theorem wp_dsub {x y : UInt64} (hd : decode M.2.1 pc = .ok (.dsub, 1)) (k : ∀ r : UInt64, alike64 r (FP.dsub x y) = true → WP d M ca sa (pc + 1) ls (.double r :: st) H Q) : WP d M ca sa pc ls (.double y :: .double x :: st) H Q := by
  intro p l e R s m args below meth c Hm locs cells slots d0 D base b q tys cA lsm Z hc hd0 hr hs hbs hcl hsl hl hz
  refine lv_dsub_any hd0 lw_bits hc.1 hc.2.1 hd (fun r d1 hal hd1 => ?_)
  exact k r hal hc hd1 hr hs hbs hcl hsl hl hz
theorem wp_dmul {x y : UInt64} (hd : decode M.2.1 pc = .ok (.dmul, 1)) (k : ∀ r : UInt64, alike64 r (FP.dmul x y) = true → WP d M ca sa (pc + 1) ls (.double r :: st) H Q) : WP d M ca sa pc ls (.double y :: .double x :: st) H Q := by
  intro p l e R s m args below meth c Hm locs cells slots d0 D base b q tys cA lsm Z hc hd0 hr hs hbs hcl hsl hl hz
  refine lv_dmul_any hd0 lw_bits hc.1 hc.2.1 hd (fun r d1 hal hd1 => ?_)
  exact k r hal hc hd1 hr hs hbs hcl hsl hl hz
theorem wp_ddiv {x y : UInt64} (hd : decode M.2.1 pc = .ok (.ddiv, 1)) (k : ∀ r : UInt64, alike64 r (FP.ddiv x y) = true → WP d M ca sa (pc + 1) ls (.double r :: st) H Q) : WP d M ca sa pc ls (.double y :: .double x :: st) H Q := by
  intro p l e R s m args below meth c Hm locs cells slots d0 D base b q tys cA lsm Z hc hd0 hr hs hbs hcl hsl hl hz
  refine lv_ddiv_any hd0 lw_bits hc.1 hc.2.1 hd (fun r d1 hal hd1 => ?_)
  exact k r hal hc hd1 hr hs hbs hcl hsl hl hz
theorem wp_f2d {x : UInt32} (hd : decode M.2.1 pc = .ok (.f2d, 1)) (k : ∀ r : UInt64, alike64 r (FP.f2d x) = true → WP d M ca sa (pc + 1) ls (.double r :: st) H Q) : WP d M ca sa pc ls (.float x :: st) H Q := by
  intro p l e R s m args below meth c Hm locs cells slots d0 D base b q tys cA lsm Z hc hd0 hr hs hbs hcl hsl hl hz
  refine lv_f2d_any hd0 lw_bits hc.1 hc.2.1 hd (fun r d1 hal hd1 => ?_)
  exact k r hal hc hd1 hr hs hbs hcl hsl hl hz
theorem wp_d2f {x : UInt64} (hd : decode M.2.1 pc = .ok (.d2f, 1)) (k : ∀ r : UInt32, alike32 r (FP.d2f x) = true → WP d M ca sa (pc + 1) ls (.float r :: st) H Q) : WP d M ca sa pc ls (.double x :: st) H Q := by
  intro p l e R s m args below meth c Hm locs cells slots d0 D base b q tys cA lsm Z hc hd0 hr hs hbs hcl hsl hl hz
  refine lv_d2f_any hd0 lw_bits hc.1 hc.2.1 hd (fun r d1 hal hd1 => ?_)
  exact k r hal hc hd1 hr hs hbs hcl hsl hl hz
theorem wp_dup {va : Value} (hd : decode M.2.1 pc = .ok (.dup, 1)) (h1 : va.category = 1) (k : WP d M ca sa (pc + 1) ls (va :: va :: st) H Q) : WP d M ca sa pc ls (va :: st) H Q := by
  intro p l e R s m args below meth c Hm locs cells slots d0 D base b q tys cA lsm Z hc hd0 hr hs hbs hcl hsl hl hz
  refine lv_dup hc.1 hc.2.1 hd ((cv_cat _ va).trans h1) ?_
  exact k hc hd0 hr hs hbs hcl hsl hl hz
theorem wp_pop {va : Value} (hd : decode M.2.1 pc = .ok (.pop, 1)) (h1 : va.category = 1) (k : WP d M ca sa (pc + 1) ls (st) H Q) : WP d M ca sa pc ls (va :: st) H Q := by
  intro p l e R s m args below meth c Hm locs cells slots d0 D base b q tys cA lsm Z hc hd0 hr hs hbs hcl hsl hl hz
  refine lv_pop hc.1 hc.2.1 hd ((cv_cat _ va).trans h1) ?_
  exact k hc hd0 hr hs hbs hcl hsl hl hz
theorem wp_dup2_2 {va : Value} (hd : decode M.2.1 pc = .ok (.dup2, 1)) (h1 : va.category = 2) (k : WP d M ca sa (pc + 1) ls (va :: va :: st) H Q) : WP d M ca sa pc ls (va :: st) H Q := by
  intro p l e R s m args below meth c Hm locs cells slots d0 D base b q tys cA lsm Z hc hd0 hr hs hbs hcl hsl hl hz
  refine lv_dup2_2 hc.1 hc.2.1 hd ((cv_cat _ va).trans h1) ?_
  exact k hc hd0 hr hs hbs hcl hsl hl hz
theorem wp_dup2_11 {va vb : Value} (hd : decode M.2.1 pc = .ok (.dup2, 1)) (h1 : va.category = 1) (h2 : vb.category = 1) (k : WP d M ca sa (pc + 1) ls (va :: vb :: va :: vb :: st) H Q) : WP d M ca sa pc ls (va :: vb :: st) H Q := by
  intro p l e R s m args below meth c Hm locs cells slots d0 D base b q tys cA lsm Z hc hd0 hr hs hbs hcl hsl hl hz
  refine lv_dup2_11 hc.1 hc.2.1 hd ((cv_cat _ va).trans h1) ((cv_cat _ vb).trans h2) ?_
  exact k hc hd0 hr hs hbs hcl hsl hl hz
theorem wp_dup_x1 {va vb : Value} (hd : decode M.2.1 pc = .ok (.dup_x1, 1)) (h1 : va.category = 1) (h2 : vb.category = 1) (k : WP d M ca sa (pc + 1) ls (va :: vb :: va :: st) H Q) : WP d M ca sa pc ls (va :: vb :: st) H Q := by
  intro p l e R s m args below meth c Hm locs cells slots d0 D base b q tys cA lsm Z hc hd0 hr hs hbs hcl hsl hl hz
  refine lv_dup_x1 hc.1 hc.2.1 hd ((cv_cat _ va).trans h1) ((cv_cat _ vb).trans h2) ?_
  exact k hc hd0 hr hs hbs hcl hsl hl hz
theorem wp_iload_n {n : Fin 4} {x : Int32} (k' : Nat) (hd : decode M.2.1 pc = .ok (.iload_n n, 1)) (h : ls[k']? = some ((n : Nat), .int x)) (k : WP d M ca sa (pc + 1) ls (.int x :: st) H Q) : WP d M ca sa pc ls st H Q := by
  intro p l e R s m args below meth c Hm locs cells slots d0 D base b q tys cA lsm Z hc hd0 hr hs hbs hcl hsl hl hz
  refine lv_iload_n hc.1 hc.2.1 hd rfl (lv_at hl k' (map_get h)) ?_
  exact k hc hd0 hr hs hbs hcl hsl hl hz
theorem wp_iload {i : Nat} {x : Int32} (k' : Nat) (hd : decode M.2.1 pc = .ok (.iload i, 2)) (h : ls[k']? = some (i, .int x)) (k : WP d M ca sa (pc + 2) ls (.int x :: st) H Q) : WP d M ca sa pc ls st H Q := by
  intro p l e R s m args below meth c Hm locs cells slots d0 D base b q tys cA lsm Z hc hd0 hr hs hbs hcl hsl hl hz
  refine lv_iload hc.1 hc.2.1 hd (lv_at hl k' (map_get h)) ?_
  exact k hc hd0 hr hs hbs hcl hsl hl hz
theorem wp_istore_n {n : Fin 4} {x : Int32} (hd : decode M.2.1 pc = .ok (.istore_n n, 1)) (hn : (n : Nat) < M.2.2.1) (h : st1 ls (n : Nat) (.int x) = ls') (k : WP d M ca sa (pc + 1) ls' st H Q) : WP d M ca sa pc ls (.int x :: st) H Q := by
  intro p l e R s m args below meth c Hm locs cells slots d0 D base b q tys cA lsm Z hc hd0 hr hs hbs hcl hsl hl hz
  refine lv_istore_n (lv' := clv (adr base b q) ls') hc.1 hc.2.1 hd rfl hl hn (map_st1 h) (fun lsm' hl => ?_)
  exact k hc hd0 hr hs hbs hcl hsl hl hz
theorem wp_istore {i : Nat} {x : Int32} (hd : decode M.2.1 pc = .ok (.istore i, 2)) (hn : i < M.2.2.1) (h : st1 ls i (.int x) = ls') (k : WP d M ca sa (pc + 2) ls' st H Q) : WP d M ca sa pc ls (.int x :: st) H Q := by
  intro p l e R s m args below meth c Hm locs cells slots d0 D base b q tys cA lsm Z hc hd0 hr hs hbs hcl hsl hl hz
  refine lv_istore (lv' := clv (adr base b q) ls') hc.1 hc.2.1 hd hl hn (map_st1 h) (fun lsm' hl => ?_)
  exact k hc hd0 hr hs hbs hcl hsl hl hz
theorem wp_lload_n {n : Fin 4} {x : Int64} (k' : Nat) (hd : decode M.2.1 pc = .ok (.lload_n n, 1)) (h : ls[k']? = some ((n : Nat), .long x)) (k : WP d M ca sa (pc + 1) ls (.long x :: st) H Q) : WP d M ca sa pc ls st H Q := by
  intro p l e R s m args below meth c Hm locs cells slots d0 D base b q tys cA lsm Z hc hd0 hr hs hbs hcl hsl hl hz
  refine lv_lload_n hc.1 hc.2.1 hd rfl (lv_at hl k' (map_get h)) ?_
  exact k hc hd0 hr hs hbs hcl hsl hl hz
theorem wp_lload {i : Nat} {x : Int64} (k' : Nat) (hd : decode M.2.1 pc = .ok (.lload i, 2)) (h : ls[k']? = some (i, .long x)) (k : WP d M ca sa (pc + 2) ls (.long x :: st) H Q) : WP d M ca sa pc ls st H Q := by
  intro p l e R s m args below meth c Hm locs cells slots d0 D base b q tys cA lsm Z hc hd0 hr hs hbs hcl hsl hl hz
  refine lv_lload hc.1 hc.2.1 hd (lv_at hl k' (map_get h)) ?_
  exact k hc hd0 hr hs hbs hcl hsl hl hz
theorem wp_lstore_n {n : Fin 4} {x : Int64} (hd : decode M.2.1 pc = .ok (.lstore_n n, 1)) (hn : (n : Nat) + 1 < M.2.2.1) (h : st2 ls (n : Nat) (.long x) = ls') (k : WP d M ca sa (pc + 1) ls' st H Q) : WP d M ca sa pc ls (.long x :: st) H Q := by
  intro p l e R s m args below meth c Hm locs cells slots d0 D base b q tys cA lsm Z hc hd0 hr hs hbs hcl hsl hl hz
  refine lv_lstore_n (lv' := clv (adr base b q) ls') hc.1 hc.2.1 hd rfl hl hn (map_st2 h) (fun lsm' hl => ?_)
  exact k hc hd0 hr hs hbs hcl hsl hl hz
theorem wp_lstore {i : Nat} {x : Int64} (hd : decode M.2.1 pc = .ok (.lstore i, 2)) (hn : i + 1 < M.2.2.1) (h : st2 ls i (.long x) = ls') (k : WP d M ca sa (pc + 2) ls' st H Q) : WP d M ca sa pc ls (.long x :: st) H Q := by
  intro p l e R s m args below meth c Hm locs cells slots d0 D base b q tys cA lsm Z hc hd0 hr hs hbs hcl hsl hl hz
  refine lv_lstore (lv' := clv (adr base b q) ls') hc.1 hc.2.1 hd hl hn (map_st2 h) (fun lsm' hl => ?_)
  exact k hc hd0 hr hs hbs hcl hsl hl hz
theorem wp_fload_n {n : Fin 4} {x : UInt32} (k' : Nat) (hd : decode M.2.1 pc = .ok (.fload_n n, 1)) (h : ls[k']? = some ((n : Nat), .float x)) (k : WP d M ca sa (pc + 1) ls (.float x :: st) H Q) : WP d M ca sa pc ls st H Q := by
  intro p l e R s m args below meth c Hm locs cells slots d0 D base b q tys cA lsm Z hc hd0 hr hs hbs hcl hsl hl hz
  refine lv_fload_n hc.1 hc.2.1 hd rfl (lv_at hl k' (map_get h)) ?_
  exact k hc hd0 hr hs hbs hcl hsl hl hz
theorem wp_fload {i : Nat} {x : UInt32} (k' : Nat) (hd : decode M.2.1 pc = .ok (.fload i, 2)) (h : ls[k']? = some (i, .float x)) (k : WP d M ca sa (pc + 2) ls (.float x :: st) H Q) : WP d M ca sa pc ls st H Q := by
  intro p l e R s m args below meth c Hm locs cells slots d0 D base b q tys cA lsm Z hc hd0 hr hs hbs hcl hsl hl hz
  refine lv_fload hc.1 hc.2.1 hd (lv_at hl k' (map_get h)) ?_
  exact k hc hd0 hr hs hbs hcl hsl hl hz
theorem wp_fstore_n {n : Fin 4} {x : UInt32} (hd : decode M.2.1 pc = .ok (.fstore_n n, 1)) (hn : (n : Nat) < M.2.2.1) (h : st1 ls (n : Nat) (.float x) = ls') (k : WP d M ca sa (pc + 1) ls' st H Q) : WP d M ca sa pc ls (.float x :: st) H Q := by
  intro p l e R s m args below meth c Hm locs cells slots d0 D base b q tys cA lsm Z hc hd0 hr hs hbs hcl hsl hl hz
  refine lv_fstore_n (lv' := clv (adr base b q) ls') hc.1 hc.2.1 hd rfl hl hn (map_st1 h) (fun lsm' hl => ?_)
  exact k hc hd0 hr hs hbs hcl hsl hl hz
theorem wp_fstore {i : Nat} {x : UInt32} (hd : decode M.2.1 pc = .ok (.fstore i, 2)) (hn : i < M.2.2.1) (h : st1 ls i (.float x) = ls') (k : WP d M ca sa (pc + 2) ls' st H Q) : WP d M ca sa pc ls (.float x :: st) H Q := by
  intro p l e R s m args below meth c Hm locs cells slots d0 D base b q tys cA lsm Z hc hd0 hr hs hbs hcl hsl hl hz
  refine lv_fstore (lv' := clv (adr base b q) ls') hc.1 hc.2.1 hd hl hn (map_st1 h) (fun lsm' hl => ?_)
  exact k hc hd0 hr hs hbs hcl hsl hl hz
theorem wp_dload_n {n : Fin 4} {x : UInt64} (k' : Nat) (hd : decode M.2.1 pc = .ok (.dload_n n, 1)) (h : ls[k']? = some ((n : Nat), .double x)) (k : WP d M ca sa (pc + 1) ls (.double x :: st) H Q) : WP d M ca sa pc ls st H Q := by
  intro p l e R s m args below meth c Hm locs cells slots d0 D base b q tys cA lsm Z hc hd0 hr hs hbs hcl hsl hl hz
  refine lv_dload_n hc.1 hc.2.1 hd rfl (lv_at hl k' (map_get h)) ?_
  exact k hc hd0 hr hs hbs hcl hsl hl hz
theorem wp_dload {i : Nat} {x : UInt64} (k' : Nat) (hd : decode M.2.1 pc = .ok (.dload i, 2)) (h : ls[k']? = some (i, .double x)) (k : WP d M ca sa (pc + 2) ls (.double x :: st) H Q) : WP d M ca sa pc ls st H Q := by
  intro p l e R s m args below meth c Hm locs cells slots d0 D base b q tys cA lsm Z hc hd0 hr hs hbs hcl hsl hl hz
  refine lv_dload hc.1 hc.2.1 hd (lv_at hl k' (map_get h)) ?_
  exact k hc hd0 hr hs hbs hcl hsl hl hz
theorem wp_dstore_n {n : Fin 4} {x : UInt64} (hd : decode M.2.1 pc = .ok (.dstore_n n, 1)) (hn : (n : Nat) + 1 < M.2.2.1) (h : st2 ls (n : Nat) (.double x) = ls') (k : WP d M ca sa (pc + 1) ls' st H Q) : WP d M ca sa pc ls (.double x :: st) H Q := by
  intro p l e R s m args below meth c Hm locs cells slots d0 D base b q tys cA lsm Z hc hd0 hr hs hbs hcl hsl hl hz
  refine lv_dstore_n (lv' := clv (adr base b q) ls') hc.1 hc.2.1 hd rfl hl hn (map_st2 h) (fun lsm' hl => ?_)
  exact k hc hd0 hr hs hbs hcl hsl hl hz
theorem wp_dstore {i : Nat} {x : UInt64} (hd : decode M.2.1 pc = .ok (.dstore i, 2)) (hn : i + 1 < M.2.2.1) (h : st2 ls i (.double x) = ls') (k : WP d M ca sa (pc + 2) ls' st H Q) : WP d M ca sa pc ls (.double x :: st) H Q := by
  intro p l e R s m args below meth c Hm locs cells slots d0 D base b q tys cA lsm Z hc hd0 hr hs hbs hcl hsl hl hz
  refine lv_dstore (lv' := clv (adr base b q) ls') hc.1 hc.2.1 hd hl hn (map_st2 h) (fun lsm' hl => ?_)
  exact k hc hd0 hr hs hbs hcl hsl hl hz
theorem wp_aload_n {n : Fin 4} {o : Option Nat} (k' : Nat) (hd : decode M.2.1 pc = .ok (.aload_n n, 1)) (h : ls[k']? = some ((n : Nat), rv o)) (k : WP d M ca sa (pc + 1) ls (rv o :: st) H Q) : WP d M ca sa pc ls st H Q := by
  intro p l e R s m args below meth c Hm locs cells slots d0 D base b q tys cA lsm Z hc hd0 hr hs hbs hcl hsl hl hz
  cases o with
  | none =>
    refine lv_aload_nN hc.1 hc.2.1 hd rfl (lv_at hl k' (map_get h)) ?_
    exact k hc hd0 hr hs hbs hcl hsl hl hz
  | some a =>
    refine lv_aload_n hc.1 hc.2.1 hd rfl (lv_at hl k' (map_get h)) ?_
    exact k hc hd0 hr hs hbs hcl hsl hl hz
theorem wp_aload {i : Nat} {o : Option Nat} (k' : Nat) (hd : decode M.2.1 pc = .ok (.aload i, 2)) (h : ls[k']? = some (i, rv o)) (k : WP d M ca sa (pc + 2) ls (rv o :: st) H Q) : WP d M ca sa pc ls st H Q := by
  intro p l e R s m args below meth c Hm locs cells slots d0 D base b q tys cA lsm Z hc hd0 hr hs hbs hcl hsl hl hz
  cases o with
  | none =>
    refine lv_aloadN hc.1 hc.2.1 hd (lv_at hl k' (map_get h)) ?_
    exact k hc hd0 hr hs hbs hcl hsl hl hz
  | some a =>
    refine lv_aload hc.1 hc.2.1 hd (lv_at hl k' (map_get h)) ?_
    exact k hc hd0 hr hs hbs hcl hsl hl hz
theorem wp_astore_n {n : Fin 4} {o : Option Nat} (hd : decode M.2.1 pc = .ok (.astore_n n, 1)) (hn : (n : Nat) < M.2.2.1) (h : st1 ls (n : Nat) (rv o) = ls') (k : WP d M ca sa (pc + 1) ls' st H Q) : WP d M ca sa pc ls (rv o :: st) H Q := by
  intro p l e R s m args below meth c Hm locs cells slots d0 D base b q tys cA lsm Z hc hd0 hr hs hbs hcl hsl hl hz
  cases o with
  | none =>
    refine lv_astore_nN (lv' := clv (adr base b q) ls') hc.1 hc.2.1 hd rfl hl hn (map_st1 h) (fun lsm' hl => ?_)
    exact k hc hd0 hr hs hbs hcl hsl hl hz
  | some a =>
    refine lv_astore_n (lv' := clv (adr base b q) ls') hc.1 hc.2.1 hd rfl hl hn (map_st1 h) (fun lsm' hl => ?_)
    exact k hc hd0 hr hs hbs hcl hsl hl hz
theorem wp_astore {i : Nat} {o : Option Nat} (hd : decode M.2.1 pc = .ok (.astore i, 2)) (hn : i < M.2.2.1) (h : st1 ls i (rv o) = ls') (k : WP d M ca sa (pc + 2) ls' st H Q) : WP d M ca sa pc ls (rv o :: st) H Q := by
  intro p l e R s m args below meth c Hm locs cells slots d0 D base b q tys cA lsm Z hc hd0 hr hs hbs hcl hsl hl hz
  cases o with
  | none =>
    refine lv_astoreN (lv' := clv (adr base b q) ls') hc.1 hc.2.1 hd hl hn (map_st1 h) (fun lsm' hl => ?_)
    exact k hc hd0 hr hs hbs hcl hsl hl hz
  | some a =>
    refine lv_astore (lv' := clv (adr base b q) ls') hc.1 hc.2.1 hd hl hn (map_st1 h) (fun lsm' hl => ?_)
    exact k hc hd0 hr hs hbs hcl hsl hl hz
theorem wp_iinc {i : Nat} {n : Int} {x v : Int32} (k' : Nat) (hd : decode M.2.1 pc = .ok (.iinc i n, 3)) (hk : ls[k']? = some (i, .int x)) (hv : x + Int32.ofInt n = v) (hn : i < M.2.2.1) (h : st1 ls i (.int v) = ls') (k : WP d M ca sa (pc + 3) ls' st H Q) : WP d M ca sa pc ls st H Q := by
  intro p l e R s m args below meth c Hm locs cells slots d0 D base b q tys cA lsm Z hc hd0 hr hs hbs hcl hsl hl hz
  refine lv_iinc (lv' := clv (adr base b q) ls') hc.1 hc.2.1 hd hl (map_get hk) hv hn (map_st1 (v := .int v) h) (fun lsm' hl => ?_)
  exact k hc hd0 hr hs hbs hcl hsl hl hz
theorem wp_if_eq {x : Int32} {off : Int} {tgt : Nat} (hd : decode M.2.1 pc = .ok (.ifCond .eq off, 3)) (ht : (pc : Int) + off = (tgt : Int)) (kt : x = 0 → WP d M ca sa tgt ls st H Q) (kf : ¬ (x = 0) → WP d M ca sa (pc + 3) ls st H Q) : WP d M ca sa pc ls (.int x :: st) H Q := by
  intro p l e R s m args below meth c Hm locs cells slots d0 D base b q tys cA lsm Z hc hd0 hr hs hbs hcl hsl hl hz
  exact lv_if_eq hc.1 hc.2.1 hd ht (fun h => kt h hc hd0 hr hs hbs hcl hsl hl hz) (fun h => kf h hc hd0 hr hs hbs hcl hsl hl hz)
theorem wp_icmp_eq {x y : Int32} {off : Int} {tgt : Nat} (hd : decode M.2.1 pc = .ok (.if_icmp .eq off, 3)) (ht : (pc : Int) + off = (tgt : Int)) (kt : x = y → WP d M ca sa tgt ls st H Q) (kf : ¬ (x = y) → WP d M ca sa (pc + 3) ls st H Q) : WP d M ca sa pc ls (.int y :: .int x :: st) H Q := by
  intro p l e R s m args below meth c Hm locs cells slots d0 D base b q tys cA lsm Z hc hd0 hr hs hbs hcl hsl hl hz
  exact lv_icmp_eq hc.1 hc.2.1 hd ht (fun h => kt h hc hd0 hr hs hbs hcl hsl hl hz) (fun h => kf h hc hd0 hr hs hbs hcl hsl hl hz)
theorem wp_if_ne {x : Int32} {off : Int} {tgt : Nat} (hd : decode M.2.1 pc = .ok (.ifCond .ne off, 3)) (ht : (pc : Int) + off = (tgt : Int)) (kt : ¬ x = 0 → WP d M ca sa tgt ls st H Q) (kf : x = 0 → WP d M ca sa (pc + 3) ls st H Q) : WP d M ca sa pc ls (.int x :: st) H Q := by
  intro p l e R s m args below meth c Hm locs cells slots d0 D base b q tys cA lsm Z hc hd0 hr hs hbs hcl hsl hl hz
  exact lv_if_ne hc.1 hc.2.1 hd ht (fun h => kt h hc hd0 hr hs hbs hcl hsl hl hz) (fun h => kf h hc hd0 hr hs hbs hcl hsl hl hz)
theorem wp_icmp_ne {x y : Int32} {off : Int} {tgt : Nat} (hd : decode M.2.1 pc = .ok (.if_icmp .ne off, 3)) (ht : (pc : Int) + off = (tgt : Int)) (kt : ¬ x = y → WP d M ca sa tgt ls st H Q) (kf : x = y → WP d M ca sa (pc + 3) ls st H Q) : WP d M ca sa pc ls (.int y :: .int x :: st) H Q := by
  intro p l e R s m args below meth c Hm locs cells slots d0 D base b q tys cA lsm Z hc hd0 hr hs hbs hcl hsl hl hz
  exact lv_icmp_ne hc.1 hc.2.1 hd ht (fun h => kt h hc hd0 hr hs hbs hcl hsl hl hz) (fun h => kf h hc hd0 hr hs hbs hcl hsl hl hz)
theorem wp_if_lt {x : Int32} {off : Int} {tgt : Nat} (hd : decode M.2.1 pc = .ok (.ifCond .lt off, 3)) (ht : (pc : Int) + off = (tgt : Int)) (kt : x < 0 → WP d M ca sa tgt ls st H Q) (kf : ¬ (x < 0) → WP d M ca sa (pc + 3) ls st H Q) : WP d M ca sa pc ls (.int x :: st) H Q := by
  intro p l e R s m args below meth c Hm locs cells slots d0 D base b q tys cA lsm Z hc hd0 hr hs hbs hcl hsl hl hz
  exact lv_if_lt hc.1 hc.2.1 hd ht (fun h => kt h hc hd0 hr hs hbs hcl hsl hl hz) (fun h => kf h hc hd0 hr hs hbs hcl hsl hl hz)
theorem wp_icmp_lt {x y : Int32} {off : Int} {tgt : Nat} (hd : decode M.2.1 pc = .ok (.if_icmp .lt off, 3)) (ht : (pc : Int) + off = (tgt : Int)) (kt : x < y → WP d M ca sa tgt ls st H Q) (kf : ¬ (x < y) → WP d M ca sa (pc + 3) ls st H Q) : WP d M ca sa pc ls (.int y :: .int x :: st) H Q := by
  intro p l e R s m args below meth c Hm locs cells slots d0 D base b q tys cA lsm Z hc hd0 hr hs hbs hcl hsl hl hz
  exact lv_icmp_lt hc.1 hc.2.1 hd ht (fun h => kt h hc hd0 hr hs hbs hcl hsl hl hz) (fun h => kf h hc hd0 hr hs hbs hcl hsl hl hz)
theorem wp_if_ge {x : Int32} {off : Int} {tgt : Nat} (hd : decode M.2.1 pc = .ok (.ifCond .ge off, 3)) (ht : (pc : Int) + off = (tgt : Int)) (kt : 0 ≤ x → WP d M ca sa tgt ls st H Q) (kf : ¬ (0 ≤ x) → WP d M ca sa (pc + 3) ls st H Q) : WP d M ca sa pc ls (.int x :: st) H Q := by
  intro p l e R s m args below meth c Hm locs cells slots d0 D base b q tys cA lsm Z hc hd0 hr hs hbs hcl hsl hl hz
  exact lv_if_ge hc.1 hc.2.1 hd ht (fun h => kt h hc hd0 hr hs hbs hcl hsl hl hz) (fun h => kf h hc hd0 hr hs hbs hcl hsl hl hz)
theorem wp_icmp_ge {x y : Int32} {off : Int} {tgt : Nat} (hd : decode M.2.1 pc = .ok (.if_icmp .ge off, 3)) (ht : (pc : Int) + off = (tgt : Int)) (kt : y ≤ x → WP d M ca sa tgt ls st H Q) (kf : ¬ (y ≤ x) → WP d M ca sa (pc + 3) ls st H Q) : WP d M ca sa pc ls (.int y :: .int x :: st) H Q := by
  intro p l e R s m args below meth c Hm locs cells slots d0 D base b q tys cA lsm Z hc hd0 hr hs hbs hcl hsl hl hz
  exact lv_icmp_ge hc.1 hc.2.1 hd ht (fun h => kt h hc hd0 hr hs hbs hcl hsl hl hz) (fun h => kf h hc hd0 hr hs hbs hcl hsl hl hz)
theorem wp_if_gt {x : Int32} {off : Int} {tgt : Nat} (hd : decode M.2.1 pc = .ok (.ifCond .gt off, 3)) (ht : (pc : Int) + off = (tgt : Int)) (kt : 0 < x → WP d M ca sa tgt ls st H Q) (kf : ¬ (0 < x) → WP d M ca sa (pc + 3) ls st H Q) : WP d M ca sa pc ls (.int x :: st) H Q := by
  intro p l e R s m args below meth c Hm locs cells slots d0 D base b q tys cA lsm Z hc hd0 hr hs hbs hcl hsl hl hz
  exact lv_if_gt hc.1 hc.2.1 hd ht (fun h => kt h hc hd0 hr hs hbs hcl hsl hl hz) (fun h => kf h hc hd0 hr hs hbs hcl hsl hl hz)
theorem wp_icmp_gt {x y : Int32} {off : Int} {tgt : Nat} (hd : decode M.2.1 pc = .ok (.if_icmp .gt off, 3)) (ht : (pc : Int) + off = (tgt : Int)) (kt : y < x → WP d M ca sa tgt ls st H Q) (kf : ¬ (y < x) → WP d M ca sa (pc + 3) ls st H Q) : WP d M ca sa pc ls (.int y :: .int x :: st) H Q := by
  intro p l e R s m args below meth c Hm locs cells slots d0 D base b q tys cA lsm Z hc hd0 hr hs hbs hcl hsl hl hz
  exact lv_icmp_gt hc.1 hc.2.1 hd ht (fun h => kt h hc hd0 hr hs hbs hcl hsl hl hz) (fun h => kf h hc hd0 hr hs hbs hcl hsl hl hz)
theorem wp_if_le {x : Int32} {off : Int} {tgt : Nat} (hd : decode M.2.1 pc = .ok (.ifCond .le off, 3)) (ht : (pc : Int) + off = (tgt : Int)) (kt : x ≤ 0 → WP d M ca sa tgt ls st H Q) (kf : ¬ (x ≤ 0) → WP d M ca sa (pc + 3) ls st H Q) : WP d M ca sa pc ls (.int x :: st) H Q := by
  intro p l e R s m args below meth c Hm locs cells slots d0 D base b q tys cA lsm Z hc hd0 hr hs hbs hcl hsl hl hz
  exact lv_if_le hc.1 hc.2.1 hd ht (fun h => kt h hc hd0 hr hs hbs hcl hsl hl hz) (fun h => kf h hc hd0 hr hs hbs hcl hsl hl hz)
theorem wp_icmp_le {x y : Int32} {off : Int} {tgt : Nat} (hd : decode M.2.1 pc = .ok (.if_icmp .le off, 3)) (ht : (pc : Int) + off = (tgt : Int)) (kt : x ≤ y → WP d M ca sa tgt ls st H Q) (kf : ¬ (x ≤ y) → WP d M ca sa (pc + 3) ls st H Q) : WP d M ca sa pc ls (.int y :: .int x :: st) H Q := by
  intro p l e R s m args below meth c Hm locs cells slots d0 D base b q tys cA lsm Z hc hd0 hr hs hbs hcl hsl hl hz
  exact lv_icmp_le hc.1 hc.2.1 hd ht (fun h => kt h hc hd0 hr hs hbs hcl hsl hl hz) (fun h => kf h hc hd0 hr hs hbs hcl hsl hl hz)
theorem wp_goto {off : Int} {tgt : Nat} (hd : decode M.2.1 pc = .ok (.goto off, 3)) (ht : (pc : Int) + off = (tgt : Int)) (k : WP d M ca sa tgt ls st H Q) : WP d M ca sa pc ls st H Q := by
  intro p l e R s m args below meth c Hm locs cells slots d0 D base b q tys cA lsm Z hc hd0 hr hs hbs hcl hsl hl hz
  refine lv_goto hc.1 hc.2.1 hd ht ?_
  exact k hc hd0 hr hs hbs hcl hsl hl hz
theorem wp_ifnull {o : Option Nat} {off : Int} {tgt : Nat} (hd : decode M.2.1 pc = .ok (.ifnull off, 3)) (ht : (pc : Int) + off = (tgt : Int)) (kn : o = none → WP d M ca sa tgt ls st H Q) (ks : ∀ a, o = some a → WP d M ca sa (pc + 3) ls st H Q) : WP d M ca sa pc ls (rv o :: st) H Q := by
  intro p l e R s m args below meth c Hm locs cells slots d0 D base b q tys cA lsm Z hc hd0 hr hs hbs hcl hsl hl hz
  cases o with
  | none => exact lv_ifnullN hc.1 hc.2.1 hd ht (kn rfl hc hd0 hr hs hbs hcl hsl hl hz)
  | some a => exact lv_ifnull hc.1 hc.2.1 hd (ks a rfl hc hd0 hr hs hbs hcl hsl hl hz)
theorem wp_ifnonnull {o : Option Nat} {off : Int} {tgt : Nat} (hd : decode M.2.1 pc = .ok (.ifnonnull off, 3)) (ht : (pc : Int) + off = (tgt : Int)) (ks : ∀ a, o = some a → WP d M ca sa tgt ls st H Q) (kn : o = none → WP d M ca sa (pc + 3) ls st H Q) : WP d M ca sa pc ls (rv o :: st) H Q := by
  intro p l e R s m args below meth c Hm locs cells slots d0 D base b q tys cA lsm Z hc hd0 hr hs hbs hcl hsl hl hz
  cases o with
  | none => exact lv_ifnonnullN hc.1 hc.2.1 hd (kn rfl hc hd0 hr hs hbs hcl hsl hl hz)
  | some a => exact lv_ifnonnull hc.1 hc.2.1 hd ht (ks a rfl hc hd0 hr hs hbs hcl hsl hl hz)
theorem wp_tableOut {dflt lo hi : Int} {offs : Array Int} {len : Nat} {x : Int32} {tgt : Nat} (hd : decode M.2.1 pc = .ok (.tableswitch dflt lo hi offs, len)) (h : x.toInt < lo ∨ hi < x.toInt) (ht : (pc : Int) + dflt = (tgt : Int)) (k : WP d M ca sa tgt ls st H Q) : WP d M ca sa pc ls (.int x :: st) H Q := by
  intro p l e R s m args below meth c Hm locs cells slots d0 D base b q tys cA lsm Z hc hd0 hr hs hbs hcl hsl hl hz
  refine lv_tableOut hc.1 hc.2.1 hd h ht ?_
  exact k hc hd0 hr hs hbs hcl hsl hl hz
theorem wp_tableIn {dflt lo hi : Int} {offs : Array Int} {len : Nat} {x : Int32} {off : Int} {tgt : Nat} (hd : decode M.2.1 pc = .ok (.tableswitch dflt lo hi offs, len)) (h1 : ¬ x.toInt < lo) (h2 : ¬ hi < x.toInt) (ho : offs[(x.toInt - lo).toNat]? = some off) (ht : (pc : Int) + off = (tgt : Int)) (k : WP d M ca sa tgt ls st H Q) : WP d M ca sa pc ls (.int x :: st) H Q := by
  intro p l e R s m args below meth c Hm locs cells slots d0 D base b q tys cA lsm Z hc hd0 hr hs hbs hcl hsl hl hz
  refine lv_tableIn hc.1 hc.2.1 hd h1 h2 ho ht ?_
  exact k hc hd0 hr hs hbs hcl hsl hl hz
theorem wp_ldc {i : Nat} {v : Int32} (hd : decode M.2.1 pc = .ok (.ldc i, 2)) (hw : Cond.constant M.1.cls i v ∈ tbG) (k : WP d M ca sa (pc + 2) ls (.int v :: st) H Q) : WP d M ca sa pc ls st H Q := by
  intro p l e R s m args below meth c Hm locs cells slots d0 D base b q tys cA lsm Z hc hd0 hr hs hbs hcl hsl hl hz
  refine lv_ldc hc.1 hc.2.1 hc.2.2.2.2.1 (dr_words hc.2.2.2.2.2.2.2.1 d0 _ hw) hd ?_
  exact k hc hd0 hr hs hbs hcl hsl hl hz
theorem wp_ldcw {i : Nat} {v : Int32} (hd : decode M.2.1 pc = .ok (.ldc_w i, 3)) (hw : Cond.constant M.1.cls i v ∈ tbG) (k : WP d M ca sa (pc + 3) ls (.int v :: st) H Q) : WP d M ca sa pc ls st H Q := by
  intro p l e R s m args below meth c Hm locs cells slots d0 D base b q tys cA lsm Z hc hd0 hr hs hbs hcl hsl hl hz
  refine lv_ldcw hc.1 hc.2.1 hc.2.2.2.2.1 (dr_words hc.2.2.2.2.2.2.2.1 d0 _ hw) hd ?_
  exact k hc hd0 hr hs hbs hcl hsl hl hz
theorem wp_ldcf {i : Nat} {v : UInt32} (hd : decode M.2.1 pc = .ok (.ldc i, 2)) (hw : Cond.constantFloat M.1.cls i v ∈ tbG) (k : WP d M ca sa (pc + 2) ls (.float v :: st) H Q) : WP d M ca sa pc ls st H Q := by
  intro p l e R s m args below meth c Hm locs cells slots d0 D base b q tys cA lsm Z hc hd0 hr hs hbs hcl hsl hl hz
  refine lv_ldcf hc.1 hc.2.1 hc.2.2.2.2.1 (dr_words hc.2.2.2.2.2.2.2.1 d0 _ hw) hd ?_
  exact k hc hd0 hr hs hbs hcl hsl hl hz
theorem wp_ldc2 {i : Nat} {v : Int64} (hd : decode M.2.1 pc = .ok (.ldc2_w i, 3)) (hw : Cond.constantLong M.1.cls i v ∈ tbG) (k : WP d M ca sa (pc + 3) ls (.long v :: st) H Q) : WP d M ca sa pc ls st H Q := by
  intro p l e R s m args below meth c Hm locs cells slots d0 D base b q tys cA lsm Z hc hd0 hr hs hbs hcl hsl hl hz
  refine lv_ldc2 hc.1 hc.2.1 hc.2.2.2.2.1 (dr_words hc.2.2.2.2.2.2.2.1 d0 _ hw) hd ?_
  exact k hc hd0 hr hs hbs hcl hsl hl hz
theorem wp_ldc2d {i : Nat} {v : UInt64} (hd : decode M.2.1 pc = .ok (.ldc2_w i, 3)) (hw : Cond.constantDouble M.1.cls i v ∈ tbG) (k : WP d M ca sa (pc + 3) ls (.double v :: st) H Q) : WP d M ca sa pc ls st H Q := by
  intro p l e R s m args below meth c Hm locs cells slots d0 D base b q tys cA lsm Z hc hd0 hr hs hbs hcl hsl hl hz
  refine lv_ldc2d hc.1 hc.2.1 hc.2.2.2.2.1 (dr_words hc.2.2.2.2.2.2.2.1 d0 _ hw) hd ?_
  exact k hc hd0 hr hs hbs hcl hsl hl hz

/-! ===== the heap: fields ===== -/
theorem rep_obj {D : va_G} {base b : Nat} {q : QA} {tys : List (ClassId × FieldType)} {cA : Nat → ClassId} {s : State} {Hm : Heap} {a ci : Nat} {r : vw_C} (hr : Rep D base b q tys cA H s Hm) (ht : tg H a = ci + 1) (hc : vwCl[ci]? = some r) :
    a < hN H ∧ adr base b q a = base + a ∧ t_OB (base + a) (D.1 ci) r.2.2 (D.2 ci) Hm (fval kd (adr base b q) H ci a) := by
  obtain ⟨hK, hCel, hsz, hty, htg, hsc, -⟩ := hr
  have ha : a < hN H := htg a (by omega)
  have had : adr base b q a = base + a := adr_own (by omega)
  have h1 := (hCel a ha).1 ci r ht hc
  rw [had] at h1
  exact ⟨ha, had, h1⟩
theorem rep_arr {D : va_G} {base b : Nat} {q : QA} {tys : List (ClassId × FieldType)} {cA : Nat → ClassId} {s : State} {Hm : Heap} {a : Nat} (hr : Rep D base b q tys cA H s Hm) (ht : 4096 ≤ tg H a) :
    a < hN H ∧ adr base b q a = base + a ∧ Hm[base + a]? = some (vp_cell (cA a) (ln H a, aval (adr base b q) H (tg H a) a)) ∧ ∃ t0 : Nat, tys[t0]? = some (cA a, aelt (tg H a)) := by
  obtain ⟨hK, hCel, hsz, hty, htg, hsc, -⟩ := hr
  have ha : a < hN H := htg a (by omega)
  have had : adr base b q a = base + a := adr_own (by omega)
  have h1 := (hCel a ha).2 ht
  rw [had] at h1
  exact ⟨ha, had, h1, hty a ha ht⟩
/-- a field of an object, by its class's number and its own -/
def FI (own : String) (idx ci j : Nat) (fin : Bool) (ty : FieldType) : Prop := ∃ (C : String) (T : u_T) (N : Nat) (ty0 : Nat → FieldType), vwCl[ci]? = some (C, T, N) ∧ j < N ∧ (∀ w ∈ u_ws C T N, w ∈ tbG) ∧ Cond.fieldLink own idx (T j).1 (T j).2.1 (T j).2.2.1 ∈ tbG ∧ (T j).2.2.2 = fin ∧ parseFieldDescriptor (T j).2.2.1 = some ty ∧ (∀ a, a < N → ∀ b, b < N → a ≠ b → (T a).2.1 ≠ (T b).2.1) ∧ (∀ k, k < N → parseFieldDescriptor (T k).2.2.1 = some (ty0 k)) ∧ (fin = true → (T j).1 = own)
def FIr (own : String) (idx ci j : Nat) : Prop := ∃ (C : String) (T : u_T) (N : Nat), vwCl[ci]? = some (C, T, N) ∧ j < N ∧ (∀ w ∈ u_ws C T N, w ∈ tbG) ∧ Cond.fieldLink own idx (T j).1 (T j).2.1 (T j).2.2.1 ∈ tbG
theorem FI.r {own : String} {idx ci j : Nat} {fin : Bool} {ty : FieldType} (h : FI own idx ci j fin ty) : FIr own idx ci j := by
  obtain ⟨C, T, N, ty0, h1, h2, h3, h4, -⟩ := h
  exact ⟨C, T, N, h1, h2, h3, h4⟩
theorem wp_get {idx ci j a : Nat} {o : Option Nat} {v : Value} (hd : decode M.2.1 pc = .ok (.getfield idx, 3)) (hf : FIr M.1.cls idx ci j) (ho : o = some a) (ht : tg H a = ci + 1) (hv : ∀ ad : Nat → Nat, fval kd ad H ci a j = cv ad v) (k : WP d M ca sa (pc + 3) ls (v :: st) H Q) : WP d M ca sa pc ls (rv o :: st) H Q := by
  intro p l e R s m args below meth c Hm locs cells slots d0 D base b q tys cA lsm Z hc hd0 hr hs hbs hcl hsl hl hz
  subst ho
  obtain ⟨C, T, N, hcl0, hj, hin, hlk⟩ := hf
  obtain ⟨ha, had, hob⟩ := rep_obj hr ht hcl0
  have hts := dr_words hc.2.2.2.2.2.2.2.1 d0
  have hP : va_P D vwCl [(base + a, .inr (ci, (List.range N).map (fval kd (adr base b q) H ci a)))] Hm := by
    intro k' x hx
    cases k' with
    | zero =>
      cases hx
      refine ⟨_, hcl0, hob.to (fun j' hj' => ?_)⟩
      simp only at hj'
      simp [vp_V, hj']
    | succ k' => simp at hx
  have hgoal := va_get (args := args) (rest := cst (adr base b q) st) hc.1 hc.2.1 hts hin hc.2.2.2.2.1 hr.1 hP 0 rfl hcl0 j hj (hts _ hlk) (fun _ h => h) (v := cv (adr base b q) v) (by simp [hj, hv]) hd (k hc hd0 hr hs hbs hcl hsl hl hz)
  rw [show cst (adr base b q) (rv (some a) :: st) = Value.ref (base + a) :: cst (adr base b q) st by show Value.ref (adr base b q a) :: _ = _; rw [had]; rfl]
  exact hgoal
theorem wp_getI {idx ci j a : Nat} {o : Option Nat} (hd : decode M.2.1 pc = .ok (.getfield idx, 3)) (hf : FIr M.1.cls idx ci j) (hk : kd ci j = 0) (ho : o = some a) (ht : tg H a = ci + 1) (k : WP d M ca sa (pc + 3) ls (.int (hI H (gid ci j) a 0) :: st) H Q) : WP d M ca sa pc ls (rv o :: st) H Q :=
  wp_get hd hf ho ht (fun ad => by unfold fval; rw [hk]; rfl) k
theorem wp_getL {idx ci j a : Nat} {o : Option Nat} (hd : decode M.2.1 pc = .ok (.getfield idx, 3)) (hf : FIr M.1.cls idx ci j) (hk : kd ci j = 1) (ho : o = some a) (ht : tg H a = ci + 1) (k : WP d M ca sa (pc + 3) ls (.long (hL H (gid ci j) a 0) :: st) H Q) : WP d M ca sa pc ls (rv o :: st) H Q :=
  wp_get hd hf ho ht (fun ad => by unfold fval; rw [hk]; rfl) k
theorem wp_getD {idx ci j a : Nat} {o : Option Nat} (hd : decode M.2.1 pc = .ok (.getfield idx, 3)) (hf : FIr M.1.cls idx ci j) (hk : kd ci j = 2) (ho : o = some a) (ht : tg H a = ci + 1) (k : WP d M ca sa (pc + 3) ls (.double (hD H (gid ci j) a 0) :: st) H Q) : WP d M ca sa pc ls (rv o :: st) H Q :=
  wp_get hd hf ho ht (fun ad => by unfold fval; rw [hk]; rfl) k
theorem wp_getR {idx ci j a : Nat} {o : Option Nat} (hd : decode M.2.1 pc = .ok (.getfield idx, 3)) (hf : FIr M.1.cls idx ci j) (hk : kd ci j = 3) (ho : o = some a) (ht : tg H a = ci + 1) (k : WP d M ca sa (pc + 3) ls (rv (hR H (gid ci j) a 0) :: st) H Q) : WP d M ca sa pc ls (rv o :: st) H Q :=
  wp_get hd hf ho ht (fun ad => by unfold fval; rw [hk]; exact (cv_rv _ _).symm) k
theorem wp_getC {idx ci j a : Nat} {o : Option Nat} (hd : decode M.2.1 pc = .ok (.getfield idx, 3)) (hf : FIr M.1.cls idx ci j) (hk : kd ci j = 4) (ho : o = some a) (ht : tg H a = ci + 1) (k : WP d M ca sa (pc + 3) ls (rv (hC H (gid ci j) a) :: st) H Q) : WP d M ca sa pc ls (rv o :: st) H Q :=
  wp_get hd hf ho ht (fun ad => by unfold fval; rw [hk]; exact (cv_rv _ _).symm) k
theorem gid_inj {c j c' j' : Nat} (hj : j < 100) (hj' : j' < 100) (h : gid c j = gid c' j') : c = c' ∧ j = j' := by
  unfold gid at h; omega
theorem own_ne {base b a a' : Nat} {q : QA} (ha : a < scrA) (ha' : a' < scrA) (h : a' ≠ a) : adr base b q a' ≠ base + a := by
  rw [adr_own ha']; omega
theorem kept_of {base a : Nat} {Hm H1 : Heap} (oq : ∀ x, x ≠ base + a → H1[x]? = Hm[x]?) : ∀ x, x < base → H1[x]? = Hm[x]? := fun x h => oq x (by omega)
theorem strOK.kept {base : Nat} {q : QA} {s : State} {Hm H1 : Heap} (h : strOK base q s Hm) (oq : ∀ x, x < Hm.size → x < base → H1[x]? = Hm[x]?) : strOK base q s H1 := by
  obtain ⟨h1, h2, h3, h4, h5⟩ := h
  have hq : ∀ a : Nat, a < Hm.size → ¬ (base ≤ a) → H1[a]? = Hm[a]? := fun a ha hb => oq a ha (by omega)
  exact ⟨h1.kept hq, h2, h3.kept hq, h4.imp (fun h => h.kept hq) (fun h => h.kept hq), h5⟩
/-- one cell rewritten -/
theorem Rep.upd {D : va_G} {base b : Nat} {q : QA} {tys : List (ClassId × FieldType)} {cA : Nat → ClassId} {s : State} {Hm H1 : Heap} {H' : HP} {a : Nat} (hr : Rep D base b q tys cA H s Hm) (ha : a < hN H) (hsz : H1.size = Hm.size) (oq : ∀ x, x ≠ base + a → H1[x]? = Hm[x]?)
    (hT' : hT H' = hT H) (hN' : hN H' = hN H) (hX' : hX H' = hX H)
    (hself : Cel D (adr base b q) cA H' a H1)
    (hoth : ∀ a', a' ≠ a → (∀ ci j, ci < 13 → j < 100 → fval kd (adr base b q) H' ci a' j = fval kd (adr base b q) H ci a' j) ∧ aval (adr base b q) H' (tg H a') a' = aval (adr base b q) H (tg H a') a') : Rep D base b q tys cA H' s H1 := by
  obtain ⟨hK, hCel, hs0, hty, htg, hsc, hx, hb, hl, hst⟩ := hr
  have htg' : ∀ x, tg H' x = tg H x := fun x => by unfold tg; rw [hT']
  have hln' : ∀ x, ln H' x = ln H x := fun x => by unfold ln; rw [hT']
  refine ⟨hK, fun a' ha' => ?_, by rw [hsz, hN']; exact hs0, fun a' ha' h4 => ?_, fun a' h => ?_, by rw [hN']; exact hsc, ?_, hb, by rw [hX']; exact hl, ?_⟩
  · by_cases haa : a' = a
    · subst haa; exact hself
    · rw [hN'] at ha'
      obtain ⟨c1, c2⟩ := hCel a' ha'
      have hne := own_ne (base := base) (b := b) (q := q) (show a < scrA by omega) (show a' < scrA by omega) haa
      refine ⟨fun ci r h1 h2 => ?_, fun h4 => ?_⟩
      · rw [htg'] at h1
        have h5 := c1 ci r h1 h2
        have hci : ci < 13 := (List.getElem?_eq_some_iff.mp h2).1
        refine (h5.kept (oq _ hne)).to (fun j hj => ?_)
        refine ((hoth a' haa).1 ci j hci ?_).symm
        have : r.2.2 ≤ 63 := by
          have h6 : r ∈ vwCl := List.mem_of_getElem? h2
          simp [vwCl] at h6
          rcases h6 with h | h | h | h | h | h | h | h | h | h | h | h | h <;> (subst h; decide)
        omega
      · rw [htg'] at h4 ⊢
        rw [hln', (hoth a' haa).2, oq _ hne]
        exact c2 h4
  · rw [hN'] at ha'; rw [htg'] at h4 ⊢
    exact hty a' ha' h4
  · rw [hN']; rw [htg'] at h; exact htg a' h
  · rw [hX']; exact hx.kept (oq b (by omega))
  · exact hst.kept (fun x h1 h2 => oq x (by omega))


theorem vwCl_bd {ci : Nat} {C : String} {T : u_T} {N : Nat} (h : vwCl[ci]? = some (C, T, N)) : ci < 13 ∧ N ≤ 63 := by
  refine ⟨(List.getElem?_eq_some_iff.mp h).1, ?_⟩
  have h6 : (C, T, N) ∈ vwCl := List.mem_of_getElem? h
  simp [vwCl] at h6
  rcases h6 with h | h | h | h | h | h | h | h | h | h | h | h | h <;> omega
theorem aval_cong {ad : Nat → Nat} {H' : HP} {t a : Nat} (h1 : hI H' t a = hI H t a) (h2 : hL H' t a = hL H t a) (h3 : hF H' t a = hF H t a) (h4 : hD H' t a = hD H t a) (h5 : hR H' t a = hR H t a) : aval ad H' t a = aval ad H t a := by
  unfold aval; rw [h1, h2, h3, h4, h5]
theorem u3_gf {α : Type} (f : Nat → Nat → Nat → α) {g g' : Nat} (a i : Nat) (v : α) (a' : Nat) (h : g' ≠ g) : u3 f g a i v g' a' = f g' a' := by funext i'; simp [u3, h]
theorem u3_af {α : Type} (f : Nat → Nat → Nat → α) (g g' : Nat) {a a' : Nat} (i : Nat) (v : α) (h : a' ≠ a) : u3 f g a i v g' a' = f g' a' := by funext i'; simp [u3, h]
/-! storing into a field -/
theorem wp_put {idx ci j a : Nat} {fin : Bool} {ty : FieldType} {o : Option Nat} {v : Value} {H' : HP} (hd : decode M.2.1 pc = .ok (.putfield idx, 3)) (hf : FI M.1.cls idx ci j fin ty) (hfin : fin = true → M.1.name = "<init>") (ho : o = some a) (ht : tg H a = ci + 1)
    (hn : ∀ ad : Nat → Nat, narrow ty (cv ad v) = cv ad v) (hfit : ∀ ad : Nat → Nat, fits ty (cv ad v) = true) (hT' : hT H' = hT H) (hN' : hN H' = hN H) (hX' : hX H' = hX H)
    (hfv : ∀ (ad : Nat → Nat) (c' j' a' : Nat), c' < 13 → j' < 100 → fval kd ad H' c' a' j' = if c' = ci ∧ j' = j ∧ a' = a then cv ad v else fval kd ad H c' a' j') (hav : ∀ (ad : Nat → Nat) (t' a' : Nat), 4096 ≤ t' → aval ad H' t' a' = aval ad H t' a') (hav' : ∀ (ad : Nat → Nat) (a' : Nat), a' ≠ a → aval ad H' (tg H a') a' = aval ad H (tg H a') a')
    (k : WP d M ca sa (pc + 3) ls st H' Q) : WP d M ca sa pc ls (v :: rv o :: st) H Q := by
  intro p l e R s m args below meth c Hm locs cells slots d0 D base b q tys cA lsm Z hc hd0 hr hs hbs hcl hsl hl hz
  subst ho
  obtain ⟨C, T, N, ty0, hcl0, hj, hin, hlk, hfi, hty, hnm, hty0, hdecl⟩ := hf
  obtain ⟨ha, had, hob⟩ := rep_obj hr ht hcl0
  have hts := dr_words hc.2.2.2.2.2.2.2.1 d0
  obtain ⟨cell, q1, q2, q3, q4⟩ := hob
  simp only at q4
  obtain ⟨hS, hfc, kC, hkC, hkind⟩ := hr.1.1 ci _ hcl0
  obtain ⟨cf, kf, fi, f, hi, hsl'⟩ := hS j hj
  have hlay := hts _ (hin _ (u_in_lay hj))
  simp only at hi hfc hsl'
  have hi' : (s.setDrawn d0).fieldFound? (T j).1 (T j).2.1 (T j).2.2.1 = some (cf, kf, fi, f) := hi
  have hfc' : (s.setDrawn d0).vm.findClass C = some (D.1 ci) := hfc
  have hkC' : (s.setDrawn d0).vm.classes[D.1 ci]? = some kC := hkC
  have hown' : (s.setDrawn d0).vm.findClass M.1.cls = some m.cls := hc.2.2.2.2.1
  have hlk' := hts _ hlk
  have hst := (u_facts hfc' hkC' (u_lays hts hin hj) hi').1
  have hap := va_apart (D := D) (own := M.1.cls) hts hin ty0 hty0 hnm hr.1 hcl0
  have fin' : ∀ (H1 : Heap), H1[base + a]? = some (cell.setSlot f.slot (cv (adr base b q) v)) → H1.size = Hm.size → (∀ x, x ≠ base + a → H1[x]? = Hm[x]?) →
      W p l e R (s.setDrawn d0) m args below meth c H1 (locs ++ [⟨base + a, f.slot⟩]) cells slots Z (F0 m (pc + 3) lsm (cst (adr base b q) st)) := by
    intro H1 e1 e2 e3
    refine k (tys := tys) (cA := cA) hc hd0 ?_ (hs.put e2 e3 (Nat.le_add_right _ _)) hbs hcl hsl hl hz
    refine hr.upd ha e2 e3 hT' hN' hX' ⟨fun ci' r h1 h2 => ?_, fun h4 => ?_⟩ (fun a' haa => ⟨fun ci' j' hb1 hb2 => ?_, hav' _ a' haa⟩)
    · have : ci' = ci := by
        have h5 : tg H' a = tg H a := by unfold tg; rw [hT']
        omega
      subst this
      cases h2.symm.trans hcl0
      rw [had]
      refine t_OB.to (V := updV (fval kd (adr base b q) H ci' a) j (cv (adr base b q) v)) ⟨_, e1, q2, q3, ?_⟩ (fun j' hj' => ?_)
      · rw [hsl']
        exact t_set q4 hap hj _
      · have hbd := vwCl_bd hcl0
        simp only at hj'
        rw [hfv _ _ _ _ hbd.1 (by omega)]
        unfold updV
        by_cases hjj : j' = j
        · simp [hjj]
        · simp [hjj]
    · have h5 : tg H' a = tg H a := by unfold tg; rw [hT']
      have h6 : ci < 13 := (List.getElem?_eq_some_iff.mp hcl0).1
      omega
    · rw [hfv _ _ _ _ hb1 hb2, if_neg (fun z => haa z.2.2)]
  show W p l e R (s.setDrawn d0) m args below meth c Hm locs cells slots Z (F0 m pc lsm (cv (adr base b q) v :: Value.ref (adr base b q a) :: cst (adr base b q) st))
  rw [had]
  cases fin with
  | false =>
    unfold u_lay at hlay
    rw [if_neg (by rw [hfi]; decide)] at hlay
    have h6 := u_store hfc' hkC' hkind hlay hi' hty (hn (adr base b q)) (hfit (adr base b q))
    have h7 : k2_Sd (s.setDrawn d0) f cell.cls (cv (adr base b q) v) := by rw [q2]; exact h6
    have h8 : f.slot < cell.slots.size := by rw [hsl']; exact k2_hasslot (q4 j hj)
    have hF : Fd (s.setDrawn d0) m args M.1.cls (T j).1 (T j).2.1 (T j).2.2.1 idx f := ⟨hown', hlk', ⟨_, _, _, hi'⟩, hst⟩
    refine W.putK (s := s.setDrawn d0) (a := base + a) (cell := cell) (v := cv (adr base b q) v) hc.1 hc.2.1 hF h7 q1 q3 h8 rfl rfl hd ?_
    exact fin'
  | true =>
    unfold u_lay at hlay
    rw [if_pos hfi] at hlay
    have hcf : m.cls = cf := by
      obtain ⟨_, _, c', _, _, _, -, -, hf', -, -, -, hown2, -⟩ := Cond.laysFinal_spec hlay
      have e1 : c' = cf := by have := hi'.symm.trans hf'; simp at this; exact this.1.symm
      rw [hdecl rfl] at hown2
      rw [← e1]; exact Option.some.inj (hown'.symm.trans hown2)
    have h6 := u_fits hfc' hkC' hkind (Or.inr hlay) hi' hty (hn (adr base b q)) (hfit (adr base b q))
    have h7 : narrow f.type (cv (adr base b q) v) = cv (adr base b q) v ∧ (s.setDrawn d0).fitsSlot cell.cls .none f.slot (cv (adr base b q) v) = true := by rw [q2]; exact h6
    have h8 : f.slot < cell.slots.size := by rw [hsl']; exact k2_hasslot (q4 j hj)
    refine W.putFinK (s := s.setDrawn d0) (a := base + a) (cell := cell) (v := cv (adr base b q) v) hc.1 hc.2.1 hown' hlk' hi' hst hcf (hc.2.2.2.2.2.2.1 (hfin rfl)) h7 q1 q3 h8 rfl rfl hd ?_
    exact fin'
theorem gid_lt {c j : Nat} (hc : c < 13) (hj : j < 100) : gid c j < 4096 := by unfold gid; omega
theorem FI.bd {own : String} {idx ci j : Nat} {fin : Bool} {ty : FieldType} (h : FI own idx ci j fin ty) : ci < 13 ∧ j < 100 := by
  obtain ⟨C, T, N, ty0, hcl0, hj, -⟩ := h
  have := vwCl_bd hcl0
  omega

theorem wp_putI {idx ci j a : Nat} {fin : Bool} {ty : FieldType} {o : Option Nat} {x : Int32} (hd : decode M.2.1 pc = .ok (.putfield idx, 3)) (hf : FI M.1.cls idx ci j fin ty) (hk : kd ci j = 0) (hfin : fin = true → M.1.name = "<init>") (ho : o = some a) (ht : tg H a = ci + 1) (hn : narrow ty (.int x) = .int x) (hfit : fits ty (.int x) = true)
    (k : WP d M ca sa (pc + 3) ls st (sI H (gid ci j) a 0 x) Q) : WP d M ca sa pc ls (.int x :: rv o :: st) H Q := by
  have hb := hf.bd
  refine wp_put (H' := sI H (gid ci j) a 0 x) (v := .int x) hd hf hfin ho ht (fun _ => hn) (fun _ => hfit) rfl rfl rfl (fun ad c' j' a' hc1 hc2 => ?_) (fun ad t' a' h4 => ?_) (fun ad a' h => ?_) k
  · by_cases h : c' = ci ∧ j' = j ∧ a' = a
    · obtain ⟨rfl, rfl, rfl⟩ := h
      simp [fval, hk, hI_sI, u3, cv]
    · rw [if_neg h]
      unfold fval
      by_cases h2 : kd c' j' = 0
      · rw [h2]
        simp only [hI_sI, u3]
        rw [if_neg]
        rintro ⟨e1, e2, -⟩
        obtain ⟨r1, r2⟩ := gid_inj hc2 hb.2 e1
        exact h ⟨r1, r2, e2⟩
      · split <;> first | rfl | (exfalso; omega)
  · have hg := gid_lt hb.1 hb.2
    have hne : t' ≠ gid ci j := by omega
    exact aval_cong (u3_gf _ _ _ _ _ hne) rfl rfl rfl rfl
  · exact aval_cong (u3_af _ _ _ _ _ h) rfl rfl rfl rfl
theorem wp_putL {idx ci j a : Nat} {fin : Bool} {ty : FieldType} {o : Option Nat} {x : Int64} (hd : decode M.2.1 pc = .ok (.putfield idx, 3)) (hf : FI M.1.cls idx ci j fin ty) (hk : kd ci j = 1) (hfin : fin = true → M.1.name = "<init>") (ho : o = some a) (ht : tg H a = ci + 1) (hn : narrow ty (.long x) = .long x) (hfit : fits ty (.long x) = true)
    (k : WP d M ca sa (pc + 3) ls st (sL H (gid ci j) a 0 x) Q) : WP d M ca sa pc ls (.long x :: rv o :: st) H Q := by
  have hb := hf.bd
  refine wp_put (H' := sL H (gid ci j) a 0 x) (v := .long x) hd hf hfin ho ht (fun _ => hn) (fun _ => hfit) rfl rfl rfl (fun ad c' j' a' hc1 hc2 => ?_) (fun ad t' a' h4 => ?_) (fun ad a' h => ?_) k
  · by_cases h : c' = ci ∧ j' = j ∧ a' = a
    · obtain ⟨rfl, rfl, rfl⟩ := h
      simp [fval, hk, hL_sL, u3, cv]
    · rw [if_neg h]
      unfold fval
      by_cases h2 : kd c' j' = 1
      · rw [h2]
        simp only [hL_sL, u3]
        rw [if_neg]
        rintro ⟨e1, e2, -⟩
        obtain ⟨r1, r2⟩ := gid_inj hc2 hb.2 e1
        exact h ⟨r1, r2, e2⟩
      · split <;> first | rfl | (exfalso; omega)
  · have hg := gid_lt hb.1 hb.2
    have hne : t' ≠ gid ci j := by omega
    exact aval_cong rfl (u3_gf _ _ _ _ _ hne) rfl rfl rfl
  · exact aval_cong rfl (u3_af _ _ _ _ _ h) rfl rfl rfl
theorem wp_putD {idx ci j a : Nat} {fin : Bool} {ty : FieldType} {o : Option Nat} {x : UInt64} (hd : decode M.2.1 pc = .ok (.putfield idx, 3)) (hf : FI M.1.cls idx ci j fin ty) (hk : kd ci j = 2) (hfin : fin = true → M.1.name = "<init>") (ho : o = some a) (ht : tg H a = ci + 1) (hn : narrow ty (.double x) = .double x) (hfit : fits ty (.double x) = true)
    (k : WP d M ca sa (pc + 3) ls st (sD H (gid ci j) a 0 x) Q) : WP d M ca sa pc ls (.double x :: rv o :: st) H Q := by
  have hb := hf.bd
  refine wp_put (H' := sD H (gid ci j) a 0 x) (v := .double x) hd hf hfin ho ht (fun _ => hn) (fun _ => hfit) rfl rfl rfl (fun ad c' j' a' hc1 hc2 => ?_) (fun ad t' a' h4 => ?_) (fun ad a' h => ?_) k
  · by_cases h : c' = ci ∧ j' = j ∧ a' = a
    · obtain ⟨rfl, rfl, rfl⟩ := h
      simp [fval, hk, hD_sD, u3, cv]
    · rw [if_neg h]
      unfold fval
      by_cases h2 : kd c' j' = 2
      · rw [h2]
        simp only [hD_sD, u3]
        rw [if_neg]
        rintro ⟨e1, e2, -⟩
        obtain ⟨r1, r2⟩ := gid_inj hc2 hb.2 e1
        exact h ⟨r1, r2, e2⟩
      · split <;> first | rfl | (exfalso; omega)
  · have hg := gid_lt hb.1 hb.2
    have hne : t' ≠ gid ci j := by omega
    exact aval_cong rfl rfl rfl (u3_gf _ _ _ _ _ hne) rfl
  · exact aval_cong rfl rfl rfl (u3_af _ _ _ _ _ h) rfl
theorem nar_rv {C : String} (ad : Nat → Nat) (o : Option Nat) : narrow (.object C) (cv ad (rv o)) = cv ad (rv o) ∧ fits (.object C) (cv ad (rv o)) = true := by cases o <;> exact ⟨rfl, rfl⟩
theorem nar_rva {t : FieldType} (ad : Nat → Nat) (o : Option Nat) : narrow (.array t) (cv ad (rv o)) = cv ad (rv o) ∧ fits (.array t) (cv ad (rv o)) = true := by cases o <;> exact ⟨rfl, rfl⟩
theorem wp_putR {idx ci j a : Nat} {fin : Bool} {ty : FieldType} {o v : Option Nat} (hd : decode M.2.1 pc = .ok (.putfield idx, 3)) (hf : FI M.1.cls idx ci j fin ty) (hk : kd ci j = 3) (hfin : fin = true → M.1.name = "<init>") (ho : o = some a) (ht : tg H a = ci + 1) (hn : (∃ C, ty = .object C) ∨ ∃ t, ty = .array t)
    (k : WP d M ca sa (pc + 3) ls st (sR H (gid ci j) a 0 v) Q) : WP d M ca sa pc ls (rv v :: rv o :: st) H Q := by
  have hb := hf.bd
  have hn' : ∀ ad : Nat → Nat, narrow ty (cv ad (rv v)) = cv ad (rv v) ∧ fits ty (cv ad (rv v)) = true := by
    intro ad
    rcases hn with ⟨C, rfl⟩ | ⟨t, rfl⟩
    · exact nar_rv ad v
    · exact nar_rva ad v
  refine wp_put (H' := sR H (gid ci j) a 0 v) (v := rv v) hd hf hfin ho ht (fun ad => (hn' ad).1) (fun ad => (hn' ad).2) rfl rfl rfl (fun ad c' j' a' hc1 hc2 => ?_) (fun ad t' a' h4 => ?_) (fun ad a' h => ?_) k
  · by_cases h : c' = ci ∧ j' = j ∧ a' = a
    · obtain ⟨rfl, rfl, rfl⟩ := h
      simp [fval, hk, hR_sR, u3, cv_rv]
    · rw [if_neg h]
      unfold fval
      by_cases h2 : kd c' j' = 3
      · rw [h2]
        simp only [hR_sR, u3]
        rw [if_neg]
        rintro ⟨e1, e2, -⟩
        obtain ⟨r1, r2⟩ := gid_inj hc2 hb.2 e1
        exact h ⟨r1, r2, e2⟩
      · split <;> first | rfl | (exfalso; omega)
  · have hg := gid_lt hb.1 hb.2
    have hne : t' ≠ gid ci j := by omega
    exact aval_cong rfl rfl rfl rfl (u3_gf _ _ _ _ _ hne)
  · exact aval_cong rfl rfl rfl rfl (u3_af _ _ _ _ _ h)
theorem wp_putC {idx ci j a : Nat} {fin : Bool} {ty : FieldType} {o v : Option Nat} (hd : decode M.2.1 pc = .ok (.putfield idx, 3)) (hf : FI M.1.cls idx ci j fin ty) (hk : kd ci j = 4) (hfin : fin = true → M.1.name = "<init>") (ho : o = some a) (ht : tg H a = ci + 1) (hn : (∃ C, ty = .object C) ∨ ∃ t, ty = .array t)
    (k : WP d M ca sa (pc + 3) ls st (sC H (gid ci j) a v) Q) : WP d M ca sa pc ls (rv v :: rv o :: st) H Q := by
  have hb := hf.bd
  have hn' : ∀ ad : Nat → Nat, narrow ty (cv ad (rv v)) = cv ad (rv v) ∧ fits ty (cv ad (rv v)) = true := by
    intro ad
    rcases hn with ⟨C, rfl⟩ | ⟨t, rfl⟩
    · exact nar_rv ad v
    · exact nar_rva ad v
  refine wp_put (H' := sC H (gid ci j) a v) (v := rv v) hd hf hfin ho ht (fun ad => (hn' ad).1) (fun ad => (hn' ad).2) rfl rfl rfl (fun ad c' j' a' hc1 hc2 => ?_) (fun ad t' a' h4 => aval_cong rfl rfl rfl rfl rfl) (fun ad a' h => aval_cong rfl rfl rfl rfl rfl) k
  by_cases h : c' = ci ∧ j' = j ∧ a' = a
  · obtain ⟨rfl, rfl, rfl⟩ := h
    simp [fval, hk, hC_sC, u2, cv_rv]
  · rw [if_neg h]
    unfold fval
    split <;> try rfl
    simp only [hC_sC, u2]
    rw [if_neg]
    rintro ⟨e1, e2⟩
    obtain ⟨r1, r2⟩ := gid_inj hc2 hb.2 e1
    exact h ⟨r1, r2, e2⟩

/-! ===== the heap: arrays ===== -/
/-- an array of that element kind -/
def isA (H : HP) (a e : Nat) : Prop := 4096 ≤ tg H a ∧ tg H a % 16 = e
theorem aval_0 {ad : Nat → Nat} {t a e : Nat} (he : t % 16 = e) (h : e ≤ 2) : aval ad H t a = .inl (hI H t a) := by
  unfold aval
  have : e = 0 ∨ e = 1 ∨ e = 2 := by omega
  rcases this with h | h | h <;> (subst h; simp only [he])
theorem aval_3 {ad : Nat → Nat} {t a : Nat} (he : t % 16 = 3) : aval ad H t a = .inr (.inl (hL H t a)) := by unfold aval; simp only [he]
theorem aval_4 {ad : Nat → Nat} {t a : Nat} (he : t % 16 = 4) : aval ad H t a = .inr (.inr (.inl (hF H t a))) := by unfold aval; simp only [he]
theorem aval_5 {ad : Nat → Nat} {t a : Nat} (he : t % 16 = 5) : aval ad H t a = .inr (.inr (.inr (.inl (hD H t a)))) := by unfold aval; simp only [he]
theorem aval_6 {ad : Nat → Nat} {t a : Nat} (he : 6 ≤ t % 16) : aval ad H t a = .inr (.inr (.inr (.inr (fun i => (hR H t a i).map ad)))) := by
  unfold aval
  split <;> first | rfl | (exfalso; omega)
theorem arr1 {D : va_G} {Hm : Heap} {x : Nat} {cA : ClassId} {e : vp_A} (h : Hm[x]? = some (vp_cell cA e)) : va_P D vwCl [(x, .inl (cA, e))] Hm := by
  intro k' y hy
  cases k' with
  | zero => cases hy; exact h
  | succ k' => simp at hy
theorem Rep.arr {D : va_G} {base b : Nat} {q : QA} {tys : List (ClassId × FieldType)} {cA : Nat → ClassId} {s : State} {Hm H1 : Heap} {H' : HP} {a : Nat} (hr : Rep D base b q tys cA H s Hm) (h4 : 4096 ≤ tg H a) (hsz : H1.size = Hm.size) (oq : ∀ x, x ≠ base + a → H1[x]? = Hm[x]?)
    (hT' : hT H' = hT H) (hN' : hN H' = hN H) (hX' : hX H' = hX H)
    (hself : H1[base + a]? = some (vp_cell (cA a) (ln H a, aval (adr base b q) H' (tg H a) a)))
    (h1 : ∀ g a' i, a' ≠ a ∨ g ≠ tg H a → hI H' g a' i = hI H g a' i) (h2 : ∀ g a' i, a' ≠ a ∨ g ≠ tg H a → hL H' g a' i = hL H g a' i) (h3 : ∀ g a' i, a' ≠ a ∨ g ≠ tg H a → hF H' g a' i = hF H g a' i) (h5 : ∀ g a' i, a' ≠ a ∨ g ≠ tg H a → hD H' g a' i = hD H g a' i) (h6 : ∀ g a' i, a' ≠ a ∨ g ≠ tg H a → hR H' g a' i = hR H g a' i) (h7 : hC H' = hC H) : Rep D base b q tys cA H' s H1 := by
  obtain ⟨ha, had, -⟩ := rep_arr hr h4
  have htg' : tg H' a = tg H a := by unfold tg; rw [hT']
  have hln' : ln H' a = ln H a := by unfold ln; rw [hT']
  refine hr.upd ha hsz oq hT' hN' hX' ⟨fun ci r e1 e2 => ?_, fun _ => ?_⟩ (fun a' haa => ⟨fun ci j hc hj => ?_, ?_⟩)
  · have := (List.getElem?_eq_some_iff.mp e2).1
    have h9 : vwCl.length = 13 := rfl
    omega
  · rw [had, htg', hln']; exact hself
  · unfold fval
    simp only [h1 _ a' _ (Or.inl haa), h2 _ a' _ (Or.inl haa), h5 _ a' _ (Or.inl haa), h6 _ a' _ (Or.inl haa), h7]
  · exact aval_cong (funext fun i => h1 _ a' i (Or.inl haa)) (funext fun i => h2 _ a' i (Or.inl haa)) (funext fun i => h3 _ a' i (Or.inl haa)) (funext fun i => h5 _ a' i (Or.inl haa)) (funext fun i => h6 _ a' i (Or.inl haa))
theorem u3_ne {α : Type} (f : Nat → Nat → Nat → α) {t a : Nat} (i : Nat) (v : α) : ∀ g a' i', a' ≠ a ∨ g ≠ t → u3 f t a i v g a' i' = f g a' i' := by
  intro g a' i' h
  unfold u3
  rw [if_neg]
  rintro ⟨h1, h2, -⟩
  rcases h with h | h
  · exact h h2
  · exact h h1
theorem wp_alen {a : Nat} {o : Option Nat} (hd : decode M.2.1 pc = .ok (.arraylength, 1)) (ho : o = some a) (h4 : 4096 ≤ tg H a) (k : WP d M ca sa (pc + 1) ls (.int (Int32.ofNat (ln H a)) :: st) H Q) : WP d M ca sa pc ls (rv o :: st) H Q := by
  intro p l e R s m args below meth c Hm locs cells slots d0 D base b q tys cA lsm Z hc hd0 hr hs hbs hcl hsl hl hz
  subst ho
  obtain ⟨ha, had, h1, t0, ht0⟩ := rep_arr hr h4
  show W p l e R (s.setDrawn d0) m args below meth c Hm locs cells slots Z (F0 m pc lsm (Value.ref (adr base b q a) :: cst (adr base b q) st))
  rw [had]
  have hKd : va_K D vwCl tys (s.setDrawn d0) := hr.1
  exact va_alen (s := s.setDrawn d0) hc.1 hc.2.1 hKd (arr1 (D := D) h1) 0 t0 rfl ht0 rfl hd (k hc hd0 hr hs hbs hcl hsl hl hz)
theorem wp_slen (hd : decode M.2.1 pc = .ok (.arraylength, 1)) (k : WP d M ca sa (pc + 1) ls (.int (Int32.ofNat (hX H).1) :: st) H Q) : WP d M ca sa pc ls (rv (some scrA) :: st) H Q := by
  intro p l e R s m args below meth c Hm locs cells slots d0 D base b q tys cA lsm Z hc hd0 hr hs hbs hcl hsl hl hz
  have had : adr base b q scrA = b := by simp [adr]
  show W p l e R (s.setDrawn d0) m args below meth c Hm locs cells slots Z (F0 m pc lsm (Value.ref (adr base b q scrA) :: cst (adr base b q) st))
  rw [had]
  obtain ⟨scr, h1, h2, h3, h4, h5⟩ := hr.2.2.2.2.2.2.1
  have h2' : (s.setDrawn d0).isArrayOf scr .int := h2
  exact W.alen (s := s.setDrawn d0) (n := Int32.ofNat (hX H).1) hc.1 hc.2.1 h1 h2' (by rw [h4] <;> rfl) rfl rfl hd (k hc hd0 hr hs hbs hcl hsl hl hz)
theorem wp_sload {i : Int32} (hd : decode M.2.1 pc = .ok (.iaload, 1)) (hin : vp_in i (hX H).1) (k : WP d M ca sa (pc + 1) ls (.int ((hX H).2 i.toNatClampNeg) :: st) H Q) : WP d M ca sa pc ls (.int i :: rv (some scrA) :: st) H Q := by
  intro p l e R s m args below meth c Hm locs cells slots d0 D base b q tys cA lsm Z hc hd0 hr hs hbs hcl hsl hl hz
  have had : adr base b q scrA = b := by simp [adr]
  show W p l e R (s.setDrawn d0) m args below meth c Hm locs cells slots Z (F0 m pc lsm (.int i :: Value.ref (adr base b q scrA) :: cst (adr base b q) st))
  rw [had]
  obtain ⟨scr, h1, h2, h3, h4, h5⟩ := hr.2.2.2.2.2.2.1
  have h2' : (s.setDrawn d0).isArrayOf scr .int := h2
  have hlt : i.toNatClampNeg < (hX H).1 := Nat.not_le.mp fun q => hin (Or.inr q)
  exact W.iald (s := s.setDrawn d0) (v := .int ((hX H).2 i.toNatClampNeg)) hc.1 hc.2.1 h1 h2' h3 (by rw [h4]; exact hin) (h5 _ hlt) rfl rfl hd (k hc hd0 hr hs hbs hcl hsl hl hz)

theorem wp_iaload {a : Nat} {o : Option Nat} {i : Int32} (hd : decode M.2.1 pc = .ok (.iaload, 1)) (ho : o = some a) (he : isA H a 0) (hin : vp_in i (ln H a)) (k : WP d M ca sa (pc + 1) ls (.int (hI H (tg H a) a i.toNatClampNeg) :: st) H Q) : WP d M ca sa pc ls (.int i :: rv o :: st) H Q := by
  intro p l e R s m args below meth c Hm locs cells slots d0 D base b q tys cA lsm Z hc hd0 hr hs hbs hcl hsl hl hz
  subst ho
  obtain ⟨ha, had, h1, t0, ht0⟩ := rep_arr hr he.1
  rw [(aval_0 he.2 (by decide))] at h1
  have hty : aelt (tg H a) = .int := by unfold aelt; simp only [he.2]
  rw [hty] at ht0
  show W p l e R (s.setDrawn d0) m args below meth c Hm locs cells slots Z (F0 m pc lsm (.int i :: Value.ref (adr base b q a) :: cst (adr base b q) st))
  rw [had]
  have hKd : va_K D vwCl tys (s.setDrawn d0) := hr.1
  exact va_iald (s := s.setDrawn d0) hc.1 hc.2.1 hKd (arr1 (D := D) h1) 0 t0 rfl ht0 hin hd (k hc hd0 hr hs hbs hcl hsl hl hz)
theorem wp_baload {a : Nat} {o : Option Nat} {i : Int32} (hd : decode M.2.1 pc = .ok (.baload, 1)) (ho : o = some a) (he : isA H a 1) (hin : vp_in i (ln H a)) (k : WP d M ca sa (pc + 1) ls (.int (hI H (tg H a) a i.toNatClampNeg) :: st) H Q) : WP d M ca sa pc ls (.int i :: rv o :: st) H Q := by
  intro p l e R s m args below meth c Hm locs cells slots d0 D base b q tys cA lsm Z hc hd0 hr hs hbs hcl hsl hl hz
  subst ho
  obtain ⟨ha, had, h1, t0, ht0⟩ := rep_arr hr he.1
  rw [(aval_0 he.2 (by decide))] at h1
  have hty : aelt (tg H a) = .byte := by unfold aelt; simp only [he.2]
  rw [hty] at ht0
  show W p l e R (s.setDrawn d0) m args below meth c Hm locs cells slots Z (F0 m pc lsm (.int i :: Value.ref (adr base b q a) :: cst (adr base b q) st))
  rw [had]
  have hKd : va_K D vwCl tys (s.setDrawn d0) := hr.1
  exact va_bald (s := s.setDrawn d0) hc.1 hc.2.1 hKd (arr1 (D := D) h1) 0 t0 rfl ht0 hin hd (k hc hd0 hr hs hbs hcl hsl hl hz)
theorem wp_zaload {a : Nat} {o : Option Nat} {i : Int32} (hd : decode M.2.1 pc = .ok (.baload, 1)) (ho : o = some a) (he : isA H a 2) (hin : vp_in i (ln H a)) (k : WP d M ca sa (pc + 1) ls (.int (hI H (tg H a) a i.toNatClampNeg) :: st) H Q) : WP d M ca sa pc ls (.int i :: rv o :: st) H Q := by
  intro p l e R s m args below meth c Hm locs cells slots d0 D base b q tys cA lsm Z hc hd0 hr hs hbs hcl hsl hl hz
  subst ho
  obtain ⟨ha, had, h1, t0, ht0⟩ := rep_arr hr he.1
  rw [(aval_0 he.2 (by decide))] at h1
  have hty : aelt (tg H a) = .boolean := by unfold aelt; simp only [he.2]
  rw [hty] at ht0
  show W p l e R (s.setDrawn d0) m args below meth c Hm locs cells slots Z (F0 m pc lsm (.int i :: Value.ref (adr base b q a) :: cst (adr base b q) st))
  rw [had]
  have hKd : va_K D vwCl tys (s.setDrawn d0) := hr.1
  exact va_zald (s := s.setDrawn d0) hc.1 hc.2.1 hKd (arr1 (D := D) h1) 0 t0 rfl ht0 hin hd (k hc hd0 hr hs hbs hcl hsl hl hz)
theorem wp_laload {a : Nat} {o : Option Nat} {i : Int32} (hd : decode M.2.1 pc = .ok (.laload, 1)) (ho : o = some a) (he : isA H a 3) (hin : vp_in i (ln H a)) (k : WP d M ca sa (pc + 1) ls (.long (hL H (tg H a) a i.toNatClampNeg) :: st) H Q) : WP d M ca sa pc ls (.int i :: rv o :: st) H Q := by
  intro p l e R s m args below meth c Hm locs cells slots d0 D base b q tys cA lsm Z hc hd0 hr hs hbs hcl hsl hl hz
  subst ho
  obtain ⟨ha, had, h1, t0, ht0⟩ := rep_arr hr he.1
  rw [(aval_3 he.2)] at h1
  have hty : aelt (tg H a) = .long := by unfold aelt; simp only [he.2]
  rw [hty] at ht0
  show W p l e R (s.setDrawn d0) m args below meth c Hm locs cells slots Z (F0 m pc lsm (.int i :: Value.ref (adr base b q a) :: cst (adr base b q) st))
  rw [had]
  have hKd : va_K D vwCl tys (s.setDrawn d0) := hr.1
  exact va_lald (s := s.setDrawn d0) hc.1 hc.2.1 hKd (arr1 (D := D) h1) 0 t0 rfl ht0 hin hd (k hc hd0 hr hs hbs hcl hsl hl hz)
theorem wp_faload {a : Nat} {o : Option Nat} {i : Int32} (hd : decode M.2.1 pc = .ok (.faload, 1)) (ho : o = some a) (he : isA H a 4) (hin : vp_in i (ln H a)) (k : WP d M ca sa (pc + 1) ls (.float (hF H (tg H a) a i.toNatClampNeg) :: st) H Q) : WP d M ca sa pc ls (.int i :: rv o :: st) H Q := by
  intro p l e R s m args below meth c Hm locs cells slots d0 D base b q tys cA lsm Z hc hd0 hr hs hbs hcl hsl hl hz
  subst ho
  obtain ⟨ha, had, h1, t0, ht0⟩ := rep_arr hr he.1
  rw [(aval_4 he.2)] at h1
  have hty : aelt (tg H a) = .float := by unfold aelt; simp only [he.2]
  rw [hty] at ht0
  show W p l e R (s.setDrawn d0) m args below meth c Hm locs cells slots Z (F0 m pc lsm (.int i :: Value.ref (adr base b q a) :: cst (adr base b q) st))
  rw [had]
  have hKd : va_K D vwCl tys (s.setDrawn d0) := hr.1
  exact va_fald (s := s.setDrawn d0) hc.1 hc.2.1 hKd (arr1 (D := D) h1) 0 t0 rfl ht0 hin hd (k hc hd0 hr hs hbs hcl hsl hl hz)
theorem wp_daload {a : Nat} {o : Option Nat} {i : Int32} (hd : decode M.2.1 pc = .ok (.daload, 1)) (ho : o = some a) (he : isA H a 5) (hin : vp_in i (ln H a)) (k : WP d M ca sa (pc + 1) ls (.double (hD H (tg H a) a i.toNatClampNeg) :: st) H Q) : WP d M ca sa pc ls (.int i :: rv o :: st) H Q := by
  intro p l e R s m args below meth c Hm locs cells slots d0 D base b q tys cA lsm Z hc hd0 hr hs hbs hcl hsl hl hz
  subst ho
  obtain ⟨ha, had, h1, t0, ht0⟩ := rep_arr hr he.1
  rw [(aval_5 he.2)] at h1
  have hty : aelt (tg H a) = .double := by unfold aelt; simp only [he.2]
  rw [hty] at ht0
  show W p l e R (s.setDrawn d0) m args below meth c Hm locs cells slots Z (F0 m pc lsm (.int i :: Value.ref (adr base b q a) :: cst (adr base b q) st))
  rw [had]
  have hKd : va_K D vwCl tys (s.setDrawn d0) := hr.1
  exact va_dald (s := s.setDrawn d0) hc.1 hc.2.1 hKd (arr1 (D := D) h1) 0 t0 rfl ht0 hin hd (k hc hd0 hr hs hbs hcl hsl hl hz)
theorem wp_aaload {a e : Nat} {o : Option Nat} {i : Int32} (hd : decode M.2.1 pc = .ok (.aaload, 1)) (ho : o = some a) (he : isA H a e) (h6 : 6 ≤ e) (hin : vp_in i (ln H a)) (k : WP d M ca sa (pc + 1) ls (rv (hR H (tg H a) a i.toNatClampNeg) :: st) H Q) : WP d M ca sa pc ls (.int i :: rv o :: st) H Q := by
  intro p l e' R s m args below meth c Hm locs cells slots d0 D base b q tys cA lsm Z hc hd0 hr hs hbs hcl hsl hl hz
  subst ho
  obtain ⟨ha, had, h1, t0, ht0⟩ := rep_arr hr he.1
  rw [aval_6 (by rw [he.2]; exact h6)] at h1
  have hty : ∃ C, aelt (tg H a) = .object C := by
    unfold aelt
    split <;> first | exact ⟨_, rfl⟩ | (exfalso; have := he.2; omega)
  obtain ⟨C, hC'⟩ := hty
  rw [hC'] at ht0
  show W p l e' R (s.setDrawn d0) m args below meth c Hm locs cells slots Z (F0 m pc lsm (.int i :: Value.ref (adr base b q a) :: cst (adr base b q) st))
  rw [had]
  have hKd : va_K D vwCl tys (s.setDrawn d0) := hr.1
  refine va_aldq (s := s.setDrawn d0) hc.1 hc.2.1 hKd (arr1 (D := D) h1) 0 t0 rfl ht0 hin hd ?_
  have := k hc hd0 hr hs hbs hcl hsl hl hz
  rw [cst_cons, cv_rv] at this
  exact this
theorem wp_iastore {a : Nat} {o : Option Nat} {i : Int32} {x : Int32} (hd : decode M.2.1 pc = .ok (.iastore, 1)) (ho : o = some a) (he : isA H a 0) (hin : vp_in i (ln H a)) (k : WP d M ca sa (pc + 1) ls st (sI H (tg H a) a i.toNatClampNeg x) Q) : WP d M ca sa pc ls (.int x :: .int i :: rv o :: st) H Q := by
  intro p l e R s m args below meth c Hm locs cells slots d0 D base b q tys cA lsm Z hc hd0 hr hs hbs hcl hsl hl hz
  subst ho
  obtain ⟨ha, had, h1, t0, ht0⟩ := rep_arr hr he.1
  rw [aval_0 he.2 (by decide)] at h1
  have hty : aelt (tg H a) = .int := by unfold aelt; simp only [he.2]
  rw [hty] at ht0
  show W p l e R (s.setDrawn d0) m args below meth c Hm locs cells slots Z (F0 m pc lsm (.int x :: .int i :: Value.ref (adr base b q a) :: cst (adr base b q) st))
  rw [had]
  have hKd : va_K D vwCl tys (s.setDrawn d0) := hr.1
  refine W.iast (s := s.setDrawn d0) hc.1 hc.2.1 h1 ((hKd.2 t0 _ ht0).1 (ln H a) _) (fun q => by cases q) (by show ¬ (i < 0 ∨ (arrV _ _ _).slots.size ≤ _); rw [arrV_size]; exact hin) rfl rfl hd fun H1 e1 e2 e3 => ?_
  refine k (tys := tys) (cA := cA) hc hd0 ?_ (hs.put e2 e3 (Nat.le_add_right _ _)) hbs hcl hsl hl hz
  refine hr.arr he.1 e2 e3 rfl rfl rfl ?_ (u3_ne _ _ _) (fun _ _ _ _ => rfl) (fun _ _ _ _ => rfl) (fun _ _ _ _ => rfl) (fun _ _ _ _ => rfl) rfl
  rw [e1, aval_0 he.2 (by decide), vp_cell_i, vp_cell_i, arrV_store]
  refine congrArg (fun f => some (arrV (cA a) (ln H a) f)) (funext fun j => ?_)
  by_cases hj : j = i.toNatClampNeg
  · subst hj
    simp [updV, u3, hI_sI, narrow, vp_nar]
  · simp [updV, u3, hI_sI, hj]
theorem wp_bastore {a : Nat} {o : Option Nat} {i : Int32} {x : Int32} (hd : decode M.2.1 pc = .ok (.bastore, 1)) (ho : o = some a) (he : isA H a 1) (hin : vp_in i (ln H a)) (k : WP d M ca sa (pc + 1) ls st (sI H (tg H a) a i.toNatClampNeg x.toInt8.toInt32) Q) : WP d M ca sa pc ls (.int x :: .int i :: rv o :: st) H Q := by
  intro p l e R s m args below meth c Hm locs cells slots d0 D base b q tys cA lsm Z hc hd0 hr hs hbs hcl hsl hl hz
  subst ho
  obtain ⟨ha, had, h1, t0, ht0⟩ := rep_arr hr he.1
  rw [aval_0 he.2 (by decide)] at h1
  have hty : aelt (tg H a) = .byte := by unfold aelt; simp only [he.2]
  rw [hty] at ht0
  show W p l e R (s.setDrawn d0) m args below meth c Hm locs cells slots Z (F0 m pc lsm (.int x :: .int i :: Value.ref (adr base b q a) :: cst (adr base b q) st))
  rw [had]
  have hKd : va_K D vwCl tys (s.setDrawn d0) := hr.1
  refine W.bast (s := s.setDrawn d0) hc.1 hc.2.1 h1 ((hKd.2 t0 _ ht0).1 (ln H a) _) (fun q => by cases q) (by show ¬ (i < 0 ∨ (arrV _ _ _).slots.size ≤ _); rw [arrV_size]; exact hin) rfl rfl hd fun H1 e1 e2 e3 => ?_
  refine k (tys := tys) (cA := cA) hc hd0 ?_ (hs.put e2 e3 (Nat.le_add_right _ _)) hbs hcl hsl hl hz
  refine hr.arr he.1 e2 e3 rfl rfl rfl ?_ (u3_ne _ _ _) (fun _ _ _ _ => rfl) (fun _ _ _ _ => rfl) (fun _ _ _ _ => rfl) (fun _ _ _ _ => rfl) rfl
  rw [e1, aval_0 he.2 (by decide), vp_cell_i, vp_cell_i, arrV_store]
  refine congrArg (fun f => some (arrV (cA a) (ln H a) f)) (funext fun j => ?_)
  by_cases hj : j = i.toNatClampNeg
  · subst hj
    simp [updV, u3, hI_sI, narrow, vp_nar]
  · simp [updV, u3, hI_sI, hj]
theorem wp_zastore {a : Nat} {o : Option Nat} {i : Int32} {x : Int32} (hd : decode M.2.1 pc = .ok (.bastore, 1)) (ho : o = some a) (he : isA H a 2) (hin : vp_in i (ln H a)) (k : WP d M ca sa (pc + 1) ls st (sI H (tg H a) a i.toNatClampNeg (vp_nar .boolean x)) Q) : WP d M ca sa pc ls (.int x :: .int i :: rv o :: st) H Q := by
  intro p l e R s m args below meth c Hm locs cells slots d0 D base b q tys cA lsm Z hc hd0 hr hs hbs hcl hsl hl hz
  subst ho
  obtain ⟨ha, had, h1, t0, ht0⟩ := rep_arr hr he.1
  rw [aval_0 he.2 (by decide)] at h1
  have hty : aelt (tg H a) = .boolean := by unfold aelt; simp only [he.2]
  rw [hty] at ht0
  show W p l e R (s.setDrawn d0) m args below meth c Hm locs cells slots Z (F0 m pc lsm (.int x :: .int i :: Value.ref (adr base b q a) :: cst (adr base b q) st))
  rw [had]
  have hKd : va_K D vwCl tys (s.setDrawn d0) := hr.1
  refine W.zast (s := s.setDrawn d0) hc.1 hc.2.1 h1 ((hKd.2 t0 _ ht0).1 (ln H a) _) (fun q => by cases q) (by show ¬ (i < 0 ∨ (arrV _ _ _).slots.size ≤ _); rw [arrV_size]; exact hin) rfl rfl hd fun H1 e1 e2 e3 => ?_
  refine k (tys := tys) (cA := cA) hc hd0 ?_ (hs.put e2 e3 (Nat.le_add_right _ _)) hbs hcl hsl hl hz
  refine hr.arr he.1 e2 e3 rfl rfl rfl ?_ (u3_ne _ _ _) (fun _ _ _ _ => rfl) (fun _ _ _ _ => rfl) (fun _ _ _ _ => rfl) (fun _ _ _ _ => rfl) rfl
  rw [e1, aval_0 he.2 (by decide), vp_cell_i, vp_cell_i, arrV_store]
  refine congrArg (fun f => some (arrV (cA a) (ln H a) f)) (funext fun j => ?_)
  by_cases hj : j = i.toNatClampNeg
  · subst hj
    simp [updV, u3, hI_sI, narrow, vp_nar]
  · simp [updV, u3, hI_sI, hj]
theorem wp_lastore {a : Nat} {o : Option Nat} {i : Int32} {x : Int64} (hd : decode M.2.1 pc = .ok (.lastore, 1)) (ho : o = some a) (he : isA H a 3) (hin : vp_in i (ln H a)) (k : WP d M ca sa (pc + 1) ls st (sL H (tg H a) a i.toNatClampNeg x) Q) : WP d M ca sa pc ls (.long x :: .int i :: rv o :: st) H Q := by
  intro p l e R s m args below meth c Hm locs cells slots d0 D base b q tys cA lsm Z hc hd0 hr hs hbs hcl hsl hl hz
  subst ho
  obtain ⟨ha, had, h1, t0, ht0⟩ := rep_arr hr he.1
  rw [aval_3 he.2] at h1
  have hty : aelt (tg H a) = .long := by unfold aelt; simp only [he.2]
  rw [hty] at ht0
  show W p l e R (s.setDrawn d0) m args below meth c Hm locs cells slots Z (F0 m pc lsm (.long x :: .int i :: Value.ref (adr base b q a) :: cst (adr base b q) st))
  rw [had]
  have hKd : va_K D vwCl tys (s.setDrawn d0) := hr.1
  refine W.last (s := s.setDrawn d0) hc.1 hc.2.1 h1 ((hKd.2 t0 _ ht0).1 (ln H a) _) (fun q => by cases q) (by show ¬ (i < 0 ∨ (arrV _ _ _).slots.size ≤ _); rw [arrV_size]; exact hin) rfl rfl hd fun H1 e1 e2 e3 => ?_
  refine k (tys := tys) (cA := cA) hc hd0 ?_ (hs.put e2 e3 (Nat.le_add_right _ _)) hbs hcl hsl hl hz
  refine hr.arr he.1 e2 e3 rfl rfl rfl ?_ (fun _ _ _ _ => rfl) (u3_ne _ _ _) (fun _ _ _ _ => rfl) (fun _ _ _ _ => rfl) (fun _ _ _ _ => rfl) rfl
  rw [e1, aval_3 he.2, vp_cell_l, vp_cell_l, arrV_store]
  refine congrArg (fun f => some (arrV (cA a) (ln H a) f)) (funext fun j => ?_)
  by_cases hj : j = i.toNatClampNeg
  · subst hj
    simp [updV, u3, hL_sL, narrow, vp_nar]
  · simp [updV, u3, hL_sL, hj]
theorem wp_fastore {a : Nat} {o : Option Nat} {i : Int32} {x : UInt32} (hd : decode M.2.1 pc = .ok (.fastore, 1)) (ho : o = some a) (he : isA H a 4) (hin : vp_in i (ln H a)) (k : WP d M ca sa (pc + 1) ls st (sF H (tg H a) a i.toNatClampNeg x) Q) : WP d M ca sa pc ls (.float x :: .int i :: rv o :: st) H Q := by
  intro p l e R s m args below meth c Hm locs cells slots d0 D base b q tys cA lsm Z hc hd0 hr hs hbs hcl hsl hl hz
  subst ho
  obtain ⟨ha, had, h1, t0, ht0⟩ := rep_arr hr he.1
  rw [aval_4 he.2] at h1
  have hty : aelt (tg H a) = .float := by unfold aelt; simp only [he.2]
  rw [hty] at ht0
  show W p l e R (s.setDrawn d0) m args below meth c Hm locs cells slots Z (F0 m pc lsm (.float x :: .int i :: Value.ref (adr base b q a) :: cst (adr base b q) st))
  rw [had]
  have hKd : va_K D vwCl tys (s.setDrawn d0) := hr.1
  refine W.fast (s := s.setDrawn d0) hc.1 hc.2.1 h1 ((hKd.2 t0 _ ht0).1 (ln H a) _) (fun q => by cases q) (by show ¬ (i < 0 ∨ (arrV _ _ _).slots.size ≤ _); rw [arrV_size]; exact hin) rfl rfl hd fun H1 e1 e2 e3 => ?_
  refine k (tys := tys) (cA := cA) hc hd0 ?_ (hs.put e2 e3 (Nat.le_add_right _ _)) hbs hcl hsl hl hz
  refine hr.arr he.1 e2 e3 rfl rfl rfl ?_ (fun _ _ _ _ => rfl) (fun _ _ _ _ => rfl) (u3_ne _ _ _) (fun _ _ _ _ => rfl) (fun _ _ _ _ => rfl) rfl
  rw [e1, aval_4 he.2, vp_cell_f, vp_cell_f, arrV_store]
  refine congrArg (fun f => some (arrV (cA a) (ln H a) f)) (funext fun j => ?_)
  by_cases hj : j = i.toNatClampNeg
  · subst hj
    simp [updV, u3, hF_sF, narrow, vp_nar]
  · simp [updV, u3, hF_sF, hj]
theorem wp_dastore {a : Nat} {o : Option Nat} {i : Int32} {x : UInt64} (hd : decode M.2.1 pc = .ok (.dastore, 1)) (ho : o = some a) (he : isA H a 5) (hin : vp_in i (ln H a)) (k : WP d M ca sa (pc + 1) ls st (sD H (tg H a) a i.toNatClampNeg x) Q) : WP d M ca sa pc ls (.double x :: .int i :: rv o :: st) H Q := by
  intro p l e R s m args below meth c Hm locs cells slots d0 D base b q tys cA lsm Z hc hd0 hr hs hbs hcl hsl hl hz
  subst ho
  obtain ⟨ha, had, h1, t0, ht0⟩ := rep_arr hr he.1
  rw [aval_5 he.2] at h1
  have hty : aelt (tg H a) = .double := by unfold aelt; simp only [he.2]
  rw [hty] at ht0
  show W p l e R (s.setDrawn d0) m args below meth c Hm locs cells slots Z (F0 m pc lsm (.double x :: .int i :: Value.ref (adr base b q a) :: cst (adr base b q) st))
  rw [had]
  have hKd : va_K D vwCl tys (s.setDrawn d0) := hr.1
  refine W.dast (s := s.setDrawn d0) hc.1 hc.2.1 h1 ((hKd.2 t0 _ ht0).1 (ln H a) _) (fun q => by cases q) (by show ¬ (i < 0 ∨ (arrV _ _ _).slots.size ≤ _); rw [arrV_size]; exact hin) rfl rfl hd fun H1 e1 e2 e3 => ?_
  refine k (tys := tys) (cA := cA) hc hd0 ?_ (hs.put e2 e3 (Nat.le_add_right _ _)) hbs hcl hsl hl hz
  refine hr.arr he.1 e2 e3 rfl rfl rfl ?_ (fun _ _ _ _ => rfl) (fun _ _ _ _ => rfl) (fun _ _ _ _ => rfl) (u3_ne _ _ _) (fun _ _ _ _ => rfl) rfl
  rw [e1, aval_5 he.2, vp_cell_d, vp_cell_d, arrV_store]
  refine congrArg (fun f => some (arrV (cA a) (ln H a) f)) (funext fun j => ?_)
  by_cases hj : j = i.toNatClampNeg
  · subst hj
    simp [updV, u3, hD_sD, narrow, vp_nar]
  · simp [updV, u3, hD_sD, hj]
theorem wp_aastore {a e ci : Nat} {o v : Option Nat} {r : vw_C} {i : Int32} (hd : decode M.2.1 pc = .ok (.aastore, 1)) (ho : o = some a) (he : isA H a e) (h6 : 6 ≤ e) (hin : vp_in i (ln H a)) (hc' : vwCl[ci]? = some r) (hel : ∀ t, 6 ≤ e → t % 16 = e → aelt t = .object r.1) (hv : ∀ x, v = some x → tg H x = ci + 1) (k : WP d M ca sa (pc + 1) ls st (sR H (tg H a) a i.toNatClampNeg v) Q) : WP d M ca sa pc ls (rv v :: .int i :: rv o :: st) H Q := by
  intro p l e' R s m args below meth c Hm locs cells slots d0 D base b q tys cA lsm Z hc hd0 hr hs hbs hcl hsl hl hz
  subst ho
  obtain ⟨ha, had, h1, t0, ht0⟩ := rep_arr hr he.1
  have h66 : 6 ≤ tg H a % 16 := by rw [he.2]; exact h6
  rw [aval_6 h66] at h1
  rw [hel _ h6 he.2] at ht0
  show W p l e' R (s.setDrawn d0) m args below meth c Hm locs cells slots Z (F0 m pc lsm (cv (adr base b q) (rv v) :: .int i :: Value.ref (adr base b q a) :: cst (adr base b q) st))
  rw [had]
  have fin : ∀ (H1 : Heap), H1[base + a]? = some ((arrV (cA a) (ln H a) (fun j => va_rf ((hR H (tg H a) a j).map (adr base b q)))).setSlot i.toNatClampNeg (cv (adr base b q) (rv v))) → H1.size = Hm.size → (∀ x, x ≠ base + a → H1[x]? = Hm[x]?) →
      W p l e' R (s.setDrawn d0) m args below meth c H1 (locs ++ [⟨base + a, i.toNatClampNeg⟩]) cells slots Z (F0 m (pc + 1) lsm (cst (adr base b q) st)) := by
    intro H1 e1 e2 e3
    refine k (tys := tys) (cA := cA) hc hd0 ?_ (hs.put e2 e3 (Nat.le_add_right _ _)) hbs hcl hsl hl hz
    refine hr.arr he.1 e2 e3 rfl rfl rfl ?_ (fun _ _ _ _ => rfl) (fun _ _ _ _ => rfl) (fun _ _ _ _ => rfl) (fun _ _ _ _ => rfl) (u3_ne _ _ _) rfl
    rw [e1, aval_6 h66, vp_cell_q, arrV_store]
    refine congrArg (fun f => some (arrV (cA a) (ln H a) f)) (funext fun j => ?_)
    by_cases hj : j = i.toNatClampNeg
    · subst hj
      simp [updV, u3, hR_sR, cv_rv]
    · simp [updV, u3, hR_sR, hj]
  have hKd : va_K D vwCl tys (s.setDrawn d0) := hr.1
  have hlt : i.toNatClampNeg < ln H a := Nat.not_le.mp fun q => hin (Or.inr q)
  have h0 : ¬ i < 0 := fun q => hin (Or.inl q)
  cases v with
  | none =>
    exact va_WaastN (s := s.setDrawn d0) (C := r.1) hc.1 hc.2.1 h1 ((hKd.2 t0 _ ht0).1 (ln H a) (fun j => va_rf ((hR H (tg H a) a j).map (adr base b q)))) (fun h => by cases h) (by show ¬ (i < 0 ∨ (arrV _ _ _).slots.size ≤ _); rw [arrV_size]; exact hin) rfl rfl hd fin
  | some x =>
    obtain ⟨hx1, hx2, cellV, g1, g2, g3, -⟩ := rep_obj hr (hv x rfl) hc'
    have hcls := (hKd.1 ci r hc').2
    obtain ⟨kA, comp, k1, k2, k3, -⟩ := (hKd.2 t0 _ ht0).2
    have hcomp : comp = D.1 ci := Option.some.inj (k3.symm.trans hcls.1)
    subst hcomp
    have hcls' : ClassAt (s.setDrawn d0) r.1 (D.1 ci) := hcls
    obtain ⟨kC, hkC, -⟩ := hcls.2
    have fin2 : ∀ (H1 : Heap), H1[base + a]? = some ((arrV (cA a) (ln H a) (fun j => va_rf ((hR H (tg H a) a j).map (adr base b q)))).setSlot i.toNatClampNeg (.ref (base + x))) → H1.size = Hm.size → (∀ x, x ≠ base + a → H1[x]? = Hm[x]?) →
      W p l e' R (s.setDrawn d0) m args below meth c H1 (locs ++ [⟨base + a, i.toNatClampNeg⟩]) cells slots Z (F0 m (pc + 1) lsm (cst (adr base b q) st)) := by
      intro H1 e1
      refine fin H1 ?_
      show _ = some ((arrV _ _ _).setSlot _ (.ref (adr base b q x)))
      rw [hx2]; exact e1
    show W p l e' R (s.setDrawn d0) m args below meth c Hm locs cells slots Z (F0 m pc lsm (Value.ref (adr base b q x) :: .int i :: Value.ref (base + a) :: cst (adr base b q) st))
    rw [hx2]
    exact W.aast (s := s.setDrawn d0) hc.1 hc.2.1 h1 (fun q h => by cases h) (fun h => by cases h) k1 k2 rfl hkC ⟨h0, by show _ < (arrV _ _ _).slots.size; rw [arrV_size]; exact hlt⟩ g1 (fun q h => by rw [g3] at h; cases h) (by rw [g2]; exact hkC) (by rw [g2]; exact va_assign hcls') rfl rfl hd fin2

/-! ===== calls ===== -/
theorem strOK.warm {base : Nat} {q : QA} {s U : State} {Hm : Heap} (hW : s.WarmedH U.vm) (h : strOK base q s Hm) : strOK base q U Hm := by
  obtain ⟨h1, h2, h3, h4, h5, h6⟩ := h
  exact ⟨h1.moved hW.alike, h2.warm hW, h3.moved hW.alike, h4.imp (fun h => h.moved hW.alike) (fun h => h.moved hW.alike), fun x hx => (h5 x hx).warmM hW, fun C hC => (h6 C hC).moved hW.alike⟩
theorem strOK.same {base : Nat} {q : QA} {u U : State} {Hm : Heap} (hv : U.vm = u.vm) (h : strOK base q u Hm) : strOK base q U Hm := by
  obtain ⟨h1, h2, h3, h4, h5, h6⟩ := h
  have hA : u.vm.Alike U.vm := by rw [hv]; exact Vm.Alike.refl _
  exact ⟨h1.moved hA, h2.same hv, h3.moved hA, h4.imp (fun h => h.moved hA) (fun h => h.moved hA), fun x hx => (h5 x hx).same rfl hv.symm, fun C hC => (h6 C hC).moved hA⟩
theorem Rep.warm {D : va_G} {base b : Nat} {q : QA} {tys : List (ClassId × FieldType)} {cA : Nat → ClassId} {s U : State} {Hm : Heap} (hW : s.WarmedH U.vm) (h : Rep D base b q tys cA H s Hm) : Rep D base b q tys cA H U Hm := by
  obtain ⟨hK, hCel, hs0, hty, htg, hsc, hx, hb, hl, hst⟩ := h
  exact ⟨hK.moved hW.alike, hCel, hs0, hty, htg, hsc, hx.moved hW.alike, hb, hl, hst.warm hW⟩
theorem Rep.same {D : va_G} {base b : Nat} {q : QA} {tys : List (ClassId × FieldType)} {cA : Nat → ClassId} {u U : State} {Hm : Heap} (hv : U.vm = u.vm) (h : Rep D base b q tys cA H u Hm) : Rep D base b q tys cA H U Hm := by
  obtain ⟨hK, hCel, hs0, hty, htg, hsc, hx, hb, hl, hst⟩ := h
  have hA : u.vm.Alike U.vm := by rw [hv]; exact Vm.Alike.refl _
  exact ⟨hK.moved hA, hCel, hs0, hty, htg, hsc, hx.moved hA, hb, hl, hst.same hv⟩
theorem Rep.back {D : va_G} {base b : Nat} {q : QA} {tys tys' : List (ClassId × FieldType)} {cA cA' : Nat → ClassId} {s t : State} {Hm Hm' : Heap} {H' : HP} (h0 : Rep D base b q tys cA H s Hm) (h : Rep D base b q tys' cA' H' t Hm') (hvm : s.vm.Alike t.vm) (hk : ∀ x, x < Hm.size → x < base → Hm'[x]? = Hm[x]?) : Rep D base b q tys' cA' H' s Hm' := by
  obtain ⟨hK, hCel, hs0, hty, htg, hsc, hx, hb, hl, hst⟩ := h
  exact ⟨hK.moved hvm.symm, hCel, hs0, hty, htg, hsc, hx.moved hvm.symm, hb, hl, h0.2.2.2.2.2.2.2.2.2.kept hk⟩
def wsM (M : MM) : List Cond := Cond.code M.1 M.2.1 M.2.2.1 M.2.2.2 :: tbG
def rmM (d mc ms : Nat) : Room := { frames := d, cells := mc, slots := ms, locals := 64 * d }
def PcM (D : va_G) (base b : Nat) (q : QA) (tys : List (ClassId × FieldType)) (cA : Nat → ClassId) (vs : List Value) (H : HP) : Array Value → State → Prop := fun v U => v = (cst (adr base b q) vs).toArray ∧ Rep D base b q tys cA H U U.heap
def QcM (D : va_G) (base b : Nat) (q : QA) (Q : HP → Option Value → Prop) : Array Value → State → Outcome → State → Prop := fun _ st oc t => ∃ (H' : HP) (r : Option Value) (tys' : List (ClassId × FieldType)) (cA' : Nat → ClassId), oc = .returned (r.map (cv (adr base b q))) ∧ Q H' r ∧ Rep D base b q tys' cA' H' t t.heap ∧ va_F (fun x => base ≤ x) st t
/-- method M, called with these values over this heap, with d frames and this many new cells and slots, returns, and Q holds -/
def Call (d mc ms : Nat) (M : MM) (vs : List Value) (H : HP) (Q : HP → Option Value → Prop) : Prop :=
  ∀ (l : Launch) (D : va_G) (base b : Nat) (q : QA) (tys : List (ClassId × FieldType)) (cA : Nat → ClassId), MetD lw_cs l M.1 (wsM M) (rmM d mc ms) (PcM D base b q tys cA vs H) (QcM D base b q Q) mc ms (fun x => base ≤ x)
theorem lg_sl_cst (ad : Nat → Nat) (vs : List Value) : (lg_sl (cst ad vs)).length = (lg_sl vs).length := by
  unfold lg_sl cst
  induction vs with
  | nil => rfl
  | cons v vs ih =>
    simp only [List.map_cons, List.flatMap_cons, List.length_append, ih, cv_cat]
    split <;> rfl
theorem lv_args_cst (ad : Nat → Nat) (vs : List Value) : ∀ i, lv_args i (cst ad vs) = clv ad (lv_args i vs) := by
  induction vs with
  | nil => intro i; rfl
  | cons v vs ih =>
    intro i
    show lv_args i (cv ad v :: cst ad vs) = _
    simp only [lv_args, cv_cat, ih]
    rfl
theorem metD_ofWF {l : Launch} {y : MethodName} {ws ws' : List Cond} {rm : Room} {Pc : Array Value → State → Prop} {Qc : Array Value → State → Outcome → State → Prop} {mc ms : Nat} {free : Addr → Prop} {cc : ByteArray} {maxL : Nat} {ret : Option FieldType}
    (hy : plainFor y = true) (hw : ws = Cond.code y cc maxL ret :: ws')
    (body : ∀ p e s m args below meth c s₁, BodyLoose p l y (headSpec ws rm) cc maxL ret e s m args below meth c s₁ → c.maxLocals = maxL → Pc args s → s.drawn.sameBut s.drawn lw_cs →
      W p l e (headSpec ws rm).room (s.setDrawn s.drawn) m args below meth c s.heap [] 0 0 (MQD lw_cs below Qc args s mc ms free) (entryFrame m args maxL)) : MetD lw_cs l y ws rm Pc Qc mc ms free := by
  refine MetFree.of_bodySF (code := cc) (maxLocals := maxL) (ret := ret) hy ?_ ?_
  · intro args s m h hn
    obtain ⟨meth, c, h1, h2, h3, h4, h5, h6, -, -⟩ := Cond.code_spec hn (atoms_spec (ws := ws) h _ (by rw [hw]; exact List.mem_cons_self))
    exact ⟨meth, c, h1, h2, h3, h4, h5, h6⟩
  · intro p e s m args below meth c s₁ B hml hP _
    have hh0 : s₁.heap = s.heap := by rw [B.state]; rfl
    have X0 : Stand p l e (headSpec ws rm).room (s.setDrawn s.drawn) m args below meth c s₁ [] 0 0 := Stand.of_body B
    obtain ⟨t, a1, d, hd, o, b1, b2, b3, b4⟩ := body p e s m args below meth c s₁ B hml hP (Drawn.sameBut.refl _ _) s₁ hh0 X0
    exact ⟨t, o, a1, b1, b2, d, hd, b3, b4⟩
theorem call_of {mc ms : Nat} {vs : List Value} (hy : plainFor M.1 = true) (hn : (lg_sl vs).length ≤ M.2.2.1) (h : WP d M mc ms 0 (lv_args 0 vs) [] H Q) : Call d mc ms M vs H Q := by
  intro l D base b q tys cA
  refine metD_ofWF (cc := M.2.1) (maxL := M.2.2.1) (ret := M.2.2.2) hy rfl ?_
  intro p e s m args below meth c s₁ B hml hv hd0
  obtain ⟨rfl, hRep⟩ := hv
  have hts : ∀ w ∈ wsM M, w.before (cst (adr base b q) vs).toArray s = true := atoms_spec (ws := wsM M) B.pre
  have hown : s.vm.findClass M.1.cls = some m.cls := findClass_of_methodNamed B.named
  have hname : meth.name = M.1.name := (name_of_methodNamed B.named B.method).1
  have hlocks := B.notSynchronized
  have hl := lv_entry (cst (adr base b q) vs) (n := M.2.2.1) (by rw [lg_sl_cst]; exact hn)
  rw [lg_entry_eq]
  generalize (lg_sl (cst (adr base b q) vs) ++ List.replicate (M.2.2.1 - (lg_sl (cst (adr base b q) vs)).length) Slot.unset).toArray = lsm at hl ⊢
  rw [lv_args_cst] at hl
  have hsz : s.heap.size = base + hN H := hRep.2.2.1
  have hC : Cx d M p (headSpec (wsM M) (rmM d mc ms)).room s m (cst (adr base b q) vs).toArray meth c := ⟨B.exec, B.bytes, hml, B.returns, hown, hlocks, fun h => hname.trans h, fun w hw => hts w (List.mem_cons_of_mem _ hw), Nat.le_refl _, Nat.le_refl _⟩
  refine h hC hd0 hRep va_S.rf (by omega) (Nat.le_of_eq (Nat.zero_add _)) (Nat.le_of_eq (Nat.zero_add _)) hl ?_
  intro pc' lsm' Hm' locs' cells' slots' d0' tys' cA' H' r hd1 hR1 hS1 hc1 hs1 hQ hret
  refine W.widen (k := mc) (n := ms) hc1 hs1 ?_
  refine W.endD hd1 ?_
  have hq : ∀ t : State, t.heap = Hm' → (s.setDrawn d0').WarmedH t.vm → QcM D base b q Q (cst (adr base b q) vs).toArray (s.setDrawn d0') (.returned (r.map (cv (adr base b q)))) t := by
    intro t ht hW
    refine ⟨H', r, tys', cA', rfl, hQ, ?_, hS1.F ht⟩
    rw [ht]
    have hR2 : Rep D base b q tys' cA' H' (s.setDrawn d0') Hm' := hR1.same rfl
    exact hR2.warm hW
  have hf := hS1.2.2
  cases r with
  | none => exact W.vret (s := s.setDrawn d0') B.exec B.bytes (B.returns.trans hret.2) hq hf hret.1 hlocks
  | some v =>
    cases v with
    | int x =>
      obtain ⟨hd, ty, hty, hnar⟩ := hret
      exact W.zret (s := s.setDrawn d0') B.exec B.bytes (B.returns.trans hty) hnar hq hf hd hlocks
    | long x => exact W.lret (s := s.setDrawn d0') B.exec B.bytes (B.returns.trans hret.2) hq hf hret.1 hlocks
    | float x => exact W.fret (s := s.setDrawn d0') B.exec B.bytes (B.returns.trans hret.2) hq hf hret.1 hlocks
    | double x => exact W.dret (s := s.setDrawn d0') B.exec B.bytes (B.returns.trans hret.2) hq hf hret.1 hlocks
    | null =>
      obtain ⟨hd, n, hn'⟩ := hret
      exact W.aret (s := s.setDrawn d0') B.exec B.bytes (B.returns.trans hn') (Or.inl ⟨n, rfl⟩) (Or.inl rfl) hq hf hd hlocks
    | ref a =>
      obtain ⟨hd, n, hn'⟩ := hret
      exact W.aret (s := s.setDrawn d0') B.exec B.bytes (B.returns.trans hn') (Or.inl ⟨n, rfl⟩) (Or.inr ⟨_, rfl⟩) hq hf hd hlocks
    | retAddr x => exact hret.elim


theorem Call.weaken {mc ms : Nat} {vs : List Value} {Q' : HP → Option Value → Prop} (k : Call d mc ms M vs H Q) (h : ∀ H' r, Q H' r → Q' H' r) : Call d mc ms M vs H Q' := by
  intro l D base b q tys cA p e ha hc hk s m args below hf happ hP hK
  obtain ⟨n, o, h1, h2, h3, dd, h4, ⟨H', r, tys', cA', g1, g2, g3⟩, L, h6, h7⟩ := k l D base b q tys cA p e ha hc hk s m args below hf happ hP hK
  exact ⟨n, o, h1, h2, h3, dd, h4, ⟨H', r, tys', cA', g1, h _ _ g2, g3⟩, L, h6, h7⟩
/-- what a call site's entry links to -/
def LkB (own : String) (idx : Nat) (M' : MM) (n : Nat) : Prop := ((Cond.methodLink own idx M'.1 ∈ tbG) ∨ ∃ host, (own, idx, M'.1, host) ∈ nestL) ∧ Cond.code M'.1 M'.2.1 M'.2.2.1 M'.2.2.2 ∈ tbG ∧ Cond.initialized M'.1.cls ∈ tbG ∧ M'.1.cls ≠ "java/lang/invoke/MethodHandle" ∧ M'.1.cls ≠ "java/lang/invoke/VarHandle" ∧ (parseMethodDescriptor M'.1.desc).map (fun d => d.parameters.length) = some n ∧ M'.2.2.1 ≤ 40
def LkV (own : String) (idx : Nat) (M' : MM) (n : Nat) : Prop := LkB own idx M' n ∧ Cond.instanceMethod M'.1 ∈ tbG ∧ Cond.selects M'.1.cls M'.1 M'.1 ∈ tbG
def LkS (own : String) (idx : Nat) (M' : MM) (n : Nat) : Prop := LkB own idx M' n ∧ Cond.static M'.1 ∈ tbG
def LkI (own : String) (idx : Nat) (M' : MM) (n : Nat) : Prop := LkB own idx M' n ∧ M'.1.name = "<init>" ∧ Cond.instanceMethod M'.1 ∈ tbG ∧ M'.2.2.2 = none
theorem wsM_good {M' : MM} (h : Cond.code M'.1 M'.2.1 M'.2.2.1 M'.2.2.2 ∈ tbG) : GoodIn tbG (wsM M') := tbG_good (fun w hw => by
  rcases List.mem_cons.mp hw with rfl | hw
  · exact h
  · exact hw)
theorem pc_blind {D : va_G} {base b : Nat} {q : QA} {tys : List (ClassId × FieldType)} {cA : Nat → ClassId} {vs : List Value} : FrameBlind (PcM D base b q tys cA vs H) := fun a U g mk h => ⟨h.1, h.2.same rfl⟩
/-- behind a call -/
theorem wp_run {p : Program} {l : Launch} {e : Env} {R : Room} {s : State} {m : MethodId} {args : Array Value} {below : List Frame} {meth : Method} {c : Code} {Hm : Heap} {locs : List Loc} {cells slots : Nat} {d0 : Drawn} {D : va_G} {base b : Nat} {q : QA} {tys : List (ClassId × FieldType)} {cA : Nat → ClassId} {lsm : Array Slot} {Z : State → Prop} {mc ms ca' sa' : Nat} {stm : List Value} {rest : List Value} {a : Array Value}
    (hc : Cx d M p R s m args meth c) (hd0 : s.drawn.sameBut d0 lw_cs) (hr : Rep D base b q tys cA H s Hm) (hs : va_S (fun x => base ≤ x) s.heap Hm locs) (hbs : base ≤ s.heap.size) (hcl : cells + ca ≤ R.cells) (hsl : slots + sa ≤ R.slots) (hl : lv_has lsm M.2.2.1 (clv (adr base b q) ls))
    (hz : ∀ (pc' : Nat) (lsm' : Array Slot) (Hm' : Heap) (locs' : List Loc) (cells' slots' : Nat) (d0' : Drawn) (tys' : List (ClassId × FieldType)) (cA' : Nat → ClassId) (H' : HP) (r : Option Value),
      s.drawn.sameBut d0' lw_cs → Rep D base b q tys' cA' H' s Hm' → va_S (fun x => base ≤ x) s.heap Hm' locs' → cells' ≤ R.cells → slots' ≤ R.slots → Q H' r → RetOK M pc' (r.map (cv (adr base b q))) →
      W p l e R (s.setDrawn d0') m args below meth c Hm' locs' cells' slots' Z (F0 m pc' lsm' (r.map (cv (adr base b q))).toList))
    (hmc : ca = ca' + mc) (hms : sa = sa' + ms)
    (hrun : va_RunD lw_cs p l e R (s.setDrawn d0) m args below meth c Hm locs cells slots mc ms (F0 m pc lsm stm) (cst (adr base b q) rest) (QcM D base b q (fun H' r => WP d M ca' sa' (pc + 3) ls (r.toList ++ rest) H' Q) a) (fun x => base ≤ x)) :
    W p l e R (s.setDrawn d0) m args below meth c Hm locs cells slots Z (F0 m pc lsm stm) := by
  intro T hT X
  obtain ⟨v, st₀, t, T', L, d', hd', h0, X', hL, e1, e2, ⟨H', r, tys', cA', hv, hQ, hR', hF⟩, st⟩ := hrun T hT X
  cases hv
  have hWm : s.vm.Alike t.vm := by
    have := X'.warmed.alike
    rw [e2] at this
    exact this
  have hk : ∀ x, x < Hm.size → x < base → T'.heap[x]? = Hm[x]? := fun x h1 h2 => by
    rw [e1, hF.2 x (by rw [h0]; exact h1) (by simp only; omega), h0]
  have hsz : Hm.size ≤ T'.heap.size := by
    have := hF.1
    rw [h0] at this
    rw [e1]; exact this
  have hR2 : Rep D base b q tys' cA' H' s T'.heap := by
    refine hr.back (t := t) ?_ hWm hk
    rw [e1]; exact hR'
  have hS2 : va_S (fun x => base ≤ x) s.heap T'.heap (locs ++ L) := ⟨Nat.le_trans hs.1 hsz, fun x h1 h2 => by
      rw [hk x (Nat.lt_of_lt_of_le h1 hs.1) (by simp only at h2; omega)]
      exact hs.2.1 x h1 h2, fun x hx => by
      rcases List.mem_append.mp hx with h | h
      · exact hs.2.2 x h
      · exact hL x h⟩
  have hw := hQ hc (hd0.trans hd') hR2 hS2 hbs (cells := cells + mc) (slots := slots + ms) (by omega) (by omega) hl hz T' rfl X'
  obtain ⟨t2, a1, b1⟩ := hw
  refine ⟨t2, st t2 ?_, b1⟩
  have hst : cst (adr base b q) (r.toList ++ rest) = (r.map (cv (adr base b q))).toList ++ cst (adr base b q) rest := by
    cases r <;> simp [cst]
  rw [hst] at a1
  exact a1
theorem wp_callV {idx a ci n mc ms ca' sa' d' : Nat} {M' : MM} {o : Option Nat} {r : vw_C} {As rest st' : List Value} (hd : decode M.2.1 pc = .ok (.invokevirtual idx, 3)) (lk : LkV M.1.cls idx M' n) (hst : st' = As.reverse ++ rv o :: rest) (hn : As.length = n) (hcat : (rest.map fun v => v.category).sum ≤ 8) (ho : o = some a) (hci : vwCl[ci]? = some r) (hrc : r.1 = M'.1.cls) (ht : tg H a = ci + 1) (hdd : d = d' + 1) (hmc : ca = ca' + mc) (hms : sa = sa' + ms)
    (hnest : Cond.methodLink M.1.cls idx M'.1 ∈ tbG)
    (k : Call d' mc ms M' (rv o :: As) H (fun H' r => WP d M ca' sa' (pc + 3) ls (r.toList ++ rest) H' Q)) : WP d M ca sa pc ls st' H Q := by
  intro p l e R s m args below meth c Hm locs cells slots d0 D base b q tys cA lsm Z hc hd0 hr hs hbs hcl hsl hl hz
  subst ho
  obtain ⟨⟨-, hcode, hini, hy1, hy2, hdesc, hmaxL⟩, hinst, hsel⟩ := lk
  have hts := dr_words hc.2.2.2.2.2.2.2.1 d0
  obtain ⟨ha, had, hob⟩ := rep_obj hr ht hci
  have hcell : ∃ cell : Cell, Hm[base + a]? = some cell ∧ cell.vm.isStatics = false ∧ s.vm.findClass M'.1.cls = some cell.cls := by
    obtain ⟨cell, g1, g2, g3, -⟩ := hob
    exact ⟨cell, g1, by rw [g3]; rfl, by rw [g2, ← hrc]; exact (hr.1.1 ci r hci).2.1⟩
  have hst2 : cst (adr base b q) st' = (cst (adr base b q) As).reverse ++ .ref (base + a) :: cst (adr base b q) rest := by
    rw [hst, cst_app, cst_rev, cst_cons]
    show _ ++ Value.ref (adr base b q a) :: _ = _
    rw [had]
  have hCB : CallB R (s.setDrawn d0) args M.1.cls idx M'.1 M'.2.1 M'.2.2.1 M'.2.2.2 (wsM M') (rmM d' mc ms) mc ms n := callB_of n hts (wsM_good hcode) rfl rfl rfl (hts _ hini) (hts _ hnest) ⟨hy1, hy2, hdesc⟩ ⟨by have := hc.2.2.2.2.2.2.2.2.1; show d' + 1 ≤ _; omega, by have := hc.2.2.2.2.2.2.2.2.2; show 8 + (M'.2.2.1 + 11) + 64 * d' ≤ _; omega⟩
  have hpre : PreV (s.setDrawn d0) Hm M'.1.cls (base + a) (PcM D base b q tys cA (rv (some a) :: As) H) (cst (adr base b q) As) := by
    refine ⟨pc_blind, hcell, fun U hU hW => ⟨?_, ?_⟩⟩
    · show (Value.ref (base + a) :: _).toArray = (Value.ref (adr base b q a) :: _).toArray
      rw [had]; rfl
    · rw [hU]; exact Rep.warm (s := s.setDrawn d0) hW (hr.same rfl)
  have hCF : CallFix p m c M.2.1 M.2.2.1 (s.setDrawn d0) args tbG M.1.cls := ⟨hc.1, hc.2.1, hc.2.2.1, hc.2.2.2.2.1, hts⟩
  rw [hst2]
  exact wp_run hc hd0 hr hs hbs hcl hsl hl hz hmc hms (va_runV_D (rest := cst (adr base b q) rest) hCF (k l D base b q tys cA) ⟨hCB, hts _ hinst, hts _ hsel⟩ hpre rfl (by rw [cst_len]; exact hn) hl.1 rfl (by show 2 * 0 + _ ≤ _; rw [cst_cat]; omega) hd ⟨by omega, by omega⟩)
theorem wp_callS {idx n mc ms ca' sa' d' : Nat} {M' : MM} {As rest st' : List Value} (hd : decode M.2.1 pc = .ok (.invokestatic idx, 3)) (lk : LkS M.1.cls idx M' n) (hst : st' = As.reverse ++ rest) (hn : As.length = n) (hcat : (rest.map fun v => v.category).sum ≤ 8) (hdd : d = d' + 1) (hmc : ca = ca' + mc) (hms : sa = sa' + ms)
    (k : Call d' mc ms M' As H (fun H' r => WP d M ca' sa' (pc + 3) ls (r.toList ++ rest) H' Q)) : WP d M ca sa pc ls st' H Q := by
  intro p l e R s m args below meth c Hm locs cells slots d0 D base b q tys cA lsm Z hc hd0 hr hs hbs hcl hsl hl hz
  obtain ⟨⟨hlink, hcode, hini, hy1, hy2, hdesc, hmaxL⟩, hstat⟩ := lk
  have hts := dr_words hc.2.2.2.2.2.2.2.1 d0
  have hst2 : cst (adr base b q) st' = (cst (adr base b q) As).reverse ++ cst (adr base b q) rest := by
    rw [hst, cst_app, cst_rev]
  have hpre : PreS (s.setDrawn d0) Hm (PcM D base b q tys cA As H) (cst (adr base b q) As) := by
    refine ⟨pc_blind, fun U hU hW => ⟨rfl, ?_⟩⟩
    rw [hU]; exact Rep.warm (s := s.setDrawn d0) hW (hr.same rfl)
  have hCF : CallFix p m c M.2.1 M.2.2.1 (s.setDrawn d0) args tbG M.1.cls := ⟨hc.1, hc.2.1, hc.2.2.1, hc.2.2.2.2.1, hts⟩
  have hroom : (rmM d' mc ms).frames + 1 ≤ R.frames ∧ 8 + (M'.2.2.1 + 11) + (rmM d' mc ms).locals ≤ R.locals := ⟨by have := hc.2.2.2.2.2.2.2.2.1; show d' + 1 ≤ _; omega, by have := hc.2.2.2.2.2.2.2.2.2; show 8 + (M'.2.2.1 + 11) + 64 * d' ≤ _; omega⟩
  rw [hst2]
  rcases hlink with hlink | ⟨host, hlink⟩
  · have hCB : CallB R (s.setDrawn d0) args M.1.cls idx M'.1 M'.2.1 M'.2.2.1 M'.2.2.2 (wsM M') (rmM d' mc ms) mc ms n := callB_of n hts (wsM_good hcode) rfl rfl rfl (hts _ hini) (hts _ hlink) ⟨hy1, hy2, hdesc⟩ hroom
    exact wp_run hc hd0 hr hs hbs hcl hsl hl hz hmc hms (va_runS_D (rest := cst (adr base b q) rest) hCF (k l D base b q tys cA) ⟨hCB, hts _ hstat⟩ hpre rfl (by rw [cst_len]; exact hn) hl.1 rfl (by show 2 * 0 + _ ≤ _; rw [cst_cat]; omega) hd ⟨by omega, by omega⟩)
  · obtain ⟨-, -, -, -, hnw, -⟩ := hr.2.2.2.2.2.2.2.2.2
    have hnw' : va_Nw (.methodLinkNest M.1.cls idx M'.1 host) (s.setDrawn d0) := (hnw _ hlink).same rfl rfl
    have hCN : va_CN R (s.setDrawn d0) args M.1.cls idx M'.1 host M'.2.1 M'.2.2.1 M'.2.2.2 (wsM M') (rmM d' mc ms) mc ms n := va_cnB n hts (wsM_good hcode) rfl rfl rfl hnw' (hts _ hini) ⟨hy1, hy2, hdesc⟩ hroom
    exact wp_run hc hd0 hr hs hbs hcl hsl hl hz hmc hms (va_runSN_D (rest := cst (adr base b q) rest) hCF (k l D base b q tys cA) ⟨hCN, hts _ hstat, trivial⟩ hpre rfl (by rw [cst_len]; exact hn) hl.1 rfl (by show 2 * 0 + _ ≤ _; rw [cst_cat]; omega) hd ⟨by omega, by omega⟩)
theorem wp_callI {idx a n mc ms ca' sa' d' : Nat} {M' : MM} {o : Option Nat} {As rest st' : List Value} (hd : decode M.2.1 pc = .ok (.invokespecial idx, 3)) (lk : LkI M.1.cls idx M' n) (hst : st' = As.reverse ++ rv o :: rest) (hn : As.length = n) (hcat : (rest.map fun v => v.category).sum ≤ 8) (ho : o = some a) (hdd : d = d' + 1) (hmc : ca = ca' + mc) (hms : sa = sa' + ms)
    (k : Call d' mc ms M' (rv o :: As) H (fun H' r => WP d M ca' sa' (pc + 3) ls (r.toList ++ rest) H' Q)) : WP d M ca sa pc ls st' H Q := by
  intro p l e R s m args below meth c Hm locs cells slots d0 D base b q tys cA lsm Z hc hd0 hr hs hbs hcl hsl hl hz
  subst ho
  obtain ⟨⟨hlink, hcode, hini, hy1, hy2, hdesc, hmaxL⟩, hnm, hinst, hret⟩ := lk
  have hts := dr_words hc.2.2.2.2.2.2.2.1 d0
  have hst2 : cst (adr base b q) st' = (cst (adr base b q) As).reverse ++ .ref (adr base b q a) :: cst (adr base b q) rest := by
    rw [hst, cst_app, cst_rev, cst_cons]; rfl
  have hpre : PreS (s.setDrawn d0) Hm (PcM D base b q tys cA (rv (some a) :: As) H) (.ref (adr base b q a) :: cst (adr base b q) As) := by
    refine ⟨pc_blind, fun U hU hW => ⟨rfl, ?_⟩⟩
    rw [hU]; exact Rep.warm (s := s.setDrawn d0) hW (hr.same rfl)
  have hCF : CallFix p m c M.2.1 M.2.2.1 (s.setDrawn d0) args tbG M.1.cls := ⟨hc.1, hc.2.1, hc.2.2.1, hc.2.2.2.2.1, hts⟩
  have hroom : (rmM d' mc ms).frames + 1 ≤ R.frames ∧ 8 + (M'.2.2.1 + 11) + (rmM d' mc ms).locals ≤ R.locals := ⟨by have := hc.2.2.2.2.2.2.2.2.1; show d' + 1 ≤ _; omega, by have := hc.2.2.2.2.2.2.2.2.2; show 8 + (M'.2.2.1 + 11) + 64 * d' ≤ _; omega⟩
  have hwseq : wsM M' = Cond.code M'.1 M'.2.1 M'.2.2.1 none :: tbG := by unfold wsM; rw [hret]
  rw [hst2]
  rcases hlink with hlink | ⟨host, hlink⟩
  · have hCB : CallB R (s.setDrawn d0) args M.1.cls idx M'.1 M'.2.1 M'.2.2.1 none (wsM M') (rmM d' mc ms) mc ms n := callB_of n hts (wsM_good hcode) hwseq rfl rfl (hts _ hini) (hts _ hlink) ⟨hy1, hy2, hdesc⟩ hroom
    exact wp_run hc hd0 hr hs hbs hcl hsl hl hz hmc hms (va_runI_D (rest := cst (adr base b q) rest) hCF (k l D base b q tys cA) ⟨hCB, hnm, hts _ hinst⟩ hpre rfl (by rw [cst_len]; exact hn) hl.1 rfl (by show 2 * 0 + _ ≤ _; rw [cst_cat]; omega) hd ⟨by omega, by omega⟩)
  · obtain ⟨-, -, -, -, hnw, -⟩ := hr.2.2.2.2.2.2.2.2.2
    have hnw' : va_Nw (.methodLinkNest M.1.cls idx M'.1 host) (s.setDrawn d0) := (hnw _ hlink).same rfl rfl
    have hCN : va_CN R (s.setDrawn d0) args M.1.cls idx M'.1 host M'.2.1 M'.2.2.1 none (wsM M') (rmM d' mc ms) mc ms n := va_cnB n hts (wsM_good hcode) hwseq rfl rfl hnw' (hts _ hini) ⟨hy1, hy2, hdesc⟩ hroom
    exact wp_run hc hd0 hr hs hbs hcl hsl hl hz hmc hms (va_runIN_D (rest := cst (adr base b q) rest) hCF (k l D base b q tys cA) ⟨hCN, hnm, hts _ hinst⟩ hpre rfl (by rw [cst_len]; exact hn) hl.1 rfl (by show 2 * 0 + _ ≤ _; rw [cst_cat]; omega) hd ⟨by omega, by omega⟩)
theorem wp_objInit {idx : Nat} {o : Option Nat} {a : Nat} (hd : decode M.2.1 pc = .ok (.invokespecial idx, 3)) (hlink : Cond.methodLink M.1.cls idx Lib.objectInit ∈ tbG) (hinst : Cond.instanceMethod Lib.objectInit ∈ tbG) (hcode : Cond.code Lib.objectInit ⟨#[0xb1]⟩ 1 none ∈ tbG) (ho : o = some a) (hcat : (st.map fun v => v.category).sum ≤ 8) (hdd : 1 ≤ d) (k : WP d M ca sa (pc + 3) ls st H Q) : WP d M ca sa pc ls (rv o :: st) H Q := by
  intro p l e R s m args below meth c Hm locs cells slots d0 D base b q tys cA lsm Z hc hd0 hr hs hbs hcl hsl hl hz
  subst ho
  have hts := dr_words hc.2.2.2.2.2.2.2.1 d0
  have h1 := hc.2.2.2.2.2.2.2.2.1
  have h2 := hc.2.2.2.2.2.2.2.2.2
  exact W.objInit (s := s.setDrawn d0) hc.1 hc.2.1 hc.2.2.2.2.1 (hts _ hlink) (hts _ hinst) (hts _ hcode) rfl (hl.1.trans hc.2.2.1.symm) rfl hd (by omega) (by show 2 * 0 + ((cst (adr base b q) st).map fun v => v.category).sum + 12 ≤ _; rw [cst_cat]; omega) (k hc hd0 hr hs hbs hcl hsl hl hz)


/-! ===== new cells ===== -/
theorem fval_nw {ad : Nat → Nat} {t n ci a j : Nat} (h : a ≠ hN H) : fval kd ad (nw H t n) ci a j = fval kd ad H ci a j := by
  unfold fval
  simp only [hI_nw, hL_nw, hD_nw, hR_nw, hC_nw, z3, z2, if_neg h]
theorem aval_nw {ad : Nat → Nat} {t n t' a : Nat} (h : a ≠ hN H) : aval ad (nw H t n) t' a = aval ad H t' a := by
  refine aval_cong ?_ ?_ ?_ ?_ ?_
  · funext i; simp only [hI_nw, z3, if_neg h]
  · funext i; simp only [hL_nw, z3, if_neg h]
  · funext i; simp only [hF_nw, z3, if_neg h]
  · funext i; simp only [hD_nw, z3, if_neg h]
  · funext i; simp only [hR_nw, z3, if_neg h]
theorem rep_new {D : va_G} {base b t n : Nat} {q : QA} {tys tys' : List (ClassId × FieldType)} {cA : Nat → ClassId} {cN : ClassId} {s : State} {Hm H1 : Heap} (hr : Rep D base b q tys cA H s Hm) (hlt : hN H < scrA) (ht : t ≠ 0) (hK' : va_K D vwCl tys' s) (hty' : ∀ (k : Nat) (x : ClassId × FieldType), tys[k]? = some x → tys'[k]? = some x) (hcA : 4096 ≤ t → ∃ t0 : Nat, tys'[t0]? = some (cN, aelt t))
    (hsz : H1.size = Hm.size + 1) (oq : ∀ x, x < Hm.size → H1[x]? = Hm[x]?) (hself : Cel D (adr base b q) (fun a => if a = hN H then cN else cA a) (nw H t n) (hN H) H1) : Rep D base b q tys' (fun a => if a = hN H then cN else cA a) (nw H t n) s H1 := by
  obtain ⟨hK, hCel, hs0, hty, htg, hsc, hx, hb, hl, hst⟩ := hr
  refine ⟨hK', fun a ha => ?_, by rw [hsz, hs0, hN_nw]; omega, fun a ha h4 => ?_, fun a h => ?_, by rw [hN_nw]; omega, ?_, hb, hl, ?_⟩
  · rw [hN_nw] at ha
    by_cases haa : a = hN H
    · subst haa; exact hself
    · have ha' : a < hN H := by omega
      obtain ⟨c1, c2⟩ := hCel a ha'
      have had : adr base b q a = base + a := adr_own (by omega)
      have hq : H1[adr base b q a]? = Hm[adr base b q a]? := oq _ (by rw [had, hs0]; omega)
      refine ⟨fun ci r e1 e2 => ?_, fun h4 => ?_⟩
      · rw [tg_nw, if_neg haa] at e1
        exact ((c1 ci r e1 e2).kept hq).to (fun j hj => (fval_nw haa).symm)
      · rw [tg_nw, if_neg haa] at h4 ⊢
        rw [ln_nw, if_neg haa, aval_nw haa, hq]
        simp only [if_neg haa]
        exact c2 h4
  · rw [hN_nw] at ha
    by_cases haa : a = hN H
    · subst haa
      rw [tg_nw, if_pos rfl] at h4 ⊢
      simp only [if_true]
      exact hcA h4
    · rw [tg_nw, if_neg haa] at h4 ⊢
      simp only [if_neg haa]
      obtain ⟨t0, h0⟩ := hty a (by omega) h4
      exact ⟨t0, hty' _ _ h0⟩
  · rw [hN_nw]
    rw [tg_nw] at h
    by_cases haa : a = hN H
    · omega
    · rw [if_neg haa] at h
      have := htg a h
      omega
  · exact hx.kept (oq b (by omega))
  · exact hst.kept (fun x h1 h2 => oq x h1)
def dfl (c j : Nat) : Value := match kd c j with
  | 0 => .int 0
  | 1 => .long 0
  | 2 => .double 0
  | _ => .null
theorem wp_new {idx ci N : Nat} {C : String} {T : u_T} {ty0 : Nat → FieldType} {ca' sa' : Nat} (hd : decode M.2.1 pc = .ok (.new idx, 3)) (hcl0 : vwCl[ci]? = some (C, T, N)) (hlk : Cond.classLink M.1.cls idx C ∈ tbG) (hins : Cond.instantiable C N ∈ tbG) (hini : Cond.initialized C ∈ tbG) (hin : ∀ w ∈ u_ws C T N, w ∈ tbG) (hty : ∀ k, k < N → parseFieldDescriptor (T k).2.2.1 = some (ty0 k)) (hdf : ∀ j, j < N → defaultValue (ty0 j) = dfl ci j) (hlt : hN H < scrA) (hca : ca = ca' + 1) (hsa : sa = sa' + N)
    (k : WP d M ca' sa' (pc + 3) ls (rv (some (hN H)) :: st) (nw H (ci + 1) 0) Q) : WP d M ca sa pc ls st H Q := by
  intro p l e R s m args below meth c Hm locs cells slots d0 D base b q tys cA lsm Z hc hd0 hr hs hbs hcl hsl hl hz
  have hts := dr_words hc.2.2.2.2.2.2.2.1 d0
  have hKd : va_K D vwCl tys (s.setDrawn d0) := hr.1
  have hKn := hKd.1 ci _ hcl0
  refine W.newcK (s := s.setDrawn d0) hc.1 hc.2.1 hc.2.2.2.2.1 (hts _ hlk) (hts _ hins) (hts _ hini) rfl hd (by omega) (by omega) hKn.2.1 rfl fun H1 kC hkC e1 z1 o1 => ?_
  have hadN : adr base b q (hN H) = base + hN H := adr_own hlt
  have hszm : Hm.size = base + hN H := hr.2.2.1
  have hw := k (tys := tys) (cA := fun a => if a = hN H then cA (hN H) else cA a) (Hm := H1) (locs := locs) (cells := cells + 1) (slots := slots + N) hc hd0 ?_ ⟨Nat.le_trans hs.1 (by omega), fun x h1 h2 => (o1 x (Nat.lt_of_lt_of_le h1 hs.1)).trans (hs.2.1 x h1 h2), hs.2.2⟩ hbs (by omega) (by omega) hl hz
  · rw [cst_cons] at hw
    have : cv (adr base b q) (rv (some (hN H))) = .ref Hm.size := by
      show Value.ref (adr base b q (hN H)) = _
      rw [hadN, hszm]
    rw [this] at hw
    exact hw
  · refine rep_new (cN := cA (hN H)) hr hlt (Nat.succ_ne_zero ci) hr.1 (fun _ _ h => h) (fun h => ?_) z1 o1 ⟨fun ci' r' h1 h2 => ?_, fun h => ?_⟩
    · have := (vwCl_bd hcl0).1; omega
    · rw [tg_nw, if_pos rfl] at h1
      have : ci' = ci := by omega
      subst this
      cases hcl0.symm.trans h2
      rw [hadN, ← hszm]
      refine (u_born ty0 hts hin hKn hkC e1 hty).to (fun j hj => ?_)
      rw [hdf j hj]
      unfold dfl fval
      simp only [hI_nw, hL_nw, hD_nw, hR_nw, hC_nw, z3, z2, if_true]
      generalize kd ci' j = kk
      rcases kk with _ | _ | _ | _ | _ <;> rfl
    · have := (vwCl_bd hcl0).1
      rw [tg_nw, if_pos rfl] at h
      omega
theorem ne0_of {t : Nat} (h : 4096 ≤ t) : t ≠ 0 := by omega
theorem app_get {α : Type} {l : List α} {x y : α} {k : Nat} (h : l[k]? = some x) : (l ++ [y])[k]? = some x := by
  rw [List.getElem?_append_left (List.getElem?_eq_some_iff.mp h).1]; exact h
theorem va_K.add {D : va_G} {tys : List (ClassId × FieldType)} {s : State} {cN : ClassId} {ty : FieldType} (h : va_K D vwCl tys s) (h1 : ArrOfT s cN ty) (h2 : va_RA s cN ty) : va_K D vwCl (tys ++ [(cN, ty)]) s := by
  refine ⟨h.1, fun k x hx => ?_⟩
  by_cases hl : k < tys.length
  · rw [List.getElem?_append_left hl] at hx
    exact h.2 k x hx
  · rw [List.getElem?_append_right (by omega)] at hx
    have hz : k - tys.length < 1 := (List.getElem?_eq_some_iff.mp hx).1
    rw [show k - tys.length = 0 by omega] at hx
    cases hx
    exact ⟨h1, h2⟩
theorem aval_new {ad : Nat → Nat} {t n : Nat} (cN : ClassId) : vp_cell cN (n, aval ad (nw H t n) t (hN H)) = arrV cN n (fun _ => defaultValue (aelt t)) := by
  have : t % 16 = 0 ∨ t % 16 = 1 ∨ t % 16 = 2 ∨ t % 16 = 3 ∨ t % 16 = 4 ∨ t % 16 = 5 ∨ 6 ≤ t % 16 := by omega
  have e0 : (fun i => hI (nw H t n) t (hN H) i) = fun _ => 0 := by funext i; simp [hI_nw, z3]
  have e1 : (fun i => hL (nw H t n) t (hN H) i) = fun _ => 0 := by funext i; simp [hL_nw, z3]
  have e2 : (fun i => hF (nw H t n) t (hN H) i) = fun _ => 0 := by funext i; simp [hF_nw, z3]
  have e3 : (fun i => hD (nw H t n) t (hN H) i) = fun _ => 0 := by funext i; simp [hD_nw, z3]
  have e4 : (fun i => (hR (nw H t n) t (hN H) i).map ad) = fun _ => none := by funext i; simp [hR_nw, z3]
  rcases this with h | h | h | h | h | h | h
  · rw [aval_0 h (by decide)]; unfold aelt; simp only [h]; rw [show hI (nw H t n) t (hN H) = fun _ => 0 from e0]; rfl
  · rw [aval_0 h (by decide)]; unfold aelt; simp only [h]; rw [show hI (nw H t n) t (hN H) = fun _ => 0 from e0]; rfl
  · rw [aval_0 h (by decide)]; unfold aelt; simp only [h]; rw [show hI (nw H t n) t (hN H) = fun _ => 0 from e0]; rfl
  · rw [aval_3 h]; unfold aelt; simp only [h]; rw [show hL (nw H t n) t (hN H) = fun _ => 0 from e1]; rfl
  · rw [aval_4 h]; unfold aelt; simp only [h]; rw [show hF (nw H t n) t (hN H) = fun _ => 0 from e2]; rfl
  · rw [aval_5 h]; unfold aelt; simp only [h]; rw [show hD (nw H t n) t (hN H) = fun _ => 0 from e3]; rfl
  · rw [aval_6 h, e4]
    have hC' : ∃ C, aelt t = .object C := by
      unfold aelt
      split <;> first | exact ⟨_, rfl⟩ | (exfalso; omega)
    obtain ⟨C, hC'⟩ := hC'
    rw [hC']; rfl
theorem wp_newarray {atype : ArrayType} {t N ca' sa' : Nat} {n : Int32} (hd : decode M.2.1 pc = .ok (.newarray atype, 2)) (harr : Cond.arrayClass (newarray.typeOf atype) ∈ tbG) (h4 : 4096 ≤ t) (hel : aelt t = newarray.typeOf atype) (hn : ¬ n < 0) (hNn : n.toNatClampNeg = N) (hbytes : N * componentBytes (newarray.typeOf atype) ≤ 536870912) (hlt : hN H < scrA) (hca : ca = ca' + 1) (hsa : sa = sa' + N)
    (k : WP d M ca' sa' (pc + 2) ls (rv (some (hN H)) :: st) (nw H t N) Q) : WP d M ca sa pc ls (.int n :: st) H Q := by
  subst hNn
  intro p l e R s m args below meth c Hm locs cells slots d0 D base b q tys cA lsm Z hc hd0 hr hs hbs hcl hsl hl hz
  have hts := dr_words hc.2.2.2.2.2.2.2.1 d0
  have hKd : va_K D vwCl tys (s.setDrawn d0) := hr.1
  refine va_newaK (s := s.setDrawn d0) (N := n.toNatClampNeg) hc.1 hc.2.1 (hts _ harr) rfl hd rfl hn rfl hbytes (by omega) (by omega) rfl fun H1 cN e1 z1 o1 hAr hNm => ?_
  have hadN : adr base b q (hN H) = base + hN H := adr_own hlt
  have hszm : Hm.size = base + hN H := hr.2.2.1
  have hRA : va_RA s cN (aelt t) := by
    rw [hel]
    cases atype <;> exact hNm
  have hAr' : ArrOfT s cN (aelt t) := by rw [hel]; exact hAr
  have hw := k (tys := tys ++ [(cN, aelt t)]) (cA := fun a => if a = hN H then cN else cA a) (Hm := H1) (locs := locs) (cells := cells + 1) (slots := slots + n.toNatClampNeg) hc hd0 ?_ ⟨Nat.le_trans hs.1 (by omega), fun x h1 h2 => (o1 x (Nat.lt_of_lt_of_le h1 hs.1)).trans (hs.2.1 x h1 h2), hs.2.2⟩ hbs (by omega) (by omega) hl hz
  · rw [cst_cons] at hw
    have : cv (adr base b q) (rv (some (hN H))) = .ref Hm.size := by
      show Value.ref (adr base b q (hN H)) = _
      rw [hadN, hszm]
    rw [this] at hw
    exact hw
  · have hK2 : va_K D vwCl (tys ++ [(cN, aelt t)]) s := va_K.add hr.1 hAr' hRA
    have hG2 : (tys ++ [(cN, aelt t)])[tys.length]? = some (cN, aelt t) := by simp
    refine rep_new (t := t) (n := n.toNatClampNeg) (cN := cN) (tys' := tys ++ [(cN, aelt t)]) hr hlt (ne0_of h4) hK2 (fun _ _ h => app_get h) (fun _ => ⟨tys.length, hG2⟩) z1 o1 ⟨fun ci' r' h1 h2 => ?_, fun h => ?_⟩
    · rw [tg_nw, if_pos rfl] at h1
      have := (List.getElem?_eq_some_iff.mp h2).1
      have h9 : vwCl.length = 13 := rfl
      omega
    · rw [tg_nw, if_pos rfl, ln_nw, if_pos rfl, aval_new, hadN, ← hszm, e1, hel]
      simp
theorem wp_anewarray {idx t N ca' sa' : Nat} {C : String} {n : Int32} (hd : decode M.2.1 pc = .ok (.anewarray idx, 3)) (hlk : Cond.classLink M.1.cls idx C ∈ tbG) (hC : C ∈ [RX9, RX6, RX8, RX5]) (h4 : 4096 ≤ t) (hel : aelt t = .object C) (hn : ¬ n < 0) (hNn : n.toNatClampNeg = N) (hbytes : N * 4 ≤ 536870912) (hlt : hN H < scrA) (hca : ca = ca' + 1) (hsa : sa = sa' + N)
    (k : WP d M ca' sa' (pc + 3) ls (rv (some (hN H)) :: st) (nw H t N) Q) : WP d M ca sa pc ls (.int n :: st) H Q := by
  subst hNn
  intro p l e R s m args below meth c Hm locs cells slots d0 D base b q tys cA lsm Z hc hd0 hr hs hbs hcl hsl hl hz
  have hts := dr_words hc.2.2.2.2.2.2.2.1 d0
  obtain ⟨-, -, -, -, -, hAO⟩ := hr.2.2.2.2.2.2.2.2.2
  have hAO' : va_AO C (s.setDrawn d0) := (hAO C hC).moved (Vm.Alike.refl s.vm)
  refine W.anew (s := s.setDrawn d0) hc.1 hc.2.1 hc.2.2.2.2.1 (hts _ hlk) (va_AO.use hAO') rfl hd rfl hn hbytes (by omega) (by omega) fun cN kA comp f1 f2 f3 f4 => ?_
  have hadN : adr base b q (hN H) = base + hN H := adr_own hlt
  have hszm : Hm.size = base + hN H := hr.2.2.1
  generalize hH1 : Hm.push ({ cls := cN, slots := Array.replicate n.toNatClampNeg .null, vm := .none } : Cell) = H1
  have z1 : H1.size = Hm.size + 1 := by rw [← hH1, Array.size_push]
  have e1 : H1[Hm.size]? = some (arrV cN n.toNatClampNeg (fun _ => .null)) := by rw [← hH1, Array.getElem?_push_size, ← arrV_new]
  have o1 : ∀ x : Nat, x < Hm.size → H1[x]? = Hm[x]? := fun x hx => by rw [← hH1, Array.getElem?_push, if_neg (Nat.ne_of_lt hx)]
  have hAr : ArrOfT s cN (aelt t) := by rw [hel]; exact fun N z => ⟨(fun k h => by cases h), kA, f2, comp, f3⟩
  have hRA : va_RA s cN (aelt t) := by rw [hel]; exact ⟨kA, comp, f2, f3, f4, f1⟩
  have hw := k (tys := tys ++ [(cN, aelt t)]) (cA := fun a => if a = hN H then cN else cA a) (Hm := H1) (locs := locs) (cells := cells + 1) (slots := slots + n.toNatClampNeg) hc hd0 ?_ ⟨Nat.le_trans hs.1 (by omega), fun x h1 h2 => (o1 x (Nat.lt_of_lt_of_le h1 hs.1)).trans (hs.2.1 x h1 h2), hs.2.2⟩ hbs (by omega) (by omega) hl hz
  · rw [cst_cons] at hw
    have : cv (adr base b q) (rv (some (hN H))) = .ref Hm.size := by
      show Value.ref (adr base b q (hN H)) = _
      rw [hadN, hszm]
    rw [this] at hw
    exact hw
  · have hK2 : va_K D vwCl (tys ++ [(cN, aelt t)]) s := va_K.add hr.1 hAr hRA
    have hG2 : (tys ++ [(cN, aelt t)])[tys.length]? = some (cN, aelt t) := by simp
    refine rep_new (t := t) (n := n.toNatClampNeg) (cN := cN) (tys' := tys ++ [(cN, aelt t)]) hr hlt (ne0_of h4) hK2 (fun _ _ h => app_get h) (fun _ => ⟨tys.length, hG2⟩) z1 o1 ⟨fun ci' r' h1 h2 => ?_, fun h => ?_⟩
    · rw [tg_nw, if_pos rfl] at h1
      have := (List.getElem?_eq_some_iff.mp h2).1
      have h9 : vwCl.length = 13 := rfl
      omega
    · rw [tg_nw, if_pos rfl, ln_nw, if_pos rfl, aval_new, hadN, ← hszm, e1, hel]
      simp [defaultValue]


/-! ===== the bits of floats and doubles ===== -/
theorem wp_d2raw {idx : Nat} {x : UInt64} (hd : decode M.2.1 pc = .ok (.invokestatic idx, 3)) (hlink : Cond.methodLink M.1.cls idx ⟨"java/lang/Double", "doubleToRawLongBits", "(D)J"⟩ ∈ tbG) (hnat : Cond.native ⟨"java/lang/Double", "doubleToRawLongBits", "(D)J"⟩ ∈ tbG) (hstat : Cond.static ⟨"java/lang/Double", "doubleToRawLongBits", "(D)J"⟩ ∈ tbG) (hini : Cond.initialized "java/lang/Double" ∈ tbG) (hcat : (st.map fun v => v.category).sum ≤ 8) (hdd : 1 ≤ d) (k : WP d M ca sa (pc + 3) ls (.long x.toInt64 :: st) H Q) : WP d M ca sa pc ls (.double x :: st) H Q := by
  intro p l e R s m args below meth c Hm locs cells slots d0 D base b q tys cA lsm Z hc hd0 hr hs hbs hcl hsl hl hz
  have hts := dr_words hc.2.2.2.2.2.2.2.1 d0
  have h1 := hc.2.2.2.2.2.2.2.2.1
  have h2 := hc.2.2.2.2.2.2.2.2.2
  exact vn_d2l (s := s.setDrawn d0) hc.1 hc.2.1 (hc.2.2.1.trans hl.1.symm) hc.2.2.2.2.1 (hts _ hlink) (hts _ hnat) (hts _ hstat) (hts _ hini) (by omega) (by show ((cst (adr base b q) st).map fun v => v.category).sum + 15 ≤ _; rw [cst_cat]; omega) hd (k hc hd0 hr hs hbs hcl hsl hl hz)
theorem wp_f2raw {idx : Nat} {x : UInt32} (hd : decode M.2.1 pc = .ok (.invokestatic idx, 3)) (hlink : Cond.methodLink M.1.cls idx ⟨"java/lang/Float", "floatToRawIntBits", "(F)I"⟩ ∈ tbG) (hnat : Cond.native ⟨"java/lang/Float", "floatToRawIntBits", "(F)I"⟩ ∈ tbG) (hstat : Cond.static ⟨"java/lang/Float", "floatToRawIntBits", "(F)I"⟩ ∈ tbG) (hini : Cond.initialized "java/lang/Float" ∈ tbG) (hcat : (st.map fun v => v.category).sum ≤ 8) (hdd : 1 ≤ d) (k : WP d M ca sa (pc + 3) ls (.int x.toInt32 :: st) H Q) : WP d M ca sa pc ls (.float x :: st) H Q := by
  intro p l e R s m args below meth c Hm locs cells slots d0 D base b q tys cA lsm Z hc hd0 hr hs hbs hcl hsl hl hz
  have hts := dr_words hc.2.2.2.2.2.2.2.1 d0
  have h1 := hc.2.2.2.2.2.2.2.2.1
  have h2 := hc.2.2.2.2.2.2.2.2.2
  exact vn_f2i (s := s.setDrawn d0) hc.1 hc.2.1 (hc.2.2.1.trans hl.1.symm) hc.2.2.2.2.1 (hts _ hlink) (hts _ hnat) (hts _ hstat) (hts _ hini) (by omega) (by show ((cst (adr base b q) st).map fun v => v.category).sum + 15 ≤ _; rw [cst_cat]; omega) hd (k hc hd0 hr hs hbs hcl hsl hl hz)
/-- these bits, as they are or (of a signalling NaN) made quiet: what is drawn -/
def raw2dAny (x : Int64) (r : UInt64) : Prop := r = x.toUInt64 ∨ (vn_snl2d x = true ∧ r = (x.toUInt64 ||| 0x0008000000000000))
theorem x_raw2d0 {p : Program} {l : Launch} {e : Env} {R : Room} {s : State} {m : MethodId} {args : Array Value} {below : List Frame} {meth : Method} {c : Code} {locs : List Loc} {cells slots : Nat} {T : State} (X : Stand p l e R s m args below meth c T locs cells slots) (hexec : p.tables.exec = Jvm.exec) {own : String} {index : Nat} (hown : s.vm.findClass own = some m.cls) (hlink : (Cond.methodLink own index ⟨"java/lang/Double", "longBitsToDouble", "(J)D"⟩).before args s = true) (hnat : (Cond.native ⟨"java/lang/Double", "longBitsToDouble", "(J)D"⟩).before args s = true) (hstat : (Cond.static ⟨"java/lang/Double", "longBitsToDouble", "(J)D"⟩).before args s = true) (hinit : (Cond.initialized "java/lang/Double").before args s = true)
    {g : JFrame} (hg : g.method = m) (hsize : g.locals.size = c.maxLocals) {rest : List Value} {b : Int64} (hv : vn_snl2d b = true) (hstack : g.stack = .long b :: rest) (hdg : decode c.code g.pc = .ok (.invokestatic index, 3)) (hframes : 1 ≤ R.frames) (hlocals : 2 * g.monitorRoom + (rest.map fun v => v.category).sum + (nativeFrameWords "java/lang/Double" "longBitsToDouble" 2 + 11) ≤ R.locals) :
    ∃ (vm' : Vm) (r : UInt64) (d' : Drawn), raw2dAny b r ∧ T.drawn.sameBut d' [.named "NaN.copy"] ∧ Stand p l e R (s.setDrawn d') m args below meth c ((T.setVm vm').setDrawn d') locs cells slots ∧ ∀ target, Steps p.tables e below (((T.setVm vm').setDrawn d').setTop { g with pc := g.pc + 3, stack := .double r :: rest }) target → Steps p.tables e below (T.setTop g) target := by
  obtain ⟨r, kS, methS, hnS, hmS, hkS, N⟩ := NativeOf.of_static hnat hstat (ps := [.long]) (ret := some .double) (by decide +kernel)
  have hinitS : kS.init = .initialized := Cond.initialized_spec (findClass_of_methodNamed hnS) hkS hinit
  obtain ⟨vm', X', step⟩ := X.invokestatic hexec hown hlink hnS hmS N.static hkS hinitS (by decide) hg (argsL := [.long b]) (rest := rest) (by rw [N.sig]; rfl) hstack hdg
  subst hg
  obtain ⟨kS', N'⟩ := N.alike X'.warmed.alike
  let ch : UInt64 := e.choices (.named "NaN.copy") ((T.setVm vm').drawn.count (.named "NaN.copy"))
  let d' : Drawn := (T.setVm vm').drawn.next (.named "NaN.copy")
  refine ⟨vm', (if ch % 2 == 0 then b.toUInt64 else b.toUInt64 ||| 0x0008000000000000), d', ?_, Drawn.next_named _ _, X'.drew d', fun target hrest => step target fun acts => ?_⟩
  · by_cases hz : (ch % 2 == 0) = true
    · rw [if_pos hz]; exact Or.inl rfl
    · rw [if_neg hz]; exact Or.inr ⟨hv, rfl⟩
  · have hseen : seenByNative methS #[.long b] = #[.long b] := by simp [seenByNative, N'.static, N'.sig, narrow]
    refine Steps.nativeEnds (row := Native.java_lang_Float.bits.rowLongBitsToDouble) (v := some (.double (if ch % 2 == 0 then b.toUInt64 else b.toUInt64 ||| 0x0008000000000000))) (T := fun u => u.setDrawn (u.drawn.next (.named "NaN.copy"))) (ig := .invokestatic index) (len := 3) (g := { g with stack := rest }) X'.here acts N'.cls N'.meth N'.boot N'.native N'.noCode N'.noLock
      (by rw [N'.className, N'.name, N'.desc]; exact longBitsToDouble_row p) (by rw [N'.className, N'.name]; exact (X'.notFull (g := { g with stack := rest }) hsize (vars := nativeFrameWords "java/lang/Double" "longBitsToDouble" 2) hframes hlocals)) (fun _ => rfl) rfl (fun _ => X'.here.code) ?_ hdg hrest
    intro Q hq
    rw [hseen] at hq ⊢
    rw [Native.java_lang_Float.bits.longBitsToDouble_on]
    have hv' : (b.toUInt64 &&& 0x7fffffffffffffff > 0x7ff0000000000000 && b.toUInt64 &&& 0x0008000000000000 == 0) = true := hv
    simp only [hv', if_true]
    exact hq _ _
theorem wp_raw2d {idx : Nat} {x : Int64} (hd : decode M.2.1 pc = .ok (.invokestatic idx, 3)) (hlink : Cond.methodLink M.1.cls idx ⟨"java/lang/Double", "longBitsToDouble", "(J)D"⟩ ∈ tbG) (hnat : Cond.native ⟨"java/lang/Double", "longBitsToDouble", "(J)D"⟩ ∈ tbG) (hstat : Cond.static ⟨"java/lang/Double", "longBitsToDouble", "(J)D"⟩ ∈ tbG) (hini : Cond.initialized "java/lang/Double" ∈ tbG) (hcat : (st.map fun v => v.category).sum ≤ 8) (hdd : 1 ≤ d) (k : ∀ r : UInt64, raw2dAny x r → WP d M ca sa (pc + 3) ls (.double r :: st) H Q) : WP d M ca sa pc ls (.long x :: st) H Q := by
  intro p l e R s m args below meth c Hm locs cells slots d0 D base b q tys cA lsm Z hc hd0 hr hs hbs hcl hsl hl hz
  have hts := dr_words hc.2.2.2.2.2.2.2.1 d0
  have h1 := hc.2.2.2.2.2.2.2.2.1
  have h2 := hc.2.2.2.2.2.2.2.2.2
  by_cases hv : vn_snl2d x = true
  · intro T hT X
    obtain ⟨vm', r, d', hr', hd', X', st'⟩ := x_raw2d0 X hc.1 (own := M.1.cls) (index := idx) hc.2.2.2.2.1 (hts _ hlink) (hts _ hnat) (hts _ hstat) (hts _ hini) (g := F0 m pc lsm (.long x :: cst (adr base b q) st)) rfl (hl.1.trans hc.2.2.1.symm) hv rfl (by rw [hc.2.1]; exact hd) (by omega) (by show 2 * 0 + ((cst (adr base b q) st).map fun v => v.category).sum + _ ≤ _; rw [cst_cat]; have hw : nativeFrameWords "java/lang/Double" "longBitsToDouble" 2 ≤ 8 := (by decide); omega)
    have hdr : s.drawn.sameBut d' lw_cs := by
      refine hd0.trans ?_
      have e1 : T.drawn = d0 := X.drawn_eq
      rw [← e1]
      exact Drawn.sameBut.mono hd' (fun c hc => by
        simp only [List.mem_cons, List.not_mem_nil, or_false] at hc
        rw [hc]; simp [lw_cs])
    obtain ⟨t, a1, b1⟩ := k r hr' hc hdr hr hs hbs hcl hsl hl hz ((T.setVm vm').setDrawn d') hT X'
    exact ⟨t, st' t a1, b1⟩
  · have hv' : vn_snl2d x = false := by simpa using hv
    exact vn_l2d (s := s.setDrawn d0) hc.1 hc.2.1 (hc.2.2.1.trans hl.1.symm) hc.2.2.2.2.1 (hts _ hlink) (hts _ hnat) (hts _ hstat) (hts _ hini) hv' (by omega) (by show ((cst (adr base b q) st).map fun v => v.category).sum + 15 ≤ _; rw [cst_cat]; omega) hd (k _ (Or.inl rfl) hc hd0 hr hs hbs hcl hsl hl hz)
/-- these bits, as they are or (of a signalling NaN) made quiet: what is drawn -/
def raw2fAny (x : Int32) (r : UInt32) : Prop := r = x.toUInt32 ∨ (vn_sni2f x = true ∧ r = (x.toUInt32 ||| 0x00400000))
theorem x_raw2f0 {p : Program} {l : Launch} {e : Env} {R : Room} {s : State} {m : MethodId} {args : Array Value} {below : List Frame} {meth : Method} {c : Code} {locs : List Loc} {cells slots : Nat} {T : State} (X : Stand p l e R s m args below meth c T locs cells slots) (hexec : p.tables.exec = Jvm.exec) {own : String} {index : Nat} (hown : s.vm.findClass own = some m.cls) (hlink : (Cond.methodLink own index ⟨"java/lang/Float", "intBitsToFloat", "(I)F"⟩).before args s = true) (hnat : (Cond.native ⟨"java/lang/Float", "intBitsToFloat", "(I)F"⟩).before args s = true) (hstat : (Cond.static ⟨"java/lang/Float", "intBitsToFloat", "(I)F"⟩).before args s = true) (hinit : (Cond.initialized "java/lang/Float").before args s = true)
    {g : JFrame} (hg : g.method = m) (hsize : g.locals.size = c.maxLocals) {rest : List Value} {b : Int32} (hv : vn_sni2f b = true) (hstack : g.stack = .int b :: rest) (hdg : decode c.code g.pc = .ok (.invokestatic index, 3)) (hframes : 1 ≤ R.frames) (hlocals : 2 * g.monitorRoom + (rest.map fun v => v.category).sum + (nativeFrameWords "java/lang/Float" "intBitsToFloat" 1 + 11) ≤ R.locals) :
    ∃ (vm' : Vm) (r : UInt32) (d' : Drawn), raw2fAny b r ∧ T.drawn.sameBut d' [.named "NaN.copy"] ∧ Stand p l e R (s.setDrawn d') m args below meth c ((T.setVm vm').setDrawn d') locs cells slots ∧ ∀ target, Steps p.tables e below (((T.setVm vm').setDrawn d').setTop { g with pc := g.pc + 3, stack := .float r :: rest }) target → Steps p.tables e below (T.setTop g) target := by
  obtain ⟨r, kS, methS, hnS, hmS, hkS, N⟩ := NativeOf.of_static hnat hstat (ps := [.int]) (ret := some .float) (by decide +kernel)
  have hinitS : kS.init = .initialized := Cond.initialized_spec (findClass_of_methodNamed hnS) hkS hinit
  obtain ⟨vm', X', step⟩ := X.invokestatic hexec hown hlink hnS hmS N.static hkS hinitS (by decide) hg (argsL := [.int b]) (rest := rest) (by rw [N.sig]; rfl) hstack hdg
  subst hg
  obtain ⟨kS', N'⟩ := N.alike X'.warmed.alike
  let ch : UInt64 := e.choices (.named "NaN.copy") ((T.setVm vm').drawn.count (.named "NaN.copy"))
  let d' : Drawn := (T.setVm vm').drawn.next (.named "NaN.copy")
  refine ⟨vm', (if ch % 2 == 0 then b.toUInt32 else b.toUInt32 ||| 0x00400000), d', ?_, Drawn.next_named _ _, X'.drew d', fun target hrest => step target fun acts => ?_⟩
  · by_cases hz : (ch % 2 == 0) = true
    · rw [if_pos hz]; exact Or.inl rfl
    · rw [if_neg hz]; exact Or.inr ⟨hv, rfl⟩
  · have hseen : seenByNative methS #[.int b] = #[.int b] := by simp [seenByNative, N'.static, N'.sig, narrow]
    refine Steps.nativeEnds (row := Native.java_lang_Float.bits.rowIntBitsToFloat) (v := some (.float (if ch % 2 == 0 then b.toUInt32 else b.toUInt32 ||| 0x00400000))) (T := fun u => u.setDrawn (u.drawn.next (.named "NaN.copy"))) (ig := .invokestatic index) (len := 3) (g := { g with stack := rest }) X'.here acts N'.cls N'.meth N'.boot N'.native N'.noCode N'.noLock
      (by rw [N'.className, N'.name, N'.desc]; exact intBitsToFloat_row p) (by rw [N'.className, N'.name]; exact (X'.notFull (g := { g with stack := rest }) hsize (vars := nativeFrameWords "java/lang/Float" "intBitsToFloat" 1) hframes hlocals)) (fun _ => rfl) rfl (fun _ => X'.here.code) ?_ hdg hrest
    intro Q hq
    rw [hseen] at hq ⊢
    rw [Native.java_lang_Float.bits.intBitsToFloat_on]
    have hv' : (b.toUInt32 &&& 0x7fffffff > 0x7f800000 && b.toUInt32 &&& 0x00400000 == 0) = true := hv
    simp only [hv', if_true]
    exact hq _ _
theorem wp_raw2f {idx : Nat} {x : Int32} (hd : decode M.2.1 pc = .ok (.invokestatic idx, 3)) (hlink : Cond.methodLink M.1.cls idx ⟨"java/lang/Float", "intBitsToFloat", "(I)F"⟩ ∈ tbG) (hnat : Cond.native ⟨"java/lang/Float", "intBitsToFloat", "(I)F"⟩ ∈ tbG) (hstat : Cond.static ⟨"java/lang/Float", "intBitsToFloat", "(I)F"⟩ ∈ tbG) (hini : Cond.initialized "java/lang/Float" ∈ tbG) (hcat : (st.map fun v => v.category).sum ≤ 8) (hdd : 1 ≤ d) (k : ∀ r : UInt32, raw2fAny x r → WP d M ca sa (pc + 3) ls (.float r :: st) H Q) : WP d M ca sa pc ls (.int x :: st) H Q := by
  intro p l e R s m args below meth c Hm locs cells slots d0 D base b q tys cA lsm Z hc hd0 hr hs hbs hcl hsl hl hz
  have hts := dr_words hc.2.2.2.2.2.2.2.1 d0
  have h1 := hc.2.2.2.2.2.2.2.2.1
  have h2 := hc.2.2.2.2.2.2.2.2.2
  by_cases hv : vn_sni2f x = true
  · intro T hT X
    obtain ⟨vm', r, d', hr', hd', X', st'⟩ := x_raw2f0 X hc.1 (own := M.1.cls) (index := idx) hc.2.2.2.2.1 (hts _ hlink) (hts _ hnat) (hts _ hstat) (hts _ hini) (g := F0 m pc lsm (.int x :: cst (adr base b q) st)) rfl (hl.1.trans hc.2.2.1.symm) hv rfl (by rw [hc.2.1]; exact hd) (by omega) (by show 2 * 0 + ((cst (adr base b q) st).map fun v => v.category).sum + _ ≤ _; rw [cst_cat]; have hw : nativeFrameWords "java/lang/Float" "intBitsToFloat" 1 ≤ 8 := (by decide); omega)
    have hdr : s.drawn.sameBut d' lw_cs := by
      refine hd0.trans ?_
      have e1 : T.drawn = d0 := X.drawn_eq
      rw [← e1]
      exact Drawn.sameBut.mono hd' (fun c hc => by
        simp only [List.mem_cons, List.not_mem_nil, or_false] at hc
        rw [hc]; simp [lw_cs])
    obtain ⟨t, a1, b1⟩ := k r hr' hc hdr hr hs hbs hcl hsl hl hz ((T.setVm vm').setDrawn d') hT X'
    exact ⟨t, st' t a1, b1⟩
  · have hv' : vn_sni2f x = false := by simpa using hv
    exact vn_i2f (s := s.setDrawn d0) hc.1 hc.2.1 (hc.2.2.1.trans hl.1.symm) hc.2.2.2.2.1 (hts _ hlink) (hts _ hnat) (hts _ hstat) (hts _ hini) hv' (by omega) (by show ((cst (adr base b q) st).map fun v => v.category).sum + 15 ≤ _; rw [cst_cat]; omega) hd (k _ (Or.inl rfl) hc hd0 hr hs hbs hcl hsl hl hz)


/-! ===== System.arraycopy ===== -/
def c3 {α : Type} (f : Nat → Nat → Nat → α) (g a : Nat) (h : Nat → α) : Nat → Nat → Nat → α := fun g' a' i' => if g' = g ∧ a' = a then h i' else f g' a' i'
def fI (H : HP) (g a : Nat) (h : Nat → Int32) : HP := (c3 H.1 g a h, H.2)
def fD (H : HP) (g a : Nat) (h : Nat → UInt64) : HP := (H.1, H.2.1, H.2.2.1, c3 H.2.2.2.1 g a h, H.2.2.2.2)
theorem c3_ne {α : Type} (f : Nat → Nat → Nat → α) {t a : Nat} (h : Nat → α) : ∀ g a' i', a' ≠ a ∨ g ≠ t → c3 f t a h g a' i' = f g a' i' := by
  intro g a' i' hh
  unfold c3
  rw [if_neg]
  rintro ⟨h1, h2⟩
  rcases hh with hh | hh
  · exact hh h2
  · exact hh h1
theorem c3_self {α : Type} (f : Nat → Nat → Nat → α) (t a : Nat) (h : Nat → α) : c3 f t a h t a = h := by funext i; simp [c3]
theorem c3_g {α : Type} (f : Nat → Nat → Nat → α) {g g' : Nat} (a : Nat) (v : Nat → α) (a' i' : Nat) (h : g' ≠ g) : c3 f g a v g' a' i' = f g' a' i' := by simp [c3, h]
theorem c3_a {α : Type} (f : Nat → Nat → Nat → α) (g g' : Nat) {a a' : Nat} (v : Nat → α) (i' : Nat) (h : a' ≠ a) : c3 f g a v g' a' i' = f g' a' i' := by simp [c3, h]

theorem hI_fI (H : HP) (g a : Nat) (v : Nat → Int32) : hI (fI H g a v) = c3 (hI H) g a v := rfl
theorem hL_fI (H : HP) (g a : Nat) (v : Nat → Int32) : hL (fI H g a v) = hL H := rfl
theorem hF_fI (H : HP) (g a : Nat) (v : Nat → Int32) : hF (fI H g a v) = hF H := rfl
theorem hD_fI (H : HP) (g a : Nat) (v : Nat → Int32) : hD (fI H g a v) = hD H := rfl
theorem hR_fI (H : HP) (g a : Nat) (v : Nat → Int32) : hR (fI H g a v) = hR H := rfl
theorem hC_fI (H : HP) (g a : Nat) (v : Nat → Int32) : hC (fI H g a v) = hC H := rfl
theorem hT_fI (H : HP) (g a : Nat) (v : Nat → Int32) : hT (fI H g a v) = hT H := rfl
theorem hN_fI (H : HP) (g a : Nat) (v : Nat → Int32) : hN (fI H g a v) = hN H := rfl
theorem hX_fI (H : HP) (g a : Nat) (v : Nat → Int32) : hX (fI H g a v) = hX H := rfl
theorem tg_fI (H : HP) (g a : Nat) (v : Nat → Int32) : tg (fI H g a v) = tg H := rfl
theorem ln_fI (H : HP) (g a : Nat) (v : Nat → Int32) : ln (fI H g a v) = ln H := rfl
theorem hI_fD (H : HP) (g a : Nat) (v : Nat → UInt64) : hI (fD H g a v) = hI H := rfl
theorem hL_fD (H : HP) (g a : Nat) (v : Nat → UInt64) : hL (fD H g a v) = hL H := rfl
theorem hF_fD (H : HP) (g a : Nat) (v : Nat → UInt64) : hF (fD H g a v) = hF H := rfl
theorem hD_fD (H : HP) (g a : Nat) (v : Nat → UInt64) : hD (fD H g a v) = c3 (hD H) g a v := rfl
theorem hR_fD (H : HP) (g a : Nat) (v : Nat → UInt64) : hR (fD H g a v) = hR H := rfl
theorem hC_fD (H : HP) (g a : Nat) (v : Nat → UInt64) : hC (fD H g a v) = hC H := rfl
theorem hT_fD (H : HP) (g a : Nat) (v : Nat → UInt64) : hT (fD H g a v) = hT H := rfl
theorem hN_fD (H : HP) (g a : Nat) (v : Nat → UInt64) : hN (fD H g a v) = hN H := rfl
theorem hX_fD (H : HP) (g a : Nat) (v : Nat → UInt64) : hX (fD H g a v) = hX H := rfl
theorem tg_fD (H : HP) (g a : Nat) (v : Nat → UInt64) : tg (fD H g a v) = tg H := rfl
theorem ln_fD (H : HP) (g a : Nat) (v : Nat → UInt64) : ln (fD H g a v) = ln H := rfl

theorem nn32 {z : Int32} (hz : ¬ z < 0) : z.toInt = (z.toNatClampNeg : Int) := by
  have hz0 : (0 : Int) ≤ z.toInt := by
    have := Int32.not_lt.mp hz
    simpa using Int32.le_iff_toInt_le.mp this
  show z.toInt = ((z.toInt.toNat : Nat) : Int)
  omega

theorem wp_copyI0 {idx a0 a : Nat} {o0 o : Option Nat} {sp dp n : Int32} (hd : decode M.2.1 pc = .ok (.invokestatic idx, 3)) (hlink : Cond.methodLink M.1.cls idx arraycopyName ∈ tbG) (hnat : Cond.native arraycopyName ∈ tbG) (hstat : Cond.static arraycopyName ∈ tbG) (hini : Cond.initialized "java/lang/System" ∈ tbG) (ho0 : o0 = some a0) (he0 : isA H a0 0) (ho : o = some a) (he : isA H a 0)
    (h1 : ¬ sp < 0) (h2 : ¬ dp < 0) (h3 : ¬ n < 0) (h4 : sp.toNatClampNeg + n.toNatClampNeg ≤ ln H a0) (h5 : dp.toNatClampNeg + n.toNatClampNeg ≤ ln H a) (hcat : (st.map fun v => v.category).sum ≤ 8) (hdd : 1 ≤ d)
    (k : WP d M ca sa (pc + 3) ls st (fI H (tg H a) a (va_cpy (hI H (tg H a0) a0) (hI H (tg H a) a) sp.toNatClampNeg dp.toNatClampNeg n.toNatClampNeg)) Q) : WP d M ca sa pc ls (.int n :: .int dp :: rv o :: .int sp :: rv o0 :: st) H Q := by
  intro p l e R s m args below meth c Hm locs cells slots d0 D base b q tys cA lsm Z hc hd0 hr hs hbs hcl hsl hl hz
  subst ho; subst ho0
  have hts := dr_words hc.2.2.2.2.2.2.2.1 d0
  have g1 := hc.2.2.2.2.2.2.2.2.1
  have g2 := hc.2.2.2.2.2.2.2.2.2
  have hKd : va_K D vwCl tys (s.setDrawn d0) := hr.1
  obtain ⟨ha0, had0, hc0, t0, ht0⟩ := rep_arr hr he0.1
  obtain ⟨ha, had, hc1, t1, ht1⟩ := rep_arr hr he.1
  rw [aval_0 he0.2 (by decide)] at hc0
  rw [aval_0 he.2 (by decide)] at hc1
  have hty0 : aelt (tg H a0) = .int := by unfold aelt; simp only [he0.2]
  have hty1 : aelt (tg H a) = .int := by unfold aelt; simp only [he.2]
  rw [hty0] at ht0
  rw [hty1] at ht1
  show W p l e R (s.setDrawn d0) m args below meth c Hm locs cells slots Z (F0 m pc lsm (.int n :: .int dp :: Value.ref (adr base b q a) :: .int sp :: Value.ref (adr base b q a0) :: cst (adr base b q) st))
  rw [had, had0]
  intro T hT X
  obtain ⟨-, k0, hk0, cm0, hkk0⟩ := (hKd.2 t0 _ ht0).1 (ln H a0) (fun j => .int (hI H (tg H a0) a0 j))
  obtain ⟨-, k1, hk1, cm1, hkk1⟩ := (hKd.2 t1 _ ht1).1 (ln H a) (fun j => .int (hI H (tg H a) a j))
  obtain ⟨vm', X', step⟩ := X.arraycopy hc.1 hc.2.2.2.2.1 (hts _ hlink) (hts _ hnat) (hts _ hstat) (hts _ hini) (src := base + a0) (dst := base + a) (cs := vp_cell (cA a0) (ln H a0, .inl (hI H (tg H a0) a0))) (cd := vp_cell (cA a) (ln H a, .inl (hI H (tg H a) a))) (srcPos := sp) (destPos := dp) (n := n) (by rw [hT]; exact hc0) (by rw [hT]; exact hc1)
    (fun _ h => by cases h) (fun _ h => by cases h) (fun h => by cases h) (fun h => by cases h) hk0 hk1 hkk0 hkk1 (by simp [refKind]) h1 h2 h3
    (by rw [nn32 h1, nn32 h3]; show ¬ _ > ((arrV _ (ln H a0) (fun j => .int (hI H (tg H a0) a0 j))).slots.size : Int); rw [arrV_size]; omega)
    (by rw [nn32 h2, nn32 h3]; show ¬ _ > ((arrV _ (ln H a) (fun j => .int (hI H (tg H a) a j))).slots.size : Int); rw [arrV_size]; omega)
    (fun vm₁ _ i hi => by
      have e : (vp_cell (cA a0) (ln H a0, .inl (hI H (tg H a0) a0))).slots.getD (sp.toNatClampNeg + i) .null = .int (hI H (tg H a0) a0 (sp.toNatClampNeg + i)) := by
        show (arrV _ (ln H a0) (fun j => .int (hI H (tg H a0) a0 j))).slots.getD _ _ = _
        rw [Array.getD_eq_getD_getElem?, arrV_read _ _ (by omega)]
        rfl
      refine ⟨?_, ?_⟩
      · rw [e]
        exact rfl
      · rw [e]
        exact trivial)
    (g := F0 m pc lsm (.int n :: .int dp :: .ref (base + a) :: .int sp :: .ref (base + a0) :: cst (adr base b q) st)) rfl (hl.1.trans hc.2.2.1.symm) (rest := cst (adr base b q) st) rfl (by rw [hc.2.1]; exact hd) (by omega) (by show 2 * 0 + ((cst (adr base b q) st).map fun v => v.category).sum + _ ≤ _; rw [cst_cat]; have hw : nativeFrameWords "java/lang/System" "arraycopy" 5 ≤ 16 := (by decide); omega)
  have e1 : copied (vp_cell (cA a0) (ln H a0, .inl (hI H (tg H a0) a0))) (vp_cell (cA a) (ln H a, .inl (hI H (tg H a) a))) sp dp n = vp_cell (cA a) (ln H a, .inl (va_cpy (hI H (tg H a0) a0) (hI H (tg H a) a) sp.toNatClampNeg dp.toNatClampNeg n.toNatClampNeg)) := va_copied (fun z => .int z) (cA a0) (cA a) (hI H (tg H a0) a0) (hI H (tg H a) a) h4
  rw [e1] at X' step
  have hlt : base + a < Hm.size := (Array.getElem?_eq_some_iff.mp hc1).1
  generalize hcell : vp_cell (cA a) (ln H a, .inl (va_cpy (hI H (tg H a0) a0) (hI H (tg H a) a) sp.toNatClampNeg dp.toNatClampNeg n.toNatClampNeg)) = cell at X' step
  have hheap : ((T.setVm vm').setCell (base + a) cell).heap = Hm.setIfInBounds (base + a) cell := by rw [← hT]; rfl
  have oq : ∀ x : Nat, x ≠ base + a → (Hm.setIfInBounds (base + a) cell)[x]? = Hm[x]? := fun x hx => by simp [Array.getElem?_setIfInBounds, Ne.symm hx]
  have es : (Hm.setIfInBounds (base + a) cell)[base + a]? = some cell := by simp [Array.getElem?_setIfInBounds, hlt]
  have hRn : Rep D base b q tys cA (fI H (tg H a) a (va_cpy (hI H (tg H a0) a0) (hI H (tg H a) a) sp.toNatClampNeg dp.toNatClampNeg n.toNatClampNeg)) s (Hm.setIfInBounds (base + a) cell) := by
    refine hr.arr he.1 (by simp) oq rfl rfl rfl ?_ (c3_ne _ _) (fun _ _ _ _ => rfl) (fun _ _ _ _ => rfl) (fun _ _ _ _ => rfl) (fun _ _ _ _ => rfl) rfl
    rw [es, aval_0 he.2 (by decide), hI_fI, c3_self, hcell]
  obtain ⟨t, a1, b1⟩ := k hc hd0 hRn ⟨by simp; exact hs.1, fun x g1 g2 => by
      rw [oq x (fun e => g2 (by rw [e]; exact Nat.le_add_right _ _))]
      exact hs.2.1 x g1 g2, fun x hx => by
      rcases List.mem_append.mp hx with h | h
      · exact hs.2.2 x h
      · obtain ⟨z, -, hz⟩ := List.mem_map.mp h
        rw [← hz]
        exact Nat.le_add_right _ _⟩ hbs hcl hsl hl hz _ hheap X'
  exact ⟨t, step t a1, b1⟩
theorem wp_copyI1 {idx a0 a : Nat} {o0 o : Option Nat} {sp dp n : Int32} (hd : decode M.2.1 pc = .ok (.invokestatic idx, 3)) (hlink : Cond.methodLink M.1.cls idx arraycopyName ∈ tbG) (hnat : Cond.native arraycopyName ∈ tbG) (hstat : Cond.static arraycopyName ∈ tbG) (hini : Cond.initialized "java/lang/System" ∈ tbG) (ho0 : o0 = some a0) (he0 : isA H a0 1) (ho : o = some a) (he : isA H a 1)
    (h1 : ¬ sp < 0) (h2 : ¬ dp < 0) (h3 : ¬ n < 0) (h4 : sp.toNatClampNeg + n.toNatClampNeg ≤ ln H a0) (h5 : dp.toNatClampNeg + n.toNatClampNeg ≤ ln H a) (hfit : ∀ i, i < n.toNatClampNeg → fits .byte (.int (hI H (tg H a0) a0 (sp.toNatClampNeg + i))) = true) (hcat : (st.map fun v => v.category).sum ≤ 8) (hdd : 1 ≤ d)
    (k : WP d M ca sa (pc + 3) ls st (fI H (tg H a) a (va_cpy (hI H (tg H a0) a0) (hI H (tg H a) a) sp.toNatClampNeg dp.toNatClampNeg n.toNatClampNeg)) Q) : WP d M ca sa pc ls (.int n :: .int dp :: rv o :: .int sp :: rv o0 :: st) H Q := by
  intro p l e R s m args below meth c Hm locs cells slots d0 D base b q tys cA lsm Z hc hd0 hr hs hbs hcl hsl hl hz
  subst ho; subst ho0
  have hts := dr_words hc.2.2.2.2.2.2.2.1 d0
  have g1 := hc.2.2.2.2.2.2.2.2.1
  have g2 := hc.2.2.2.2.2.2.2.2.2
  have hKd : va_K D vwCl tys (s.setDrawn d0) := hr.1
  obtain ⟨ha0, had0, hc0, t0, ht0⟩ := rep_arr hr he0.1
  obtain ⟨ha, had, hc1, t1, ht1⟩ := rep_arr hr he.1
  rw [aval_0 he0.2 (by decide)] at hc0
  rw [aval_0 he.2 (by decide)] at hc1
  have hty0 : aelt (tg H a0) = .byte := by unfold aelt; simp only [he0.2]
  have hty1 : aelt (tg H a) = .byte := by unfold aelt; simp only [he.2]
  rw [hty0] at ht0
  rw [hty1] at ht1
  show W p l e R (s.setDrawn d0) m args below meth c Hm locs cells slots Z (F0 m pc lsm (.int n :: .int dp :: Value.ref (adr base b q a) :: .int sp :: Value.ref (adr base b q a0) :: cst (adr base b q) st))
  rw [had, had0]
  intro T hT X
  obtain ⟨-, k0, hk0, cm0, hkk0⟩ := (hKd.2 t0 _ ht0).1 (ln H a0) (fun j => .int (hI H (tg H a0) a0 j))
  obtain ⟨-, k1, hk1, cm1, hkk1⟩ := (hKd.2 t1 _ ht1).1 (ln H a) (fun j => .int (hI H (tg H a) a j))
  obtain ⟨vm', X', step⟩ := X.arraycopy hc.1 hc.2.2.2.2.1 (hts _ hlink) (hts _ hnat) (hts _ hstat) (hts _ hini) (src := base + a0) (dst := base + a) (cs := vp_cell (cA a0) (ln H a0, .inl (hI H (tg H a0) a0))) (cd := vp_cell (cA a) (ln H a, .inl (hI H (tg H a) a))) (srcPos := sp) (destPos := dp) (n := n) (by rw [hT]; exact hc0) (by rw [hT]; exact hc1)
    (fun _ h => by cases h) (fun _ h => by cases h) (fun h => by cases h) (fun h => by cases h) hk0 hk1 hkk0 hkk1 (by simp [refKind]) h1 h2 h3
    (by rw [nn32 h1, nn32 h3]; show ¬ _ > ((arrV _ (ln H a0) (fun j => .int (hI H (tg H a0) a0 j))).slots.size : Int); rw [arrV_size]; omega)
    (by rw [nn32 h2, nn32 h3]; show ¬ _ > ((arrV _ (ln H a) (fun j => .int (hI H (tg H a) a j))).slots.size : Int); rw [arrV_size]; omega)
    (fun vm₁ _ i hi => by
      have e : (vp_cell (cA a0) (ln H a0, .inl (hI H (tg H a0) a0))).slots.getD (sp.toNatClampNeg + i) .null = .int (hI H (tg H a0) a0 (sp.toNatClampNeg + i)) := by
        show (arrV _ (ln H a0) (fun j => .int (hI H (tg H a0) a0 j))).slots.getD _ _ = _
        rw [Array.getD_eq_getD_getElem?, arrV_read _ _ (by omega)]
        rfl
      refine ⟨?_, ?_⟩
      · rw [e]
        exact hfit i hi
      · rw [e]
        exact trivial)
    (g := F0 m pc lsm (.int n :: .int dp :: .ref (base + a) :: .int sp :: .ref (base + a0) :: cst (adr base b q) st)) rfl (hl.1.trans hc.2.2.1.symm) (rest := cst (adr base b q) st) rfl (by rw [hc.2.1]; exact hd) (by omega) (by show 2 * 0 + ((cst (adr base b q) st).map fun v => v.category).sum + _ ≤ _; rw [cst_cat]; have hw : nativeFrameWords "java/lang/System" "arraycopy" 5 ≤ 16 := (by decide); omega)
  have e1 : copied (vp_cell (cA a0) (ln H a0, .inl (hI H (tg H a0) a0))) (vp_cell (cA a) (ln H a, .inl (hI H (tg H a) a))) sp dp n = vp_cell (cA a) (ln H a, .inl (va_cpy (hI H (tg H a0) a0) (hI H (tg H a) a) sp.toNatClampNeg dp.toNatClampNeg n.toNatClampNeg)) := va_copied (fun z => .int z) (cA a0) (cA a) (hI H (tg H a0) a0) (hI H (tg H a) a) h4
  rw [e1] at X' step
  have hlt : base + a < Hm.size := (Array.getElem?_eq_some_iff.mp hc1).1
  generalize hcell : vp_cell (cA a) (ln H a, .inl (va_cpy (hI H (tg H a0) a0) (hI H (tg H a) a) sp.toNatClampNeg dp.toNatClampNeg n.toNatClampNeg)) = cell at X' step
  have hheap : ((T.setVm vm').setCell (base + a) cell).heap = Hm.setIfInBounds (base + a) cell := by rw [← hT]; rfl
  have oq : ∀ x : Nat, x ≠ base + a → (Hm.setIfInBounds (base + a) cell)[x]? = Hm[x]? := fun x hx => by simp [Array.getElem?_setIfInBounds, Ne.symm hx]
  have es : (Hm.setIfInBounds (base + a) cell)[base + a]? = some cell := by simp [Array.getElem?_setIfInBounds, hlt]
  have hRn : Rep D base b q tys cA (fI H (tg H a) a (va_cpy (hI H (tg H a0) a0) (hI H (tg H a) a) sp.toNatClampNeg dp.toNatClampNeg n.toNatClampNeg)) s (Hm.setIfInBounds (base + a) cell) := by
    refine hr.arr he.1 (by simp) oq rfl rfl rfl ?_ (c3_ne _ _) (fun _ _ _ _ => rfl) (fun _ _ _ _ => rfl) (fun _ _ _ _ => rfl) (fun _ _ _ _ => rfl) rfl
    rw [es, aval_0 he.2 (by decide), hI_fI, c3_self, hcell]
  obtain ⟨t, a1, b1⟩ := k hc hd0 hRn ⟨by simp; exact hs.1, fun x g1 g2 => by
      rw [oq x (fun e => g2 (by rw [e]; exact Nat.le_add_right _ _))]
      exact hs.2.1 x g1 g2, fun x hx => by
      rcases List.mem_append.mp hx with h | h
      · exact hs.2.2 x h
      · obtain ⟨z, -, hz⟩ := List.mem_map.mp h
        rw [← hz]
        exact Nat.le_add_right _ _⟩ hbs hcl hsl hl hz _ hheap X'
  exact ⟨t, step t a1, b1⟩
theorem wp_copyD5 {idx a0 a : Nat} {o0 o : Option Nat} {sp dp n : Int32} (hd : decode M.2.1 pc = .ok (.invokestatic idx, 3)) (hlink : Cond.methodLink M.1.cls idx arraycopyName ∈ tbG) (hnat : Cond.native arraycopyName ∈ tbG) (hstat : Cond.static arraycopyName ∈ tbG) (hini : Cond.initialized "java/lang/System" ∈ tbG) (ho0 : o0 = some a0) (he0 : isA H a0 5) (ho : o = some a) (he : isA H a 5)
    (h1 : ¬ sp < 0) (h2 : ¬ dp < 0) (h3 : ¬ n < 0) (h4 : sp.toNatClampNeg + n.toNatClampNeg ≤ ln H a0) (h5 : dp.toNatClampNeg + n.toNatClampNeg ≤ ln H a) (hcat : (st.map fun v => v.category).sum ≤ 8) (hdd : 1 ≤ d)
    (k : WP d M ca sa (pc + 3) ls st (fD H (tg H a) a (va_cpy (hD H (tg H a0) a0) (hD H (tg H a) a) sp.toNatClampNeg dp.toNatClampNeg n.toNatClampNeg)) Q) : WP d M ca sa pc ls (.int n :: .int dp :: rv o :: .int sp :: rv o0 :: st) H Q := by
  intro p l e R s m args below meth c Hm locs cells slots d0 D base b q tys cA lsm Z hc hd0 hr hs hbs hcl hsl hl hz
  subst ho; subst ho0
  have hts := dr_words hc.2.2.2.2.2.2.2.1 d0
  have g1 := hc.2.2.2.2.2.2.2.2.1
  have g2 := hc.2.2.2.2.2.2.2.2.2
  have hKd : va_K D vwCl tys (s.setDrawn d0) := hr.1
  obtain ⟨ha0, had0, hc0, t0, ht0⟩ := rep_arr hr he0.1
  obtain ⟨ha, had, hc1, t1, ht1⟩ := rep_arr hr he.1
  rw [aval_5 he0.2] at hc0
  rw [aval_5 he.2] at hc1
  have hty0 : aelt (tg H a0) = .double := by unfold aelt; simp only [he0.2]
  have hty1 : aelt (tg H a) = .double := by unfold aelt; simp only [he.2]
  rw [hty0] at ht0
  rw [hty1] at ht1
  show W p l e R (s.setDrawn d0) m args below meth c Hm locs cells slots Z (F0 m pc lsm (.int n :: .int dp :: Value.ref (adr base b q a) :: .int sp :: Value.ref (adr base b q a0) :: cst (adr base b q) st))
  rw [had, had0]
  intro T hT X
  obtain ⟨-, k0, hk0, cm0, hkk0⟩ := (hKd.2 t0 _ ht0).1 (ln H a0) (fun j => .double (hD H (tg H a0) a0 j))
  obtain ⟨-, k1, hk1, cm1, hkk1⟩ := (hKd.2 t1 _ ht1).1 (ln H a) (fun j => .double (hD H (tg H a) a j))
  obtain ⟨vm', X', step⟩ := X.arraycopy hc.1 hc.2.2.2.2.1 (hts _ hlink) (hts _ hnat) (hts _ hstat) (hts _ hini) (src := base + a0) (dst := base + a) (cs := vp_cell (cA a0) (ln H a0, .inr (.inr (.inr (.inl (hD H (tg H a0) a0)))))) (cd := vp_cell (cA a) (ln H a, .inr (.inr (.inr (.inl (hD H (tg H a) a)))))) (srcPos := sp) (destPos := dp) (n := n) (by rw [hT]; exact hc0) (by rw [hT]; exact hc1)
    (fun _ h => by cases h) (fun _ h => by cases h) (fun h => by cases h) (fun h => by cases h) hk0 hk1 hkk0 hkk1 (by simp [refKind]) h1 h2 h3
    (by rw [nn32 h1, nn32 h3]; show ¬ _ > ((arrV _ (ln H a0) (fun j => .double (hD H (tg H a0) a0 j))).slots.size : Int); rw [arrV_size]; omega)
    (by rw [nn32 h2, nn32 h3]; show ¬ _ > ((arrV _ (ln H a) (fun j => .double (hD H (tg H a) a j))).slots.size : Int); rw [arrV_size]; omega)
    (fun vm₁ _ i hi => by
      have e : (vp_cell (cA a0) (ln H a0, .inr (.inr (.inr (.inl (hD H (tg H a0) a0)))))).slots.getD (sp.toNatClampNeg + i) .null = .double (hD H (tg H a0) a0 (sp.toNatClampNeg + i)) := by
        show (arrV _ (ln H a0) (fun j => .double (hD H (tg H a0) a0 j))).slots.getD _ _ = _
        rw [Array.getD_eq_getD_getElem?, arrV_read _ _ (by omega)]
        rfl
      refine ⟨?_, ?_⟩
      · rw [e]
        exact rfl
      · rw [e]
        exact trivial)
    (g := F0 m pc lsm (.int n :: .int dp :: .ref (base + a) :: .int sp :: .ref (base + a0) :: cst (adr base b q) st)) rfl (hl.1.trans hc.2.2.1.symm) (rest := cst (adr base b q) st) rfl (by rw [hc.2.1]; exact hd) (by omega) (by show 2 * 0 + ((cst (adr base b q) st).map fun v => v.category).sum + _ ≤ _; rw [cst_cat]; have hw : nativeFrameWords "java/lang/System" "arraycopy" 5 ≤ 16 := (by decide); omega)
  have e1 : copied (vp_cell (cA a0) (ln H a0, .inr (.inr (.inr (.inl (hD H (tg H a0) a0)))))) (vp_cell (cA a) (ln H a, .inr (.inr (.inr (.inl (hD H (tg H a) a)))))) sp dp n = vp_cell (cA a) (ln H a, .inr (.inr (.inr (.inl (va_cpy (hD H (tg H a0) a0) (hD H (tg H a) a) sp.toNatClampNeg dp.toNatClampNeg n.toNatClampNeg))))) := va_copied (fun z => .double z) (cA a0) (cA a) (hD H (tg H a0) a0) (hD H (tg H a) a) h4
  rw [e1] at X' step
  have hlt : base + a < Hm.size := (Array.getElem?_eq_some_iff.mp hc1).1
  generalize hcell : vp_cell (cA a) (ln H a, .inr (.inr (.inr (.inl (va_cpy (hD H (tg H a0) a0) (hD H (tg H a) a) sp.toNatClampNeg dp.toNatClampNeg n.toNatClampNeg))))) = cell at X' step
  have hheap : ((T.setVm vm').setCell (base + a) cell).heap = Hm.setIfInBounds (base + a) cell := by rw [← hT]; rfl
  have oq : ∀ x : Nat, x ≠ base + a → (Hm.setIfInBounds (base + a) cell)[x]? = Hm[x]? := fun x hx => by simp [Array.getElem?_setIfInBounds, Ne.symm hx]
  have es : (Hm.setIfInBounds (base + a) cell)[base + a]? = some cell := by simp [Array.getElem?_setIfInBounds, hlt]
  have hRn : Rep D base b q tys cA (fD H (tg H a) a (va_cpy (hD H (tg H a0) a0) (hD H (tg H a) a) sp.toNatClampNeg dp.toNatClampNeg n.toNatClampNeg)) s (Hm.setIfInBounds (base + a) cell) := by
    refine hr.arr he.1 (by simp) oq rfl rfl rfl ?_ (fun _ _ _ _ => rfl) (fun _ _ _ _ => rfl) (fun _ _ _ _ => rfl) (c3_ne _ _) (fun _ _ _ _ => rfl) rfl
    rw [es, aval_5 he.2, hD_fD, c3_self, hcell]
  obtain ⟨t, a1, b1⟩ := k hc hd0 hRn ⟨by simp; exact hs.1, fun x g1 g2 => by
      rw [oq x (fun e => g2 (by rw [e]; exact Nat.le_add_right _ _))]
      exact hs.2.1 x g1 g2, fun x hx => by
      rcases List.mem_append.mp hx with h | h
      · exact hs.2.2 x h
      · obtain ⟨z, -, hz⟩ := List.mem_map.mp h
        rw [← hz]
        exact Nat.le_add_right _ _⟩ hbs hcl hsl hl hz _ hheap X'
  exact ⟨t, step t a1, b1⟩

/-! ===== the text constant ===== -/
theorem adr_str {base b : Nat} {q : QA} : adr base b q strA = q.1 ∧ adr base b q strV = q.2.1 ∧ adr base b q strF = q.2.2 := by
  refine ⟨?_, ?_, ?_⟩ <;> simp [adr, strA, strV, strF, scrA]
theorem wp_ldcs (hd : decode M.2.1 pc = .ok (.ldc 26, 2)) (hM : M.1.cls = RX10) (k : WP d M ca sa (pc + 2) ls (rv (some strA) :: st) H Q) : WP d M ca sa pc ls st H Q := by
  intro p l e R s m args below meth c Hm locs cells slots d0 D base b q tys cA lsm Z hc hd0 hr hs hbs hcl hsl hl hz
  obtain ⟨-, hR, -⟩ := hr.2.2.2.2.2.2.2.2.2
  have hR' : vk_R RX10 26 "mgska" q.1 (s.setDrawn d0) := hR.same rfl
  rw [← hM] at hR'
  refine va_ldcS (s := s.setDrawn d0) hc.1 hc.2.1 hc.2.2.2.2.1 hR' hd ?_
  have := k hc hd0 hr hs hbs hcl hsl hl hz
  rw [cst_cons, show cv (adr base b q) (rv (some strA)) = .ref q.1 from congrArg Value.ref adr_str.1] at this
  exact this
theorem x_gets {p : Program} {l : Launch} {e : Env} {R : Room} {s : State} {m : MethodId} {args : Array Value} {below : List Frame} {meth : Method} {c : Code} {Hm : Heap} {locs : List Loc} {cells slots : Nat} {Z : State → Prop} {cc : ByteArray} {lsm : Array Slot} {rest : List Value} (hexec : p.tables.exec = Jvm.exec) (hb : c.code = cc) {C n ds own : String} {v : Value} {index : Nat} {A : Nat → Prop} (hZ : va_Z C n ds v A s Hm) (hown : s.vm.findClass own = some m.cls) (hlink : (Cond.fieldLink own index C n ds).before args s = true) (hdg : decode cc pc = .ok (.getstatic index, 3))
    (kk : W p l e R s m args below meth c Hm locs cells slots Z (F0 m (pc + 3) lsm (v :: rest))) : W p l e R s m args below meth c Hm locs cells slots Z (F0 m pc lsm rest) := by
  obtain ⟨cf, kf, fi, f, a, cell, h1, h2, h3, h4, h5, h6, h7, h8⟩ := hZ
  exact W.gets hexec hb hown hlink h1 h2 h3 h4 h5 (fun e => by rw [e] at h6; cases h6) h7 rfl hdg kk
theorem wp_compact {idx : Nat} (hd : decode M.2.1 pc = .ok (.getstatic idx, 3)) (hlk : Cond.fieldLink M.1.cls idx "java/lang/String" "COMPACT_STRINGS" "Z" ∈ tbG) (k : WP d M ca sa (pc + 3) ls (.int 1 :: st) H Q) : WP d M ca sa pc ls st H Q := by
  intro p l e R s m args below meth c Hm locs cells slots d0 D base b q tys cA lsm Z hc hd0 hr hs hbs hcl hsl hl hz
  have hts := dr_words hc.2.2.2.2.2.2.2.1 d0
  obtain ⟨-, -, hZ, -⟩ := hr.2.2.2.2.2.2.2.2.2
  exact x_gets (s := s.setDrawn d0) hc.1 hc.2.1 (hZ.moved (Vm.Alike.refl s.vm)) hc.2.2.2.2.1 (hts _ hlk) hd (k hc hd0 hr hs hbs hcl hsl hl hz)
theorem wp_formatter {idx : Nat} (hd : decode M.2.1 pc = .ok (.getstatic idx, 3)) (hlk : Cond.fieldLink M.1.cls idx "jdk/internal/util/Preconditions" "SIOOBE_FORMATTER" "Ljava/util/function/BiFunction;" ∈ tbG) (k : ∀ o : Option Nat, WP d M ca sa (pc + 3) ls (rv o :: st) H Q) : WP d M ca sa pc ls st H Q := by
  intro p l e R s m args below meth c Hm locs cells slots d0 D base b q tys cA lsm Z hc hd0 hr hs hbs hcl hsl hl hz
  have hts := dr_words hc.2.2.2.2.2.2.2.1 d0
  obtain ⟨-, -, -, hZ, -⟩ := hr.2.2.2.2.2.2.2.2.2
  rcases hZ with hZ | hZ
  · exact x_gets (s := s.setDrawn d0) hc.1 hc.2.1 (hZ.moved (Vm.Alike.refl s.vm)) hc.2.2.2.2.1 (hts _ hlk) hd (k none hc hd0 hr hs hbs hcl hsl hl hz)
  · refine x_gets (s := s.setDrawn d0) hc.1 hc.2.1 (hZ.moved (Vm.Alike.refl s.vm)) hc.2.2.2.2.1 (hts _ hlk) hd ?_
    have := k (some strF) hc hd0 hr hs hbs hcl hsl hl hz
    rw [cst_cons, show cv (adr base b q) (rv (some strF)) = .ref q.2.2 from congrArg Value.ref adr_str.2.2] at this
    exact this
theorem x_getf {p : Program} {l : Launch} {e : Env} {R : Room} {s : State} {m : MethodId} {args : Array Value} {below : List Frame} {meth : Method} {c : Code} {Hm : Heap} {locs : List Loc} {cells slots : Nat} {Z : State → Prop} {cc : ByteArray} {lsm : Array Slot} {rest : List Value} (hexec : p.tables.exec = Jvm.exec) (hb : c.code = cc) {o n ds own : String} {index q : Nat} {v : Value} {A : Nat → Prop} (hE : va_OF o n ds v q A s Hm) (hown : s.vm.findClass own = some m.cls) (hlink : (Cond.fieldLink own index o n ds).before args s = true) (hdg : decode cc pc = .ok (.getfield index, 3))
    (kk : W p l e R s m args below meth c Hm locs cells slots Z (F0 m (pc + 3) lsm (v :: rest))) : W p l e R s m args below meth c Hm locs cells slots Z (F0 m pc lsm (.ref q :: rest)) := by
  obtain ⟨cf, k, fi, f, cell, h1, h2, h3, h4, h5, h6⟩ := hE
  exact W.getf hexec hb hown hlink h1 h2 h3 h4 (v := v) h5 rfl rfl hdg kk
theorem wp_strCoder {idx : Nat} (hd : decode M.2.1 pc = .ok (.getfield idx, 3)) (hlk : Cond.fieldLink M.1.cls idx "java/lang/String" "coder" "B" ∈ tbG) (k : WP d M ca sa (pc + 3) ls (.int 0 :: st) H Q) : WP d M ca sa pc ls (rv (some strA) :: st) H Q := by
  intro p l e R s m args below meth c Hm locs cells slots d0 D base b q tys cA lsm Z hc hd0 hr hs hbs hcl hsl hl hz
  have hts := dr_words hc.2.2.2.2.2.2.2.1 d0
  obtain ⟨hS, -⟩ := hr.2.2.2.2.2.2.2.2.2
  rw [cst_cons, show cv (adr base b q) (rv (some strA)) = .ref q.1 from congrArg Value.ref adr_str.1]
  exact x_getf (s := s.setDrawn d0) hc.1 hc.2.1 (va_OF.moved (Vm.Alike.refl s.vm) (hS.1 0 (by decide)).2.1) hc.2.2.2.2.1 (hts _ hlk) hd (k hc hd0 hr hs hbs hcl hsl hl hz)
theorem wp_strValue {idx : Nat} (hd : decode M.2.1 pc = .ok (.getfield idx, 3)) (hlk : Cond.fieldLink M.1.cls idx "java/lang/String" "value" "[B" ∈ tbG) (k : WP d M ca sa (pc + 3) ls (rv (some strV) :: st) H Q) : WP d M ca sa pc ls (rv (some strA) :: st) H Q := by
  intro p l e R s m args below meth c Hm locs cells slots d0 D base b q tys cA lsm Z hc hd0 hr hs hbs hcl hsl hl hz
  have hts := dr_words hc.2.2.2.2.2.2.2.1 d0
  obtain ⟨hS, -⟩ := hr.2.2.2.2.2.2.2.2.2
  rw [cst_cons, show cv (adr base b q) (rv (some strA)) = .ref q.1 from congrArg Value.ref adr_str.1]
  refine x_getf (s := s.setDrawn d0) hc.1 hc.2.1 (va_OF.moved (Vm.Alike.refl s.vm) (hS.1 0 (by decide)).2.2.1) hc.2.2.2.2.1 (hts _ hlk) hd ?_
  have := k hc hd0 hr hs hbs hcl hsl hl hz
  rw [cst_cons, show cv (adr base b q) (rv (some strV)) = .ref q.2.1 from congrArg Value.ref adr_str.2.1] at this
  exact this
theorem wp_strLen (hd : decode M.2.1 pc = .ok (.arraylength, 1)) (k : WP d M ca sa (pc + 1) ls (.int 5 :: st) H Q) : WP d M ca sa pc ls (rv (some strV) :: st) H Q := by
  intro p l e R s m args below meth c Hm locs cells slots d0 D base b q tys cA lsm Z hc hd0 hr hs hbs hcl hsl hl hz
  obtain ⟨hS, -⟩ := hr.2.2.2.2.2.2.2.2.2
  obtain ⟨cell, h1, h2, h3, h4, h5, -⟩ := (hS.1 0 (by decide)).2.2.2
  have h2' : (s.setDrawn d0).isArrayOf cell .byte := h2
  rw [cst_cons, show cv (adr base b q) (rv (some strV)) = .ref q.2.1 from congrArg Value.ref adr_str.2.1]
  exact W.alen (s := s.setDrawn d0) (n := 5) hc.1 hc.2.1 h1 h2' h5 rfl rfl hd (k hc hd0 hr hs hbs hcl hsl hl hz)
theorem wp_strByte {i : Int32} (hd : decode M.2.1 pc = .ok (.baload, 1)) (hin : vp_in i 5) (k : WP d M ca sa (pc + 1) ls (.int ([(109 : Int32), 103, 115, 107, 97].getD i.toNatClampNeg 0) :: st) H Q) : WP d M ca sa pc ls (.int i :: rv (some strV) :: st) H Q := by
  intro p l e R s m args below meth c Hm locs cells slots d0 D base b q tys cA lsm Z hc hd0 hr hs hbs hcl hsl hl hz
  obtain ⟨hS, -⟩ := hr.2.2.2.2.2.2.2.2.2
  obtain ⟨cell, h1, h2, h3, h4, h5, h6, -⟩ := (hS.1 0 (by decide)).2.2.2
  have h2' : (s.setDrawn d0).isArrayOf cell .byte := h2
  have hlt : i.toNatClampNeg < 5 := Nat.not_le.mp fun q => hin (Or.inr q)
  have h0 : ¬ i < 0 := fun q => hin (Or.inl q)
  have h4' : 5 ≤ cell.slots.size := h4
  rw [cst_cons, cst_cons, show cv (adr base b q) (rv (some strV)) = .ref q.2.1 from congrArg Value.ref adr_str.2.1]
  exact W.bald (s := s.setDrawn d0) (v := .int ([(109 : Int32), 103, 115, 107, 97].getD i.toNatClampNeg 0)) hc.1 hc.2.1 h1 h2' h3 (fun h => h.elim h0 (fun h => by omega)) (h6 _ hlt) rfl rfl hd (k hc hd0 hr hs hbs hcl hsl hl hz)
theorem wp_callStr {idx n d' : Nat} {M' : MM} {As rest st' : List Value} (hd : decode M.2.1 pc = .ok (.invokevirtual idx, 3)) (lk : LkV M.1.cls idx M' n) (hst : st' = As.reverse ++ rv (some strA) :: rest) (hn : As.length = n) (hcat : (rest.map fun v => v.category).sum ≤ 8) (hrc : M'.1.cls = "java/lang/String") (hdd : d = d' + 1) (hnest : Cond.methodLink M.1.cls idx M'.1 ∈ tbG)
    (k : Call d' 0 0 M' (rv (some strA) :: As) H (fun H' r => WP d M ca sa (pc + 3) ls (r.toList ++ rest) H' Q)) : WP d M ca sa pc ls st' H Q := by
  intro p l e R s m args below meth c Hm locs cells slots d0 D base b q tys cA lsm Z hc hd0 hr hs hbs hcl hsl hl hz
  obtain ⟨⟨-, hcode, hini, hy1, hy2, hdesc, hmaxL⟩, hinst, hsel⟩ := lk
  have hts := dr_words hc.2.2.2.2.2.2.2.1 d0
  obtain ⟨hS, -⟩ := hr.2.2.2.2.2.2.2.2.2
  have hcell : ∃ cell : Cell, Hm[q.1]? = some cell ∧ cell.vm.isStatics = false ∧ s.vm.findClass M'.1.cls = some cell.cls := by
    obtain ⟨cell, g1, g2, g3, -⟩ := (hS.1 0 (by decide)).1
    exact ⟨cell, g1, g2, by rw [hrc]; exact g3⟩
  have hst2 : cst (adr base b q) st' = (cst (adr base b q) As).reverse ++ .ref q.1 :: cst (adr base b q) rest := by
    rw [hst, cst_app, cst_rev, cst_cons, show cv (adr base b q) (rv (some strA)) = .ref q.1 from congrArg Value.ref adr_str.1]
  have hCB : CallB R (s.setDrawn d0) args M.1.cls idx M'.1 M'.2.1 M'.2.2.1 M'.2.2.2 (wsM M') (rmM d' 0 0) 0 0 n := callB_of n hts (wsM_good hcode) rfl rfl rfl (hts _ hini) (hts _ hnest) ⟨hy1, hy2, hdesc⟩ ⟨by have := hc.2.2.2.2.2.2.2.2.1; show d' + 1 ≤ _; omega, by have := hc.2.2.2.2.2.2.2.2.2; show 8 + (M'.2.2.1 + 11) + 64 * d' ≤ _; omega⟩
  have hpre : PreV (s.setDrawn d0) Hm M'.1.cls q.1 (PcM D base b q tys cA (rv (some strA) :: As) H) (cst (adr base b q) As) := by
    refine ⟨pc_blind, hcell, fun U hU hW => ⟨?_, ?_⟩⟩
    · show (Value.ref q.1 :: _).toArray = (cv (adr base b q) (rv (some strA)) :: _).toArray
      rw [show cv (adr base b q) (rv (some strA)) = .ref q.1 from congrArg Value.ref adr_str.1]; rfl
    · rw [hU]; exact Rep.warm (s := s.setDrawn d0) hW (hr.same rfl)
  have hCF : CallFix p m c M.2.1 M.2.2.1 (s.setDrawn d0) args tbG M.1.cls := ⟨hc.1, hc.2.1, hc.2.2.1, hc.2.2.2.2.1, hts⟩
  rw [hst2]
  exact wp_run hc hd0 hr hs hbs hcl hsl hl hz rfl rfl (va_runV_D (rest := cst (adr base b q) rest) hCF (k l D base b q tys cA) ⟨hCB, hts _ hinst, hts _ hsel⟩ hpre rfl (by rw [cst_len]; exact hn) hl.1 rfl (by show 2 * 0 + _ ≤ _; rw [cst_cat]; omega) hd ⟨by omega, by omega⟩)


theorem x_ldcwF {p : Program} {l : Launch} {e : Env} {R : Room} {s : State} {m : MethodId} {args : Array Value} {below : List Frame} {meth : Method} {c : Code} {T : State} {locs : List Loc} {cells slots : Nat} (X : Stand p l e R s m args below meth c T locs cells slots) (hexec : p.tables.exec = Jvm.exec) {own : String} {index : Nat} {v : UInt32} (hown : s.vm.findClass own = some m.cls)
    (hconst : (Cond.constantFloat own index v).before args s = true) {g : JFrame} (hg : g.method = m) (hdg : decode c.code g.pc = .ok (.ldc_w index, 3)) :
    ∀ target, Steps p.tables e below (T.setTop { g with pc := g.pc + 3, stack := .float v :: g.stack }) target → Steps p.tables e below (T.setTop g) target := by
  obtain ⟨k, cf, hk, hcf, hcp⟩ := Cond.constantFloat_spec hown hconst
  obtain ⟨k', hk', he⟩ := X.warmed.alike.2.2 _ _ hk
  intro target hrest
  subst hg
  jvm_step X.here [hexec, hdg, ldc_w.wp_float (s := T) (f := g) X.here.top hk' (by rw [he]; exact hcf) hcp]
  exact hrest
theorem wp_ldcwf {i : Nat} {v : UInt32} (hd : decode M.2.1 pc = .ok (.ldc_w i, 3)) (hw : Cond.constantFloat M.1.cls i v ∈ tbG) (k : WP d M ca sa (pc + 3) ls (.float v :: st) H Q) : WP d M ca sa pc ls st H Q := by
  intro p l e R s m args below meth c Hm locs cells slots d0 D base b q tys cA lsm Z hc hd0 hr hs hbs hcl hsl hl hz
  intro T hT X
  obtain ⟨t, a, b'⟩ := k hc hd0 hr hs hbs hcl hsl hl hz T hT X
  exact ⟨t, x_ldcwF X hc.1 hc.2.2.2.2.1 (dr_words hc.2.2.2.2.2.2.2.1 d0 _ hw) (g := F0 m pc lsm (cst (adr base b q) st)) rfl (by rw [hc.2.1]; exact hd) t a, b'⟩

end RULES
