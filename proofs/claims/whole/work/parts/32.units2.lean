
/-! ===== units: writings of the class ===== -/
theorem byte_fit {x : Int32} (h1 : -128 ≤ x.toInt) (h2 : x.toInt ≤ 127) : fits .byte (.int x) = true := by
  have a1 : (-128 : Int32).toInt = -128 := rfl
  have a2 : (127 : Int32).toInt = 127 := rfl
  show (decide ((-128 : Int32) ≤ x) && decide (x ≤ (127 : Int32))) = true
  rw [Bool.and_eq_true, decide_eq_true_iff, decide_eq_true_iff, i32_le, i32_le, a1, a2]
  exact ⟨h1, h2⟩
theorem cl0 : (0 : Int32).toNatClampNeg = 0 := rfl
theorem cl4 : (4 : Int32).toNatClampNeg = 4 := rfl
theorem cl5 : (5 : Int32).toNatClampNeg = 5 := rfl
theorem cpy0 {α : Type} {f g : Nat → α} {n j : Nat} (h : j < n) : va_cpy f g 0 0 n j = f j := by
  unfold va_cpy
  rw [if_pos (by omega)]
  have e : 0 + (j - 0) = j := by omega
  rw [e]
theorem K_ucopy {d : Nat} {q : HP → Prop} {H : HP} {a b : Nat} {u : UV} (sa : shUnit H a) (sb : shUnit H b) (hb : CUn H b u) (h4 : u.1.1 ≤ 4) (hab : a + 5 ≤ b ∨ b + 5 ≤ a) (hq : ∀ H', Fr (fun _ x => a ≤ x ∧ x < a + 5) H H' → CUn H' a u → q H') : CV (d + 2) 0 0 mX9_copy [rv (some a), rv (some b)] H q := by
  obtain ⟨a1, a2, a3, a4, a5, a6, a7, a8, a9⟩ := id sa
  obtain ⟨b1, b2, b3, b4, b5, b6, b7, b8, b9⟩ := id sb
  obtain ⟨u1, u2, u3, u4, u5, u6⟩ := id hb
  refine C_X9_copy ?_
  unfold wb_X9_copy_0
  rw [cl0, cl4, cl5]
  have F1 : Fr (fun _ x => a ≤ x ∧ x < a + 5) H (sI H 1001 a 0 (hI H 1001 b 0)) := Fr_sI ⟨by omega, by omega⟩
  have out : ∀ g x, b ≤ x → x < b + 5 → ¬ ((fun (_ : Nat) x => a ≤ x ∧ x < a + 5) g x) := fun g x h1 h2 h3 => by
    have := h3.1
    have := h3.2
    omega
  have c1 : CUn (sI H 1001 a 0 (hI H 1001 b 0)) b u := fr_CUn F1 out hb
  have v1 : hI (sI H 1001 a 0 (hI H 1001 b 0)) 1001 a 0 = Int32.ofNat u.1.1 := by rw [hI_sI, u3_same]; exact u1
  have s1 : shUnit (sI H 1001 a 0 (hI H 1001 b 0)) a := sa
  have s1' : shUnit (sI H 1001 a 0 (hI H 1001 b 0)) b := sb
  refine ⟨b, rfl, sb.1, sa.1, ?_⟩
  generalize sI H 1001 a 0 (hI H 1001 b 0) = H1 at *
  obtain ⟨a1, a2, a3, a4, a5, a6, a7, a8, a9⟩ := id s1
  obtain ⟨b1, b2, b3, b4, b5, b6, b7, b8, b9⟩ := id s1'
  refine ⟨b + 1, b2, isA_of b3 (by decide) (by decide), a + 1, a2, isA_of a3 (by decide) (by decide), by rw [ln_of b3]; decide, by rw [ln_of a3]; decide, ?_, ?_⟩
  · intro i hi
    rw [tg_of b3, Nat.zero_add]
    exact byte_fit (c1.2.2.2.2.2 i hi).1 (c1.2.2.2.2.2 i hi).2
  rw [tg_of b3, tg_of a3]
  intro H11 hH
  have F2 : Fr (fun _ x => a ≤ x ∧ x < a + 5) H1 H11 := by rw [← hH]; exact Fr_fI ⟨by omega, by omega⟩
  have n2 : hI H11 1001 a 0 = Int32.ofNat u.1.1 := by rw [← hH, hI_fI, c3_g _ _ _ _ _ (by decide)]; exact v1
  have l2 : ∀ j, j < 4 → hI H11 4193 (a + 1) j = hI H1 4193 (b + 1) j := fun j hj => by
    rw [← hH, hI_fI, c3_self]; exact cpy0 hj
  have s2 : shUnit H11 a := fr_unit F2 s1
  have s2' : shUnit H11 b := fr_unit F2 s1'
  have c2 : CUn H11 b u := fr_CUn F2 out c1
  have F12 := F1.tr F2
  have l2' : ∀ j, j < 4 → -128 ≤ (hI H11 4193 (a + 1) j).toInt ∧ (hI H11 4193 (a + 1) j).toInt ≤ 127 := fun j hj => by rw [l2 j hj]; exact c1.2.2.2.2.2 j hj
  have l2'' : ∀ j, j < u.1.1 → hI H11 4193 (a + 1) j = u.1.2 j := fun j hj => by rw [l2 j (by omega)]; exact c1.2.1 j hj
  clear hH l2 v1 c1 F1 F2 s1 s1'
  obtain ⟨a1, a2, a3, a4, a5, a6, a7, a8, a9⟩ := id s2
  obtain ⟨b1, b2, b3, b4, b5, b6, b7, b8, b9⟩ := id s2'
  refine ⟨b + 2, b4, isA_of b5 (by decide) (by decide), a + 2, a4, isA_of a5 (by decide) (by decide), by rw [ln_of b5]; decide, by rw [ln_of a5]; decide, ?_⟩
  rw [tg_of b5, tg_of a5]
  have F3 : Fr (fun _ x => a ≤ x ∧ x < a + 5) H11 (fI H11 4208 (a + 2) (va_cpy (hI H11 4208 (b + 2)) (hI H11 4208 (a + 2)) 0 0 5)) := Fr_fI ⟨by omega, by omega⟩
  have n3 : hI (fI H11 4208 (a + 2) (va_cpy (hI H11 4208 (b + 2)) (hI H11 4208 (a + 2)) 0 0 5)) 1001 a 0 = Int32.ofNat u.1.1 := by rw [hI_fI, c3_g _ _ _ _ _ (by decide)]; exact n2
  have l3 : hI (fI H11 4208 (a + 2) (va_cpy (hI H11 4208 (b + 2)) (hI H11 4208 (a + 2)) 0 0 5)) 4193 (a + 1) = hI H11 4193 (a + 1) := by funext j; rw [hI_fI, c3_g _ _ _ _ _ (by decide)]
  have p3 : ∀ j, j < 5 → hI (fI H11 4208 (a + 2) (va_cpy (hI H11 4208 (b + 2)) (hI H11 4208 (a + 2)) 0 0 5)) 4208 (a + 2) j = u.2.1 j := fun j hj => by
    rw [hI_fI, c3_self, cpy0 hj]; exact c2.2.2.1 j hj
  generalize fI H11 4208 (a + 2) (va_cpy (hI H11 4208 (b + 2)) (hI H11 4208 (a + 2)) 0 0 5) = H3 at *
  have s3 : shUnit H3 a := fr_unit F3 s2
  have s3' : shUnit H3 b := fr_unit F3 s2'
  have c3 : CUn H3 b u := fr_CUn F3 out c2
  obtain ⟨a1, a2, a3, a4, a5, a6, a7, a8, a9⟩ := id s3
  obtain ⟨b1, b2, b3, b4, b5, b6, b7, b8, b9⟩ := id s3'
  refine ⟨a + 3, a6, a7, ?_⟩
  rw [a6, b6]
  refine K_copy a7 b7 ?_
  refine ⟨a1, b1, a + 4, a8, a9, ?_⟩
  have F4 : Fr (fun _ x => a ≤ x ∧ x < a + 5) H3 (setF H3 (a + 3) (getF H3 (b + 3))) := Fr_setF ⟨by omega, by omega⟩ ⟨by omega, by omega⟩
  have c4 : CUn (setF H3 (a + 3) (getF H3 (b + 3))) b u := fr_CUn F4 out c3
  have e8 : hC (setF H3 (a + 3) (getF H3 (b + 3))) 1004 a = some (a + 4) := a8
  have e8' : hC (setF H3 (a + 3) (getF H3 (b + 3))) 1004 b = some (b + 4) := b8
  rw [e8, e8']
  refine K_copy a9 b9 (hq _ (((F12.tr F3).tr F4).tr (Fr_setF ⟨by omega, by omega⟩ ⟨by omega, by omega⟩)) ?_)
  refine ⟨n3, fun j hj => ?_, p3, ?_, ?_, fun j hj => ?_⟩
  · show hI H3 4193 (a + 1) j = _
    rw [l3]; exact l2'' j hj
  · rw [fr_getF (S := fun _ x => x = a + 4) (Fr_setF rfl rfl) (by intro h; omega) (by intro h; omega), getF_setF]
    exact c3.2.2.2.1
  · rw [getF_setF]; exact c4.2.2.2.2.1
  · show -128 ≤ (hI H3 4193 (a + 1) j).toInt ∧ (hI H3 4193 (a + 1) j).toInt ≤ 127
    rw [l3]; exact l2' j hj
