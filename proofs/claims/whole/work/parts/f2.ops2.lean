
/-! ===== the last four calls ===== -/
theorem PrS_n {g x : Nat} (k : PrS 1118 g x) : (g = 1323 ∧ x = 1118) ∨ ScM g x := by
  rcases k with k | k
  · rcases k with k | ⟨k, -⟩
    · rcases k with k | k | ⟨k, -⟩
      · exact Or.inr (by omega)
      · exact Or.inr (by omega)
      · cases k
    · cases k
  · by_cases e : g = 1323
    · exact Or.inl ⟨e, k.2⟩
    · exact Or.inr (by omega)
theorem dropN_b {n : Nat} (h5 : 5 ≤ n) (h20 : n ≤ 20) : 5 ≤ dropN n ∧ dropN n ≤ 20 := by
  unfold dropN
  split <;> omega
theorem okCl_more {n : Nat} {C : CLM} (h : okCl n C) : okCl (n + 1) C := ⟨h.1, fun i hi => by
  obtain ⟨h1, h2, h3⟩ := h.2 i hi
  exact ⟨by omega, by omega, h3⟩⟩
theorem defN_ok {T : TP} {n : Nat} {U : Nat → UV} {C : CLM} (hT : T.1 ≤ 60) (h : okSt2 n U C) (hU : ∀ i, okU (U i)) : okSt2 (defN T n U).1 (defN T n U).2 C ∧ ∀ i, okU ((defN T n U).2 i) := by
  unfold defN
  cases hD : dDef T with
  | inl w => exact ⟨h, hU⟩
  | inr D =>
    simp only
    cases hA : defA T n U D with
    | inl w => exact ⟨h, hU⟩
    | inr u =>
      simp only
      obtain ⟨k1, k2⟩ := defA_ok hU (dDef_ok hT hD) hA
      have kU : ∀ i, okU (addU U n u i) := fun i => by
        unfold addU
        split
        · exact k1
        · exact hU i
      have := h.2.1
      exact ⟨⟨by have := h.1; omega, by omega, fun i _ => kU i, okCl_more h.2.2.2⟩, kU⟩
theorem O_define {d : Nat} {q : HP → Int32 → Prop} {H : HP} (inv : Inv H) (hq : ∀ H3 ra, hX H3 = hX H → tg H3 1118 = 13 → (∀ q2 : HP → Int32 → Prop, (∀ H8, hX H8 = hX H → Inv H8 → q2 H8 ra) → CI (d + 100) 0 0 mX12_define [rv (some 1118)] H3 q2) → q H3 ra) : CI (d + 100) 0 0 mX11_define [rv (some 0)] H q := by
  obtain ⟨n, U, C, T, pr, P, kp, nK, UK, CK, TT, K, ok, c, m⟩ := inv
  obtain ⟨o1, o2, o3, o4, o5, o6⟩ := id ok
  obtain ⟨c1, c2, c3, c4, c5, c6, c7, c8, c9, c10, c11⟩ := id c
  obtain ⟨m1, m2, m3, m4, m5, m6, m7⟩ := id m
  have tm := m1.1.1
  refine K_cdefine (d := d + 94) c1 c2 c3 c5 c6 o2 fun H3 F t3 u3 l3 => hq H3 _ F.2.2.2.1 (by rw [fr_tg F]; exact tm) fun q2 h2 => ?_
  have mm := fr_InvM (F.mono (S' := ScM) (fun g x k => by omega)) m
  have cc : InvC H3 ((defN T n U).1) ((defN T n U).2) C ((0, T.2)) pr P kp nK UK CK TT K := ⟨fr_shP F c1, fr_shDef F c2, l3, fr_shBits F (fun k => by omega) (fun k => by omega) c4, t3, u3, fr_CCl F (fun g b k1 k2 k3 => by omega) c7, fr_CKp F (fun k => by omega) (fun g x k1 k2 k3 => by omega) c8, fr_CPr o3 F (fun k => by omega) (fun k => by omega) (fun k => by omega) (fun g x k1 k2 k3 => by omega) c9, fr_CTr F (fun k => by omega) (fun g x k1 k2 k3 => by omega) c10, fr_CRk F (fun k => by omega) (fun g x k1 k2 k3 => by omega) c11⟩
  obtain ⟨m1, m2, m3, m4, m5, m6, m7⟩ := id mm
  refine K_mdefine (d := d + 92) m3 m1 o2 fun H8 F2 t8 u8 => h2 H8 (F2.2.2.2.1.trans F.2.2.2.1) (Inv_of ⟨(defN_ok c5.2.2.1 o1 o2).1, (defN_ok c5.2.2.1 o1 o2).2, o3, o4, o5, o6⟩ (fr_InvC o3 (F2.mono (S' := ScC) (fun g x k => by omega)) cc) ?_)
  exact ⟨u8, fr_MCl F2 (fun k => by omega) (fun k => by omega) m2, t8, fr_MKp F2 (fun g k1 k2 k3 => by omega) (fun g x k1 k2 k3 => by omega) m4, fr_MPr F2 (fun g k1 k2 k3 => by omega) (fun k => by omega) (fun k => by omega) (fun k => by omega) (fun k => by omega) m5, fr_MTr F2 (fun g x k1 k2 k3 => by omega) m6, fr_MRk F2 (fun k => by omega) (fun k => by omega) m7⟩
theorem O_drop {d : Nat} {q : HP → Int32 → Prop} {H : HP} (inv : Inv H) (hq : ∀ H3 ra, hX H3 = hX H → tg H3 1118 = 13 → (∀ q2 : HP → Int32 → Prop, (∀ H8, hX H8 = hX H → Inv H8 → q2 H8 ra) → CI (d + 100) 0 0 mX12_drop [rv (some 1118)] H3 q2) → q H3 ra) : CI (d + 100) 0 0 mX11_drop [rv (some 0)] H q := by
  obtain ⟨n, U, C, T, pr, P, kp, nK, UK, CK, TT, K, ok, c, m⟩ := inv
  obtain ⟨o1, o2, o3, o4, o5, o6⟩ := id ok
  obtain ⟨c1, c2, c3, c4, c5, c6, c7, c8, c9, c10, c11⟩ := id c
  obtain ⟨m1, m2, m3, m4, m5, m6, m7⟩ := id m
  have tm := m1.1.1
  refine K_cdrop (d := d + 92) c1 c6 o1.2.2.2 c7 fun H3 F u3 l3 k3 => hq H3 _ F.2.2.2.1 (by rw [fr_tg F]; exact tm) fun q2 h2 => ?_
  have mm := fr_InvM (F.mono (S' := ScM) (fun g x k => by omega)) m
  have cc : InvC H3 (dropN n) U (dropCl n C) T pr P kp nK UK CK TT K := ⟨fr_shP F c1, fr_shDef F c2, fr_LtB F (fun k => by omega) c3, fr_shBits F (fun k => by omega) (fun k => by omega) c4, fr_CT1p F (fun g k => by omega) (fun g k => by omega) c5, u3, l3, fr_CKp F (fun k => by omega) (fun g x k1 k2 k3 => by omega) c8, fr_CPr o3 F (fun k => by omega) (fun k => by omega) (fun k => by omega) (fun g x k1 k2 k3 => by omega) c9, fr_CTr F (fun k => by omega) (fun g x k1 k2 k3 => by omega) c10, fr_CRk F (fun k => by omega) (fun g x k1 k2 k3 => by omega) c11⟩
  obtain ⟨m1, m2, m3, m4, m5, m6, m7⟩ := id mm
  refine K_mdrop (d := d + 97) m1 o1.2.2.2 o1.1 m2 fun H8 F2 u8 l8 => h2 H8 (F2.2.2.2.1.trans F.2.2.2.1) (Inv_of ⟨⟨(dropN_b o1.1 o1.2.1).1, (dropN_b o1.1 o1.2.1).2, fun i _ => o2 i, k3⟩, o2, o3, o4, o5, o6⟩ (fr_InvC o3 (F2.mono (S' := ScC) (fun g x k => by omega)) cc) ?_)
  exact ⟨u8, l8, fr_MT0 F2 (fun k => by omega) (fun k => by omega) m3, fr_MKp F2 (fun g k1 k2 k3 => by omega) (fun g x k1 k2 k3 => by omega) m4, fr_MPr F2 (fun g k1 k2 k3 => by omega) (fun k => by omega) (fun k => by omega) (fun k => by omega) (fun k => by omega) m5, fr_MTr F2 (fun g x k1 k2 k3 => by omega) m6, fr_MRk F2 (fun k => by omega) (fun k => by omega) m7⟩
theorem O_undo {d : Nat} {q : HP → Int32 → Prop} {H : HP} (inv : Inv H) (hq : ∀ H3 ra, hX H3 = hX H → tg H3 1118 = 13 → (∀ q2 : HP → Int32 → Prop, (∀ H8, hX H8 = hX H → Inv H8 → q2 H8 ra) → CI (d + 100) 0 0 mX12_undo [rv (some 1118)] H3 q2) → q H3 ra) : CI (d + 100) 0 0 mX11_undo [rv (some 0)] H q := by
  obtain ⟨n, U, C, T, pr, P, kp, nK, UK, CK, TT, K, ok, c, m⟩ := inv
  obtain ⟨o1, o2, o3, o4, o5, o6⟩ := id ok
  obtain ⟨c1, c2, c3, c4, c5, c6, c7, c8, c9, c10, c11⟩ := id c
  obtain ⟨m1, m2, m3, m4, m5, m6, m7⟩ := id m
  have tm := m1.1.1
  refine K_cundo (d := d + 92) c1 c6 c7 c8 (fun k => (o4 k).1) (fun hp H3 F u3 l3 => hq H3 _ F.2.2.2.1 (by rw [fr_tg F]; exact tm) fun q2 h2 => ?_) (fun hp => hq H _ rfl tm fun q2 h2 => K_mundo (d := d + 98) m1 m4 (fun k => by rw [hp] at k; cases k) (fun k => by rw [hp] at k; cases k) (fun k => by rw [hp] at k; cases k) (fun _ => h2 H rfl (Inv_of ok c m)))
  have mm := fr_InvM (F.mono (S' := ScM) (fun g x k => by omega)) m
  have cc : InvC H3 nK UK CK T pr P kp nK UK CK TT K := ⟨fr_shP F c1, fr_shDef F c2, fr_LtB F (fun k => by omega) c3, fr_shBits F (fun k => by omega) (fun k => by omega) c4, fr_CT1p F (fun g k => by omega) (fun g k => by omega) c5, u3, l3, fr_CKp F (fun k => by omega) (fun g x k1 k2 k3 => by omega) c8, fr_CPr o3 F (fun k => by omega) (fun k => by omega) (fun k => by omega) (fun g x k1 k2 k3 => by omega) c9, fr_CTr F (fun k => by omega) (fun g x k1 k2 k3 => by omega) c10, fr_CRk F (fun k => by omega) (fun g x k1 k2 k3 => by omega) c11⟩
  obtain ⟨m1, m2, m3, m4, m5, m6, m7⟩ := id mm
  refine K_mundo (d := d + 98) m1 m4 (fun k => (o4 k).1.2.2.2.1) (fun k => (o4 k).1.2.2.1) (fun _ H8 F2 u8 l8 => h2 H8 (F2.2.2.2.1.trans F.2.2.2.1) (Inv_of ⟨(o4 hp).1, (o4 hp).2, o3, o4, o5, o6⟩ (fr_InvC o3 (F2.mono (S' := ScC) (fun g x k => by omega)) cc) ?_)) (fun k => by rw [hp] at k; cases k)
  exact ⟨u8, l8, fr_MT0 F2 (fun k => by omega) (fun k => by omega) m3, fr_MKp F2 (fun g k1 k2 k3 => by omega) (fun g x k1 k2 k3 => by omega) m4, fr_MPr F2 (fun g k1 k2 k3 => by omega) (fun k => by omega) (fun k => by omega) (fun k => by omega) (fun k => by omega) m5, fr_MTr F2 (fun g x k1 k2 k3 => by omega) m6, fr_MRk F2 (fun k => by omega) (fun k => by omega) m7⟩
theorem O_prove {d : Nat} {q : HP → Int32 → Prop} {H : HP} (inv : Inv H) (hq : ∀ H3 ra, hX H3 = hX H → tg H3 1118 = 13 → (∀ q2 : HP → Int32 → Prop, (∀ H8, hX H8 = hX H → Inv H8 → q2 H8 ra) → CI (d + 100) 0 0 mX12_prove [rv (some 1118)] H3 q2) → q H3 ra) : CI (d + 100) 0 0 mX11_prove [rv (some 0)] H q := by
  obtain ⟨n, U, C, T, pr, P, kp, nK, UK, CK, TT, K, ok, c, m⟩ := inv
  obtain ⟨o1, o2, o3, o4, o5, o6⟩ := id ok
  obtain ⟨c1, c2, c3, c4, c5, c6, c7, c8, c9, c10, c11⟩ := id c
  obtain ⟨m1, m2, m3, m4, m5, m6, m7⟩ := id m
  have tm := m1.1.1
  obtain ⟨p1, la, dr, p2, p3, p4, p5, p6, p7, p8⟩ := id c9
  refine K_cprove (d := d + 78) c1 p4 p3 (by omega) p6 c5 c6 o2 (fun ff e H3 F t3 sp3 => hq H3 _ F.2.2.2.1 (by rw [fr_tg F]; exact tm) fun q2 h2 => ?_) (fun st eq l r e H3 F t3 sp3 r7 r8 i9 pv k5 => hq H3 _ F.2.2.2.1 (by rw [fr_tg F]; exact tm) fun q2 h2 => ?_)
  · have mm := fr_InvM (F.mono (S' := ScM) (fun g x k => by omega)) m
    have hi := F.2.2.2.2.1
    have hr := F.2.2.2.2.2.2.2.2
    have q9 : CPr H3 pr P := ⟨by rw [hi _ _ (fun k => by omega)]; exact p1, la, dr, p2, by rw [hr _ _ (fun k => by omega)]; exact p3, by rw [hr _ _ (fun k => by omega)]; exact p4, fr_shProof F (fun k => by omega) p5, sp3, fun k => fr_CPf o3 F (fun g x k1 k2 k3 => by omega) (p7 k), fun k => by rw [hi _ _ (fun k => by omega)]; exact p8 k⟩
    have cc : InvC H3 n U C (0, T.2) pr P kp nK UK CK TT K := ⟨fr_shP F c1, fr_shDef F c2, fr_LtB F (fun k => by omega) c3, fr_shBits F (fun k => by omega) (fun k => by omega) c4, t3, fr_CU F (fun g b k1 k2 k3 => by omega) c6, fr_CCl F (fun g b k1 k2 k3 => by omega) c7, fr_CKp F (fun k => by omega) (fun g x k1 k2 k3 => by omega) c8, q9, fr_CTr F (fun k => by omega) (fun g x k1 k2 k3 => by omega) c10, fr_CRk F (fun k => by omega) (fun g x k1 k2 k3 => by omega) c11⟩
    obtain ⟨m1, m2, m3, m4, m5, m6, m7⟩ := id mm
    refine K_mprove (d := d + 77) o2 m3 m1 (fun ff' e' _ H8 F2 z => ?_) (fun st eq l r e' => by rw [e] at e'; cases e')
    · rw [e] at e'
      rw [← Sum.inl.inj e']
      refine h2 H8 (F2.2.2.2.1.trans F.2.2.2.1) (Inv_of ok (fr_InvC o3 (F2.mono (S' := ScC) (fun g x k => by omega)) cc) ?_)
      have F2 := F2.mono (S' := fun g x => (g = 1323 ∧ x = 1118) ∨ ScM g x) (fun g x k => PrS_n k)
      exact ⟨fr_MU F2 (fun k => by omega) (fun g a k1 k2 k3 => by omega) m1, fr_MCl F2 (fun k => by omega) (fun k => by omega) m2, ⟨fr_shM F2 m1.1, z, Nat.zero_le _, fun i hi => absurd hi (Nat.not_lt_zero i)⟩, fr_MKp F2 (fun g k1 k2 k3 => by omega) (fun g x k1 k2 k3 => by omega) m4, fr_MPr F2 (fun g k1 k2 k3 => by omega) (fun k => by omega) (fun k => by omega) (fun k => by omega) (fun k => by omega) m5, fr_MTr F2 (fun g x k1 k2 k3 => by omega) m6, fr_MRk F2 (fun k => by omega) (fun k => by omega) m7⟩
  · have mm := fr_InvM (F.mono (S' := ScM) (fun g x k => by omega)) m
    have okP := pF_okPG o2 e pv.2.1 (fun i hi => (pv.2.2.2.2.2 i hi).2)
    have q9 : CPr H3 true (st, eq, l, r, jA (wF T n U) U st st.1) := ⟨i9, dr, la, by omega, r7, r8, sp3, fr_shProof F (fun k => by omega) p5, fun _ => ⟨sp3, pv, k5⟩, fun k => by cases k⟩
    have cc : InvC H3 n U C (0, T.2) true (st, eq, l, r, jA (wF T n U) U st st.1) kp nK UK CK TT K := ⟨fr_shP F c1, fr_shDef F c2, fr_LtB F (fun k => by omega) c3, fr_shBits F (fun k => by omega) (fun k => by omega) c4, t3, fr_CU F (fun g b k1 k2 k3 => by omega) c6, fr_CCl F (fun g b k1 k2 k3 => by omega) c7, fr_CKp F (fun k => by omega) (fun g x k1 k2 k3 => by omega) c8, q9, fr_CTr F (fun k => by omega) (fun g x k1 k2 k3 => by omega) c10, fr_CRk F (fun k => by omega) (fun g x k1 k2 k3 => by omega) c11⟩
    obtain ⟨m1, m2, m3, m4, m5, m6, m7⟩ := id mm
    refine K_mprove (d := d + 77) o2 m3 m1 (fun ff' e' => by rw [e] at e'; cases e') (fun st' eq' l' r' e' H8 F2 z z39 jh k40 _ k44 => ?_)
    rw [e] at e'
    have e' := Sum.inr.inj e'
    simp only [Prod.mk.injEq] at e'
    obtain ⟨e1, e2, e3, e4⟩ := e'
    subst e1
    subst e2
    subst e3
    subst e4
    refine h2 H8 (F2.2.2.2.1.trans F.2.2.2.1) (Inv_of (P := (st, eq, l, r, jA (wF T n U) U st st.1)) ⟨o1, o2, okP, o4, o5, o6⟩ (fr_InvC okP (F2.mono (S' := ScC) (fun g x k => by omega)) cc) ?_)
    exact ⟨fr_MU F2 (fun k => by omega) (fun g a k1 k2 k3 => by omega) m1, fr_MCl F2 (fun k => by omega) (fun k => by omega) m2, ⟨fr_shM F2 m1.1, z, Nat.zero_le _, fun i hi => absurd hi (Nat.not_lt_zero i)⟩, fr_MKp F2 (fun g k1 k2 k3 => by omega) (fun g x k1 k2 k3 => by omega) m4, ⟨z39, fun _ => ⟨jh, k40, k44⟩⟩, fr_MTr F2 (fun g x k1 k2 k3 => by omega) m6, fr_MRk F2 (fun k => by omega) (fun k => by omega) m7⟩
