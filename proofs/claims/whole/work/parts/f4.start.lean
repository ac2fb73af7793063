
/-! ===== the law, from the empty world ===== -/
theorem okU_base (i : Nat) : okU (baseU i) := by
  refine ⟨Nat.le_refl 1, by show 1 ≤ 4; decide, fun j _ => ?_, fun j _ => ?_, ?_, by show 0 < (1 : Int64).toInt; decide, ?_⟩
  · show isLet (lett i) = true
    unfold lett
    split
    · decide
    · split
      · decide
      · split
        · decide
        · split <;> decide
  · show -9 ≤ ((if j = i then (1 : Int32) else 0)).toInt ∧ ((if j = i then (1 : Int32) else 0)).toInt ≤ 9
    split <;> decide
  · show okF ((1, 1) : FR)
    exact ⟨by decide, by decide, by decide⟩
  · show okF ((0, 1) : FR)
    exact ⟨by decide, by decide, by decide⟩
def PG0 : PG := ((1, fun _ => (0, 0, 0, false, (0, fun _ => 0, fun _ => 0, fun _ => 0, 0))), false, 0, 0, (-1, 0, fun _ => (fun _ => 0, (0, 1))))
theorem okPG_0 : okPG PG0 := ⟨Nat.le_refl 1, by show 1 ≤ 60; decide, Nat.zero_le _, fun k => absurd (show (-1 : Int32) = 0 from k) (by decide), fun i _ => Nat.zero_le _, fun k => absurd (show false = true from k) (by decide), fun i hi => absurd hi (Nat.not_lt_zero i)⟩
theorem InvC_ex {Z H : HP} (R : ∀ x, x < 1118 → exA Z H x) (m : made2 Z) : InvC H 5 baseU CL0 TP0 false PG0 false 5 baseU CL0 TR0 RK0 := by
  obtain ⟨s1, s2, s3, s4, s5, s6, s7, s8, s9, s10, s11⟩ := m
  have RR : ∀ a n, a + n ≤ 1118 → exR Z H a n := fun a n h x k1 k2 => R x (by omega)
  obtain ⟨t1, t2, t3, t4, t5, t6⟩ := s5
  obtain ⟨k1, k2, k3, k4⟩ := s8 5 baseU CL0
  obtain ⟨p1, la, dr, p2, p3, p4, p5, p6, p7, p8⟩ := s9 PG0
  refine ⟨ex_shP (R 0 (by omega)) (R 1090 (by omega)).2.2.2.2.2 (R 1091 (by omega)).2.2.2.2.2 (RR 1094 3 (by omega)) s1, ex_shDef (RR 229 13 (by omega)) s2, ex_LtB (RR 229 13 (by omega)) s3, ex_shBits (RR 1092 2 (by omega)) s4, ⟨ex_shTape (RR 1 2 (by omega)) t1, by rw [(R 1 (by omega)).1]; exact t2, t3, by rw [(R 1 (by omega)).1]; exact t4, t5, fun i hi => absurd hi (Nat.not_lt_zero i)⟩, ex_CU (RR 3 102 (by omega)) s6, ex_CCl (RR 105 11 (by omega)) s7, ⟨by rw [(R 0 (by omega)).1]; exact k1, ex_shUnits (RR 116 102 (by omega)) k2, ex_shCl (RR 218 11 (by omega)) k3, (fun k => by cases k)⟩, ⟨by rw [(R 0 (by omega)).1]; exact p1, la, dr, p2, by rw [(R 0 (by omega)).2.2.2.1]; exact p3, by rw [(R 0 (by omega)).2.2.2.1]; exact p4, ex_shProof (RR la 424 (by omega)) p5, ex_shProof (RR dr 424 (by omega)) p6, (fun k => by cases k), (fun _ => by rw [(R la (by omega)).1]; exact p8 rfl)⟩, ⟨fun i hi => ?_, fun t ht => ?_⟩, ⟨fun i hi => ?_, fun r hr i hi => ?_⟩⟩
  · obtain ⟨a1, a2⟩ := s10.1 i hi
    exact ⟨by rw [(R 1090 (by omega)).2.2.2.1]; exact a1, ex_shTrack (RR (1097 + 3 * i) 3 (by omega)) a2⟩
  · obtain ⟨a1, a2, -, -⟩ := s10.2 t ht
    have g := (R (1097 + 3 * t) (by omega)).1
    exact ⟨by rw [g]; exact a1, by rw [g]; exact a2, fun k => absurd (show (-1 : Int32) = 0 from k) (by decide), fun k => absurd (show (-1 : Int32) = 1 from k) (by decide)⟩
  · obtain ⟨a1, a2, a3⟩ := s11.1 i hi
    exact ⟨by rw [(R 1091 (by omega)).2.2.2.1]; exact a1, ex_shRack (RR (1109 + 3 * i) 3 (by omega)) a2, by rw [(R (1109 + 3 * i) (by omega)).1]; exact a3⟩
  · obtain ⟨a1, a2⟩ := s11.2 r hr i hi
    exact ⟨by rw [(R (1109 + 3 * r + 1) (by omega)).1]; exact a1, by rw [(R (1109 + 3 * r + 2) (by omega)).2.1]; exact a2⟩
theorem law_start {L : Nat} {xs : Nat → Int32} {H : HP} (hL : L ≤ 3072) (hn : hN H = 0) (hx : hX H = (L, xs)) : wb_L_law_0 100 5000 40000 (fun _ b => b = true) H := by
  unfold wb_L_law_0
  rw [hn]
  refine ⟨by decide, by decide, by decide, by decide, by decide, ?_⟩
  have zz : ∀ g, hI (nw H 12 0) g 0 0 = 0 := fun g => by
    show z3 (hI H) (hN H) 0 g 0 0 = 0
    unfold z3; rw [if_pos hn.symm]
  refine K_cinit (d := 94) (by rw [tg_nw, if_pos hn.symm]) (by rw [hN_nw, hn]) ⟨zz _, zz _⟩ fun Z m nZ xZ => ?_
  rw [nZ]
  refine ⟨by decide, by decide, by decide, by decide, by decide, ?_⟩
  have z2 : ∀ g, hI (nw Z 13 0) g 1118 0 = 0 := fun g => by
    show z3 (hI Z) (hN Z) 0 g 1118 0 = 0
    unfold z3; rw [if_pos nZ.symm]
  refine K_minit (d := 99) (m := 1118) (by rw [tg_nw, if_pos nZ.symm]) (by rw [hN_nw, nZ]) (by decide) z2 fun H12 E n12 mu mcl mt mp mk mtr mrk => ?_
  have X : Ext (fun x => x = 1118) Z H12 := (Ext_nw (P := fun x => x = 1118)).tr E (fun x hx k => k)
  have R : ∀ x, x < 1118 → exA Z H12 x := fun x h => exA_of X (by omega) (by omega)
  have xH : hX H12 = (L, xs) := by rw [E.2.1, hX_nw, xZ, hX_nw]; exact hx
  refine law_loop (q := fun _ b => b = true) (j := 0) hL (fun _ => rfl) L H12 (by omega) (by omega) xH (Inv_of ⟨⟨by decide, by decide, fun i _ => okU_base i, Nat.zero_le _, fun i hi => absurd hi (Nat.not_lt_zero i)⟩, okU_base, okPG_0, fun k => (by cases k), okTR_0, okRK_0⟩ (InvC_ex R m) ⟨mu, mcl, mt TP0 rfl, mk 5 baseU CL0, mp PG0, mtr, mrk⟩)
