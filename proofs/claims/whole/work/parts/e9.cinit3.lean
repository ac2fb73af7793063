
/-! ===== the class made ===== -/
def TP0 : TP := (0, fun _ => 0)
def made2 (Z : HP) : Prop := shP Z ∧ shDef Z 229 ∧ LtB Z 229 ∧ shBits Z 1092 ∧ CT Z 1 TP0 0 ∧ CU Z 3 5 baseU ∧ CCl Z 105 CL0 ∧ (∀ n U C, CKp Z false n U C) ∧ (∀ P, CPr Z false P) ∧ CTr Z TR0 ∧ CRk Z RK0
theorem shP_of {Z : HP} (s : SX Z 1097 LF11) (a1 : hT Z 1090 = (4568, 4)) (a2 : hT Z 1091 = (4585, 3)) (a3 : hT Z 1096 = (4598, 3)) (a4 : tg Z 1094 = 4) (a5 : tg Z 1095 = 4) : shP Z := by
  obtain ⟨s1, s2, s3⟩ := s
  have f := fun (p : Nat × Nat) (h : p ∈ LF11) => s3 p h
  exact ⟨s2, f (1200, 1) (by decide), f (1201, 3) (by decide), f (1202, 105) (by decide), f (1203, 116) (by decide), f (1204, 218) (by decide), f (1206, 229) (by decide), f (1210, 1090) (by decide), f (1211, 1091) (by decide), f (1212, 1092) (by decide), f (1213, 1094) (by decide), f (1214, 1095) (by decide), f (1215, 1096) (by decide), a1, a2, a3, a4, a5⟩
theorem ex_shP {H H' : HP} (h0 : exA H H' 0) (h1 : hT H' 1090 = hT H 1090) (h2 : hT H' 1091 = hT H 1091) (h3 : exR H H' 1094 3) (s : shP H) : shP H' := by
  unfold shP at s ⊢
  rw [exA_tg h0, exA_tg (h3 1094 (by omega) (by omega)), exA_tg (h3 1095 (by omega) (by omega)), h1, h2, (h3 1096 (by omega) (by omega)).2.2.2.2.2]
  simp only [h0.2.2.2.2.1]
  exact s
theorem K_cinit {d : Nat} {q : HP → Prop} {H : HP} (ht : tg H 0 = 12) (hn : hN H = 1) (hz : hI H 1205 0 0 = 0 ∧ hI H 1209 0 0 = 0) (hq : ∀ Z, made2 Z → hN Z = 1118 → hX Z = hX H → q Z) : CV (d + 6) 1117 6106 mX11_init [rv (some 0)] H q := by
  refine C_X11_init ?_
  refine K_cinit1 ht hn hz fun Z m hX' => ?_
  obtain ⟨sx, ⟨f1, f2, f3⟩, zu, cc, ku, kc, sd, lb, ⟨p1, p2⟩, p3, ⟨r1, r2⟩, a1, a2, sb, t1, t2, a3, ⟨v1, v2⟩⟩ := m
  have sp := shP_of sx a1 a2 a3 t1 t2
  obtain ⟨q1, q2, q3, -⟩ := id sp
  refine ⟨3, q3, zu.1.1, ?_⟩
  rw [q3]
  refine K_addBases (d := d) zu fun Z2 F2 cu => ?_
  have nZ : hN Z = 1097 := sx.1
  have n2 : hN Z2 = 1097 := by rw [F2.2.2.1]; exact nZ
  have X2 : Ext (fun x => 3 ≤ x ∧ x < 105) Z Z2 := Ext_Fr F2 (fun g x k => ⟨k.1, by omega⟩)
  refine ctr_loop (d := d + 4) (H0 := Z2) (fun Z3 X3 n3 tr => ?_) n2 (by rw [fr_tg F2]; exact q1) (by rw [F2.2.1]; exact sp.2.2.2.2.2.2.2.1) (by rw [F2.1]; exact a1) 4 0 Z2 (by omega) Ext.rf n2 (fun j hj => by omega)
  have c3 : hC Z3 1211 0 = some 1091 := ext_hC X3 (by omega) (by decide) (by rw [F2.2.1]; exact sp.2.2.2.2.2.2.2.2.1)
  refine crk_loop (d := d + 4) (H0 := Z3) (fun Z4 X4 n4 rk => ?_) n3 (ext_tg X3 (by omega) (by rw [fr_tg F2]; exact q1)) c3 (ext_hT X3 (by omega) (by rw [F2.1]; exact a2)) 3 0 Z3 (by omega) Ext.rf n3 (fun j hj => by omega)
  have R2 : ∀ x, x < 1097 → ¬ (3 ≤ x ∧ x < 105) → exA Z Z2 x := fun x h1 h2 => exA_of X2 (by omega) h2
  have R3 : ∀ x, x < 1097 → x ≠ 1090 → exA Z2 Z3 x := fun x h1 h2 => exA_of X3 (by omega) h2
  have R4 : ∀ x, x < 1109 → x ≠ 1091 → exA Z3 Z4 x := fun x h1 h2 => exA_of X4 (by omega) h2
  have tr3 : ∀ {x}, exA Z Z2 x → exA Z2 Z3 x → exA Z3 Z4 x → exA Z Z4 x := fun {x} a b c => ⟨fun g => by rw [c.1, b.1, a.1], fun g => by rw [c.2.1, b.2.1, a.2.1], fun g => by rw [c.2.2.1, b.2.2.1, a.2.2.1], fun g => by rw [c.2.2.2.1, b.2.2.2.1, a.2.2.2.1], fun g => by rw [c.2.2.2.2.1, b.2.2.2.2.1, a.2.2.2.2.1], by rw [c.2.2.2.2.2, b.2.2.2.2.2, a.2.2.2.2.2]⟩
  have R : ∀ x, x < 1097 → ¬ (3 ≤ x ∧ x < 105) → x ≠ 1090 → x ≠ 1091 → exA Z Z4 x := fun x h1 h2 h3 h4 => tr3 (R2 x h1 h2) (R3 x h1 h3) (R4 x (by omega) h4)
  have RR : ∀ a n, a + n ≤ 1097 → (a + n ≤ 3 ∨ 105 ≤ a) → (a + n ≤ 1090 ∨ 1092 ≤ a) → exR Z Z4 a n := fun a n h1 h2 h3 x k1 k2 => R x (by omega) (by omega) (by omega) (by omega)
  have RU : exR Z2 Z4 3 102 := fun x k1 k2 => by
    have b := R3 x (by omega) (by omega)
    have c := R4 x (by omega) (by omega)
    exact ⟨fun g => by rw [c.1, b.1], fun g => by rw [c.2.1, b.2.1], fun g => by rw [c.2.2.1, b.2.2.1], fun g => by rw [c.2.2.2.1, b.2.2.2.1], fun g => by rw [c.2.2.2.2.1, b.2.2.2.2.1], by rw [c.2.2.2.2.2, b.2.2.2.2.2]⟩
  have h0 := R 0 (by omega) (by omega) (by omega) (by omega)
  have h1b := RR 1 2 (by omega) (by omega) (by omega)
  have T0 : shTape Z4 1 := ex_shTape h1b f1
  have e1 := h1b 1 (by omega) (by omega)
  have h242 := RR 242 424 (by omega) (by omega) (by omega)
  have h666 := RR 666 424 (by omega) (by omega) (by omega)
  have p242 := ex_shProof h242 p1
  have p666 := ex_shProof h666 p3
  have e90 : hT Z4 1090 = hT Z 1090 := by rw [X4.2.2.1 1090 (by omega), X3.2.2.1 1090 (by omega), F2.1]
  have e91 : hT Z4 1091 = hT Z 1091 := by rw [X4.2.2.1 1091 (by omega), X3.2.2.1 1091 (by omega), F2.1]
  refine hq Z4 ⟨ex_shP h0 e90 e91 (RR 1094 3 (by omega) (by omega) (by omega)) sp, ex_shDef (RR 229 13 (by omega) (by omega) (by omega)) sd, ex_LtB (RR 229 13 (by omega) (by omega) (by omega)) lb, ex_shBits (RR 1092 2 (by omega) (by omega) (by omega)) sb, ⟨T0, by rw [e1.1]; exact f2, by decide, by rw [e1.1]; exact f3, by decide, fun i hi => absurd hi (Nat.not_lt_zero i)⟩, ex_CU RU cu, ex_CCl (RR 105 11 (by omega) (by omega) (by omega)) cc, fun n U C => ⟨by rw [h0.1]; exact v1, ex_shUnits (RR 116 102 (by omega) (by omega) (by omega)) ku, ex_shCl (RR 218 11 (by omega) (by omega) (by omega)) kc, fun k => (by cases k)⟩, fun P => ⟨by rw [h0.1]; exact v2, 242, 666, Or.inl ⟨rfl, rfl⟩, by rw [h0.2.2.2.1]; exact r1, by rw [h0.2.2.2.1]; exact r2, p242, p666, fun k => (by cases k), fun _ => ?_⟩, ⟨fun i hi => ?_, fun t ht => ⟨?_, ?_, fun k => absurd (show (-1 : Int32) = 0 from k) (by decide), fun k => absurd (show (-1 : Int32) = 1 from k) (by decide)⟩⟩, rk⟩ n4 (by rw [X4.2.1, X3.2.1, F2.2.2.2.1]; exact hX')
  · rw [(h242 242 (by omega) (by omega)).1]; exact p2
  · obtain ⟨k1, k2, -⟩ := tr i hi
    have RT : exR Z3 Z4 (1097 + 3 * i) 3 := fun x k1 k2 => R4 x (by omega) (by omega)
    exact ⟨by rw [(R4 1090 (by omega) (by omega)).2.2.2.1]; exact k1, ex_shTrack RT k2⟩
  · rw [(R4 (1097 + 3 * t) (by omega) (by omega)).1]; exact (tr t ht).2.2.1
  · rw [(R4 (1097 + 3 * t) (by omega) (by omega)).1]; exact (tr t ht).2.2.2
