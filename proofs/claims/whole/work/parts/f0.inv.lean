
/-! ===== the world, as both sides hold it ===== -/
def InvC (H : HP) (n : Nat) (U : Nat → UV) (C : CLM) (T : TP) (pr : Bool) (P : PG) (kp : Bool) (nK : Nat) (UK : Nat → UV) (CK : CLM) (TT : TRs) (K : RKt) : Prop := shP H ∧ shDef H 229 ∧ LtB H 229 ∧ shBits H 1092 ∧ CT H 1 T 0 ∧ CU H 3 n U ∧ CCl H 105 C ∧ CKp H kp nK UK CK ∧ CPr H pr P ∧ CTr H TT ∧ CRk H K
def InvM (H : HP) (n : Nat) (U : Nat → UV) (C : CLM) (T : TP) (pr : Bool) (P : PG) (kp : Bool) (nK : Nat) (UK : Nat → UV) (CK : CLM) (TT : TRs) (K : RKt) : Prop := MU H 1118 n U ∧ MCl H 1118 C ∧ MT0 H 1118 T ∧ MKp H 1118 kp nK UK CK ∧ MPr H 1118 pr P ∧ MTr H 1118 TT ∧ MRk H 1118 K
def okI (n : Nat) (U : Nat → UV) (C : CLM) (P : PG) (kp : Bool) (nK : Nat) (UK : Nat → UV) (CK : CLM) (TT : TRs) (K : RKt) : Prop := okSt2 n U C ∧ (∀ i, okU (U i)) ∧ okPG P ∧ (kp = true → okSt2 nK UK CK ∧ ∀ i, okU (UK i)) ∧ okTR TT ∧ okRK K
abbrev LoS : Nat → Nat → Prop := fun _ x => x < 1118
abbrev HiS : Nat → Nat → Prop := fun _ x => 1118 ≤ x
/-- the class's scratch -/
abbrev ScC : Nat → Nat → Prop := fun _ x => (1094 ≤ x ∧ x < 1097) ∨ (113 ≤ x ∧ x < 116) ∨ 1118 ≤ x
/-- the reference's scratch -/
abbrev ScM : Nat → Nat → Prop := fun g x => x < 1118 ∨ (x = 1118 ∧ g ≠ 1300 ∧ g ≠ 1307 ∧ g ≠ 1309 ∧ g ≠ 1310 ∧ g ≠ 1311 ∧ g ≠ 1323 ∧ ¬ (1339 ≤ g ∧ g ≤ 1344)) ∨ (1134 ≤ x ∧ x ≤ 1138) ∨ (1143 ≤ x ∧ x ≤ 1148)
theorem fr_CT1p {S : Nat → Nat → Prop} {H H' : HP} {T : TP} {p : Nat} (h : Fr S H H') (h1 : ∀ g, ¬ S g 1) (h2 : ∀ g, ¬ S g 2) (s : CT H 1 T p) : CT H' 1 T p := by
  obtain ⟨⟨a1, a2, a3⟩, s2, s3, s4, s5, s6⟩ := s
  have hi := h.2.2.2.2.1
  refine ⟨⟨by rw [fr_tg h]; exact a1, by rw [h.2.1]; exact a2, by rw [h.1]; exact a3⟩, by rw [hi _ _ (h1 _)]; exact s2, s3, by rw [hi _ _ (h1 _)]; exact s4, s5, fun i k => ?_⟩
  rw [hi _ _ (h2 _)]; exact s6 i k
theorem fr_InvC {H H' : HP} {n : Nat} {U : Nat → UV} {C : CLM} {T : TP} {pr : Bool} {P : PG} {kp : Bool} {nK : Nat} {UK : Nat → UV} {CK : CLM} {TT : TRs} {K : RKt} (okP : okPG P) (F : Fr ScC H H') (s : InvC H n U C T pr P kp nK UK CK TT K) : InvC H' n U C T pr P kp nK UK CK TT K := by
  obtain ⟨s1, s2, s3, s4, s5, s6, s7, s8, s9, s10, s11⟩ := s
  exact ⟨fr_shP F s1, fr_shDef F s2, fr_LtB F (fun k => by omega) s3, fr_shBits F (fun k => by omega) (fun k => by omega) s4, fr_CT1p F (fun g k => by omega) (fun g k => by omega) s5, fr_CU F (fun g b k1 k2 k3 => by omega) s6, fr_CCl F (fun g b k1 k2 k3 => by omega) s7, fr_CKp F (fun k => by omega) (fun g x k1 k2 k3 => by omega) s8, fr_CPr okP F (fun k => by omega) (fun k => by omega) (fun k => by omega) (fun g x k1 k2 k3 => by omega) s9, fr_CTr F (fun k => by omega) (fun g x k1 k2 k3 => by omega) s10, fr_CRk F (fun k => by omega) (fun g x k1 k2 k3 => by omega) s11⟩
theorem fr_InvM {H H' : HP} {n : Nat} {U : Nat → UV} {C : CLM} {T : TP} {pr : Bool} {P : PG} {kp : Bool} {nK : Nat} {UK : Nat → UV} {CK : CLM} {TT : TRs} {K : RKt} (F : Fr ScM H H') (s : InvM H n U C T pr P kp nK UK CK TT K) : InvM H' n U C T pr P kp nK UK CK TT K := by
  obtain ⟨s1, s2, s3, s4, s5, s6, s7⟩ := s
  exact ⟨fr_MU F (fun k => by omega) (fun g a k1 k2 k3 => by omega) s1, fr_MCl F (fun k => by omega) (fun k => by omega) s2, fr_MT0 F (fun k => by omega) (fun k => by omega) s3, fr_MKp F (fun g k1 k2 k3 => by omega) (fun g x k1 k2 k3 => by omega) s4, fr_MPr F (fun g k1 k2 k3 => by omega) (fun k => by omega) (fun k => by omega) (fun k => by omega) (fun k => by omega) s5, fr_MTr F (fun g x k1 k2 k3 => by omega) s6, fr_MRk F (fun k => by omega) (fun k => by omega) s7⟩
