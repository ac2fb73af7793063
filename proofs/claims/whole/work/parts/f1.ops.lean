
/-! ===== each call: both sides answer alike, and the world stays one ===== -/
def Inv (H : HP) : Prop := ∃ n U C T pr P kp nK UK CK TT K, okI n U C P kp nK UK CK TT K ∧ InvC H n U C T pr P kp nK UK CK TT K ∧ InvM H n U C T pr P kp nK UK CK TT K
theorem Inv_of {H : HP} {n : Nat} {U : Nat → UV} {C : CLM} {T : TP} {pr : Bool} {P : PG} {kp : Bool} {nK : Nat} {UK : Nat → UV} {CK : CLM} {TT : TRs} {K : RKt} (ok : okI n U C P kp nK UK CK TT K) (c : InvC H n U C T pr P kp nK UK CK TT K) (m : InvM H n U C T pr P kp nK UK CK TT K) : Inv H := ⟨n, U, C, T, pr, P, kp, nK, UK, CK, TT, K, ok, c, m⟩
theorem O_feed {d : Nat} {q : HP → Int32 → Prop} {H : HP} {x : Int32} (inv : Inv H) (hq : ∀ H3 ra, hX H3 = hX H → tg H3 1118 = 13 → (∀ q2 : HP → Int32 → Prop, (∀ H8, hX H8 = hX H → Inv H8 → q2 H8 ra) → CI (d + 100) 0 0 mX12_feed [rv (some 1118), .int x] H3 q2) → q H3 ra) : CI (d + 100) 0 0 mX11_feed [rv (some 0), .int x] H q := by
  obtain ⟨n, U, C, T, pr, P, kp, nK, UK, CK, TT, K, ok, c, m⟩ := inv
  obtain ⟨o1, o2, o3, o4, o5, o6⟩ := id ok
  obtain ⟨c1, c2, c3, c4, c5, c6, c7, c8, c9, c10, c11⟩ := id c
  obtain ⟨m1, m2, m3, m4, m5, m6, m7⟩ := id m
  have tm := m1.1.1
  refine K_cfeed (d := d + 98) c1 c5 fun H3 F t3 => hq H3 _ F.2.2.2.1 (by rw [fr_tg F]; exact tm) fun q2 h2 => ?_
  have mm := fr_InvM (F.mono (S' := ScM) (fun g x k => by omega)) m
  have cc : InvC H3 n U C (feedT T x) pr P kp nK UK CK TT K := ⟨fr_shP F c1, fr_shDef F c2, fr_LtB F (fun k => by omega) c3, fr_shBits F (fun k => by omega) (fun k => by omega) c4, t3, fr_CU F (fun g b k1 k2 k3 => by omega) c6, fr_CCl F (fun g b k1 k2 k3 => by omega) c7, fr_CKp F (fun k => by omega) (fun g x k1 k2 k3 => by omega) c8, fr_CPr o3 F (fun k => by omega) (fun k => by omega) (fun k => by omega) (fun g x k1 k2 k3 => by omega) c9, fr_CTr F (fun k => by omega) (fun g x k1 k2 k3 => by omega) c10, fr_CRk F (fun k => by omega) (fun g x k1 k2 k3 => by omega) c11⟩
  obtain ⟨m1, m2, m3, m4, m5, m6, m7⟩ := id mm
  refine K_mfeed (d := d + 98) m3 fun H8 F2 t8 => h2 H8 (F2.2.2.2.1.trans F.2.2.2.1) (Inv_of ok (fr_InvC o3 (F2.mono (S' := ScC) (fun g x k => by omega)) cc) ?_)
  exact ⟨fr_MU F2 (fun k => by omega) (fun g a k1 k2 k3 => by omega) m1, fr_MCl F2 (fun k => by omega) (fun k => by omega) m2, t8, fr_MKp F2 (fun g k1 k2 k3 => by omega) (fun g x k1 k2 k3 => by omega) m4, fr_MPr F2 (fun g k1 k2 k3 => by omega) (fun k => by omega) (fun k => by omega) (fun k => by omega) (fun k => by omega) m5, fr_MTr F2 (fun g x k1 k2 k3 => by omega) m6, fr_MRk F2 (fun k => by omega) (fun k => by omega) m7⟩
theorem O_find {d : Nat} {q : HP → Int32 → Prop} {H : HP} (inv : Inv H) (hq : ∀ H3 ra, hX H3 = hX H → tg H3 1118 = 13 → (∀ q2 : HP → Int32 → Prop, (∀ H8, hX H8 = hX H → Inv H8 → q2 H8 ra) → CI (d + 100) 0 0 mX12_find [rv (some 1118)] H3 q2) → q H3 ra) : CI (d + 100) 0 0 mX11_find [rv (some 0)] H q := by
  obtain ⟨n, U, C, T, pr, P, kp, nK, UK, CK, TT, K, ok, c, m⟩ := inv
  obtain ⟨o1, o2, o3, o4, o5, o6⟩ := id ok
  obtain ⟨c1, c2, c3, c4, c5, c6, c7, c8, c9, c10, c11⟩ := id c
  obtain ⟨m1, m2, m3, m4, m5, m6, m7⟩ := id m
  have tm := m1.1.1
  refine K_cfind (d := d + 96) c1 c5 c6 o2 fun H3 F t3 => hq H3 _ F.2.2.2.1 (by rw [fr_tg F]; exact tm) fun q2 h2 => ?_
  have mm := fr_InvM (F.mono (S' := ScM) (fun g x k => by omega)) m
  have cc : InvC H3 n U C ((0, T.2)) pr P kp nK UK CK TT K := ⟨fr_shP F c1, fr_shDef F c2, fr_LtB F (fun k => by omega) c3, fr_shBits F (fun k => by omega) (fun k => by omega) c4, t3, fr_CU F (fun g b k1 k2 k3 => by omega) c6, fr_CCl F (fun g b k1 k2 k3 => by omega) c7, fr_CKp F (fun k => by omega) (fun g x k1 k2 k3 => by omega) c8, fr_CPr o3 F (fun k => by omega) (fun k => by omega) (fun k => by omega) (fun g x k1 k2 k3 => by omega) c9, fr_CTr F (fun k => by omega) (fun g x k1 k2 k3 => by omega) c10, fr_CRk F (fun k => by omega) (fun g x k1 k2 k3 => by omega) c11⟩
  obtain ⟨m1, m2, m3, m4, m5, m6, m7⟩ := id mm
  refine K_mfind (d := d + 97) m3 m1 o2 fun H8 F2 t8 => h2 H8 (F2.2.2.2.1.trans F.2.2.2.1) (Inv_of ok (fr_InvC o3 (F2.mono (S' := ScC) (fun g x k => by omega)) cc) ?_)
  exact ⟨fr_MU F2 (fun k => by omega) (fun g a k1 k2 k3 => by omega) m1, fr_MCl F2 (fun k => by omega) (fun k => by omega) m2, t8, fr_MKp F2 (fun g k1 k2 k3 => by omega) (fun g x k1 k2 k3 => by omega) m4, fr_MPr F2 (fun g k1 k2 k3 => by omega) (fun k => by omega) (fun k => by omega) (fun k => by omega) (fun k => by omega) m5, fr_MTr F2 (fun g x k1 k2 k3 => by omega) m6, fr_MRk F2 (fun k => by omega) (fun k => by omega) m7⟩
theorem O_name {d : Nat} {q : HP → Int32 → Prop} {H : HP} {x i : Int32} (inv : Inv H) (hq : ∀ H3 ra, hX H3 = hX H → tg H3 1118 = 13 → (∀ q2 : HP → Int32 → Prop, (∀ H8, hX H8 = hX H → Inv H8 → q2 H8 ra) → CI (d + 100) 0 0 mX12_name [rv (some 1118), .int x, .int i] H3 q2) → q H3 ra) : CI (d + 100) 0 0 mX11_name [rv (some 0), .int x, .int i] H q := by
  obtain ⟨n, U, C, T, pr, P, kp, nK, UK, CK, TT, K, ok, c, m⟩ := inv
  obtain ⟨o1, o2, o3, o4, o5, o6⟩ := id ok
  obtain ⟨c1, c2, c3, c4, c5, c6, c7, c8, c9, c10, c11⟩ := id c
  obtain ⟨m1, m2, m3, m4, m5, m6, m7⟩ := id m
  have tm := m1.1.1
  exact K_cname (d := d + 98) c1 c6 o2 (hq H _ rfl tm fun q2 h2 => K_mname (d := d + 97) m1 o2 (h2 H rfl (Inv_of ok c m)))
theorem O_power {d : Nat} {q : HP → Int32 → Prop} {H : HP} {x i : Int32} (inv : Inv H) (hq : ∀ H3 ra, hX H3 = hX H → tg H3 1118 = 13 → (∀ q2 : HP → Int32 → Prop, (∀ H8, hX H8 = hX H → Inv H8 → q2 H8 ra) → CI (d + 100) 0 0 mX12_power [rv (some 1118), .int x, .int i] H3 q2) → q H3 ra) : CI (d + 100) 0 0 mX11_power [rv (some 0), .int x, .int i] H q := by
  obtain ⟨n, U, C, T, pr, P, kp, nK, UK, CK, TT, K, ok, c, m⟩ := inv
  obtain ⟨o1, o2, o3, o4, o5, o6⟩ := id ok
  obtain ⟨c1, c2, c3, c4, c5, c6, c7, c8, c9, c10, c11⟩ := id c
  obtain ⟨m1, m2, m3, m4, m5, m6, m7⟩ := id m
  have tm := m1.1.1
  exact K_cpower (d := d + 98) c1 c6 (hq H _ rfl tm fun q2 h2 => K_mpower (d := d + 97) m1 (h2 H rfl (Inv_of ok c m)))
theorem O_scale {d : Nat} {q : HP → Int64 → Prop} {H : HP} {x w p : Int32} (inv : Inv H) (hq : ∀ H3 ra, hX H3 = hX H → tg H3 1118 = 13 → (∀ q2 : HP → Int64 → Prop, (∀ H8, hX H8 = hX H → Inv H8 → q2 H8 ra) → CJ (d + 100) 0 0 mX12_scale [rv (some 1118), .int x, .int w, .int p] H3 q2) → q H3 ra) : CJ (d + 100) 0 0 mX11_scale [rv (some 0), .int x, .int w, .int p] H q := by
  obtain ⟨n, U, C, T, pr, P, kp, nK, UK, CK, TT, K, ok, c, m⟩ := inv
  obtain ⟨o1, o2, o3, o4, o5, o6⟩ := id ok
  obtain ⟨c1, c2, c3, c4, c5, c6, c7, c8, c9, c10, c11⟩ := id c
  obtain ⟨m1, m2, m3, m4, m5, m6, m7⟩ := id m
  have tm := m1.1.1
  exact K_cscale (d := d + 98) c1 c6 (hq H _ rfl tm fun q2 h2 => K_mscale (d := d + 97) m1 (h2 H rfl (Inv_of ok c m)))
theorem O_ratio {d : Nat} {q : HP → Int64 → Prop} {H : HP} {x y p : Int32} (inv : Inv H) (hq : ∀ H3 ra, hX H3 = hX H → tg H3 1118 = 13 → (∀ q2 : HP → Int64 → Prop, (∀ H8, hX H8 = hX H → Inv H8 → q2 H8 ra) → CJ (d + 100) 0 0 mX12_ratio [rv (some 1118), .int x, .int y, .int p] H3 q2) → q H3 ra) : CJ (d + 100) 0 0 mX11_ratio [rv (some 0), .int x, .int y, .int p] H q := by
  obtain ⟨n, U, C, T, pr, P, kp, nK, UK, CK, TT, K, ok, c, m⟩ := inv
  obtain ⟨o1, o2, o3, o4, o5, o6⟩ := id ok
  obtain ⟨c1, c2, c3, c4, c5, c6, c7, c8, c9, c10, c11⟩ := id c
  obtain ⟨m1, m2, m3, m4, m5, m6, m7⟩ := id m
  have tm := m1.1.1
  refine K_cratio (d := d + 96) c1 c6 o2 fun H3 F  => hq H3 _ F.2.2.2.1 (by rw [fr_tg F]; exact tm) fun q2 h2 => ?_
  have mm := fr_InvM (F.mono (S' := ScM) (fun g x k => by omega)) m
  have cc := fr_InvC o3 (F.mono (S' := ScC) (fun g x k => by omega)) c
  obtain ⟨m1, m2, m3, m4, m5, m6, m7⟩ := id mm
  refine K_mratio (d := d + 95) m1 o2 fun H8 F2  => h2 H8 (F2.2.2.2.1.trans F.2.2.2.1) (Inv_of ok (fr_InvC o3 (F2.mono (S' := ScC) (fun g x k => by omega)) cc) ?_)
  exact fr_InvM (F2.mono (S' := ScM) (fun g x k => by omega)) mm
theorem O_nearest {d : Nat} {q : HP → Int32 → Prop} {H : HP} {x p r : Int32} (inv : Inv H) (hq : ∀ H3 ra, hX H3 = hX H → tg H3 1118 = 13 → (∀ q2 : HP → Int32 → Prop, (∀ H8, hX H8 = hX H → Inv H8 → q2 H8 ra) → CI (d + 100) 0 0 mX12_nearest [rv (some 1118), .int x, .int p, .int r] H3 q2) → q H3 ra) : CI (d + 100) 0 0 mX11_nearest [rv (some 0), .int x, .int p, .int r] H q := by
  obtain ⟨n, U, C, T, pr, P, kp, nK, UK, CK, TT, K, ok, c, m⟩ := inv
  obtain ⟨o1, o2, o3, o4, o5, o6⟩ := id ok
  obtain ⟨c1, c2, c3, c4, c5, c6, c7, c8, c9, c10, c11⟩ := id c
  obtain ⟨m1, m2, m3, m4, m5, m6, m7⟩ := id m
  have tm := m1.1.1
  refine K_cnearest (d := d + 96) c1 c6 o2 fun H3 F  => hq H3 _ F.2.2.2.1 (by rw [fr_tg F]; exact tm) fun q2 h2 => ?_
  have mm := fr_InvM (F.mono (S' := ScM) (fun g x k => by omega)) m
  have cc := fr_InvC o3 (F.mono (S' := ScC) (fun g x k => by omega)) c
  obtain ⟨m1, m2, m3, m4, m5, m6, m7⟩ := id mm
  refine K_mnearest (d := d + 96) m1 o2 fun H8 F2  => h2 H8 (F2.2.2.2.1.trans F.2.2.2.1) (Inv_of ok (fr_InvC o3 (F2.mono (S' := ScC) (fun g x k => by omega)) cc) ?_)
  exact fr_InvM (F2.mono (S' := ScM) (fun g x k => by omega)) mm
theorem O_proof {d : Nat} {q : HP → Int32 → Prop} {H : HP} {x : Int32} (inv : Inv H) (hq : ∀ H3 ra, hX H3 = hX H → tg H3 1118 = 13 → (∀ q2 : HP → Int32 → Prop, (∀ H8, hX H8 = hX H → Inv H8 → q2 H8 ra) → CI (d + 100) 0 0 mX12_proof [rv (some 1118), .int x] H3 q2) → q H3 ra) : CI (d + 100) 0 0 mX11_proof [rv (some 0), .int x] H q := by
  obtain ⟨n, U, C, T, pr, P, kp, nK, UK, CK, TT, K, ok, c, m⟩ := inv
  obtain ⟨o1, o2, o3, o4, o5, o6⟩ := id ok
  obtain ⟨c1, c2, c3, c4, c5, c6, c7, c8, c9, c10, c11⟩ := id c
  obtain ⟨m1, m2, m3, m4, m5, m6, m7⟩ := id m
  have tm := m1.1.1
  exact K_cproof (d := d + 97) c1 c9 o3 (hq H _ rfl tm fun q2 h2 => K_mproof (d := d + 99) m1.1 m5 o3 (h2 H rfl (Inv_of ok c m)))
theorem O_step {d : Nat} {q : HP → Int32 → Prop} {H : HP} {x w : Int32} (inv : Inv H) (hq : ∀ H3 ra, hX H3 = hX H → tg H3 1118 = 13 → (∀ q2 : HP → Int32 → Prop, (∀ H8, hX H8 = hX H → Inv H8 → q2 H8 ra) → CI (d + 100) 0 0 mX12_step [rv (some 1118), .int x, .int w] H3 q2) → q H3 ra) : CI (d + 100) 0 0 mX11_step [rv (some 0), .int x, .int w] H q := by
  obtain ⟨n, U, C, T, pr, P, kp, nK, UK, CK, TT, K, ok, c, m⟩ := inv
  obtain ⟨o1, o2, o3, o4, o5, o6⟩ := id ok
  obtain ⟨c1, c2, c3, c4, c5, c6, c7, c8, c9, c10, c11⟩ := id c
  obtain ⟨m1, m2, m3, m4, m5, m6, m7⟩ := id m
  have tm := m1.1.1
  exact K_cstep (d := d + 98) c1 c9 o3 (hq H _ rfl tm fun q2 h2 => K_mstep (d := d + 97) m1.1 m5 o3 (h2 H rfl (Inv_of ok c m)))
theorem O_value {d : Nat} {q : HP → Int64 → Prop} {H : HP} {x w : Int32} (inv : Inv H) (hq : ∀ H3 ra, hX H3 = hX H → tg H3 1118 = 13 → (∀ q2 : HP → Int64 → Prop, (∀ H8, hX H8 = hX H → Inv H8 → q2 H8 ra) → CJ (d + 100) 0 0 mX12_value [rv (some 1118), .int x, .int w] H3 q2) → q H3 ra) : CJ (d + 100) 0 0 mX11_value [rv (some 0), .int x, .int w] H q := by
  obtain ⟨n, U, C, T, pr, P, kp, nK, UK, CK, TT, K, ok, c, m⟩ := inv
  obtain ⟨o1, o2, o3, o4, o5, o6⟩ := id ok
  obtain ⟨c1, c2, c3, c4, c5, c6, c7, c8, c9, c10, c11⟩ := id c
  obtain ⟨m1, m2, m3, m4, m5, m6, m7⟩ := id m
  have tm := m1.1.1
  exact K_cvalue (d := d + 97) c1 c9 o3 (hq H _ rfl tm fun q2 h2 => K_mvalue (d := d + 97) m1.1 m5 o3 (h2 H rfl (Inv_of ok c m)))
theorem O_same {d : Nat} {q : HP → Int32 → Prop} {H : HP} {x y : Int32} (inv : Inv H) (hq : ∀ H3 ra, hX H3 = hX H → tg H3 1118 = 13 → (∀ q2 : HP → Int32 → Prop, (∀ H8, hX H8 = hX H → Inv H8 → q2 H8 ra) → CI (d + 100) 0 0 mX12_same [rv (some 1118), .int x, .int y] H3 q2) → q H3 ra) : CI (d + 100) 0 0 mX11_same [rv (some 0), .int x, .int y] H q := by
  obtain ⟨n, U, C, T, pr, P, kp, nK, UK, CK, TT, K, ok, c, m⟩ := inv
  obtain ⟨o1, o2, o3, o4, o5, o6⟩ := id ok
  obtain ⟨c1, c2, c3, c4, c5, c6, c7, c8, c9, c10, c11⟩ := id c
  obtain ⟨m1, m2, m3, m4, m5, m6, m7⟩ := id m
  have tm := m1.1.1
  exact K_csame (d := d + 97) c1 c9 o3 (hq H _ rfl tm fun q2 h2 => K_msame (d := d + 97) m1.1 m5 o3 (h2 H rfl (Inv_of ok c m)))
theorem O_in {d : Nat} {q : HP → Int64 → Prop} {H : HP} {x u w : Int32} (inv : Inv H) (hq : ∀ H3 ra, hX H3 = hX H → tg H3 1118 = 13 → (∀ q2 : HP → Int64 → Prop, (∀ H8, hX H8 = hX H → Inv H8 → q2 H8 ra) → CJ (d + 100) 0 0 mX12_in [rv (some 1118), .int x, .int u, .int w] H3 q2) → q H3 ra) : CJ (d + 100) 0 0 mX11_in [rv (some 0), .int x, .int u, .int w] H q := by
  obtain ⟨n, U, C, T, pr, P, kp, nK, UK, CK, TT, K, ok, c, m⟩ := inv
  obtain ⟨o1, o2, o3, o4, o5, o6⟩ := id ok
  obtain ⟨c1, c2, c3, c4, c5, c6, c7, c8, c9, c10, c11⟩ := id c
  obtain ⟨m1, m2, m3, m4, m5, m6, m7⟩ := id m
  have tm := m1.1.1
  refine K_cin (d := d + 95) c1 c9 o3 c6 o2 fun H3 F  => hq H3 _ F.2.2.2.1 (by rw [fr_tg F]; exact tm) fun q2 h2 => ?_
  have mm := fr_InvM (F.mono (S' := ScM) (fun g x k => by omega)) m
  have cc := fr_InvC o3 (F.mono (S' := ScC) (fun g x k => by omega)) c
  obtain ⟨m1, m2, m3, m4, m5, m6, m7⟩ := id mm
  refine K_min_ (d := d + 94) m1.1 m5 o3 m1 o2 fun H8 F2  => h2 H8 (F2.2.2.2.1.trans F.2.2.2.1) (Inv_of ok (fr_InvC o3 (F2.mono (S' := ScC) (fun g x k => by omega)) cc) ?_)
  exact fr_InvM (F2.mono (S' := ScM) (fun g x k => by omega)) mm
theorem O_bits {d : Nat} {q : HP → Int64 → Prop} {H : HP} {x u w : Int32} (inv : Inv H) (hq : ∀ H3 ra, hX H3 = hX H → tg H3 1118 = 13 → (∀ q2 : HP → Int64 → Prop, (∀ H8, hX H8 = hX H → Inv H8 → q2 H8 ra) → CJ (d + 100) 0 0 mX12_bits [rv (some 1118), .int x, .int u, .int w] H3 q2) → q H3 ra) : CJ (d + 100) 0 0 mX11_bits [rv (some 0), .int x, .int u, .int w] H q := by
  obtain ⟨n, U, C, T, pr, P, kp, nK, UK, CK, TT, K, ok, c, m⟩ := inv
  obtain ⟨o1, o2, o3, o4, o5, o6⟩ := id ok
  obtain ⟨c1, c2, c3, c4, c5, c6, c7, c8, c9, c10, c11⟩ := id c
  obtain ⟨m1, m2, m3, m4, m5, m6, m7⟩ := id m
  have tm := m1.1.1
  refine K_cbits (d := d + 95) c1 c4 c9 o3 c6 o2 fun H3 F  => hq H3 _ F.2.2.2.1 (by rw [fr_tg F]; exact tm) fun q2 h2 => ?_
  have mm := fr_InvM (F.mono (S' := ScM) (fun g x k => by omega)) m
  have cc := fr_InvC o3 (F.mono (S' := ScC) (fun g x k => by omega)) c
  obtain ⟨m1, m2, m3, m4, m5, m6, m7⟩ := id mm
  refine K_mbits (d := d + 94) m1.1 m5 o3 m1 o2 fun H8 F2  => h2 H8 (F2.2.2.2.1.trans F.2.2.2.1) (Inv_of ok (fr_InvC o3 (F2.mono (S' := ScC) (fun g x k => by omega)) cc) ?_)
  exact fr_InvM (F2.mono (S' := ScM) (fun g x k => by omega)) mm
theorem O_parted {d : Nat} {q : HP → Int64 → Prop} {H : HP} {x y z k w : Int32} (inv : Inv H) (hq : ∀ H3 ra, hX H3 = hX H → tg H3 1118 = 13 → (∀ q2 : HP → Int64 → Prop, (∀ H8, hX H8 = hX H → Inv H8 → q2 H8 ra) → CJ (d + 100) 0 0 mX12_parted [rv (some 1118), .int x, .int y, .int z, .int k, .int w] H3 q2) → q H3 ra) : CJ (d + 100) 0 0 mX11_parted [rv (some 0), .int x, .int y, .int z, .int k, .int w] H q := by
  obtain ⟨n, U, C, T, pr, P, kp, nK, UK, CK, TT, K, ok, c, m⟩ := inv
  obtain ⟨o1, o2, o3, o4, o5, o6⟩ := id ok
  obtain ⟨c1, c2, c3, c4, c5, c6, c7, c8, c9, c10, c11⟩ := id c
  obtain ⟨m1, m2, m3, m4, m5, m6, m7⟩ := id m
  have tm := m1.1.1
  refine K_cparted (d := d + 95) c1 c9 o3 c6 o2 fun H3 F  => hq H3 _ F.2.2.2.1 (by rw [fr_tg F]; exact tm) fun q2 h2 => ?_
  have mm := fr_InvM (F.mono (S' := ScM) (fun g x k => by omega)) m
  have cc := fr_InvC o3 (F.mono (S' := ScC) (fun g x k => by omega)) c
  obtain ⟨m1, m2, m3, m4, m5, m6, m7⟩ := id mm
  refine K_mparted (d := d + 93) m1.1 m5 o3 m1 o2 fun H8 F2  => h2 H8 (F2.2.2.2.1.trans F.2.2.2.1) (Inv_of ok (fr_InvC o3 (F2.mono (S' := ScC) (fun g x k => by omega)) cc) ?_)
  exact fr_InvM (F2.mono (S' := ScM) (fun g x k => by omega)) mm
theorem O_claimOf {d : Nat} {q : HP → Int32 → Prop} {H : HP} {x w : Int32} (inv : Inv H) (hq : ∀ H3 ra, hX H3 = hX H → tg H3 1118 = 13 → (∀ q2 : HP → Int32 → Prop, (∀ H8, hX H8 = hX H → Inv H8 → q2 H8 ra) → CI (d + 100) 0 0 mX12_claimOf [rv (some 1118), .int x, .int w] H3 q2) → q H3 ra) : CI (d + 100) 0 0 mX11_claimOf [rv (some 0), .int x, .int w] H q := by
  obtain ⟨n, U, C, T, pr, P, kp, nK, UK, CK, TT, K, ok, c, m⟩ := inv
  obtain ⟨o1, o2, o3, o4, o5, o6⟩ := id ok
  obtain ⟨c1, c2, c3, c4, c5, c6, c7, c8, c9, c10, c11⟩ := id c
  obtain ⟨m1, m2, m3, m4, m5, m6, m7⟩ := id m
  have tm := m1.1.1
  refine K_cclaimOf (d := d + 95) c1 c6 o2 o1.2.2.2 c7 fun H3 F  => hq H3 _ F.2.2.2.1 (by rw [fr_tg F]; exact tm) fun q2 h2 => ?_
  have mm := fr_InvM (F.mono (S' := ScM) (fun g x k => by omega)) m
  have cc := fr_InvC o3 (F.mono (S' := ScC) (fun g x k => by omega)) c
  obtain ⟨m1, m2, m3, m4, m5, m6, m7⟩ := id mm
  refine K_mclaimOf (d := d + 94) m1 o2 o1.2.2.2 m2 fun H8 F2  => h2 H8 (F2.2.2.2.1.trans F.2.2.2.1) (Inv_of ok (fr_InvC o3 (F2.mono (S' := ScC) (fun g x k => by omega)) cc) ?_)
  exact fr_InvM (F2.mono (S' := ScM) (fun g x k => by omega)) mm
theorem O_rings {d : Nat} {q : HP → Int32 → Prop} {H : HP} {w : Int32} (inv : Inv H) (hq : ∀ H3 ra, hX H3 = hX H → tg H3 1118 = 13 → (∀ q2 : HP → Int32 → Prop, (∀ H8, hX H8 = hX H → Inv H8 → q2 H8 ra) → CI (d + 100) 0 0 mX12_rings [rv (some 1118), .int w] H3 q2) → q H3 ra) : CI (d + 100) 0 0 mX11_rings [rv (some 0), .int w] H q := by
  obtain ⟨n, U, C, T, pr, P, kp, nK, UK, CK, TT, K, ok, c, m⟩ := inv
  obtain ⟨o1, o2, o3, o4, o5, o6⟩ := id ok
  obtain ⟨c1, c2, c3, c4, c5, c6, c7, c8, c9, c10, c11⟩ := id c
  obtain ⟨m1, m2, m3, m4, m5, m6, m7⟩ := id m
  have tm := m1.1.1
  refine K_crings (d := d + 94) c1 c6 o2 o1.2.2.2 c7 fun H3 F  => hq H3 _ F.2.2.2.1 (by rw [fr_tg F]; exact tm) fun q2 h2 => ?_
  have mm := fr_InvM (F.mono (S' := ScM) (fun g x k => by omega)) m
  have cc := fr_InvC o3 (F.mono (S' := ScC) (fun g x k => by omega)) c
  obtain ⟨m1, m2, m3, m4, m5, m6, m7⟩ := id mm
  refine K_mrings (d := d + 94) m1 o2 o1.2.2.2 m2 fun H8 F2  => h2 H8 (F2.2.2.2.1.trans F.2.2.2.1) (Inv_of ok (fr_InvC o3 (F2.mono (S' := ScC) (fun g x k => by omega)) cc) ?_)
  exact fr_InvM (F2.mono (S' := ScM) (fun g x k => by omega)) mm
theorem O_by {d : Nat} {q : HP → Int64 → Prop} {H : HP} {x y w : Int32} (inv : Inv H) (hq : ∀ H3 ra, hX H3 = hX H → tg H3 1118 = 13 → (∀ q2 : HP → Int64 → Prop, (∀ H8, hX H8 = hX H → Inv H8 → q2 H8 ra) → CJ (d + 100) 0 0 mX12_by_ [rv (some 1118), .int x, .int y, .int w] H3 q2) → q H3 ra) : CJ (d + 100) 0 0 mX11_by [rv (some 0), .int x, .int y, .int w] H q := by
  obtain ⟨n, U, C, T, pr, P, kp, nK, UK, CK, TT, K, ok, c, m⟩ := inv
  obtain ⟨o1, o2, o3, o4, o5, o6⟩ := id ok
  obtain ⟨c1, c2, c3, c4, c5, c6, c7, c8, c9, c10, c11⟩ := id c
  obtain ⟨m1, m2, m3, m4, m5, m6, m7⟩ := id m
  have tm := m1.1.1
  refine K_cby (d := d + 95) c1 c6 o1.2.2.2 c7 fun H3 F  => hq H3 _ F.2.2.2.1 (by rw [fr_tg F]; exact tm) fun q2 h2 => ?_
  have mm := fr_InvM (F.mono (S' := ScM) (fun g x k => by omega)) m
  have cc := fr_InvC o3 (F.mono (S' := ScC) (fun g x k => by omega)) c
  obtain ⟨m1, m2, m3, m4, m5, m6, m7⟩ := id mm
  refine K_mby (d := d + 94) m1 o1.2.2.2 m2 fun H8 F2  => h2 H8 (F2.2.2.2.1.trans F.2.2.2.1) (Inv_of ok (fr_InvC o3 (F2.mono (S' := ScC) (fun g x k => by omega)) cc) ?_)
  exact fr_InvM (F2.mono (S' := ScM) (fun g x k => by omega)) mm
theorem O_track {d : Nat} {q : HP → Int32 → Prop} {H : HP} {t s k : Int32} (inv : Inv H) (hq : ∀ H3 ra, hX H3 = hX H → tg H3 1118 = 13 → (∀ q2 : HP → Int32 → Prop, (∀ H8, hX H8 = hX H → Inv H8 → q2 H8 ra) → CI (d + 100) 0 0 mX12_track [rv (some 1118), .int t, .int s, .int k] H3 q2) → q H3 ra) : CI (d + 100) 0 0 mX11_track [rv (some 0), .int t, .int s, .int k] H q := by
  obtain ⟨n, U, C, T, pr, P, kp, nK, UK, CK, TT, K, ok, c, m⟩ := inv
  obtain ⟨o1, o2, o3, o4, o5, o6⟩ := id ok
  obtain ⟨c1, c2, c3, c4, c5, c6, c7, c8, c9, c10, c11⟩ := id c
  obtain ⟨m1, m2, m3, m4, m5, m6, m7⟩ := id m
  have tm := m1.1.1
  refine K_ctrack (d := d + 97) c1 c10 fun H3 F t3 => hq H3 _ F.2.2.2.1 (by rw [fr_tg F]; exact tm) fun q2 h2 => ?_
  have mm := fr_InvM (F.mono (S' := ScM) (fun g x k => by omega)) m
  have cc : InvC H3 n U C T pr P kp nK UK CK (trackT TT t s k) K := ⟨fr_shP F c1, fr_shDef F c2, fr_LtB F (fun k => by omega) c3, fr_shBits F (fun k => by omega) (fun k => by omega) c4, fr_CT1p F (fun g k => by omega) (fun g k => by omega) c5, fr_CU F (fun g b k1 k2 k3 => by omega) c6, fr_CCl F (fun g b k1 k2 k3 => by omega) c7, fr_CKp F (fun k => by omega) (fun g x k1 k2 k3 => by omega) c8, fr_CPr o3 F (fun k => by omega) (fun k => by omega) (fun k => by omega) (fun g x k1 k2 k3 => by omega) c9, t3, fr_CRk F (fun k => by omega) (fun g x k1 k2 k3 => by omega) c11⟩
  obtain ⟨m1, m2, m3, m4, m5, m6, m7⟩ := id mm
  refine K_mtrack (d := d + 97) m1.1 m6 fun H8 F2 t8 => h2 H8 (F2.2.2.2.1.trans F.2.2.2.1) (Inv_of ⟨o1, o2, o3, o4, okTR_track o5, o6⟩ (fr_InvC o3 (F2.mono (S' := ScC) (fun g x k => by omega)) cc) ?_)
  exact ⟨fr_MU F2 (fun k => by omega) (fun g a k1 k2 k3 => by omega) m1, fr_MCl F2 (fun k => by omega) (fun k => by omega) m2, fr_MT0 F2 (fun k => by omega) (fun k => by omega) m3, fr_MKp F2 (fun g k1 k2 k3 => by omega) (fun g x k1 k2 k3 => by omega) m4, fr_MPr F2 (fun g k1 k2 k3 => by omega) (fun k => by omega) (fun k => by omega) (fun k => by omega) (fun k => by omega) m5, t8, fr_MRk F2 (fun k => by omega) (fun k => by omega) m7⟩
theorem O_put {d : Nat} {q : HP → Int32 → Prop} {H : HP} {t i v : Int32} (inv : Inv H) (hq : ∀ H3 ra, hX H3 = hX H → tg H3 1118 = 13 → (∀ q2 : HP → Int32 → Prop, (∀ H8, hX H8 = hX H → Inv H8 → q2 H8 ra) → CI (d + 100) 0 0 mX12_put [rv (some 1118), .int t, .int i, .int v] H3 q2) → q H3 ra) : CI (d + 100) 0 0 mX11_put [rv (some 0), .int t, .int i, .int v] H q := by
  obtain ⟨n, U, C, T, pr, P, kp, nK, UK, CK, TT, K, ok, c, m⟩ := inv
  obtain ⟨o1, o2, o3, o4, o5, o6⟩ := id ok
  obtain ⟨c1, c2, c3, c4, c5, c6, c7, c8, c9, c10, c11⟩ := id c
  obtain ⟨m1, m2, m3, m4, m5, m6, m7⟩ := id m
  have tm := m1.1.1
  refine K_cput (d := d + 97) c1 c10 o5 fun H3 F t3 => hq H3 _ F.2.2.2.1 (by rw [fr_tg F]; exact tm) fun q2 h2 => ?_
  have mm := fr_InvM (F.mono (S' := ScM) (fun g x k => by omega)) m
  have cc : InvC H3 n U C T pr P kp nK UK CK (putIT TT t i (some (putF v)) (some (putD v))) K := ⟨fr_shP F c1, fr_shDef F c2, fr_LtB F (fun k => by omega) c3, fr_shBits F (fun k => by omega) (fun k => by omega) c4, fr_CT1p F (fun g k => by omega) (fun g k => by omega) c5, fr_CU F (fun g b k1 k2 k3 => by omega) c6, fr_CCl F (fun g b k1 k2 k3 => by omega) c7, fr_CKp F (fun k => by omega) (fun g x k1 k2 k3 => by omega) c8, fr_CPr o3 F (fun k => by omega) (fun k => by omega) (fun k => by omega) (fun g x k1 k2 k3 => by omega) c9, t3, fr_CRk F (fun k => by omega) (fun g x k1 k2 k3 => by omega) c11⟩
  obtain ⟨m1, m2, m3, m4, m5, m6, m7⟩ := id mm
  refine K_mput (d := d + 96) m1.1 m6 o5 fun H8 F2 t8 => h2 H8 (F2.2.2.2.1.trans F.2.2.2.1) (Inv_of ⟨o1, o2, o3, o4, okTR_putI o5 (nn_putF v) (nn_putD v), o6⟩ (fr_InvC o3 (F2.mono (S' := ScC) (fun g x k => by omega)) cc) ?_)
  exact ⟨fr_MU F2 (fun k => by omega) (fun g a k1 k2 k3 => by omega) m1, fr_MCl F2 (fun k => by omega) (fun k => by omega) m2, fr_MT0 F2 (fun k => by omega) (fun k => by omega) m3, fr_MKp F2 (fun g k1 k2 k3 => by omega) (fun g x k1 k2 k3 => by omega) m4, fr_MPr F2 (fun g k1 k2 k3 => by omega) (fun k => by omega) (fun k => by omega) (fun k => by omega) (fun k => by omega) m5, t8, fr_MRk F2 (fun k => by omega) (fun k => by omega) m7⟩
theorem O_putBits {d : Nat} {q : HP → Int32 → Prop} {H : HP} {t i : Int32} {b : Int64} (inv : Inv H) (hq : ∀ H3 ra, hX H3 = hX H → tg H3 1118 = 13 → (∀ q2 : HP → Int32 → Prop, (∀ H8, hX H8 = hX H → Inv H8 → q2 H8 ra) → CI (d + 100) 0 0 mX12_putBits [rv (some 1118), .int t, .int i, .long b] H3 q2) → q H3 ra) : CI (d + 100) 0 0 mX11_putBits [rv (some 0), .int t, .int i, .long b] H q := by
  obtain ⟨n, U, C, T, pr, P, kp, nK, UK, CK, TT, K, ok, c, m⟩ := inv
  obtain ⟨o1, o2, o3, o4, o5, o6⟩ := id ok
  obtain ⟨c1, c2, c3, c4, c5, c6, c7, c8, c9, c10, c11⟩ := id c
  obtain ⟨m1, m2, m3, m4, m5, m6, m7⟩ := id m
  have tm := m1.1.1
  refine K_cputBits (d := d + 94) c1 c4 c10 o5 fun H3 F t3 => hq H3 _ F.2.2.2.1 (by rw [fr_tg F]; exact tm) fun q2 h2 => ?_
  have mm := fr_InvM (F.mono (S' := ScM) (fun g x k => by omega)) m
  have cc : InvC H3 n U C T pr P kp nK UK CK (putIT TT t i (bitF b) (bitD b)) K := ⟨fr_shP F c1, fr_shDef F c2, fr_LtB F (fun k => by omega) c3, fr_shBits F (fun k => by omega) (fun k => by omega) c4, fr_CT1p F (fun g k => by omega) (fun g k => by omega) c5, fr_CU F (fun g b k1 k2 k3 => by omega) c6, fr_CCl F (fun g b k1 k2 k3 => by omega) c7, fr_CKp F (fun k => by omega) (fun g x k1 k2 k3 => by omega) c8, fr_CPr o3 F (fun k => by omega) (fun k => by omega) (fun k => by omega) (fun g x k1 k2 k3 => by omega) c9, t3, fr_CRk F (fun k => by omega) (fun g x k1 k2 k3 => by omega) c11⟩
  obtain ⟨m1, m2, m3, m4, m5, m6, m7⟩ := id mm
  refine K_mputBits (d := d + 96) m1.1 m6 o5 fun H8 F2 t8 => h2 H8 (F2.2.2.2.1.trans F.2.2.2.1) (Inv_of ⟨o1, o2, o3, o4, okTR_putI o5 (nn_bitF b) (nn_bitD b), o6⟩ (fr_InvC o3 (F2.mono (S' := ScC) (fun g x k => by omega)) cc) ?_)
  exact ⟨fr_MU F2 (fun k => by omega) (fun g a k1 k2 k3 => by omega) m1, fr_MCl F2 (fun k => by omega) (fun k => by omega) m2, fr_MT0 F2 (fun k => by omega) (fun k => by omega) m3, fr_MKp F2 (fun g k1 k2 k3 => by omega) (fun g x k1 k2 k3 => by omega) m4, fr_MPr F2 (fun g k1 k2 k3 => by omega) (fun k => by omega) (fun k => by omega) (fun k => by omega) (fun k => by omega) m5, t8, fr_MRk F2 (fun k => by omega) (fun k => by omega) m7⟩
theorem O_item {d : Nat} {q : HP → Int64 → Prop} {H : HP} {t i : Int32} (inv : Inv H) (hq : ∀ H3 ra, hX H3 = hX H → tg H3 1118 = 13 → (∀ q2 : HP → Int64 → Prop, (∀ H8, hX H8 = hX H → Inv H8 → q2 H8 ra) → CJ (d + 100) 0 0 mX12_item [rv (some 1118), .int t, .int i] H3 q2) → q H3 ra) : CJ (d + 100) 0 0 mX11_item [rv (some 0), .int t, .int i] H q := by
  obtain ⟨n, U, C, T, pr, P, kp, nK, UK, CK, TT, K, ok, c, m⟩ := inv
  obtain ⟨o1, o2, o3, o4, o5, o6⟩ := id ok
  obtain ⟨c1, c2, c3, c4, c5, c6, c7, c8, c9, c10, c11⟩ := id c
  obtain ⟨m1, m2, m3, m4, m5, m6, m7⟩ := id m
  have tm := m1.1.1
  exact K_citem (d := d + 94) c1 c4 c10 o5 (hq H _ rfl tm fun q2 h2 => K_mitem (d := d + 96) m1.1 m6 o5 (h2 H rfl (Inv_of ok c m)))
theorem O_change {d : Nat} {q : HP → Int32 → Prop} {H : HP} {t x y : Int32} (inv : Inv H) (hq : ∀ H3 ra, hX H3 = hX H → tg H3 1118 = 13 → (∀ q2 : HP → Int32 → Prop, (∀ H8, hX H8 = hX H → Inv H8 → q2 H8 ra) → CI (d + 100) 0 0 mX12_change [rv (some 1118), .int t, .int x, .int y] H3 q2) → q H3 ra) : CI (d + 100) 0 0 mX11_change [rv (some 0), .int t, .int x, .int y] H q := by
  obtain ⟨n, U, C, T, pr, P, kp, nK, UK, CK, TT, K, ok, c, m⟩ := inv
  obtain ⟨o1, o2, o3, o4, o5, o6⟩ := id ok
  obtain ⟨c1, c2, c3, c4, c5, c6, c7, c8, c9, c10, c11⟩ := id c
  obtain ⟨m1, m2, m3, m4, m5, m6, m7⟩ := id m
  have tm := m1.1.1
  refine K_cchange (d := d + 97) c1 c10 o5 c6 o2 fun H3 F t3 => hq H3 _ F.2.2.2.1 (by rw [fr_tg F]; exact tm) fun q2 h2 => ?_
  have mm := fr_InvM (F.mono (S' := ScM) (fun g x k => by omega)) m
  have cc : InvC H3 n U C T pr P kp nK UK CK (changeT TT n U t x y) K := ⟨fr_shP F c1, fr_shDef F c2, fr_LtB F (fun k => by omega) c3, fr_shBits F (fun k => by omega) (fun k => by omega) c4, fr_CT1p F (fun g k => by omega) (fun g k => by omega) c5, fr_CU F (fun g b k1 k2 k3 => by omega) c6, fr_CCl F (fun g b k1 k2 k3 => by omega) c7, fr_CKp F (fun k => by omega) (fun g x k1 k2 k3 => by omega) c8, fr_CPr o3 F (fun k => by omega) (fun k => by omega) (fun k => by omega) (fun g x k1 k2 k3 => by omega) c9, t3, fr_CRk F (fun k => by omega) (fun g x k1 k2 k3 => by omega) c11⟩
  obtain ⟨m1, m2, m3, m4, m5, m6, m7⟩ := id mm
  refine K_mchange (d := d + 97) m6 o5 m1 o2 fun H8 F2 t8 => h2 H8 (F2.2.2.2.1.trans F.2.2.2.1) (Inv_of ⟨o1, o2, o3, o4, okTR_change o5 o2, o6⟩ (fr_InvC o3 (F2.mono (S' := ScC) (fun g x k => by omega)) cc) ?_)
  exact ⟨fr_MU F2 (fun k => by omega) (fun g a k1 k2 k3 => by omega) m1, fr_MCl F2 (fun k => by omega) (fun k => by omega) m2, fr_MT0 F2 (fun k => by omega) (fun k => by omega) m3, fr_MKp F2 (fun g k1 k2 k3 => by omega) (fun g x k1 k2 k3 => by omega) m4, fr_MPr F2 (fun g k1 k2 k3 => by omega) (fun k => by omega) (fun k => by omega) (fun k => by omega) (fun k => by omega) m5, t8, fr_MRk F2 (fun k => by omega) (fun k => by omega) m7⟩
theorem O_added {d : Nat} {q : HP → Int64 → Prop} {H : HP} {t : Int32} (inv : Inv H) (hq : ∀ H3 ra, hX H3 = hX H → tg H3 1118 = 13 → (∀ q2 : HP → Int64 → Prop, (∀ H8, hX H8 = hX H → Inv H8 → q2 H8 ra) → CJ (d + 100) 0 0 mX12_added_ [rv (some 1118), .int t] H3 q2) → q H3 ra) : CJ (d + 100) 0 0 mX11_added [rv (some 0), .int t] H q := by
  obtain ⟨n, U, C, T, pr, P, kp, nK, UK, CK, TT, K, ok, c, m⟩ := inv
  obtain ⟨o1, o2, o3, o4, o5, o6⟩ := id ok
  obtain ⟨c1, c2, c3, c4, c5, c6, c7, c8, c9, c10, c11⟩ := id c
  obtain ⟨m1, m2, m3, m4, m5, m6, m7⟩ := id m
  have tm := m1.1.1
  exact K_cadded (d := d + 93) c1 c4 c10 o5 (hq H _ rfl tm fun q2 h2 => K_madded (d := d + 97) m1.1 m6 o5 (h2 H rfl (Inv_of ok c m)))
theorem O_cast {d : Nat} {q : HP → Int64 → Prop} {H : HP} {t i w : Int32} (inv : Inv H) (hq : ∀ H3 ra, hX H3 = hX H → tg H3 1118 = 13 → (∀ q2 : HP → Int64 → Prop, (∀ H8, hX H8 = hX H → Inv H8 → q2 H8 ra) → CJ (d + 100) 0 0 mX12_cast [rv (some 1118), .int t, .int i, .int w] H3 q2) → q H3 ra) : CJ (d + 100) 0 0 mX11_cast [rv (some 0), .int t, .int i, .int w] H q := by
  obtain ⟨n, U, C, T, pr, P, kp, nK, UK, CK, TT, K, ok, c, m⟩ := inv
  obtain ⟨o1, o2, o3, o4, o5, o6⟩ := id ok
  obtain ⟨c1, c2, c3, c4, c5, c6, c7, c8, c9, c10, c11⟩ := id c
  obtain ⟨m1, m2, m3, m4, m5, m6, m7⟩ := id m
  have tm := m1.1.1
  exact K_ccast (d := d + 97) c1 c10 o5 (hq H _ rfl tm fun q2 h2 => K_mcast (d := d + 96) m1.1 m6 o5 (h2 H rfl (Inv_of ok c m)))
theorem O_twin {d : Nat} {q : HP → Int32 → Prop} {H : HP} {t x : Int32} (inv : Inv H) (hq : ∀ H3 ra, hX H3 = hX H → tg H3 1118 = 13 → (∀ q2 : HP → Int32 → Prop, (∀ H8, hX H8 = hX H → Inv H8 → q2 H8 ra) → CI (d + 100) 0 0 mX12_twin [rv (some 1118), .int t, .int x] H3 q2) → q H3 ra) : CI (d + 100) 0 0 mX11_twin [rv (some 0), .int t, .int x] H q := by
  obtain ⟨n, U, C, T, pr, P, kp, nK, UK, CK, TT, K, ok, c, m⟩ := inv
  obtain ⟨o1, o2, o3, o4, o5, o6⟩ := id ok
  obtain ⟨c1, c2, c3, c4, c5, c6, c7, c8, c9, c10, c11⟩ := id c
  obtain ⟨m1, m2, m3, m4, m5, m6, m7⟩ := id m
  have tm := m1.1.1
  refine K_ctwin (d := d + 98) c1 c10 o5 fun H3 F t3 => hq H3 _ F.2.2.2.1 (by rw [fr_tg F]; exact tm) fun q2 h2 => ?_
  have mm := fr_InvM (F.mono (S' := ScM) (fun g x k => by omega)) m
  have cc : InvC H3 n U C T pr P kp nK UK CK (twinT TT t x) K := ⟨fr_shP F c1, fr_shDef F c2, fr_LtB F (fun k => by omega) c3, fr_shBits F (fun k => by omega) (fun k => by omega) c4, fr_CT1p F (fun g k => by omega) (fun g k => by omega) c5, fr_CU F (fun g b k1 k2 k3 => by omega) c6, fr_CCl F (fun g b k1 k2 k3 => by omega) c7, fr_CKp F (fun k => by omega) (fun g x k1 k2 k3 => by omega) c8, fr_CPr o3 F (fun k => by omega) (fun k => by omega) (fun k => by omega) (fun g x k1 k2 k3 => by omega) c9, t3, fr_CRk F (fun k => by omega) (fun g x k1 k2 k3 => by omega) c11⟩
  obtain ⟨m1, m2, m3, m4, m5, m6, m7⟩ := id mm
  refine K_mtwin (d := d + 97) m1.1 m6 o5 fun H8 F2 t8 => h2 H8 (F2.2.2.2.1.trans F.2.2.2.1) (Inv_of ⟨o1, o2, o3, o4, okTR_twin o5, o6⟩ (fr_InvC o3 (F2.mono (S' := ScC) (fun g x k => by omega)) cc) ?_)
  exact ⟨fr_MU F2 (fun k => by omega) (fun g a k1 k2 k3 => by omega) m1, fr_MCl F2 (fun k => by omega) (fun k => by omega) m2, fr_MT0 F2 (fun k => by omega) (fun k => by omega) m3, fr_MKp F2 (fun g k1 k2 k3 => by omega) (fun g x k1 k2 k3 => by omega) m4, fr_MPr F2 (fun g k1 k2 k3 => by omega) (fun k => by omega) (fun k => by omega) (fun k => by omega) (fun k => by omega) m5, t8, fr_MRk F2 (fun k => by omega) (fun k => by omega) m7⟩
theorem O_hang {d : Nat} {q : HP → Int32 → Prop} {H : HP} {r i u : Int32} (inv : Inv H) (hq : ∀ H3 ra, hX H3 = hX H → tg H3 1118 = 13 → (∀ q2 : HP → Int32 → Prop, (∀ H8, hX H8 = hX H → Inv H8 → q2 H8 ra) → CI (d + 100) 0 0 mX12_hang [rv (some 1118), .int r, .int i, .int u] H3 q2) → q H3 ra) : CI (d + 100) 0 0 mX11_hang [rv (some 0), .int r, .int i, .int u] H q := by
  obtain ⟨n, U, C, T, pr, P, kp, nK, UK, CK, TT, K, ok, c, m⟩ := inv
  obtain ⟨o1, o2, o3, o4, o5, o6⟩ := id ok
  obtain ⟨c1, c2, c3, c4, c5, c6, c7, c8, c9, c10, c11⟩ := id c
  obtain ⟨m1, m2, m3, m4, m5, m6, m7⟩ := id m
  have tm := m1.1.1
  refine K_chang (d := d + 98) c1 c6 c11 fun H3 F t3 => hq H3 _ F.2.2.2.1 (by rw [fr_tg F]; exact tm) fun q2 h2 => ?_
  have mm := fr_InvM (F.mono (S' := ScM) (fun g x k => by omega)) m
  have cc : InvC H3 n U C T pr P kp nK UK CK TT (hangK K n r i u) := ⟨fr_shP F c1, fr_shDef F c2, fr_LtB F (fun k => by omega) c3, fr_shBits F (fun k => by omega) (fun k => by omega) c4, fr_CT1p F (fun g k => by omega) (fun g k => by omega) c5, fr_CU F (fun g b k1 k2 k3 => by omega) c6, fr_CCl F (fun g b k1 k2 k3 => by omega) c7, fr_CKp F (fun k => by omega) (fun g x k1 k2 k3 => by omega) c8, fr_CPr o3 F (fun k => by omega) (fun k => by omega) (fun k => by omega) (fun g x k1 k2 k3 => by omega) c9, fr_CTr F (fun k => by omega) (fun g x k1 k2 k3 => by omega) c10, t3⟩
  obtain ⟨m1, m2, m3, m4, m5, m6, m7⟩ := id mm
  refine K_mhang (d := d + 97) m1 m7 fun H8 F2 t8 => h2 H8 (F2.2.2.2.1.trans F.2.2.2.1) (Inv_of ⟨o1, o2, o3, o4, o5, okRK_hang o6⟩ (fr_InvC o3 (F2.mono (S' := ScC) (fun g x k => by omega)) cc) ?_)
  exact ⟨fr_MU F2 (fun k => by omega) (fun g a k1 k2 k3 => by omega) m1, fr_MCl F2 (fun k => by omega) (fun k => by omega) m2, fr_MT0 F2 (fun k => by omega) (fun k => by omega) m3, fr_MKp F2 (fun g k1 k2 k3 => by omega) (fun g x k1 k2 k3 => by omega) m4, fr_MPr F2 (fun g k1 k2 k3 => by omega) (fun k => by omega) (fun k => by omega) (fun k => by omega) (fun k => by omega) m5, fr_MTr F2 (fun g x k1 k2 k3 => by omega) m6, t8⟩
theorem O_hold {d : Nat} {q : HP → Int32 → Prop} {H : HP} {r i k : Int32} (inv : Inv H) (hq : ∀ H3 ra, hX H3 = hX H → tg H3 1118 = 13 → (∀ q2 : HP → Int32 → Prop, (∀ H8, hX H8 = hX H → Inv H8 → q2 H8 ra) → CI (d + 100) 0 0 mX12_hold [rv (some 1118), .int r, .int i, .int k] H3 q2) → q H3 ra) : CI (d + 100) 0 0 mX11_hold [rv (some 0), .int r, .int i, .int k] H q := by
  obtain ⟨n, U, C, T, pr, P, kp, nK, UK, CK, TT, K, ok, c, m⟩ := inv
  obtain ⟨o1, o2, o3, o4, o5, o6⟩ := id ok
  obtain ⟨c1, c2, c3, c4, c5, c6, c7, c8, c9, c10, c11⟩ := id c
  obtain ⟨m1, m2, m3, m4, m5, m6, m7⟩ := id m
  have tm := m1.1.1
  refine K_chold (d := d + 98) c1 c9 o3 c11 fun H3 F t3 => hq H3 _ F.2.2.2.1 (by rw [fr_tg F]; exact tm) fun q2 h2 => ?_
  have mm := fr_InvM (F.mono (S' := ScM) (fun g x k => by omega)) m
  have cc : InvC H3 n U C T pr P kp nK UK CK TT (holdK K pr P r i k) := ⟨fr_shP F c1, fr_shDef F c2, fr_LtB F (fun k => by omega) c3, fr_shBits F (fun k => by omega) (fun k => by omega) c4, fr_CT1p F (fun g k => by omega) (fun g k => by omega) c5, fr_CU F (fun g b k1 k2 k3 => by omega) c6, fr_CCl F (fun g b k1 k2 k3 => by omega) c7, fr_CKp F (fun k => by omega) (fun g x k1 k2 k3 => by omega) c8, fr_CPr o3 F (fun k => by omega) (fun k => by omega) (fun k => by omega) (fun g x k1 k2 k3 => by omega) c9, fr_CTr F (fun k => by omega) (fun g x k1 k2 k3 => by omega) c10, t3⟩
  obtain ⟨m1, m2, m3, m4, m5, m6, m7⟩ := id mm
  refine K_mhold (d := d + 97) m1.1 m5 o3 m7 fun H8 F2 t8 => h2 H8 (F2.2.2.2.1.trans F.2.2.2.1) (Inv_of ⟨o1, o2, o3, o4, o5, okRK_hold o6⟩ (fr_InvC o3 (F2.mono (S' := ScC) (fun g x k => by omega)) cc) ?_)
  exact ⟨fr_MU F2 (fun k => by omega) (fun g a k1 k2 k3 => by omega) m1, fr_MCl F2 (fun k => by omega) (fun k => by omega) m2, fr_MT0 F2 (fun k => by omega) (fun k => by omega) m3, fr_MKp F2 (fun g k1 k2 k3 => by omega) (fun g x k1 k2 k3 => by omega) m4, fr_MPr F2 (fun g k1 k2 k3 => by omega) (fun k => by omega) (fun k => by omega) (fun k => by omega) (fun k => by omega) m5, fr_MTr F2 (fun g x k1 k2 k3 => by omega) m6, t8⟩
theorem O_rack {d : Nat} {q : HP → Int32 → Prop} {H : HP} {r i w : Int32} (inv : Inv H) (hq : ∀ H3 ra, hX H3 = hX H → tg H3 1118 = 13 → (∀ q2 : HP → Int32 → Prop, (∀ H8, hX H8 = hX H → Inv H8 → q2 H8 ra) → CI (d + 100) 0 0 mX12_rack [rv (some 1118), .int r, .int i, .int w] H3 q2) → q H3 ra) : CI (d + 100) 0 0 mX11_rack [rv (some 0), .int r, .int i, .int w] H q := by
  obtain ⟨n, U, C, T, pr, P, kp, nK, UK, CK, TT, K, ok, c, m⟩ := inv
  obtain ⟨o1, o2, o3, o4, o5, o6⟩ := id ok
  obtain ⟨c1, c2, c3, c4, c5, c6, c7, c8, c9, c10, c11⟩ := id c
  obtain ⟨m1, m2, m3, m4, m5, m6, m7⟩ := id m
  have tm := m1.1.1
  exact K_crack (d := d + 98) c1 c11 (hq H _ rfl tm fun q2 h2 => K_mrack (d := d + 97) m1.1 m7 o6 (h2 H rfl (Inv_of ok c m)))
theorem O_shift {d : Nat} {q : HP → Int32 → Prop} {H : HP} {r t : Int32} (inv : Inv H) (hq : ∀ H3 ra, hX H3 = hX H → tg H3 1118 = 13 → (∀ q2 : HP → Int32 → Prop, (∀ H8, hX H8 = hX H → Inv H8 → q2 H8 ra) → CI (d + 100) 0 0 mX12_shift [rv (some 1118), .int r, .int t] H3 q2) → q H3 ra) : CI (d + 100) 0 0 mX11_shift [rv (some 0), .int r, .int t] H q := by
  obtain ⟨n, U, C, T, pr, P, kp, nK, UK, CK, TT, K, ok, c, m⟩ := inv
  obtain ⟨o1, o2, o3, o4, o5, o6⟩ := id ok
  obtain ⟨c1, c2, c3, c4, c5, c6, c7, c8, c9, c10, c11⟩ := id c
  obtain ⟨m1, m2, m3, m4, m5, m6, m7⟩ := id m
  have tm := m1.1.1
  refine K_cshift (d := d + 98) c1 c11 fun H3 F t3 => hq H3 _ F.2.2.2.1 (by rw [fr_tg F]; exact tm) fun q2 h2 => ?_
  have mm := fr_InvM (F.mono (S' := ScM) (fun g x k => by omega)) m
  have cc : InvC H3 n U C T pr P kp nK UK CK TT (shiftK K r t) := ⟨fr_shP F c1, fr_shDef F c2, fr_LtB F (fun k => by omega) c3, fr_shBits F (fun k => by omega) (fun k => by omega) c4, fr_CT1p F (fun g k => by omega) (fun g k => by omega) c5, fr_CU F (fun g b k1 k2 k3 => by omega) c6, fr_CCl F (fun g b k1 k2 k3 => by omega) c7, fr_CKp F (fun k => by omega) (fun g x k1 k2 k3 => by omega) c8, fr_CPr o3 F (fun k => by omega) (fun k => by omega) (fun k => by omega) (fun g x k1 k2 k3 => by omega) c9, fr_CTr F (fun k => by omega) (fun g x k1 k2 k3 => by omega) c10, t3⟩
  obtain ⟨m1, m2, m3, m4, m5, m6, m7⟩ := id mm
  refine K_mshift (d := d + 97) m1.1 o6 m7 fun H8 F2 t8 => h2 H8 (F2.2.2.2.1.trans F.2.2.2.1) (Inv_of ⟨o1, o2, o3, o4, o5, okRK_shift o6⟩ (fr_InvC o3 (F2.mono (S' := ScC) (fun g x k => by omega)) cc) ?_)
  exact ⟨fr_MU F2 (fun k => by omega) (fun g a k1 k2 k3 => by omega) m1, fr_MCl F2 (fun k => by omega) (fun k => by omega) m2, fr_MT0 F2 (fun k => by omega) (fun k => by omega) m3, fr_MKp F2 (fun g k1 k2 k3 => by omega) (fun g x k1 k2 k3 => by omega) m4, fr_MPr F2 (fun g k1 k2 k3 => by omega) (fun k => by omega) (fun k => by omega) (fun k => by omega) (fun k => by omega) m5, fr_MTr F2 (fun g x k1 k2 k3 => by omega) m6, t8⟩
theorem O_image {d : Nat} {q : HP → Int32 → Prop} {H : HP} (inv : Inv H) (hq : ∀ H3 ra, hX H3 = hX H → tg H3 1118 = 13 → (∀ q2 : HP → Int32 → Prop, (∀ H8, hX H8 = hX H → Inv H8 → q2 H8 ra) → CI (d + 100) 0 0 mX12_image [rv (some 1118)] H3 q2) → q H3 ra) : CI (d + 100) 0 0 mX11_image [rv (some 0)] H q := by
  obtain ⟨n, U, C, T, pr, P, kp, nK, UK, CK, TT, K, ok, c, m⟩ := inv
  obtain ⟨o1, o2, o3, o4, o5, o6⟩ := id ok
  obtain ⟨c1, c2, c3, c4, c5, c6, c7, c8, c9, c10, c11⟩ := id c
  obtain ⟨m1, m2, m3, m4, m5, m6, m7⟩ := id m
  have tm := m1.1.1
  refine K_cimage (d := d + 92) c1 c6 c7 c8 o1 fun H3 F t3 => hq H3 _ F.2.2.2.1 (by rw [fr_tg F]; exact tm) fun q2 h2 => ?_
  have mm := fr_InvM (F.mono (S' := ScM) (fun g x k => by omega)) m
  have cc : InvC H3 n U C T pr P (true) (n) (U) (C) TT K := ⟨fr_shP F c1, fr_shDef F c2, fr_LtB F (fun k => by omega) c3, fr_shBits F (fun k => by omega) (fun k => by omega) c4, fr_CT1p F (fun g k => by omega) (fun g k => by omega) c5, fr_CU F (fun g b k1 k2 k3 => by omega) c6, fr_CCl F (fun g b k1 k2 k3 => by omega) c7, t3, fr_CPr o3 F (fun k => by omega) (fun k => by omega) (fun k => by omega) (fun g x k1 k2 k3 => by omega) c9, fr_CTr F (fun k => by omega) (fun g x k1 k2 k3 => by omega) c10, fr_CRk F (fun k => by omega) (fun g x k1 k2 k3 => by omega) c11⟩
  obtain ⟨m1, m2, m3, m4, m5, m6, m7⟩ := id mm
  refine K_mimage (d := d + 98) m1 o1.2.2.2.1 m2 o1.2.2.1 fun H8 F2 t8 => h2 H8 (F2.2.2.2.1.trans F.2.2.2.1) (Inv_of ⟨o1, o2, o3, fun _ => ⟨o1, o2⟩, o5, o6⟩ (fr_InvC o3 (F2.mono (S' := ScC) (fun g x k => by omega)) cc) ?_)
  exact ⟨fr_MU F2 (fun k => by omega) (fun g a k1 k2 k3 => by omega) m1, fr_MCl F2 (fun k => by omega) (fun k => by omega) m2, fr_MT0 F2 (fun k => by omega) (fun k => by omega) m3, t8, fr_MPr F2 (fun g k1 k2 k3 => by omega) (fun k => by omega) (fun k => by omega) (fun k => by omega) (fun k => by omega) m5, fr_MTr F2 (fun g x k1 k2 k3 => by omega) m6, fr_MRk F2 (fun k => by omega) (fun k => by omega) m7⟩
theorem O_count {d : Nat} {q : HP → Int32 → Prop} {H : HP} {w : Int32} (inv : Inv H) (hq : ∀ H3 ra, hX H3 = hX H → tg H3 1118 = 13 → (∀ q2 : HP → Int32 → Prop, (∀ H8, hX H8 = hX H → Inv H8 → q2 H8 ra) → CI (d + 100) 0 0 mX12_count [rv (some 1118), .int w] H3 q2) → q H3 ra) : CI (d + 100) 0 0 mX11_count [rv (some 0), .int w] H q := by
  obtain ⟨n, U, C, T, pr, P, kp, nK, UK, CK, TT, K, ok, c, m⟩ := inv
  obtain ⟨o1, o2, o3, o4, o5, o6⟩ := id ok
  obtain ⟨c1, c2, c3, c4, c5, c6, c7, c8, c9, c10, c11⟩ := id c
  obtain ⟨m1, m2, m3, m4, m5, m6, m7⟩ := id m
  have tm := m1.1.1
  exact K_ccount (d := d + 97) c1 c6 c7 c5 c9 c10 o5 c11 (hq H _ rfl tm fun q2 h2 => K_mcount (d := d + 99) m1 m2 m3 m5 m6 o5 m7 o6 (h2 H rfl (Inv_of ok c m)))
theorem O_claim {d : Nat} {q : HP → Int32 → Prop} {H : HP} {x y p r : Int32} (inv : Inv H) (hq : ∀ H3 ra, hX H3 = hX H → tg H3 1118 = 13 → (∀ q2 : HP → Int32 → Prop, (∀ H8, hX H8 = hX H → Inv H8 → q2 H8 ra) → CI (d + 100) 0 0 mX12_claim [rv (some 1118), .int x, .int y, .int p, .int r] H3 q2) → q H3 ra) : CI (d + 100) 0 0 mX11_claim [rv (some 0), .int x, .int y, .int p, .int r] H q := by
  obtain ⟨n, U, C, T, pr, P, kp, nK, UK, CK, TT, K, ok, c, m⟩ := inv
  obtain ⟨o1, o2, o3, o4, o5, o6⟩ := id ok
  obtain ⟨c1, c2, c3, c4, c5, c6, c7, c8, c9, c10, c11⟩ := id c
  obtain ⟨m1, m2, m3, m4, m5, m6, m7⟩ := id m
  have tm := m1.1.1
  refine K_cclaim (d := d + 92) c1 c6 o1.2.2.2 c7 fun H3 F t3 => hq H3 _ F.2.2.2.1 (by rw [fr_tg F]; exact tm) fun q2 h2 => ?_
  have mm := fr_InvM (F.mono (S' := ScM) (fun g x k => by omega)) m
  have cc : InvC H3 n U (claimC n C x y p r) T pr P kp nK UK CK TT K := ⟨fr_shP F c1, fr_shDef F c2, fr_LtB F (fun k => by omega) c3, fr_shBits F (fun k => by omega) (fun k => by omega) c4, fr_CT1p F (fun g k => by omega) (fun g k => by omega) c5, fr_CU F (fun g b k1 k2 k3 => by omega) c6, t3, fr_CKp F (fun k => by omega) (fun g x k1 k2 k3 => by omega) c8, fr_CPr o3 F (fun k => by omega) (fun k => by omega) (fun k => by omega) (fun g x k1 k2 k3 => by omega) c9, fr_CTr F (fun k => by omega) (fun g x k1 k2 k3 => by omega) c10, fr_CRk F (fun k => by omega) (fun g x k1 k2 k3 => by omega) c11⟩
  obtain ⟨m1, m2, m3, m4, m5, m6, m7⟩ := id mm
  refine K_mclaim (d := d + 97) m1 o1.2.2.2 m2 fun H8 F2 t8 => h2 H8 (F2.2.2.2.1.trans F.2.2.2.1) (Inv_of ⟨⟨o1.1, o1.2.1, o1.2.2.1, okCl_claim o1.2.1 o1.2.2.2⟩, o2, o3, o4, o5, o6⟩ (fr_InvC o3 (F2.mono (S' := ScC) (fun g x k => by omega)) cc) ?_)
  exact ⟨fr_MU F2 (fun k => by omega) (fun g a k1 k2 k3 => by omega) m1, t8, fr_MT0 F2 (fun k => by omega) (fun k => by omega) m3, fr_MKp F2 (fun g k1 k2 k3 => by omega) (fun g x k1 k2 k3 => by omega) m4, fr_MPr F2 (fun g k1 k2 k3 => by omega) (fun k => by omega) (fun k => by omega) (fun k => by omega) (fun k => by omega) m5, fr_MTr F2 (fun g x k1 k2 k3 => by omega) m6, fr_MRk F2 (fun k => by omega) (fun k => by omega) m7⟩
theorem O_unclaim {d : Nat} {q : HP → Int32 → Prop} {H : HP} {x : Int32} (inv : Inv H) (hq : ∀ H3 ra, hX H3 = hX H → tg H3 1118 = 13 → (∀ q2 : HP → Int32 → Prop, (∀ H8, hX H8 = hX H → Inv H8 → q2 H8 ra) → CI (d + 100) 0 0 mX12_unclaim [rv (some 1118), .int x] H3 q2) → q H3 ra) : CI (d + 100) 0 0 mX11_unclaim [rv (some 0), .int x] H q := by
  obtain ⟨n, U, C, T, pr, P, kp, nK, UK, CK, TT, K, ok, c, m⟩ := inv
  obtain ⟨o1, o2, o3, o4, o5, o6⟩ := id ok
  obtain ⟨c1, c2, c3, c4, c5, c6, c7, c8, c9, c10, c11⟩ := id c
  obtain ⟨m1, m2, m3, m4, m5, m6, m7⟩ := id m
  have tm := m1.1.1
  refine K_cunclaim (d := d + 92) c1 o1.2.1 o1.2.2.2 c7 fun H3 F t3 => hq H3 _ F.2.2.2.1 (by rw [fr_tg F]; exact tm) fun q2 h2 => ?_
  have mm := fr_InvM (F.mono (S' := ScM) (fun g x k => by omega)) m
  have cc : InvC H3 n U (unclaimC C x) T pr P kp nK UK CK TT K := ⟨fr_shP F c1, fr_shDef F c2, fr_LtB F (fun k => by omega) c3, fr_shBits F (fun k => by omega) (fun k => by omega) c4, fr_CT1p F (fun g k => by omega) (fun g k => by omega) c5, fr_CU F (fun g b k1 k2 k3 => by omega) c6, t3, fr_CKp F (fun k => by omega) (fun g x k1 k2 k3 => by omega) c8, fr_CPr o3 F (fun k => by omega) (fun k => by omega) (fun k => by omega) (fun g x k1 k2 k3 => by omega) c9, fr_CTr F (fun k => by omega) (fun g x k1 k2 k3 => by omega) c10, fr_CRk F (fun k => by omega) (fun g x k1 k2 k3 => by omega) c11⟩
  obtain ⟨m1, m2, m3, m4, m5, m6, m7⟩ := id mm
  refine K_munclaim (d := d + 98) m1.1 o1.2.2.2 m2 fun H8 F2 t8 => h2 H8 (F2.2.2.2.1.trans F.2.2.2.1) (Inv_of ⟨⟨o1.1, o1.2.1, o1.2.2.1, okCl_un o1.2.2.2⟩, o2, o3, o4, o5, o6⟩ (fr_InvC o3 (F2.mono (S' := ScC) (fun g x k => by omega)) cc) ?_)
  exact ⟨fr_MU F2 (fun k => by omega) (fun g a k1 k2 k3 => by omega) m1, t8, fr_MT0 F2 (fun k => by omega) (fun k => by omega) m3, fr_MKp F2 (fun g k1 k2 k3 => by omega) (fun g x k1 k2 k3 => by omega) m4, fr_MPr F2 (fun g k1 k2 k3 => by omega) (fun k => by omega) (fun k => by omega) (fun k => by omega) (fun k => by omega) m5, fr_MTr F2 (fun g x k1 k2 k3 => by omega) m6, fr_MRk F2 (fun k => by omega) (fun k => by omega) m7⟩
