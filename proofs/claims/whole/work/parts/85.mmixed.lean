
/-! ===== the reference: mixed measures judged ===== -/
/-- what the reference has read of a mixed measure -/
def MMx (H : HP) (m k nu : Nat) (F : Nat → Option Nat) (th : Nat → Nat) : Prop := hI H 1352 m 0 = Int32.ofNat k ∧ k ≤ 4 ∧ ∀ i, i < k → (hL H 5027 (m + 25) i).toInt = th i ∧ ((F i = none ∧ hI H 5040 (m + 26) i = -1) ∨ ∃ j, j < nu ∧ F i = some j ∧ hI H 5040 (m + 26) i = Int32.ofNat j)
theorem fr_MMx {S : Nat → Nat → Prop} {H H' : HP} {m k nu : Nat} {F : Nat → Option Nat} {th : Nat → Nat} (h : Fr S H H') (h1 : ¬ S 1352 m) (h2 : ¬ S 5027 (m + 25)) (h3 : ¬ S 5040 (m + 26)) (s : MMx H m k nu F th) : MMx H' m k nu F th := by
  obtain ⟨s1, s2, s3⟩ := s
  have hi := h.2.2.2.2.1
  have hl := h.2.2.2.2.2.1
  refine ⟨by rw [hi _ _ h1]; exact s1, s2, fun i k => ?_⟩
  rw [hl _ _ h2, hi _ _ h3]; exact s3 i k
theorem fr_MMx0 {H H' : HP} {m k nu : Nat} {F : Nat → Option Nat} {th : Nat → Nat} (h : Fr (Mg0 m) H H') (s : MMx H m k nu F th) : MMx H' m k nu F th := fr_MMx h (fun k => by omega) (fun k => by omega) (fun k => by omega) s
abbrev uX (F : Nat → Option Nat) (U : Nat → UV) (i : Nat) : UV := U ((F i).getD 0)
theorem eq5_comm {f g : Nat → Int32} : eq5 f g = eq5 g f := by
  rw [Bool.eq_iff_iff, eq5_iff, eq5_iff]
  exact ⟨fun h j hj => (h j hj).symm, fun h j hj => (h j hj).symm⟩
theorem MMx_at {H : HP} {m k nu : Nat} {F : Nat → Option Nat} {th : Nat → Nat} (s : MMx H m k nu F th) (ha : ∀ i, i < k → (F i).isSome = true) {i : Nat} (hi : i < k) : ∃ j, j < nu ∧ F i = some j ∧ hI H 5040 (m + 26) i = Int32.ofNat j ∧ (F i).getD 0 = j := by
  rcases (s.2.2 i hi).2 with ⟨w1, w2⟩ | ⟨j, w1, w2, w3⟩
  · have := ha i hi
    rw [w1] at this; cases this
  · exact ⟨j, w1, w2, w3, by rw [w2]; rfl⟩
def mmW (k : Nat) (F : Nat → Option Nat) (U : Nat → UV) : Int32 := if ∀ i, i < k → (F i).isSome = true then mixW k (uX F U) else -8
theorem wm_loopD {d : Nat} {q : HP → Int32 → Prop} {H : HP} {m k nu : Nat} {F : Nat → Option Nat} {th : Nat → Nat} {U : Nat → UV} (sm : shM H m) (hn20 : nu ≤ 20) (hU : ∀ i, i < nu → MUn H m i (U i)) (hok : ∀ i, okU (U i)) (s : MMx H m k nu F th) (ha : ∀ i, i < k → (F i).isSome = true) (h0 : mixC k (uX F U) → q H 0) (h1 : ¬ mixC k (uX F U) → q H (-14)) : ∀ (c i : Nat), c + i = k → 1 ≤ i → (∀ j, j < i → 1 ≤ j → ltL (uX F U j).2.2.1.1 (uX F U j).2.2.1.2 (uX F U (j - 1)).2.2.1.1 (uX F U (j - 1)).2.2.1.2 = true) → L_X12_wrongMixed_100 (d + 2) q m (Int32.ofNat i) H := by
  obtain ⟨a1, a2, a3, a4⟩ := mA_unitOf sm
  have hk4 := s.2.1
  intro c
  induction c with
  | zero =>
    intro i hi h1i hj
    refine T_X12_wrongMixed_100 ?_
    unfold wb_X12_wrongMixed_100
    rw [s.1, iN_le (by omega) (by omega)]
    exact ⟨sm.1, fun _ => h0 fun j k1 k2 => hj j (by omega) k2, fun h => by omega⟩
  | succ c ih =>
    intro i hi h1i hj
    obtain ⟨j, j1, j2, j3, j4⟩ := MMx_at s ha (i := i) (by omega)
    obtain ⟨l, l1, l2, l3, l4⟩ := MMx_at s ha (i := i - 1) (by omega)
    have em : Int32.ofNat i - 1 = Int32.ofNat (i - 1) := by
      refine i32_ext ?_
      rw [i32_subx] <;> rw [iN_toInt (by omega), i32_1]
      · rw [iN_toInt (by omega)]; omega
      · omega
      · omega
    refine T_X12_wrongMixed_100 ?_
    unfold wb_X12_wrongMixed_100
    rw [s.1, iN_le (by omega) (by omega), em, iN_cl (n := i) (by omega), iN_cl (n := i - 1) (by omega)]
    refine ⟨sm.1, fun h => by omega, fun _ => ⟨m + 26, a1, a2, by rw [a4]; exact vpi_of (by omega) (by decide), by rw [a4]; exact vpi_of (by omega) (by decide), ?_⟩⟩
    rw [a3, j3, l3]
    have eu : uX F U i = U j := congrArg U j4
    have el : uX F U (i - 1) = U l := congrArg U l4
    refine K_isLesser sm (by omega) (by omega) (hU j j1) (hU l l1) (hok j) (hok l) ⟨fun c1 => ?_, fun c1 => h1 fun k1 => ?_⟩
    · rw [iN_inc (by omega)]
      refine ih (i + 1) (by omega) (by omega) fun x k1 k2 => ?_
      by_cases e : x = i
      · subst e
        rw [eu, el]; exact c1
      · exact hj x (by omega) k2
    · have := k1 i (by omega) h1i
      rw [eu, el, c1] at this; cases this
theorem wm_loopC {d : Nat} {q : HP → Int32 → Prop} {H : HP} {m k nu : Nat} {F : Nat → Option Nat} {th : Nat → Nat} {U : Nat → UV} (sm : shM H m) (hn20 : nu ≤ 20) (hU : ∀ i, i < nu → MUn H m i (U i)) (s : MMx H m k nu F th) (hk1 : 1 ≤ k) (ha : ∀ i, i < k → (F i).isSome = true) (h0 : mixB k (uX F U) → L_X12_wrongMixed_100 (d + 2) q m 1 H) (h1 : ¬ mixB k (uX F U) → q H (-13)) : ∀ (c i : Nat), c + i = k → 1 ≤ i → (∀ j, j < i → 1 ≤ j → eq5 (uX F U j).2.1 (uX F U 0).2.1 = true) → L_X12_wrongMixed_62 (d + 2) q m (Int32.ofNat i) H := by
  obtain ⟨a1, a2, a3, a4⟩ := mA_unitOf sm
  have hk4 := s.2.1
  intro c
  induction c with
  | zero =>
    intro i hi h1i hj
    refine T_X12_wrongMixed_62 ?_
    unfold wb_X12_wrongMixed_62
    rw [s.1, iN_le (by omega) (by omega)]
    exact ⟨sm.1, fun _ => h0 fun j k1 k2 => hj j (by omega) k2, fun h => by omega⟩
  | succ c ih =>
    intro i hi h1i hj
    obtain ⟨j, j1, j2, j3, j4⟩ := MMx_at s ha (i := i) (by omega)
    obtain ⟨l, l1, l2, l3, l4⟩ := MMx_at s ha (i := 0) (by omega)
    have ec : (0 : Int32).toNatClampNeg = 0 := rfl
    refine T_X12_wrongMixed_62 ?_
    unfold wb_X12_wrongMixed_62
    rw [s.1, iN_le (by omega) (by omega), ec, iN_cl (n := i) (by omega)]
    refine ⟨sm.1, fun h => by omega, fun _ => ⟨m + 26, a1, a2, by rw [a4]; exact vpi_of (n := 0) (m := 4) (by decide) (by decide), by rw [a4]; exact vpi_of (by omega) (by decide), ?_⟩⟩
    rw [a3, j3, l3]
    have eu : uX F U i = U j := congrArg U j4
    have el : uX F U 0 = U l := congrArg U l4
    refine K_areLike (d := d + 1) sm (by omega) (by omega) (hU l l1) (hU j j1) ⟨fun c1 => ?_, fun c1 => h1 fun k1 => ?_⟩
    · rw [iN_inc (by omega)]
      refine ih (i + 1) (by omega) (by omega) fun x k1 k2 => ?_
      by_cases e : x = i
      · subst e
        rw [eu, el, eq5_comm]; exact c1
      · exact hj x (by omega) k2
    · have := k1 i (by omega) h1i
      rw [eu, el, eq5_comm, c1] at this; cases this
theorem wm_loopB {d : Nat} {q : HP → Int32 → Prop} {H : HP} {m k nu : Nat} {F : Nat → Option Nat} {th : Nat → Nat} {U : Nat → UV} (sm : shM H m) (hn20 : nu ≤ 20) (hU : ∀ i, i < nu → MUn H m i (U i)) (s : MMx H m k nu F th) (ha : ∀ i, i < k → (F i).isSome = true) (h0 : mixA k (uX F U) → L_X12_wrongMixed_62 (d + 2) q m 1 H) (h1 : ¬ mixA k (uX F U) → q H (-10)) : ∀ (c i : Nat), c + i = k → (∀ j, j < i → offU (uX F U j) = false) → L_X12_wrongMixed_30 (d + 2) q m (Int32.ofNat i) H := by
  obtain ⟨a1, a2, a3, a4⟩ := mA_unitOf sm
  have hk4 := s.2.1
  intro c
  induction c with
  | zero =>
    intro i hi hj
    refine T_X12_wrongMixed_30 ?_
    unfold wb_X12_wrongMixed_30
    rw [s.1, iN_le (by omega) (by omega)]
    exact ⟨sm.1, fun _ => h0 fun j k1 => hj j (by omega), fun h => by omega⟩
  | succ c ih =>
    intro i hi hj
    obtain ⟨j, j1, j2, j3, j4⟩ := MMx_at s ha (i := i) (by omega)
    refine T_X12_wrongMixed_30 ?_
    unfold wb_X12_wrongMixed_30
    rw [s.1, iN_le (by omega) (by omega), iN_cl (n := i) (by omega)]
    refine ⟨sm.1, fun h => by omega, fun _ => ⟨m + 26, a1, a2, by rw [a4]; exact vpi_of (by omega) (by decide), ?_⟩⟩
    rw [a3, j3]
    have eu : uX F U i = U j := congrArg U j4
    refine K_mhasOffset (d := d + 1) sm (by omega) (hU j j1) ⟨fun c1 => ?_, fun c1 => h1 fun k1 => ?_⟩
    · rw [iN_inc (by omega)]
      refine ih (i + 1) (by omega) fun x k1 => ?_
      by_cases e : x = i
      · subst e
        rw [eu]; exact c1
      · exact hj x (by omega)
    · have := k1 i (by omega)
      rw [eu, c1] at this; cases this
theorem wm_loopA {d : Nat} {q : HP → Int32 → Prop} {H : HP} {m k nu : Nat} {F : Nat → Option Nat} {th : Nat → Nat} (sm : shM H m) (hn20 : nu ≤ 20) (s : MMx H m k nu F th) (h0 : (∀ i, i < k → (F i).isSome = true) → L_X12_wrongMixed_30 (d + 2) q m 0 H) (h1 : ¬ (∀ i, i < k → (F i).isSome = true) → q H (-8)) : ∀ (c i : Nat), c + i = k → (∀ j, j < i → (F j).isSome = true) → L_X12_wrongMixed_2 (d + 2) q m (Int32.ofNat i) H := by
  obtain ⟨a1, a2, a3, a4⟩ := mA_unitOf sm
  have hk4 := s.2.1
  have e0 : (0 : Int32) = Int32.ofNat 0 := rfl
  intro c
  induction c with
  | zero =>
    intro i hi hj
    refine T_X12_wrongMixed_2 ?_
    unfold wb_X12_wrongMixed_2
    rw [s.1, iN_le (by omega) (by omega)]
    exact ⟨sm.1, fun _ => h0 fun j k1 => hj j (by omega), fun h => by omega⟩
  | succ c ih =>
    intro i hi hj
    refine T_X12_wrongMixed_2 ?_
    unfold wb_X12_wrongMixed_2
    rw [s.1, iN_le (by omega) (by omega), iN_cl (n := i) (by omega)]
    refine ⟨sm.1, fun h => by omega, fun _ => ⟨m + 26, a1, a2, by rw [a4]; exact vpi_of (by omega) (by decide), ?_⟩⟩
    rw [a3]
    rcases (s.2.2 i (by omega)).2 with ⟨w1, w2⟩ | ⟨j, w1, w2, w3⟩
    · rw [w2]
      refine ⟨fun h => absurd h (by decide), fun _ => h1 fun k1 => ?_⟩
      have := k1 i (by omega)
      rw [w1] at this; cases this
    · rw [w3, e0, iN_le (by omega) (by omega)]
      refine ⟨fun _ => ?_, fun h => absurd (Nat.zero_le _) h⟩
      rw [iN_inc (by omega)]
      refine ih (i + 1) (by omega) fun x k1 => ?_
      by_cases e : x = i
      · subst e; rw [w2]; rfl
      · exact hj x (by omega)
theorem K_wrongMixed {d : Nat} {q : HP → Int32 → Prop} {H : HP} {m k nu : Nat} {F : Nat → Option Nat} {th : Nat → Nat} {U : Nat → UV} (hM : MU H m nu U) (hok : ∀ i, okU (U i)) (s : MMx H m k nu F th) (hk1 : 1 ≤ k) (hq : q H (mmW k F U)) : CI (d + 3) 0 0 mX12_wrongMixed [rv (some m)] H q := by
  obtain ⟨sm, -, hn20, hU⟩ := hM
  have e0 : (0 : Int32) = Int32.ofNat 0 := rfl
  have e1 : (1 : Int32) = Int32.ofNat 1 := rfl
  refine C_X12_wrongMixed ?_
  unfold wb_X12_wrongMixed_0
  unfold mmW at hq
  refine wm_loopA sm hn20 s (fun ha => ?_) (fun ha => ?_) k 0 rfl (fun j hj => by omega)
  · rw [if_pos ha] at hq
    unfold mixW at hq
    rw [e0]
    refine wm_loopB sm hn20 hU s ha (fun cA => ?_) (fun cA => ?_) k 0 rfl (fun j hj => by omega)
    · rw [if_pos cA] at hq
      rw [e1]
      refine wm_loopC sm hn20 hU s hk1 ha (fun cB => ?_) (fun cB => ?_) (k - 1) 1 (by omega) (Nat.le_refl _) (fun j k1 k2 => by omega)
      · rw [if_pos cB] at hq
        rw [e1]
        refine wm_loopD sm hn20 hU hok s ha (fun cC => ?_) (fun cC => ?_) (k - 1) 1 (by omega) (Nat.le_refl _) (fun j k1 k2 => by omega)
        · rwa [if_pos cC] at hq
        · rwa [if_neg cC] at hq
      · rwa [if_neg cB] at hq
    · rwa [if_neg cA] at hq
  · rwa [if_neg ha] at hq
