
/-! ===== the reference: the loop of sum ===== -/
theorem msum_loop {d m nu deep : Nat} {q : HP → Int32 → Prop} {H0 : HP} {T : TP} {U : Nat → UV} {does : Bool} {P : Nat → PS → PRes} {res : PRes} (hok : ∀ i, okU (U i)) (hP : PInv T P) (hS : SMterm (d + 5) m nu deep T U does P) (hm0 : MU H0 m nu U) (hd0 : hI H0 1338 m 0 = bI does) (h26 : hI H0 1326 m 0 = Int32.ofNat deep) (hq : ∀ H' r, MRs false H0 m T (wF T nu U) U does res H' r → q H' r) : ∀ (n p : Nat) (st : PS) (x1 : Int32) (H : HP), T.1 ≤ p + n → Fr (RdJ m does) H0 H → MT H m T p (-1) → hI H 1326 m 0 = Int32.ofNat deep → (does = true → JH H m st (jA (wF T nu U) U st st.1) ∧ ((jA (wF T nu U) U st st.1).1 = 0 → x1 = Int32.ofNat (st.1 - 1))) → okSt T st → 0 < st.1 → st.1 ≤ p → pLoop P T 43 45 3 4 n p st = res → L_X12_sum_5 (d + 5) q m x1 H := by
  intro n
  induction n with
  | zero =>
    intro p st x1 H hn hF hT h26' hJ ok h0 hle hres
    have hz : lk T p = 0 := by rw [lk, if_neg (by omega)]
    refine T_X12_sum_5 ?_
    unfold wb_X12_sum_5
    rw [hT.2.2.2.2.2.1]
    have hres' : res = .inr (p, st) := hres.symm
    refine ⟨hT.1.1, fun h => absurd h (by decide), fun _ => K_here (d := d + 4) hT ⟨fun c => ?_, fun _ => ⟨hT.1.1, K_here (d := d + 4) hT ⟨fun _ => hq _ _ (Or.inr ⟨p, st, hres', hF, hT, h26'.trans h26.symm, fun hdo => ⟨(hJ hdo).1, fun k => ⟨(hJ hdo).2 k, fun k => (by cases k)⟩⟩⟩), fun c => ?_⟩⟩⟩⟩
    · rw [hz] at c; exact absurd c (by decide)
    · rw [hz] at c; exact absurd c (by decide)
  | succ n ih =>
    intro p st x1 H hn hF hT h26' hJ ok h0 hle hres
    have hT60 := hT.2.2.1
    refine T_X12_sum_5 ?_
    unfold wb_X12_sum_5
    rw [hT.2.2.2.2.2.1]
    have go : (lk T p = 43 ∨ lk T p = 45) → ∀ (sg : Int32), (sg = if lk T p = 43 then 1 else -1) → wb_X12_sum_44 (d + 5) q m x1 sg H := fun hc sg hsg => by
      unfold pLoop at hres
      rw [if_pos hc] at hres
      have hlt : p < T.1 := hc.elim (fun h => lk_lt h (by decide)) (fun h => lk_lt h (by decide))
      unfold wb_X12_sum_44
      rw [hT.inc]
      have tE : MT (atM H m (p + 1) (-1)) m T (p + 1) (-1) := hT.at hlt
      have FE : Fr (AtS m) H (atM H m (p + 1) (-1)) := Fr_atM
      have FE0 : Fr (RdJ m does) H0 (atM H m (p + 1) (-1)) := hF.tr (FE.mono fun g x k => RdJ_tr k)
      have kE : hI (atM H m (p + 1) (-1)) 1326 m 0 = Int32.ofNat deep := by rw [FE.2.2.2.2.1 _ _ (fun k => by omega)]; exact h26'
      generalize atM H m (p + 1) (-1) = E at tE FE FE0 kE ⊢
      have kd : hI E 1338 m 0 = bI does := by rw [FE0.2.2.2.2.1 _ _ (fun k => by omega)]; exact hd0
      obtain ⟨v1, v2⟩ := hP (p + 1) st hlt ok
      refine ⟨hT.1.1, hS E (p + 1) st _ tE (RdJ_MU FE0 hm0) kd kE (fun hdo => fr_JH FE (fun g k1 k2 => by omega) (fun k => by omega) (fun k => by omega) (fun k => by omega) (fun k => by omega) (fun i _ => rfl) (hJ hdo).1) ok (by omega) fun H2 r3 hr => ?_⟩
      rcases hr with ⟨ff, e, F1, t1⟩ | ⟨p1, st1, e, F1, t1, h1, hj⟩
      · rw [e] at hres
        have hff := t1.2.2.2.2.1
        have nn : (0 : Int32) ≤ Int32.ofNat ff := by rw [i32_le, i32_0, iN_toInt (by omega)]; omega
        rw [t1.2.2.2.2.2.1]
        refine ⟨t1.1.1, fun _ => ?_, fun h => absurd nn h⟩
        refine T_X12_sum_5 ?_
        unfold wb_X12_sum_5
        rw [t1.2.2.2.2.2.1]
        exact ⟨t1.1.1, fun _ => hq _ _ (Or.inl ⟨ff, hres.symm, FE0.tr F1, t1⟩), fun h => absurd nn h⟩
      · rw [e] at hres
        simp only at hres
        obtain ⟨w1, w2, w3, w4, w5, w6⟩ := v2 p1 st1 e
        have F2 := FE0.tr F1
        have kd2 : hI H2 1338 m 0 = bI does := by rw [F2.2.2.2.2.1 _ _ (fun k => by omega)]; exact hd0
        rw [t1.2.2.2.2.2.1]
        have step : ∀ kd : Nat, kd = (if lk T p = 43 then 3 else 4) → CI (d + 5) 0 0 mX12_added [rv (some m), .int x1, .int r3, .int sg, .int (Int32.ofNat kd)] H2 (fun H5 r6 => L_X12_sum_5 (d + 5) q m r6 H5) := fun kd ekd => by
          have hk34 : kd = 3 ∨ kd = 4 := by
            rw [ekd]
            by_cases c : lk T p = 43
            · rw [if_pos c]; exact Or.inl rfl
            · rw [if_neg c]; exact Or.inr rfl
          have hsg' : sg = if decide (kd ≠ 3) = true then -1 else 1 := by
            rw [hsg, ekd]
            by_cases c : lk T p = 43
            · rw [if_pos c, if_pos c]; rfl
            · rw [if_neg c, if_neg c]; rfl
          refine sum_step (kl := st.1 - 1) hok t1 kd2 w6 (by omega) (by omega) (by omega) hsg' (fun hdo => (hj hdo).1) (fun hdo hz => ⟨(hJ hdo).2 (jA_back ok (by omega) w5 hz), ((hj hdo).2 hz).1⟩) fun H' r F3 t3 h3 hj3 => ?_
          have okr : okRow T st1.1 (opR kd (st.1 - 1) (st1.1 - 1)) := by
            refine Or.inr ⟨?_, ?_, ?_, ?_⟩
            · show 1 ≤ kd; omega
            · show kd ≤ 5; omega
            · show st.1 - 1 < st1.1; omega
            · show st1.1 - 1 < st1.1; omega
          rw [← ekd] at hres
          exact ih p1 (pushS st1 (opR kd (st.1 - 1) (st1.1 - 1))) r H' (by omega) (F2.tr F3) t3 (h3.trans (h1.trans kE)) (fun hdo => ⟨(hj3 hdo).1, fun hz => (hj3 hdo).2 hz⟩) (okSt_push w6 okr) (by show 0 < st1.1 + 1; omega) (by show st1.1 + 1 ≤ p1; omega) hres
        refine ⟨t1.1.1, fun h => absurd h (by decide), fun _ => ⟨fun c => step 4 ?_, fun c => step 3 ?_⟩⟩
        · by_cases c1 : lk T p = 43
          · rw [hsg, if_pos c1] at c; exact absurd c (by decide)
          · rw [if_neg c1]
        · by_cases c1 : lk T p = 43
          · rw [if_pos c1]
          · rw [hsg, if_neg c1] at c; exact absurd (by decide) c
    have no : lk T p ≠ 43 → lk T p ≠ 45 → q H x1 := fun c1 c2 => by
      unfold pLoop at hres
      rw [if_neg (fun k => k.elim c1 c2)] at hres
      exact hq _ _ (Or.inr ⟨p, st, hres.symm, hF, hT, h26'.trans h26.symm, fun hdo => ⟨(hJ hdo).1, fun k => ⟨(hJ hdo).2 k, fun k => (by cases k)⟩⟩⟩)
    have s1 : lk T p = 43 → (1 : Int32) = if lk T p = 43 then 1 else -1 := fun c => by rw [if_pos c]
    have s2 : lk T p ≠ 43 → (-1 : Int32) = if lk T p = 43 then 1 else -1 := fun c => by rw [if_neg c]
    refine ⟨hT.1.1, fun h => absurd h (by decide), fun _ => K_here (d := d + 4) hT ⟨fun c => ⟨hT.1.1, K_here (d := d + 4) hT ⟨fun c2 => absurd c c2, fun c2 => go (Or.inl c) 1 (s1 c)⟩⟩, fun c => ⟨hT.1.1, K_here (d := d + 4) hT ⟨fun c2 => no c c2, fun c2 => ⟨hT.1.1, K_here (d := d + 4) hT ⟨fun c3 => go (Or.inr c2) (-1) (s2 c3), fun c3 => absurd c3 c⟩⟩⟩⟩⟩⟩
theorem K_msum {d m nu deep : Nat} {T : TP} {U : Nat → UV} {does : Bool} {P : Nat → PS → PRes} (hok : ∀ i, okU (U i)) (hP : PInv T P) (hS : SMterm (d + 5) m nu deep T U does P) : SMsum (d + 6) m nu deep T U does (pSeq P T 43 45 3 4) := by
  intro H p st q hT hm hd h26 hJ ok hle hq
  have hp := hT.2.2.2.2.1
  have hT60 := hT.2.2.1
  refine C_X12_sum ?_
  unfold wb_X12_sum_0
  obtain ⟨v1, v2⟩ := hP p st hp ok
  refine ⟨hT.1.1, hS H p st _ hT hm hd h26 hJ ok hle fun H1 r3 hr => ?_⟩
  have hps : pSeq P T 43 45 3 4 p st = (match P p st with
      | .inl f => .inl f
      | .inr (p1, st1) => pLoop P T 43 45 3 4 60 p1 st1) := by
    unfold pSeq
    rcases P p st with f | ⟨p1, st1⟩ <;> rfl
  rcases hr with ⟨ff, e, F1, t1⟩ | ⟨p1, st1, e, F1, t1, h1, hj⟩
  · rw [e] at hps
    have hff := t1.2.2.2.2.1
    have nn : (0 : Int32) ≤ Int32.ofNat ff := by rw [i32_le, i32_0, iN_toInt (by omega)]; omega
    refine T_X12_sum_5 ?_
    unfold wb_X12_sum_5
    rw [t1.2.2.2.2.2.1]
    exact ⟨t1.1.1, fun _ => hq _ _ (Or.inl ⟨ff, hps, F1, t1⟩), fun h => absurd nn h⟩
  · rw [e] at hps
    simp only at hps
    obtain ⟨w1, w2, w3, w4, w5, w6⟩ := v2 p1 st1 e
    exact msum_loop hok hP hS hm hd h26 hq 60 p1 st1 r3 H1 (by omega) F1 t1 (h1.trans h26) (fun hdo => ⟨(hj hdo).1, fun hz => ((hj hdo).2 hz).1⟩) w6 (by omega) (by omega) hps.symm
