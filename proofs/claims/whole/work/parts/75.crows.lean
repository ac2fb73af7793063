
/-! ===== the class's rows of steps ===== -/
abbrev stA (a i : Nat) : Nat := a + 4 + 7 * i
theorem stA_d (a i : Nat) : stA a i = a + 4 + 7 * i := rfl
def SRow (H : HP) (a i : Nat) (r : RS) : Prop := hI H 700 (stA a i) 0 = Int32.ofNat r.1 ∧ hI H 703 (stA a i) 0 = bI r.2.2.2.1 ∧ hI H 704 (stA a i) 0 = 0 ∧ (∀ j, j < 5 → hI H 4544 (stA a i + 5) j = 0) ∧ (r.1 = 0 → hR H 701 (stA a i) 0 = none ∧ hR H 702 (stA a i) 0 = none ∧ SPr H (stA a i) r.2.2.2.2) ∧ (r.1 ≠ 0 → hR H 701 (stA a i) 0 = some (stA a r.2.1) ∧ hR H 702 (stA a i) 0 = some (stA a r.2.2.1) ∧ hI H 705 (stA a i) 0 = 0)
def PRp (H : HP) (a : Nat) (st : PS) : Prop := hI H 501 a 0 = Int32.ofNat st.1 ∧ st.1 ≤ 60 ∧ ∀ i, i < st.1 → SRow H a i (st.2 i)
theorem fr_SPr {S : Nat → Nat → Prop} {H H' : HP} {a : Nat} {R : PRow} (h : Fr S H H') (h1 : ∀ g b, a ≤ b → b < a + 7 → ¬ S g b) (s : SPr H a R) : SPr H' a R := by
  have hi := h.2.2.2.2.1
  obtain ⟨s1, s2, s3, s4⟩ := s
  refine ⟨?_, ?_, fun i k => ?_, fun i k => ?_⟩
  · rw [hi _ _ (h1 _ _ (by omega) (by omega))]; exact s1
  · rw [hi _ _ (h1 _ _ (by omega) (by omega))]; exact s2
  · rw [hi _ _ (h1 _ _ (by omega) (by omega)), hi _ _ (h1 _ _ (by omega) (by omega))]; exact s3 i k
  · rw [hi _ _ (h1 _ _ (by omega) (by omega)), hi _ _ (h1 _ _ (by omega) (by omega))]; exact s4 i k
theorem fr_SRow {S : Nat → Nat → Prop} {H H' : HP} {a i : Nat} {r : RS} (h : Fr S H H') (h1 : ∀ g b, stA a i ≤ b → b < stA a i + 7 → ¬ S g b) (s : SRow H a i r) : SRow H' a i r := by
  have hi := h.2.2.2.2.1
  have hr := h.2.2.2.2.2.2.2.2
  obtain ⟨s1, s2, s3, s4, s5, s6⟩ := s
  refine ⟨?_, ?_, ?_, fun j k => ?_, fun k => ⟨?_, ?_, ?_⟩, fun k => ⟨?_, ?_, ?_⟩⟩
  · rw [hi _ _ (h1 _ _ (by omega) (by omega))]; exact s1
  · rw [hi _ _ (h1 _ _ (by omega) (by omega))]; exact s2
  · rw [hi _ _ (h1 _ _ (by omega) (by omega))]; exact s3
  · rw [hi _ _ (h1 _ _ (by omega) (by omega))]; exact s4 j k
  · rw [hr _ _ (h1 _ _ (by omega) (by omega))]; exact (s5 k).1
  · rw [hr _ _ (h1 _ _ (by omega) (by omega))]; exact (s5 k).2.1
  · exact fr_SPr h h1 (s5 k).2.2
  · rw [hr _ _ (h1 _ _ (by omega) (by omega))]; exact (s6 k).1
  · rw [hr _ _ (h1 _ _ (by omega) (by omega))]; exact (s6 k).2.1
  · rw [hi _ _ (h1 _ _ (by omega) (by omega))]; exact (s6 k).2.2
theorem fr_shProof {S : Nat → Nat → Prop} {H H' : HP} {a : Nat} (h : Fr S H H') (h1 : ¬ S 4615 (a + 1)) (s : shProof H a) : shProof H' a := by
  obtain ⟨s1, s2, s3, s4, s5, s6, s7, s8⟩ := s
  refine ⟨by rw [fr_tg h]; exact s1, by rw [h.2.1]; exact s2, by rw [h.1]; exact s3, by rw [h.2.1]; exact s4, by rw [h.1]; exact s5, by rw [h.2.1]; exact s6, by rw [fr_tg h]; exact s7, fun i hi => ⟨?_, fr_shStep h (s8 i hi).2⟩⟩
  rw [h.2.2.2.2.2.2.2.2 _ _ h1]; exact (s8 i hi).1
/-- a step begun anew -/
abbrev BeS (b : Nat) : Nat → Nat → Prop := fun _ x => b ≤ x ∧ x < b + 7
def Beg (H : HP) (b : Nat) (k : Int32) (l r : Option Nat) : Prop := hI H 700 b 0 = k ∧ hR H 701 b 0 = l ∧ hR H 702 b 0 = r ∧ hI H 703 b 0 = 0 ∧ hI H 704 b 0 = 0 ∧ hI H 705 b 0 = 0 ∧ hI H 706 b 0 = 1
theorem fr_Beg {S : Nat → Nat → Prop} {H H' : HP} {b : Nat} {k : Int32} {l r : Option Nat} (h : Fr S H H') (h1 : ∀ g, (g = 700 ∨ g = 701 ∨ g = 702 ∨ g = 703 ∨ g = 704 ∨ g = 705 ∨ g = 706) → ¬ S g b) (s : Beg H b k l r) : Beg H' b k l r := by
  have hi := h.2.2.2.2.1
  have hr := h.2.2.2.2.2.2.2.2
  unfold Beg at s ⊢
  rw [hi _ _ (h1 700 (by omega)), hr _ _ (h1 701 (by omega)), hr _ _ (h1 702 (by omega)), hi _ _ (h1 703 (by omega)), hi _ _ (h1 704 (by omega)), hi _ _ (h1 705 (by omega)), hi _ _ (h1 706 (by omega))]
  exact s
theorem start_loop {d : Nat} {q : HP → Prop} {H0 : HP} {b : Nat} {kd : Int32} {l r : Option Nat} (hq : ∀ H', Fr (BeS b) H0 H' → shStep H' b → Beg H' b kd l r → (∀ j, j < 5 → hI H' 4544 (b + 5) j = 0) → q H') : ∀ (k i : Nat) (H : HP), k + i = 5 → Fr (BeS b) H0 H → shStep H b → Beg H b kd l r → (∀ j, j < i → hI H 4544 (b + 5) j = 0) → L_X6_start_38 d q b (Int32.ofNat i) H := by
  have e5 : (5 : Int32) = Int32.ofNat 5 := rfl
  intro k
  induction k with
  | zero =>
    intro i H hi hF s hb hz
    refine T_X6_start_38 ?_
    unfold wb_X6_start_38
    rw [e5, iN_le (by omega) (by omega)]
    exact ⟨fun _ => hq H hF s hb fun j hj => hz j (by omega), fun h => by omega⟩
  | succ k ih =>
    intro i H hi hF s hb hz
    obtain ⟨x1, x2, x3, x4⟩ := sA_5 s
    refine T_X6_start_38 ?_
    unfold wb_X6_start_38
    rw [e5, iN_le (by omega) (by omega)]
    refine ⟨fun h => by omega, fun _ => ⟨s.1, b + 5, x1, x2, by rw [x4]; exact vpi_of (by omega) (by decide), ?_⟩⟩
    rw [x3, iN_cl (by omega), iN_inc (by omega)]
    have F : Fr (fun g x => g = 4544 ∧ x = b + 5) H (sI H 4544 (b + 5) i 0) := Fr_sI ⟨rfl, rfl⟩
    refine ih (i + 1) _ (by omega) (hF.tr (F.mono fun g x k => ⟨by omega, by omega⟩)) (fr_shStep F s) (fr_Beg F (fun g k => by omega) hb) fun j hj => ?_
    rw [hIs_i]
    by_cases e : j = i
    · rw [if_pos e]
    · rw [if_neg e]; exact hz j (by omega)
theorem K_start {d : Nat} {q : HP → Prop} {H : HP} {b : Nat} {kd : Int32} {l r : Option Nat} (s : shStep H b) (hq : ∀ H', Fr (BeS b) H H' → shStep H' b → Beg H' b kd l r → (∀ j, j < 5 → hI H' 4544 (b + 5) j = 0) → q H') : CV (d + 1) 0 0 mX6_start [rv (some b), .int kd, rv l, rv r] H q := by
  refine C_X6_start ?_
  unfold wb_X6_start_0
  have F : Fr (BeS b) H (sI (sI (sI (sI (sR (sR (sI H 700 b 0 kd) 701 b 0 l) 702 b 0 r) 703 b 0 (0 : Int32)) 704 b 0 (0 : Int32)) 705 b 0 (0 : Int32)) 706 b 0 (1 : Int32)) := ((((((Fr_sI ⟨by omega, by omega⟩).tr (Fr_sR ⟨by omega, by omega⟩)).tr (Fr_sR ⟨by omega, by omega⟩)).tr (Fr_sI ⟨by omega, by omega⟩)).tr (Fr_sI ⟨by omega, by omega⟩)).tr (Fr_sI ⟨by omega, by omega⟩)).tr (Fr_sI ⟨by omega, by omega⟩)
  refine ⟨s.1, start_loop hq 5 0 _ rfl F (fr_shStep F s) ⟨?_, ?_, ?_, ?_, ?_, ?_, ?_⟩ (fun j hj => by omega)⟩
  · simp only [hIs, hI_sR, Nat.reduceEqDiff, false_and, if_false, and_self, if_true]
  · simp only [hR_sI, hR_sR, u3_get, Nat.reduceEqDiff, false_and, if_false, and_self, if_true]
  · simp only [hR_sI, hR_sR, u3_get, Nat.reduceEqDiff, false_and, if_false, and_self, if_true]
  · simp only [hIs, hI_sR, Nat.reduceEqDiff, false_and, if_false, and_self, if_true]
  · simp only [hIs, hI_sR, Nat.reduceEqDiff, false_and, if_false, and_self, if_true]
  · simp only [hIs, hI_sR, Nat.reduceEqDiff, false_and, if_false, and_self, if_true]
  · simp only [hIs, hI_sR, Nat.reduceEqDiff, false_and, if_false, and_self, if_true]
abbrev ApS (a n : Nat) : Nat → Nat → Prop := fun g x => (g = 501 ∧ x = a) ∨ BeS (stA a n) g x
theorem K_pappend {d n : Nat} {q : HP → Option Nat → Prop} {H : HP} {a : Nat} {kd : Int32} {l r : Option Nat} (s : shProof H a) (hn : hI H 501 a 0 = Int32.ofNat n) (hn60 : n ≤ 60) (h1 : n < 60 → ∀ H', Fr (ApS a n) H H' → shProof H' a → hI H' 501 a 0 = Int32.ofNat (n + 1) → Beg H' (stA a n) kd l r → (∀ j, j < 5 → hI H' 4544 (stA a n + 5) j = 0) → q H' (some (stA a n))) (h0 : n = 60 → q H none) : CR (d + 2) 0 0 mX4_append [rv (some a), .int kd, rv l, rv r] H q := by
  obtain ⟨s1, s2, s3, s4, s5, s6, s7, s8⟩ := id s
  refine C_X4_append ?_
  unfold wb_X4_append_0
  have e60 : (60 : Int32) = Int32.ofNat 60 := rfl
  rw [hn, e60, iN_lt (by omega) (by omega)]
  refine ⟨s1, fun hl => ?_, fun hl => h0 (by omega)⟩
  obtain ⟨r1, r2⟩ := s8 n hl
  have ist : isA H (a + 1) 7 := isA_of s3 (by decide) (by decide)
  refine ⟨a + 1, s2, ist, by rw [ln_of s3]; exact vpi_of hl (by decide), stA a n, ?_, r2.1, ?_⟩
  · rw [tg_of s3, iN_cl (by omega)]; exact r1
  · rw [tg_of s3, iN_cl (by omega), r1]
    refine K_start r2 fun H' F' s' b' z' => ?_
    have sp' : shProof H' a := fr_shProof F' (fun k => by have := k.1; have := k.2; omega) s
    have k501 : hI H' 501 a 0 = Int32.ofNat n := by rw [F'.2.2.2.2.1 _ _ (fun k => by have := k.1; have := k.2; omega)]; exact hn
    rw [k501, iN_inc (by omega)]
    have F2 : Fr (fun g x => g = 501 ∧ x = a) H' (sI H' 501 a 0 (Int32.ofNat (n + 1))) := Fr_sI ⟨rfl, rfl⟩
    refine ⟨sp'.1, h1 hl _ ((F'.mono fun g x k => Or.inr k).tr (F2.mono fun g x k => Or.inl k)) (fr_shProof F2 (fun k => by omega) sp') (by rw [hIs_i, if_pos rfl]) (fr_Beg F2 (fun g k => by omega) b') fun j hj => ?_⟩
    rw [F2.2.2.2.2.1 _ _ (fun k => by omega)]; exact z' j hj
/-- the rows with an operation's step more -/
theorem PRp_push {H H' : HP} {a l r kd : Nat} {st : PS} (h : PRp H a st) (hl : st.1 < 60) (hF : Fr (ApS a st.1) H H') (h5 : hI H' 501 a 0 = Int32.ofNat (st.1 + 1)) (hb : Beg H' (stA a st.1) (Int32.ofNat kd) (some (stA a l)) (some (stA a r))) (hz : ∀ j, j < 5 → hI H' 4544 (stA a st.1 + 5) j = 0) (hk : kd ≠ 0) : PRp H' a (pushS st (opR kd l r)) := by
  obtain ⟨h1, h2, h3⟩ := h
  obtain ⟨b1, b2, b3, b4, b5, b6, b7⟩ := hb
  refine ⟨h5, by show st.1 + 1 ≤ 60; omega, fun i hi => ?_⟩
  have hi : i < st.1 + 1 := hi
  show SRow H' a i (if i = st.1 then opR kd l r else st.2 i)
  by_cases e : i = st.1
  · subst e
    rw [if_pos rfl]
    exact ⟨b1, b4, b5, hz, fun k => absurd k hk, fun _ => ⟨b2, b3, b6⟩⟩
  · rw [if_neg e]
    refine fr_SRow hF (fun g x k1 k2 k3 => ?_) (h3 i (by omega))
    have d1 := stA_d a i
    have d2 := stA_d a st.1
    rcases k3 with k3 | k3
    · omega
    · have := k3.1; have := k3.2; omega
abbrev PaS (t a : Nat) : Nat → Nat → Prop := fun g x => (g = 802 ∧ x = t) ∨ (g = 501 ∧ x = a) ∨ (a + 4 ≤ x ∧ x < a + 424)
theorem ApS_Pa {t a n g x : Nat} (hn : n < 60) (h : ApS a n g x) : PaS t a g x := by
  rcases h with h | h
  · exact Or.inr (Or.inl h)
  · have := h.1; have := h.2; have d1 := stA_d a n; exact Or.inr (Or.inr ⟨by omega, by omega⟩)
/-- what a reading has come to -/
def PRs (H : HP) (a t : Nat) (T : TP) (res : PRes) (H' : HP) (r : Option Nat) : Prop := Fr (PaS t a) H H' ∧ shProof H' a ∧ ((∃ p1 st1, res = .inr (p1, st1) ∧ r = some (stA a (st1.1 - 1)) ∧ CT H' t T p1 ∧ PRp H' a st1) ∨ (∃ f, res = .inl f ∧ CT H' t T f ∧ (∃ k, k ≤ 60 ∧ hI H' 501 a 0 = Int32.ofNat k) ∧ (r = none ∨ ((isFig (lk T f) = true ∨ isLet (lk T f) = true) ∧ ∃ j, j < 60 ∧ r = some (stA a j)))))
theorem fr_CT2 {H H' : HP} {a t p n : Nat} {T : TP} (hat : t + 2 ≤ a) (h : Fr (ApS a n) H H') (s : CT H t T p) : CT H' t T p := fr_CT h (fun k => by have d1 := stA_d a n; rcases k with k | k; omega; have := k.1; omega) (fun k => by have d1 := stA_d a n; rcases k with k | k; omega; have := k.1; omega) (fun k => by have d1 := stA_d a n; rcases k with k | k; omega; have := k.1; omega) s
theorem stuck_ne {c : Int32} (h : isFig c = true ∨ isLet c = true) : c ≠ 40 ∧ c ≠ 41 ∧ c ≠ 42 ∧ c ≠ 43 ∧ c ≠ 45 ∧ c ≠ 47 ∧ c ≠ 61 ∧ c ≠ 0 := by
  refine ⟨?_, ?_, ?_, ?_, ?_, ?_, ?_, ?_⟩ <;> (rintro rfl; revert h; decide)
def SpreadPart (d : Nat) (a t : Nat) (T : TP) (x2 : Int32) (F : Nat → PS → PRes) : Prop := ∀ (H : HP) (p : Nat) (st : PS) (q : HP → Option Nat → Prop), shProof H a → CT H t T p → PRp H a st → okSt T st → st.1 ≤ p → (∀ H' r, PRs H a t T (F p st) H' r → q H' r) → CR d 0 0 mX4_readPart [rv (some a), rv (some t), .int x2] H q

theorem readTerm_stuck {d : Nat} {q : HP → Option Nat → Prop} {H0 H : HP} {a t f : Nat} {T : TP} {x2 : Int32} {o : Option Nat} {res : PRes} (hres : res = .inl f) (hF : Fr (PaS t a) H0 H) (s : shProof H a) (hc : CT H t T f) (hk : ∃ k, k ≤ 60 ∧ hI H 501 a 0 = Int32.ofNat k) (ho : o = none ∨ ((isFig (lk T f) = true ∨ isLet (lk T f) = true) ∧ ∃ j, j < 60 ∧ o = some (stA a j))) (hq : ∀ H' r, PRs H0 a t T res H' r → q H' r) : ∀ x4 : Int32, L_X4_readTerm_10 (d + 2) q a (some t) x2 o x4 H := by
  intro x4
  have fin : q H o := hq H o ⟨hF, s, Or.inr ⟨f, hres, hc, hk, ho⟩⟩
  refine T_X4_readTerm_10 ?_
  unfold wb_X4_readTerm_10
  refine ⟨fun _ => fin, fun _ => ⟨fun _ => fin, fun b hb => ?_⟩⟩
  rcases ho with ho | ⟨hst, -⟩
  · rw [ho] at hb; cases hb
  · have ne := stuck_ne hst
    refine ⟨t, rfl, hc.1.1, K_look (k := f) hc (by rw [i32_0]; omega) ⟨fun _ => ⟨hc.1.1, K_takes hc (fun k => absurd k ne.2.2.1) (fun _ => ⟨fun k => (by cases k), fun _ => ⟨hc.1.1, K_takes hc (fun k => absurd k ne.2.2.2.2.2.1) (fun _ => ⟨fun k => (by cases k), fun _ => fin⟩)⟩⟩)⟩, fun k => absurd k ne.2.2.1⟩⟩
/-- the contract of a reading, at a depth of calls, a depth of ( -/
def SpreadTerm (d : Nat) (a t : Nat) (T : TP) (x2 : Int32) (F : Nat → PS → PRes) : Prop := ∀ (H : HP) (p : Nat) (st : PS) (q : HP → Option Nat → Prop), shProof H a → CT H t T p → PRp H a st → okSt T st → st.1 ≤ p → (∀ H' r, PRs H a t T (F p st) H' r → q H' r) → CR d 0 0 mX4_readTerm [rv (some a), rv (some t), .int x2] H q
theorem readTerm_loop {d : Nat} {q : HP → Option Nat → Prop} {H0 : HP} {a t : Nat} {T : TP} {x2 : Int32} {P : Nat → PS → PRes} (hat : t + 2 ≤ a) (hP : PInv T P) (hS : SpreadPart (d + 2) a t T x2 P) {res : PRes} (hq : ∀ H' r, PRs H0 a t T res H' r → q H' r) : ∀ (n x4 p : Nat) (st : PS) (H : HP), n + x4 = 60 → Fr (PaS t a) H0 H → shProof H a → CT H t T p → PRp H a st → okSt T st → 0 < st.1 → st.1 ≤ p → res = pLoop P T 42 47 1 2 n p st → L_X4_readTerm_10 (d + 2) q a (some t) x2 (some (stA a (st.1 - 1))) (Int32.ofNat x4) H := by
  have e60 : (60 : Int32) = Int32.ofNat 60 := rfl
  intro n
  induction n with
  | zero =>
    intro x4 p st H hx hF s hc hp ok h0 hle hres
    refine T_X4_readTerm_10 ?_
    unfold wb_X4_readTerm_10
    rw [e60, iN_le (by omega) (by omega)]
    exact ⟨fun _ => hq H _ ⟨hF, s, Or.inl ⟨p, st, hres, rfl, hc, hp⟩⟩, fun h => by omega⟩
  | succ n ih =>
    intro x4 p st H hx hF s hc hp ok h0 hle hres
    have hT := hc.2.2.1
    have hpT := hc.2.2.2.2.1
    have hinc : Int32.ofNat x4 + 1 = Int32.ofNat (x4 + 1) := iN_inc (by omega)
    have hres2 : (lk T p = 42 ∨ lk T p = 47) → res = (match P (p + 1) st with
      | .inl f => .inl f
      | .inr (p1, st1) => pLoop P T 42 47 1 2 n p1 (pushS st1 (opR (if lk T p = 42 then 1 else 2) (st.1 - 1) (st1.1 - 1)))) := fun h => by
      rw [hres]
      show (if lk T p = 42 ∨ lk T p = 47 then _ else _) = _
      rw [if_pos h]
      rcases P (p + 1) st with f | ⟨p1, st1⟩ <;> rfl
    -- behind the sign
    have op : ∀ (kn : Nat), kn ≠ 0 → (lk T p = 42 ∨ lk T p = 47) → (if lk T p = 42 then 1 else 2) = kn → tg (atT H t (p + 1)) a = 5 ∧ (CR (d + 2) 0 0 mX4_readPart [rv (some a), rv (some t), .int x2] (atT H t (p + 1)) (fun H9 r11 => (r11 = none → L_X4_readTerm_10 (d + 2) q a (some t) x2 none (Int32.ofNat x4 + 1) H9) ∧ (∀ a12, r11 = some a12 → tg H9 a = 5 ∧ (CR (d + 2) 0 0 mX4_append [rv (some a), .int (Int32.ofNat kn), rv (some (stA a (st.1 - 1))), rv r11] H9 (fun H13 r15 => L_X4_readTerm_10 (d + 2) q a (some t) x2 r15 (Int32.ofNat x4 + 1) H13))))) := by
      intro kn hkn hop hkd
      have hlt : p < T.1 := hop.elim (fun h => lk_lt h (by decide)) (fun h => lk_lt h (by decide))
      have hr := hres2 hop
      rw [hkd] at hr
      have F1 : Fr (TaS t) H (atT H t (p + 1)) := Fr_at
      have s1 : shProof (atT H t (p + 1)) a := fr_shProof F1 (fun k => by omega) s
      have c1 : CT (atT H t (p + 1)) t T (p + 1) := hc.at hlt
      have hp1 : PRp (atT H t (p + 1)) a st := ⟨by rw [F1.2.2.2.2.1 _ _ (fun k => by omega)]; exact hp.1, hp.2.1, fun i hi => fr_SRow F1 (fun g x k1 k2 k3 => by have d1 := stA_d a i; omega) (hp.2.2 i hi)⟩
      have FF1 : Fr (PaS t a) H0 (atT H t (p + 1)) := hF.tr (F1.mono fun g x k => Or.inl k)
      obtain ⟨v1, v2⟩ := hP (p + 1) st hlt ok
      refine ⟨s1.1, hS _ (p + 1) st _ s1 c1 hp1 ok (by omega) fun H9 r11 hr9 => ?_⟩
      obtain ⟨F9, s9, hh⟩ := hr9
      have FF9 := FF1.tr F9
      rcases hh with ⟨p1, st1, e1, e2, c9, pr9⟩ | ⟨f, e1, c9, hk9, e2⟩
      · obtain ⟨w1, w2, w3, w4, w5, w6⟩ := v2 p1 st1 e1
        rw [e1] at hr
        simp only at hr
        refine ⟨fun k => (by rw [e2] at k; cases k), fun b hb => ⟨s9.1, ?_⟩⟩
        rw [e2]
        refine K_pappend s9 pr9.1 pr9.2.1 (fun hl H13 F13 s13 k13 b13 z13 => ?_) (fun h60 => by omega)
        rw [hinc]
        have okr : okRow T st1.1 (opR kn (st.1 - 1) (st1.1 - 1)) := by
          refine Or.inr ⟨?_, ?_, ?_, ?_⟩
          · show 1 ≤ kn; omega
          · show kn ≤ 5; rw [← hkd]; split <;> decide
          · show st.1 - 1 < st1.1; omega
          · show st1.1 - 1 < st1.1; omega
        have hpp := PRp_push pr9 hl F13 k13 b13 z13 hkn
        refine ih (x4 + 1) p1 (pushS st1 (opR kn (st.1 - 1) (st1.1 - 1))) H13 (by omega) (FF9.tr (F13.mono fun g x k => ApS_Pa hl k)) s13 (fr_CT2 hat F13 c9) hpp (okSt_push w6 okr) (by show 0 < st1.1 + 1; omega) (by show st1.1 + 1 ≤ p1; omega) hr
      · rw [e1] at hr
        rcases e2 with e2 | ⟨hst, j, hj, e2⟩
        · refine ⟨fun _ => readTerm_stuck hr FF9 s9 c9 hk9 (Or.inl rfl) hq _, fun b hb => (by rw [e2] at hb; cases hb)⟩
        · refine ⟨fun k => (by rw [e2] at k; cases k), fun b hb => ⟨s9.1, ?_⟩⟩
          obtain ⟨k9, hk9l, hk9⟩ := hk9
          refine K_pappend s9 hk9 hk9l (fun hl H13 F13 s13 k13 b13 z13 => ?_) (fun h60 => ?_)
          · exact readTerm_stuck hr (FF9.tr (F13.mono fun g x k => ApS_Pa hl k)) s13 (fr_CT2 hat F13 c9) ⟨k9 + 1, by omega, k13⟩ (Or.inr ⟨hst, k9, hl, rfl⟩) hq _
          · exact readTerm_stuck hr FF9 s9 c9 ⟨k9, hk9l, hk9⟩ (Or.inl rfl) hq _
    refine T_X4_readTerm_10 ?_
    unfold wb_X4_readTerm_10
    rw [e60, iN_le (by omega) (by omega)]
    refine ⟨fun h => by omega, fun _ => ⟨fun k => (by cases k), fun b hb => ⟨t, rfl, hc.1.1, K_look (k := p) hc (by rw [i32_0]; omega) ⟨fun hne => ⟨hc.1.1, K_takes hc (fun k => absurd k hne) (fun _ => ⟨fun k => (by cases k), fun _ => ⟨hc.1.1, K_takes hc (fun h2 => ⟨fun _ => op 2 (by decide) (Or.inr h2) (if_neg hne), fun k => (by cases k)⟩) (fun h2 => ⟨fun k => (by cases k), fun _ => hq H _ ⟨hF, s, Or.inl ⟨p, st, ?_, rfl, hc, hp⟩⟩⟩)⟩⟩)⟩, fun he => ⟨hc.1.1, K_takes hc (fun _ => ⟨fun _ => op 1 (by decide) (Or.inl he) (if_pos he), fun k => (by cases k)⟩) (fun h2 => absurd he h2)⟩⟩⟩⟩⟩
    rw [hres]
    show (if lk T p = 42 ∨ lk T p = 47 then _ else _) = _
    rw [if_neg (fun k => k.elim hne h2)]
theorem K_readTerm {d : Nat} {a t : Nat} {T : TP} {x2 : Int32} {P : Nat → PS → PRes} (hat : t + 2 ≤ a) (hP : PInv T P) (hS : SpreadPart (d + 2) a t T x2 P) : SpreadTerm (d + 3) a t T x2 (pSeq P T 42 47 1 2) := by
  intro H p st q s hc hp ok hle hq
  refine C_X4_readTerm ?_
  unfold wb_X4_readTerm_0
  have hpT := hc.2.2.2.2.1
  obtain ⟨v1, v2⟩ := hP p st hpT ok
  refine ⟨s.1, hS H p st _ s hc hp ok hle fun H1 r1 hr1 => ?_⟩
  obtain ⟨F1, s1, hh⟩ := hr1
  have e0 : (0 : Int32) = Int32.ofNat 0 := rfl
  rcases hh with ⟨p1, st1, e1, e2, c1, pr1⟩ | ⟨f, e1, c1, hk1, e2⟩
  · obtain ⟨w1, w2, w3, w4, w5, w6⟩ := v2 p1 st1 e1
    rw [e2, e0]
    refine readTerm_loop hat hP hS hq 60 0 p1 st1 H1 rfl F1 s1 c1 pr1 w6 (by omega) (by omega) ?_
    unfold pSeq; rw [e1]
  · refine readTerm_stuck ?_ F1 s1 c1 hk1 e2 hq _
    unfold pSeq; rw [e1]

theorem readSum_stuck {d : Nat} {q : HP → Option Nat → Prop} {H0 H : HP} {a t f : Nat} {T : TP} {x2 : Int32} {o : Option Nat} {res : PRes} (hres : res = .inl f) (hF : Fr (PaS t a) H0 H) (s : shProof H a) (hc : CT H t T f) (hk : ∃ k, k ≤ 60 ∧ hI H 501 a 0 = Int32.ofNat k) (ho : o = none ∨ ((isFig (lk T f) = true ∨ isLet (lk T f) = true) ∧ ∃ j, j < 60 ∧ o = some (stA a j))) (hq : ∀ H' r, PRs H0 a t T res H' r → q H' r) : ∀ x4 : Int32, L_X4_readSum_10 (d + 2) q a (some t) x2 o x4 H := by
  intro x4
  have fin : q H o := hq H o ⟨hF, s, Or.inr ⟨f, hres, hc, hk, ho⟩⟩
  refine T_X4_readSum_10 ?_
  unfold wb_X4_readSum_10
  refine ⟨fun _ => fin, fun _ => ⟨fun _ => fin, fun b hb => ?_⟩⟩
  rcases ho with ho | ⟨hst, -⟩
  · rw [ho] at hb; cases hb
  · have ne := stuck_ne hst
    refine ⟨t, rfl, hc.1.1, K_look (k := f) hc (by rw [i32_0]; omega) ⟨fun _ => ⟨hc.1.1, K_takes hc (fun k => absurd k ne.2.2.2.1) (fun _ => ⟨fun k => (by cases k), fun _ => ⟨hc.1.1, K_takes hc (fun k => absurd k ne.2.2.2.2.1) (fun _ => ⟨fun k => (by cases k), fun _ => fin⟩)⟩⟩)⟩, fun k => absurd k ne.2.2.2.1⟩⟩
/-- the contract of a reading, at a depth of calls, a depth of ( -/
def SpreadSum (d : Nat) (a t : Nat) (T : TP) (x2 : Int32) (F : Nat → PS → PRes) : Prop := ∀ (H : HP) (p : Nat) (st : PS) (q : HP → Option Nat → Prop), shProof H a → CT H t T p → PRp H a st → okSt T st → st.1 ≤ p → (∀ H' r, PRs H a t T (F p st) H' r → q H' r) → CR d 0 0 mX4_readSum [rv (some a), rv (some t), .int x2] H q
theorem readSum_loop {d : Nat} {q : HP → Option Nat → Prop} {H0 : HP} {a t : Nat} {T : TP} {x2 : Int32} {P : Nat → PS → PRes} (hat : t + 2 ≤ a) (hP : PInv T P) (hS : SpreadTerm (d + 2) a t T x2 P) {res : PRes} (hq : ∀ H' r, PRs H0 a t T res H' r → q H' r) : ∀ (n x4 p : Nat) (st : PS) (H : HP), n + x4 = 60 → Fr (PaS t a) H0 H → shProof H a → CT H t T p → PRp H a st → okSt T st → 0 < st.1 → st.1 ≤ p → res = pLoop P T 43 45 3 4 n p st → L_X4_readSum_10 (d + 2) q a (some t) x2 (some (stA a (st.1 - 1))) (Int32.ofNat x4) H := by
  have e60 : (60 : Int32) = Int32.ofNat 60 := rfl
  intro n
  induction n with
  | zero =>
    intro x4 p st H hx hF s hc hp ok h0 hle hres
    refine T_X4_readSum_10 ?_
    unfold wb_X4_readSum_10
    rw [e60, iN_le (by omega) (by omega)]
    exact ⟨fun _ => hq H _ ⟨hF, s, Or.inl ⟨p, st, hres, rfl, hc, hp⟩⟩, fun h => by omega⟩
  | succ n ih =>
    intro x4 p st H hx hF s hc hp ok h0 hle hres
    have hT := hc.2.2.1
    have hpT := hc.2.2.2.2.1
    have hinc : Int32.ofNat x4 + 1 = Int32.ofNat (x4 + 1) := iN_inc (by omega)
    have hres2 : (lk T p = 43 ∨ lk T p = 45) → res = (match P (p + 1) st with
      | .inl f => .inl f
      | .inr (p1, st1) => pLoop P T 43 45 3 4 n p1 (pushS st1 (opR (if lk T p = 43 then 3 else 4) (st.1 - 1) (st1.1 - 1)))) := fun h => by
      rw [hres]
      show (if lk T p = 43 ∨ lk T p = 45 then _ else _) = _
      rw [if_pos h]
      rcases P (p + 1) st with f | ⟨p1, st1⟩ <;> rfl
    -- behind the sign
    have op : ∀ (kn : Nat), kn ≠ 0 → (lk T p = 43 ∨ lk T p = 45) → (if lk T p = 43 then 3 else 4) = kn → tg (atT H t (p + 1)) a = 5 ∧ (CR (d + 2) 0 0 mX4_readTerm [rv (some a), rv (some t), .int x2] (atT H t (p + 1)) (fun H9 r11 => (r11 = none → L_X4_readSum_10 (d + 2) q a (some t) x2 none (Int32.ofNat x4 + 1) H9) ∧ (∀ a12, r11 = some a12 → tg H9 a = 5 ∧ (CR (d + 2) 0 0 mX4_append [rv (some a), .int (Int32.ofNat kn), rv (some (stA a (st.1 - 1))), rv r11] H9 (fun H13 r15 => L_X4_readSum_10 (d + 2) q a (some t) x2 r15 (Int32.ofNat x4 + 1) H13))))) := by
      intro kn hkn hop hkd
      have hlt : p < T.1 := hop.elim (fun h => lk_lt h (by decide)) (fun h => lk_lt h (by decide))
      have hr := hres2 hop
      rw [hkd] at hr
      have F1 : Fr (TaS t) H (atT H t (p + 1)) := Fr_at
      have s1 : shProof (atT H t (p + 1)) a := fr_shProof F1 (fun k => by omega) s
      have c1 : CT (atT H t (p + 1)) t T (p + 1) := hc.at hlt
      have hp1 : PRp (atT H t (p + 1)) a st := ⟨by rw [F1.2.2.2.2.1 _ _ (fun k => by omega)]; exact hp.1, hp.2.1, fun i hi => fr_SRow F1 (fun g x k1 k2 k3 => by have d1 := stA_d a i; omega) (hp.2.2 i hi)⟩
      have FF1 : Fr (PaS t a) H0 (atT H t (p + 1)) := hF.tr (F1.mono fun g x k => Or.inl k)
      obtain ⟨v1, v2⟩ := hP (p + 1) st hlt ok
      refine ⟨s1.1, hS _ (p + 1) st _ s1 c1 hp1 ok (by omega) fun H9 r11 hr9 => ?_⟩
      obtain ⟨F9, s9, hh⟩ := hr9
      have FF9 := FF1.tr F9
      rcases hh with ⟨p1, st1, e1, e2, c9, pr9⟩ | ⟨f, e1, c9, hk9, e2⟩
      · obtain ⟨w1, w2, w3, w4, w5, w6⟩ := v2 p1 st1 e1
        rw [e1] at hr
        simp only at hr
        refine ⟨fun k => (by rw [e2] at k; cases k), fun b hb => ⟨s9.1, ?_⟩⟩
        rw [e2]
        refine K_pappend s9 pr9.1 pr9.2.1 (fun hl H13 F13 s13 k13 b13 z13 => ?_) (fun h60 => by omega)
        rw [hinc]
        have okr : okRow T st1.1 (opR kn (st.1 - 1) (st1.1 - 1)) := by
          refine Or.inr ⟨?_, ?_, ?_, ?_⟩
          · show 1 ≤ kn; omega
          · show kn ≤ 5; rw [← hkd]; split <;> decide
          · show st.1 - 1 < st1.1; omega
          · show st1.1 - 1 < st1.1; omega
        have hpp := PRp_push pr9 hl F13 k13 b13 z13 hkn
        refine ih (x4 + 1) p1 (pushS st1 (opR kn (st.1 - 1) (st1.1 - 1))) H13 (by omega) (FF9.tr (F13.mono fun g x k => ApS_Pa hl k)) s13 (fr_CT2 hat F13 c9) hpp (okSt_push w6 okr) (by show 0 < st1.1 + 1; omega) (by show st1.1 + 1 ≤ p1; omega) hr
      · rw [e1] at hr
        rcases e2 with e2 | ⟨hst, j, hj, e2⟩
        · refine ⟨fun _ => readSum_stuck hr FF9 s9 c9 hk9 (Or.inl rfl) hq _, fun b hb => (by rw [e2] at hb; cases hb)⟩
        · refine ⟨fun k => (by rw [e2] at k; cases k), fun b hb => ⟨s9.1, ?_⟩⟩
          obtain ⟨k9, hk9l, hk9⟩ := hk9
          refine K_pappend s9 hk9 hk9l (fun hl H13 F13 s13 k13 b13 z13 => ?_) (fun h60 => ?_)
          · exact readSum_stuck hr (FF9.tr (F13.mono fun g x k => ApS_Pa hl k)) s13 (fr_CT2 hat F13 c9) ⟨k9 + 1, by omega, k13⟩ (Or.inr ⟨hst, k9, hl, rfl⟩) hq _
          · exact readSum_stuck hr FF9 s9 c9 ⟨k9, hk9l, hk9⟩ (Or.inl rfl) hq _
    refine T_X4_readSum_10 ?_
    unfold wb_X4_readSum_10
    rw [e60, iN_le (by omega) (by omega)]
    refine ⟨fun h => by omega, fun _ => ⟨fun k => (by cases k), fun b hb => ⟨t, rfl, hc.1.1, K_look (k := p) hc (by rw [i32_0]; omega) ⟨fun hne => ⟨hc.1.1, K_takes hc (fun k => absurd k hne) (fun _ => ⟨fun k => (by cases k), fun _ => ⟨hc.1.1, K_takes hc (fun h2 => ⟨fun _ => op 4 (by decide) (Or.inr h2) (if_neg hne), fun k => (by cases k)⟩) (fun h2 => ⟨fun k => (by cases k), fun _ => hq H _ ⟨hF, s, Or.inl ⟨p, st, ?_, rfl, hc, hp⟩⟩⟩)⟩⟩)⟩, fun he => ⟨hc.1.1, K_takes hc (fun _ => ⟨fun _ => op 3 (by decide) (Or.inl he) (if_pos he), fun k => (by cases k)⟩) (fun h2 => absurd he h2)⟩⟩⟩⟩⟩
    rw [hres]
    show (if lk T p = 43 ∨ lk T p = 45 then _ else _) = _
    rw [if_neg (fun k => k.elim hne h2)]
theorem K_readSum {d : Nat} {a t : Nat} {T : TP} {x2 : Int32} {P : Nat → PS → PRes} (hat : t + 2 ≤ a) (hP : PInv T P) (hS : SpreadTerm (d + 2) a t T x2 P) : SpreadSum (d + 3) a t T x2 (pSeq P T 43 45 3 4) := by
  intro H p st q s hc hp ok hle hq
  refine C_X4_readSum ?_
  unfold wb_X4_readSum_0
  have hpT := hc.2.2.2.2.1
  obtain ⟨v1, v2⟩ := hP p st hpT ok
  refine ⟨s.1, hS H p st _ s hc hp ok hle fun H1 r1 hr1 => ?_⟩
  obtain ⟨F1, s1, hh⟩ := hr1
  have e0 : (0 : Int32) = Int32.ofNat 0 := rfl
  rcases hh with ⟨p1, st1, e1, e2, c1, pr1⟩ | ⟨f, e1, c1, hk1, e2⟩
  · obtain ⟨w1, w2, w3, w4, w5, w6⟩ := v2 p1 st1 e1
    rw [e2, e0]
    refine readSum_loop hat hP hS hq 60 0 p1 st1 H1 rfl F1 s1 c1 pr1 w6 (by omega) (by omega) ?_
    unfold pSeq; rw [e1]
  · refine readSum_stuck ?_ F1 s1 c1 hk1 e2 hq _
    unfold pSeq; rw [e1]
