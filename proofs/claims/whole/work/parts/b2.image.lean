
/-! ===== image and undo ===== -/
abbrev OneS (t b : Nat) : Nat → Nat → Prop := fun g x => g = t ∧ x = b
theorem copies_loop {d a b ta tb n : Nat} {q : HP → Prop} {H0 : HP} (hn : n < 1000) (ha : hT H0 a = (ta, n)) (hb : hT H0 b = (tb, n)) (h1 : 4096 ≤ ta) (h2 : 4096 ≤ tb) (h3 : ta % 16 = 0) (h4 : tb % 16 = 0) (hab : ta ≠ tb) (hq : ∀ H', Fr (OneS tb b) H0 H' → (∀ j, j < n → hI H' tb b j = hI H0 ta a j) → q H') : ∀ (k i : Nat) (H : HP), k + i = n → Fr (OneS tb b) H0 H → (∀ j, j < i → hI H tb b j = hI H0 ta a j) → L_X12_copies_2 d q (some a) (some b) (Int32.ofNat i) H := by
  intro k
  induction k with
  | zero =>
    intro i H e F hj
    refine T_X12_copies_2 ?_
    unfold wb_X12_copies_2
    have hb' : hT H b = (tb, n) := by rw [F.1]; exact hb
    exact ⟨b, rfl, by rw [tg_of hb']; exact h2, by rw [ln_of hb', iN_le (by omega) (by omega)]; exact ⟨fun _ => hq H F (fun j k => hj j (by omega)), fun k => by omega⟩⟩
  | succ k ih =>
    intro i H e F hj
    refine T_X12_copies_2 ?_
    unfold wb_X12_copies_2
    have hb' : hT H b = (tb, n) := by rw [F.1]; exact hb
    have ha' : hT H a = (ta, n) := by rw [F.1]; exact ha
    refine ⟨b, rfl, by rw [tg_of hb']; exact h2, ?_⟩
    rw [ln_of hb', iN_le (by omega) (by omega)]
    refine ⟨fun k => by omega, fun _ => ⟨a, rfl, isA_of ha' h1 h3, by rw [ln_of ha']; exact vpi_of (by omega) (by omega), isA_of hb' h2 h4, vpi_of (by omega) (by omega), ?_⟩⟩
    rw [tg_of hb', tg_of ha', iN_cl (by omega), iN_inc (by omega)]
    refine ih (i + 1) _ (by omega) (F.tr (Fr_sI ⟨rfl, rfl⟩)) (fun j hj' => ?_)
    rw [hIs_i]
    by_cases e : j = i
    · rw [if_pos e, e]; exact F.2.2.2.2.1 _ _ (fun k => hab k.1) ▸ rfl
    · rw [if_neg e]; exact hj j (by omega)
theorem K_copies {d a b ta tb n : Nat} {q : HP → Prop} {H : HP} (hn : n < 1000) (ha : hT H a = (ta, n)) (hb : hT H b = (tb, n)) (h1 : 4096 ≤ ta) (h2 : 4096 ≤ tb) (h3 : ta % 16 = 0) (h4 : tb % 16 = 0) (hab : ta ≠ tb) (hq : ∀ H', Fr (OneS tb b) H H' → (∀ j, j < n → hI H' tb b j = hI H ta a j) → q H') : CV (d + 1) 0 0 mX12_copies [rv (some a), rv (some b)] H q := by
  refine C_X12_copies ?_
  unfold wb_X12_copies_0
  exact copies_loop hn ha hb h1 h2 h3 h4 hab hq n 0 H (by omega) Fr.rf (fun j k => by omega)
theorem copiesLong_loop {d a b ta tb n : Nat} {q : HP → Prop} {H0 : HP} (hn : n < 1000) (ha : hT H0 a = (ta, n)) (hb : hT H0 b = (tb, n)) (h1 : 4096 ≤ ta) (h2 : 4096 ≤ tb) (h3 : ta % 16 = 3) (h4 : tb % 16 = 3) (hab : ta ≠ tb) (hq : ∀ H', Fr (OneS tb b) H0 H' → (∀ j, j < n → hL H' tb b j = hL H0 ta a j) → q H') : ∀ (k i : Nat) (H : HP), k + i = n → Fr (OneS tb b) H0 H → (∀ j, j < i → hL H tb b j = hL H0 ta a j) → L_X12_copiesLong_2 d q (some a) (some b) (Int32.ofNat i) H := by
  intro k
  induction k with
  | zero =>
    intro i H e F hj
    refine T_X12_copiesLong_2 ?_
    unfold wb_X12_copiesLong_2
    have hb' : hT H b = (tb, n) := by rw [F.1]; exact hb
    exact ⟨b, rfl, by rw [tg_of hb']; exact h2, by rw [ln_of hb', iN_le (by omega) (by omega)]; exact ⟨fun _ => hq H F (fun j k => hj j (by omega)), fun k => by omega⟩⟩
  | succ k ih =>
    intro i H e F hj
    refine T_X12_copiesLong_2 ?_
    unfold wb_X12_copiesLong_2
    have hb' : hT H b = (tb, n) := by rw [F.1]; exact hb
    have ha' : hT H a = (ta, n) := by rw [F.1]; exact ha
    refine ⟨b, rfl, by rw [tg_of hb']; exact h2, ?_⟩
    rw [ln_of hb', iN_le (by omega) (by omega)]
    refine ⟨fun k => by omega, fun _ => ⟨a, rfl, isA_of ha' h1 h3, by rw [ln_of ha']; exact vpi_of (by omega) (by omega), isA_of hb' h2 h4, vpi_of (by omega) (by omega), ?_⟩⟩
    rw [tg_of hb', tg_of ha', iN_cl (by omega), iN_inc (by omega)]
    refine ih (i + 1) _ (by omega) (F.tr (Fr_sL ⟨rfl, rfl⟩)) (fun j hj' => ?_)
    rw [hLs]
    by_cases e : j = i
    · rw [if_pos ⟨rfl, rfl, e⟩, e]; exact F.2.2.2.2.2.1 _ _ (fun k => hab k.1) ▸ rfl
    · rw [if_neg (fun k => e k.2.2)]; exact hj j (by omega)
theorem K_copiesLong {d a b ta tb n : Nat} {q : HP → Prop} {H : HP} (hn : n < 1000) (ha : hT H a = (ta, n)) (hb : hT H b = (tb, n)) (h1 : 4096 ≤ ta) (h2 : 4096 ≤ tb) (h3 : ta % 16 = 3) (h4 : tb % 16 = 3) (hab : ta ≠ tb) (hq : ∀ H', Fr (OneS tb b) H H' → (∀ j, j < n → hL H' tb b j = hL H ta a j) → q H') : CV (d + 1) 0 0 mX12_copiesLong [rv (some a), rv (some b)] H q := by
  refine C_X12_copiesLong ?_
  unfold wb_X12_copiesLong_0
  exact copiesLong_loop hn ha hb h1 h2 h3 h4 hab hq n 0 H (by omega) Fr.rf (fun j k => by omega)
