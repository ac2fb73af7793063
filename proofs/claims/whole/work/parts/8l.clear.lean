
/-! ===== the class's tape cleared ===== -/
theorem K_tclear {d : Nat} {q : HP → Prop} {H : HP} {t p : Nat} {T : TP} (hc : CT H t T p) (hq : ∀ H', Fr (fun g x => (g = 801 ∨ g = 802) ∧ x = t) H H' → CT H' t (0, T.2) 0 → q H') : CV (d + 1) 0 0 mX7_clear [rv (some t)] H q := by
  obtain ⟨s1, s2, s3, s4, s5, s6⟩ := hc
  refine C_X7_clear ?_
  unfold wb_X7_clear_0
  refine ⟨s1.1, hq _ ((Fr_sI ⟨by omega, rfl⟩).tr (Fr_sI ⟨by omega, rfl⟩)) ⟨s1, ?_, Nat.zero_le _, ?_, Nat.le_refl _, fun i hi => (by cases hi)⟩⟩
  · simp only [hIs, Nat.reduceEqDiff, false_and, if_false, and_self, if_true]; rfl
  · simp only [hIs, Nat.reduceEqDiff, false_and, if_false, and_self, if_true]; rfl
