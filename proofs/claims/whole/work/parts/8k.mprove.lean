
/-! ===== the reference: prove ===== -/
abbrev PrS (m : Nat) : Nat → Nat → Prop := fun g a => FmS m false g a ∨ ((g = 1338 ∨ g = 1323) ∧ a = m)
abbrev PrT (m : Nat) : Nat → Nat → Prop := fun g a => FmS m true g a ∨ ((g = 1338 ∨ g = 1339 ∨ g = 1323) ∧ a = m)
theorem K_mprove {d m nu : Nat} {q : HP → Int32 → Prop} {H : HP} {T : TP} {U : Nat → UV} (hok : ∀ i, okU (U i)) (hT : MT0 H m T) (hm : MU H m nu U)
    (h0 : ∀ ff, pF T = .inl ff → ff ≤ T.1 → ∀ H', Fr (PrS m) H H' → hI H' 1323 m 0 = 0 → q H' ((-100 : Int32) - Int32.ofNat ff))
    (h1 : ∀ st eq l r, pF T = .inr (st, eq, l, r) → ∀ H', Fr (PrT m) H H' → hI H' 1323 m 0 = 0 → hI H' 1339 m 0 = 1 → JH H' m st (jA (wF T nu U) U st st.1) → hI H' 1340 m 0 = bI eq → (eq = false → (jA (wF T nu U) U st st.1).1 = 0 → hI H' 1343 m 0 = Int32.ofNat (st.1 - 1)) → (eq = true → (jA (wF T nu U) U st st.1).1 = 0 → hI H' 1343 m 0 = Int32.ofNat l ∧ hI H' 1344 m 0 = Int32.ofNat r) → q H' (Int32.ofNat (jA (wF T nu U) U st st.1).2.1)) : CI (d + 23) 0 0 mX12_prove [rv (some m)] H q := by
  have hT60 := hT.2.2.1
  refine C_X12_prove ?_
  unfold wb_X12_prove_0
  have FA : Fr (fun g x => g = 1338 ∧ x = m) H (sI H 1338 m 0 (0 : Int32)) := Fr_sI ⟨rfl, rfl⟩
  have kA : hI (sI H 1338 m 0 (0 : Int32)) 1338 m 0 = bI false := by rw [hIs_i, if_pos rfl]; rfl
  have tA := fr_MT0 FA (fun k => by omega) (fun k => by omega) hT
  have mA := fr_MU FA (fun k => by omega) (fun g a k1 k2 k3 => by omega) hm
  generalize sI H 1338 m 0 (0 : Int32) = A at FA kA tA mA ⊢
  refine ⟨hT.1.1, K_formula (d := d) (does := false) hok tA mA kA (fun k => (by cases k)) (fun ff hpF H2 F2 t2 => ?_) (fun st eq l r hpF H2 p1 F2 t2 _ => ?_)⟩
  · have hff := t2.2.2.2.2.1
    have nn : (0 : Int32) ≤ Int32.ofNat ff := by rw [i32_le, i32_0, iN_toInt (by omega)]; omega
    rw [t2.2.2.2.2.2.1]
    refine ⟨t2.1.1, fun _ => h0 ff hpF hff _ (((FA.mono fun g x k => Or.inr ⟨Or.inl k.1, k.2⟩).tr (F2.mono fun g x k => Or.inl k)).tr (Fr_sI (Or.inr ⟨Or.inr rfl, rfl⟩))) (by rw [hIs_i, if_pos rfl]), fun k => absurd nn k⟩
  · rw [t2.2.2.2.2.2.1]
    refine ⟨t2.1.1, fun k => absurd k (by decide), fun _ => ?_⟩
    have FB : Fr (fun g x => (g = 1338 ∨ g = 1339 ∨ g = 1341 ∨ g = 1342) ∧ x = m) H2 (sI (sI (sI (sI H2 1338 m 0 (1 : Int32)) 1339 m 0 (1 : Int32)) 1341 m 0 (0 : Int32)) 1342 m 0 (0 : Int32)) := (((Fr_sI ⟨Or.inl rfl, rfl⟩).tr (Fr_sI ⟨Or.inr (Or.inl rfl), rfl⟩)).tr (Fr_sI ⟨Or.inr (Or.inr (Or.inl rfl)), rfl⟩)).tr (Fr_sI ⟨Or.inr (Or.inr (Or.inr rfl)), rfl⟩)
    have b8 : hI (sI (sI (sI (sI H2 1338 m 0 (1 : Int32)) 1339 m 0 (1 : Int32)) 1341 m 0 (0 : Int32)) 1342 m 0 (0 : Int32)) 1338 m 0 = bI true := by rw [hIs_g _ _ _ _ _ _ (by decide), hIs_g _ _ _ _ _ _ (by decide), hIs_g _ _ _ _ _ _ (by decide), hIs_i, if_pos rfl]; rfl
    have b9 : hI (sI (sI (sI (sI H2 1338 m 0 (1 : Int32)) 1339 m 0 (1 : Int32)) 1341 m 0 (0 : Int32)) 1342 m 0 (0 : Int32)) 1339 m 0 = 1 := by rw [hIs_g _ _ _ _ _ _ (by decide), hIs_g _ _ _ _ _ _ (by decide), hIs_i, if_pos rfl]
    have b1 : hI (sI (sI (sI (sI H2 1338 m 0 (1 : Int32)) 1339 m 0 (1 : Int32)) 1341 m 0 (0 : Int32)) 1342 m 0 (0 : Int32)) 1341 m 0 = 0 := by rw [hIs_g _ _ _ _ _ _ (by decide), hIs_i, if_pos rfl]
    have b2 : hI (sI (sI (sI (sI H2 1338 m 0 (1 : Int32)) 1339 m 0 (1 : Int32)) 1341 m 0 (0 : Int32)) 1342 m 0 (0 : Int32)) 1342 m 0 = 0 := by rw [hIs_i, if_pos rfl]
    have t0 := fr_MT0 FB (fun k => by omega) (fun k => by omega) (MT0_of t2)
    have F2s : Fr (PrT m) H H2 := (FA.mono fun g x k => Or.inr ⟨Or.inl k.1, k.2⟩).tr (F2.mono fun g x k => Or.inl (by rcases k with k | k; rcases k with k | k | k; exact Or.inl (Or.inl k); exact Or.inl (Or.inr (Or.inl k)); cases k.1; cases k.1))
    have m2 : MU H2 m nu U := fr_MU F2 (fun k => by rcases k with k | k; rcases k with k | k | k; omega; omega; cases k.1; cases k.1) (fun g a k1 k2 k => by rcases k with k | k; rcases k with k | k | k; omega; omega; cases k.1; cases k.1) mA
    have m0 := fr_MU FB (fun k => by omega) (fun g a k1 k2 k3 => by omega) m2
    generalize sI (sI (sI (sI H2 1338 m 0 (1 : Int32)) 1339 m 0 (1 : Int32)) 1341 m 0 (0 : Int32)) 1342 m 0 (0 : Int32) = B at FB b8 b9 b1 b2 t0 m0 ⊢
    have FBs : Fr (PrT m) H2 B := FB.mono fun g x k => by
      rcases k with ⟨k | k | k | k, k2⟩
      · exact Or.inr ⟨Or.inl k, k2⟩
      · exact Or.inr ⟨Or.inr (Or.inl k), k2⟩
      · exact Or.inl (Or.inl (Or.inr (Or.inr ⟨rfl, Or.inr (Or.inl (Or.inr (Or.inr (Or.inr (Or.inr ⟨k, k2⟩)))))⟩)))
      · exact Or.inl (Or.inl (Or.inr (Or.inr ⟨rfl, Or.inr (Or.inr ⟨k, k2⟩)⟩)))
    refine K_formula (d := d) (does := true) hok t0 m0 b8 (fun _ => ⟨b1, b2⟩) (fun ff hpF2 => (by rw [hpF] at hpF2; cases hpF2)) (fun st' eq' l' r' hpF2 H4 p4 F4 t4 hj => ?_)
    rw [hpF] at hpF2
    cases hpF2
    obtain ⟨j1, j2, j3, j4⟩ := hj rfl
    have F5 : Fr (fun g x => g = 1323 ∧ x = m) H4 (sI H4 1323 m 0 (0 : Int32)) := Fr_sI ⟨rfl, rfl⟩
    rw [j1.1]
    refine ⟨t4.1.1, h1 _ _ _ _ hpF _ (F2s.tr (FBs.tr ((F4.mono fun g x k => Or.inl k).tr (F5.mono fun g x k => Or.inr ⟨Or.inr (Or.inr k.1), k.2⟩)))) (by rw [hIs_i, if_pos rfl]) ?_ (fr_JH F5 (fun g k1 k2 => by omega) (fun k => by omega) (fun k => by omega) (fun k => by omega) (fun k => by omega) (fun i _ => rfl) j1) ?_ (fun k hz => ?_) (fun k hz => ?_)⟩
    · rw [F5.2.2.2.2.1 _ _ (fun k => by omega), F4.2.2.2.2.1 _ _ (fun k => by omega)]; exact b9
    · rw [F5.2.2.2.2.1 _ _ (fun k => by omega)]; exact j2
    · rw [F5.2.2.2.2.1 _ _ (fun k => by omega)]; exact j3 k hz
    · rw [F5.2.2.2.2.1 _ _ (fun k => by omega), F5.2.2.2.2.1 _ _ (fun k => by omega)]; exact j4 k hz
