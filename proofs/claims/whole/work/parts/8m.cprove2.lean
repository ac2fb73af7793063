
/-! ===== the class: prove ===== -/
theorem pF_ok {T : TP} {st : PS} {eq : Bool} {l r : Nat} (h : pF T = .inr (st, eq, l, r)) : okSt T st ∧ 1 ≤ st.1 ∧ (eq = true → st.2 (st.1 - 1) = opR 5 l r ∧ l < st.1 - 1 ∧ r < st.1 - 1) := by
  have okB : okSt T (0, fun _ => opR 0 0 0) := fun i hi => by cases hi
  obtain ⟨v1, v2⟩ := PInv_S (T := T) 4 0 (0, fun _ => opR 0 0 0) (Nat.zero_le _) okB
  unfold pF at h
  cases e1 : pS T 4 0 (0, fun _ => opR 0 0 0) with
  | inl f => rw [e1] at h; cases h
  | inr ps =>
    obtain ⟨p1, st1⟩ := ps
    rw [e1] at h
    simp only at h
    obtain ⟨w1, w2, w3, w4, w5, w6⟩ := v2 p1 st1 e1
    have w3 : 0 < st1.1 := w3
    by_cases h61 : lk T p1 = 61
    · rw [if_pos h61] at h
      have hlt := lk_lt h61 (by decide)
      obtain ⟨x1, x2⟩ := PInv_S (T := T) 4 (p1 + 1) st1 hlt w6
      cases e2 : pS T 4 (p1 + 1) st1 with
      | inl f => rw [e2] at h; cases h
      | inr ps2 =>
        obtain ⟨p2, st2⟩ := ps2
        rw [e2] at h
        simp only at h
        obtain ⟨y1, y2, y3, y4, y5, y6⟩ := x2 p2 st2 e2
        by_cases h3 : p2 < T.1
        · rw [if_pos h3] at h; cases h
        · rw [if_neg h3] at h
          cases h
          refine ⟨okSt_push y6 (Or.inr ⟨by show 1 ≤ 5; decide, by show 5 ≤ 5; decide, by show st1.1 - 1 < st2.1; omega, by show st2.1 - 1 < st2.1; omega⟩), by show 1 ≤ st2.1 + 1; omega, fun _ => ⟨?_, by show st1.1 - 1 < st2.1 + 1 - 1; omega, by show st2.1 - 1 < st2.1 + 1 - 1; omega⟩⟩
          show (if st2.1 + 1 - 1 = st2.1 then _ else _) = _
          rw [if_pos (by omega)]
    · rw [if_neg h61] at h
      by_cases h3 : p1 < T.1
      · rw [if_pos h3] at h; cases h
      · rw [if_neg h3] at h
        cases h
        exact ⟨w6, w3, fun k => (by cases k)⟩
theorem fr_PVd {S : Nat → Nat → Prop} {H H' : HP} {a : Nat} {st : PS} {J : JS} (h : Fr S H H') (h1 : ∀ g x, a ≤ x → x < a + 424 → ¬ S g x) (hJ : J.2.1 ≤ st.1) (s : PVd H a st J) : PVd H' a st J := by
  have hi := h.2.2.2.2.1
  obtain ⟨s1, s2, s3, s4, s5, s6⟩ := s
  refine ⟨?_, s2, ?_, ?_, fun i k => ?_, fun i k => ?_⟩
  · rw [hi _ _ (h1 _ _ (by omega) (by omega))]; exact s1
  · rw [hi _ _ (h1 _ _ (by omega) (by omega))]; exact s3
  · rw [hi _ _ (h1 _ _ (by omega) (by omega))]; exact s4
  · have := stA_d a i
    exact fr_KRow h (fun g x _ k1 k2 => h1 _ _ (by omega) (by omega)) (s5 i k)
  · have := stA_d a i
    exact ⟨fr_JV5 h (h1 _ _ (by omega) (by omega)) (h1 _ _ (by omega) (by omega)) (h1 _ _ (by omega) (by omega)) (s6 i k).1, (s6 i k).2⟩
abbrev CpS (dr : Nat) : Nat → Nat → Prop := fun g x => (dr ≤ x ∧ x < dr + 424) ∨ ((g = 801 ∨ g = 802) ∧ x = 1) ∨ ((g = 1207 ∨ g = 1208 ∨ g = 1209) ∧ x = 0)
theorem K_cprove {d nu dr la p : Nat} {q : HP → Int32 → Prop} {H : HP} {T : TP} {U : Nat → UV} (s : shP H) (hdr : hR H 1208 0 0 = some dr) (hla : hR H 1207 0 0 = some la) (hd1 : 105 ≤ dr) (sp : shProof H dr) (hc : CT H 1 T p) (hu : CU H 3 nu U) (hok : ∀ i, okU (U i))
    (h0 : ∀ ff, pF T = .inl ff → ∀ H', Fr (fun g x => (dr ≤ x ∧ x < dr + 424) ∨ ((g = 801 ∨ g = 802) ∧ x = 1)) H H' → CT H' 1 (0, T.2) 0 → shProof H' dr → q H' ((-100 : Int32) - Int32.ofNat ff))
    (h1 : ∀ st eq l r, pF T = .inr (st, eq, l, r) → ∀ H', Fr (CpS dr) H H' → CT H' 1 (0, T.2) 0 → shProof H' dr → hR H' 1207 0 0 = some dr → hR H' 1208 0 0 = some la → hI H' 1209 0 0 = 1 → PVd H' dr st (jA (wF T nu U) U st st.1) → hI H' 504 dr 0 = bI eq → q H' (Int32.ofNat (jA (wF T nu U) U st st.1).2.1)) : CI (d + 22) 0 0 mX11_prove [rv (some 0)] H q := by
  obtain ⟨s1, s2, s3, -⟩ := id s
  refine C_X11_prove ?_
  unfold wb_X11_prove_0
  rw [hdr, s2]
  have PaC : ∀ g x, (PaS 1 dr g x ∨ (g = 504 ∧ x = dr)) → ((dr ≤ x ∧ x < dr + 424) ∨ ((g = 801 ∨ g = 802) ∧ x = 1)) := fun g x k => by
    rcases k with k | k
    · rcases k with k | k | k
      · exact Or.inr ⟨Or.inr k.1, k.2⟩
      · exact Or.inl (by omega)
      · exact Or.inl (by omega)
    · exact Or.inl (by omega)
  refine ⟨s1, dr, rfl, sp.1, K_pread (d := d) (by omega) sp hc (fun st eq l r e H' p1 F' sp' c' pr' k5 => ⟨fun k => (by cases k), fun _ => ?_⟩) (fun f e H' F' sp' c' => ⟨fun _ => ⟨fun _ => ?_, fun k => (by cases k)⟩, fun k => (by cases k)⟩)⟩
  · have F1 := F'.mono PaC
    have hr1 := F1.2.2.2.2.2.2.2.2
    have e1200 : hC H' 1200 0 = some 1 := by rw [F'.2.1]; exact s2
    have e1201 : hC H' 1201 0 = some 3 := by rw [F'.2.1]; exact s3
    have e1208 : hR H' 1208 0 0 = some dr := by rw [hr1 _ _ (fun k => by omega)]; exact hdr
    have e1207 : hR H' 1207 0 0 = some la := by rw [hr1 _ _ (fun k => by omega)]; exact hla
    refine ⟨by rw [fr_tg F']; exact s1, dr, e1208, sp'.1, ?_⟩
    rw [e1208, e1200, e1201]
    have u' : CU H' 3 nu U := fr_CU F1 (fun g x k1 k2 k => by omega) hu
    refine K_proveAll (d := d + 15) sp' c' u' pr' hok (pF_ok e).1 (by omega) (by omega) fun H2 F2 V2 => ?_
    have hr2 := F2.2.2.2.2.2.2.2.2
    have f1208 : hR H2 1208 0 0 = some dr := by rw [hr2 _ _ (fun k => by omega)]; exact e1208
    have f1207 : hR H2 1207 0 0 = some la := by rw [hr2 _ _ (fun k => by omega)]; exact e1207
    refine ⟨by rw [fr_tg F2, fr_tg F']; exact s1, fun k => (by cases k), fun _ => ?_⟩
    rw [f1208, f1207]
    have F3 : Fr (fun g x => (g = 1207 ∨ g = 1208 ∨ g = 1209) ∧ x = 0) H2 (sI (sR (sR H2 1207 0 0 (some dr)) 1208 0 0 (some la)) 1209 0 0 (1 : Int32)) := ((Fr_sR ⟨Or.inl rfl, rfl⟩).tr (Fr_sR ⟨Or.inr (Or.inl rfl), rfl⟩)).tr (Fr_sI ⟨Or.inr (Or.inr rfl), rfl⟩)
    have g1207 : hR (sI (sR (sR H2 1207 0 0 (some dr)) 1208 0 0 (some la)) 1209 0 0 (1 : Int32)) 1207 0 0 = some dr := by
      rw [hR_sI, hR_sR, u3_g _ _ _ _ _ _ (by decide), hR_sR, u3_same]
    have g1208 : hR (sI (sR (sR H2 1207 0 0 (some dr)) 1208 0 0 (some la)) 1209 0 0 (1 : Int32)) 1208 0 0 = some la := by
      rw [hR_sI, hR_sR, u3_same]
    have g1209 : hI (sI (sR (sR H2 1207 0 0 (some dr)) 1208 0 0 (some la)) 1209 0 0 (1 : Int32)) 1209 0 0 = 1 := by rw [hIs_i, if_pos rfl]
    generalize sI (sR (sR H2 1207 0 0 (some dr)) 1208 0 0 (some la)) 1209 0 0 (1 : Int32) = B at F3 g1207 g1208 g1209 ⊢
    have h1200 : hC B 1200 0 = some 1 := by rw [F3.2.1, F2.2.1]; exact e1200
    have c2 : CT H2 1 T p1 := fr_CT F2 (fun k => by omega) (fun k => by omega) (fun k => by omega) c'
    have c3 : CT B 1 T p1 := fr_CT F3 (fun k => by omega) (fun k => by omega) (fun k => by omega) c2
    have hJ := (jA_held (F := wF T nu U) (U := U) (st := st) st.1).1
    have V3 : PVd B dr st (jA (wF T nu U) U st st.1) := fr_PVd F3 (fun g x k1 k2 k => by omega) hJ V2
    refine ⟨dr, g1207, by rw [fr_tg F3, fr_tg F2]; exact sp'.1, 1, h1200, c3.1.1, ?_⟩
    rw [h1200, V3.2.2.1]
    refine K_tclear (d := d + 20) c3 fun H9 F9 c9 => h1 st eq l r e H9 ((F1.mono fun g x k => ?_).tr ((F2.mono fun g x k => ?_).tr ((F3.mono fun g x k => ?_).tr (F9.mono fun g x k => ?_)))) c9 (fr_shProof F9 (fun k => by omega) (fr_shProof F3 (fun k => by omega) (fr_shProof F2 (fun k => by omega) sp'))) ?_ ?_ ?_ (fr_PVd F9 (fun g x k1 k2 k => by omega) hJ V3) ?_
    · rcases k with k | k
      · exact Or.inl k
      · exact Or.inr (Or.inl k)
    · exact Or.inl (by omega)
    · exact Or.inr (Or.inr k)
    · exact Or.inr (Or.inl k)
    · rw [F9.2.2.2.2.2.2.2.2 _ _ (fun k => by omega)]; exact g1207
    · rw [F9.2.2.2.2.2.2.2.2 _ _ (fun k => by omega)]; exact g1208
    · rw [F9.2.2.2.2.1 _ _ (fun k => by omega)]; exact g1209
    · rw [F9.2.2.2.2.1 _ _ (fun k => by omega), F3.2.2.2.2.1 _ _ (fun k => by omega), F2.2.2.2.2.1 _ _ (fun k => by omega)]; exact k5
  · have e2 : hC H' 1200 0 = some 1 := by rw [F'.2.1]; exact s2
    refine ⟨by rw [fr_tg F']; exact s1, 1, e2, c'.1.1, ?_⟩
    rw [e2, c'.2.2.2.1]
    refine K_tclear (d := d + 20) c' fun H9 F9 c9 => h0 f e H9 ((F'.mono PaC).tr (F9.mono fun g x k => ?_)) c9 (fr_shProof F9 (fun k => by omega) sp')
    exact Or.inr k
