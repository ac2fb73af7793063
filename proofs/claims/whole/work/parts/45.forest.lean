
/-! ===== claims that join: labels, the one way, pointers towards a goal ===== -/
def lab (X Y : Nat → Nat) : Nat → Nat → Nat
  | 0, u => u
  | k + 1, u => if lab X Y k u = lab X Y k (Y k) then lab X Y k (X k) else lab X Y k u
def jnB (X Y : Nat → Nat) (k : Nat) : Bool := decide (lab X Y k (X k) ≠ lab X Y k (Y k))
def pth (X Y : Nat → Nat) : Nat → Nat → Nat → List (Nat × Bool)
  | 0, _, _ => []
  | k + 1, u, v => if lab X Y k u = lab X Y k v then pth X Y k u v else if lab X Y k u = lab X Y k (X k) then pth X Y k u (X k) ++ (k, true) :: pth X Y k (Y k) v else pth X Y k u (Y k) ++ (k, false) :: pth X Y k (X k) v
theorem lab_s {X Y : Nat → Nat} {k u v : Nat} (h : lab X Y k u = lab X Y k v) : lab X Y (k + 1) u = lab X Y (k + 1) v := by
  unfold lab; rw [h]
theorem lab_m {X Y : Nat → Nat} {k u v : Nat} (h : lab X Y k u = lab X Y k v) : ∀ n, lab X Y (k + n) u = lab X Y (k + n) v
  | 0 => h
  | n + 1 => lab_s (lab_m h n)
theorem lab_own {X Y : Nat → Nat} (k : Nat) : lab X Y (k + 1) (X k) = lab X Y (k + 1) (Y k) := by
  unfold lab
  rw [if_pos (rfl : lab X Y k (Y k) = lab X Y k (Y k))]
  split
  · rfl
  · rfl
theorem lab_edge {X Y : Nat → Nat} {i k : Nat} (h : i < k) : lab X Y k (X i) = lab X Y k (Y i) := by
  have := lab_m (lab_own (X := X) (Y := Y) i) (k - (i + 1))
  rwa [show i + 1 + (k - (i + 1)) = k by omega] at this
theorem conn_step {X Y : Nat → Nat} {k u v : Nat} (h : lab X Y (k + 1) u = lab X Y (k + 1) v) (hn : lab X Y k u ≠ lab X Y k v) : (lab X Y k u = lab X Y k (X k) ∧ lab X Y k v = lab X Y k (Y k)) ∨ (lab X Y k u = lab X Y k (Y k) ∧ lab X Y k v = lab X Y k (X k)) := by
  unfold lab at h
  by_cases hu : lab X Y k u = lab X Y k (Y k)
  · rw [if_pos hu] at h
    by_cases hv : lab X Y k v = lab X Y k (Y k)
    · exact absurd (hu.trans hv.symm) hn
    · rw [if_neg hv] at h
      exact Or.inr ⟨hu, h.symm⟩
  · rw [if_neg hu] at h
    by_cases hv : lab X Y k v = lab X Y k (Y k)
    · rw [if_pos hv] at h
      exact Or.inl ⟨h, hv⟩
    · rw [if_neg hv] at h
      exact absurd h hn
theorem pth_self {X Y : Nat → Nat} {u : Nat} : ∀ k, pth X Y k u u = []
  | 0 => rfl
  | k + 1 => by unfold pth; rw [if_pos rfl]; exact pth_self k
theorem pth_s {X Y : Nat → Nat} {k u v : Nat} (h : lab X Y k u = lab X Y k v) : pth X Y (k + 1) u v = pth X Y k u v := by
  show (if lab X Y k u = lab X Y k v then pth X Y k u v else _) = _
  rw [if_pos h]
theorem pth_m {X Y : Nat → Nat} {k u v : Nat} (h : lab X Y k u = lab X Y k v) : ∀ n, pth X Y (k + n) u v = pth X Y k u v
  | 0 => rfl
  | n + 1 => (pth_s (lab_m h n)).trans (pth_m h n)
theorem pth_x {X Y : Nat → Nat} {k u v : Nat} (hn : lab X Y k u ≠ lab X Y k v) (h : lab X Y k u = lab X Y k (X k)) : pth X Y (k + 1) u v = pth X Y k u (X k) ++ (k, true) :: pth X Y k (Y k) v := by
  show (if lab X Y k u = lab X Y k v then pth X Y k u v else if lab X Y k u = lab X Y k (X k) then _ else _) = _
  rw [if_neg hn, if_pos h]
theorem pth_y {X Y : Nat → Nat} {k u v : Nat} (hn : lab X Y k u ≠ lab X Y k v) (h : lab X Y k u ≠ lab X Y k (X k)) : pth X Y (k + 1) u v = pth X Y k u (Y k) ++ (k, false) :: pth X Y k (X k) v := by
  show (if lab X Y k u = lab X Y k v then pth X Y k u v else if lab X Y k u = lab X Y k (X k) then _ else _) = _
  rw [if_neg hn, if_neg h]
/-- the two ends of a claim, from the one that is gone from -/
def ends (X Y : Nat → Nat) (i : Nat) (d : Bool) (u w : Nat) : Prop := (d = true ∧ X i = u ∧ Y i = w) ∨ (d = false ∧ Y i = u ∧ X i = w)
theorem ends_lab {X Y : Nat → Nat} {i k u w : Nat} {d : Bool} (h : ends X Y i d u w) (hi : i < k) : lab X Y k u = lab X Y k w := by
  rcases h with ⟨-, rfl, rfl⟩ | ⟨-, rfl, rfl⟩
  · exact lab_edge hi
  · exact (lab_edge hi).symm
theorem edge {X Y : Nat → Nat} {i u w : Nat} {d : Bool} (hj : jnB X Y i = true) (he : ends X Y i d u w) : ∀ (k v : Nat), i < k → lab X Y k w = lab X Y k v → pth X Y k u v = (i, d) :: pth X Y k w v ∨ pth X Y k w v = (i, !d) :: pth X Y k u v := by
  intro k
  induction k with
  | zero => intro v hi; omega
  | succ k ih =>
    intro v hi hl
    by_cases hik : i < k
    · have huw := ends_lab he hik
      by_cases hwv : lab X Y k w = lab X Y k v
      · rw [pth_s hwv, pth_s (huw.trans hwv)]
        exact ih v hik hwv
      · have huv : lab X Y k u ≠ lab X Y k v := fun h => hwv (huw.symm.trans h)
        by_cases hx : lab X Y k w = lab X Y k (X k)
        · rw [pth_x hwv hx, pth_x huv (huw.trans hx)]
          rcases ih (X k) hik hx with h | h
          · left; rw [h]; rfl
          · right; rw [h]; rfl
        · have hy : lab X Y k w = lab X Y k (Y k) := by
            rcases conn_step hl hwv with h | h
            · exact absurd h.1 hx
            · exact h.1
          rw [pth_y hwv hx, pth_y huv (fun h => hx (huw.symm.trans h))]
          rcases ih (Y k) hik hy with h | h
          · left; rw [h]; rfl
          · right; rw [h]; rfl
    · have : i = k := by omega
      subst this
      have hj : lab X Y i (X i) ≠ lab X Y i (Y i) := of_decide_eq_true hj
      rcases he with ⟨rfl, rfl, rfl⟩ | ⟨rfl, rfl, rfl⟩
      · by_cases hwv : lab X Y i (Y i) = lab X Y i v
        · left
          rw [pth_s hwv, pth_x (fun h => hj (h.trans hwv.symm)) rfl, pth_self]; rfl
        · right
          have hv : lab X Y i v = lab X Y i (X i) := by
            rcases conn_step hl hwv with h | h
            · exact absurd h.1.symm hj
            · exact h.2
          rw [pth_y hwv (fun h => hj h.symm), pth_self, pth_s hv.symm]; rfl
      · by_cases hwv : lab X Y i (X i) = lab X Y i v
        · left
          rw [pth_s hwv, pth_y (fun h => hj (hwv.trans h.symm)) (fun h => hj h.symm), pth_self]; rfl
        · right
          have hv : lab X Y i v = lab X Y i (Y i) := by
            rcases conn_step hl hwv with h | h
            · exact h.2
            · exact absurd h.1 hj
          rw [pth_x hwv rfl, pth_self, pth_s hv.symm]; rfl
/-- what is reached from the goal, closed -/
theorem closed_lab {X Y : Nat → Nat} {R : Nat → Prop} : ∀ (k : Nat), (∀ i, i < k → jnB X Y i = true → (R (X i) ↔ R (Y i))) → ∀ u v, lab X Y k u = lab X Y k v → (R u ↔ R v) := by
  intro k
  induction k with
  | zero => intro _ u v h; rw [show u = v from h]
  | succ k ih =>
    intro hc u v h
    have ih' := ih fun i hi => hc i (by omega)
    by_cases hn : lab X Y k u = lab X Y k v
    · exact ih' u v hn
    · have hx : R (X k) ↔ R (Y k) := by
        refine hc k (by omega) (decide_eq_true fun e => hn ?_)
        rcases conn_step h hn with h | h
        · rw [h.1, h.2, e]
        · rw [h.1, h.2, e]
      rcases conn_step h hn with h | h
      · exact ((ih' _ _ h.1).trans hx).trans (ih' _ _ h.2).symm
      · exact ((ih' _ _ h.1).trans hx.symm).trans (ih' _ _ h.2).symm
def cntB (P : Nat → Bool) : Nat → Nat
  | 0 => 0
  | n + 1 => cntB P n + if P n = true then 1 else 0
theorem cntB_le (P : Nat → Bool) : ∀ n, cntB P n ≤ n
  | 0 => Nat.le_refl _
  | n + 1 => by
    have := cntB_le P n
    unfold cntB; split <;> omega
theorem cntB_mono {P P' : Nat → Bool} : ∀ n, (∀ j, j < n → P' j = true → P j = true) → cntB P' n ≤ cntB P n
  | 0, _ => Nat.le_refl _
  | n + 1, h => by
    have := cntB_mono n fun j hj => h j (by omega)
    have hn := h n (by omega)
    unfold cntB
    by_cases e : P' n = true
    · rw [if_pos e, if_pos (hn e)]; omega
    · rw [if_neg e]; omega
theorem cntB_lt {P P' : Nat → Bool} {i : Nat} : ∀ n, (∀ j, j < n → P' j = true → P j = true) → i < n → P i = true → ¬ P' i = true → cntB P' n < cntB P n
  | 0, _, hi, _, _ => by omega
  | n + 1, h, hi, h1, h2 => by
    unfold cntB
    by_cases e : i = n
    · subst e
      have := cntB_mono i fun j hj => h j (by omega)
      rw [if_pos h1, if_neg h2]; omega
    · have := cntB_lt n (fun j hj => h j (by omega)) (by omega) h1 h2
      have hn := h n (by omega)
      by_cases e : P' n = true
      · rw [if_pos e, if_pos (hn e)]; omega
      · rw [if_neg e]; omega
theorem cntB_zero {P : Nat → Bool} : ∀ n, cntB P n = 0 → ∀ j, j < n → ¬ P j = true
  | 0, _, j, hj => by omega
  | n + 1, h, j, hj => by
    unfold cntB at h
    by_cases e : j = n
    · subst e
      intro k
      rw [if_pos k] at h; omega
    · exact cntB_zero n (by omega) j (by omega)
theorem cntB_congr {P P' : Nat → Bool} : ∀ n, (∀ j, j < n → P' j = P j) → cntB P' n = cntB P n
  | 0, _ => rfl
  | n + 1, h => by
    unfold cntB
    rw [cntB_congr n fun j hj => h j (by omega), h n (by omega)]
/-- pointers towards a goal, of the first k claims: what a search has found so far -/
abbrev rch (N : Nat → Int32) (u : Nat) : Prop := 0 ≤ (N u).toInt
def opn (X Y : Nat → Nat) (N : Nat → Int32) (i : Nat) : Bool := jnB X Y i && !decide (rch N (X i) ∧ rch N (Y i))
def PtI (X Y : Nat → Nat) (k v : Nat) (N : Nat → Int32) : Prop := N v = 16 ∧ ∀ u, u < 20 → rch N u → lab X Y k u = lab X Y k v ∧ (pth X Y k u v).length + cntB (opn X Y N) k ≤ k ∧ (u ≠ v → ∃ i d w, i < k ∧ w < 20 ∧ N u = Int32.ofNat i ∧ jnB X Y i = true ∧ ends X Y i d u w ∧ rch N w ∧ pth X Y k u v = (i, d) :: pth X Y k w v)
theorem PtI_start {X Y : Nat → Nat} {k v : Nat} {N : Nat → Int32} (hv : N v = 16) (h : ∀ u, u < 20 → u ≠ v → N u = -1) : PtI X Y k v N := by
  refine ⟨hv, fun u hu hr => ?_⟩
  by_cases e : u = v
  · subst e
    exact ⟨rfl, by rw [pth_self]; have := cntB_le (opn X Y N) k; simpa using this, fun h => absurd rfl h⟩
  · have hr : 0 ≤ (N u).toInt := hr
    rw [h u hu e] at hr
    exact absurd hr (by decide)
/-- one more that is come to -/
theorem PtI_step {X Y : Nat → Nat} {k v i u w : Nat} {d : Bool} {N N' : Nat → Int32} (h : PtI X Y k v N) (hk : k ≤ 16) (hi : i < k) (hu : u < 20) (hw : w < 20) (hv : v < 20) (hj : jnB X Y i = true) (he : ends X Y i d u w) (hrw : rch N w) (hru : ¬ rch N u) (hN : ∀ x, N' x = if x = u then Int32.ofNat i else N x) : PtI X Y k v N' ∧ cntB (opn X Y N') k < cntB (opn X Y N) k := by
  obtain ⟨h1, h2⟩ := h
  have hvr : rch N v := by
    show 0 ≤ (N v).toInt
    rw [h1]; decide
  have huv : u ≠ v := fun e => hru (by rw [e]; exact hvr)
  have huw : u ≠ w := fun e => hru (by rw [e]; exact hrw)
  have hni : 0 ≤ (Int32.ofNat i).toInt := by rw [iN_toInt (by omega)]; omega
  have keep : ∀ x, rch N x → rch N' x := fun x hx => by
    show 0 ≤ (N' x).toInt
    rw [hN]; split
    · exact hni
    · exact hx
  have hur : rch N' u := by
    show 0 ≤ (N' u).toInt
    rw [hN, if_pos rfl]; exact hni
  have ho : ∀ j, opn X Y N' j = true → opn X Y N j = true := fun j hj' => by
    unfold opn at hj' ⊢
    rw [Bool.and_eq_true, Bool.not_eq_true', decide_eq_false_iff_not] at hj' ⊢
    exact ⟨hj'.1, fun k => hj'.2 ⟨keep _ k.1, keep _ k.2⟩⟩
  have o1 : opn X Y N i = true := by
    unfold opn
    rw [Bool.and_eq_true, Bool.not_eq_true', decide_eq_false_iff_not]
    refine ⟨hj, fun k => hru ?_⟩
    rcases he with ⟨-, rfl, -⟩ | ⟨-, rfl, -⟩
    · exact k.1
    · exact k.2
  have o2 : ¬ opn X Y N' i = true := by
    unfold opn
    rw [Bool.and_eq_true, Bool.not_eq_true', decide_eq_false_iff_not]
    rintro ⟨-, k⟩
    refine k ?_
    rcases he with ⟨-, rfl, rfl⟩ | ⟨-, rfl, rfl⟩
    · exact ⟨hur, keep _ hrw⟩
    · exact ⟨keep _ hrw, hur⟩
  have hlt := cntB_lt k (fun j _ => ho j) hi o1 o2
  obtain ⟨w1, w2, w3⟩ := h2 w hw hrw
  have hp : pth X Y k u v = (i, d) :: pth X Y k w v := by
    rcases edge hj he k v hi w1 with h | h
    · exact h
    · exfalso
      by_cases e : w = v
      · rw [e, pth_self] at h; cases h
      · obtain ⟨i', d', w', -, -, -, -, e1, e2, e3⟩ := w3 e
        rw [h] at e3
        injection e3 with e3 e4
        injection e3 with e5 e6
        subst e5; subst e6
        refine hru ?_
        rcases he with ⟨rfl, rfl, rfl⟩ | ⟨rfl, rfl, rfl⟩
        · rcases e1 with ⟨k, -⟩ | ⟨-, -, k⟩
          · cases k
          · rw [k]; exact e2
        · rcases e1 with ⟨-, -, k⟩ | ⟨k, -⟩
          · rw [k]; exact e2
          · cases k
  refine ⟨⟨?_, fun x hx hr => ?_⟩, hlt⟩
  · rw [hN, if_neg (fun e => huv e.symm)]; exact h1
  · by_cases e : x = u
    · subst e
      refine ⟨(ends_lab he hi).trans w1, ?_, fun _ => ⟨i, d, w, hi, hw, by rw [hN, if_pos rfl], hj, he, keep _ hrw, hp⟩⟩
      rw [hp]
      show (pth X Y k w v).length + 1 + _ ≤ k
      omega
    · have hr' : rch N x := by
        have : 0 ≤ (N' x).toInt := hr
        rw [hN, if_neg e] at this; exact this
      obtain ⟨x1, x2, x3⟩ := h2 x hx hr'
      refine ⟨x1, by omega, fun hne => ?_⟩
      obtain ⟨i', d', w', a1, a2, a3, a4, a5, a6, a7⟩ := x3 hne
      exact ⟨i', d', w', a1, a2, by rw [hN, if_neg e]; exact a3, a4, a5, keep _ a6, a7⟩
/-- closed: all that hangs together with the goal is come to -/
theorem PtI_end {X Y : Nat → Nat} {k v : Nat} {N : Nat → Int32} (h : PtI X Y k v N) (hc : ∀ i, i < k → jnB X Y i = true → (rch N (X i) ↔ rch N (Y i))) {u : Nat} (hu : u < 20) : rch N u ↔ lab X Y k u = lab X Y k v := by
  refine ⟨fun hr => (h.2 u hu hr).1, fun hl => (closed_lab (R := rch N) k hc u v hl).mpr ?_⟩
  show 0 ≤ (N v).toInt
  rw [h.1]; decide
