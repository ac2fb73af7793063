
/-! ===== the reference's proof while it reads: all rows so far are judged ===== -/
theorem jRow_cong {F : Nat → Nat → Option Nat} {U : Nat → UV} {T : TP} {st st' : PS} {V : Nat → JV} {n : Nat} (hr : okRow T n (st.2 n)) (h : ∀ i, i ≤ n → st.2 i = st'.2 i) : jRow F U st V n = jRow F U st' V n := by
  unfold jRow
  rw [← h n (Nat.le_refl _)]
  by_cases c0 : (st.2 n).1 = 0
  · rw [if_pos c0, if_pos c0]
  · rcases hr with hr | ⟨-, -, h1, h2⟩
    · exact absurd hr.1 c0
    · rw [h _ (Nat.le_of_lt h1), h _ (Nat.le_of_lt h2)]
theorem jA_cong {F : Nat → Nat → Option Nat} {U : Nat → UV} {T : TP} {st st' : PS} : ∀ n, (∀ i, i < n → okRow T i (st.2 i)) → (∀ i, i < n → st.2 i = st'.2 i) → jA F U st n = jA F U st' n
  | 0, _, _ => rfl
  | n + 1, hr, h => by
    rw [jA_succ, jA_succ, jA_cong n (fun i k => hr i (by omega)) (fun i k => h i (by omega)), jRow_cong (hr n (by omega)) (fun i k => h i (by omega))]
theorem jA_push {F : Nat → Nat → Option Nat} {U : Nat → UV} {T : TP} {st : PS} {r : RS} (ok : okSt T st) : jA F U (pushS st r) (pushS st r).1 = jStep (jA F U st st.1) (jRow F U (pushS st r) (jA F U st st.1).2.2 st.1) := by
  show jA F U (pushS st r) (st.1 + 1) = _
  have e : jA F U (pushS st r) st.1 = jA F U st st.1 := (jA_cong (T := T) st.1 ok fun i hi => by show st.2 i = (if i = st.1 then r else st.2 i); rw [if_neg (by omega)]).symm
  rw [jA_succ, e]
theorem jA_encl {F : Nat → Nat → Option Nat} {U : Nat → UV} {T : TP} {st : PS} (ok : okSt T st) (h0 : 0 < st.1) : jA F U (enclS st) (enclS st).1 = jA F U st st.1 := by
  obtain ⟨n, rows⟩ := st
  cases n with
  | zero => exact absurd h0 (Nat.lt_irrefl _)
  | succ n =>
    have rest : ∀ i, i < n → (enclS (n + 1, rows)).2 i = rows i := fun i hi => by
      show (if i + 1 = n + 1 then enclR (rows i) else rows i) = rows i
      rw [if_neg (by omega)]
    have last : (enclS (n + 1, rows)).2 n = enclR (rows n) := by
      show (if n + 1 = n + 1 then enclR (rows n) else rows n) = _
      rw [if_pos rfl]
    have e : jA F U (enclS (n + 1, rows)) n = jA F U (n + 1, rows) n := (jA_cong (T := T) (st := (n + 1, rows)) n (fun i hi => ok i (by show i < n + 1; omega)) fun i hi => (rest i hi).symm).symm
    show jA F U (enclS (n + 1, rows)) (n + 1) = jA F U (n + 1, rows) (n + 1)
    rw [jA_succ, jA_succ, e]
    have hr : okRow T n (rows n) := ok n (Nat.lt_succ_self n)
    have er : jRow F U (enclS (n + 1, rows)) (jA F U (n + 1, rows) n).2.2 n = jRow F U (n + 1, rows) (jA F U (n + 1, rows) n).2.2 n := by
      unfold jRow
      rw [last]
      show (if (rows n).1 = 0 then _ else _) = (if (rows n).1 = 0 then _ else _)
      by_cases c0 : (rows n).1 = 0
      · rw [if_pos c0, if_pos c0]; rfl
      · rcases hr with hr | ⟨-, -, h1, h2⟩
        · exact absurd hr.1 c0
        · rw [if_neg c0, if_neg c0]
          show (if _ then jProd (bareR F U ((enclS (n + 1, rows)).2 (rows n).2.1) || bareR F U ((enclS (n + 1, rows)).2 (rows n).2.2.1)) _ _ _ else _) = _
          rw [rest _ h1, rest _ h2]
          rfl
    rw [er]
/-- the reference's proof holds what has been judged -/
def JH (H : HP) (m : Nat) (st : PS) (J : JS) : Prop := hI H 1341 m 0 = Int32.ofNat J.2.1 ∧ hI H 1342 m 0 = J.1 ∧ ∀ i, i < J.2.1 → MJR H m i (st.2 i).1 (J.2.2 i) ∧ okV (J.2.2 i)
theorem fr_JH {S : Nat → Nat → Prop} {H H' : HP} {m : Nat} {st st' : PS} {J : JS} (h : Fr S H H') (h0 : ∀ g, (g = 1341 ∨ g = 1342) → ¬ S g m) (h1 : ¬ S 4960 (m + 21)) (h2 : ¬ S 4976 (m + 22)) (h3 : ¬ S 4995 (m + 23)) (h4 : ¬ S 5011 (m + 24)) (hst : ∀ i, i < J.2.1 → (st'.2 i).1 = (st.2 i).1) (s : JH H m st J) : JH H' m st' J := by
  have hi := h.2.2.2.2.1
  refine ⟨by rw [hi _ _ (h0 _ (Or.inl rfl))]; exact s.1, by rw [hi _ _ (h0 _ (Or.inr rfl))]; exact s.2.1, fun i k => ?_⟩
  rw [hst i k]
  exact ⟨fr_MJR h h1 h2 h3 h4 (s.2.2 i k).1, (s.2.2 i k).2⟩
theorem Rd_JH {H H' : HP} {m : Nat} {st st' : PS} {J : JS} (h : Fr (Rd0 m) H H') (hst : ∀ i, i < J.2.1 → (st'.2 i).1 = (st.2 i).1) (s : JH H m st J) : JH H' m st' J := fr_JH h (fun g k1 k2 => by omega) (fun k => by omega) (fun k => by omega) (fun k => by omega) (fun k => by omega) hst s
theorem JH_step {H H' : HP} {m : Nat} {st : PS} {row : RS} {J : JS} {res : JR} {r : Int32} (hJ : JH H m st J) (hz : J.1 = 0) (hh : J.2.1 = st.1) (hM : MJO H m st.1 row.1 res H' r) (hv : ∀ v, res = .inr v → okV v) (hne : ∀ w, res = .inl w → w ≠ 0) : JH H' m (pushS st row) (jStep J res) ∧ ((jStep J res).1 = 0 → r = Int32.ofNat st.1) := by
  obtain ⟨F, hk, hc⟩ := hM
  have old : ∀ i, i < st.1 → ((pushS st row).2 i) = st.2 i := fun i hi => by
    show (if i = st.1 then row else st.2 i) = _
    rw [if_neg (by omega)]
  have new : (pushS st row).2 st.1 = row := by
    show (if st.1 = st.1 then row else st.2 st.1) = _
    rw [if_pos rfl]
  unfold jStep
  rw [if_pos hz]
  rcases hc with ⟨v, e, er, e1, e2, e3⟩ | ⟨w, e, er, e1, e2⟩
  · subst e
    refine ⟨⟨?_, ?_, fun i hi => ?_⟩, fun _ => er⟩
    · show hI H' 1341 m 0 = Int32.ofNat (J.2.1 + 1)
      rw [hh]; exact e1
    · show hI H' 1342 m 0 = 0
      rw [e2, hJ.2.1]; exact hz
    · have hi : i < J.2.1 + 1 := hi
      rw [hh] at hi
      show MJR H' m i ((pushS st row).2 i).1 (setV J.2.2 J.2.1 v i) ∧ okV (setV J.2.2 J.2.1 v i)
      unfold setV
      rw [hh]
      by_cases ei : i = st.1
      · rw [if_pos ei, ei, new]; exact ⟨e3, hv v rfl⟩
      · rw [if_neg ei, old i (by omega)]
        obtain ⟨a1, a2⟩ := hJ.2.2 i (by omega)
        exact ⟨hk i (by omega) _ _ a1, a2⟩
  · subst e
    refine ⟨⟨?_, e2, fun i hi => ?_⟩, fun k => absurd k ?_⟩
    · show hI H' 1341 m 0 = Int32.ofNat J.2.1
      rw [hh]; exact e1
    · have hi : i < J.2.1 := hi
      rw [hh] at hi
      show MJR H' m i ((pushS st row).2 i).1 (J.2.2 i) ∧ okV (J.2.2 i)
      rw [old i hi]
      obtain ⟨a1, a2⟩ := hJ.2.2 i (by omega)
      exact ⟨hk i (by omega) _ _ a1, a2⟩
    · exact hne w rfl
abbrev RdJ (m : Nat) (does : Bool) : Nat → Nat → Prop := fun g a => Rd0 m g a ∨ (g = 1326 ∧ a = m) ∨ (does = true ∧ MjS m g a)
/-- what a reading by the reference has come to -/
def MRs (bare : Bool) (H : HP) (m : Nat) (T : TP) (F : Nat → Nat → Option Nat) (U : Nat → UV) (does : Bool) (res : PRes) (H' : HP) (r : Int32) : Prop :=
  (∃ ff, res = .inl ff ∧ Fr (RdJ m does) H H' ∧ MT H' m T ff (Int32.ofNat ff)) ∨ (∃ p1 st1, res = .inr (p1, st1) ∧ Fr (RdJ m does) H H' ∧ MT H' m T p1 (-1) ∧ hI H' 1326 m 0 = hI H 1326 m 0 ∧ (does = true → JH H' m st1 (jA F U st1 st1.1) ∧ ((jA F U st1 st1.1).1 = 0 → r = Int32.ofNat (st1.1 - 1) ∧ (bare = true → hI H' 1349 m 0 = bI (bareR F U (st1.2 (st1.1 - 1)))))))
theorem NO_MRs {H K H' : HP} {m p : Nat} {r : Int32} {T : TP} {F : Nat → Nat → Option Nat} {U : Nat → UV} {does : Bool} {st : PS} (hp : p ≤ T.1) (hU : ∀ i, okU (U i)) (ok : okSt T st) (hK : Fr (Rd0 m) H K) (hJ : does = true → JH H m st (jA F U st st.1)) (h : NO K m T F U (does && decide (hI H 1342 m 0 = 0)) st.1 (pAtom T p) H' r) : MRs true H m T F U does (match pAtom T p with
    | .inl f => .inl f
    | .inr (p1, R) => .inr (p1, pushS st (0, 0, 0, false, R))) H' r := by
  have m0 : ∀ g x, Rd0 m g x → RdJ m does g x := fun g x k => Or.inl k
  rcases h with ⟨ff, e, F1, t1⟩ | ⟨p1, R, e, t1, hc⟩
  · rw [e]
    exact Or.inl ⟨ff, rfl, (hK.tr F1).mono m0, t1⟩
  · have okR := ((pAtom_in hp).2 p1 R e).2.2
    rw [e]
    simp only
    have old : ∀ i, i < st.1 → ((pushS st (0, 0, 0, false, R)).2 i) = st.2 i := fun i hi => by
      show (if i = st.1 then (0, 0, 0, false, R) else st.2 i) = _
      rw [if_neg (by omega)]
    have new : (pushS st (0, 0, 0, false, R)).2 st.1 = (0, 0, 0, false, R) := by
      show (if st.1 = st.1 then (0, 0, 0, false, R) else st.2 st.1) = _
      rw [if_pos rfl]
    have ej : ∀ V, jRow F U (pushS st (0, 0, 0, false, R)) V st.1 = jAtom F U R := fun V => by
      unfold jRow
      rw [new, if_pos rfl]
    have hh := jA_held (F := F) (U := U) (st := st) st.1
    rcases hc with ⟨hg, F1⟩ | ⟨hg, H1, F1, hM, hb⟩
    · refine Or.inr ⟨p1, _, rfl, (hK.tr F1).mono m0, t1, by rw [(hK.tr F1).2.2.2.2.1 _ _ (fun k => by omega)], fun hd => ?_⟩
      have J0 := hJ hd
      have hne : ¬ (jA F U st st.1).1 = 0 := fun k => by
        rw [hd, J0.2.1, decide_eq_true k] at hg; cases hg
      rw [jA_push ok]
      unfold jStep
      rw [if_neg hne]
      exact ⟨Rd_JH (hK.tr F1) (fun i hi => by rw [old i (by omega)]) J0, fun k => absurd k hne⟩
    · rw [Bool.and_eq_true] at hg
      obtain ⟨hd, hw⟩ := hg
      have J0 := hJ hd
      have hz : (jA F U st st.1).1 = 0 := by rw [← J0.2.1]; exact of_decide_eq_true hw
      have FF : Fr (RdJ m does) H H' := ((hK.tr F1).mono m0).tr (hM.1.mono fun g x k => Or.inr (Or.inr ⟨hd, k⟩))
      have J1 : JH H1 m st (jA F U st st.1) := Rd_JH (hK.tr F1) (fun i _ => rfl) J0
      have st1 := JH_step (row := (0, 0, 0, false, R)) J1 hz (hh.2 hz) hM (fun v hv => jAtom_ok okR hU hv) (fun w hw => jAtom_ne hw)
      refine Or.inr ⟨p1, _, rfl, FF, t1, ?_, fun _ => ?_⟩
      · rw [hM.1.2.2.2.2.1 _ _ (fun k => by omega), (hK.tr F1).2.2.2.2.1 _ _ (fun k => by omega)]
      · rw [jA_push ok, ej]
        refine ⟨st1.1, fun k => ⟨st1.2 k, fun _ => ?_⟩⟩
        have hv : ∃ v, jAtom F U R = .inr v := by
          cases hr : jAtom F U R with
          | inl w =>
            rw [hr] at k
            unfold jStep at k
            rw [if_pos hz] at k
            exact absurd k (jAtom_ne hr)
          | inr v => exact ⟨v, rfl⟩
        rw [hb hv]
        have e2 : (pushS st (0, 0, 0, false, R)).2 ((pushS st (0, 0, 0, false, R)).1 - 1) = (0, 0, 0, false, R) := new
        rw [e2]
        unfold bareR shR
        show bI (decide (R.1 = 1) && offU (uR F U R 0)) = bI ((decide (0 = 0) && decide (R.1 = 1) && offU (uR F U R 0)) && !false)
        rw [decide_eq_true (rfl : (0 : Nat) = 0), Bool.true_and, Bool.not_false, Bool.and_true]
