
/-! ===== the reference: sums at every depth of ( ) ===== -/
theorem Sm_S {d m nu : Nat} {T : TP} {U : Nat → UV} {does : Bool} (hok : ∀ i, okU (U i)) : ∀ (r deep : Nat), r + deep = 4 → SMsum (d + 9 + 3 * r) m nu deep T U does (pS T r)
  | 0, deep, h => by
    have hp : SMpart (d + 7) m nu deep T U does (pPart none T) := K_mpart (d := d) hok (by omega) (fun _ => by omega) (fun s k => (by cases k))
    have ht : SMterm (d + 8) m nu deep T U does (pTerm none T) := K_mterm (d := d + 2) hok (PInv_part (fun s k => (by cases k))) hp
    exact K_msum (d := d + 3) hok (PInv_sum (S := none) (fun s k => (by cases k))).1 ht
  | r + 1, deep, h => by
    have hs : SMsum (d + 9 + 3 * r) m nu (deep + 1) T U does (pS T r) := Sm_S hok r (deep + 1) (by omega)
    have hI : ∀ s, some (pS T r) = some s → PInv T s := fun s k => by cases k; exact PInv_S r
    have hp : SMpart (d + 3 + 3 * r + 7) m nu deep T U does (pPart (some (pS T r)) T) := K_mpart (d := d + 3 + 3 * r) hok (by omega) (fun k => (by cases k)) (fun s k => by
      cases k
      refine ⟨by omega, PInv_S r, ?_⟩
      have e : d + 3 + 3 * r + 6 = d + 9 + 3 * r := by omega
      rw [e]; exact hs)
    have ht : SMterm (d + 5 + 3 * r + 6) m nu deep T U does (pTerm (some (pS T r)) T) := K_mterm (d := d + 5 + 3 * r) hok (PInv_part hI) (by
      have e : d + 5 + 3 * r + 5 = d + 3 + 3 * r + 7 := by omega
      rw [e]; exact hp)
    have hf : SMsum (d + 6 + 3 * r + 6) m nu deep T U does (pSum (some (pS T r)) T) := K_msum (d := d + 6 + 3 * r) hok (PInv_sum hI).1 (by
      have e : d + 6 + 3 * r + 5 = d + 5 + 3 * r + 6 := by omega
      rw [e]; exact ht)
    have e : d + 9 + 3 * (r + 1) = d + 6 + 3 * r + 6 := by omega
    rw [e]; exact hf
