section JN
variable {α : Type} {E : jE} {M : jM} {cv : α → Option Value} {pc q : Nat} {ls ls' : List (Nat × Value)} {st : List Value} {s : hS} {o : Option (α × hS)}
/-- rows of things where a place may be empty -/
def aN (s : hS) (a t : Nat) (i : Int32) : Option (Option Nat) := if (s.2.2.1 a).1 = t ∧ ¬ (i < 0 ∨ (s.2.2.1 a).2 ≤ i.toNatClampNeg) then some (s.2.2.2.2 a i.toNatClampNeg) else none
def sN (s : hS) (a t : Nat) (i : Int32) (c : Nat) : Option Nat → Option hS
  | none => if (s.2.2.1 a).1 = t ∧ ¬ (i < 0 ∨ (s.2.2.1 a).2 ≤ i.toNatClampNeg) then some (uR s a i.toNatClampNeg none) else none
  | some b => sR s a t i b c
theorem Jo_aaloadN {a t t0 : Nat} {C0 : String} {i : Int32} {g : Option Nat → Option (α × hS)} (ht : (∀ E, (hs_tys E)[t0]? = some (E.2.2.2.1 t, .object C0)) ∧ ¬ t < 12 ∧ t < 15) (hd : dI M.2.1 pc q .aaload 1) (kk : ∀ x, Jo E M cv q ls (va_rf x :: st) s (g x)) : Jo E M cv pc ls (.int i :: .ref a :: st) s ((aN s a t i).bind g) := by
  by_cases hc : (s.2.2.1 a).1 = t ∧ ¬ (i < 0 ∨ (s.2.2.1 a).2 ≤ i.toNatClampNeg)
  · obtain ⟨hd, rfl⟩ := hd
    rw [aN, if_pos hc]
    exact Jo.read (fun p e R s0 m args below meth cd H locs cells slots lsA Q C hH hS k9 => va_aldq C.1 C.2.1 C.2.2.2.2.2.2.2.2.2.1.1 hH.2.2.1 (a - E.2.1) t0 (by rw [hs_in hH hc.1 ht.2.2, hs_picR hc.1 ht.2.1]) (ht.1 E) hc.2 hd k9) (kk _)
  · rw [aN, if_neg hc]; exact Jo_none
theorem Jo_aastoreN {a t t0 c0 : Nat} {r0 : vw_C} {i : Int32} {x : Option Nat} {g : hS → Option (α × hS)} (ht : (∀ E, (hs_tys E)[t0]? = some (E.2.2.2.1 t, .object r0.1)) ∧ ¬ t < 12 ∧ t < 15 ∧ classes[c0]? = some r0 ∧ c0 < 8) (hd : dI M.2.1 pc q .aastore 1) (kk : ∀ s', Jo E M cv q ls st s' (g s')) : Jo E M cv pc ls (va_rf x :: .int i :: .ref a :: st) s ((sN s a t i c0 x).bind g) := by
  cases x with
  | some b => exact Jo_aastore ht hd kk
  | none =>
    by_cases hc : (s.2.2.1 a).1 = t ∧ ¬ (i < 0 ∨ (s.2.2.1 a).2 ≤ i.toNatClampNeg)
    · obtain ⟨hd, rfl⟩ := hd
      rw [sN, if_pos hc]
      refine Jo.write (s' := uR s a i.toNatClampNeg none) rfl rfl (fun p e R s0 m args below meth cd H locs cells slots lsA Q C hH hS _ k9 => ?_) (kk _)
      have hK := C.2.2.2.2.2.2.2.2.2.1.1
      have hat := hH.at hc.1 ht.2.2.1
      rw [hs_picR hc.1 ht.2.1] at hat
      refine va_WaastN (C := r0.1) C.1 C.2.1 hat ((hK.2 t0 _ (ht.1 E)).1 _ (fun j => va_rf (s.2.2.2.2 a j))) (fun h => by cases h) (by show ¬ (i < 0 ∨ (arrV _ _ _).slots.size ≤ _); rw [arrV_size]; exact hc.2) rfl rfl hd fun H1 e1 z oq => ?_
      refine k9 H1 _ (hH.put rfl (fun _ => rfl) (fun b' hb => hs_pic_congr rfl rfl (uR_R hb)) z oq ?_) (hS.put z oq (hH.2.2.2 a (by omega)).1)
      have hp : hs_pic E (uR s a i.toNatClampNeg none) a = .inl (E.2.2.2.1 t, (s.2.2.1 a).2, .inr (.inr (.inr (.inr (va_up (s.2.2.2.2 a) i.toNatClampNeg none))))) := by
        rw [hs_picR (s := uR s a i.toNatClampNeg none) hc.1 ht.2.1, uR_self]
        rfl
      rw [hp]
      show H1[a]? = some (vp_cell _ _)
      rw [e1]
      rw [vp_cell_q, vp_cell_q, arrV_store]
      congr 2
      funext q
      by_cases hq : q = i.toNatClampNeg
      · subst hq; simp [updV, va_up, va_rf]
      · simp [updV, va_up, hq]
    · rw [sN, if_neg hc]; exact Jo_none
end JN
