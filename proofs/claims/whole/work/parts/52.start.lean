theorem sh_e (B : Nat) : sh B hs_e = ((B, 0, fun _ => (15, 0), fun _ _ => 0, fun _ _ => none) : hS) := by
  unfold sh hs_e
  refine Prod.ext (by show 0 + B = B; omega) (Prod.ext rfl (Prod.ext ?_ (Prod.ext ?_ ?_)))
  · funext a; dsimp only; by_cases h : a < B
    · rw [if_pos h]
    · rw [if_neg h]
  · funext a k; dsimp only; by_cases h : a < B
    · rw [if_pos h]
    · rw [if_neg h]
  · funext a k; dsimp only; by_cases h : a < B
    · rw [if_pos h]
    · rw [if_neg h]; rfl
theorem shI (B : Nat) (r : hS) (a k : Nat) : hI (sh B r) (B + a) k = hI r a k := by rw [Nat.add_comm]; exact sh_I B r a k
def cr (r : hS) : Bool := (List.range 14).all (fun i => r.2.2.2.2 11 i == none && r.2.2.2.2 22 i == none && r.2.2.2.2 33 i == none)
theorem mk_cr : (match mk2 hs_e with | some p => cr p.2 | none => false) = true := by decide +kernel
def tw0 : Tw := (fun _ _ => 0, (0, 1), fun _ => (0, 0, 0, fun _ => 0))
set_option maxHeartbeats 1000000 in
theorem start_inv (B : Nat) : ∃ s : hS, mk2 ((B, 0, fun _ => (15, 0), fun _ _ => 0, fun _ _ => none) : hS) = some ((), s) ∧ Inv B s ∧ s.1 ≤ B + 89 ∧ s.2.1 ≤ 20000 := by
  have h1 := mk_ck
  have h2 := mk_ci
  have h4 := mk_cr
  have h3 := co_mk2 B hs_e
  rw [sh_e] at h3
  cases hm : mk2 hs_e with
  | none => rw [hm] at h1; cases h1
  | some p =>
    rw [hm] at h1 h2 h3 h4
    obtain ⟨u, r⟩ := p
    dsimp only at h1 h2 h4
    simp only [cr, Bool.and_eq_true, beq_iff_eq, List.all_eq_true, List.mem_range] at h4
    simp only [ck, Bool.and_eq_true, beq_iff_eq, decide_eq_true_eq, List.all_eq_true, List.mem_range] at h1
    simp only [ci, Bool.and_eq_true, beq_iff_eq, List.all_eq_true, List.mem_range] at h2
    obtain ⟨⟨⟨c1, c2⟩, c3⟩, c4⟩ := h1
    obtain ⟨⟨⟨⟨⟨⟨⟨⟨⟨⟨⟨⟨⟨⟨d1, d1b⟩, d1c⟩, d2⟩, d3⟩, d4⟩, d5⟩, d6⟩, d7⟩, d8⟩, d9⟩, d10⟩, d11⟩, d12⟩, d13⟩ := h2
    have hz : ∀ k, k < 7 → hI (sh B r) (B + 1) k = 0 := fun k hk => (shI B r 1 k).trans (d1 k hk).1
    have hz2 : ∀ k, k < 7 → hI (sh B r) (B + 67) (k + 1) = 0 := fun k hk => (shI B r 67 (k + 1)).trans (d1 k hk).2
    have hrow : ∀ k i, 1 ≤ k → k < 10 → i < 16 → hI (sh B r) (B + 1 + k) i = 0 := by
      intro k i h1 h2 h3
      rw [Nat.add_assoc, shI]
      have := d1b (k - 1) (by omega) i h3
      rw [show k - 1 + 2 = 1 + k by omega] at this
      exact this
    have hnow : ∀ k, 1 ≤ k → k < 151 → hI (sh B r) (B + 67) k = 0 := by
      intro k h1 h2
      rw [shI]
      have := d1c (k - 1) (by omega)
      rw [show k - 1 + 1 = k by omega] at this
      exact this
    refine ⟨sh B r, h3, ?_, by show r.1 + B ≤ B + 89; omega, c2⟩
    refine ⟨⟨fun i c hi => ?_, fun e he => ?_, fun o ho i hi b hb => ?_⟩, ⟨0, by show r.1 + B = B + 89 + 3 * 0; omega, ⟨tw0, ?_, ?_, ?_⟩, ?_⟩, ?_, ?_, ?_, ?_, ?_⟩
    · have hi9 : i < 89 := (List.getElem?_eq_some_iff.mp hi).1
      have := c3 i hi9
      rw [hi] at this
      have h5 := Option.some.inj this
      show (sh B r).2.2.1 (B + i) = c
      rw [Nat.add_comm, sh_K]
      exact h5.symm
    · show (sh B r).2.2.2.2 (B + e.1) e.2.1 = _
      rw [Nat.add_comm, sh_R, c4 e he, Nat.add_comm B]
      rfl
    · exfalso
      have hb' : (sh B r).2.2.2.2 (o + B) i = some b := by rw [Nat.add_comm]; exact hb
      rw [sh_R] at hb'
      obtain ⟨⟨z1, z2⟩, z3⟩ := h4 i hi
      rcases ho with rfl | rfl | rfl
      · rw [z1] at hb'; cases hb'
      · rw [z2] at hb'; cases hb'
      · rw [z3] at hb'; cases hb'
    · refine ⟨⟨by decide, by decide, by decide, by decide, by decide, by decide⟩, ?_, ?_, ?_, ?_, ?_⟩ <;> intro i hi <;> exact absurd hi (Nat.not_lt_zero i)
    · refine ⟨⟨⟨hz 0 (by omega), hz 1 (by omega), hz 2 (by omega), hz 3 (by omega), hz 4 (by omega), hz 5 (by omega), hz 6 (by omega), (shI B r 1 7).trans d2⟩, fun i hi => ⟨hrow 1 i (by omega) (by omega) (by omega), hrow 2 i (by omega) (by omega) (by omega)⟩, fun i hi => ⟨hrow 3 i (by omega) (by omega) (by omega), hrow 4 i (by omega) (by omega) (by omega)⟩, fun i hi => absurd hi (Nat.not_lt_zero i), fun i hi => ⟨hrow 7 i (by omega) (by omega) (by omega), hrow 8 i (by omega) (by omega) (by omega), hrow 9 i (by omega) (by omega) (by omega)⟩⟩, fun i hi => absurd hi (Nat.not_lt_zero i)⟩
    · refine ⟨⟨hz2 0 (by omega), hz2 1 (by omega), hz2 3 (by omega), hz2 2 (by omega), hz2 6 (by omega), hz2 4 (by omega), hz2 5 (by omega), (shI B r 67 0).trans d3⟩, fun i hi => ⟨hnow _ (by omega) (by omega), hnow _ (by omega) (by omega)⟩, fun i hi => ⟨hnow _ (by omega) (by omega), hnow _ (by omega) (by omega)⟩, fun i hi => absurd hi (Nat.not_lt_zero i), fun i hi => ⟨hnow _ (by omega) (by omega), hnow _ (by omega) (by omega), hnow _ (by omega) (by omega)⟩, fun i hi => absurd hi (Nat.not_lt_zero i)⟩
    · exact Or.inl ⟨(shI B r 0 3).trans d6, (shI B r 66 3).trans d7⟩
    · exact ⟨0, by omega, (shI B r 35 1).trans d4, (shI B r 66 7).trans d5, fun i hi => absurd hi (Nat.not_lt_zero i)⟩
    · intro i hi
      obtain ⟨⟨⟨⟨e1, e2⟩, e3⟩, e4⟩, e5⟩ := d10 i hi
      have f1 : hI (sh B r) (B + 40 + 2 * i) 0 = -1 := by rw [Nat.add_assoc, shI]; exact e1
      have f2 : hI (sh B r) (B + 80) i = -1 := by rw [shI]; exact e2
      have f3 : hI (sh B r) (B + 40 + 2 * i) 1 = 0 := by rw [Nat.add_assoc, shI]; exact e3
      have f4 : hI (sh B r) (B + 81) i = 0 := by rw [shI]; exact e4
      refine ⟨⟨f1.trans f2.symm, f3.trans f4.symm⟩, Or.inl f2, ⟨0, by omega, f4⟩, fun k hk => ?_⟩
      rw [Nat.add_assoc, shI, shI]
      exact (e5 k hk).1.trans (e5 k hk).2.symm
    · intro j hj
      obtain ⟨e1, e2⟩ := d11 j hj
      exact ⟨0, by omega, by rw [Nat.add_assoc, shI]; exact e1, by rw [shI]; exact e2, fun h => by omega, fun h => by omega, fun h => by omega⟩
    · exact ⟨0, by omega, (shI B r 0 9).trans d8, (shI B r 66 33).trans d9, fun i hi => absurd hi (Nat.not_lt_zero i)⟩
    · exact ⟨fun i hi => (shI B r 73 i).trans (d12 i hi), fun i hi => (shI B r 74 i).trans (d13 i hi)⟩
