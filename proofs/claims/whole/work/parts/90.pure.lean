theorem x6_66 : (match (nB hs_e 6 11).bind fun s1 => f_X6_init s1 hs_e.1 with | some p => p.2.1 == 66 | none => false) = true := by decide +kernel
theorem pure_law (B L : Nat) (xs : Nat → Int32) (hL : L ≤ 3072) : ∃ r : hS, f_L_law ((B, 0, fun _ => (15, 0), fun _ _ => 0, fun _ _ => none) : hS) (L, xs) = some (1, r) ∧ r.1 ≤ B + 600000 ∧ r.2.1 ≤ 7302250 := by
  obtain ⟨s, hm, hi, h1, h2⟩ := start_inv B
  obtain ⟨r, hr, b1, b2⟩ := law_all (st_all B) (xs := xs) hL hi (B + 89) 20000 ⟨h1, h2⟩
  refine ⟨r, ?_, by omega, by omega⟩
  have e6 : ((nB (sh B hs_e) 6 11).bind fun s1 => f_X6_init s1 (sh B hs_e).1) = mv B ((nB hs_e 6 11).bind fun s1 => f_X6_init s1 hs_e.1) := co_b (co_nB B _ _ _) (fun t => co_X6 B t _)
  have h66 := x6_66
  rw [sh_e] at e6
  cases ea : (nB hs_e 6 11).bind (fun s1 => f_X6_init s1 hs_e.1) with
  | none => rw [ea] at h66; cases h66
  | some pa =>
    rw [ea] at h66 e6
    have p66 : pa.2.1 = 66 := by
      have : (pa.2.1 == 66) = true := h66
      exact beq_iff_eq.mp this
    have e6' : f_X6_init (nO ((B, 0, fun _ => (15, 0), fun _ _ => 0, fun _ _ => none) : hS) 6 11) B = some (pa.1, sh B pa.2) := e6
    have a66 : (sh B pa.2).1 = B + 66 := by
      show pa.2.1 + B = B + 66
      omega
    have hm2 : ((f_X6_init (nO ((B, 0, fun _ => (15, 0), fun _ _ => 0, fun _ _ => none) : hS) 6 11) B).bind fun p2 => (nB p2.2 7 34).bind fun s3 => (f_X7_init s3 p2.2.1).bind fun p4 => some ((), p4.2)) = some ((), s) := hm
    rw [e6'] at hm2
    have hm3 : ((f_X7_init (nO (sh B pa.2) 7 34) (sh B pa.2).1).bind fun p4 => some ((), p4.2)) = some ((), s) := hm2
    rw [a66] at hm3
    cases eb : f_X7_init (nO (sh B pa.2) 7 34) (B + 66) with
    | none => rw [eb] at hm3; cases hm3
    | some p4 =>
      rw [eb] at hm3
      have es : p4.2 = s := congrArg Prod.snd (Option.some.inj hm3)
      show ((f_X6_init (nO ((B, 0, fun _ => (15, 0), fun _ _ => 0, fun _ _ => none) : hS) 6 11) B).bind fun p2 => (nB p2.2 7 34).bind fun s3 => (f_X7_init s3 p2.2.1).bind fun p4 => jL f_L_law_b18 (fun _ _ _ _ _ => none) jF (L, xs) B p2.2.1 (0 : Int32) p4.2) = some (1, r)
      rw [e6']
      show ((f_X7_init (nO (sh B pa.2) 7 34) (sh B pa.2).1).bind fun p4 => jL f_L_law_b18 (fun _ _ _ _ _ => none) jF (L, xs) B (sh B pa.2).1 (0 : Int32) p4.2) = some (1, r)
      rw [a66, eb]
      show jL f_L_law_b18 (fun _ _ _ _ _ => none) jF (L, xs) B (B + 66) (0 : Int32) p4.2 = some (1, r)
      rw [es]
      exact hr
