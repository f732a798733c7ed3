/-- reading the script -/
theorem scr_ok {L : Nat} {xs : Nat → Int32} (i : Nat) (hi : i < L) (hL : L ≤ 3072) {x : Int32} (hx : x = nI i) : scr (L, xs) x = some (xs i) := by
  subst hx
  have h2 := nI_in2 hi (by omega : L < 2 ^ 31)
  have h3 := nI_clamp (by omega : i < 2 ^ 31)
  rw [scr, if_neg h2, h3]
abbrev LK : Type := (Nat × (Nat → Int32)) → Nat → Nat → Int32 → hS → Option (Int32 × hS)
/-- what one turn of the law gives -/
def Trn (B L : Nat) (xs : Nat → Int32) (i : Nat) (s : hS) (k : LK) (o : Option (Int32 × hS)) : Prop := ∃ s2 : hS, o = k (L, xs) B (B + 66) (nI (i + 6)) s2 ∧ Inv B s2 ∧ s2.1 ≤ s.1 + 3 ∧ s2.2.1 ≤ s.2.1 + 300
theorem trn_of {B L : Nat} {xs : Nat → Int32} {i : Nat} {s : hS} {k : LK} {g6 g7 : hS → Option (Int32 × hS)} (hs : Inv B s) (h : StpC B g6 g7) {o : Option (Int32 × hS)} (ho : o = (cV s B 6 (g6 s)).bind fun p => (cV p.2 (B + 66) 7 (g7 p.2)).bind fun p2 => if p.1 = p2.1 then f_L_law_b1469 k (L, xs) B (B + 66) (nI i) p2.2 else some (0, p2.2)) : Trn B L xs i s k o := by
  obtain ⟨v, s1, s2, h1, h2, h3, h4, h5, h6⟩ := h s hs
  have hk : hK s B = (6, 11) := hs.1.k 0 6 11 rfl
  refine ⟨s2, ?_, h4, h5, h6⟩
  rw [ho, cV_ok (n := 11) hk, h1, Option.bind_some]
  have hk2 : hK s1 (B + 66) = (7, (hK s1 (B + 66)).2) := by rw [← h2]
  rw [cV_ok hk2, h3, Option.bind_some, if_pos rfl]
  show k (L, xs) B (B + 66) (nI i + 6) s2 = _
  rw [show nI i + 6 = nI (i + 6) from nI_add i 6]
/-- the step rows of all calls -/
def StAll (B : Nat) : Prop := (∀ a0 : Int32, StpC B (fun s => f_X6_fact s B a0) (fun s => f_X7_fact s (B + 66) a0)) ∧ (∀ a0 a1 : Int32, StpC B (fun s => f_X6_factTold s B a0 a1) (fun s => f_X7_factTold s (B + 66) a0 a1)) ∧ (∀ a0 a1 a2 : Int32, StpC B (fun s => f_X6_set s B a0 a1 a2) (fun s => f_X7_set s (B + 66) a0 a1 a2)) ∧ (StpC B (fun s => f_X6_person s B) (fun s => f_X7_person s (B + 66))) ∧ (∀ a0 a1 : Int32, StpC B (fun s => f_X6_personTold s B a0 a1) (fun s => f_X7_personTold s (B + 66) a0 a1)) ∧ (∀ a0 a1 a2 : Int32, StpC B (fun s => f_X6_knows s B a0 a1 a2) (fun s => f_X7_knows s (B + 66) a0 a1 a2)) ∧ (∀ a0 a1 a2 : Int32, StpC B (fun s => f_X6_follows s B a0 a1 a2) (fun s => f_X7_follows s (B + 66) a0 a1 a2)) ∧ (∀ a0 a1 : Int32, StpC B (fun s => f_X6_price s B a0 a1) (fun s => f_X7_price s (B + 66) a0 a1)) ∧ (StpC B (fun s => f_X6_deal s B) (fun s => f_X7_deal s (B + 66))) ∧ (∀ a0 : Int32, StpC B (fun s => f_X6_seed s B a0) (fun s => f_X7_seed s (B + 66) a0)) ∧ (∀ a0 : Int32, StpC B (fun s => f_X6_clock s B a0) (fun s => f_X7_clock s (B + 66) a0)) ∧ (∀ a0 a1 a2 : Int32, StpC B (fun s => f_X6_talk s B a0 a1 a2) (fun s => f_X7_talk s (B + 66) a0 a1 a2)) ∧ (∀ a0 a1 : Int32, StpC B (fun s => f_X6_told s B a0 a1) (fun s => f_X7_told s (B + 66) a0 a1)) ∧ (∀ a0 a1 : Int32, StpC B (fun s => f_X6_as s B a0 a1) (fun s => f_X7_as s (B + 66) a0 a1)) ∧ (∀ a0 a1 : Int32, StpC B (fun s => f_X6_turns s B a0 a1) (fun s => f_X7_turns s (B + 66) a0 a1)) ∧ (∀ a0 : Int32, StpC B (fun s => f_X6_say s B a0) (fun s => f_X7_say s (B + 66) a0)) ∧ (StpC B (fun s => f_X6_round s B) (fun s => f_X7_round s (B + 66))) ∧ (StpC B (fun s => f_X6_market s B) (fun s => f_X7_market s (B + 66))) ∧ (StpC B (fun s => f_X6_richest s B) (fun s => f_X7_richest s (B + 66))) ∧ (∀ a0 a1 a2 a3 : Int32, StpC B (fun s => f_X6_fewest s B a0 a1 a2 a3) (fun s => f_X7_fewest s (B + 66) a0 a1 a2 a3)) ∧ (∀ a0 a1 : Int32, StpC B (fun s => f_X6_look s B a0 a1) (fun s => f_X7_look s (B + 66) a0 a1)) ∧ (∀ a0 a1 : Int32, StpC B (fun s => f_X6_find s B a0 a1) (fun s => f_X7_find s (B + 66) a0 a1)) ∧ (∀ a0 : Int32, StpC B (fun s => f_X6_keepsBack s B a0) (fun s => f_X7_keepsBack s (B + 66) a0)) ∧ (StpC B (fun s => f_X6_fine s B) (fun s => f_X7_fine s (B + 66))) ∧ (∀ a0 a1 a2 : Int32, StpC B (fun s => f_X6_feed s B a0 a1 a2) (fun s => f_X7_feed s (B + 66) a0 a1 a2)) ∧ (∀ a0 : Int32, StpC B (fun s => f_X6_trim s B a0) (fun s => f_X7_trim s (B + 66) a0)) ∧ (StpC B (fun s => f_X6_text s B) (fun s => f_X7_text s (B + 66))) ∧ (∀ a0 a1 : Int32, StpC B (fun s => f_X6_textTold s B a0 a1) (fun s => f_X7_textTold s (B + 66) a0 a1)) ∧ (∀ a0 : Int32, StpC B (fun s => f_X6_why s B a0) (fun s => f_X7_why s (B + 66) a0)) ∧ (∀ a0 a1 a2 : Int32, StpC B (fun s => f_X6_sheet s B a0 a1 a2) (fun s => f_X7_sheet s (B + 66) a0 a1 a2)) ∧ (∀ a0 a1 a2 : Int32, StpC B (fun s => f_X6_mark s B a0 a1 a2) (fun s => f_X7_mark s (B + 66) a0 a1 a2)) ∧ (∀ a0 : Int32, StpC B (fun s => f_X6_pour s B a0) (fun s => f_X7_pour s (B + 66) a0)) ∧ (∀ a0 : Int32, StpC B (fun s => f_X6_reads s B a0) (fun s => f_X7_reads s (B + 66) a0)) ∧ (∀ a0 a1 a2 a3 a4 : Int32, StpC B (fun s => f_X6_copy s B a0 a1 a2 a3 a4) (fun s => f_X7_copy s (B + 66) a0 a1 a2 a3 a4)) ∧ (∀ a0 a1 a2 : Int32, StpC B (fun s => f_X6_lay s B a0 a1 a2) (fun s => f_X7_lay s (B + 66) a0 a1 a2)) ∧ (∀ a0 a1 : Int32, StpC B (fun s => f_X6_ask s B a0 a1) (fun s => f_X7_ask s (B + 66) a0 a1)) ∧ (∀ a0 a1 : Int32, StpC B (fun s => f_X6_item s B a0 a1) (fun s => f_X7_item s (B + 66) a0 a1)) ∧ (∀ a0 a1 : Int32, StpC B (fun s => f_X6_rest s B a0 a1) (fun s => f_X7_rest s (B + 66) a0 a1)) ∧ (∀ a0 : Int32, StpC B (fun s => f_X6_tell s B a0) (fun s => f_X7_tell s (B + 66) a0)) ∧ (∀ a0 : Int32, StpC B (fun s => f_X6_check s B a0) (fun s => f_X7_check s (B + 66) a0)) ∧ (StpC B (fun s => f_X6_keep s B) (fun s => f_X7_keep s (B + 66))) ∧ (StpC B (fun s => f_X6_back s B) (fun s => f_X7_back s (B + 66))) ∧ (∀ a0 : Int32, StpC B (fun s => f_X6_count s B a0) (fun s => f_X7_count s (B + 66) a0))
set_option maxHeartbeats 4000000 in
theorem law_turn {B : Nat} (hh : StAll B) {L : Nat} {xs : Nat → Int32} (hL : L ≤ 3072) {i : Nat} (hi : i + 6 ≤ L) {s : hS} (hs : Inv B s) (k : LK) : Trn B L xs i s k (f_L_law_b18 k (L, xs) B (B + 66) (nI i) s) := by
  have e0 : scr (L, xs) (nI i) = some (xs i) := scr_ok i (by omega) hL rfl
  have e1 : scr (L, xs) (nI i + 1) = some (xs (i + 1)) := scr_ok (i + 1) (by omega) hL (nI_1 i)
  have e2 : scr (L, xs) (nI i + 2) = some (xs (i + 2)) := scr_ok (i + 2) (by omega) hL (nI_add i 2)
  have e3 : scr (L, xs) (nI i + 3) = some (xs (i + 3)) := scr_ok (i + 3) (by omega) hL (nI_add i 3)
  have e4 : scr (L, xs) (nI i + 4) = some (xs (i + 4)) := scr_ok (i + 4) (by omega) hL (nI_add i 4)
  have e5 : scr (L, xs) (nI i + 5) = some (xs (i + 5)) := scr_ok (i + 5) (by omega) hL (nI_add i 5)
  have hc : ¬ (Int32.ofNat ((L, xs) : Nat × (Nat → Int32)).1 - 6 < nI i) := by
    rw [show Int32.ofNat ((L, xs) : Nat × (Nat → Int32)).1 - 6 = nI (L - 6) from pk_sub (a := L) (b := 6) (by omega)]
    exact nI_nlt (by omega) (by omega)
  unfold f_L_law_b18
  rw [if_neg hc, e0, Option.bind_some]
  show Trn B L xs i s k (nmv (xs i &&& 63) _)
  unfold nmv
  generalize (xs i &&& 63) = x2
  dsimp only
  by_cases g0 : x2 = 0
  · rw [if_pos g0]
    refine trn_of hs (hh.1 (xs (i + 1))) ?_
    simp only [e1, Option.bind_some]
  rw [if_neg g0]
  by_cases g1 : x2 = 1
  · rw [if_pos g1]
    refine trn_of hs (hh.2.1 (xs (i + 1)) (xs (i + 2))) ?_
    simp only [e1, e2, Option.bind_some]
  rw [if_neg g1]
  by_cases g2 : x2 = 2
  · rw [if_pos g2]
    refine trn_of hs (hh.2.2.1 (xs (i + 1)) (xs (i + 2)) (xs (i + 3))) ?_
    simp only [e1, e2, e3, Option.bind_some]
  rw [if_neg g2]
  by_cases g3 : x2 = 3
  · rw [if_pos g3]
    refine trn_of hs (hh.2.2.2.1) ?_
    simp only [Option.bind_some]
  rw [if_neg g3]
  by_cases g4 : x2 = 4
  · rw [if_pos g4]
    refine trn_of hs (hh.2.2.2.2.1 (xs (i + 1)) (xs (i + 2))) ?_
    simp only [e1, e2, Option.bind_some]
  rw [if_neg g4]
  by_cases g5 : x2 = 5
  · rw [if_pos g5]
    refine trn_of hs (hh.2.2.2.2.2.1 (xs (i + 1)) (xs (i + 2)) (xs (i + 3))) ?_
    simp only [e1, e2, e3, Option.bind_some]
  rw [if_neg g5]
  by_cases g6 : x2 = 6
  · rw [if_pos g6]
    refine trn_of hs (hh.2.2.2.2.2.2.1 (xs (i + 1)) (xs (i + 2)) (xs (i + 3))) ?_
    simp only [e1, e2, e3, Option.bind_some]
  rw [if_neg g6]
  by_cases g7 : x2 = 7
  · rw [if_pos g7]
    refine trn_of hs (hh.2.2.2.2.2.2.2.1 (xs (i + 1)) (xs (i + 2))) ?_
    simp only [e1, e2, Option.bind_some]
  rw [if_neg g7]
  by_cases g8 : x2 = 8
  · rw [if_pos g8]
    refine trn_of hs (hh.2.2.2.2.2.2.2.2.1) ?_
    simp only [Option.bind_some]
  rw [if_neg g8]
  by_cases g9 : x2 = 9
  · rw [if_pos g9]
    refine trn_of hs (hh.2.2.2.2.2.2.2.2.2.1 (xs (i + 1))) ?_
    simp only [e1, Option.bind_some]
  rw [if_neg g9]
  by_cases g10 : x2 = 10
  · rw [if_pos g10]
    refine trn_of hs (hh.2.2.2.2.2.2.2.2.2.2.1 (xs (i + 1))) ?_
    simp only [e1, Option.bind_some]
  rw [if_neg g10]
  by_cases g11 : x2 = 11
  · rw [if_pos g11]
    refine trn_of hs (hh.2.2.2.2.2.2.2.2.2.2.2.1 (xs (i + 1)) (xs (i + 2)) (xs (i + 3))) ?_
    simp only [e1, e2, e3, Option.bind_some]
  rw [if_neg g11]
  by_cases g12 : x2 = 12
  · rw [if_pos g12]
    refine trn_of hs (hh.2.2.2.2.2.2.2.2.2.2.2.2.1 (xs (i + 1)) (xs (i + 2))) ?_
    simp only [e1, e2, Option.bind_some]
  rw [if_neg g12]
  by_cases g13 : x2 = 13
  · rw [if_pos g13]
    refine trn_of hs (hh.2.2.2.2.2.2.2.2.2.2.2.2.2.1 (xs (i + 1)) (xs (i + 2))) ?_
    simp only [e1, e2, Option.bind_some]
  rw [if_neg g13]
  by_cases g14 : x2 = 14
  · rw [if_pos g14]
    refine trn_of hs (hh.2.2.2.2.2.2.2.2.2.2.2.2.2.2.1 (xs (i + 1)) (xs (i + 2))) ?_
    simp only [e1, e2, Option.bind_some]
  rw [if_neg g14]
  by_cases g15 : x2 = 15
  · rw [if_pos g15]
    refine trn_of hs (hh.2.2.2.2.2.2.2.2.2.2.2.2.2.2.2.1 (xs (i + 1))) ?_
    simp only [e1, Option.bind_some]
  rw [if_neg g15]
  by_cases g16 : x2 = 16
  · rw [if_pos g16]
    refine trn_of hs (hh.2.2.2.2.2.2.2.2.2.2.2.2.2.2.2.2.1) ?_
    simp only [Option.bind_some]
  rw [if_neg g16]
  by_cases g17 : x2 = 17
  · rw [if_pos g17]
    refine trn_of hs (hh.2.2.2.2.2.2.2.2.2.2.2.2.2.2.2.2.2.1) ?_
    simp only [Option.bind_some]
  rw [if_neg g17]
  by_cases g18 : x2 = 18
  · rw [if_pos g18]
    refine trn_of hs (hh.2.2.2.2.2.2.2.2.2.2.2.2.2.2.2.2.2.2.1) ?_
    simp only [Option.bind_some]
  rw [if_neg g18]
  by_cases g19 : x2 = 19
  · rw [if_pos g19]
    refine trn_of hs (hh.2.2.2.2.2.2.2.2.2.2.2.2.2.2.2.2.2.2.2.1 (xs (i + 1)) (xs (i + 2)) (xs (i + 3)) (xs (i + 4))) ?_
    simp only [e1, e2, e3, e4, Option.bind_some]
  rw [if_neg g19]
  by_cases g20 : x2 = 20
  · rw [if_pos g20]
    refine trn_of hs (hh.2.2.2.2.2.2.2.2.2.2.2.2.2.2.2.2.2.2.2.2.1 (xs (i + 1)) (xs (i + 2))) ?_
    simp only [e1, e2, Option.bind_some]
  rw [if_neg g20]
  by_cases g21 : x2 = 21
  · rw [if_pos g21]
    refine trn_of hs (hh.2.2.2.2.2.2.2.2.2.2.2.2.2.2.2.2.2.2.2.2.2.1 (xs (i + 1)) (xs (i + 2))) ?_
    simp only [e1, e2, Option.bind_some]
  rw [if_neg g21]
  by_cases g22 : x2 = 22
  · rw [if_pos g22]
    refine trn_of hs (hh.2.2.2.2.2.2.2.2.2.2.2.2.2.2.2.2.2.2.2.2.2.2.1 (xs (i + 1))) ?_
    simp only [e1, Option.bind_some]
  rw [if_neg g22]
  by_cases g23 : x2 = 23
  · rw [if_pos g23]
    refine trn_of hs (hh.2.2.2.2.2.2.2.2.2.2.2.2.2.2.2.2.2.2.2.2.2.2.2.1) ?_
    simp only [Option.bind_some]
  rw [if_neg g23]
  by_cases g24 : x2 = 24
  · rw [if_pos g24]
    refine trn_of hs (hh.2.2.2.2.2.2.2.2.2.2.2.2.2.2.2.2.2.2.2.2.2.2.2.2.1 (xs (i + 1)) (xs (i + 2)) (xs (i + 3))) ?_
    simp only [e1, e2, e3, Option.bind_some]
  rw [if_neg g24]
  by_cases g25 : x2 = 25
  · rw [if_pos g25]
    refine trn_of hs (hh.2.2.2.2.2.2.2.2.2.2.2.2.2.2.2.2.2.2.2.2.2.2.2.2.2.1 (xs (i + 1))) ?_
    simp only [e1, Option.bind_some]
  rw [if_neg g25]
  by_cases g26 : x2 = 26
  · rw [if_pos g26]
    refine trn_of hs (hh.2.2.2.2.2.2.2.2.2.2.2.2.2.2.2.2.2.2.2.2.2.2.2.2.2.2.1) ?_
    simp only [Option.bind_some]
  rw [if_neg g26]
  by_cases g27 : x2 = 27
  · rw [if_pos g27]
    refine trn_of hs (hh.2.2.2.2.2.2.2.2.2.2.2.2.2.2.2.2.2.2.2.2.2.2.2.2.2.2.2.1 (xs (i + 1)) (xs (i + 2))) ?_
    simp only [e1, e2, Option.bind_some]
  rw [if_neg g27]
  by_cases g28 : x2 = 28
  · rw [if_pos g28]
    refine trn_of hs (hh.2.2.2.2.2.2.2.2.2.2.2.2.2.2.2.2.2.2.2.2.2.2.2.2.2.2.2.2.1 (xs (i + 1))) ?_
    simp only [e1, Option.bind_some]
  rw [if_neg g28]
  by_cases g29 : x2 = 29
  · rw [if_pos g29]
    refine trn_of hs (hh.2.2.2.2.2.2.2.2.2.2.2.2.2.2.2.2.2.2.2.2.2.2.2.2.2.2.2.2.2.1 (xs (i + 1)) (xs (i + 2)) (xs (i + 3))) ?_
    simp only [e1, e2, e3, Option.bind_some]
  rw [if_neg g29]
  by_cases g30 : x2 = 30
  · rw [if_pos g30]
    refine trn_of hs (hh.2.2.2.2.2.2.2.2.2.2.2.2.2.2.2.2.2.2.2.2.2.2.2.2.2.2.2.2.2.2.1 (xs (i + 1)) (xs (i + 2)) (xs (i + 3))) ?_
    simp only [e1, e2, e3, Option.bind_some]
  rw [if_neg g30]
  by_cases g31 : x2 = 31
  · rw [if_pos g31]
    refine trn_of hs (hh.2.2.2.2.2.2.2.2.2.2.2.2.2.2.2.2.2.2.2.2.2.2.2.2.2.2.2.2.2.2.2.1 (xs (i + 1))) ?_
    simp only [e1, Option.bind_some]
  rw [if_neg g31]
  by_cases g32 : x2 = 32
  · rw [if_pos g32]
    refine trn_of hs (hh.2.2.2.2.2.2.2.2.2.2.2.2.2.2.2.2.2.2.2.2.2.2.2.2.2.2.2.2.2.2.2.2.1 (xs (i + 1))) ?_
    simp only [e1, Option.bind_some]
  rw [if_neg g32]
  by_cases g33 : x2 = 33
  · rw [if_pos g33]
    refine trn_of hs (hh.2.2.2.2.2.2.2.2.2.2.2.2.2.2.2.2.2.2.2.2.2.2.2.2.2.2.2.2.2.2.2.2.2.1 (xs (i + 1)) (xs (i + 2)) (xs (i + 3)) (xs (i + 4)) (xs (i + 5))) ?_
    simp only [e1, e2, e3, e4, e5, Option.bind_some]
  rw [if_neg g33]
  by_cases g34 : x2 = 34
  · rw [if_pos g34]
    refine trn_of hs (hh.2.2.2.2.2.2.2.2.2.2.2.2.2.2.2.2.2.2.2.2.2.2.2.2.2.2.2.2.2.2.2.2.2.2.1 (xs (i + 1)) (xs (i + 2)) (xs (i + 3))) ?_
    simp only [e1, e2, e3, Option.bind_some]
  rw [if_neg g34]
  by_cases g35 : x2 = 35
  · rw [if_pos g35]
    refine trn_of hs (hh.2.2.2.2.2.2.2.2.2.2.2.2.2.2.2.2.2.2.2.2.2.2.2.2.2.2.2.2.2.2.2.2.2.2.2.1 (xs (i + 1)) (xs (i + 2))) ?_
    simp only [e1, e2, Option.bind_some]
  rw [if_neg g35]
  by_cases g36 : x2 = 36
  · rw [if_pos g36]
    refine trn_of hs (hh.2.2.2.2.2.2.2.2.2.2.2.2.2.2.2.2.2.2.2.2.2.2.2.2.2.2.2.2.2.2.2.2.2.2.2.2.1 (xs (i + 1)) (xs (i + 2))) ?_
    simp only [e1, e2, Option.bind_some]
  rw [if_neg g36]
  by_cases g37 : x2 = 37
  · rw [if_pos g37]
    refine trn_of hs (hh.2.2.2.2.2.2.2.2.2.2.2.2.2.2.2.2.2.2.2.2.2.2.2.2.2.2.2.2.2.2.2.2.2.2.2.2.2.1 (xs (i + 1)) (xs (i + 2))) ?_
    simp only [e1, e2, Option.bind_some]
  rw [if_neg g37]
  by_cases g38 : x2 = 38
  · rw [if_pos g38]
    refine trn_of hs (hh.2.2.2.2.2.2.2.2.2.2.2.2.2.2.2.2.2.2.2.2.2.2.2.2.2.2.2.2.2.2.2.2.2.2.2.2.2.2.1 (xs (i + 1))) ?_
    simp only [e1, Option.bind_some]
  rw [if_neg g38]
  by_cases g39 : x2 = 39
  · rw [if_pos g39]
    refine trn_of hs (hh.2.2.2.2.2.2.2.2.2.2.2.2.2.2.2.2.2.2.2.2.2.2.2.2.2.2.2.2.2.2.2.2.2.2.2.2.2.2.2.1 (xs (i + 1))) ?_
    simp only [e1, Option.bind_some]
  rw [if_neg g39]
  by_cases g40 : x2 = 40
  · rw [if_pos g40]
    refine trn_of hs (hh.2.2.2.2.2.2.2.2.2.2.2.2.2.2.2.2.2.2.2.2.2.2.2.2.2.2.2.2.2.2.2.2.2.2.2.2.2.2.2.2.1) ?_
    simp only [Option.bind_some]
  rw [if_neg g40]
  by_cases g41 : x2 = 41
  · rw [if_pos g41]
    refine trn_of hs (hh.2.2.2.2.2.2.2.2.2.2.2.2.2.2.2.2.2.2.2.2.2.2.2.2.2.2.2.2.2.2.2.2.2.2.2.2.2.2.2.2.2.1) ?_
    simp only [Option.bind_some]
  rw [if_neg g41]
  by_cases g42 : x2 = 42
  · rw [if_pos g42]
    refine trn_of hs (hh.2.2.2.2.2.2.2.2.2.2.2.2.2.2.2.2.2.2.2.2.2.2.2.2.2.2.2.2.2.2.2.2.2.2.2.2.2.2.2.2.2.2 (xs (i + 1))) ?_
    simp only [e1, Option.bind_some]
  rw [if_neg g42]
  refine ⟨s, ?_, hs, by omega, by omega⟩
  show k (L, xs) B (B + 66) (nI i + 6) s = _
  rw [show nI i + 6 = nI (i + 6) from nI_add i 6]
theorem law_all {B : Nat} (hh : StAll B) {L : Nat} {xs : Nat → Int32} (hL : L ≤ 3072) {s : hS} (hs : Inv B s) (n1 n2 : Nat) (hn : s.1 ≤ n1 ∧ s.2.1 ≤ n2) : ∃ r : hS, jL f_L_law_b18 (fun _ _ _ _ _ => none) jF (L, xs) B (B + 66) (0 : Int32) s = some (1, r) ∧ r.1 ≤ n1 + 3 * 512 ∧ r.2.1 ≤ n2 + 300 * 512 := by
  refine jL_ex (F := f_L_law_b18) (z := fun _ _ _ _ _ => none) (fun k i x => k (L, xs) B (B + 66) (nI (6 * i)) x) (L / 6) (fun i x => Inv B x ∧ x.1 ≤ n1 + 3 * i ∧ x.2.1 ≤ n2 + 300 * i) (fun o => ∃ r : hS, o = some (1, r) ∧ r.1 ≤ n1 + 3 * 512 ∧ r.2.1 ≤ n2 + 300 * 512) ?_ ?_ jF 0 s (Nat.zero_le _) ?_ ⟨hs, by omega, by omega⟩
  · intro i hi x hx k
    left
    obtain ⟨hx1, hx2, hx3⟩ := hx
    obtain ⟨s2, h1, h2, h3, h4⟩ := law_turn hh hL (i := 6 * i) (xs := xs) (by omega) hx1 k
    have b1 : s2.1 ≤ n1 + 3 * (i + 1) := by
      clear h1 hh
      omega
    have b2 : s2.2.1 ≤ n2 + 300 * (i + 1) := by
      rw [Nat.mul_succ, ← Nat.add_assoc]
      exact Nat.le_trans h4 (Nat.add_le_add_right hx3 300)
    refine ⟨s2, ⟨h2, b1, b2⟩, ?_⟩
    have e6 : 6 * (i + 1) = 6 * i + 6 := by omega
    rw [e6]
    exact h1
  · intro x hx k
    obtain ⟨hx1, hx2, hx3⟩ := hx
    have hi6 : L / 6 ≤ 512 := by omega
    refine ⟨x, ?_, Nat.le_trans hx2 (Nat.add_le_add_left (Nat.mul_le_mul_left 3 hi6) n1), Nat.le_trans hx3 (Nat.add_le_add_left (Nat.mul_le_mul_left 300 hi6) n2)⟩
    show f_L_law_b18 k (L, xs) B (B + 66) (nI (6 * (L / 6))) x = _
    unfold f_L_law_b18
    rw [if_pos]
    by_cases h6 : 6 ≤ L
    · rw [show Int32.ofNat ((L, xs) : Nat × (Nat → Int32)).1 - 6 = nI (L - 6) from pk_sub (a := L) (b := 6) h6]
      exact nI_lt (by omega) (by omega)
    · have h0 : 6 * (L / 6) = 0 := by omega
      rw [h0]
      exact pk_sneg (a := L) (b := 6) (by omega) (by omega)
  · show L / 6 < 4096 + 0
    omega
