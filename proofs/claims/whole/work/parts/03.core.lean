/-! the abstract heap: next address, slots made, kind and size of a cell, its ints, its references -/
abbrev hS : Type := Nat × Nat × (Nat → Nat × Nat) × (Nat → Nat → Int32) × (Nat → Nat → Option Nat)
/-- launch, first address, classes and slots, array classes, ABOVE's address, the texts' addresses, the script's address, length and ints -/
abbrev jE : Type := Launch × Nat × va_G × (Nat → ClassId) × Nat × (Nat → Nat) × (Nat → Nat) × Nat × Nat × (Nat → Int32)
def hs_fs (s : hS) (a : Nat) : Nat → List Value
  | 0 => [va_rf (s.2.2.2.2 a 0), va_rf (s.2.2.2.2 a 1), .int (s.2.2.2.1 a 2), va_rf (s.2.2.2.2 a 3), .int (s.2.2.2.1 a 4), .int (s.2.2.2.1 a 5), .int (s.2.2.2.1 a 6), .int (s.2.2.2.1 a 7), .int (s.2.2.2.1 a 8), .int (s.2.2.2.1 a 9)]
  | 1 => [.int (s.2.2.2.1 a 0), .int (s.2.2.2.1 a 1), va_rf (s.2.2.2.2 a 2)]
  | 2 => [.int (s.2.2.2.1 a 0), .int (s.2.2.2.1 a 1), .int (s.2.2.2.1 a 2), .int (s.2.2.2.1 a 3), .int (s.2.2.2.1 a 4), va_rf (s.2.2.2.2 a 5)]
  | 3 => [va_rf (s.2.2.2.2 a 0), .int (s.2.2.2.1 a 1)]
  | 4 => [.int (s.2.2.2.1 a 0), .int (s.2.2.2.1 a 1), va_rf (s.2.2.2.2 a 2), va_rf (s.2.2.2.2 a 3)]
  | 5 => [.int (s.2.2.2.1 a 0), .int (s.2.2.2.1 a 1), .int (s.2.2.2.1 a 2), .int (s.2.2.2.1 a 3), .int (s.2.2.2.1 a 4), .int (s.2.2.2.1 a 5), .int (s.2.2.2.1 a 6), .int (s.2.2.2.1 a 7), va_rf (s.2.2.2.2 a 8), va_rf (s.2.2.2.2 a 9), va_rf (s.2.2.2.2 a 10), va_rf (s.2.2.2.2 a 11), va_rf (s.2.2.2.2 a 12), va_rf (s.2.2.2.2 a 13), va_rf (s.2.2.2.2 a 14), va_rf (s.2.2.2.2 a 15), va_rf (s.2.2.2.2 a 16), va_rf (s.2.2.2.2 a 17)]
  | 6 => [va_rf (s.2.2.2.2 a 0), va_rf (s.2.2.2.2 a 1), va_rf (s.2.2.2.2 a 2), .int (s.2.2.2.1 a 3), va_rf (s.2.2.2.2 a 4), va_rf (s.2.2.2.2 a 5), va_rf (s.2.2.2.2 a 6), va_rf (s.2.2.2.2 a 7), va_rf (s.2.2.2.2 a 8), .int (s.2.2.2.1 a 9), va_rf (s.2.2.2.2 a 10)]
  | 7 => [va_rf (s.2.2.2.2 a 0), va_rf (s.2.2.2.2 a 1), va_rf (s.2.2.2.2 a 2), .int (s.2.2.2.1 a 3), va_rf (s.2.2.2.2 a 4), va_rf (s.2.2.2.2 a 5), va_rf (s.2.2.2.2 a 6), .int (s.2.2.2.1 a 7), .int (s.2.2.2.1 a 8), .int (s.2.2.2.1 a 9), .int (s.2.2.2.1 a 10), .int (s.2.2.2.1 a 11), .int (s.2.2.2.1 a 12), .int (s.2.2.2.1 a 13), va_rf (s.2.2.2.2 a 14), va_rf (s.2.2.2.2 a 15), va_rf (s.2.2.2.2 a 16), .int (s.2.2.2.1 a 17), .int (s.2.2.2.1 a 18), va_rf (s.2.2.2.2 a 19), .int (s.2.2.2.1 a 20), va_rf (s.2.2.2.2 a 21), va_rf (s.2.2.2.2 a 22), va_rf (s.2.2.2.2 a 23), va_rf (s.2.2.2.2 a 24), va_rf (s.2.2.2.2 a 25), va_rf (s.2.2.2.2 a 26), va_rf (s.2.2.2.2 a 27), va_rf (s.2.2.2.2 a 28), va_rf (s.2.2.2.2 a 29), va_rf (s.2.2.2.2 a 30), va_rf (s.2.2.2.2 a 31), va_rf (s.2.2.2.2 a 32), .int (s.2.2.2.1 a 33)]
  | _ => []
def hs_pic (E : jE) (s : hS) (a : Nat) : va_E :=
  if (s.2.2.1 a).1 < 8 then .inr ((s.2.2.1 a).1, hs_fs s a (s.2.2.1 a).1)
  else if (s.2.2.1 a).1 < 12 then .inl (E.2.2.2.1 (s.2.2.1 a).1, (s.2.2.1 a).2, .inl (s.2.2.2.1 a))
  else .inl (E.2.2.2.1 (s.2.2.1 a).1, (s.2.2.1 a).2, .inr (.inr (.inr (.inr (s.2.2.2.2 a)))))
def hs_ws (E : jE) (s : hS) : va_W := (List.range' E.2.1 (s.1 - E.2.1)).map (fun a => (a, hs_pic E s a))
def hs_A (E : jE) : Nat → Prop := fun q => E.2.1 ≤ q
def hs_tys (E : jE) : List (ClassId × FieldType) := [(E.2.2.2.1 8, .byte), (E.2.2.2.1 9, .char), (E.2.2.2.1 10, .int), (E.2.2.2.1 11, .boolean), (E.2.2.2.1 12, .object RX1), (E.2.2.2.1 13, .object RX2), (E.2.2.2.1 14, .object RX4)]
def hs_nest : List Cond := [.methodLinkNest "HeronTalk$Town" 119 ⟨"HeronTalk", "held", "(III)I"⟩ "HeronTalk", .methodLinkNest "HeronTalk$Town" 126 ⟨"HeronTalk", "isOfKind", "(II)Z"⟩ "HeronTalk", .methodLinkNest "HeronTalk$Town" 140 ⟨"HeronTalk", "goes", "(III)Z"⟩ "HeronTalk"]
def hs_above (j : Nat) : Int32 := if j = 0 then -1 else if j = 3 then 1 else if j = 4 then 2 else 0
def hs_byt : List (List Int32) := [[112, 114, 105, 99, 101], [108, 111, 111, 107], [102, 105, 110, 101]]
/-- of the tables alone -/
def hs_T (E : jE) (U : State) : Prop := va_K E.2.2.1 classes (hs_tys E) U ∧ (va_AO RX1 U ∧ va_AO RX2 U ∧ va_AO RX4 U) ∧ (va_Nw (.methodLinkNest "HeronTalk$Town" 119 ⟨"HeronTalk", "held", "(III)I"⟩ "HeronTalk") U ∧ va_Nw (.methodLinkNest "HeronTalk$Town" 126 ⟨"HeronTalk", "isOfKind", "(II)Z"⟩ "HeronTalk") U ∧ va_Nw (.methodLinkNest "HeronTalk$Town" 140 ⟨"HeronTalk", "goes", "(III)Z"⟩ "HeronTalk") U) ∧ vk_R RX0 81 "price" (E.2.2.2.2.2.1 0) U ∧ vk_R RX0 87 "look" (E.2.2.2.2.2.1 1) U ∧ vk_R RX0 89 "fine" (E.2.2.2.2.2.1 2) U
/-- of what nobody writes -/
def hs_Z (E : jE) (U : State) (H : Heap) : Prop := va_Z "HeronTalk" "ABOVE" "[I" (.ref E.2.2.2.2.1) (hs_A E) U H ∧ va_T .int E.2.2.2.2.1 6 (fun j => .int (hs_above j)) (hs_A E) U H ∧ va_Z "java/lang/String" "COMPACT_STRINGS" "Z" (.int 1) (hs_A E) U H ∧ va_Zq "jdk/internal/util/Preconditions" "SIOOBE_FORMATTER" "Ljava/util/function/BiFunction;" (hs_A E) U H ∧ vk_S 3 [5, 4, 4] hs_byt E.2.2.2.2.2.1 E.2.2.2.2.2.2.1 (hs_A E) U H ∧ (E.2.2.2.2.2.2.2.1 < E.2.1 ∧ va_X E.2.2.2.2.2.2.2.1 E.2.2.2.2.2.2.2.2.1 E.2.2.2.2.2.2.2.2.2 U H)
def hs_H (E : jE) (s : hS) (H : Heap) : Prop := E.2.1 ≤ s.1 ∧ H.size = s.1 ∧ va_P E.2.2.1 classes (hs_ws E s) H ∧ ∀ a, (s.2.2.1 a).1 < 15 → E.2.1 ≤ a ∧ a < s.1
def hs_W (E : jE) (s : hS) (U : State) : Prop := hs_T E U ∧ hs_Z E U U.heap ∧ hs_H E s U.heap
def hs_le (s t : hS) : Prop := s.1 ≤ t.1 ∧ s.2.1 ≤ t.2.1
theorem hs_le.rf (s : hS) : hs_le s s := ⟨Nat.le_refl _, Nat.le_refl _⟩
theorem hs_le.tr {s t u : hS} (h : hs_le s t) (h2 : hs_le t u) : hs_le s u := ⟨Nat.le_trans h.1 h2.1, Nat.le_trans h.2 h2.2⟩
theorem hs_T.warm {E : jE} {u U : State} (hW : u.WarmedH U.vm) (h : hs_T E u) : hs_T E U := by
  obtain ⟨h1, ⟨h2, h3, h4⟩, ⟨n0, n1, n2⟩, h5, h6, h7⟩ := h
  exact ⟨va_K.moved hW.alike h1, ⟨va_AO.moved hW.alike h2, va_AO.moved hW.alike h3, va_AO.moved hW.alike h4⟩, ⟨n0.warmM hW, n1.warmM hW, n2.warmM hW⟩, h5.warm hW, h6.warm hW, h7.warm hW⟩
theorem hs_Z.moved {E : jE} {u U : State} {H : Heap} (hvm : u.vm.Alike U.vm) (h : hs_Z E u H) : hs_Z E U H := ⟨h.1.moved hvm, h.2.1.moved hvm, h.2.2.1.moved hvm, h.2.2.2.1.moved hvm, h.2.2.2.2.1.moved hvm, h.2.2.2.2.2.1, h.2.2.2.2.2.2.moved hvm⟩
theorem hs_Z.kept {E : jE} {U : State} {H H1 : Heap} (h : hs_Z E U H) (hq : ∀ a : Nat, a < H.size → ¬ hs_A E a → H1[a]? = H[a]?) : hs_Z E U H1 := ⟨h.1.kept hq, h.2.1.kept hq, h.2.2.1.kept hq, h.2.2.2.1.kept hq, h.2.2.2.2.1.kept hq, h.2.2.2.2.2.1, h.2.2.2.2.2.2.kept (hq _ (by obtain ⟨scr, h1, -⟩ := h.2.2.2.2.2.2; exact (Array.getElem?_eq_some_iff.mp h1).1) (Nat.not_le.mpr h.2.2.2.2.2.1))⟩
theorem hs_ws_at {E : jE} {s : hS} {a : Nat} (h1 : E.2.1 ≤ a) (h2 : a < s.1) : (hs_ws E s)[a - E.2.1]? = some (a, hs_pic E s a) := by
  unfold hs_ws
  rw [List.getElem?_map, List.getElem?_range' (by omega)]
  simp
  constructor <;> (try congr 1) <;> omega
theorem hs_ws_mem {E : jE} {s : hS} {k : Nat} {q : Nat × va_E} (h : (hs_ws E s)[k]? = some q) : q.1 = E.2.1 + k ∧ E.2.1 + k < s.1 ∧ q.2 = hs_pic E s q.1 := by
  unfold hs_ws at h
  rw [List.getElem?_map] at h
  by_cases hk : k < s.1 - E.2.1
  · rw [List.getElem?_range' hk] at h
    simp at h
    subst h
    exact ⟨rfl, by omega, rfl⟩
  · rw [List.getElem?_eq_none (by simp; omega)] at h
    cases h
theorem hs_D (E : jE) (s : hS) : va_D (hs_A E) (hs_ws E s) := by
  refine ⟨fun i j p q hi hj e => ?_, fun k q hk => ?_⟩
  · have h1 := (hs_ws_mem hi).1
    have h2 := (hs_ws_mem hj).1
    omega
  · have h1 := (hs_ws_mem hk).1
    show E.2.1 ≤ q.1
    omega
theorem hs_ws_set {E : jE} {s s' : hS} {a : Nat} {e : va_E} (h1 : E.2.1 ≤ a) (h2 : a < s.1) (hn : s'.1 = s.1) (he : hs_pic E s' a = e) (ho : ∀ b, b ≠ a → hs_pic E s' b = hs_pic E s b) : (hs_ws E s).set (a - E.2.1) (a, e) = hs_ws E s' := by
  apply List.ext_getElem?
  intro k
  by_cases hk : k = a - E.2.1
  · subst hk
    rw [hs_ws_at h1 (by rw [hn]; exact h2), he]
    rw [List.getElem?_set_self]
    unfold hs_ws
    simp
    omega
  · rw [List.getElem?_set_ne (Ne.symm hk)]
    unfold hs_ws
    rw [List.getElem?_map, List.getElem?_map, hn]
    by_cases hl : k < s.1 - E.2.1
    · rw [List.getElem?_range' hl]
      simp
      rw [ho]
      omega
    · rw [List.getElem?_eq_none (by simp; omega)]
      rfl
theorem hs_ws_push {E : jE} {s s' : hS} {e : va_E} (h1 : E.2.1 ≤ s.1) (hn : s'.1 = s.1 + 1) (he : hs_pic E s' s.1 = e) (ho : ∀ b, b < s.1 → hs_pic E s' b = hs_pic E s b) : hs_ws E s ++ [(s.1, e)] = hs_ws E s' := by
  unfold hs_ws
  rw [hn, show s.1 + 1 - E.2.1 = (s.1 - E.2.1) + 1 by omega, List.range'_concat, List.map_append]
  have e1 : E.2.1 + 1 * (s.1 - E.2.1) = s.1 := by omega
  rw [e1]
  congr 1
  · apply List.map_congr_left
    intro b hb
    rw [ho]
    have := List.mem_range'_1.mp hb
    omega
  · simp [he]
theorem hs_in {E : jE} {s : hS} {H : Heap} (h : hs_H E s H) {a c : Nat} (hc : (s.2.2.1 a).1 = c) (h15 : c < 15) : (hs_ws E s)[a - E.2.1]? = some (a, hs_pic E s a) := by
  obtain ⟨h1, h2⟩ := h.2.2.2 a (by rw [hc]; exact h15)
  exact hs_ws_at h1 h2
