def gI (s : hS) (a c k : Nat) : Option Int32 := if (s.2.2.1 a).1 = c then some (s.2.2.2.1 a k) else none
def gR (s : hS) (a c k : Nat) : Option Nat := if (s.2.2.1 a).1 = c then s.2.2.2.2 a k else none
def uI (s : hS) (a k : Nat) (v : Int32) : hS := (s.1, s.2.1, s.2.2.1, fun b j => if b = a ∧ j = k then v else s.2.2.2.1 b j, s.2.2.2.2)
def uR (s : hS) (a k : Nat) (v : Option Nat) : hS := (s.1, s.2.1, s.2.2.1, s.2.2.2.1, fun b j => if b = a ∧ j = k then v else s.2.2.2.2 b j)
def pI (s : hS) (a c k : Nat) (v : Int32) : Option hS := if (s.2.2.1 a).1 = c then some (uI s a k v) else none
def pZ (s : hS) (a c k : Nat) (v : Int32) : Option hS := if (s.2.2.1 a).1 = c ∧ (v = 0 ∨ v = 1) then some (uI s a k v) else none
def pR (s : hS) (a c k b : Nat) : Option hS := if (s.2.2.1 a).1 = c then some (uR s a k (some b)) else none
def aI (s : hS) (a t : Nat) (i : Int32) : Option Int32 := if (s.2.2.1 a).1 = t ∧ ¬ (i < 0 ∨ (s.2.2.1 a).2 ≤ i.toNatClampNeg) then some (s.2.2.2.1 a i.toNatClampNeg) else none
def aR (s : hS) (a t : Nat) (i : Int32) : Option Nat := if (s.2.2.1 a).1 = t ∧ ¬ (i < 0 ∨ (s.2.2.1 a).2 ≤ i.toNatClampNeg) then s.2.2.2.2 a i.toNatClampNeg else none
def aL (s : hS) (a t : Nat) : Option Int32 := if (s.2.2.1 a).1 = t then some (Int32.ofNat (s.2.2.1 a).2) else none
def sI (s : hS) (a t : Nat) (i x : Int32) : Option hS := if (s.2.2.1 a).1 = t ∧ ¬ (i < 0 ∨ (s.2.2.1 a).2 ≤ i.toNatClampNeg) then some (uI s a i.toNatClampNeg x) else none
def sR (s : hS) (a t : Nat) (i : Int32) (b c : Nat) : Option hS := if (s.2.2.1 a).1 = t ∧ (s.2.2.1 b).1 = c ∧ ¬ (i < 0 ∨ (s.2.2.1 a).2 ≤ i.toNatClampNeg) then some (uR s a i.toNatClampNeg (some b)) else none
def nO (s : hS) (c N : Nat) : hS := (s.1 + 1, s.2.1 + N, fun b => if b = s.1 then (c, N) else s.2.2.1 b, fun b j => if b = s.1 then 0 else s.2.2.2.1 b j, fun b j => if b = s.1 then none else s.2.2.2.2 b j)
def nA (s : hS) (t : Nat) (n : Int32) : Option hS := if ¬ n < 0 ∧ n.toNatClampNeg ≤ 100000 then some (nO s t n.toNatClampNeg) else none
def cV {α : Type} (s : hS) (a c : Nat) (o : Option α) : Option α := if (s.2.2.1 a).1 = c then o else none
theorem hs_fs_congr {s t : hS} {b : Nat} (h1 : t.2.2.2.1 b = s.2.2.2.1 b) (h2 : t.2.2.2.2 b = s.2.2.2.2 b) (c : Nat) : hs_fs t b c = hs_fs s b c := by
  unfold hs_fs
  rw [h1, h2]
theorem hs_pic_congr {E : jE} {s t : hS} {b : Nat} (h0 : t.2.2.1 b = s.2.2.1 b) (h1 : t.2.2.2.1 b = s.2.2.2.1 b) (h2 : t.2.2.2.2 b = s.2.2.2.2 b) : hs_pic E t b = hs_pic E s b := by
  unfold hs_pic
  rw [h0, hs_fs_congr h1 h2, h1, h2]
theorem uI_I {s : hS} {a k b : Nat} {v : Int32} (h : b ≠ a) : (uI s a k v).2.2.2.1 b = s.2.2.2.1 b := by
  funext j
  simp [uI, h]
theorem uR_R {s : hS} {a k b : Nat} {v : Option Nat} (h : b ≠ a) : (uR s a k v).2.2.2.2 b = s.2.2.2.2 b := by
  funext j
  simp [uR, h]
theorem uI_self (s : hS) (a k : Nat) (v : Int32) : (uI s a k v).2.2.2.1 a = upd (s.2.2.2.1 a) k v := by
  funext j
  simp [uI, upd]
theorem uR_self (s : hS) (a k : Nat) (v : Option Nat) : (uR s a k v).2.2.2.2 a = va_up (s.2.2.2.2 a) k v := by
  funext j
  simp [uR, va_up]
theorem hs_H.at {E : jE} {s : hS} {H : Heap} (h : hs_H E s H) {a c : Nat} (hc : (s.2.2.1 a).1 = c) (h15 : c < 15) : va_at E.2.2.1 classes (a, hs_pic E s a) H := h.2.2.1 _ _ (hs_in h hc h15)
/-- one cell is written -/
theorem hs_H.put {E : jE} {s t : hS} {H H1 : Heap} {a : Nat} (h : hs_H E s H) (hn : t.1 = s.1) (hk : ∀ b, (t.2.2.1 b).1 = (s.2.2.1 b).1) (ho : ∀ b, b ≠ a → hs_pic E t b = hs_pic E s b) (z : H1.size = H.size) (oq : ∀ q : Nat, q ≠ a → H1[q]? = H[q]?) (ha : va_at E.2.2.1 classes (a, hs_pic E t a) H1) : hs_H E t H1 := by
  refine ⟨by rw [hn]; exact h.1, by rw [z, hn]; exact h.2.1, ?_, fun b hb => by rw [hn]; exact h.2.2.2 b (by rw [← hk b]; exact hb)⟩
  intro k q hq
  obtain ⟨e1, e2, e3⟩ := hs_ws_mem hq
  obtain ⟨b, e⟩ := q
  dsimp only at e1 e2 e3
  subst e3
  by_cases hb : b = a
  · subst hb
    exact ha
  · rw [ho b hb]
    have h3 := h.2.2.1 (b - E.2.1) _ (hs_ws_at (E := E) (s := s) (a := b) (by omega) (by omega))
    exact h3.kept (oq b hb)
/-- one cell is made -/
theorem hs_H.push {E : jE} {s : hS} {H H1 : Heap} {c N : Nat} (h : hs_H E s H) (z : H1.size = H.size + 1) (oq : ∀ q : Nat, q < H.size → H1[q]? = H[q]?) (ha : va_at E.2.2.1 classes (s.1, hs_pic E (nO s c N) s.1) H1) : hs_H E (nO s c N) H1 := by
  have hs := h.1
  have hz := h.2.1
  refine ⟨by show E.2.1 ≤ s.1 + 1; omega, by show H1.size = s.1 + 1; omega, ?_, fun b hb => ?_⟩
  · intro k q hq
    obtain ⟨e1, e2, e3⟩ := hs_ws_mem hq
    obtain ⟨b, e⟩ := q
    dsimp only at e1 e2 e3
    subst e3
    by_cases hb : b = s.1
    · subst hb
      exact ha
    · have e2' : E.2.1 + k < s.1 + 1 := e2
      have hp : hs_pic E (nO s c N) b = hs_pic E s b := hs_pic_congr (by simp [nO, hb]) (by funext j; simp [nO, hb]) (by funext j; simp [nO, hb])
      rw [hp]
      have h3 := h.2.2.1 (b - E.2.1) _ (hs_ws_at (E := E) (s := s) (a := b) (by omega) (by omega))
      exact h3.kept (oq b (by omega))
  · by_cases hb2 : b = s.1
    · subst hb2
      exact ⟨hs, by show s.1 < s.1 + 1; omega⟩
    · have h4 : (s.2.2.1 b).1 < 15 := by simpa [nO, hb2] using hb
      have h5 := h.2.2.2 b h4
      exact ⟨h5.1, by show b < s.1 + 1; omega⟩
/-- what a field's tables say -/
def fF (c k : Nat) (C : String) (T : u_T) (N : Nat) (ty : Nat → FieldType) : Prop := classes[c]? = some (C, T, N) ∧ k < N ∧ (∀ w ∈ u_ws C T N, w ∈ tbG) ∧ (∀ k, k < N → parseFieldDescriptor (T k).2.2.1 = some (ty k)) ∧ (∀ a, a < N → ∀ b, b < N → a ≠ b → (T a).2.1 ≠ (T b).2.1) ∧ c < 8
def fI (c k : Nat) : Prop := (∀ (s : hS) (a : Nat), (hs_fs s a c)[k]? = some (.int (s.2.2.2.1 a k))) ∧ ∀ (s : hS) (a : Nat) (v : Int32), hs_fs (uI s a k v) a c = (hs_fs s a c).set k (.int v)
def fR (c k : Nat) : Prop := (∀ (s : hS) (a : Nat), (hs_fs s a c)[k]? = some (va_rf (s.2.2.2.2 a k))) ∧ ∀ (s : hS) (a : Nat) (v : Option Nat), hs_fs (uR s a k v) a c = (hs_fs s a c).set k (va_rf v)
theorem hs_picO {E : jE} {s : hS} {a c : Nat} (h : (s.2.2.1 a).1 = c) (hc : c < 8) : hs_pic E s a = .inr (c, hs_fs s a c) := by
  unfold hs_pic
  rw [h, if_pos hc]
theorem hs_picI {E : jE} {s : hS} {a c : Nat} (h : (s.2.2.1 a).1 = c) (h8 : ¬ c < 8) (hc : c < 12) : hs_pic E s a = .inl (E.2.2.2.1 c, (s.2.2.1 a).2, .inl (s.2.2.2.1 a)) := by
  unfold hs_pic
  rw [h, if_neg h8, if_pos hc]
theorem hs_picR {E : jE} {s : hS} {a c : Nat} (h : (s.2.2.1 a).1 = c) (hc : ¬ c < 12) : hs_pic E s a = .inl (E.2.2.2.1 c, (s.2.2.1 a).2, .inr (.inr (.inr (.inr (s.2.2.2.2 a))))) := by
  unfold hs_pic
  rw [h, if_neg (by omega), if_neg hc]
section JH
variable {α : Type} {E : jE} {M : jM} {cv : α → Option Value} {pc q : Nat} {ls ls' : List (Nat × Value)} {st : List Value} {s : hS} {o : Option (α × hS)}
/-- a read of the heap -/
theorem Jo.read {st' : List Value} (h : ∀ (p : Program) (e : Env) (R : Room) (s0 : State) (m : MethodId) (args : Array Value) (below : List Frame) (meth : Method) (c : Code) (H : Heap) (locs : List Loc) (cells slots : Nat) (lsA : Array Slot) (Q : State → Prop),
    jCx E M p R s0 m args meth c → hs_H E s H → va_S (hs_A E) s0.heap H locs → W p E.1 e R s0 m args below meth c H locs cells slots Q (F0 m q lsA st') → W p E.1 e R s0 m args below meth c H locs cells slots Q (F0 m pc lsA st))
    (k : Jo E M cv q ls st' s o) : Jo E M cv pc ls st s o := fun r hr =>
  ⟨(k r hr).1, fun p e R s0 m args below meth c H locs cells slots lsA C hH hS h1 h2 hl => h p e R s0 m args below meth c H locs cells slots lsA _ C hH hS ((k r hr).2 p e R s0 m args below meth c H locs cells slots lsA C hH hS h1 h2 hl)⟩
/-- a write -/
theorem Jo.write {s' : hS} {st' : List Value} (hn : s'.1 = s.1) (hw : s'.2.1 = s.2.1) (h : ∀ (p : Program) (e : Env) (R : Room) (s0 : State) (m : MethodId) (args : Array Value) (below : List Frame) (meth : Method) (c : Code) (H : Heap) (locs : List Loc) (cells slots : Nat) (lsA : Array Slot) (Q : State → Prop),
    jCx E M p R s0 m args meth c → hs_H E s H → va_S (hs_A E) s0.heap H locs → lsA.size = M.2.2.1 → (∀ (H1 : Heap) (locs1 : List Loc), hs_H E s' H1 → va_S (hs_A E) s0.heap H1 locs1 → W p E.1 e R s0 m args below meth c H1 locs1 cells slots Q (F0 m q lsA st')) → W p E.1 e R s0 m args below meth c H locs cells slots Q (F0 m pc lsA st))
    (k : Jo E M cv q ls st' s' o) : Jo E M cv pc ls st s o := by
  intro r hr
  have hk := k r hr
  refine ⟨⟨by rw [← hn]; exact hk.1.1, by rw [← hw]; exact hk.1.2⟩, fun p e R s0 m args below meth c H locs cells slots lsA C hH hS h1 h2 hl => ?_⟩
  refine h p e R s0 m args below meth c H locs cells slots lsA _ C hH hS hl.1 fun H1 locs1 hH1 hS1 => ?_
  have h3 := hk.2 p e R s0 m args below meth c H1 locs1 cells slots lsA C hH1 hS1 (by rw [hn]; exact h1) (by rw [hw]; exact h2) hl
  rw [hn, hw] at h3
  exact h3
theorem Jo_getI {c k idx a : Nat} {C : String} {T : u_T} {N : Nat} {ty : Nat → FieldType} {g : Int32 → Option (α × hS)} (hf : fF c k C T N ty) (hfi : fI c k) (hd : dI M.2.1 pc q (.getfield idx) 3) (hl : Cond.fieldLink M.1 idx (T k).1 (T k).2.1 (T k).2.2.1 ∈ tbG)
    (kk : ∀ x, Jo E M cv q ls (.int x :: st) s (g x)) : Jo E M cv pc ls (.ref a :: st) s ((gI s a c k).bind g) := by
  by_cases hc : (s.2.2.1 a).1 = c
  · obtain ⟨hd, rfl⟩ := hd
    rw [show gI s a c k = some (s.2.2.2.1 a k) by simp [gI, hc]]
    refine Jo.read (fun p e R s0 m args below meth cd H locs cells slots lsA Q C hH hS k9 => ?_) (kk _)
    exact va_get (v := .int (s.2.2.2.1 a k)) C.1 C.2.1 C.2.2.2.2.1 hf.2.2.1 C.2.2.2.1 C.2.2.2.2.2.2.2.2.2.1.1 hH.2.2.1 (a - E.2.1) (by rw [hs_in hH hc (by have := hf.2.2.2.2.2; omega), hs_picO hc hf.2.2.2.2.2]) hf.1 k hf.2.1 (C.2.2.2.2.1 _ hl) (fun _ h => h) (hfi.1 s a) hd k9
  · rw [show gI s a c k = none by simp [gI, hc]]
    exact Jo_none
theorem Jo_getR {c k idx a : Nat} {C : String} {T : u_T} {N : Nat} {ty : Nat → FieldType} {g : Nat → Option (α × hS)} (hf : fF c k C T N ty) (hfi : fR c k) (hd : dI M.2.1 pc q (.getfield idx) 3) (hl : Cond.fieldLink M.1 idx (T k).1 (T k).2.1 (T k).2.2.1 ∈ tbG)
    (kk : ∀ x, Jo E M cv q ls (.ref x :: st) s (g x)) : Jo E M cv pc ls (.ref a :: st) s ((gR s a c k).bind g) := by
  by_cases hc : (s.2.2.1 a).1 = c
  · obtain ⟨hd, rfl⟩ := hd
    rw [show gR s a c k = s.2.2.2.2 a k by simp [gR, hc]]
    cases hx : s.2.2.2.2 a k with
    | none => exact Jo_none
    | some b =>
      refine Jo.read (fun p e R s0 m args below meth cd H locs cells slots lsA Q C hH hS k9 => ?_) (kk b)
      exact va_get (v := .ref b) C.1 C.2.1 C.2.2.2.2.1 hf.2.2.1 C.2.2.2.1 C.2.2.2.2.2.2.2.2.2.1.1 hH.2.2.1 (a - E.2.1) (by rw [hs_in hH hc (by have := hf.2.2.2.2.2; omega), hs_picO hc hf.2.2.2.2.2]) hf.1 k hf.2.1 (C.2.2.2.2.1 _ hl) (fun _ h => h) (by rw [hfi.1 s a, hx]; rfl) hd k9
  · rw [show gR s a c k = none by simp [gR, hc]]
    exact Jo_none
/-- a field's store, over the machine -/
theorem put_core {p : Program} {e : Env} {R : Room} {s0 : State} {m : MethodId} {args : Array Value} {below : List Frame} {meth : Method} {cd : Code} {H : Heap} {locs : List Loc} {cells slots : Nat} {lsA : Array Slot} {Q : State → Prop} {c k idx a : Nat} {C : String} {T : u_T} {N : Nat} {ty : Nat → FieldType} {v : Value} {s' : hS}
    (hf : fF c k C T N ty) (hfin : (T k).2.2.2 = false ∨ ((T k).2.2.2 = true ∧ M.2.2.2.2.1 = "<init>" ∧ (T k).1 = M.1)) (hd : decode M.2.1 pc = .ok (.putfield idx, 3)) (hl : Cond.fieldLink M.1 idx (T k).1 (T k).2.1 (T k).2.2.1 ∈ tbG) (hn : narrow (ty k) v = v) (hfit : fits (ty k) v = true)
    (C0 : jCx E M p R s0 m args meth cd) (hH : hs_H E s H) (hS : va_S (hs_A E) s0.heap H locs) (hc : (s.2.2.1 a).1 = c) (hlen : k < (hs_fs s a c).length)
    (e0 : s'.1 = s.1) (e1 : s'.2.2.1 = s.2.2.1) (e2 : ∀ b, b ≠ a → hs_pic E s' b = hs_pic E s b) (e3 : hs_fs s' a c = (hs_fs s a c).set k v)
    (kk : ∀ (H1 : Heap) (locs1 : List Loc), hs_H E s' H1 → va_S (hs_A E) s0.heap H1 locs1 → W p E.1 e R s0 m args below meth cd H1 locs1 cells slots Q (F0 m (pc + 3) lsA st)) : W p E.1 e R s0 m args below meth cd H locs cells slots Q (F0 m pc lsA (v :: .ref a :: st)) := by
  obtain ⟨hcl, hkN, hin, hty, hnm, h8⟩ := hf
  have hts := C0.2.2.2.2.1
  have hown := C0.2.2.2.1
  have hK : va_K E.2.2.1 classes (hs_tys E) s0 := C0.2.2.2.2.2.2.2.2.2.1.1
  have hlink := hts _ hl
  have hap := va_apart (own := M.1) hts hin ty hty hnm hK hcl
  have hat := hH.at hc (by omega : c < 15)
  rw [hs_picO hc h8] at hat
  obtain ⟨r, h1, cell, q1, q2, q3, q4⟩ := hat
  have hr : r = (C, T, N) := Option.some.inj (h1.symm.trans hcl)
  subst hr
  obtain ⟨hSl, hfc, kC, hkC, hkind⟩ := hK.1 c _ hcl
  obtain ⟨cf, kf, fi, f, hi, hsl⟩ := hSl k hkN
  have hst := (u_facts hfc hkC (u_lays hts hin hkN) hi).1
  have hlay := hts _ (hin _ (u_in_lay hkN))
  have hin3 := hH.2.2.2 a (by rw [hc]; omega)
  have key : ∀ H1 : Heap, H1[a]? = some (cell.setSlot (E.2.2.1.2 c k) v) → H1.size = H.size → (∀ q, q ≠ a → H1[q]? = H[q]?) → W p E.1 e R s0 m args below meth cd H1 (locs ++ [⟨a, f.slot⟩]) cells slots Q (F0 m (pc + 3) lsA st) := by
    intro H1 g1 g2 g3
    refine kk H1 _ (hH.put e0 (fun b => by rw [e1]) e2 g2 g3 ?_) (hS.put g2 g3 hin3.1)
    rw [hs_picO (by rw [e1]; exact hc) h8, e3]
    exact ⟨_, hcl, t_OB.to (V := updV (vp_V (hs_fs s a c)) k v) ⟨_, g1, q2, q3, t_set q4 hap hkN v⟩ (fun j _ => vp_updV_set hlen v j)⟩
  rcases hfin with hfin | ⟨hfin, hini, hdecl⟩
  · unfold u_lay at hlay
    rw [if_neg (by rw [hfin]; decide)] at hlay
    have h6 := u_store hfc hkC hkind hlay hi (hty k hkN) hn hfit
    refine W.putK C0.1 C0.2.1 (f := f) ⟨hown, hlink, ⟨_, _, _, hi⟩, hst⟩ (by rw [q2]; exact h6) q1 q3 (by rw [hsl]; exact k2_hasslot (q4 k hkN)) rfl rfl hd fun H' g1 g2 g3 => ?_
    rw [hsl] at g1
    exact key H' g1 g2 g3
  · unfold u_lay at hlay
    rw [if_pos hfin] at hlay
    have hcf : m.cls = cf := by
      obtain ⟨_, _, c', _, _, _, -, -, hf', -, -, -, hown2, -⟩ := Cond.laysFinal_spec hlay
      have e1 : c' = cf := by have := hi.symm.trans hf'; simp at this; exact this.1.symm
      rw [hdecl] at hown2
      rw [← e1]; exact Option.some.inj (hown.symm.trans hown2)
    have h6 := u_fits hfc hkC hkind (Or.inr hlay) hi (hty k hkN) hn hfit
    refine W.putFinK C0.1 C0.2.1 hown hlink hi hst hcf (by rw [C0.2.2.2.2.2.2.2.2.1]; exact hini) (by rw [q2]; exact h6) q1 q3 (by rw [hsl]; exact k2_hasslot (q4 k hkN)) rfl rfl hd fun H' g1 g2 g3 => ?_
    rw [hsl] at g1
    exact key H' g1 g2 g3
end JH
