/-! the constructors: run at address 0 by the kernel, and moved -/
def sh (B : Nat) (s : hS) : hS := (s.1 + B, s.2.1, fun a => if a < B then (15, 0) else s.2.2.1 (a - B), fun a k => if a < B then 0 else s.2.2.2.1 (a - B) k, fun a k => if a < B then none else (s.2.2.2.2 (a - B) k).map (· + B))
theorem sh_K (B : Nat) (s : hS) (a : Nat) : (sh B s).2.2.1 (a + B) = s.2.2.1 a := by
  have h : ¬ a + B < B := by omega
  simp [sh, h]
theorem sh_I (B : Nat) (s : hS) (a k : Nat) : (sh B s).2.2.2.1 (a + B) k = s.2.2.2.1 a k := by
  have h : ¬ a + B < B := by omega
  simp [sh, h]
theorem sh_R (B : Nat) (s : hS) (a k : Nat) : (sh B s).2.2.2.2 (a + B) k = (s.2.2.2.2 a k).map (· + B) := by
  have h : ¬ a + B < B := by omega
  simp [sh, h]
theorem sh_uI (B : Nat) (s : hS) (a k : Nat) (v : Int32) : uI (sh B s) (a + B) k v = sh B (uI s a k v) := by
  unfold uI sh
  refine Prod.ext rfl (Prod.ext rfl (Prod.ext rfl (Prod.ext ?_ rfl)))
  funext b j
  dsimp only
  by_cases hb : b < B
  · rw [if_pos hb, if_neg (by omega), if_pos hb]
  · rw [if_neg hb, if_neg hb]
    by_cases h : b = a + B ∧ j = k
    · rw [if_pos h, if_pos ⟨by omega, h.2⟩]
    · rw [if_neg h, if_neg (fun g => h ⟨by omega, g.2⟩)]
theorem sh_uR (B : Nat) (s : hS) (a k b : Nat) : uR (sh B s) (a + B) k (some (b + B)) = sh B (uR s a k (some b)) := by
  unfold uR sh
  refine Prod.ext rfl (Prod.ext rfl (Prod.ext rfl (Prod.ext rfl ?_)))
  funext c j
  dsimp only
  by_cases hb : c < B
  · rw [if_pos hb, if_neg (by omega), if_pos hb]
  · rw [if_neg hb, if_neg hb]
    by_cases h : c = a + B ∧ j = k
    · rw [if_pos h, if_pos ⟨by omega, h.2⟩]; rfl
    · rw [if_neg h, if_neg (fun g => h ⟨by omega, g.2⟩)]
theorem sh_nO (B : Nat) (s : hS) (c N : Nat) : nO (sh B s) c N = sh B (nO s c N) := by
  unfold nO sh
  refine Prod.ext (by show s.1 + B + 1 = s.1 + 1 + B; omega) (Prod.ext rfl (Prod.ext ?_ (Prod.ext ?_ ?_)))
  · funext b
    dsimp only
    by_cases h1 : b < B
    · rw [if_neg (by omega), if_pos h1, if_pos h1]
    · rw [if_neg h1, if_neg h1]
      by_cases h2 : b = s.1 + B
      · rw [if_pos h2, if_pos (by omega)]
      · rw [if_neg h2, if_neg (by omega)]
  · funext b j
    dsimp only
    by_cases h1 : b < B
    · rw [if_neg (by omega), if_pos h1, if_pos h1]
    · rw [if_neg h1, if_neg h1]
      by_cases h2 : b = s.1 + B
      · rw [if_pos h2, if_pos (by omega)]
      · rw [if_neg h2, if_neg (by omega)]
  · funext b j
    dsimp only
    by_cases h1 : b < B
    · rw [if_neg (by omega), if_pos h1, if_pos h1]
    · rw [if_neg h1, if_neg h1]
      by_cases h2 : b = s.1 + B
      · rw [if_pos h2, if_pos (by omega)]; rfl
      · rw [if_neg h2, if_neg (by omega)]
def mv {α : Type} (B : Nat) (o : Option (α × hS)) : Option (α × hS) := o.map (fun p => (p.1, sh B p.2))
def mw (B : Nat) (o : Option hS) : Option hS := o.map (sh B)
theorem co_b {α : Type} {B : Nat} {o o' : Option hS} {g g' : hS → Option (α × hS)} (h : o' = mw B o) (hk : ∀ t, g' (sh B t) = mv B (g t)) : o'.bind g' = mv B (o.bind g) := by
  subst h
  cases o with
  | none => rfl
  | some t => exact hk t
theorem co_c {α β : Type} {B : Nat} {o o' : Option (β × hS)} {g g' : β × hS → Option (α × hS)} (h : o' = mv B o) (hk : ∀ v t, g' (v, sh B t) = mv B (g (v, t))) : o'.bind g' = mv B (o.bind g) := by
  subst h
  cases o with
  | none => rfl
  | some t => exact hk t.1 t.2
theorem co_r {α : Type} {B : Nat} {o o' : Option Nat} {g g' : Nat → Option (α × hS)} (h : o' = o.map (· + B)) (hk : ∀ a, g' (a + B) = mv B (g a)) : o'.bind g' = mv B (o.bind g) := by
  subst h
  cases o with
  | none => rfl
  | some t => exact hk t
theorem co_if {α : Type} {B : Nat} {c : Prop} [Decidable c] {o1 o2 o1' o2' : Option (α × hS)} (h1 : o1' = mv B o1) (h2 : o2' = mv B o2) : (if c then o1' else o2') = mv B (if c then o1 else o2) := by
  by_cases h : c
  · rw [if_pos h, if_pos h, h1]
  · rw [if_neg h, if_neg h, h2]
theorem co_pI (B : Nat) (s : hS) (a c k : Nat) (v : Int32) : pI (sh B s) (a + B) c k v = mw B (pI s a c k v) := by
  unfold pI
  rw [sh_K]
  by_cases h : (s.2.2.1 a).1 = c
  · rw [if_pos h, if_pos h, sh_uI]; rfl
  · rw [if_neg h, if_neg h]; rfl
theorem co_pZ (B : Nat) (s : hS) (a c k : Nat) (v : Int32) : pZ (sh B s) (a + B) c k v = mw B (pZ s a c k v) := by
  unfold pZ
  rw [sh_K]
  by_cases h : (s.2.2.1 a).1 = c ∧ (v = 0 ∨ v = 1)
  · rw [if_pos h, if_pos h, sh_uI]; rfl
  · rw [if_neg h, if_neg h]; rfl
theorem co_pR (B : Nat) (s : hS) (a c k b : Nat) : pR (sh B s) (a + B) c k (b + B) = mw B (pR s a c k b) := by
  unfold pR
  rw [sh_K]
  by_cases h : (s.2.2.1 a).1 = c
  · rw [if_pos h, if_pos h, sh_uR]; rfl
  · rw [if_neg h, if_neg h]; rfl
theorem co_gR (B : Nat) (s : hS) (a c k : Nat) : gR (sh B s) (a + B) c k = (gR s a c k).map (· + B) := by
  unfold gR
  rw [sh_K, sh_R]
  by_cases h : (s.2.2.1 a).1 = c
  · rw [if_pos h, if_pos h]
  · rw [if_neg h, if_neg h]; rfl
theorem co_sI (B : Nat) (s : hS) (a t : Nat) (i v : Int32) : sI (sh B s) (a + B) t i v = mw B (sI s a t i v) := by
  unfold sI
  rw [sh_K]
  by_cases h : (s.2.2.1 a).1 = t ∧ ¬ (i < 0 ∨ (s.2.2.1 a).2 ≤ i.toNatClampNeg)
  · rw [if_pos h, if_pos h, sh_uI]; rfl
  · rw [if_neg h, if_neg h]; rfl
theorem co_sR (B : Nat) (s : hS) (a t : Nat) (i : Int32) (b c : Nat) : sR (sh B s) (a + B) t i (b + B) c = mw B (sR s a t i b c) := by
  unfold sR
  rw [sh_K, sh_K]
  by_cases h : (s.2.2.1 a).1 = t ∧ (s.2.2.1 b).1 = c ∧ ¬ (i < 0 ∨ (s.2.2.1 a).2 ≤ i.toNatClampNeg)
  · rw [if_pos h, if_pos h, sh_uR]; rfl
  · rw [if_neg h, if_neg h]; rfl
theorem co_nB (B : Nat) (s : hS) (c N : Nat) : nB (sh B s) c N = mw B (nB s c N) := by
  unfold nB
  rw [sh_nO]; rfl
theorem co_nA (B : Nat) (s : hS) (t : Nat) (n : Int32) : nA (sh B s) t n = mw B (nA s t n) := by
  unfold nA
  by_cases h : ¬ n < 0 ∧ n.toNatClampNeg ≤ 100000
  · rw [if_pos h, if_pos h, sh_nO]; rfl
  · rw [if_neg h, if_neg h]; rfl
theorem co_X5 (B : Nat) (s : hS) (a : Nat) : f_X5_init (sh B s) (a + B) = mv B (f_X5_init s a) := by
  unfold f_X5_init
  repeat (first | refine co_b (co_pI B _ _ _ _ _) (fun _ => ?_) | refine co_b (co_nA B _ _ _) (fun _ => ?_) | refine co_b (co_pR B _ _ _ _ _) (fun _ => ?_))
  rfl
theorem co_X3 (B : Nat) (s : hS) (a : Nat) : f_X3_init (sh B s) (a + B) = mv B (f_X3_init s a) := by
  unfold f_X3_init
  repeat (first | refine co_b (co_pI B _ _ _ _ _) (fun _ => ?_) | refine co_b (co_nA B _ _ _) (fun _ => ?_) | refine co_b (co_pR B _ _ _ _ _) (fun _ => ?_))
  rfl
theorem co_X1 (B : Nat) (s : hS) (a : Nat) : f_X1_init (sh B s) (a + B) = mv B (f_X1_init s a) := by
  unfold f_X1_init
  repeat (first | refine co_b (co_pI B _ _ _ _ _) (fun _ => ?_) | refine co_b (co_nA B _ _ _) (fun _ => ?_) | refine co_b (co_pR B _ _ _ _ _) (fun _ => ?_))
  rfl
theorem co_X0 (B : Nat) (s : hS) (a : Nat) : f_X0_init (sh B s) (a + B) = mv B (f_X0_init s a) := by
  unfold f_X0_init
  repeat (first | refine co_b (co_pI B _ _ _ _ _) (fun _ => ?_) | refine co_b (co_nA B _ _ _) (fun _ => ?_) | refine co_b (co_nB B _ _ _) (fun _ => ?_) | refine co_b (co_pR B _ _ _ _ _) (fun _ => ?_) | refine co_c (co_X3 B _ _) (fun _ _ => ?_))
  rfl
theorem co_X2 (B : Nat) (s : hS) (a : Nat) : f_X2_init (sh B s) (a + B) = mv B (f_X2_init s a) := by
  unfold f_X2_init
  repeat (first | refine co_b (co_pI B _ _ _ _ _) (fun _ => ?_) | refine co_b (co_nA B _ _ _) (fun _ => ?_) | refine co_b (co_nB B _ _ _) (fun _ => ?_) | refine co_b (co_pR B _ _ _ _ _) (fun _ => ?_) | refine co_c (co_X1 B _ _) (fun _ _ => ?_))
  rfl
theorem co_108 (B : Nat) (n : Nat) : ∀ (a : Nat) (i : Int32) (s : hS), jL f_X6_init_b108 (fun _ _ _ => none) n (a + B) i (sh B s) = mv B (jL f_X6_init_b108 (fun _ _ _ => none) n a i s) := by
  induction n with
  | zero => intro a i s; rfl
  | succ n ih =>
    intro a i s
    show f_X6_init_b108 _ (a + B) i (sh B s) = mv B (f_X6_init_b108 _ a i s)
    unfold f_X6_init_b108
    refine co_if ?_ ?_
    · repeat (first | refine co_b (co_pI B _ _ _ _ _) (fun _ => ?_) | refine co_b (co_nA B _ _ _) (fun _ => ?_) | refine co_b (co_nB B _ _ _) (fun _ => ?_) | refine co_b (co_pR B _ _ _ _ _) (fun _ => ?_))
      rfl
    · refine co_r (co_gR B _ _ _ _) (fun _ => ?_)
      refine co_b (co_nB B _ _ _) (fun _ => ?_)
      refine co_c (co_X2 B _ _) (fun _ _ => ?_)
      refine co_b (co_sR B _ _ _ _ _ _) (fun _ => ?_)
      exact ih _ _ _
theorem co_74 (B : Nat) (n : Nat) : ∀ (a : Nat) (i : Int32) (s : hS), jL f_X6_init_b74 (fun _ _ _ => none) n (a + B) i (sh B s) = mv B (jL f_X6_init_b74 (fun _ _ _ => none) n a i s) := by
  induction n with
  | zero => intro a i s; rfl
  | succ n ih =>
    intro a i s
    show f_X6_init_b74 _ (a + B) i (sh B s) = mv B (f_X6_init_b74 _ a i s)
    unfold f_X6_init_b74
    refine co_if ?_ ?_
    · refine co_b (co_nA B _ _ _) (fun _ => ?_)
      refine co_b (co_pR B _ _ _ _ _) (fun _ => ?_)
      exact co_108 B _ _ _ _
    · refine co_r (co_gR B _ _ _ _) (fun _ => ?_)
      refine co_b (co_nB B _ _ _) (fun _ => ?_)
      refine co_c (co_X1 B _ _) (fun _ _ => ?_)
      refine co_b (co_sR B _ _ _ _ _ _) (fun _ => ?_)
      exact ih _ _ _
theorem co_X6 (B : Nat) (s : hS) (a : Nat) : f_X6_init (sh B s) (a + B) = mv B (f_X6_init s a) := by
  unfold f_X6_init
  repeat (first | exact co_74 B _ _ _ _ | refine co_b (co_pZ B _ _ _ _ _) (fun _ => ?_) | refine co_b (co_nA B _ _ _) (fun _ => ?_) | refine co_b (co_nB B _ _ _) (fun _ => ?_) | refine co_b (co_pR B _ _ _ _ _) (fun _ => ?_) | refine co_c (co_X5 B _ _) (fun _ _ => ?_) | refine co_c (co_X0 B _ _) (fun _ _ => ?_) | refine co_r (co_gR B _ _ _ _) (fun _ => ?_))
theorem co_X7 (B : Nat) (s : hS) (a : Nat) : f_X7_init (sh B s) (a + B) = mv B (f_X7_init s a) := by
  unfold f_X7_init
  repeat (first | refine co_b (co_pI B _ _ _ _ _) (fun _ => ?_) | refine co_b (co_nA B _ _ _) (fun _ => ?_) | refine co_b (co_sI B _ _ _ _ _) (fun _ => ?_) | refine co_b (co_pR B _ _ _ _ _) (fun _ => ?_) | refine co_r (co_gR B _ _ _ _) (fun _ => ?_))
  rfl
def hs_e : hS := (0, 0, fun _ => (15, 0), fun _ _ => 0, fun _ _ => none)
/-- both objects made, from a state and its first free address -/
def mk2 (s : hS) : Option (Unit × hS) :=
  (nB s 6 11).bind fun s1 =>
  (f_X6_init s1 s.1).bind fun p2 =>
  (nB p2.2 7 34).bind fun s3 =>
  (f_X7_init s3 p2.2.1).bind fun p4 => some ((), p4.2)
theorem co_mk2 (B : Nat) (s : hS) : mk2 (sh B s) = mv B (mk2 s) := by
  unfold mk2
  refine co_b (co_nB B _ _ _) (fun _ => ?_)
  refine co_c (co_X6 B _ _) (fun _ _ => ?_)
  refine co_b (co_nB B _ _ _) (fun _ => ?_)
  refine co_c (co_X7 B _ _) (fun _ _ => ?_)
  rfl

def ck (r : hS) : Bool := r.1 == 89 && decide (r.2.1 ≤ 20000) && (List.range 89).all (fun i => layK[i]? == some (r.2.2.1 i)) && layR.all (fun e => r.2.2.2.2 e.1 e.2.1 == some e.2.2)
def ci (r : hS) : Bool := ((List.range 7).all (fun k => r.2.2.2.1 1 k == 0 && r.2.2.2.1 67 (k + 1) == 0) && (List.range 9).all (fun k => (List.range 16).all (fun j => r.2.2.2.1 (k + 2) j == 0)) && (List.range 150).all (fun k => r.2.2.2.1 67 (k + 1) == 0)) && r.2.2.2.1 1 7 == 1 && r.2.2.2.1 67 0 == 1 && r.2.2.2.1 35 1 == 0 && r.2.2.2.1 66 7 == 0 && r.2.2.2.1 0 3 == 0 && r.2.2.2.1 66 3 == 0 && r.2.2.2.1 0 9 == 0 && r.2.2.2.1 66 33 == 0 && (List.range 4).all (fun i => r.2.2.2.1 (40 + 2 * i) 0 == -1 && r.2.2.2.1 80 i == -1 && r.2.2.2.1 (40 + 2 * i) 1 == 0 && r.2.2.2.1 81 i == 0 && (List.range 24).all (fun k => r.2.2.2.1 (41 + 2 * i) k == 0 && r.2.2.2.1 82 (24 * i + k) == 0)) && (List.range 5).all (fun j => r.2.2.2.1 (49 + 3 * j) 0 == 0 && r.2.2.2.1 83 j == 0) && (List.range 13).all (fun i => r.2.2.2.1 73 i == nI (([112, 114, 105, 99, 101, 108, 111, 111, 107, 102, 105, 110, 101] : List Nat).getD i 0)) && (List.range 4).all (fun i => r.2.2.2.1 74 i == nI (([0, 5, 9, 13] : List Nat).getD i 0))
theorem mk_ck : (match mk2 hs_e with | some p => ck p.2 | none => false) = true := by decide +kernel
theorem mk_ci : (match mk2 hs_e with | some p => ci p.2 | none => false) = true := by decide +kernel
