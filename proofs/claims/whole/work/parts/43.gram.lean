/-! sums; what rows make with one another -/
def sm {R : Type} [Lean.Grind.CommRing R] : List R → R
  | [] => 0
  | a :: l => a + sm l
theorem sm_mul {R α : Type} [Lean.Grind.CommRing R] (a : R) (f : α → R) (l : List α) : a * sm (l.map f) = sm (l.map (fun q => a * f q)) := by
  induction l with
  | nil => simp only [List.map_nil, sm]; grind
  | cons q l ih => simp only [List.map_cons, sm, ← ih]; grind
theorem sm_add {R α : Type} [Lean.Grind.CommRing R] (f g : α → R) (l : List α) : sm (l.map f) + sm (l.map g) = sm (l.map (fun q => f q + g q)) := by
  induction l with
  | nil => simp only [List.map_nil, sm]; grind
  | cons q l ih => simp only [List.map_cons, sm, ← ih]; grind
theorem sm_0 {R α : Type} [Lean.Grind.CommRing R] (l : List α) : sm (l.map (fun _ => (0 : R))) = 0 := by
  induction l with
  | nil => rfl
  | cons q l ih => simp only [List.map_cons, sm, ih]; grind
theorem sm_swap {R α β : Type} [Lean.Grind.CommRing R] (f : α → β → R) (l : List α) (m : List β) : sm (l.map (fun a => sm (m.map (f a)))) = sm (m.map (fun b => sm (l.map (fun a => f a b)))) := by
  induction l with
  | nil => simp only [List.map_nil, sm]; exact (sm_0 m).symm
  | cons a l ih => simp only [List.map_cons, sm, ih, sm_add]
theorem sm_congr {R α : Type} [Lean.Grind.CommRing R] {f g : α → R} {l : List α} (h : ∀ a ∈ l, f a = g a) : sm (l.map f) = sm (l.map g) := by
  rw [List.map_congr_left h]
/-- what is beside each column when a row is told -/
def cf {R : Type} [Lean.Grind.CommRing R] (F : List Nat → R) : R → List Nat → List Nat → List (Nat × R)
  | _, _, [] => []
  | s, pre, c :: cs => (c, s * F (pre ++ cs)) :: cf F (-s) (pre ++ [c]) cs
theorem dy_cf {R : Type} [Lean.Grind.CommRing R] (row : Nat → R) (F : List Nat → R) : ∀ (cs pre : List Nat) (s : R), s * dy row F pre cs = sm ((cf F s pre cs).map (fun q => row q.1 * q.2)) := by
  intro cs
  induction cs with
  | nil => intro pre s; simp only [dy, cf, List.map_nil, sm]; grind
  | cons c cs ih => intro pre s; simp only [dy, cf, List.map_cons, sm, ← ih]; grind
theorem dx_cf {R : Type} [Lean.Grind.CommRing R] (G : Nat → Nat → R) (r : Nat) (rs cs : List Nat) : dx G (r :: rs) cs = sm ((cf (dx G rs) 1 [] cs).map (fun q => G r q.1 * q.2)) := by
  rw [← dy_cf]; simp only [dx]; grind
def gm {R : Type} [Lean.Grind.CommRing R] (c : R → R) (hs : List (Nat → R)) (i j : Nat) : R := sm (hs.map (fun h => h i * c (h j)))
def uh {R : Type} [Lean.Grind.CommRing R] (c : R → R) (A : List (Nat × R)) (h : Nat → R) : R := sm (A.map (fun q => c (h q.1) * q.2))
theorem su1 {R : Type} [Lean.Grind.CommRing R] (c : R → R) (A : List (Nat × R)) (hs : List (Nat → R)) (i : Nat) : sm (hs.map (fun h => h i * uh c A h)) = sm (A.map (fun q => gm c hs i q.1 * q.2)) := by
  have e : ∀ h ∈ hs, h i * uh c A h = sm (A.map (fun q => h i * (c (h q.1) * q.2))) := fun h _ => by rw [uh, sm_mul]
  rw [sm_congr e, sm_swap]
  refine sm_congr (fun q _ => ?_)
  have e2 : ∀ h ∈ hs, h i * (c (h q.1) * q.2) = q.2 * (h i * c (h q.1)) := fun h _ => by grind
  rw [sm_congr e2, ← sm_mul, gm]; grind
theorem c_sm {R α : Type} [Lean.Grind.CommRing R] {c : R → R} (c0 : c 0 = 0) (ca : ∀ a b, c (a + b) = c a + c b) (f : α → R) (l : List α) : c (sm (l.map f)) = sm (l.map (fun a => c (f a))) := by
  induction l with
  | nil => exact c0
  | cons a l ih => simp only [List.map_cons, sm, ca, ih]
theorem su2 {R : Type} [Lean.Grind.CommRing R] {c : R → R} (c0 : c 0 = 0) (ca : ∀ a b, c (a + b) = c a + c b) (cm : ∀ a b, c (a * b) = c a * c b) (cc : ∀ a, c (c a) = a) (A : List (Nat × R)) (hs : List (Nat → R)) : sm (hs.map (fun h => uh c A h * c (uh c A h))) = sm (A.map (fun q => c q.2 * sm (A.map (fun p => gm c hs q.1 p.1 * p.2)))) := by
  have e : ∀ h ∈ hs, uh c A h * c (uh c A h) = sm (A.map (fun q => c q.2 * (h q.1 * uh c A h))) := fun h _ => by
    have e1 : c (uh c A h) = sm (A.map (fun q => h q.1 * c q.2)) := by
      rw [uh, c_sm c0 ca]
      exact sm_congr (fun q _ => by rw [cm, cc])
    rw [e1, sm_mul]
    exact sm_congr (fun q _ => by grind)
  rw [sm_congr e, sm_swap]
  refine sm_congr (fun q _ => ?_)
  rw [← sm_mul, su1]
