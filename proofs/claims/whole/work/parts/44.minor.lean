/-! determinants: rows change places, rows alike, columns for rows -/
theorem dy_ext {R : Type} [Lean.Grind.CommRing R] {row : Nat → R} {F E : List Nat → R} : ∀ (cs pre : List Nat), (∀ l : List Nat, l.length + 1 = pre.length + cs.length → F l = E l) → dy row F pre cs = dy row E pre cs := by
  intro cs
  induction cs with
  | nil => intro pre _; rfl
  | cons c cs ih =>
    intro pre h
    simp only [dy]
    rw [h (pre ++ cs) (by simp; omega), ih (pre ++ [c]) (fun l hl => h l (by simp at hl ⊢; omega))]
theorem dy_neg {R : Type} [Lean.Grind.CommRing R] {row : Nat → R} {F E : List Nat → R} : ∀ (cs pre : List Nat), (∀ l : List Nat, l.length + 1 = pre.length + cs.length → F l = -E l) → dy row F pre cs = -dy row E pre cs := by
  intro cs
  induction cs with
  | nil => intro pre _; simp only [dy]; grind
  | cons c cs ih =>
    intro pre h
    simp only [dy]
    rw [h (pre ++ cs) (by simp; omega), ih (pre ++ [c]) (fun l hl => h l (by simp at hl ⊢; omega))]
    grind
theorem dy_0 {R : Type} [Lean.Grind.CommRing R] {row : Nat → R} {F : List Nat → R} : ∀ (cs pre : List Nat), (∀ l : List Nat, l.length + 1 = pre.length + cs.length → F l = 0) → dy row F pre cs = 0 := by
  intro cs
  induction cs with
  | nil => intro pre _; rfl
  | cons c cs ih =>
    intro pre h
    simp only [dy]
    rw [h (pre ++ cs) (by simp; omega), ih (pre ++ [c]) (fun l hl => h l (by simp at hl ⊢; omega))]
    grind
theorem dd_sw {R : Type} [Lean.Grind.CommRing R] (p q : Nat → R) (F : List Nat → R) (cs : List Nat) (h : cs.length ≤ 5) : dy p (fun l => dy q F [] l) [] cs = -dy q (fun l => dy p F [] l) [] cs := by
  match cs, h with
  | [], _ => simp only [dy]; grind
  | [a], _ => simp only [dy, List.nil_append, List.cons_append, List.append_nil]; grind
  | [a, b], _ => simp only [dy, List.nil_append, List.cons_append, List.append_nil]; grind
  | [a, b, c], _ => simp only [dy, List.nil_append, List.cons_append, List.append_nil]; grind
  | [a, b, c, d], _ => simp only [dy, List.nil_append, List.cons_append, List.append_nil]; grind
  | [a, b, c, d, e], _ => simp only [dy, List.nil_append, List.cons_append, List.append_nil]; grind
  | _ :: _ :: _ :: _ :: _ :: _ :: _, h => simp at h
theorem dd_2 {R : Type} [Lean.Grind.CommRing R] (p : Nat → R) (F : List Nat → R) (cs : List Nat) (h : cs.length ≤ 5) : dy p (fun l => dy p F [] l) [] cs = 0 := by
  match cs, h with
  | [], _ => simp only [dy]
  | [a], _ => simp only [dy, List.nil_append, List.cons_append, List.append_nil]; grind
  | [a, b], _ => simp only [dy, List.nil_append, List.cons_append, List.append_nil]; grind
  | [a, b, c], _ => simp only [dy, List.nil_append, List.cons_append, List.append_nil]; grind
  | [a, b, c, d], _ => simp only [dy, List.nil_append, List.cons_append, List.append_nil]; grind
  | [a, b, c, d, e], _ => simp only [dy, List.nil_append, List.cons_append, List.append_nil]; grind
  | _ :: _ :: _ :: _ :: _ :: _ :: _, h => simp at h
theorem dx_sw {R : Type} [Lean.Grind.CommRing R] (G : Nat → Nat → R) (a b : Nat) (rs cs : List Nat) (h : cs.length ≤ 5) : dx G (a :: b :: rs) cs = -dx G (b :: a :: rs) cs := dd_sw (G a) (G b) (dx G rs) cs h
theorem dx_2 {R : Type} [Lean.Grind.CommRing R] (G : Nat → Nat → R) (a : Nat) (rs cs : List Nat) (h : cs.length ≤ 5) : dx G (a :: a :: rs) cs = 0 := dd_2 (G a) (dx G rs) cs h
/-- a row that stands among the others too -/
theorem dx_rep {R : Type} [Lean.Grind.CommRing R] (G : Nat → Nat → R) (a : Nat) : ∀ (rs cs : List Nat), a ∈ rs → cs.length ≤ 5 → dx G (a :: rs) cs = 0 := by
  intro rs
  induction rs with
  | nil => intro cs h; cases h
  | cons b rs ih =>
    intro cs h hc
    rcases List.mem_cons.mp h with rfl | h
    · exact dx_2 G _ rs cs hc
    · rw [dx_sw G a b rs cs hc]
      have : dx G (b :: a :: rs) cs = 0 := by
        show dy (G b) (dx G (a :: rs)) [] cs = 0
        exact dy_0 cs [] (fun l hl => ih l h (by simp at hl; omega))
      rw [this]; grind
theorem dx_tr {R : Type} [Lean.Grind.CommRing R] (G : Nat → Nat → R) (rs cs : List Nat) (h : cs.length = rs.length) (h5 : rs.length ≤ 5) : dx G rs cs = dx (fun i j => G j i) cs rs := by
  match rs, cs, h, h5 with
  | [], [], _, _ => rfl
  | [a], [p], _, _ => simp only [dx, dy, List.nil_append, List.cons_append, List.append_nil]
  | [a, b], [p, q], _, _ => simp only [dx, dy, List.nil_append, List.cons_append, List.append_nil]; grind
  | [a, b, c], [p, q, r], _, _ => simp only [dx, dy, List.nil_append, List.cons_append, List.append_nil]; grind
  | [a, b, c, d], [p, q, r, s], _, _ => simp only [dx, dy, List.nil_append, List.cons_append, List.append_nil]; grind
  | [a, b, c, d, e], [p, q, r, s, t], _, _ => simp only [dx, dy, List.nil_append, List.cons_append, List.append_nil]; grind
  | _ :: _ :: _ :: _ :: _ :: _ :: _, _, _, h5 => simp at h5
/-- by columns: what stands beside each row of a newest column -/
theorem dx_col {R : Type} [Lean.Grind.CommRing R] (G : Nat → Nat → R) (j : Nat) (rs cs : List Nat) (h : cs.length + 1 = rs.length) (h5 : rs.length ≤ 5) : dx G rs (j :: cs) = sm ((cf (dx (fun i j => G j i) cs) 1 [] rs).map (fun q => G q.1 j * q.2)) := by
  rw [dx_tr G rs (j :: cs) (by simp; omega) h5, dx_cf]
theorem cf_fst {R : Type} [Lean.Grind.CommRing R] (F : List Nat → R) : ∀ (cs pre : List Nat) (s : R), (cf F s pre cs).map (fun q => q.1) = cs := by
  intro cs
  induction cs with
  | nil => intro pre s; rfl
  | cons c cs ih => intro pre s; simp only [cf, List.map_cons, ih]
theorem sm_app {R : Type} [Lean.Grind.CommRing R] (l m : List R) : sm (l ++ m) = sm l + sm m := by
  induction l with
  | nil => simp only [List.nil_append, sm]; grind
  | cons a l ih => simp only [List.cons_append, sm, ih]; grind
/-- the step of the elimination -/
theorem dx_dj {R : Type} [Lean.Grind.CommRing R] (G : Nat → Nat → R) (a i j : Nat) (f : List Nat) (h : f.length ≤ 3) : dx G (i :: a :: f) (j :: a :: f) * dx G f f = dx G (a :: f) (a :: f) * dx G (i :: f) (j :: f) - dx G (i :: f) (a :: f) * dx G (a :: f) (j :: f) := by
  -- columns j, a and f, with what stands beside them for the newest row
  have hA := dx_cf G
  have hr : ∀ r, r = a ∨ r ∈ f → dx G (r :: a :: f) (j :: a :: f) = 0 := fun r hr => dx_rep G r (a :: f) (j :: a :: f) (by simp; exact hr) (by simp; omega)
  have hc : ∀ c, c ∈ f → dx G (i :: f) (c :: f) = 0 := fun c hc => by
    rw [dx_tr G (i :: f) (c :: f) rfl (by simp; omega)]
    exact dx_rep _ c f (i :: f) hc (by simp; omega)
  -- the sum over columns of dx (i :: f) (c :: f) times what stands beside c
  have s1 : sm ((cf (dx G (a :: f)) 1 [] (j :: a :: f)).map (fun q => dx G (i :: f) (q.1 :: f) * q.2)) = dx G (i :: f) (j :: f) * dx G (a :: f) (a :: f) - dx G (i :: f) (a :: f) * dx G (a :: f) (j :: f) := by
    simp only [cf, List.map_cons, sm, List.nil_append, List.cons_append]
    have s3 : sm ((cf (dx G (a :: f)) (- -1) [j, a] f).map (fun q => dx G (i :: f) (q.1 :: f) * q.2)) = 0 := by
      have e : ∀ q ∈ cf (dx G (a :: f)) (- -1) [j, a] f, dx G (i :: f) (q.1 :: f) * q.2 = 0 := fun q hq => by
        have : q.1 ∈ f := by
          have := List.mem_map_of_mem (f := fun q : Nat × R => q.1) hq
          rw [cf_fst] at this; exact this
        rw [hc _ this]; grind
      rw [sm_congr e, sm_0]
    rw [s3]
    grind
  -- the same, the rows first
  have s2 : sm ((cf (dx G (a :: f)) 1 [] (j :: a :: f)).map (fun q => dx G (i :: f) (q.1 :: f) * q.2)) = dx G f f * dx G (i :: a :: f) (j :: a :: f) := by
    have e : ∀ q ∈ cf (dx G (a :: f)) 1 [] (j :: a :: f), dx G (i :: f) (q.1 :: f) * q.2 = sm ((cf (dx (fun i j => G j i) f) 1 [] (i :: f)).map (fun p => p.2 * (G p.1 q.1 * q.2))) := fun q _ => by
      rw [dx_col G q.1 (i :: f) f rfl (by simp; omega)]
      have : ∀ (x y : R), x * y = y * x := fun x y => by grind
      rw [this, sm_mul]
      exact sm_congr (fun p _ => by grind)
    rw [sm_congr e, sm_swap]
    have e2 : ∀ p ∈ cf (dx (fun i j => G j i) f) 1 [] (i :: f), sm ((cf (dx G (a :: f)) 1 [] (j :: a :: f)).map (fun q => p.2 * (G p.1 q.1 * q.2))) = p.2 * dx G (p.1 :: a :: f) (j :: a :: f) := fun p _ => by
      rw [← sm_mul, ← dx_cf]
    rw [sm_congr e2]
    simp only [cf, List.map_cons, sm, List.nil_append]
    have s4 : sm ((cf (dx (fun i j => G j i) f) (-1) [i] f).map (fun p => p.2 * dx G (p.1 :: a :: f) (j :: a :: f))) = 0 := by
      have e : ∀ p ∈ cf (dx (fun i j => G j i) f) (-1) [i] f, p.2 * dx G (p.1 :: a :: f) (j :: a :: f) = 0 := fun p hp => by
        have : p.1 ∈ f := by
          have := List.mem_map_of_mem (f := fun q : Nat × R => q.1) hp
          rw [cf_fst] at this; exact this
        rw [hr _ (Or.inr this)]; grind
      rw [sm_congr e, sm_0]
    rw [s4, dx_tr G f f rfl (by omega)]
    grind
  rw [s1] at s2
  grind
