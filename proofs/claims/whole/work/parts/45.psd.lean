/-! what rows make with one another is nowhere below 0: over a ring with a turning c and what is not below 0 (T) -/
def Pos (R : Type) [Lean.Grind.CommRing R] (c : R → R) (T : R → Prop) : Prop :=
  (c 0 = 0 ∧ c 1 = 1 ∧ (∀ a b, c (a + b) = c a + c b) ∧ (∀ a b, c (a * b) = c a * c b) ∧ (∀ a, c (c a) = a) ∧ (∀ a, c (-a) = -c a)) ∧
  (T 0 ∧ T 1 ∧ (∀ a b, T a → T b → T (a + b)) ∧ (∀ a b, T a → T b → T (a * b)) ∧ (∀ a, T (a * c a)) ∧ (∀ a b, T a → T b → a + b = 0 → a = 0) ∧ (∀ p b, T p → p ≠ 0 → c b = b → T (p * b) → T b) ∧ (∀ a, T a → c a = a)) ∧
  ((∀ a b : R, a * b = 0 → a = 0 ∨ b = 0) ∧ (∀ a : R, a * c a = 0 → a = 0))
theorem c_dy {R : Type} [Lean.Grind.CommRing R] {c : R → R} {T : R → Prop} (H : Pos R c T) (row : Nat → R) (F : List Nat → R) : ∀ (cs pre : List Nat), c (dy row F pre cs) = dy (fun j => c (row j)) (fun l => c (F l)) pre cs := by
  intro cs
  induction cs with
  | nil => intro pre; exact H.1.1
  | cons a cs ih =>
    intro pre
    simp only [dy]
    have e : ∀ x y : R, c (x - y) = c x - c y := fun x y => by
      have h1 : x - y = x + -y := by grind
      rw [h1, H.1.2.2.1, H.1.2.2.2.2.2]; grind
    rw [e, H.1.2.2.2.1, ih]
theorem c_dx {R : Type} [Lean.Grind.CommRing R] {c : R → R} {T : R → Prop} (H : Pos R c T) (G : Nat → Nat → R) : ∀ (rs cs : List Nat), c (dx G rs cs) = dx (fun i j => c (G i j)) rs cs := by
  intro rs
  induction rs with
  | nil => intro cs; exact H.1.2.1
  | cons r rs ih =>
    intro cs
    simp only [dx]
    rw [c_dy H]
    congr 1
    exact funext ih
theorem dy_row {R : Type} [Lean.Grind.CommRing R] {row row2 : Nat → R} {F : List Nat → R} : ∀ (cs pre : List Nat), (∀ j ∈ cs, row j = row2 j) → dy row F pre cs = dy row2 F pre cs := by
  intro cs
  induction cs with
  | nil => intro pre _; rfl
  | cons a cs ih =>
    intro pre h
    simp only [dy]
    rw [h a List.mem_cons_self, ih _ (fun j hj => h j (List.mem_cons_of_mem _ hj))]
theorem dy_extm {R : Type} [Lean.Grind.CommRing R] {row : Nat → R} {F E : List Nat → R} : ∀ (cs pre : List Nat), (∀ l : List Nat, (∀ j ∈ l, j ∈ pre ∨ j ∈ cs) → F l = E l) → dy row F pre cs = dy row E pre cs := by
  intro cs
  induction cs with
  | nil => intro pre _; rfl
  | cons c cs ih =>
    intro pre h
    simp only [dy]
    rw [h (pre ++ cs) (fun j hj => by rcases List.mem_append.mp hj with hj | hj; exact Or.inl hj; exact Or.inr (List.mem_cons_of_mem _ hj)), ih (pre ++ [c]) (fun l hl => h l (fun j hj => by
      rcases hl j hj with h1 | h1
      · rcases List.mem_append.mp h1 with h2 | h2
        · exact Or.inl h2
        · exact Or.inr (by simp at h2; simp [h2])
      · exact Or.inr (List.mem_cons_of_mem _ h1)))]
theorem dx_congr {R : Type} [Lean.Grind.CommRing R] {G E : Nat → Nat → R} : ∀ (rs cs : List Nat), (∀ i ∈ rs, ∀ j ∈ cs, G i j = E i j) → dx G rs cs = dx E rs cs := by
  intro rs
  induction rs with
  | nil => intro cs _; rfl
  | cons r rs ih =>
    intro cs h
    simp only [dx]
    rw [dy_row cs [] (h r List.mem_cons_self)]
    exact dy_extm cs [] (fun l hl => ih l (fun i hi j hj => h i (List.mem_cons_of_mem _ hi) j (by
      rcases hl j hj with h1 | h1
      · cases h1
      · exact h1)))
theorem gm_c {R : Type} [Lean.Grind.CommRing R] {c : R → R} {T : R → Prop} (H : Pos R c T) (hs : List (Nat → R)) (i j : Nat) : c (gm c hs i j) = gm c hs j i := by
  unfold gm
  rw [c_sm H.1.1 H.1.2.2.1]
  exact sm_congr (fun h _ => by rw [H.1.2.2.2.1, H.1.2.2.2.2.1]; grind)
/-- turned: columns for rows -/
theorem dx_c {R : Type} [Lean.Grind.CommRing R] {c : R → R} {T : R → Prop} (H : Pos R c T) (hs : List (Nat → R)) (rs cs : List Nat) (h : cs.length = rs.length) (h5 : rs.length ≤ 5) : c (dx (gm c hs) rs cs) = dx (gm c hs) cs rs := by
  rw [c_dx H, dx_tr _ cs rs h.symm (by omega)]
  congr 1
  funext i j
  exact gm_c H hs i j
theorem T_sm {R α : Type} [Lean.Grind.CommRing R] {c : R → R} {T : R → Prop} (H : Pos R c T) (f : α → R) : ∀ (l : List α), (∀ a ∈ l, T (f a)) → T (sm (l.map f)) := by
  intro l
  induction l with
  | nil => intro _; exact H.2.1.1
  | cons a l ih => intro h; exact H.2.1.2.2.1 _ _ (h a List.mem_cons_self) (ih (fun b hb => h b (List.mem_cons_of_mem _ hb)))
theorem T_sm0 {R α : Type} [Lean.Grind.CommRing R] {c : R → R} {T : R → Prop} (H : Pos R c T) (f : α → R) : ∀ (l : List α), (∀ a ∈ l, T (f a)) → sm (l.map f) = 0 → ∀ a ∈ l, f a = 0 := by
  intro l
  induction l with
  | nil => intro _ _ a ha; cases ha
  | cons b l ih =>
    intro h h0 a ha
    have h1 : T (sm (l.map f)) := T_sm H f l (fun b hb => h b (List.mem_cons_of_mem _ hb))
    have h2 := h b List.mem_cons_self
    have hb : f b = 0 := H.2.1.2.2.2.2.2.1 _ _ h2 h1 h0
    rcases List.mem_cons.mp ha with rfl | ha
    · exact hb
    · refine ih (fun b hb => h b (List.mem_cons_of_mem _ hb)) ?_ a ha
      simp only [List.map_cons, sm, hb] at h0
      grind
/-- beside the newest column -/
abbrev Av {R : Type} [Lean.Grind.CommRing R] (G : Nat → Nat → R) (i : Nat) (f : List Nat) : List (Nat × R) := cf (dx G f) 1 [] (i :: f)
/-- the sum of powers of u: a determinant times the next one -/
theorem psd1 {R : Type} [Lean.Grind.CommRing R] {c : R → R} {T : R → Prop} (H : Pos R c T) (hs : List (Nat → R)) (i : Nat) (f : List Nat) (h : f.length ≤ 4) : sm (hs.map (fun h => uh c (Av (gm c hs) i f) h * c (uh c (Av (gm c hs) i f) h))) = dx (gm c hs) f f * dx (gm c hs) (i :: f) (i :: f) := by
  rw [su2 H.1.1 H.1.2.2.1 H.1.2.2.2.1 H.1.2.2.2.2.1]
  have e : ∀ q ∈ Av (gm c hs) i f, c q.2 * sm ((Av (gm c hs) i f).map (fun p => gm c hs q.1 p.1 * p.2)) = c q.2 * dx (gm c hs) (q.1 :: f) (i :: f) := fun q _ => by rw [dx_cf]
  rw [sm_congr e]
  simp only [cf, List.map_cons, sm, List.nil_append]
  have s4 : sm ((cf (dx (gm c hs) f) (-1) [i] f).map (fun q => c q.2 * dx (gm c hs) (q.1 :: f) (i :: f))) = 0 := by
    have e : ∀ p ∈ cf (dx (gm c hs) f) (-1) [i] f, c p.2 * dx (gm c hs) (p.1 :: f) (i :: f) = 0 := fun p hp => by
      have : p.1 ∈ f := by
        have := List.mem_map_of_mem (f := fun q : Nat × R => q.1) hp
        rw [cf_fst] at this; exact this
      rw [dx_rep _ _ f _ this (by simp; omega)]; grind
    rw [sm_congr e, sm_0]
  rw [s4]
  have e1 : (1 : R) * dx (gm c hs) f f = dx (gm c hs) f f := by grind
  rw [e1, dx_c H hs f f rfl (by omega)]
  grind
/-- all determinants on the way are not 0 -/
def gd {R : Type} [Lean.Grind.CommRing R] (G : Nat → Nat → R) : List Nat → Prop
  | [] => True
  | a :: f => gd G f ∧ dx G (a :: f) (a :: f) ≠ 0
theorem gd_T {R : Type} [Lean.Grind.CommRing R] {c : R → R} {T : R → Prop} (H : Pos R c T) (hs : List (Nat → R)) (h1 : (1 : R) ≠ 0) : ∀ (f : List Nat), gd (gm c hs) f → f.length ≤ 5 → T (dx (gm c hs) f f) ∧ dx (gm c hs) f f ≠ 0 := by
  intro f
  induction f with
  | nil => intro _ _; exact ⟨H.2.1.2.1, h1⟩
  | cons a f ih =>
    intro hg hl
    obtain ⟨t1, t2⟩ := ih hg.1 (by simp at hl; omega)
    refine ⟨H.2.1.2.2.2.2.2.2.1 _ _ t1 t2 (dx_c H hs _ _ rfl hl) ?_, hg.2⟩
    rw [← psd1 H hs a f (by simp at hl; omega)]
    exact T_sm H _ hs (fun h _ => H.2.1.2.2.2.2.1 _)
theorem nx_T {R : Type} [Lean.Grind.CommRing R] {c : R → R} {T : R → Prop} (H : Pos R c T) (hs : List (Nat → R)) (h1 : (1 : R) ≠ 0) (f : List Nat) (hg : gd (gm c hs) f) (i : Nat) (h : f.length ≤ 4) : T (dx (gm c hs) (i :: f) (i :: f)) := by
  obtain ⟨t1, t2⟩ := gd_T H hs h1 f hg (by omega)
  refine H.2.1.2.2.2.2.2.2.1 _ _ t1 t2 (dx_c H hs _ _ rfl (by simp; omega)) ?_
  rw [← psd1 H hs i f h]
  exact T_sm H _ hs (fun h _ => H.2.1.2.2.2.2.1 _)
/-- a row that is told by others -/
theorem lost_u {R : Type} [Lean.Grind.CommRing R] {c : R → R} {T : R → Prop} (H : Pos R c T) (hs : List (Nat → R)) (f : List Nat) (i : Nat) (h : f.length ≤ 4) (h0 : dx (gm c hs) (i :: f) (i :: f) = 0) : ∀ h ∈ hs, uh c (Av (gm c hs) i f) h = 0 := by
  intro k hk
  refine H.2.2.2 _ (T_sm0 H (fun h => uh c (Av (gm c hs) i f) h * c (uh c (Av (gm c hs) i f) h)) hs (fun h _ => H.2.1.2.2.2.2.1 _) ?_ k hk)
  rw [psd1 H hs i f h, h0]; grind
/-- no determinant is more than n times the one ahead of it -/
theorem up_T {R : Type} [Lean.Grind.CommRing R] {c : R → R} {T : R → Prop} (H : Pos R c T) (hs : List (Nat → R)) (h1 : (1 : R) ≠ 0) (n : R) (hn : ∀ i, gm c hs i i = n) (hc : c n = n) : ∀ (f : List Nat), gd (gm c hs) f → f.length ≤ 4 → ∀ i, T (n * dx (gm c hs) f f - dx (gm c hs) (i :: f) (i :: f)) := by
  intro f
  induction f with
  | nil =>
    intro _ _ i
    have : n * dx (gm c hs) [] [] - dx (gm c hs) [i] [i] = 0 := by
      simp only [dx, dy, hn]; grind
    rw [this]; exact H.2.1.1
  | cons a f ih =>
    intro hg hl i
    have hl' : f.length ≤ 3 := by simp at hl; omega
    obtain ⟨t1, t2⟩ := gd_T H hs h1 f hg.1 (by omega)
    obtain ⟨t3, _⟩ := gd_T H hs h1 (a :: f) hg (by simp only [List.length_cons]; omega)
    have t4 := ih hg.1 (by omega) i
    have e : ∀ x y : R, c (x - y) = c x - c y := fun x y => by
      have h1 : x - y = x + -y := by grind
      rw [h1, H.1.2.2.1, H.1.2.2.2.2.2]; grind
    refine H.2.1.2.2.2.2.2.2.1 _ _ t1 t2 ?_ ?_
    · rw [e, H.1.2.2.2.1, hc, dx_c H hs _ _ rfl (by simp; omega), dx_c H hs _ _ rfl (by simp; omega)]
    · have hd := dx_dj (gm c hs) a i i f hl'
      have hx : dx (gm c hs) (a :: f) (i :: f) = c (dx (gm c hs) (i :: f) (a :: f)) := (dx_c H hs (i :: f) (a :: f) rfl (by simp; omega)).symm
      have : dx (gm c hs) f f * (n * dx (gm c hs) (a :: f) (a :: f) - dx (gm c hs) (i :: a :: f) (i :: a :: f)) = dx (gm c hs) (a :: f) (a :: f) * (n * dx (gm c hs) f f - dx (gm c hs) (i :: f) (i :: f)) + dx (gm c hs) (i :: f) (a :: f) * c (dx (gm c hs) (i :: f) (a :: f)) := by
        rw [← hx]; grind
      rw [this]
      exact H.2.1.2.2.1 _ _ (H.2.1.2.2.2.1 _ _ t3 t4) (H.2.1.2.2.2.2.1 _)
