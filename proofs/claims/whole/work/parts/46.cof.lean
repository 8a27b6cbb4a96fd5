/-! the look is the oldest row: what stands beside it, and what weights by it do -/
def sg {R : Type} [Lean.Grind.CommRing R] : Nat → R
  | 0 => 1
  | n + 1 => -sg n
theorem sg_sq {R : Type} [Lean.Grind.CommRing R] (n : Nat) : (sg n : R) * sg n = 1 := by
  induction n with
  | zero => simp only [sg]; grind
  | succ n ih => simp only [sg]; grind
theorem dy_smul {R : Type} [Lean.Grind.CommRing R] (s : R) (row : Nat → R) (F : List Nat → R) : ∀ (cs pre : List Nat), dy row (fun l => s * F l) pre cs = s * dy row F pre cs := by
  intro cs
  induction cs with
  | nil => intro pre; simp only [dy]; grind
  | cons c cs ih => intro pre; simp only [dy, ih]; grind
theorem dx_rot {R : Type} [Lean.Grind.CommRing R] (G : Nat → Nat → R) (o : Nat) : ∀ (f cs : List Nat), cs.length ≤ 5 → dx G (o :: f) cs = sg f.length * dx G (f ++ [o]) cs := by
  intro f
  induction f with
  | nil => intro cs _; simp only [List.length_nil, sg, List.nil_append]; grind
  | cons b f ih =>
    intro cs h
    rw [dx_sw G o b f cs h]
    have : dx G (b :: o :: f) cs = sg f.length * dx G (b :: (f ++ [o])) cs := by
      simp only [dx]
      rw [← dy_smul]
      exact dy_ext cs [] (fun l hl => ih l (by simp at hl; omega))
    rw [this]
    simp only [List.length_cons, sg, List.cons_append]
    grind
theorem cf_app {R : Type} [Lean.Grind.CommRing R] (F : List Nat → R) (o : Nat) : ∀ (cs pre : List Nat) (s : R), ∃ l, cf F s pre (cs ++ [o]) = l ++ [(o, s * sg cs.length * F (pre ++ cs))] ∧ l.map (fun q => q.1) = cs := by
  intro cs
  induction cs with
  | nil =>
    intro pre s
    refine ⟨[], ?_, rfl⟩
    simp only [List.nil_append, cf, sg, List.length_nil, List.append_nil]
    have : s * 1 = s := by grind
    rw [this]
  | cons c cs ih =>
    intro pre s
    obtain ⟨l, h1, h2⟩ := ih (pre ++ [c]) (-s)
    refine ⟨(c, s * F (pre ++ (cs ++ [o]))) :: l, ?_, by simp [h2]⟩
    simp only [List.cons_append, cf, h1, sg, List.length_cons, List.append_assoc, List.nil_append]
    have : -s * sg cs.length = s * -sg cs.length := by grind
    rw [this]
/-- what stands beside each column for the oldest row -/
abbrev Cl {R : Type} [Lean.Grind.CommRing R] (G : Nat → Nat → R) (f : List Nat) (o : Nat) : List (Nat × R) := cf (dx G f) (sg f.length) [] (f ++ [o])
theorem Cl_row {R : Type} [Lean.Grind.CommRing R] (G : Nat → Nat → R) (f : List Nat) (o r : Nat) : sm ((Cl G f o).map (fun q => G r q.1 * q.2)) = sg f.length * dx G (r :: f) (f ++ [o]) := by
  rw [← dy_cf]; rfl
theorem Cl_0 {R : Type} [Lean.Grind.CommRing R] (G : Nat → Nat → R) (f : List Nat) (o r : Nat) (h : f.length ≤ 4) (hr : r ∈ f) : sm ((Cl G f o).map (fun q => G r q.1 * q.2)) = 0 := by
  rw [Cl_row, dx_rep G r f _ hr (by simp; omega)]; grind
theorem Cl_D {R : Type} [Lean.Grind.CommRing R] (G : Nat → Nat → R) (f : List Nat) (o : Nat) (h : f.length ≤ 4) : sm ((Cl G f o).map (fun q => G o q.1 * q.2)) = dx G (f ++ [o]) (f ++ [o]) := by
  rw [Cl_row, dx_rot G o f _ (by simp; omega)]
  have := sg_sq (R := R) f.length
  grind
theorem Cl_last {R : Type} [Lean.Grind.CommRing R] (G : Nat → Nat → R) (f : List Nat) (o : Nat) : ∃ l, Cl G f o = l ++ [(o, dx G f f)] ∧ l.map (fun q => q.1) = f := by
  obtain ⟨l, h1, h2⟩ := cf_app (dx G f) o f [] (sg f.length)
  refine ⟨l, ?_, h2⟩
  rw [sg_sq, List.nil_append] at h1
  have : 1 * dx G f f = dx G f f := by grind
  rw [this] at h1
  exact h1
theorem psd2 {R : Type} [Lean.Grind.CommRing R] {c : R → R} {T : R → Prop} (H : Pos R c T) (hs : List (Nat → R)) (o : Nat) (f : List Nat) (h : f.length ≤ 4) : sm (hs.map (fun h => uh c (Cl (gm c hs) f o) h * c (uh c (Cl (gm c hs) f o) h))) = dx (gm c hs) f f * dx (gm c hs) (f ++ [o]) (f ++ [o]) := by
  rw [su2 H.1.1 H.1.2.2.1 H.1.2.2.2.1 H.1.2.2.2.2.1]
  obtain ⟨l, h1, h2⟩ := Cl_last (gm c hs) f o
  have hD := Cl_D (gm c hs) f o h
  have h0 : ∀ r, r ∈ f → sm ((Cl (gm c hs) f o).map (fun q => gm c hs r q.1 * q.2)) = 0 := fun r hr => Cl_0 (gm c hs) f o r h hr
  have e : sm ((Cl (gm c hs) f o).map (fun q => c q.2 * sm ((Cl (gm c hs) f o).map (fun p => gm c hs q.1 p.1 * p.2)))) = sm ((l ++ [(o, dx (gm c hs) f f)]).map (fun q => c q.2 * sm ((Cl (gm c hs) f o).map (fun p => gm c hs q.1 p.1 * p.2)))) := by
    rw [← h1]
  rw [e, List.map_append, sm_app]
  have e1 : sm (l.map (fun q => c q.2 * sm ((Cl (gm c hs) f o).map (fun p => gm c hs q.1 p.1 * p.2)))) = 0 := by
    have : ∀ q ∈ l, c q.2 * sm ((Cl (gm c hs) f o).map (fun p => gm c hs q.1 p.1 * p.2)) = 0 := fun q hq => by
      rw [h0 q.1 (by rw [← h2]; exact List.mem_map_of_mem (f := fun q : Nat × R => q.1) hq)]; grind
    rw [sm_congr this, sm_0]
  rw [e1]
  simp only [List.map_cons, List.map_nil, sm]
  rw [hD, dx_c H hs f f rfl (by omega)]
  grind
/-- without the oldest row, too, no determinant is 0 -/
theorem gd_dl {R : Type} [Lean.Grind.CommRing R] {c : R → R} {T : R → Prop} (H : Pos R c T) (hs : List (Nat → R)) (o : Nat) : ∀ (f : List Nat), f.length ≤ 4 → gd (gm c hs) (f ++ [o]) → gd (gm c hs) f := by
  intro f
  induction f with
  | nil => intro _ _; trivial
  | cons a f ih =>
    intro hl hg
    refine ⟨ih (by simp at hl; omega) hg.1, fun h0 => hg.2 ?_⟩
    have hz := T_sm0 H (fun h => uh c (Cl (gm c hs) (a :: f) o) h * c (uh c (Cl (gm c hs) (a :: f) o) h)) hs (fun h _ => H.2.1.2.2.2.2.1 _) (by rw [psd2 H hs o (a :: f) hl, h0]; grind)
    have hu : ∀ h ∈ hs, uh c (Cl (gm c hs) (a :: f) o) h = 0 := fun h hh => H.2.2.2 _ (hz h hh)
    have hD := Cl_D (gm c hs) (a :: f) o hl
    rw [← su1] at hD
    have e : ∀ h ∈ hs, h o * uh c (Cl (gm c hs) (a :: f) o) h = 0 := fun h hh => by rw [hu h hh]; grind
    rw [sm_congr e, sm_0] at hD
    exact hD.symm
/-- with one column more: what is asked -/
def gx {R : Type} [Lean.Grind.CommRing R] (G : Nat → Nat → R) (i j : Nat) : R := if j = 5 then (if i = 0 then 1 else 0) else G i j
theorem gx_dx {R : Type} [Lean.Grind.CommRing R] (G : Nat → Nat → R) (rs cs : List Nat) (h : ∀ j ∈ cs, j ≠ 5) : dx (gx G) rs cs = dx G rs cs := dx_congr rs cs (fun i _ j hj => by unfold gx; rw [if_neg (h j hj)])
/-- what is left to ask of a row, when rows f with the look behind them are taken out: beside the look's column, turned -/
theorem ask_eq {R : Type} [Lean.Grind.CommRing R] {c : R → R} {T : R → Prop} (H : Pos R c T) (hs : List (Nat → R)) (i : Nat) (f : List Nat) (h : f.length ≤ 3) (h5 : ∀ j ∈ f, j ≠ 5 ∧ j ≠ 0) (hi5 : i ≠ 5 ∧ i ≠ 0) : ∃ l A, Av (gm c hs) i (f ++ [0]) = l ++ [(0, A)] ∧ l.map (fun q => q.1) = i :: f ∧ dx (gx (gm c hs)) (i :: (f ++ [0])) (5 :: (f ++ [0])) = c A := by
  obtain ⟨l, h1, h2⟩ := cf_app (dx (gm c hs) (f ++ [0])) 0 (i :: f) [] 1
  refine ⟨l, _, h1, h2, ?_⟩
  rw [dx_col _ 5 (i :: (f ++ [0])) (f ++ [0]) rfl (by simp; omega)]
  obtain ⟨l2, k1, k2⟩ := cf_app (dx (fun a b => gx (gm c hs) b a) (f ++ [0])) 0 (i :: f) [] 1
  rw [show i :: (f ++ [0]) = (i :: f) ++ [0] from rfl, k1, List.map_append, sm_app]
  have e1 : sm (l2.map (fun q => gx (gm c hs) q.1 5 * q.2)) = 0 := by
    have : ∀ q ∈ l2, gx (gm c hs) q.1 5 * q.2 = 0 := fun q hq => by
      have hq1 : q.1 ∈ i :: f := by rw [← k2]; exact List.mem_map_of_mem (f := fun q : Nat × R => q.1) hq
      have hne : q.1 ≠ 0 := by
        rcases List.mem_cons.mp hq1 with h | h
        · rw [h]; exact hi5.2
        · exact (h5 _ h).2
      simp only [gx, if_true, if_neg hne]; grind
    rw [sm_congr this, sm_0]
  rw [e1]
  have e2 : dx (fun a b => gx (gm c hs) b a) (f ++ [0]) ([] ++ i :: f) = c (dx (gm c hs) (f ++ [0]) ([] ++ i :: f)) := by
    rw [dx_c H hs _ _ (by simp) (by simp; omega), dx_tr (gm c hs) _ _ (by simp) (by simp; omega)]
    refine dx_congr _ _ (fun a ha b hb => ?_)
    simp only [gx]
    rw [if_neg]
    rcases List.mem_append.mp ha with ha | ha
    · exact (h5 a ha).1
    · simp at ha; omega
  have e3 : ∀ n, c (sg n) = sg n := by
    intro n
    induction n with
    | zero => exact H.1.2.1
    | succ n ih => simp only [sg]; rw [H.1.2.2.2.2.2, ih]
  simp only [List.map_cons, List.map_nil, sm, e2, H.1.2.2.2.1, e3, H.1.2.1]
  simp only [gx, if_true]
  grind
/-- weights that do what the rows f ask (0) and the look asks (L): what they make of a row that is told by these -/
theorem lost_gain {R : Type} [Lean.Grind.CommRing R] {c : R → R} {T : R → Prop} (H : Pos R c T) (hs : List (Nat → R)) (i : Nat) (f : List Nat) (h : f.length ≤ 3) (h5 : ∀ j ∈ f, j ≠ 5 ∧ j ≠ 0) (hi5 : i ≠ 5 ∧ i ≠ 0) (h0 : dx (gm c hs) (i :: (f ++ [0])) (i :: (f ++ [0])) = 0) (W : (Nat → R) → R) (L : R) (hf : ∀ j ∈ f, sm (hs.map (fun h => h j * W h)) = 0) (hl : sm (hs.map (fun h => h 0 * W h)) = L) : dx (gm c hs) (f ++ [0]) (f ++ [0]) * sm (hs.map (fun h => h i * W h)) = -(dx (gx (gm c hs)) (i :: (f ++ [0])) (5 :: (f ++ [0])) * L) := by
  obtain ⟨l, A, h1, h2, h3⟩ := ask_eq H hs i f h h5 hi5
  have hu := lost_u H hs (f ++ [0]) i (by simp; omega) h0
  have e0 : sm (hs.map (fun h => c (uh c (Av (gm c hs) i (f ++ [0])) h) * W h)) = 0 := by
    have : ∀ h ∈ hs, c (uh c (Av (gm c hs) i (f ++ [0])) h) * W h = 0 := fun h hh => by rw [hu h hh, H.1.1]; grind
    rw [sm_congr this, sm_0]
  have e1 : ∀ h ∈ hs, c (uh c (Av (gm c hs) i (f ++ [0])) h) * W h = sm ((Av (gm c hs) i (f ++ [0])).map (fun q => c q.2 * (h q.1 * W h))) := fun h _ => by
    have e2 : c (uh c (Av (gm c hs) i (f ++ [0])) h) = sm ((Av (gm c hs) i (f ++ [0])).map (fun q => h q.1 * c q.2)) := by
      rw [uh, c_sm H.1.1 H.1.2.2.1]
      exact sm_congr (fun q _ => by rw [H.1.2.2.2.1, H.1.2.2.2.2.1])
    have hcm : ∀ x y : R, x * y = y * x := fun x y => by grind
    rw [e2, hcm, sm_mul]
    exact sm_congr (fun q _ => by grind)
  rw [sm_congr e1, sm_swap] at e0
  have e2 : ∀ q ∈ Av (gm c hs) i (f ++ [0]), sm (hs.map (fun h => c q.2 * (h q.1 * W h))) = c q.2 * sm (hs.map (fun h => h q.1 * W h)) := fun q _ => (sm_mul _ _ _).symm
  rw [sm_congr e2, h1, List.map_append, sm_app] at e0
  -- the first of l is i's own
  have h4 : ∃ l2, l = (i, dx (gm c hs) (f ++ [0]) (f ++ [0])) :: l2 ∧ l2.map (fun q => q.1) = f := by
    have hh : Av (gm c hs) i (f ++ [0]) = (i, 1 * dx (gm c hs) (f ++ [0]) (f ++ [0])) :: cf (dx (gm c hs) (f ++ [0])) (-1) [i] (f ++ [0]) := rfl
    rw [hh] at h1
    cases l with
    | nil => simp at h2
    | cons q l =>
      simp only [List.cons_append, List.cons.injEq] at h1
      refine ⟨l, ?_, by simp at h2; exact h2.2⟩
      rw [← h1.1]
      have : 1 * dx (gm c hs) (f ++ [0]) (f ++ [0]) = dx (gm c hs) (f ++ [0]) (f ++ [0]) := by grind
      rw [this]
  obtain ⟨l2, rfl, h6⟩ := h4
  have e3 : sm (l2.map (fun q => c q.2 * sm (hs.map (fun h => h q.1 * W h)))) = 0 := by
    have : ∀ q ∈ l2, c q.2 * sm (hs.map (fun h => h q.1 * W h)) = 0 := fun q hq => by
      rw [hf q.1 (by rw [← h6]; exact List.mem_map_of_mem (f := fun q : Nat × R => q.1) hq)]; grind
    rw [sm_congr this, sm_0]
  simp only [List.map_cons, List.map_nil, sm, e3, hl] at e0
  rw [dx_c H hs _ _ rfl (by simp; omega), ← h3] at e0
  grind
/-- the rows that are left give what stands beside the look -/
theorem sub_eq {R : Type} [Lean.Grind.CommRing R] (G : Nat → Nat → R) (C : List (Nat × R)) (D : R) (i : Nat) (f : List Nat) (h : f.length ≤ 4) (h5 : ∀ j ∈ i :: f, j ≠ 5) (hC : ∀ r ∈ i :: f, sm (C.map (fun q => G r q.1 * q.2)) = gx G r 5 * D) (hc5 : ∀ q ∈ C, q.1 ≠ 5) : sm (C.map (fun q => dx G (i :: f) (q.1 :: f) * q.2)) = dx (gx G) (i :: f) (5 :: f) * D := by
  have e : ∀ q ∈ C, dx G (i :: f) (q.1 :: f) * q.2 = sm ((cf (dx (fun i j => gx G j i) f) 1 [] (i :: f)).map (fun p => p.2 * (G p.1 q.1 * q.2))) := fun q hq => by
    rw [← gx_dx G (i :: f) (q.1 :: f) (fun j hj => by
      rcases List.mem_cons.mp hj with h | h
      · rw [h]; exact hc5 q hq
      · exact h5 j (List.mem_cons_of_mem _ h))]
    rw [dx_col _ q.1 (i :: f) f rfl (by simp; omega)]
    have : ∀ (x y : R), x * y = y * x := fun x y => by grind
    rw [this, sm_mul]
    refine sm_congr (fun p _ => ?_)
    have : gx G p.1 q.1 = G p.1 q.1 := by unfold gx; rw [if_neg (hc5 q hq)]
    rw [this]; grind
  rw [sm_congr e, sm_swap, dx_col _ 5 (i :: f) f rfl (by simp; omega)]
  have hcm : ∀ x y : R, x * y = y * x := fun x y => by grind
  rw [hcm, sm_mul]
  refine sm_congr (fun p hp => ?_)
  have hp1 : p.1 ∈ i :: f := by
    have := List.mem_map_of_mem (f := fun q : Nat × R => q.1) hp
    rw [cf_fst] at this; exact this
  rw [← sm_mul, hC p.1 hp1]; grind
