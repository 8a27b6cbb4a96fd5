/-! the same for numbers of roots -/
def isT (a : Z4) : Prop := ∃ x y : Int, a = re x y ∧ tn x y
theorem z_re0 {x y : Int} (h : re x y = (0, 0, 0, 0)) : x = 0 ∧ y = 0 := by
  simp only [re, Prod.mk.injEq] at h
  omega
theorem z_pw0 {a : Z4} (h : qmul a (cj a) = (0, 0, 0, 0)) : a = (0, 0, 0, 0) := by
  rw [pw_eq] at h
  have h1 := (z_re0 h).1
  obtain ⟨h2, h3, h4, h5⟩ := pX_z (Int.le_of_eq h1)
  exact q_ext h2 h3 h4 h5
theorem z_tp {a : Z4} (h : a ≠ (0, 0, 0, 0)) : tp (pX a.1 a.2.1 a.2.2.1 a.2.2.2) (pY a.1 a.2.1 a.2.2.1 a.2.2.2) := by
  refine tn_tp (p_tn _ _ _ _) (fun hz => h ?_)
  obtain ⟨h2, h3, h4, h5⟩ := pX_z (Int.le_of_eq hz.1)
  exact q_ext h2 h3 h4 h5
theorem z_dom {a b : Z4} (h : qmul a b = (0, 0, 0, 0)) : a = (0, 0, 0, 0) ∨ b = (0, 0, 0, 0) := by
  by_cases ha : a = (0, 0, 0, 0)
  · exact Or.inl ha
  · by_cases hb : b = (0, 0, 0, 0)
    · exact Or.inr hb
    · exfalso
      have h1 := tp_mul (z_tp ha) (z_tp hb)
      have h2 : qmul (qmul a (cj a)) (qmul b (cj b)) = qmul (qmul a b) (qmul (cj a) (cj b)) := by
        apply q_ext <;> simp only [qmul] <;> grind
      rw [h, pw_eq, pw_eq, re_mul] at h2
      have h3 : qmul (0, 0, 0, 0) (qmul (cj a) (cj b)) = (0, 0, 0, 0) := by
        apply q_ext <;> simp only [qmul] <;> grind
      rw [h3] at h2
      have := (z_re0 h2).1
      have := h1.1
      omega
theorem z_pos : @Pos Z4 (qR Int) cj isT := by
  refine ⟨⟨rfl, rfl, cj_add, cj_mul, cj_cj, cj_neg⟩, ⟨⟨0, 0, rfl, tn_int (Int.le_refl 0)⟩, ⟨1, 0, rfl, tn_int (by decide)⟩, ?_, ?_, ?_, ?_, ?_, ?_⟩, ?_, ?_⟩
  · rintro a b ⟨x, y, rfl, h⟩ ⟨u, v, rfl, k⟩
    exact ⟨_, _, re_add x y u v, tn_add h k⟩
  · rintro a b ⟨x, y, rfl, h⟩ ⟨u, v, rfl, k⟩
    exact ⟨_, _, re_mul x y u v, tn_mul h k⟩
  · intro a
    exact ⟨_, _, pw_eq a, p_tn _ _ _ _⟩
  · rintro a b ⟨x, y, rfl, h⟩ ⟨u, v, rfl, k⟩ he
    have he' : qadd (re x y) (re u v) = (0, 0, 0, 0) := he
    rw [re_add] at he'
    have h1 := z_re0 he'
    have hx : x = 0 := by have := h.1; have := k.1; omega
    subst hx
    have hy : y = 0 := sq_z (by have := h.2; omega)
    subst hy; rfl
  · rintro p b ⟨x, y, rfl, h⟩ hp hb hpb
    obtain ⟨u, v, e, k⟩ := hpb
    have e' : qmul (re x y) b = re u v := e
    have hr := re_of_cj hb
    rw [hr, re_mul] at e'
    have e1 := congrArg (fun q : Z4 => q.1) e'
    have e2 := congrArg (fun q : Z4 => q.2.2.2) e'
    simp only [re] at e1 e2
    have hxy : tp x y := tn_tp h (fun hz => hp (by rw [hz.1, hz.2]; rfl))
    refine ⟨_, _, hr, tn_cancel hxy ?_⟩
    have e3 : x * -b.2.2.2 + y * b.1 = v := by omega
    rw [e1, e3]; exact k
  · rintro a ⟨x, y, rfl, h⟩
    exact re_cj x y
  · intro a b h
    exact z_dom h
  · intro a h
    exact z_pw0 h
/-- what an element hears of each wish -/
def hz (ws : Nat → Nat) (p : Nat) : Nat → Z4 := fun r => rt (ws r * p)
def Gz (ws : Nat → Nat) (ps : List Nat) : Nat → Nat → Z4 := @gm Z4 (qR Int) cj (ps.map (hz ws))
def Gx (ws : Nat → Nat) (ps : List Nat) : Nat → Nat → Z4 := @gx Z4 (qR Int) (Gz ws ps)
def zsum : List Z4 → Z4
  | [] => (0, 0, 0, 0)
  | a :: l => qadd a (zsum l)
theorem zsum_sm (l : List Z4) : @sm Z4 (qR Int) l = zsum l := by
  induction l with
  | nil => rfl
  | cons a l ih => show qadd a (@sm Z4 (qR Int) l) = qadd a (zsum l); rw [ih]
theorem zsum_len {m : Nat} : ∀ (l : List Z4), (∀ a ∈ l, len m a) → len (l.length * m) (zsum l) := by
  intro l
  induction l with
  | nil => intro _; exact len_mono len_0 (Nat.zero_le _)
  | cons a l ih =>
    intro h
    have := len_add (h a List.mem_cons_self) (ih (fun b hb => h b (List.mem_cons_of_mem _ hb)))
    exact len_mono this (by rw [List.length_cons, Nat.succ_mul]; omega)
theorem Gz_eq (ws : Nat → Nat) (ps : List Nat) (i j : Nat) : Gz ws ps i j = zsum (ps.map (fun p => rt (ws i * p + 11 * (ws j * p)))) := by
  unfold Gz gm
  rw [zsum_sm, List.map_map]
  congr 1
  refine List.map_congr_left (fun p _ => ?_)
  show qmul (rt (ws i * p)) (cj (rt (ws j * p))) = _
  rw [cj_rt, rt_mul]
theorem Gz_len (ws : Nat → Nat) (ps : List Nat) (h : ps.length ≤ 5) (i j : Nat) : len 5 (Gz ws ps i j) := by
  rw [Gz_eq]
  have := zsum_len (m := 1) (ps.map (fun p => rt (ws i * p + 11 * (ws j * p)))) (fun a ha => by
    obtain ⟨p, _, rfl⟩ := List.mem_map.mp ha
    exact len_rt _)
  exact len_mono this (by simp; omega)
theorem Gx_len (ws : Nat → Nat) (ps : List Nat) (h : ps.length ≤ 5) (i j : Nat) : len 5 (Gx ws ps i j) := by
  unfold Gx gx
  split
  · split
    · exact len_mono len_1 (by decide)
    · exact len_mono len_0 (by decide)
  · exact Gz_len ws ps h i j
theorem Gx_ne (ws : Nat → Nat) (ps : List Nat) {i j : Nat} (h : j ≠ 5) : Gx ws ps i j = Gz ws ps i j := by
  unfold Gx gx; rw [if_neg h]
theorem zsum_nat (l : List Z4) (h : ∀ a ∈ l, a = (1, 0, 0, 0)) : zsum l = (((l.length : Nat) : Int), 0, 0, 0) := by
  induction l with
  | nil => rfl
  | cons a l ih =>
    simp only [zsum, ih (fun b hb => h b (List.mem_cons_of_mem _ hb)), h a List.mem_cons_self, List.length_cons]
    apply q_ext <;> simp [qadd]; omega
theorem Gz_ii (ws : Nat → Nat) (ps : List Nat) (i : Nat) : Gz ws ps i i = (((ps.length : Nat) : Int), 0, 0, 0) := by
  rw [Gz_eq, zsum_nat _ (fun a ha => by
    obtain ⟨p, _, rfl⟩ := List.mem_map.mp ha
    rw [rt_eq (j := 0) (by omega)]; rfl), List.length_map]
/-- the rows that are not told by others, the newest first -/
def fl (G : Nat → Nat → Z4) : Nat → List Nat
  | 0 => []
  | i + 1 => if zdx G (i :: fl G i) (i :: fl G i) = (0, 0, 0, 0) then fl G i else i :: fl G i
theorem fl_lt (G : Nat → Nat → Z4) : ∀ (i : Nat), ∀ j ∈ fl G i, j < i := by
  intro i
  induction i with
  | zero => intro j h; cases h
  | succ i ih =>
    intro j h
    unfold fl at h
    split at h
    · have := ih j h; omega
    · rcases List.mem_cons.mp h with h | h
      · omega
      · have := ih j h; omega
theorem fl_le (G : Nat → Nat → Z4) : ∀ (i : Nat), (fl G i).length ≤ i := by
  intro i
  induction i with
  | zero => exact Nat.le_refl _
  | succ i ih =>
    unfold fl
    split
    · omega
    · simp only [List.length_cons]; omega
theorem fl_gd (G : Nat → Nat → Z4) : ∀ (i : Nat), @gd Z4 (qR Int) G (fl G i) := by
  intro i
  induction i with
  | zero => exact trivial
  | succ i ih =>
    unfold fl
    split
    · exact ih
    · rename_i h; exact ⟨ih, h⟩
/-- the look is not told by others: it is the oldest -/
theorem fl_0 (G : Nat → Nat → Z4) (h : zdx G [0] [0] ≠ (0, 0, 0, 0)) : ∀ (i : Nat), ∃ f, fl G (i + 1) = f ++ [0] ∧ ∀ j ∈ f, j ≠ 0 ∧ j < i + 1 := by
  intro i
  induction i with
  | zero =>
    refine ⟨[], ?_, fun j hj => by cases hj⟩
    show (if zdx G [0] [0] = (0, 0, 0, 0) then [] else [0]) = _
    rw [if_neg h]; rfl
  | succ i ih =>
    obtain ⟨f, h1, h2⟩ := ih
    rw [fl]
    split
    · exact ⟨f, h1, fun j hj => ⟨(h2 j hj).1, by have := (h2 j hj).2; omega⟩⟩
    · refine ⟨(i + 1) :: f, by rw [h1]; rfl, fun j hj => ?_⟩
      rcases List.mem_cons.mp hj with h | h
      · omega
      · have := h2 j h; omega
