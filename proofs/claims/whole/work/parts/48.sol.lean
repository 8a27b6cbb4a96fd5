/-! what stands beside each wish, by its number -/
def cv {R : Type} [Lean.Grind.CommRing R] (A : List (Nat × R)) (j : Nat) : R := sm (A.map (fun q => if q.1 = j then q.2 else 0))
theorem sm_range {R : Type} [Lean.Grind.CommRing R] (f : Nat → R) (m : Nat) : sm ((List.range (m + 1)).map f) = sm ((List.range m).map f) + f m := by
  rw [List.range_succ, List.map_append, sm_app]
  simp only [List.map_cons, List.map_nil, sm]; grind
theorem sm_delta {R : Type} [Lean.Grind.CommRing R] (f : Nat → R) (k : Nat) (x : R) : ∀ (m : Nat), sm ((List.range m).map (fun j => f j * (if k = j then x else 0))) = if k < m then f k * x else 0 := by
  intro m
  induction m with
  | zero => rfl
  | succ m ih =>
    rw [sm_range, ih]
    by_cases h1 : k < m
    · rw [if_pos h1, if_neg (show ¬ k = m by omega), if_pos (show k < m + 1 by omega)]; grind
    · rw [if_neg h1]
      by_cases h2 : k = m
      · rw [if_pos h2, if_pos (show k < m + 1 by omega), h2]; grind
      · rw [if_neg h2, if_neg (show ¬ k < m + 1 by omega)]; grind
theorem cv_sum {R : Type} [Lean.Grind.CommRing R] (A : List (Nat × R)) (m : Nat) (hk : ∀ q ∈ A, q.1 < m) (f : Nat → R) : sm ((List.range m).map (fun j => f j * cv A j)) = sm (A.map (fun q => f q.1 * q.2)) := by
  have e : ∀ j ∈ List.range m, f j * cv A j = sm (A.map (fun q => f j * (if q.1 = j then q.2 else 0))) := fun j _ => by rw [cv, sm_mul]
  rw [sm_congr e, sm_swap]
  refine sm_congr (fun q hq => ?_)
  rw [sm_delta, if_pos (hk q hq)]
theorem cv_none {R : Type} [Lean.Grind.CommRing R] (A : List (Nat × R)) (j : Nat) (h : ∀ q ∈ A, q.1 ≠ j) : cv A j = 0 := by
  unfold cv
  have e : ∀ q ∈ A, (if q.1 = j then q.2 else 0) = 0 := fun q hq => if_neg (h q hq)
  rw [sm_congr e, sm_0]
theorem cv_at {R : Type} [Lean.Grind.CommRing R] (A B : List (Nat × R)) (j : Nat) (x : R) (h1 : ∀ q ∈ A, q.1 ≠ j) (h2 : ∀ q ∈ B, q.1 ≠ j) : cv (A ++ (j, x) :: B) j = x := by
  unfold cv
  rw [List.map_append, sm_app]
  have e1 := cv_none A j h1
  have e2 := cv_none B j h2
  unfold cv at e1 e2
  simp only [List.map_cons, sm, e1, e2, if_true]
  grind
/-- the sum from a wish on: those ahead of it fall away -/
theorem sm_from {R : Type} [Lean.Grind.CommRing R] (f : Nat → R) (i : Nat) : ∀ (k : Nat), (∀ j, j < i → f j = 0) → sm ((List.range (i + k)).map f) = sm ((List.range k).map (fun t => f (i + t))) := by
  intro k
  induction k with
  | zero =>
    intro h
    have e : ∀ j ∈ List.range (i + 0), f j = 0 := fun j hj => h j (by simpa using hj)
    rw [sm_congr e, sm_0]; rfl
  | succ k ih =>
    intro h
    rw [show i + (k + 1) = (i + k) + 1 by omega, sm_range, ih h, sm_range]
section
variable (ws : Nat → Nat) (ps : List Nat) (m : Nat)
/-- a cell of the form when wishes below i have been taken out -/
def mi (i r c : Nat) : Z4 := zdx (Gx ws ps) (r :: fl (Gz ws ps) i) (c :: fl (Gz ws ps) i)
def rm (i : Nat) : Z4 := zdx (Gz ws ps) (fl (Gz ws ps) i) (fl (Gz ws ps) i)
def Lo (i : Nat) : Prop := mi ws ps i i i = (0, 0, 0, 0)
def rX : Int := (rm ws ps m).1
def rY : Int := -(rm ws ps m).2.2.2
def lowz : Int := rX ws ps m * rX ws ps m - 3 * (rY ws ps m * rY ws ps m)
/-- beside each wish -/
def Clz : List (Nat × Z4) := @Cl Z4 (qR Int) (Gz ws ps) (fl (Gz ws ps) m).dropLast 0
def Cz (i : Nat) : Z4 := @cv Z4 (qR Int) (Clz ws ps m) i
def shz (i : Nat) : Z4 := qmul (Cz ws ps m i) (re (rX ws ps m) (-(rY ws ps m)))
def wtz (p : Nat) : Z4 := zsum ((List.range m).map (fun i => qmul (shz ws ps m i) (rt ((12 - ws i) * p))))
def gnz (k : Nat) : Z4 := zsum (ps.map (fun p => qmul (wtz ws ps m p) (rt (k * p))))
/-- all that is asked can be -/
def Hd : Prop := ∀ i, i < m → Lo ws ps i → mi ws ps i i 5 = (0, 0, 0, 0)
end
theorem mi_dx {ws : Nat → Nat} {ps : List Nat} {i r c : Nat} (hi : i ≤ 5) (hc : c ≠ 5) : mi ws ps i r c = zdx (Gz ws ps) (r :: fl (Gz ws ps) i) (c :: fl (Gz ws ps) i) := by
  refine @gx_dx Z4 (qR Int) _ _ _ (fun j hj => ?_)
  rcases List.mem_cons.mp hj with h | h
  · omega
  · have := fl_lt _ i j h; omega
theorem Lo_dx {ws : Nat → Nat} {ps : List Nat} {i : Nat} (hi : i < 5) : Lo ws ps i ↔ zdx (Gz ws ps) (i :: fl (Gz ws ps) i) (i :: fl (Gz ws ps) i) = (0, 0, 0, 0) := by
  unfold Lo; rw [mi_dx (by omega) (by omega)]
theorem fl_lost {ws : Nat → Nat} {ps : List Nat} {i : Nat} (hi : i < 5) (h : Lo ws ps i) : fl (Gz ws ps) (i + 1) = fl (Gz ws ps) i := by
  rw [fl, if_pos ((Lo_dx hi).mp h)]
theorem fl_free {ws : Nat → Nat} {ps : List Nat} {i : Nat} (hi : i < 5) (h : ¬ Lo ws ps i) : fl (Gz ws ps) (i + 1) = i :: fl (Gz ws ps) i := by
  rw [fl, if_neg (fun e => h ((Lo_dx hi).mpr e))]
theorem mi_lost {ws : Nat → Nat} {ps : List Nat} {i : Nat} (hi : i < 5) (h : Lo ws ps i) (r c : Nat) : mi ws ps (i + 1) r c = mi ws ps i r c := by
  unfold mi; rw [fl_lost hi h]
theorem rm_lost {ws : Nat → Nat} {ps : List Nat} {i : Nat} (hi : i < 5) (h : Lo ws ps i) : rm ws ps (i + 1) = rm ws ps i := by
  unfold rm; rw [fl_lost hi h]
theorem rm_free {ws : Nat → Nat} {ps : List Nat} {i : Nat} (hi : i < 5) (h : ¬ Lo ws ps i) : rm ws ps (i + 1) = mi ws ps i i i := by
  unfold rm; rw [fl_free hi h, mi_dx (by omega) (by omega)]
theorem rm_gx {ws : Nat → Nat} {ps : List Nat} {i : Nat} (hi : i ≤ 5) : rm ws ps i = zdx (Gx ws ps) (fl (Gz ws ps) i) (fl (Gz ws ps) i) :=
  (@gx_dx Z4 (qR Int) _ _ _ (fun j hj => by have := fl_lt _ i j hj; omega)).symm
/-- the step of the elimination -/
theorem mi_step {ws : Nat → Nat} {ps : List Nat} {i : Nat} (hi : i ≤ 3) (h : ¬ Lo ws ps i) (r c : Nat) : qmul (mi ws ps (i + 1) r c) (rm ws ps i) = qsub (qmul (mi ws ps i i i) (mi ws ps i r c)) (qmul (mi ws ps i r i) (mi ws ps i i c)) := by
  have hd := @dx_dj Z4 (qR Int) (Gx ws ps) i r c (fl (Gz ws ps) i) (by have := fl_le (Gz ws ps) i; omega)
  rw [rm_gx (by omega)]
  unfold mi
  rw [fl_free (by omega) h]
  exact hd
theorem mi_cj {ws : Nat → Nat} {ps : List Nat} {i r c : Nat} (hi : i ≤ 4) (hr : r ≠ 5) (hc : c ≠ 5) : cj (mi ws ps i r c) = mi ws ps i c r := by
  rw [mi_dx (by omega) hc, mi_dx (by omega) hr]
  exact @dx_c Z4 (qR Int) cj isT z_pos (ps.map (hz ws)) _ _ rfl (by have := fl_le (Gz ws ps) i; simp only [List.length_cons]; omega)
theorem mi_re {ws : Nat → Nat} {ps : List Nat} {i r : Nat} (hi : i ≤ 4) (hr : r ≠ 5) : mi ws ps i r r = re (mi ws ps i r r).1 (-(mi ws ps i r r).2.2.2) := re_of_cj (mi_cj hi hr hr)
theorem z_10 : (@OfNat.ofNat Z4 1 (@Lean.Grind.Semiring.ofNat Z4 (@Lean.Grind.Ring.toSemiring Z4 (@Lean.Grind.CommRing.toRing Z4 (qR Int))) 1)) ≠ (@OfNat.ofNat Z4 0 (@Lean.Grind.Semiring.ofNat Z4 (@Lean.Grind.Ring.toSemiring Z4 (@Lean.Grind.CommRing.toRing Z4 (qR Int))) 0)) := by
  intro h
  have h2 := congrArg (fun q : Z4 => q.1) h
  exact absurd h2 (by decide)
theorem rm_T {ws : Nat → Nat} {ps : List Nat} {i : Nat} (hi : i ≤ 5) : isT (rm ws ps i) ∧ rm ws ps i ≠ (0, 0, 0, 0) :=
  @gd_T Z4 (qR Int) cj isT z_pos (ps.map (hz ws)) z_10 (fl (Gz ws ps) i) (fl_gd (Gz ws ps) i) (by have := fl_le (Gz ws ps) i; omega)
theorem rm_re {ws : Nat → Nat} {ps : List Nat} {i : Nat} (hi : i ≤ 5) : rm ws ps i = re (rX ws ps i) (rY ws ps i) ∧ tp (rX ws ps i) (rY ws ps i) := by
  obtain ⟨⟨x, y, h1, h2⟩, h3⟩ := rm_T (ws := ws) (ps := ps) hi
  have ex : rX ws ps i = x := by unfold rX; rw [h1]; rfl
  have ey : rY ws ps i = y := by unfold rY; rw [h1]; simp [re]
  rw [ex, ey]
  refine ⟨h1, tn_tp h2 (fun hz => h3 ?_)⟩
  rw [h1, hz.1, hz.2]; rfl
theorem low_pos {ws : Nat → Nat} {ps : List Nat} {i : Nat} (hi : i ≤ 5) : 0 < lowz ws ps i := by
  have := (rm_re (ws := ws) (ps := ps) hi).2.2
  unfold lowz; omega
theorem mi_len {ws : Nat → Nat} {ps : List Nat} (hp : ps.length ≤ 5) (i r c : Nat) : len (dlen ((fl (Gz ws ps) i).length + 1)) (mi ws ps i r c) :=
  dx_len (Gx_len ws ps hp) (r :: fl (Gz ws ps) i) (c :: fl (Gz ws ps) i) rfl
theorem rm_len {ws : Nat → Nat} {ps : List Nat} (hp : ps.length ≤ 5) (i : Nat) : len (dlen (fl (Gz ws ps) i).length) (rm ws ps i) :=
  dx_len (Gz_len ws ps hp) _ _ rfl
