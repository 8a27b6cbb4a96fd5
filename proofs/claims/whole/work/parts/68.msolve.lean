/-! the reference solves -/
def setc (v : Q6) (i : Nat) (x : Int64) : Q6 := (if i = 0 then x else v.1, if i = 1 then x else v.2.1, if i = 2 then x else v.2.2.1, if i = 3 then x else v.2.2.2)
theorem uJ_sM (g : M2) (a : Nat) {i : Nat} (hi : i < 4) (x : Int64) : uJ g 158 (4 * a + i) x = sM g a (setc (rM g a) i x) := by
  apply Prod.ext
  · rfl
  · funext y k
    show (mm_uJ g.2 158 (4 * a + i) x) y k = _
    unfold mm_uJ vp_updL sM rM setc
    by_cases hy : y = 158
    · subst hy
      simp only [if_true]
      have h4 : i = 0 ∨ i = 1 ∨ i = 2 ∨ i = 3 := by omega
      by_cases h0 : k = 4 * a
      · subst h0
        rcases h4 with rfl | rfl | rfl | rfl
        · rw [if_pos (by omega), if_pos rfl, if_pos rfl]
        · rw [if_neg (by omega), if_pos rfl, if_neg (by decide)]
        · rw [if_neg (by omega), if_pos rfl, if_neg (by decide)]
        · rw [if_neg (by omega), if_pos rfl, if_neg (by decide)]
      · rw [if_neg (c := k = 4 * a) h0]
        by_cases h1 : k = 4 * a + 1
        · subst h1
          rcases h4 with rfl | rfl | rfl | rfl
          · rw [if_neg (by omega), if_pos rfl, if_neg (by decide)]
          · rw [if_pos rfl, if_pos rfl, if_pos rfl]
          · rw [if_neg (by omega), if_pos rfl, if_neg (by decide)]
          · rw [if_neg (by omega), if_pos rfl, if_neg (by decide)]
        · rw [if_neg (c := k = 4 * a + 1) h1]
          by_cases h2 : k = 4 * a + 2
          · subst h2
            rcases h4 with rfl | rfl | rfl | rfl
            · rw [if_neg (by omega), if_pos rfl, if_neg (by decide)]
            · rw [if_neg (by omega), if_pos rfl, if_neg (by decide)]
            · rw [if_pos rfl, if_pos rfl, if_pos rfl]
            · rw [if_neg (by omega), if_pos rfl, if_neg (by decide)]
          · rw [if_neg (c := k = 4 * a + 2) h2]
            by_cases h3 : k = 4 * a + 3
            · subst h3
              rcases h4 with rfl | rfl | rfl | rfl
              · rw [if_neg (by omega), if_pos rfl, if_neg (by decide)]
              · rw [if_neg (by omega), if_pos rfl, if_neg (by decide)]
              · rw [if_neg (by omega), if_pos rfl, if_neg (by decide)]
              · rw [if_pos rfl, if_pos rfl, if_pos rfl]
            · rw [if_neg (c := k = 4 * a + 3) h3, if_neg (by omega)]
    · simp only [hy, if_false]
theorem MN_c {g g2 : M2} {D : Nat → Q6} (h : MN g g2 D) (a : Nat) (ha : a < 88) {i : Nat} (hi : i < 4) (x : Int64) : MN g (uJ g2 158 (4 * a + i) x) (up D a (setc (D a) i x)) := by
  rw [uJ_sM g2 a hi x, h.2.2 a ha]; exact MN_sM h _
theorem rM_uJ (g : M2) (k : Nat) (x : Int64) (a : Nat) : rM (uJ g 157 k x) a = rM g a := by unfold rM; rw [uJ_o g _ _ (by decide)]
theorem MN_uJ {g g2 : M2} {D : Nat → Q6} (h : MN g g2 D) (k : Nat) (x : Int64) : MN (uJ g 157 k x) (uJ g2 157 k x) D := by
  refine ⟨h.1, fun y h1 h2 => ?_, fun a ha => by rw [rM_uJ]; exact h.2.2 a ha⟩
  by_cases hy : y = 157
  · subst hy
    funext j
    by_cases hj : j = k
    · subst hj; rw [uJ_s, uJ_s]
    · rw [uJ_k _ _ _ hj, uJ_k _ _ _ hj, h.2.1 157 h1 h2]
  · rw [uJ_o _ _ _ hy, uJ_o _ _ _ hy]; exact h.2.1 y h1 h2
theorem rM_uI (g : M2) (b k : Nat) (x : Int32) (a : Nat) : rM (uI g b k x) a = rM g a := rfl
theorem c_ngm (w p : Nat) : (-cI w) * cI p = Int32.ofInt (-((w * p : Nat) : Int)) := by
  rw [c_int w, ← Int32.ofInt_neg, c_mulI]; congr 1
  rw [Int.neg_mul]; simp
theorem rz_neg (u : Nat) : rz (-(u : Int)) = rt6 (11 * u) := by
  unfold rz; exact rt6_eq (by omega)
theorem c_mul2 (k p : Nat) : cI k * cI p = Int32.ofInt ((k * p : Nat) : Int) := by rw [cI_mul, c_int]
theorem q64_re (x y : Int) : q64 (re x y) = (Int64.ofInt x, Int64.ofInt y + Int64.ofInt y, 0, -Int64.ofInt y) := by
  unfold q64 re
  refine q_ext rfl ?_ rfl ?_
  · exact Int64.ofInt_add _ _
  · exact Int64.ofInt_neg _
def hdb (ws : Nat → Nat) (ps : List Nat) (m : Nat) : Bool := decide (∀ i, i < m → mi ws ps i i i = (0, 0, 0, 0) → mi ws ps i i 5 = (0, 0, 0, 0))
theorem hdb_iff (ws : Nat → Nat) (ps : List Nat) (m : Nat) : hdb ws ps m = true ↔ Hd ws ps m := by
  unfold hdb Hd Lo; rw [decide_eq_true_eq]
/-- what has been solved -/
def MV (r : M2) (ps : List Nat) (ws : Nat → Nat) (m : Nat) : Prop := r.2 157 16 = Int64.ofInt (lowz ws ps m) ∧ r.2 157 17 = Int64.ofInt (tX ws ps m) ∧ r.2 157 18 = Int64.ofInt (tY ws ps m) ∧ (∀ j, j < (fl (Gz ws ps) m).length → rM r (57 + j) = q64 (Cz ws ps m (frz (Gz ws ps) m j))) ∧ rM r 79 = q64 (re (rX ws ps m) (-(rY ws ps m))) ∧ (∀ e, e < ps.length → rM r (62 + e) = q64 (wtz ws ps m (ps.getD e 0))) ∧ ∀ k, k < 12 → rM r (67 + k) = q64 (gnz ws ps m k)
def MS (g r : M2) (ps : List Nat) (ws : Nat → Nat) (m : Nat) (lk : Bool) : Prop := (∀ y, y ≠ 157 → y ≠ 164 → y ≠ 165 → r.1 y = g.1 y) ∧ (∀ j, j ≠ 14 → j ≠ 15 → r.1 157 j = g.1 157 j) ∧ (∀ y, y ≠ 157 → y ≠ 158 → y ≠ 159 → r.2 y = g.2 y) ∧ (∀ j, j ≠ 16 → j ≠ 17 → j ≠ 18 → r.2 157 j = g.2 157 j) ∧ r.1 157 14 = cI (fl (Gz ws ps) m).length ∧ (∀ i, i < (fl (Gz ws ps) m).length → r.1 165 i = cI (frz (Gz ws ps) m i)) ∧ (∀ i, i < m → r.1 164 i = loI ws ps i) ∧ r.1 157 15 = (if lk && hdb ws ps m then 1 else 0) ∧ ((lk = true ∧ ¬ Lo ws ps 0) → MV r ps ws m)
