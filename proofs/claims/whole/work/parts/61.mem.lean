/-! the reference's numbers, four by four -/
abbrev Q6 : Type := Q4 Int64
def rM (g : M2) (a : Nat) : Q6 := (g.2 158 (4 * a), g.2 158 (4 * a + 1), g.2 158 (4 * a + 2), g.2 158 (4 * a + 3))
def sM (g : M2) (a : Nat) (v : Q6) : M2 := (g.1, fun y k => if y = 158 then (if k = 4 * a then v.1 else if k = 4 * a + 1 then v.2.1 else if k = 4 * a + 2 then v.2.2.1 else if k = 4 * a + 3 then v.2.2.2 else g.2 158 k) else g.2 y k)
theorem sM_1 (g : M2) (a : Nat) (v : Q6) : (sM g a v).1 = g.1 := rfl
theorem sM_o (g : M2) (a : Nat) (v : Q6) {y : Nat} (h : y ≠ 158) : (sM g a v).2 y = g.2 y := by
  funext k; show (if y = 158 then _ else _) = _; rw [if_neg h]
theorem rM_sM (g : M2) (a : Nat) (v : Q6) : rM (sM g a v) a = v := by
  apply q_ext <;> simp [rM, sM]
theorem rM_sMo (g : M2) {a b : Nat} (v : Q6) (h : b ≠ a) : rM (sM g a v) b = rM g b := by
  have key : ∀ i, i < 4 → (sM g a v).2 158 (4 * b + i) = g.2 158 (4 * b + i) := by
    intro i hi
    show (if 158 = 158 then (if 4 * b + i = 4 * a then v.1 else if 4 * b + i = 4 * a + 1 then v.2.1 else if 4 * b + i = 4 * a + 2 then v.2.2.1 else if 4 * b + i = 4 * a + 3 then v.2.2.2 else g.2 158 (4 * b + i)) else g.2 158 (4 * b + i)) = _
    rw [if_pos rfl, if_neg (by omega), if_neg (by omega), if_neg (by omega), if_neg (by omega)]
  apply q_ext
  · exact key 0 (by decide)
  · exact key 1 (by decide)
  · exact key 2 (by decide)
  · exact key 3 (by decide)
def pM (g : M2) (to : Nat) (v : Nat → Int64) (i : Nat) : M2 := (g.1, fun y j => if y = 158 ∧ 4 * to ≤ j ∧ j < 4 * to + i then v (j - 4 * to) else g.2 y j)
theorem pM_0 (g : M2) (to : Nat) (v : Nat → Int64) : pM g to v 0 = g := by
  unfold pM
  apply Prod.ext
  · rfl
  · funext y j; show (if _ then _ else _) = _; rw [if_neg (by omega)]
theorem pM_1 (g : M2) (to : Nat) (v : Nat → Int64) (i : Nat) : (pM g to v i).1 = g.1 := rfl
theorem pM_st (g : M2) (to : Nat) (v : Nat → Int64) (i : Nat) : uJ (pM g to v i) 158 (4 * to + i) (v i) = pM g to v (i + 1) := by
  apply Prod.ext
  · rfl
  · funext y j
    show (mm_uJ (pM g to v i).2 158 (4 * to + i) (v i)) y j = (pM g to v (i + 1)).2 y j
    unfold mm_uJ vp_updL
    by_cases hy : y = 158
    · subst hy
      rw [if_pos rfl]
      show (if j = 4 * to + i then v i else (pM g to v i).2 158 j) = _
      unfold pM
      simp only [true_and]
      by_cases hj : j = 4 * to + i
      · subst hj
        rw [if_pos rfl, if_pos (by omega), show 4 * to + i - 4 * to = i by omega]
      · rw [if_neg hj]
        by_cases h2 : 4 * to ≤ j ∧ j < 4 * to + i
        · rw [if_pos h2, if_pos (by omega)]
        · rw [if_neg h2, if_neg (by omega)]
    · rw [if_neg hy]
      unfold pM
      simp only [hy, false_and, if_false]
theorem pM_4 (g : M2) (to : Nat) (v : Nat → Int64) : pM g to v 4 = sM g to (v 0, v 1, v 2, v 3) := by
  unfold pM sM
  apply Prod.ext
  · rfl
  · funext y j
    simp only
    by_cases hy : y = 158
    · subst hy
      simp only [true_and, if_true]
      by_cases h0 : j = 4 * to
      · rw [if_pos (by omega), if_pos h0, show j - 4 * to = 0 by omega]
      · rw [if_neg h0]
        by_cases h1 : j = 4 * to + 1
        · rw [if_pos (by omega), if_pos h1, show j - 4 * to = 1 by omega]
        · rw [if_neg h1]
          by_cases h2 : j = 4 * to + 2
          · rw [if_pos (by omega), if_pos h2, show j - 4 * to = 2 by omega]
          · rw [if_neg h2]
            by_cases h3 : j = 4 * to + 3
            · rw [if_pos (by omega), if_pos h3, show j - 4 * to = 3 by omega]
            · rw [if_neg h3, if_neg (by omega)]
    · simp only [hy, false_and, if_false]
theorem pM_rd (g : M2) (to : Nat) (v : Nat → Int64) {a i : Nat} (hi : i < 4) : (pM g to v i).2 158 (4 * a + i) = g.2 158 (4 * a + i) := by
  unfold pM; simp only; rw [if_neg (by omega)]
theorem ix4 (a k : Nat) : (4 : Int32) * cI a + cI k = cI (4 * a + k) := by
  rw [show (4 : Int32) = cI 4 from rfl, cI_mul, cI_add]
theorem c_succ (k : Nat) : cI k + (1 : Int32) = cI (k + 1) := by rw [show (1 : Int32) = cI 1 from rfl, cI_add]
theorem mo_clears {a : Nat} (ha : a < 88) (g : M2) : f_Mo_clears (cI a) g = some (sM g a (0, 0, 0, 0)) := by
  have h : Ok (f_Mo_clears (cI a) g) (fun r => r = sM g a (0, 0, 0, 0)) := by
    unfold f_Mo_clears
    refine ok_bindm (Q := fun r => r = sM g a (0, 0, 0, 0)) ?_ (fun r hr => ok_some hr)
    refine ok_for 4 (by decide) (fun k s => s = pM g a (fun _ => 0) k) (pM_0 _ _ _).symm ?_ ?_
    · rintro k s hk rfl
      show Ok (b_Mo_clears_2 (cI a) (cI k) _) _
      unfold b_Mo_clears_2
      rw [ix4]
      refine ok_neg (le_no (a := 4) hk (by decide)) (ok_pos (inb_cI (by omega) (by decide)) (ok_bd (ok_some ?_)))
      rw [cI_nat (by omega), c_succ]
      exact ⟨rfl, pM_st g a (fun _ => 0) k⟩
    · rintro s rfl
      show Ok (b_Mo_clears_2 (cI a) (cI 4) _) _
      unfold b_Mo_clears_2
      exact ok_pos (le_yes (a := 4) (Nat.le_refl _) (by decide)) (ok_some (pM_4 g a (fun _ => 0)))
  obtain ⟨r, e, rfl⟩ := h
  exact e
/-- times -/
def qsc {K : Type} [Lean.Grind.CommRing K] (t : K) (n : Q4 K) : Q4 K := (n.1 * t, n.2.1 * t, n.2.2.1 * t, n.2.2.2 * t)
theorem mo_adds {t a : Nat} (ht : t < 88) (ha : a < 88) (x : Int64) (g : M2) : f_Mo_adds (cI t) (cI a) x g = some (sM g t (qadd (rM g t) (qsc x (rM g a)))) := by
  have h : Ok (f_Mo_adds (cI t) (cI a) x g) (fun r => r = sM g t (qadd (rM g t) (qsc x (rM g a)))) := by
    unfold f_Mo_adds
    refine ok_bindm (Q := fun r => r = sM g t (qadd (rM g t) (qsc x (rM g a)))) ?_ (fun r hr => ok_some hr)
    refine ok_for 4 (by decide) (fun k s => s = pM g t (fun i => g.2 158 (4 * t + i) + g.2 158 (4 * a + i) * x) k) (pM_0 _ _ _).symm ?_ ?_
    · rintro k s hk rfl
      show Ok (b_Mo_adds_2 (cI t) (cI a) x (cI k) _) _
      unfold b_Mo_adds_2
      rw [ix4, ix4]
      refine ok_neg (le_no (a := 4) hk (by decide)) (ok_pos (inb_cI (by omega) (by decide)) (ok_pos (inb_cI (by omega) (by decide)) (ok_pos (inb_cI (by omega) (by decide)) (ok_bd (ok_some ?_)))))
      rw [cI_nat (by omega), cI_nat (by omega), c_succ, pM_rd _ _ _ hk, pM_rd _ _ _ hk]
      exact ⟨rfl, pM_st g t (fun i => g.2 158 (4 * t + i) + g.2 158 (4 * a + i) * x) k⟩
    · rintro s rfl
      show Ok (b_Mo_adds_2 (cI t) (cI a) x (cI 4) _) _
      unfold b_Mo_adds_2
      exact ok_pos (le_yes (a := 4) (Nat.le_refl _) (by decide)) (ok_some (pM_4 g t (fun i => g.2 158 (4 * t + i) + g.2 158 (4 * a + i) * x)))
  obtain ⟨r, e, rfl⟩ := h
  exact e
/-- whole numbers, as longs -/
def q64 (a : Z4) : Q6 := (Int64.ofInt a.1, Int64.ofInt a.2.1, Int64.ofInt a.2.2.1, Int64.ofInt a.2.2.2)
theorem q64_add (a b : Z4) : q64 (qadd a b) = qadd (q64 a) (q64 b) := by
  apply q_ext <;> exact Int64.ofInt_add _ _
theorem q64_sub (a b : Z4) : q64 (qsub a b) = qsub (q64 a) (q64 b) := by
  apply q_ext <;> exact Int64.ofInt_sub _ _
theorem q64_neg (a : Z4) : q64 (qneg a) = qneg (q64 a) := by
  apply q_ext <;> exact Int64.ofInt_neg _
theorem q64_mul (a b : Z4) : q64 (qmul a b) = qmul (q64 a) (q64 b) := by
  apply q_ext
  · show Int64.ofInt (a.1 * b.1 - (a.2.1 * b.2.2.2 + a.2.2.1 * b.2.2.1 + a.2.2.2 * b.2.1) - a.2.2.2 * b.2.2.2) = Int64.ofInt a.1 * Int64.ofInt b.1 - (Int64.ofInt a.2.1 * Int64.ofInt b.2.2.2 + Int64.ofInt a.2.2.1 * Int64.ofInt b.2.2.1 + Int64.ofInt a.2.2.2 * Int64.ofInt b.2.1) - Int64.ofInt a.2.2.2 * Int64.ofInt b.2.2.2
    simp only [Int64.ofInt_sub, Int64.ofInt_add, Int64.ofInt_mul]
  · show Int64.ofInt (a.1 * b.2.1 + a.2.1 * b.1 - (a.2.2.1 * b.2.2.2 + a.2.2.2 * b.2.2.1)) = Int64.ofInt a.1 * Int64.ofInt b.2.1 + Int64.ofInt a.2.1 * Int64.ofInt b.1 - (Int64.ofInt a.2.2.1 * Int64.ofInt b.2.2.2 + Int64.ofInt a.2.2.2 * Int64.ofInt b.2.2.1)
    simp only [Int64.ofInt_sub, Int64.ofInt_add, Int64.ofInt_mul]
  · show Int64.ofInt (a.1 * b.2.2.1 + a.2.1 * b.2.1 + a.2.2.1 * b.1 + (a.2.1 * b.2.2.2 + a.2.2.1 * b.2.2.1 + a.2.2.2 * b.2.1)) = Int64.ofInt a.1 * Int64.ofInt b.2.2.1 + Int64.ofInt a.2.1 * Int64.ofInt b.2.1 + Int64.ofInt a.2.2.1 * Int64.ofInt b.1 + (Int64.ofInt a.2.1 * Int64.ofInt b.2.2.2 + Int64.ofInt a.2.2.1 * Int64.ofInt b.2.2.1 + Int64.ofInt a.2.2.2 * Int64.ofInt b.2.1)
    simp only [Int64.ofInt_sub, Int64.ofInt_add, Int64.ofInt_mul]
  · show Int64.ofInt (a.1 * b.2.2.2 + a.2.1 * b.2.2.1 + a.2.2.1 * b.2.1 + a.2.2.2 * b.1 + (a.2.2.1 * b.2.2.2 + a.2.2.2 * b.2.2.1)) = Int64.ofInt a.1 * Int64.ofInt b.2.2.2 + Int64.ofInt a.2.1 * Int64.ofInt b.2.2.1 + Int64.ofInt a.2.2.1 * Int64.ofInt b.2.1 + Int64.ofInt a.2.2.2 * Int64.ofInt b.1 + (Int64.ofInt a.2.2.1 * Int64.ofInt b.2.2.2 + Int64.ofInt a.2.2.2 * Int64.ofInt b.2.2.1)
    simp only [Int64.ofInt_sub, Int64.ofInt_add, Int64.ofInt_mul]
theorem q64_cj (a : Z4) : q64 (cj a) = cj (q64 a) := by
  apply q_ext
  · exact Int64.ofInt_add _ _
  · rfl
  · exact Int64.ofInt_neg _
  · exact (Int64.ofInt_sub _ _).trans (congrArg (fun z => z - Int64.ofInt a.2.2.2) (Int64.ofInt_neg _))
def rt6 (k : Nat) : Q6 := q64 (rt k)
def PW (g : M2) : Prop := ∀ j, j < 24 → g.1 1002 j = mm_pw j
theorem fm12 (g : M2) : ∀ n : Nat, n < 1024 → f_Ma_floorMod (Int32.ofInt ((n : Int) - 512)) (12 : Int32) g = some (cI (((n : Int) - 512) % 12).toNat) := by
  simp only [f_Ma_floorMod]
  decide +kernel
theorem pw_tab : ∀ e : Nat, e < 6 → ∀ i : Nat, i < 4 → (mm_pw (4 * e + i)).toInt64 = ([(rt6 e).1, (rt6 e).2.1, (rt6 e).2.2.1, (rt6 e).2.2.2] : List Int64).getD i 0 := by decide +kernel
theorem rt6_neg : ∀ e : Nat, e < 6 → rt6 (e + 6) = qneg (rt6 e) := by decide +kernel
