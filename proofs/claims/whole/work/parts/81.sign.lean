/-! signs on both sides -/
theorem z64 : (0 : Int64) = Int64.ofInt 0 := rfl
theorem abs64 {x : Int} (h1 : -2 ^ 62 ≤ x) (h2 : x ≤ 2 ^ 62) (g : M2) : f_Ma_abs (Int64.ofInt x) g = Int64.ofInt (if 0 ≤ x then x else -x) := by
  unfold f_Ma_abs
  have c := le64 (a := 0) (b := x) (by omega) (by omega) h1 h2
  rw [z64]
  by_cases d : 0 ≤ x
  · rw [if_pos (c.mpr d), if_pos d]
  · rw [if_neg (fun e => d (c.mp e)), if_neg d, ← Int64.ofInt_neg]
theorem ok_to {α : Type} {x : Option α} {r : α} (h : Ok x (fun s => s = r)) : x = some r := by
  obtain ⟨s, h1, h2⟩ := h
  rw [h1, h2]
theorem da_j38 {x y : Int} {s : Int} (hs : s = 1 ∨ s = -1) (x1 : -2 ^ 57 ≤ x) (x2 : x ≤ 2 ^ 57) (y1 : -2 ^ 57 ≤ y) (y2 : y ≤ 2 ^ 57) (hx : x ≠ 0) (hy : y ≠ 0) (g : M2) : Ok (j_Da_signOf_38 (Int64.ofInt x) (Int64.ofInt y) (Int32.ofInt s) g) (fun r => r = Int32.ofInt (s * sgp (if 0 ≤ x then x else -x) (if 0 ≤ y then y else -y))) := by
  unfold j_Da_signOf_38
  rw [abs64 (by omega) (by omega), abs64 (by omega) (by omega)]
  refine ok_bindm (da_sg_lp g 5000 99 0 s _ _ hs (by split <;> omega) (by split <;> omega) (by split <;> omega) (by split <;> omega) ?_ (by omega) (by omega)) (fun r hr => ?_)
  · have h : (if 0 ≤ y then y else -y) ≤ 2 ^ 57 := by split <;> omega
    generalize (if 0 ≤ y then y else -y) = w at h
    have : w * 2 ^ 99 ≤ 2 ^ 57 * 2 ^ 99 := Int.mul_le_mul_of_nonneg_right h (by decide)
    exact Int.lt_of_le_of_lt this (by decide)
  · cases r with
    | inl a => exact ok_some hr
    | inr a => exact ok_some hr
theorem da_sign {x y : Int} (x1 : -2 ^ 57 ≤ x) (x2 : x ≤ 2 ^ 57) (y1 : -2 ^ 57 ≤ y) (y2 : y ≤ 2 ^ 57) (g : M2) : f_Da_signOf (Int64.ofInt x) (Int64.ofInt y) g = some (Int32.ofInt (sgn x y)) := by
  refine ok_to ?_
  unfold f_Da_signOf j_Da_signOf_10 j_Da_signOf_20 j_Da_signOf_30
  rw [z64]
  simp only [eq64 (a := x) (b := 0) (by omega) (by omega) (by omega) (by omega), eq64 (a := y) (b := 0) (by omega) (by omega) (by omega) (by omega), lt64 (a := x) (b := 0) (by omega) (by omega) (by omega) (by omega), lt64 (a := y) (b := 0) (by omega) (by omega) (by omega) (by omega), lt64 (a := 0) (b := x) (by omega) (by omega) (by omega) (by omega), lt64 (a := 0) (b := y) (by omega) (by omega) (by omega) (by omega), le64 (a := x) (b := 0) (by omega) (by omega) (by omega) (by omega)]
  unfold sgn
  by_cases a1 : x = 0 ∧ y = 0
  · rw [if_pos a1.1, if_pos a1.2, if_pos a1]; exact ok_some rfl
  · rw [if_neg a1]
    have key : (if x = 0 then if y = 0 then some (0 : Int32) else (if x < 0 then (if 0 < x then if x ≤ 0 then j_Da_signOf_38 (Int64.ofInt x) (Int64.ofInt y) (-1) g else j_Da_signOf_38 (Int64.ofInt x) (Int64.ofInt y) 1 g else if 0 < y then if x ≤ 0 then j_Da_signOf_38 (Int64.ofInt x) (Int64.ofInt y) (-1) g else j_Da_signOf_38 (Int64.ofInt x) (Int64.ofInt y) 1 g else some (-1)) else if y < 0 then (if 0 < x then if x ≤ 0 then j_Da_signOf_38 (Int64.ofInt x) (Int64.ofInt y) (-1) g else j_Da_signOf_38 (Int64.ofInt x) (Int64.ofInt y) 1 g else if 0 < y then if x ≤ 0 then j_Da_signOf_38 (Int64.ofInt x) (Int64.ofInt y) (-1) g else j_Da_signOf_38 (Int64.ofInt x) (Int64.ofInt y) 1 g else some (-1)) else some 1) else (if x < 0 then (if 0 < x then if x ≤ 0 then j_Da_signOf_38 (Int64.ofInt x) (Int64.ofInt y) (-1) g else j_Da_signOf_38 (Int64.ofInt x) (Int64.ofInt y) 1 g else if 0 < y then if x ≤ 0 then j_Da_signOf_38 (Int64.ofInt x) (Int64.ofInt y) (-1) g else j_Da_signOf_38 (Int64.ofInt x) (Int64.ofInt y) 1 g else some (-1)) else if y < 0 then (if 0 < x then if x ≤ 0 then j_Da_signOf_38 (Int64.ofInt x) (Int64.ofInt y) (-1) g else j_Da_signOf_38 (Int64.ofInt x) (Int64.ofInt y) 1 g else if 0 < y then if x ≤ 0 then j_Da_signOf_38 (Int64.ofInt x) (Int64.ofInt y) (-1) g else j_Da_signOf_38 (Int64.ofInt x) (Int64.ofInt y) 1 g else some (-1)) else some 1)) = if 0 ≤ x ∧ 0 ≤ y then some (1 : Int32) else if x ≤ 0 ∧ y ≤ 0 then some (-1) else if 0 < x then j_Da_signOf_38 (Int64.ofInt x) (Int64.ofInt y) 1 g else j_Da_signOf_38 (Int64.ofInt x) (Int64.ofInt y) (-1) g := by
      generalize j_Da_signOf_38 (Int64.ofInt x) (Int64.ofInt y) (-1) g = A
      generalize j_Da_signOf_38 (Int64.ofInt x) (Int64.ofInt y) 1 g = B
      repeat' split
      all_goals first | rfl | (exfalso; omega)
    refine Eq.mpr (congrArg (fun t => Ok t _) key) ?_
    by_cases b1 : 0 ≤ x ∧ 0 ≤ y
    · rw [if_pos b1, if_pos b1]; exact ok_some rfl
    · rw [if_neg b1, if_neg b1]
      by_cases b2 : x ≤ 0 ∧ y ≤ 0
      · rw [if_pos b2, if_pos b2]; exact ok_some rfl
      · rw [if_neg b2, if_neg b2]
        by_cases b3 : 0 < x
        · rw [if_pos b3, if_pos b3]
          refine ok_mono (da_j38 (s := 1) (Or.inl rfl) x1 x2 y1 y2 (by omega) (by omega) g) (fun r hr => hr.trans ?_)
          rw [if_pos (show 0 ≤ x by omega), if_neg (show ¬ 0 ≤ y by omega), Int.one_mul]
          unfold sgp
          rw [show -y * -y = y * y by grind]
        · rw [if_neg b3, if_neg b3]
          refine ok_mono (da_j38 (s := -1) (Or.inr rfl) x1 x2 y1 y2 (by omega) (by omega) g) (fun r hr => hr.trans ?_)
          rw [if_neg (show ¬ 0 ≤ x by omega), if_pos (show 0 ≤ y by omega)]
          unfold sgp
          rw [show -x * -x = x * x by grind]
          split <;> rfl
theorem sgn_neg (x y : Int) : sgn (-x) (-y) = - sgn x y := by
  unfold sgn
  rw [show -x * -x = x * x by grind, show -y * -y = y * y by grind]
  by_cases hn : x * x = 3 * (y * y)
  · have h := no_root _ x y (Nat.le_refl _) hn
    by_cases hx : x = 0
    · have : y = 0 := by have := h; omega
      subst hx; subst this; rfl
    · omega
  · repeat' split
    all_goals first | rfl | omega
theorem sgn_up1 {x y : Int} (hx : 0 < x) (hy : y < 0) : sgn (2 * x + 3 * y) (x + 2 * y) = sgn x y := by
  have e : (2 * x + 3 * y) * (2 * x + 3 * y) - 3 * ((x + 2 * y) * (x + 2 * y)) = x * x - 3 * (y * y) := by grind
  have s : sgn x y = if 3 * (y * y) < x * x then 1 else -1 := by
    unfold sgn
    rw [if_neg (by omega), if_neg (by omega), if_neg (by omega), if_pos hx]
  rw [s]
  have h3 : 0 < y * y := Int.mul_pos_of_neg_of_neg hy hy
  by_cases n : 3 * (y * y) < x * x
  · rw [if_pos n]
    have a : 0 < 2 * x + 3 * y := by
      refine Decidable.byContradiction (fun hc => ?_)
      have : (2 * x) * (2 * x) ≤ (-3 * y) * (-3 * y) := Int.mul_le_mul (by omega) (by omega) (by omega) (by omega)
      have e1 : (2 * x) * (2 * x) = 4 * (x * x) := by grind
      have e2 : (-3 * y) * (-3 * y) = 9 * (y * y) := by grind
      omega
    generalize 2 * x + 3 * y = X at *
    generalize x + 2 * y = Y at *
    unfold sgn
    rw [if_neg (by omega)]
    by_cases b : 0 ≤ X ∧ 0 ≤ Y
    · rw [if_pos b]
    · rw [if_neg b, if_neg (by omega), if_pos a, if_pos (by omega)]
  · rw [if_neg n]
    have a : x + 2 * y < 0 := by
      refine Decidable.byContradiction (fun hc => ?_)
      have : (-2 * y) * (-2 * y) ≤ x * x := Int.mul_le_mul (by omega) (by omega) (by omega) (by omega)
      have e2 : (-2 * y) * (-2 * y) = 4 * (y * y) := by grind
      omega
    generalize 2 * x + 3 * y = X at *
    generalize x + 2 * y = Y at *
    unfold sgn
    rw [if_neg (by omega), if_neg (by omega)]
    by_cases b : X ≤ 0 ∧ Y ≤ 0
    · rw [if_pos b]
    · rw [if_neg b, if_pos (by omega), if_neg (by omega)]
theorem sgn_up2 {x y : Int} (hx : x < 0) (hy : 0 < y) : sgn (2 * x + 3 * y) (x + 2 * y) = sgn x y := by
  have := sgn_up1 (x := -x) (y := -y) (by omega) (by omega)
  rw [show 2 * -x + 3 * -y = -(2 * x + 3 * y) by omega, show -x + 2 * -y = -(x + 2 * y) by omega, sgn_neg, sgn_neg] at this
  omega
theorem mo_sg_fin (g : M2) {x y : Int} (x1 : -2 ^ 60 ≤ x) (x2 : x ≤ 2 ^ 60) (y1 : -2 ^ 60 ≤ y) (y2 : y ≤ 2 ^ 60) : ∀ n, 0 < n → ¬ (0 < x ∧ y < 0 ∨ x < 0 ∧ 0 < y) → Ok (lp (fun s => b_Mo_signOf_4 s.1 s.2 g) n (Int64.ofInt x, Int64.ofInt y)) (fun r => j_Mo_signOf_37 r.1 r.2 g = some (Int32.ofInt (sgn x y))) := by
    intro n hn hm
    obtain ⟨n', rfl⟩ : ∃ n', n = n' + 1 := ⟨n - 1, by omega⟩
    have eb : b_Mo_signOf_4 (Int64.ofInt x) (Int64.ofInt y) g = some (.inr (Int64.ofInt x, Int64.ofInt y)) := by
      unfold b_Mo_signOf_4 j_Mo_signOf_12
      rw [z64]
      simp only [le64 (a := x) (b := 0) (by omega) (by omega) (by omega) (by omega), le64 (a := 0) (b := x) (by omega) (by omega) (by omega) (by omega), lt64 (a := y) (b := 0) (by omega) (by omega) (by omega) (by omega), le64 (a := y) (b := 0) (by omega) (by omega) (by omega) (by omega)]
      repeat' split
      all_goals first | rfl | (exfalso; omega)
    refine ok_lpS (body := fun s => b_Mo_signOf_4 s.1 s.2 g) eb ?_
    show j_Mo_signOf_37 (Int64.ofInt x) (Int64.ofInt y) g = _
    unfold j_Mo_signOf_37 sgn
    rw [z64]
    simp only [lt64 (a := x) (b := 0) (by omega) (by omega) (by omega) (by omega), lt64 (a := 0) (b := x) (by omega) (by omega) (by omega) (by omega), le64 (a := 0) (b := y) (by omega) (by omega) (by omega) (by omega), le64 (a := y) (b := 0) (by omega) (by omega) (by omega) (by omega)]
    repeat' split
    all_goals first | rfl | (exfalso; omega)
theorem mo_sg_st (g : M2) (m n : Nat) (x y : Int) {P : Prop} (c : 0 < x ∧ y < 0 ∨ x < 0 ∧ 0 < y) (x1 : -2 ^ 57 ≤ x) (x2 : x ≤ 2 ^ 57) (y1 : -2 ^ 57 ≤ y) (y2 : y ≤ 2 ^ 57) (h1 : y < 2 ^ m * 2) (h2 : -(2 ^ m * 2) < y) (k : -2 ^ 60 ≤ 2 * x + 3 * y → 2 * x + 3 * y ≤ 2 ^ 60 → -2 ^ 60 ≤ x + 2 * y → x + 2 * y ≤ 2 ^ 60 → (0 < 2 * x + 3 * y ∧ x + 2 * y < 0 ∨ 2 * x + 3 * y < 0 ∧ 0 < x + 2 * y → x + 2 * y < 2 ^ m ∧ - 2 ^ m < x + 2 * y ∧ -2 ^ 57 ≤ 2 * x + 3 * y ∧ 2 * x + 3 * y ≤ 2 ^ 57 ∧ -2 ^ 57 ≤ x + 2 * y ∧ x + 2 * y ≤ 2 ^ 57) → P) : P := by
  generalize (2 : Int) ^ m = M at *
  exact k (by omega) (by omega) (by omega) (by omega) (fun d => by omega)
theorem mo_sg_lp (g : M2) : ∀ (m n : Nat) (x y : Int), -2 ^ 60 ≤ x → x ≤ 2 ^ 60 → -2 ^ 60 ≤ y → y ≤ 2 ^ 60 → (0 < x ∧ y < 0 ∨ x < 0 ∧ 0 < y → y < 2 ^ m ∧ - 2 ^ m < y ∧ -2 ^ 57 ≤ x ∧ x ≤ 2 ^ 57 ∧ -2 ^ 57 ≤ y ∧ y ≤ 2 ^ 57) → m < n → Ok (lp (fun s => b_Mo_signOf_4 s.1 s.2 g) n (Int64.ofInt x, Int64.ofInt y)) (fun r => j_Mo_signOf_37 r.1 r.2 g = some (Int32.ofInt (sgn x y))) := by
  intro m
  induction m with
  | zero =>
    intro n x y x1 x2 y1 y2 hm hn
    refine mo_sg_fin g x1 x2 y1 y2 n hn (fun c => ?_)
    have := hm c
    simp at this
    omega
  | succ m ih =>
    intro n x y x1 x2 y1 y2 hm hn
    by_cases c : 0 < x ∧ y < 0 ∨ x < 0 ∧ 0 < y
    · obtain ⟨n', rfl⟩ : ∃ n', n = n' + 1 := ⟨n - 1, by omega⟩
      have eb : b_Mo_signOf_4 (Int64.ofInt x) (Int64.ofInt y) g = some (.inl (Int64.ofInt (2 * x + 3 * y), Int64.ofInt (x + 2 * y))) := by
        have eq : j_Mo_signOf_20 (Int64.ofInt x) (Int64.ofInt y) g = some (.inl (Int64.ofInt (2 * x + 3 * y), Int64.ofInt (x + 2 * y))) := by
          unfold j_Mo_signOf_20
          rw [Int64.ofInt_add, Int64.ofInt_add, Int64.ofInt_mul, Int64.ofInt_mul, Int64.ofInt_mul]
          rfl
        unfold b_Mo_signOf_4 j_Mo_signOf_12
        rw [z64, eq]
        simp only [le64 (a := x) (b := 0) (by omega) (by omega) (by omega) (by omega), le64 (a := 0) (b := x) (by omega) (by omega) (by omega) (by omega), lt64 (a := y) (b := 0) (by omega) (by omega) (by omega) (by omega), le64 (a := y) (b := 0) (by omega) (by omega) (by omega) (by omega)]
        repeat' split
        all_goals first | rfl | (exfalso; omega)
      have hs : sgn (2 * x + 3 * y) (x + 2 * y) = sgn x y := by
        rcases c with c | c
        · exact sgn_up1 c.1 c.2
        · exact sgn_up2 c.1 c.2
      have hm2 := hm c
      rw [Int.pow_succ] at hm2
      refine ok_lpS (body := fun s => b_Mo_signOf_4 s.1 s.2 g) eb ?_
      rw [← hs]
      show Ok (lp (fun s => b_Mo_signOf_4 s.1 s.2 g) n' (Int64.ofInt (2 * x + 3 * y), Int64.ofInt (x + 2 * y))) _
      refine mo_sg_st g m n' x y c (by omega) (by omega) (by omega) (by omega) hm2.1 hm2.2.1 (fun a1 a2 a3 a4 a5 => ih n' _ _ a1 a2 a3 a4 a5 (by omega))
    · exact mo_sg_fin g x1 x2 y1 y2 n (by omega) c
theorem mo_sign {x y : Int} (x1 : -2 ^ 57 ≤ x) (x2 : x ≤ 2 ^ 57) (y1 : -2 ^ 57 ≤ y) (y2 : y ≤ 2 ^ 57) (g : M2) : f_Mo_signOf (Int64.ofInt x) (Int64.ofInt y) g = some (Int32.ofInt (sgn x y)) := by
  refine ok_to ?_
  unfold f_Mo_signOf
  exact ok_bindm (mo_sg_lp g 58 5000 x y (by omega) (by omega) (by omega) (by omega) (fun _ => by omega) (by omega)) (fun r hr => ok_eq hr rfl)
