/-! x + y r, at least 0 by both signs of r -/
theorem sq_le {a b : Int} (ha : 0 ≤ a) (h : b * b ≤ a * a) : b ≤ a := by
  apply Int.not_lt.mp
  intro hl
  have h1 : a * a ≤ a * b := Int.mul_le_mul_of_nonneg_left (by omega) ha
  have h2 : a * b < b * b := Int.mul_lt_mul_of_pos_right hl (by omega)
  omega
theorem sq_nn (a : Int) : 0 ≤ a * a := by
  rcases Int.le_total 0 a with h | h
  · exact Int.mul_nonneg h h
  · exact Int.mul_nonneg_of_nonpos_of_nonpos h h
theorem sq_z {a : Int} (h : a * a ≤ 0) : a = 0 := by
  have h1 := sq_nn a
  rcases Int.mul_eq_zero.mp (show a * a = 0 by omega) with h | h <;> exact h
def tn (x y : Int) : Prop := 0 ≤ x ∧ 3 * (y * y) ≤ x * x
theorem tn_int {n : Int} (h : 0 ≤ n) : tn n 0 := ⟨h, by have := sq_nn n; omega⟩
theorem tn_neg {x y : Int} (h : tn x y) : tn x (-y) := ⟨h.1, by have := h.2; grind⟩
theorem tn_xx {x y u v : Int} (h : tn x y) (k : tn u v) : 3 * (y * v) ≤ x * u ∧ -(3 * (y * v)) ≤ x * u := by
  obtain ⟨h1, h2⟩ := h
  obtain ⟨k1, k2⟩ := k
  have hxu : 0 ≤ x * u := Int.mul_nonneg h1 k1
  have e : (3 * (y * v)) * (3 * (y * v)) ≤ (x * u) * (x * u) := by
    have e1 : (3 * (y * y)) * (3 * (v * v)) ≤ (x * x) * (3 * (v * v)) := Int.mul_le_mul_of_nonneg_right h2 (by have := sq_nn v; omega)
    have e2 : (x * x) * (3 * (v * v)) ≤ (x * x) * (u * u) := Int.mul_le_mul_of_nonneg_left k2 (sq_nn x)
    have e3 : (3 * (y * v)) * (3 * (y * v)) = (3 * (y * y)) * (3 * (v * v)) := by grind
    have e4 : (x * u) * (x * u) = (x * x) * (u * u) := by grind
    omega
  refine ⟨sq_le hxu e, sq_le hxu ?_⟩
  have : (-(3 * (y * v))) * (-(3 * (y * v))) = (3 * (y * v)) * (3 * (y * v)) := by grind
  omega
theorem tn_add {x y u v : Int} (h : tn x y) (k : tn u v) : tn (x + u) (y + v) := by
  have e := (tn_xx h k).1
  obtain ⟨h1, h2⟩ := h
  obtain ⟨k1, k2⟩ := k
  refine ⟨by omega, ?_⟩
  have e1 : 3 * ((y + v) * (y + v)) = 3 * (y * y) + 3 * (v * v) + 2 * (3 * (y * v)) := by grind
  have e2 : (x + u) * (x + u) = x * x + u * u + 2 * (x * u) := by grind
  omega
theorem tn_mul {x y u v : Int} (h : tn x y) (k : tn u v) : tn (x * u + 3 * (y * v)) (x * v + y * u) := by
  have e := (tn_xx h k).2
  refine ⟨by omega, ?_⟩
  have h3 : 0 ≤ (x * x - 3 * (y * y)) * (u * u - 3 * (v * v)) := Int.mul_nonneg (by have := h.2; omega) (by have := k.2; omega)
  have e1 : (x * u + 3 * (y * v)) * (x * u + 3 * (y * v)) - 3 * ((x * v + y * u) * (x * v + y * u)) = (x * x - 3 * (y * y)) * (u * u - 3 * (v * v)) := by grind
  omega
/-- above 0 by both -/
def tp (x y : Int) : Prop := 0 < x ∧ 3 * (y * y) < x * x
theorem tp_tn {x y : Int} (h : tp x y) : tn x y := ⟨Int.le_of_lt h.1, Int.le_of_lt h.2⟩
theorem tn_cancel {p q x y : Int} (hp : tp p q) (h : tn (p * x + 3 * (q * y)) (p * y + q * x)) : tn x y := by
  obtain ⟨p1, p2⟩ := hp
  obtain ⟨h1, h2⟩ := h
  have e1 : (p * x + 3 * (q * y)) * (p * x + 3 * (q * y)) - 3 * ((p * y + q * x) * (p * y + q * x)) = (p * p - 3 * (q * q)) * (x * x - 3 * (y * y)) := by grind
  have hn : 0 ≤ x * x - 3 * (y * y) := by
    apply Int.not_lt.mp
    intro hl
    have := Int.mul_neg_of_pos_of_neg (show 0 < p * p - 3 * (q * q) by omega) hl
    omega
  refine ⟨?_, by omega⟩
  apply Int.not_lt.mp
  intro hx
  have t : tn (-x) y := ⟨by omega, by have : (-x) * (-x) = x * x := by grind
                                      omega⟩
  have e2 := (tn_xx (tn_neg (tp_tn ⟨p1, p2⟩)) t).2
  have e3 : -(3 * (-q * y)) = 3 * (q * y) := by grind
  have e4 : p * -x = -(p * x) := by grind
  have hz : p * x + 3 * (q * y) = 0 := by omega
  have hz2 : 3 * ((p * y + q * x) * (p * y + q * x)) ≤ 0 := by rw [hz] at h2; omega
  have hz3 : (p * p - 3 * (q * q)) * (x * x - 3 * (y * y)) = 0 := by
    have := sq_nn (p * y + q * x)
    have := sq_z (a := p * y + q * x) (by omega)
    rw [← e1, hz, this]; rfl
  have hxy : x * x - 3 * (y * y) = 0 := by
    rcases Int.mul_eq_zero.mp hz3 with h | h
    · omega
    · exact h
  have hpy : p * y + q * x = 0 := sq_z (by have := sq_nn (p * y + q * x); omega)
  have h5 : (p * p - 3 * (q * q)) * x = 0 := by
    have : (p * p - 3 * (q * q)) * x = p * (p * x + 3 * (q * y)) - 3 * (q * (p * y + q * x)) := by grind
    rw [this, hz, hpy]; omega
  rcases Int.mul_eq_zero.mp h5 with h | h <;> omega
theorem tp_mul {x y u v : Int} (h : tp x y) (k : tp u v) : tp (x * u + 3 * (y * v)) (x * v + y * u) := by
  have e := tn_mul (tp_tn h) (tp_tn k)
  have h3 : 0 < (x * x - 3 * (y * y)) * (u * u - 3 * (v * v)) := Int.mul_pos (by have := h.2; omega) (by have := k.2; omega)
  have e1 : (x * u + 3 * (y * v)) * (x * u + 3 * (y * v)) - 3 * ((x * v + y * u) * (x * v + y * u)) = (x * x - 3 * (y * y)) * (u * u - 3 * (v * v)) := by grind
  refine ⟨?_, by omega⟩
  apply Int.not_le.mp
  intro hl
  have h0 : x * u + 3 * (y * v) = 0 := by have := e.1; omega
  have := sq_nn (x * v + y * u)
  rw [h0] at e1
  omega
/-- r is no fraction -/
theorem no_root : ∀ (n : Nat) (x y : Int), x.natAbs ≤ n → x * x = 3 * (y * y) → x = 0 ∧ y = 0 := by
  intro n
  induction n with
  | zero =>
    intro x y hx h
    have : x = 0 := by omega
    subst this
    exact ⟨rfl, sq_z (by omega)⟩
  | succ n ih =>
    intro x y hx h
    by_cases h0 : x = 0
    · subst h0; exact ⟨rfl, sq_z (by omega)⟩
    · have hm : x % 3 = 0 := by
        have : (x * x) % 3 = 0 := by omega
        have h1 : (x * x) % 3 = ((x % 3) * (x % 3)) % 3 := Int.mul_emod x x 3
        have h2 : x % 3 = 0 ∨ x % 3 = 1 ∨ x % 3 = 2 := by omega
        rcases h2 with h2 | h2 | h2
        · exact h2
        · rw [h2] at h1; omega
        · rw [h2] at h1; omega
      obtain ⟨u, hu⟩ : ∃ u, x = 3 * u := ⟨x / 3, by omega⟩
      have hy2 : y * y = 3 * (u * u) := by subst hu; have : 3 * u * (3 * u) = 9 * (u * u) := by grind
                                           omega
      have hm2 : y % 3 = 0 := by
        have : (y * y) % 3 = 0 := by omega
        have h1 : (y * y) % 3 = ((y % 3) * (y % 3)) % 3 := Int.mul_emod y y 3
        have h2 : y % 3 = 0 ∨ y % 3 = 1 ∨ y % 3 = 2 := by omega
        rcases h2 with h2 | h2 | h2
        · exact h2
        · rw [h2] at h1; omega
        · rw [h2] at h1; omega
      obtain ⟨v, hv⟩ : ∃ v, y = 3 * v := ⟨y / 3, by omega⟩
      have hu2 : u * u = 3 * (v * v) := by subst hv; have : 3 * v * (3 * v) = 9 * (v * v) := by grind
                                           omega
      have := ih u v (by omega) hu2
      omega
theorem tn_tp {x y : Int} (h : tn x y) (hz : ¬ (x = 0 ∧ y = 0)) : tp x y := by
  obtain ⟨h1, h2⟩ := h
  have hne : x * x ≠ 3 * (y * y) := fun e => hz (no_root _ x y (Nat.le_refl _) e)
  refine ⟨?_, by omega⟩
  apply Int.not_le.mp
  intro hl
  have : x = 0 := by omega
  subst this
  have := sq_nn y
  omega
/-- the power of a number -/
def pX (a b c d : Int) : Int := a * a + b * b + c * c + d * d + a * c + b * d
def pY (a b c d : Int) : Int := a * b + b * c + c * d
theorem pX_nn (a b c d : Int) : 2 * pX a b c d = a * a + c * c + (a + c) * (a + c) + (b * b + d * d + (b + d) * (b + d)) := by
  unfold pX; grind
theorem p_tn (a b c d : Int) : tn (pX a b c d) (pY a b c d) := by
  have h1 := pX_nn a b c d
  have s1 := sq_nn a
  have s2 := sq_nn b
  have s3 := sq_nn c
  have s4 := sq_nn d
  have s5 := sq_nn (a + c)
  have s6 := sq_nn (b + d)
  refine ⟨by omega, ?_⟩
  have e : 4 * (pX a b c d * pX a b c d - 3 * (pY a b c d * pY a b c d)) = (2 * (a * a - c * c + 2 * (b * d) + d * d) + (2 * (a * c) + c * c - b * b - 2 * (b * d))) * (2 * (a * a - c * c + 2 * (b * d) + d * d) + (2 * (a * c) + c * c - b * b - 2 * (b * d))) + 3 * ((2 * (a * c) + c * c - b * b - 2 * (b * d)) * (2 * (a * c) + c * c - b * b - 2 * (b * d))) := by
    unfold pX pY; grind
  have t1 := sq_nn (2 * (a * a - c * c + 2 * (b * d) + d * d) + (2 * (a * c) + c * c - b * b - 2 * (b * d)))
  have t2 := sq_nn (2 * (a * c) + c * c - b * b - 2 * (b * d))
  omega
theorem pX_z {a b c d : Int} (h : pX a b c d ≤ 0) : a = 0 ∧ b = 0 ∧ c = 0 ∧ d = 0 := by
  have h1 := pX_nn a b c d
  have s1 := sq_nn a
  have s2 := sq_nn b
  have s3 := sq_nn c
  have s4 := sq_nn d
  have s5 := sq_nn (a + c)
  have s6 := sq_nn (b + d)
  exact ⟨sq_z (by omega), sq_z (by omega), sq_z (by omega), sq_z (by omega)⟩
