/-! the reference's determinants, by sets of columns -/
theorem ok_forA {S R : Type} {body : Int32 × S → Option ((Int32 × S) ⊕ R)} {P : R → Prop} {s : S} (a N : Nat) (ha : a ≤ N) (hN : N < 5000) (I : Nat → S → Prop) (h0 : I a s) (hs : ∀ k s, a ≤ k → k < N → I k s → Ok (body (cI k, s)) (fun r => Sum.elim (fun s2 => s2.1 = cI (k + 1) ∧ I (k + 1) s2.2) P r)) (he : ∀ s, I N s → Ok (body (cI N, s)) (fun r => Sum.elim (fun _ => False) P r)) : Ok (lp body 5000 (cI a, s)) P := by
  refine ok_lp (fun k q => q.1 = cI (a + k) ∧ I (a + k) q.2) (N - a) 5000 0 _ (by omega) (Nat.zero_le _) ⟨rfl, h0⟩ ?_
  rintro k ⟨c, q⟩ hk ⟨hc, hI⟩
  simp only at hc
  subst hc
  by_cases h : a + k < N
  · refine ok_mono (hs (a + k) q (by omega) h hI) (fun r hr => ?_)
    cases r with
    | inl s2 => exact ⟨by omega, hr⟩
    | inr _ => exact hr
  · have e : a + k = N := by omega
    rw [e] at hI ⊢
    refine ok_mono (he q hI) (fun r hr => ?_)
    cases r with
    | inl s2 => exact hr.elim
    | inr _ => exact hr
def bl (s : Nat) : List Nat := [4, 3, 2, 1, 0].filter (fun j => s.testBit j)
def bn (s : Nat) : Nat := (bl s).length
def rwl (fm : Nat) : Nat → List Nat
  | 0 => []
  | n + 1 => (fm + n) :: rwl fm n
def sgz (b : Bool) (a : Z4) : Z4 := if b then a else qneg a
/-- the sum over columns of a set below j, and how many there are -/
def dS (G : Nat → Nat → Z4) (r : Nat) (F : Nat → Z4) (s n : Nat) : Nat → Z4 × Nat
  | 0 => ((0, 0, 0, 0), 0)
  | j + 1 => if s.testBit j then (qadd (dS G r F s n j).1 (sgz (((dS G r F s n j).2 + n - 1) % 2 == 0) (qmul (G r j) (F (s - 2 ^ j)))), (dS G r F s n j).2 + 1) else dS G r F s n j
theorem dS_f {G : Nat → Nat → Z4} {r : Nat} {F : Nat → Z4} {s n j p : Nat} {A : Z4} (e : dS G r F s n j = (A, p)) (h : s.testBit j = false) : dS G r F s n (j + 1) = (A, p) := by rw [dS, if_neg (by rw [h]; decide), e]
theorem dS_p {G : Nat → Nat → Z4} {r : Nat} {F : Nat → Z4} {s n j p : Nat} {A B : Z4} (e : dS G r F s n j = (A, p)) (h : s.testBit j = true) (hp : ((p + n - 1) % 2 == 0) = true) (hF : F (s - 2 ^ j) = B) : dS G r F s n (j + 1) = (qadd A (qmul (G r j) B), p + 1) := by rw [dS, if_pos h, e, hF]; simp only; rw [hp]; rfl
theorem dS_n {G : Nat → Nat → Z4} {r : Nat} {F : Nat → Z4} {s n j p : Nat} {A B : Z4} (e : dS G r F s n j = (A, p)) (h : s.testBit j = true) (hp : ((p + n - 1) % 2 == 0) = false) (hF : F (s - 2 ^ j) = B) : dS G r F s n (j + 1) = (qadd A (qneg (qmul (G r j) B)), p + 1) := by rw [dS, if_pos h, e, hF]; simp only; rw [hp]; rfl
theorem dS_lit (G : Nat → Nat → Z4) (r : Nat) (L : List Nat) : ∀ s, 0 < s → s < 32 → (dS G r (fun t => zdx G L (bl t)) s (bn s) 5).1 = @dy Z4 (qR Int) (G r) (@dx Z4 (qR Int) G L) [] (bl s) := by
  intro s h0 h1
  match s, h0, h1 with
  | 1, _, _ =>
    rw [show bn 1 = 1 from rfl, show bl 1 = [0] from rfl]
    have e0 : dS G r (fun t => zdx G L (bl t)) 1 1 0 = ((0, 0, 0, 0), 0) := rfl
    have e1 := dS_p e0 (by decide) (by decide) (B := zdx G L []) rfl
    have e2 := dS_f e1 (by decide)
    have e3 := dS_f e2 (by decide)
    have e4 := dS_f e3 (by decide)
    have e5 := dS_f e4 (by decide)
    rw [e5]
    show (qadd ((0, 0, 0, 0) : Z4) (qmul (G r 0) (zdx G L []))) = (qsub (qmul (G r 0) (zdx G L [])) ((0, 0, 0, 0) : Z4))
    generalize qmul (G r 0) (zdx G L []) = x0
    apply q_ext <;> simp only [qadd, qneg, qsub] <;> grind
  | 2, _, _ =>
    rw [show bn 2 = 1 from rfl, show bl 2 = [1] from rfl]
    have e0 : dS G r (fun t => zdx G L (bl t)) 2 1 0 = ((0, 0, 0, 0), 0) := rfl
    have e1 := dS_f e0 (by decide)
    have e2 := dS_p e1 (by decide) (by decide) (B := zdx G L []) rfl
    have e3 := dS_f e2 (by decide)
    have e4 := dS_f e3 (by decide)
    have e5 := dS_f e4 (by decide)
    rw [e5]
    show (qadd ((0, 0, 0, 0) : Z4) (qmul (G r 1) (zdx G L []))) = (qsub (qmul (G r 1) (zdx G L [])) ((0, 0, 0, 0) : Z4))
    generalize qmul (G r 1) (zdx G L []) = x1
    apply q_ext <;> simp only [qadd, qneg, qsub] <;> grind
  | 3, _, _ =>
    rw [show bn 3 = 2 from rfl, show bl 3 = [1, 0] from rfl]
    have e0 : dS G r (fun t => zdx G L (bl t)) 3 2 0 = ((0, 0, 0, 0), 0) := rfl
    have e1 := dS_n e0 (by decide) (by decide) (B := zdx G L [1]) rfl
    have e2 := dS_p e1 (by decide) (by decide) (B := zdx G L [0]) rfl
    have e3 := dS_f e2 (by decide)
    have e4 := dS_f e3 (by decide)
    have e5 := dS_f e4 (by decide)
    rw [e5]
    show (qadd (qadd ((0, 0, 0, 0) : Z4) (qneg (qmul (G r 0) (zdx G L [1])))) (qmul (G r 1) (zdx G L [0]))) = (qsub (qmul (G r 1) (zdx G L [0])) (qsub (qmul (G r 0) (zdx G L [1])) ((0, 0, 0, 0) : Z4)))
    generalize qmul (G r 1) (zdx G L [0]) = x1
    generalize qmul (G r 0) (zdx G L [1]) = x0
    apply q_ext <;> simp only [qadd, qneg, qsub] <;> grind
  | 4, _, _ =>
    rw [show bn 4 = 1 from rfl, show bl 4 = [2] from rfl]
    have e0 : dS G r (fun t => zdx G L (bl t)) 4 1 0 = ((0, 0, 0, 0), 0) := rfl
    have e1 := dS_f e0 (by decide)
    have e2 := dS_f e1 (by decide)
    have e3 := dS_p e2 (by decide) (by decide) (B := zdx G L []) rfl
    have e4 := dS_f e3 (by decide)
    have e5 := dS_f e4 (by decide)
    rw [e5]
    show (qadd ((0, 0, 0, 0) : Z4) (qmul (G r 2) (zdx G L []))) = (qsub (qmul (G r 2) (zdx G L [])) ((0, 0, 0, 0) : Z4))
    generalize qmul (G r 2) (zdx G L []) = x2
    apply q_ext <;> simp only [qadd, qneg, qsub] <;> grind
  | 5, _, _ =>
    rw [show bn 5 = 2 from rfl, show bl 5 = [2, 0] from rfl]
    have e0 : dS G r (fun t => zdx G L (bl t)) 5 2 0 = ((0, 0, 0, 0), 0) := rfl
    have e1 := dS_n e0 (by decide) (by decide) (B := zdx G L [2]) rfl
    have e2 := dS_f e1 (by decide)
    have e3 := dS_p e2 (by decide) (by decide) (B := zdx G L [0]) rfl
    have e4 := dS_f e3 (by decide)
    have e5 := dS_f e4 (by decide)
    rw [e5]
    show (qadd (qadd ((0, 0, 0, 0) : Z4) (qneg (qmul (G r 0) (zdx G L [2])))) (qmul (G r 2) (zdx G L [0]))) = (qsub (qmul (G r 2) (zdx G L [0])) (qsub (qmul (G r 0) (zdx G L [2])) ((0, 0, 0, 0) : Z4)))
    generalize qmul (G r 2) (zdx G L [0]) = x2
    generalize qmul (G r 0) (zdx G L [2]) = x0
    apply q_ext <;> simp only [qadd, qneg, qsub] <;> grind
  | 6, _, _ =>
    rw [show bn 6 = 2 from rfl, show bl 6 = [2, 1] from rfl]
    have e0 : dS G r (fun t => zdx G L (bl t)) 6 2 0 = ((0, 0, 0, 0), 0) := rfl
    have e1 := dS_f e0 (by decide)
    have e2 := dS_n e1 (by decide) (by decide) (B := zdx G L [2]) rfl
    have e3 := dS_p e2 (by decide) (by decide) (B := zdx G L [1]) rfl
    have e4 := dS_f e3 (by decide)
    have e5 := dS_f e4 (by decide)
    rw [e5]
    show (qadd (qadd ((0, 0, 0, 0) : Z4) (qneg (qmul (G r 1) (zdx G L [2])))) (qmul (G r 2) (zdx G L [1]))) = (qsub (qmul (G r 2) (zdx G L [1])) (qsub (qmul (G r 1) (zdx G L [2])) ((0, 0, 0, 0) : Z4)))
    generalize qmul (G r 2) (zdx G L [1]) = x2
    generalize qmul (G r 1) (zdx G L [2]) = x1
    apply q_ext <;> simp only [qadd, qneg, qsub] <;> grind
  | 7, _, _ =>
    rw [show bn 7 = 3 from rfl, show bl 7 = [2, 1, 0] from rfl]
    have e0 : dS G r (fun t => zdx G L (bl t)) 7 3 0 = ((0, 0, 0, 0), 0) := rfl
    have e1 := dS_p e0 (by decide) (by decide) (B := zdx G L [2, 1]) rfl
    have e2 := dS_n e1 (by decide) (by decide) (B := zdx G L [2, 0]) rfl
    have e3 := dS_p e2 (by decide) (by decide) (B := zdx G L [1, 0]) rfl
    have e4 := dS_f e3 (by decide)
    have e5 := dS_f e4 (by decide)
    rw [e5]
    show (qadd (qadd (qadd ((0, 0, 0, 0) : Z4) (qmul (G r 0) (zdx G L [2, 1]))) (qneg (qmul (G r 1) (zdx G L [2, 0])))) (qmul (G r 2) (zdx G L [1, 0]))) = (qsub (qmul (G r 2) (zdx G L [1, 0])) (qsub (qmul (G r 1) (zdx G L [2, 0])) (qsub (qmul (G r 0) (zdx G L [2, 1])) ((0, 0, 0, 0) : Z4))))
    generalize qmul (G r 2) (zdx G L [1, 0]) = x2
    generalize qmul (G r 1) (zdx G L [2, 0]) = x1
    generalize qmul (G r 0) (zdx G L [2, 1]) = x0
    apply q_ext <;> simp only [qadd, qneg, qsub] <;> grind
  | 8, _, _ =>
    rw [show bn 8 = 1 from rfl, show bl 8 = [3] from rfl]
    have e0 : dS G r (fun t => zdx G L (bl t)) 8 1 0 = ((0, 0, 0, 0), 0) := rfl
    have e1 := dS_f e0 (by decide)
    have e2 := dS_f e1 (by decide)
    have e3 := dS_f e2 (by decide)
    have e4 := dS_p e3 (by decide) (by decide) (B := zdx G L []) rfl
    have e5 := dS_f e4 (by decide)
    rw [e5]
    show (qadd ((0, 0, 0, 0) : Z4) (qmul (G r 3) (zdx G L []))) = (qsub (qmul (G r 3) (zdx G L [])) ((0, 0, 0, 0) : Z4))
    generalize qmul (G r 3) (zdx G L []) = x3
    apply q_ext <;> simp only [qadd, qneg, qsub] <;> grind
  | 9, _, _ =>
    rw [show bn 9 = 2 from rfl, show bl 9 = [3, 0] from rfl]
    have e0 : dS G r (fun t => zdx G L (bl t)) 9 2 0 = ((0, 0, 0, 0), 0) := rfl
    have e1 := dS_n e0 (by decide) (by decide) (B := zdx G L [3]) rfl
    have e2 := dS_f e1 (by decide)
    have e3 := dS_f e2 (by decide)
    have e4 := dS_p e3 (by decide) (by decide) (B := zdx G L [0]) rfl
    have e5 := dS_f e4 (by decide)
    rw [e5]
    show (qadd (qadd ((0, 0, 0, 0) : Z4) (qneg (qmul (G r 0) (zdx G L [3])))) (qmul (G r 3) (zdx G L [0]))) = (qsub (qmul (G r 3) (zdx G L [0])) (qsub (qmul (G r 0) (zdx G L [3])) ((0, 0, 0, 0) : Z4)))
    generalize qmul (G r 3) (zdx G L [0]) = x3
    generalize qmul (G r 0) (zdx G L [3]) = x0
    apply q_ext <;> simp only [qadd, qneg, qsub] <;> grind
  | 10, _, _ =>
    rw [show bn 10 = 2 from rfl, show bl 10 = [3, 1] from rfl]
    have e0 : dS G r (fun t => zdx G L (bl t)) 10 2 0 = ((0, 0, 0, 0), 0) := rfl
    have e1 := dS_f e0 (by decide)
    have e2 := dS_n e1 (by decide) (by decide) (B := zdx G L [3]) rfl
    have e3 := dS_f e2 (by decide)
    have e4 := dS_p e3 (by decide) (by decide) (B := zdx G L [1]) rfl
    have e5 := dS_f e4 (by decide)
    rw [e5]
    show (qadd (qadd ((0, 0, 0, 0) : Z4) (qneg (qmul (G r 1) (zdx G L [3])))) (qmul (G r 3) (zdx G L [1]))) = (qsub (qmul (G r 3) (zdx G L [1])) (qsub (qmul (G r 1) (zdx G L [3])) ((0, 0, 0, 0) : Z4)))
    generalize qmul (G r 3) (zdx G L [1]) = x3
    generalize qmul (G r 1) (zdx G L [3]) = x1
    apply q_ext <;> simp only [qadd, qneg, qsub] <;> grind
  | 11, _, _ =>
    rw [show bn 11 = 3 from rfl, show bl 11 = [3, 1, 0] from rfl]
    have e0 : dS G r (fun t => zdx G L (bl t)) 11 3 0 = ((0, 0, 0, 0), 0) := rfl
    have e1 := dS_p e0 (by decide) (by decide) (B := zdx G L [3, 1]) rfl
    have e2 := dS_n e1 (by decide) (by decide) (B := zdx G L [3, 0]) rfl
    have e3 := dS_f e2 (by decide)
    have e4 := dS_p e3 (by decide) (by decide) (B := zdx G L [1, 0]) rfl
    have e5 := dS_f e4 (by decide)
    rw [e5]
    show (qadd (qadd (qadd ((0, 0, 0, 0) : Z4) (qmul (G r 0) (zdx G L [3, 1]))) (qneg (qmul (G r 1) (zdx G L [3, 0])))) (qmul (G r 3) (zdx G L [1, 0]))) = (qsub (qmul (G r 3) (zdx G L [1, 0])) (qsub (qmul (G r 1) (zdx G L [3, 0])) (qsub (qmul (G r 0) (zdx G L [3, 1])) ((0, 0, 0, 0) : Z4))))
    generalize qmul (G r 3) (zdx G L [1, 0]) = x3
    generalize qmul (G r 1) (zdx G L [3, 0]) = x1
    generalize qmul (G r 0) (zdx G L [3, 1]) = x0
    apply q_ext <;> simp only [qadd, qneg, qsub] <;> grind
  | 12, _, _ =>
    rw [show bn 12 = 2 from rfl, show bl 12 = [3, 2] from rfl]
    have e0 : dS G r (fun t => zdx G L (bl t)) 12 2 0 = ((0, 0, 0, 0), 0) := rfl
    have e1 := dS_f e0 (by decide)
    have e2 := dS_f e1 (by decide)
    have e3 := dS_n e2 (by decide) (by decide) (B := zdx G L [3]) rfl
    have e4 := dS_p e3 (by decide) (by decide) (B := zdx G L [2]) rfl
    have e5 := dS_f e4 (by decide)
    rw [e5]
    show (qadd (qadd ((0, 0, 0, 0) : Z4) (qneg (qmul (G r 2) (zdx G L [3])))) (qmul (G r 3) (zdx G L [2]))) = (qsub (qmul (G r 3) (zdx G L [2])) (qsub (qmul (G r 2) (zdx G L [3])) ((0, 0, 0, 0) : Z4)))
    generalize qmul (G r 3) (zdx G L [2]) = x3
    generalize qmul (G r 2) (zdx G L [3]) = x2
    apply q_ext <;> simp only [qadd, qneg, qsub] <;> grind
  | 13, _, _ =>
    rw [show bn 13 = 3 from rfl, show bl 13 = [3, 2, 0] from rfl]
    have e0 : dS G r (fun t => zdx G L (bl t)) 13 3 0 = ((0, 0, 0, 0), 0) := rfl
    have e1 := dS_p e0 (by decide) (by decide) (B := zdx G L [3, 2]) rfl
    have e2 := dS_f e1 (by decide)
    have e3 := dS_n e2 (by decide) (by decide) (B := zdx G L [3, 0]) rfl
    have e4 := dS_p e3 (by decide) (by decide) (B := zdx G L [2, 0]) rfl
    have e5 := dS_f e4 (by decide)
    rw [e5]
    show (qadd (qadd (qadd ((0, 0, 0, 0) : Z4) (qmul (G r 0) (zdx G L [3, 2]))) (qneg (qmul (G r 2) (zdx G L [3, 0])))) (qmul (G r 3) (zdx G L [2, 0]))) = (qsub (qmul (G r 3) (zdx G L [2, 0])) (qsub (qmul (G r 2) (zdx G L [3, 0])) (qsub (qmul (G r 0) (zdx G L [3, 2])) ((0, 0, 0, 0) : Z4))))
    generalize qmul (G r 3) (zdx G L [2, 0]) = x3
    generalize qmul (G r 2) (zdx G L [3, 0]) = x2
    generalize qmul (G r 0) (zdx G L [3, 2]) = x0
    apply q_ext <;> simp only [qadd, qneg, qsub] <;> grind
  | 14, _, _ =>
    rw [show bn 14 = 3 from rfl, show bl 14 = [3, 2, 1] from rfl]
    have e0 : dS G r (fun t => zdx G L (bl t)) 14 3 0 = ((0, 0, 0, 0), 0) := rfl
    have e1 := dS_f e0 (by decide)
    have e2 := dS_p e1 (by decide) (by decide) (B := zdx G L [3, 2]) rfl
    have e3 := dS_n e2 (by decide) (by decide) (B := zdx G L [3, 1]) rfl
    have e4 := dS_p e3 (by decide) (by decide) (B := zdx G L [2, 1]) rfl
    have e5 := dS_f e4 (by decide)
    rw [e5]
    show (qadd (qadd (qadd ((0, 0, 0, 0) : Z4) (qmul (G r 1) (zdx G L [3, 2]))) (qneg (qmul (G r 2) (zdx G L [3, 1])))) (qmul (G r 3) (zdx G L [2, 1]))) = (qsub (qmul (G r 3) (zdx G L [2, 1])) (qsub (qmul (G r 2) (zdx G L [3, 1])) (qsub (qmul (G r 1) (zdx G L [3, 2])) ((0, 0, 0, 0) : Z4))))
    generalize qmul (G r 3) (zdx G L [2, 1]) = x3
    generalize qmul (G r 2) (zdx G L [3, 1]) = x2
    generalize qmul (G r 1) (zdx G L [3, 2]) = x1
    apply q_ext <;> simp only [qadd, qneg, qsub] <;> grind
  | 15, _, _ =>
    rw [show bn 15 = 4 from rfl, show bl 15 = [3, 2, 1, 0] from rfl]
    have e0 : dS G r (fun t => zdx G L (bl t)) 15 4 0 = ((0, 0, 0, 0), 0) := rfl
    have e1 := dS_n e0 (by decide) (by decide) (B := zdx G L [3, 2, 1]) rfl
    have e2 := dS_p e1 (by decide) (by decide) (B := zdx G L [3, 2, 0]) rfl
    have e3 := dS_n e2 (by decide) (by decide) (B := zdx G L [3, 1, 0]) rfl
    have e4 := dS_p e3 (by decide) (by decide) (B := zdx G L [2, 1, 0]) rfl
    have e5 := dS_f e4 (by decide)
    rw [e5]
    show (qadd (qadd (qadd (qadd ((0, 0, 0, 0) : Z4) (qneg (qmul (G r 0) (zdx G L [3, 2, 1])))) (qmul (G r 1) (zdx G L [3, 2, 0]))) (qneg (qmul (G r 2) (zdx G L [3, 1, 0])))) (qmul (G r 3) (zdx G L [2, 1, 0]))) = (qsub (qmul (G r 3) (zdx G L [2, 1, 0])) (qsub (qmul (G r 2) (zdx G L [3, 1, 0])) (qsub (qmul (G r 1) (zdx G L [3, 2, 0])) (qsub (qmul (G r 0) (zdx G L [3, 2, 1])) ((0, 0, 0, 0) : Z4)))))
    generalize qmul (G r 3) (zdx G L [2, 1, 0]) = x3
    generalize qmul (G r 2) (zdx G L [3, 1, 0]) = x2
    generalize qmul (G r 1) (zdx G L [3, 2, 0]) = x1
    generalize qmul (G r 0) (zdx G L [3, 2, 1]) = x0
    apply q_ext <;> simp only [qadd, qneg, qsub] <;> grind
  | 16, _, _ =>
    rw [show bn 16 = 1 from rfl, show bl 16 = [4] from rfl]
    have e0 : dS G r (fun t => zdx G L (bl t)) 16 1 0 = ((0, 0, 0, 0), 0) := rfl
    have e1 := dS_f e0 (by decide)
    have e2 := dS_f e1 (by decide)
    have e3 := dS_f e2 (by decide)
    have e4 := dS_f e3 (by decide)
    have e5 := dS_p e4 (by decide) (by decide) (B := zdx G L []) rfl
    rw [e5]
    show (qadd ((0, 0, 0, 0) : Z4) (qmul (G r 4) (zdx G L []))) = (qsub (qmul (G r 4) (zdx G L [])) ((0, 0, 0, 0) : Z4))
    generalize qmul (G r 4) (zdx G L []) = x4
    apply q_ext <;> simp only [qadd, qneg, qsub] <;> grind
  | 17, _, _ =>
    rw [show bn 17 = 2 from rfl, show bl 17 = [4, 0] from rfl]
    have e0 : dS G r (fun t => zdx G L (bl t)) 17 2 0 = ((0, 0, 0, 0), 0) := rfl
    have e1 := dS_n e0 (by decide) (by decide) (B := zdx G L [4]) rfl
    have e2 := dS_f e1 (by decide)
    have e3 := dS_f e2 (by decide)
    have e4 := dS_f e3 (by decide)
    have e5 := dS_p e4 (by decide) (by decide) (B := zdx G L [0]) rfl
    rw [e5]
    show (qadd (qadd ((0, 0, 0, 0) : Z4) (qneg (qmul (G r 0) (zdx G L [4])))) (qmul (G r 4) (zdx G L [0]))) = (qsub (qmul (G r 4) (zdx G L [0])) (qsub (qmul (G r 0) (zdx G L [4])) ((0, 0, 0, 0) : Z4)))
    generalize qmul (G r 4) (zdx G L [0]) = x4
    generalize qmul (G r 0) (zdx G L [4]) = x0
    apply q_ext <;> simp only [qadd, qneg, qsub] <;> grind
  | 18, _, _ =>
    rw [show bn 18 = 2 from rfl, show bl 18 = [4, 1] from rfl]
    have e0 : dS G r (fun t => zdx G L (bl t)) 18 2 0 = ((0, 0, 0, 0), 0) := rfl
    have e1 := dS_f e0 (by decide)
    have e2 := dS_n e1 (by decide) (by decide) (B := zdx G L [4]) rfl
    have e3 := dS_f e2 (by decide)
    have e4 := dS_f e3 (by decide)
    have e5 := dS_p e4 (by decide) (by decide) (B := zdx G L [1]) rfl
    rw [e5]
    show (qadd (qadd ((0, 0, 0, 0) : Z4) (qneg (qmul (G r 1) (zdx G L [4])))) (qmul (G r 4) (zdx G L [1]))) = (qsub (qmul (G r 4) (zdx G L [1])) (qsub (qmul (G r 1) (zdx G L [4])) ((0, 0, 0, 0) : Z4)))
    generalize qmul (G r 4) (zdx G L [1]) = x4
    generalize qmul (G r 1) (zdx G L [4]) = x1
    apply q_ext <;> simp only [qadd, qneg, qsub] <;> grind
  | 19, _, _ =>
    rw [show bn 19 = 3 from rfl, show bl 19 = [4, 1, 0] from rfl]
    have e0 : dS G r (fun t => zdx G L (bl t)) 19 3 0 = ((0, 0, 0, 0), 0) := rfl
    have e1 := dS_p e0 (by decide) (by decide) (B := zdx G L [4, 1]) rfl
    have e2 := dS_n e1 (by decide) (by decide) (B := zdx G L [4, 0]) rfl
    have e3 := dS_f e2 (by decide)
    have e4 := dS_f e3 (by decide)
    have e5 := dS_p e4 (by decide) (by decide) (B := zdx G L [1, 0]) rfl
    rw [e5]
    show (qadd (qadd (qadd ((0, 0, 0, 0) : Z4) (qmul (G r 0) (zdx G L [4, 1]))) (qneg (qmul (G r 1) (zdx G L [4, 0])))) (qmul (G r 4) (zdx G L [1, 0]))) = (qsub (qmul (G r 4) (zdx G L [1, 0])) (qsub (qmul (G r 1) (zdx G L [4, 0])) (qsub (qmul (G r 0) (zdx G L [4, 1])) ((0, 0, 0, 0) : Z4))))
    generalize qmul (G r 4) (zdx G L [1, 0]) = x4
    generalize qmul (G r 1) (zdx G L [4, 0]) = x1
    generalize qmul (G r 0) (zdx G L [4, 1]) = x0
    apply q_ext <;> simp only [qadd, qneg, qsub] <;> grind
  | 20, _, _ =>
    rw [show bn 20 = 2 from rfl, show bl 20 = [4, 2] from rfl]
    have e0 : dS G r (fun t => zdx G L (bl t)) 20 2 0 = ((0, 0, 0, 0), 0) := rfl
    have e1 := dS_f e0 (by decide)
    have e2 := dS_f e1 (by decide)
    have e3 := dS_n e2 (by decide) (by decide) (B := zdx G L [4]) rfl
    have e4 := dS_f e3 (by decide)
    have e5 := dS_p e4 (by decide) (by decide) (B := zdx G L [2]) rfl
    rw [e5]
    show (qadd (qadd ((0, 0, 0, 0) : Z4) (qneg (qmul (G r 2) (zdx G L [4])))) (qmul (G r 4) (zdx G L [2]))) = (qsub (qmul (G r 4) (zdx G L [2])) (qsub (qmul (G r 2) (zdx G L [4])) ((0, 0, 0, 0) : Z4)))
    generalize qmul (G r 4) (zdx G L [2]) = x4
    generalize qmul (G r 2) (zdx G L [4]) = x2
    apply q_ext <;> simp only [qadd, qneg, qsub] <;> grind
  | 21, _, _ =>
    rw [show bn 21 = 3 from rfl, show bl 21 = [4, 2, 0] from rfl]
    have e0 : dS G r (fun t => zdx G L (bl t)) 21 3 0 = ((0, 0, 0, 0), 0) := rfl
    have e1 := dS_p e0 (by decide) (by decide) (B := zdx G L [4, 2]) rfl
    have e2 := dS_f e1 (by decide)
    have e3 := dS_n e2 (by decide) (by decide) (B := zdx G L [4, 0]) rfl
    have e4 := dS_f e3 (by decide)
    have e5 := dS_p e4 (by decide) (by decide) (B := zdx G L [2, 0]) rfl
    rw [e5]
    show (qadd (qadd (qadd ((0, 0, 0, 0) : Z4) (qmul (G r 0) (zdx G L [4, 2]))) (qneg (qmul (G r 2) (zdx G L [4, 0])))) (qmul (G r 4) (zdx G L [2, 0]))) = (qsub (qmul (G r 4) (zdx G L [2, 0])) (qsub (qmul (G r 2) (zdx G L [4, 0])) (qsub (qmul (G r 0) (zdx G L [4, 2])) ((0, 0, 0, 0) : Z4))))
    generalize qmul (G r 4) (zdx G L [2, 0]) = x4
    generalize qmul (G r 2) (zdx G L [4, 0]) = x2
    generalize qmul (G r 0) (zdx G L [4, 2]) = x0
    apply q_ext <;> simp only [qadd, qneg, qsub] <;> grind
  | 22, _, _ =>
    rw [show bn 22 = 3 from rfl, show bl 22 = [4, 2, 1] from rfl]
    have e0 : dS G r (fun t => zdx G L (bl t)) 22 3 0 = ((0, 0, 0, 0), 0) := rfl
    have e1 := dS_f e0 (by decide)
    have e2 := dS_p e1 (by decide) (by decide) (B := zdx G L [4, 2]) rfl
    have e3 := dS_n e2 (by decide) (by decide) (B := zdx G L [4, 1]) rfl
    have e4 := dS_f e3 (by decide)
    have e5 := dS_p e4 (by decide) (by decide) (B := zdx G L [2, 1]) rfl
    rw [e5]
    show (qadd (qadd (qadd ((0, 0, 0, 0) : Z4) (qmul (G r 1) (zdx G L [4, 2]))) (qneg (qmul (G r 2) (zdx G L [4, 1])))) (qmul (G r 4) (zdx G L [2, 1]))) = (qsub (qmul (G r 4) (zdx G L [2, 1])) (qsub (qmul (G r 2) (zdx G L [4, 1])) (qsub (qmul (G r 1) (zdx G L [4, 2])) ((0, 0, 0, 0) : Z4))))
    generalize qmul (G r 4) (zdx G L [2, 1]) = x4
    generalize qmul (G r 2) (zdx G L [4, 1]) = x2
    generalize qmul (G r 1) (zdx G L [4, 2]) = x1
    apply q_ext <;> simp only [qadd, qneg, qsub] <;> grind
  | 23, _, _ =>
    rw [show bn 23 = 4 from rfl, show bl 23 = [4, 2, 1, 0] from rfl]
    have e0 : dS G r (fun t => zdx G L (bl t)) 23 4 0 = ((0, 0, 0, 0), 0) := rfl
    have e1 := dS_n e0 (by decide) (by decide) (B := zdx G L [4, 2, 1]) rfl
    have e2 := dS_p e1 (by decide) (by decide) (B := zdx G L [4, 2, 0]) rfl
    have e3 := dS_n e2 (by decide) (by decide) (B := zdx G L [4, 1, 0]) rfl
    have e4 := dS_f e3 (by decide)
    have e5 := dS_p e4 (by decide) (by decide) (B := zdx G L [2, 1, 0]) rfl
    rw [e5]
    show (qadd (qadd (qadd (qadd ((0, 0, 0, 0) : Z4) (qneg (qmul (G r 0) (zdx G L [4, 2, 1])))) (qmul (G r 1) (zdx G L [4, 2, 0]))) (qneg (qmul (G r 2) (zdx G L [4, 1, 0])))) (qmul (G r 4) (zdx G L [2, 1, 0]))) = (qsub (qmul (G r 4) (zdx G L [2, 1, 0])) (qsub (qmul (G r 2) (zdx G L [4, 1, 0])) (qsub (qmul (G r 1) (zdx G L [4, 2, 0])) (qsub (qmul (G r 0) (zdx G L [4, 2, 1])) ((0, 0, 0, 0) : Z4)))))
    generalize qmul (G r 4) (zdx G L [2, 1, 0]) = x4
    generalize qmul (G r 2) (zdx G L [4, 1, 0]) = x2
    generalize qmul (G r 1) (zdx G L [4, 2, 0]) = x1
    generalize qmul (G r 0) (zdx G L [4, 2, 1]) = x0
    apply q_ext <;> simp only [qadd, qneg, qsub] <;> grind
  | 24, _, _ =>
    rw [show bn 24 = 2 from rfl, show bl 24 = [4, 3] from rfl]
    have e0 : dS G r (fun t => zdx G L (bl t)) 24 2 0 = ((0, 0, 0, 0), 0) := rfl
    have e1 := dS_f e0 (by decide)
    have e2 := dS_f e1 (by decide)
    have e3 := dS_f e2 (by decide)
    have e4 := dS_n e3 (by decide) (by decide) (B := zdx G L [4]) rfl
    have e5 := dS_p e4 (by decide) (by decide) (B := zdx G L [3]) rfl
    rw [e5]
    show (qadd (qadd ((0, 0, 0, 0) : Z4) (qneg (qmul (G r 3) (zdx G L [4])))) (qmul (G r 4) (zdx G L [3]))) = (qsub (qmul (G r 4) (zdx G L [3])) (qsub (qmul (G r 3) (zdx G L [4])) ((0, 0, 0, 0) : Z4)))
    generalize qmul (G r 4) (zdx G L [3]) = x4
    generalize qmul (G r 3) (zdx G L [4]) = x3
    apply q_ext <;> simp only [qadd, qneg, qsub] <;> grind
  | 25, _, _ =>
    rw [show bn 25 = 3 from rfl, show bl 25 = [4, 3, 0] from rfl]
    have e0 : dS G r (fun t => zdx G L (bl t)) 25 3 0 = ((0, 0, 0, 0), 0) := rfl
    have e1 := dS_p e0 (by decide) (by decide) (B := zdx G L [4, 3]) rfl
    have e2 := dS_f e1 (by decide)
    have e3 := dS_f e2 (by decide)
    have e4 := dS_n e3 (by decide) (by decide) (B := zdx G L [4, 0]) rfl
    have e5 := dS_p e4 (by decide) (by decide) (B := zdx G L [3, 0]) rfl
    rw [e5]
    show (qadd (qadd (qadd ((0, 0, 0, 0) : Z4) (qmul (G r 0) (zdx G L [4, 3]))) (qneg (qmul (G r 3) (zdx G L [4, 0])))) (qmul (G r 4) (zdx G L [3, 0]))) = (qsub (qmul (G r 4) (zdx G L [3, 0])) (qsub (qmul (G r 3) (zdx G L [4, 0])) (qsub (qmul (G r 0) (zdx G L [4, 3])) ((0, 0, 0, 0) : Z4))))
    generalize qmul (G r 4) (zdx G L [3, 0]) = x4
    generalize qmul (G r 3) (zdx G L [4, 0]) = x3
    generalize qmul (G r 0) (zdx G L [4, 3]) = x0
    apply q_ext <;> simp only [qadd, qneg, qsub] <;> grind
  | 26, _, _ =>
    rw [show bn 26 = 3 from rfl, show bl 26 = [4, 3, 1] from rfl]
    have e0 : dS G r (fun t => zdx G L (bl t)) 26 3 0 = ((0, 0, 0, 0), 0) := rfl
    have e1 := dS_f e0 (by decide)
    have e2 := dS_p e1 (by decide) (by decide) (B := zdx G L [4, 3]) rfl
    have e3 := dS_f e2 (by decide)
    have e4 := dS_n e3 (by decide) (by decide) (B := zdx G L [4, 1]) rfl
    have e5 := dS_p e4 (by decide) (by decide) (B := zdx G L [3, 1]) rfl
    rw [e5]
    show (qadd (qadd (qadd ((0, 0, 0, 0) : Z4) (qmul (G r 1) (zdx G L [4, 3]))) (qneg (qmul (G r 3) (zdx G L [4, 1])))) (qmul (G r 4) (zdx G L [3, 1]))) = (qsub (qmul (G r 4) (zdx G L [3, 1])) (qsub (qmul (G r 3) (zdx G L [4, 1])) (qsub (qmul (G r 1) (zdx G L [4, 3])) ((0, 0, 0, 0) : Z4))))
    generalize qmul (G r 4) (zdx G L [3, 1]) = x4
    generalize qmul (G r 3) (zdx G L [4, 1]) = x3
    generalize qmul (G r 1) (zdx G L [4, 3]) = x1
    apply q_ext <;> simp only [qadd, qneg, qsub] <;> grind
  | 27, _, _ =>
    rw [show bn 27 = 4 from rfl, show bl 27 = [4, 3, 1, 0] from rfl]
    have e0 : dS G r (fun t => zdx G L (bl t)) 27 4 0 = ((0, 0, 0, 0), 0) := rfl
    have e1 := dS_n e0 (by decide) (by decide) (B := zdx G L [4, 3, 1]) rfl
    have e2 := dS_p e1 (by decide) (by decide) (B := zdx G L [4, 3, 0]) rfl
    have e3 := dS_f e2 (by decide)
    have e4 := dS_n e3 (by decide) (by decide) (B := zdx G L [4, 1, 0]) rfl
    have e5 := dS_p e4 (by decide) (by decide) (B := zdx G L [3, 1, 0]) rfl
    rw [e5]
    show (qadd (qadd (qadd (qadd ((0, 0, 0, 0) : Z4) (qneg (qmul (G r 0) (zdx G L [4, 3, 1])))) (qmul (G r 1) (zdx G L [4, 3, 0]))) (qneg (qmul (G r 3) (zdx G L [4, 1, 0])))) (qmul (G r 4) (zdx G L [3, 1, 0]))) = (qsub (qmul (G r 4) (zdx G L [3, 1, 0])) (qsub (qmul (G r 3) (zdx G L [4, 1, 0])) (qsub (qmul (G r 1) (zdx G L [4, 3, 0])) (qsub (qmul (G r 0) (zdx G L [4, 3, 1])) ((0, 0, 0, 0) : Z4)))))
    generalize qmul (G r 4) (zdx G L [3, 1, 0]) = x4
    generalize qmul (G r 3) (zdx G L [4, 1, 0]) = x3
    generalize qmul (G r 1) (zdx G L [4, 3, 0]) = x1
    generalize qmul (G r 0) (zdx G L [4, 3, 1]) = x0
    apply q_ext <;> simp only [qadd, qneg, qsub] <;> grind
  | 28, _, _ =>
    rw [show bn 28 = 3 from rfl, show bl 28 = [4, 3, 2] from rfl]
    have e0 : dS G r (fun t => zdx G L (bl t)) 28 3 0 = ((0, 0, 0, 0), 0) := rfl
    have e1 := dS_f e0 (by decide)
    have e2 := dS_f e1 (by decide)
    have e3 := dS_p e2 (by decide) (by decide) (B := zdx G L [4, 3]) rfl
    have e4 := dS_n e3 (by decide) (by decide) (B := zdx G L [4, 2]) rfl
    have e5 := dS_p e4 (by decide) (by decide) (B := zdx G L [3, 2]) rfl
    rw [e5]
    show (qadd (qadd (qadd ((0, 0, 0, 0) : Z4) (qmul (G r 2) (zdx G L [4, 3]))) (qneg (qmul (G r 3) (zdx G L [4, 2])))) (qmul (G r 4) (zdx G L [3, 2]))) = (qsub (qmul (G r 4) (zdx G L [3, 2])) (qsub (qmul (G r 3) (zdx G L [4, 2])) (qsub (qmul (G r 2) (zdx G L [4, 3])) ((0, 0, 0, 0) : Z4))))
    generalize qmul (G r 4) (zdx G L [3, 2]) = x4
    generalize qmul (G r 3) (zdx G L [4, 2]) = x3
    generalize qmul (G r 2) (zdx G L [4, 3]) = x2
    apply q_ext <;> simp only [qadd, qneg, qsub] <;> grind
  | 29, _, _ =>
    rw [show bn 29 = 4 from rfl, show bl 29 = [4, 3, 2, 0] from rfl]
    have e0 : dS G r (fun t => zdx G L (bl t)) 29 4 0 = ((0, 0, 0, 0), 0) := rfl
    have e1 := dS_n e0 (by decide) (by decide) (B := zdx G L [4, 3, 2]) rfl
    have e2 := dS_f e1 (by decide)
    have e3 := dS_p e2 (by decide) (by decide) (B := zdx G L [4, 3, 0]) rfl
    have e4 := dS_n e3 (by decide) (by decide) (B := zdx G L [4, 2, 0]) rfl
    have e5 := dS_p e4 (by decide) (by decide) (B := zdx G L [3, 2, 0]) rfl
    rw [e5]
    show (qadd (qadd (qadd (qadd ((0, 0, 0, 0) : Z4) (qneg (qmul (G r 0) (zdx G L [4, 3, 2])))) (qmul (G r 2) (zdx G L [4, 3, 0]))) (qneg (qmul (G r 3) (zdx G L [4, 2, 0])))) (qmul (G r 4) (zdx G L [3, 2, 0]))) = (qsub (qmul (G r 4) (zdx G L [3, 2, 0])) (qsub (qmul (G r 3) (zdx G L [4, 2, 0])) (qsub (qmul (G r 2) (zdx G L [4, 3, 0])) (qsub (qmul (G r 0) (zdx G L [4, 3, 2])) ((0, 0, 0, 0) : Z4)))))
    generalize qmul (G r 4) (zdx G L [3, 2, 0]) = x4
    generalize qmul (G r 3) (zdx G L [4, 2, 0]) = x3
    generalize qmul (G r 2) (zdx G L [4, 3, 0]) = x2
    generalize qmul (G r 0) (zdx G L [4, 3, 2]) = x0
    apply q_ext <;> simp only [qadd, qneg, qsub] <;> grind
  | 30, _, _ =>
    rw [show bn 30 = 4 from rfl, show bl 30 = [4, 3, 2, 1] from rfl]
    have e0 : dS G r (fun t => zdx G L (bl t)) 30 4 0 = ((0, 0, 0, 0), 0) := rfl
    have e1 := dS_f e0 (by decide)
    have e2 := dS_n e1 (by decide) (by decide) (B := zdx G L [4, 3, 2]) rfl
    have e3 := dS_p e2 (by decide) (by decide) (B := zdx G L [4, 3, 1]) rfl
    have e4 := dS_n e3 (by decide) (by decide) (B := zdx G L [4, 2, 1]) rfl
    have e5 := dS_p e4 (by decide) (by decide) (B := zdx G L [3, 2, 1]) rfl
    rw [e5]
    show (qadd (qadd (qadd (qadd ((0, 0, 0, 0) : Z4) (qneg (qmul (G r 1) (zdx G L [4, 3, 2])))) (qmul (G r 2) (zdx G L [4, 3, 1]))) (qneg (qmul (G r 3) (zdx G L [4, 2, 1])))) (qmul (G r 4) (zdx G L [3, 2, 1]))) = (qsub (qmul (G r 4) (zdx G L [3, 2, 1])) (qsub (qmul (G r 3) (zdx G L [4, 2, 1])) (qsub (qmul (G r 2) (zdx G L [4, 3, 1])) (qsub (qmul (G r 1) (zdx G L [4, 3, 2])) ((0, 0, 0, 0) : Z4)))))
    generalize qmul (G r 4) (zdx G L [3, 2, 1]) = x4
    generalize qmul (G r 3) (zdx G L [4, 2, 1]) = x3
    generalize qmul (G r 2) (zdx G L [4, 3, 1]) = x2
    generalize qmul (G r 1) (zdx G L [4, 3, 2]) = x1
    apply q_ext <;> simp only [qadd, qneg, qsub] <;> grind
  | 31, _, _ =>
    rw [show bn 31 = 5 from rfl, show bl 31 = [4, 3, 2, 1, 0] from rfl]
    have e0 : dS G r (fun t => zdx G L (bl t)) 31 5 0 = ((0, 0, 0, 0), 0) := rfl
    have e1 := dS_p e0 (by decide) (by decide) (B := zdx G L [4, 3, 2, 1]) rfl
    have e2 := dS_n e1 (by decide) (by decide) (B := zdx G L [4, 3, 2, 0]) rfl
    have e3 := dS_p e2 (by decide) (by decide) (B := zdx G L [4, 3, 1, 0]) rfl
    have e4 := dS_n e3 (by decide) (by decide) (B := zdx G L [4, 2, 1, 0]) rfl
    have e5 := dS_p e4 (by decide) (by decide) (B := zdx G L [3, 2, 1, 0]) rfl
    rw [e5]
    show (qadd (qadd (qadd (qadd (qadd ((0, 0, 0, 0) : Z4) (qmul (G r 0) (zdx G L [4, 3, 2, 1]))) (qneg (qmul (G r 1) (zdx G L [4, 3, 2, 0])))) (qmul (G r 2) (zdx G L [4, 3, 1, 0]))) (qneg (qmul (G r 3) (zdx G L [4, 2, 1, 0])))) (qmul (G r 4) (zdx G L [3, 2, 1, 0]))) = (qsub (qmul (G r 4) (zdx G L [3, 2, 1, 0])) (qsub (qmul (G r 3) (zdx G L [4, 2, 1, 0])) (qsub (qmul (G r 2) (zdx G L [4, 3, 1, 0])) (qsub (qmul (G r 1) (zdx G L [4, 3, 2, 0])) (qsub (qmul (G r 0) (zdx G L [4, 3, 2, 1])) ((0, 0, 0, 0) : Z4))))))
    generalize qmul (G r 4) (zdx G L [3, 2, 1, 0]) = x4
    generalize qmul (G r 3) (zdx G L [4, 2, 1, 0]) = x3
    generalize qmul (G r 2) (zdx G L [4, 3, 1, 0]) = x2
    generalize qmul (G r 1) (zdx G L [4, 3, 2, 0]) = x1
    generalize qmul (G r 0) (zdx G L [4, 3, 2, 1]) = x0
    apply q_ext <;> simp only [qadd, qneg, qsub] <;> grind
  | s + 32, _, h => exact absurd h (by omega)
theorem dS_ok (G : Nat → Nat → Z4) (fm s : Nat) (h0 : 0 < s) (h1 : s < 32) (hb : 0 < bn s) : (dS G (fm + bn s - 1) (fun t => zdx G (rwl fm (bn s - 1)) (bl t)) s (bn s) 5).1 = zdx G (rwl fm (bn s)) (bl s) := by
  rw [dS_lit G (fm + bn s - 1) (rwl fm (bn s - 1)) s h0 h1]
  obtain ⟨k, hk⟩ : ∃ k, bn s = k + 1 := ⟨bn s - 1, by omega⟩
  rw [hk, show fm + (k + 1) - 1 = fm + k by omega, show k + 1 - 1 = k by omega]
  rfl
theorem dS_le (G : Nat → Nat → Z4) (r : Nat) (F : Nat → Z4) (s n : Nat) : ∀ j, (dS G r F s n j).2 ≤ j := by
  intro j
  induction j with
  | zero => exact Nat.le_refl _
  | succ j ih =>
    simp only [dS]
    split
    · simp only; omega
    · omega
theorem dS_top (G : Nat → Nat → Z4) (r : Nat) (F : Nat → Z4) {s n many : Nat} (hs : s < 2 ^ many) : ∀ k, dS G r F s n (many + k) = dS G r F s n many := by
  intro k
  induction k with
  | zero => rfl
  | succ k ih =>
    rw [show many + (k + 1) = (many + k) + 1 by omega, dS, if_neg, ih]
    rw [Nat.testBit_lt_two_pow (Nat.lt_of_lt_of_le hs (Nat.pow_le_pow_right (by decide) (by omega)))]
    decide
theorem tb5 : ∀ s : Nat, s < 32 → ∀ j : Nat, j < 5 → ((cI s >>> (cI j &&& 31)) &&& (1 : Int32)) = if s.testBit j then 1 else 0 := by decide +kernel
theorem clr5 : ∀ s : Nat, s < 32 → ∀ j : Nat, j < 5 → s.testBit j = true → cI s &&& (((1 : Int32) <<< (cI j &&& 31)) ^^^ (-1 : Int32)) = cI (s - 2 ^ j) := by decide +kernel
theorem pow5 : ∀ m : Nat, m < 6 → ((1 : Int32) <<< (cI m &&& 31)) = cI (2 ^ m) := by decide +kernel
theorem bc32 (g : M2) : ∀ s : Nat, s < 32 → f_In_bitCount (cI s) g = cI (bn s) := by
  simp only [f_In_bitCount]
  decide +kernel
theorem par2 : ∀ x : Nat, x < 20 → cI x - cI x / (2 : Int32) * (2 : Int32) = cI (x % 2) := by decide +kernel
theorem bn_sub : ∀ s : Nat, s < 32 → ∀ j : Nat, j < 5 → s.testBit j = true → bn (s - 2 ^ j) + 1 = bn s ∧ s - 2 ^ j < s := by decide +kernel
theorem bn_pos : ∀ s : Nat, s < 32 → 0 < s → 0 < bn s ∧ bn s ≤ 5 := by decide +kernel
theorem ix25 (s : Nat) : (25 : Int32) + cI s = cI (25 + s) := by rw [show (25 : Int32) = cI 25 from rfl, cI_add]
/-- one set -/
theorem det_set {g g2 : M2} {E : Nat → Q6} (h : MN g g2 E) (hp : PW g) {G : Nat → Nat → Z4} {fm many s : Nat} (hm5 : many ≤ 5) (h0 : 0 < s) (hs : s < 2 ^ many) (hfm : fm + bn s ≤ many) (hG : ∀ j, j < many → E (5 * (fm + bn s - 1) + j) = q64 (G (fm + bn s - 1) j)) (hF : ∀ t, t < s → bn t + 1 = bn s → E (25 + t) = q64 (zdx G (rwl fm (bn s - 1)) (bl t))) (hz : E (25 + s) = (0, 0, 0, 0)) : Ok (lp (fun q => b_Mo_laysDeterminants_33 (cI fm) (cI many) (cI s) (cI (bn s)) q.1 q.2.1 q.2.2) 5000 ((0 : Int32), (0 : Int32), g2)) (fun r => MN g r (up E (25 + s) (q64 (zdx G (rwl fm (bn s)) (bl s))))) := by
  have h32 : s < 32 := Nat.lt_of_lt_of_le hs (show 2 ^ many ≤ 2 ^ 5 from Nat.pow_le_pow_right (by decide) hm5)
  have hb := bn_pos s h32 h0
  generalize hdS : dS G (fm + bn s - 1) (fun t => zdx G (rwl fm (bn s - 1)) (bl t)) s (bn s) = S
  have hS5 : (S 5).1 = zdx G (rwl fm (bn s)) (bl s) := by rw [← hdS]; exact dS_ok G fm s h0 h32 hb.1
  have hSm : (S many).1 = (S 5).1 := by
    rw [← hdS]
    have := dS_top G (fm + bn s - 1) (fun t => zdx G (rwl fm (bn s - 1)) (bl t)) (n := bn s) hs (5 - many)
    rw [show many + (5 - many) = 5 by omega] at this
    rw [this]
  have hle : ∀ j, (S j).2 ≤ j := by rw [← hdS]; exact dS_le _ _ _ _ _
  refine ok_lp (fun k q => q.1 = cI (S k).2 ∧ q.2.1 = cI k ∧ MN g q.2.2 (up E (25 + s) (q64 (S k).1))) many 5000 0 _ (by omega) (Nat.zero_le _) ⟨by rw [← hdS]; rfl, rfl, ?_⟩ ?_
  · have e0 : q64 (S 0).1 = E (25 + s) := by rw [hz, ← hdS]; rfl
    rw [e0, up_id]; exact h
  · rintro k ⟨pl, c, q⟩ hk ⟨e1, e2, hq⟩
    simp only at e1 e2 hq
    subst e1; subst e2
    show Ok (b_Mo_laysDeterminants_33 (cI fm) (cI many) (cI s) (cI (bn s)) (cI (S k).2) (cI k) q) _
    unfold b_Mo_laysDeterminants_33
    by_cases hkm : many ≤ k
    · have e : k = many := by omega
      subst e
      refine ok_pos (le_yes (Nat.le_refl _) (by omega)) (ok_some ?_)
      rw [hSm, hS5] at hq
      exact hq
    · have hk5 : k < 5 := by omega
      have hl := hle k
      refine ok_neg (le_no (by omega) (by omega)) ?_
      rw [tb5 s h32 k hk5]
      by_cases hbit : s.testBit k = true
      · rw [if_pos hbit]
        refine ok_neg (by decide) ?_
        have hsk : S (k + 1) = (qadd (S k).1 (sgz (((S k).2 + bn s - 1) % 2 == 0) (qmul (G (fm + bn s - 1) k) (zdx G (rwl fm (bn s - 1)) (bl (s - 2 ^ k))))), (S k).2 + 1) := by
          rw [← hdS]
          simp only [dS]
          rw [if_pos hbit]
        obtain ⟨hb1, hb2⟩ := bn_sub s h32 k hk5 hbit
        rw [clr5 s h32 k hk5 hbit, ix25, ix25]
        have e3 : (cI (S k).2 + cI (bn s)) - (1 : Int32) = cI ((S k).2 + bn s - 1) := by
          rw [cI_add, show (1 : Int32) = cI 1 from rfl, cI_sub (by omega)]
        have e4 : (cI fm + cI (bn s)) - (1 : Int32) = cI (fm + bn s - 1) := by
          rw [cI_add, show (1 : Int32) = cI 1 from rfl, cI_sub (by omega)]
        rw [e3, e4, ix5, par2 _ (by omega)]
        have hD1 : up E (25 + s) (q64 (S k).1) (5 * (fm + bn s - 1) + k) = q64 (G (fm + bn s - 1) k) := by
          rw [up_o _ _ (by omega)]; exact hG k (by omega)
        have hD2 : up E (25 + s) (q64 (S k).1) (25 + (s - 2 ^ k)) = q64 (zdx G (rwl fm (bn s - 1)) (bl (s - 2 ^ k))) := by
          rw [up_o _ _ (by omega)]; exact hF _ hb2 hb1
        by_cases hpar : ((S k).2 + bn s - 1) % 2 = 0
        · refine ok_pos (by rw [hpar]; rfl) ?_
          refine ok_bindm (mn_addsProduct hq hp (t := 25 + s) (a := 5 * (fm + bn s - 1) + k) (b := 25 + (s - 2 ^ k)) (by omega) (by omega) (by omega) 1) (fun r hr => ok_some ⟨by omega, ?_, c_succ k, ?_⟩)
          · show cI (S k).2 + 1 = _
            rw [hsk]; exact c_succ _
          · rw [up_up, up_s, hD1, hD2] at hr
            rw [hsk]
            simp only [sgz, hpar, beq_self_eq_true, if_true]
            rw [q64_add, q64_mul]
            have e5 : ∀ a b : Q6, qadd a (qsc 1 b) = qadd a b := fun a b => by apply q_ext <;> simp only [qadd, qsc] <;> grind
            rw [e5] at hr
            exact hr
        · have hpar1 : ((S k).2 + bn s - 1) % 2 = 1 := by omega
          refine ok_neg (by rw [hpar1]; decide) ?_
          refine ok_bindm (mn_addsProduct hq hp (t := 25 + s) (a := 5 * (fm + bn s - 1) + k) (b := 25 + (s - 2 ^ k)) (by omega) (by omega) (by omega) (-1)) (fun r hr => ok_some ⟨by omega, ?_, c_succ k, ?_⟩)
          · show cI (S k).2 + 1 = _
            rw [hsk]; exact c_succ _
          · rw [up_up, up_s, hD1, hD2] at hr
            rw [hsk]
            simp only [sgz, hpar1]
            rw [if_neg (by decide), q64_add, q64_neg, q64_mul]
            have e5 : ∀ a b : Q6, qadd a (qsc (-1) b) = qadd a (qneg b) := fun a b => by apply q_ext <;> simp only [qadd, qsc, qneg] <;> grind
            rw [e5] at hr
            exact hr
      · rw [if_neg hbit]
        refine ok_pos rfl (ok_some ?_)
        have hsk : S (k + 1) = S k := by
          rw [← hdS]
          simp only [dS]
          rw [if_neg hbit]
        exact ⟨by omega, by rw [hsk], c_succ k, by rw [hsk]; exact hq⟩
/-- all sets -/
theorem mo_laysDet {g g2 : M2} {D : Nat → Q6} (h : MN g g2 D) (hp : PW g) {G : Nat → Nat → Z4} {fm many : Nat} (hm5 : many ≤ 5) (hfm : fm ≤ 1) (hG : ∀ i j, i < many → j < many → D (5 * i + j) = q64 (G i j)) : Ok (f_Mo_laysDeterminants (cI fm) (cI many) g2) (fun r => ∃ E, MN g r E ∧ (∀ t, t < 2 ^ many → fm + bn t ≤ many → E (25 + t) = q64 (zdx G (rwl fm (bn t)) (bl t))) ∧ ∀ a, a < 25 ∨ 57 ≤ a → E a = D a) := by
  have h32 : 2 ^ many ≤ 32 := show 2 ^ many ≤ 2 ^ 5 from Nat.pow_le_pow_right (by decide) hm5
  unfold f_Mo_laysDeterminants
  refine ok_bindm (mn_clears h (a := 25) (by decide)) (fun q1 hq1 => ok_bd ?_)
  have hq2 : MN g (uJ q1 158 100 1) (up D 25 (q64 (1, 0, 0, 0))) := by
    have e : uJ q1 158 100 1 = sM q1 25 (1, (rM q1 25).2) := by
      apply Prod.ext
      · rfl
      · funext y k
        show (mm_uJ q1.2 158 100 1) y k = _
        unfold mm_uJ vp_updL sM rM
        by_cases hy : y = 158
        · subst hy
          simp only [if_true]
          by_cases h0 : k = 100
          · rw [if_pos h0, if_pos (by omega)]
          · rw [if_neg h0, if_neg (by omega)]
            by_cases h1 : k = 4 * 25 + 1
            · rw [if_pos h1, h1]
            · rw [if_neg h1]
              by_cases h2 : k = 4 * 25 + 2
              · rw [if_pos h2, h2]
              · rw [if_neg h2]
                by_cases h3 : k = 4 * 25 + 3
                · rw [if_pos h3, h3]
                · rw [if_neg h3]
        · simp only [hy, if_false]
    rw [e]
    have e2 := MN_sM hq1 (a := 25) (1, (rM q1 25).2)
    rw [hq1.2.2 25 (by decide), up_up, up_s] at e2
    rw [hq1.2.2 25 (by decide), up_s]
    exact e2
  have hb0 : bn 0 = 0 := rfl
  refine ok_bindm (Q := fun r => ∃ E, MN g r E ∧ (∀ t, t < 2 ^ many → fm + bn t ≤ many → E (25 + t) = q64 (zdx G (rwl fm (bn t)) (bl t))) ∧ ∀ a, a < 25 ∨ 57 ≤ a → E a = D a) ?_ (fun r hr => ok_some hr)
  refine ok_forA 1 (2 ^ many) (Nat.one_le_two_pow) (by omega) (fun s q => ∃ E, MN g q E ∧ (∀ t, t < s → fm + bn t ≤ many → E (25 + t) = q64 (zdx G (rwl fm (bn t)) (bl t))) ∧ ∀ a, a < 25 ∨ 57 ≤ a → E a = D a) ⟨_, hq2, fun t ht _ => ?_, fun a ha => up_o _ _ (by omega)⟩ ?_ ?_
  · have : t = 0 := by omega
    subst this
    rw [up_s, hb0]; rfl
  · rintro s q hs1 hs ⟨E, hE, hE2, hE3⟩
    show Ok (b_Mo_laysDeterminants_10 (cI fm) (cI many) (cI s) q) _
    unfold b_Mo_laysDeterminants_10
    rw [pow5 many (by omega), ix25, bc32 _ s (by omega), cI_add]
    have hb := bn_pos s (by omega) (by omega)
    refine ok_neg (le_no hs (by omega)) ?_
    refine ok_bindm (mn_clears hE (a := 25 + s) (by omega)) (fun q4 hq4 => ?_)
    by_cases hc : fm + bn s ≤ many
    · refine ok_pos (le_yes hc (by omega)) ?_
      refine ok_bindm (det_set hq4 hp hm5 (by omega) hs hc (G := G) (fun j hj => ?_) (fun t ht htb => ?_) (up_s _ _ _)) (fun r hr => ok_some ⟨c_succ s, _, hr, fun t ht htb => ?_, fun a ha => ?_⟩)
      · rw [up_o _ _ (by omega), hE3 _ (by omega)]
        exact hG _ _ (by omega) hj
      · rw [up_o _ _ (by omega), hE2 t ht (by omega), show bn s - 1 = bn t by omega]
      · by_cases hts : t = s
        · subst hts; rw [up_s]
        · rw [up_o _ _ (by omega), up_o _ _ (by omega)]
          exact hE2 t (by omega) htb
      · rw [up_o _ _ (by omega), up_o _ _ (by omega)]
        exact hE3 a ha
    · refine ok_neg (le_no (by omega) (by omega)) (ok_some ⟨c_succ s, _, hq4, fun t ht htb => ?_, fun a ha => ?_⟩)
      · have hts : t ≠ s := fun e => hc (e ▸ htb)
        rw [up_o _ _ (by omega)]
        exact hE2 t (by omega) htb
      · rw [up_o _ _ (by omega)]
        exact hE3 a ha
  · rintro q hq
    show Ok (b_Mo_laysDeterminants_10 (cI fm) (cI many) (cI (2 ^ many)) q) _
    unfold b_Mo_laysDeterminants_10
    rw [pow5 many (by omega)]
    exact ok_pos (le_yes (Nat.le_refl _) (by omega)) (ok_some hq)
