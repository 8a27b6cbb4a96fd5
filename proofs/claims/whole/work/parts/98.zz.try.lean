/-! guards; loops by their trace; signs as a linear form; order by power -/
theorem ok_grd {α : Type} {c : Prop} [Decidable c] {x : Int32} {a b : Option α} {P : α → Prop} (hx : x = if c then 1 else 0) (h1 : ¬ c → Ok a P) (h2 : c → Ok b P) : Ok (if x = 0 then a else b) P := by
  by_cases h : c
  · exact ok_neg (by rw [hx, if_pos h]; decide) (h2 h)
  · exact ok_pos (by rw [hx, if_neg h]) (h1 h)
/-- a loop by its trace -/
theorem ok_ct {S R : Type} {body : S → Option (S ⊕ R)} {P : R → Prop} (t : Nat → S) (N : Nat) (hN : N < 5000) {s0 : S} (h0 : s0 = t 0) (hs : ∀ k, k < N → Ok (body (t k)) (fun r => Sum.elim (fun s2 => s2 = t (k + 1)) P r)) (he : Ok (body (t N)) (fun r => Sum.elim (fun _ => False) P r)) : Ok (lp body 5000 s0) P := by
  refine ok_lp (fun k s => s = t k) N 5000 0 _ (by omega) (Nat.zero_le _) h0 ?_
  intro k s hk hs2
  subst hs2
  rcases Nat.lt_or_eq_of_le hk with h | h
  · refine ok_mono (hs k h) (fun r hr => ?_)
    cases r with
    | inl s2 => exact ⟨h, hr⟩
    | inr _ => exact hr
  · subst h
    refine ok_mono he (fun r hr => ?_)
    cases r with
    | inl s2 => exact hr.elim
    | inr _ => exact hr
theorem cs_ref {A : Type} {q : Sg} (hw : WF q) {F K : M2 → Option (A × M2)} {N v : A} (hF : ∀ g, F g = (f_Da_refresh g).bind fun q1 => if q1.1 6 13 = 0 then some (N, q1) else K q1) (hn : ¬ qh q = true → v = N) (hK : qh q = true → ∀ r, IC r q → Now r q → Ok (K r) (fun p => p.1 = v ∧ IC p.2 q ∧ KC r p.2)) : Cs F q v q := by
  intro g hg
  rw [hF]
  refine ok_bindm (da_refresh hw hg) (fun r hr => ?_)
  obtain ⟨a1, a2, a3⟩ := hr
  by_cases h : qh q = true
  · exact ok_neg (by rw [qh_e a2]; exact fun e => e h) (ok_mono (hK h r a1 a2) (fun p hp => ⟨hp.1, hp.2.1, KC_tr a3 hp.2.2⟩))
  · exact ok_pos (by rw [qh_e a2]; exact h) (ok_some ⟨(hn h).symm, a1, a3⟩)
/-- what the reference has when there are true weights -/
def Mqr (r : M2) (q : Sg) : Prop := IM r q ∧ MIn r (qp q) (qw q) (qm q) ∧ MV r (qp q) (qw q) (qm q) ∧ WA r q 0
theorem ms_can {A : Type} {q : Sg} (hw : WF q) {g : M2} (hg : IM g q) {K : M2 → Option (A × M2)} {N v : A} (hn : ¬ qh q = true → v = N) (hK : qh q = true → ∀ r, Mqr r q → Ok (K r) (fun p => p.1 = v ∧ FM r p.2)) : Ok ((f_Mo_canNow g).bind fun q2 => if q2.1 = 0 then some (N, q2.2) else K q2.2) (fun p => p.1 = v ∧ IM p.2 q ∧ KM g p.2) := by
  refine ok_bindm (mo_canNow hw hg) (fun r hr => ?_)
  obtain ⟨b1, b2, b3, b4, b5⟩ := hr
  rw [b1]
  refine ok_grd rfl (fun h => ok_some ⟨(hn h).symm, b3, FM_K b2⟩) (fun h => ?_)
  obtain ⟨h1, h2, h3, h4, h5, _⟩ := q_on hw h
  exact ok_mono (hK h r.2 ⟨b3, b4.1, b4.2.2.2.2.2 ⟨h3, h2⟩, b5⟩) (fun p hp => ⟨hp.1, IM_f b3 hp.2, FM_K (FM_tr b2 hp.2)⟩)
/-! signs -/
theorem sgn_r (x y : Int) : sgn x y = -1 ∨ sgn x y = 0 ∨ sgn x y = 1 := by
  unfold sgn
  repeat' split
  all_goals simp
theorem s_gt {c : Int} (h : c = -1 ∨ c = 0 ∨ c = 1) : 0 < Int32.ofInt c ↔ 0 < c := by
  rcases h with h | h | h <;> subst h <;> decide
theorem s_le {c : Int} (h : c = -1 ∨ c = 0 ∨ c = 1) : Int32.ofInt c ≤ 0 ↔ c ≤ 0 := by
  rcases h with h | h | h <;> subst h <;> decide
theorem s_lt {c : Int} (h : c = -1 ∨ c = 0 ∨ c = 1) : Int32.ofInt c < 0 ↔ c < 0 := by
  rcases h with h | h | h <;> subst h <;> decide
theorem s_ge {c : Int} (h : c = -1 ∨ c = 0 ∨ c = 1) : 0 ≤ Int32.ofInt c ↔ 0 ≤ c := by
  rcases h with h | h | h <;> subst h <;> decide
theorem s_eq {c : Int} (h : c = -1 ∨ c = 0 ∨ c = 1) : Int32.ofInt c = 0 ↔ c = 0 := by
  rcases h with h | h | h <;> subst h <;> decide
theorem key_pq {p w : Int} (hp : 0 < p) (hw : 0 < w) (hw2 : w ≤ 2 ^ 57) : (3 * (w * w) < p * p → w * 1002978273411373057 < p * 579069776145402304) ∧ (¬ 3 * (w * w) < p * p → p * 579069776145402304 < w * 1002978273411373057) := by
  have e1 : (p * 579069776145402304) * (p * 579069776145402304) = (p * p) * 335321805645086335235469638008508416 := by grind
  have e2 : (w * 1002978273411373057) * (w * 1002978273411373057) = (w * w) * 1005965416935259005706408914025525249 := by grind
  have hb0 : 0 < w * w := Int.mul_pos hw hw
  have hb1 : w * w ≤ 2 ^ 57 * 2 ^ 57 := Int.mul_le_mul hw2 hw2 (by omega) (by decide)
  have hpq : 0 < p * 579069776145402304 := Int.mul_pos hp (by decide)
  have hwp : 0 < w * 1002978273411373057 := Int.mul_pos hw (by decide)
  generalize hA : p * p = a at *
  generalize hB : w * w = b at *
  constructor
  · intro h
    refine Int.lt_of_not_ge (fun k => ?_)
    have := Int.mul_le_mul k k (Int.le_of_lt hpq) (Int.le_of_lt hwp)
    omega
  · intro h
    refine Int.lt_of_not_ge (fun k => ?_)
    have := Int.mul_le_mul k k (Int.le_of_lt hwp) (Int.le_of_lt hpq)
    omega
theorem lit_sg (x : Int) {Q : Int} (hQ : 0 < Q) : (0 < x → 0 < x * Q) ∧ (x = 0 → x * Q = 0) ∧ (x < 0 → x * Q < 0) := by
  refine ⟨fun h => Int.mul_pos h hQ, fun h => by rw [h, Int.zero_mul], fun h => ?_⟩
  have h2 : 0 < (-x) * Q := Int.mul_pos (by omega) hQ
  rw [Int.neg_mul] at h2
  omega
theorem sgn_lin {x y : Int} (x1 : -2 ^ 57 ≤ x) (x2 : x ≤ 2 ^ 57) (y1 : -2 ^ 57 ≤ y) (y2 : y ≤ 2 ^ 57) : (0 < sgn x y ↔ 0 < x * 579069776145402304 + y * 1002978273411373057) ∧ (sgn x y = 0 ↔ x * 579069776145402304 + y * 1002978273411373057 = 0) ∧ (sgn x y < 0 ↔ x * 579069776145402304 + y * 1002978273411373057 < 0) := by
  have kx : 0 < x → y < 0 → _ := fun hx hy => key_pq (p := x) (w := -y) hx (by omega) (by omega)
  have ky : x < 0 → 0 < y → _ := fun hx hy => key_pq (p := -x) (w := y) (by omega) hy (by omega)
  have e1 : (-y) * (-y) = y * y := by rw [Int.neg_mul, Int.mul_neg, Int.neg_neg]
  have e2 : (-x) * (-x) = x * x := by rw [Int.neg_mul, Int.mul_neg, Int.neg_neg]
  rw [e1, Int.neg_mul] at kx
  rw [e2, Int.neg_mul] at ky
  obtain ⟨a1, a2, a3⟩ := lit_sg x (Q := 579069776145402304) (by decide)
  obtain ⟨b1, b2, b3⟩ := lit_sg y (Q := 1002978273411373057) (by decide)
  generalize x * 579069776145402304 = a at *
  generalize y * 1002978273411373057 = b at *
  unfold sgn
  by_cases h0 : x = 0 ∧ y = 0
  · rw [if_pos h0]
    have := a2 h0.1
    have := b2 h0.2
    omega
  · rw [if_neg h0]
    by_cases h1 : 0 ≤ x ∧ 0 ≤ y
    · rw [if_pos h1]; omega
    · rw [if_neg h1]
      by_cases h2 : x ≤ 0 ∧ y ≤ 0
      · rw [if_pos h2]; omega
      · rw [if_neg h2]
        by_cases h3 : 0 < x
        · rw [if_pos h3]
          have k := kx h3 (by omega)
          by_cases h4 : 3 * (y * y) < x * x
          · rw [if_pos h4]
            have := k.1 h4
            omega
          · rw [if_neg h4]
            have := k.2 h4
            omega
        · rw [if_neg h3]
          have k := ky (by omega) (by omega)
          by_cases h4 : 3 * (y * y) < x * x
          · rw [if_pos h4]
            have := k.1 h4
            omega
          · rw [if_neg h4]
            have := k.2 h4
            omega
/-- counting -/
def cnf (f : Nat → Bool) : Nat → Nat
  | 0 => 0
  | n + 1 => if f n then cnf f n + 1 else cnf f n
theorem cf_le {f g : Nat → Bool} (h : ∀ o, f o = true → g o = true) : ∀ n, cnf f n ≤ cnf g n := by
  intro n
  induction n with
  | zero => exact Nat.le_refl _
  | succ n ih =>
    unfold cnf
    by_cases h1 : f n = true
    · rw [if_pos h1, if_pos (h n h1)]; omega
    · rw [if_neg h1]; split <;> omega
theorem cf_lt {f g : Nat → Bool} (h : ∀ o, f o = true → g o = true) {k : Nat} (hf : ¬ f k = true) (hg : g k = true) : ∀ n, k < n → cnf f n < cnf g n := by
  intro n
  induction n with
  | zero => intro hk; omega
  | succ n ih =>
    intro hk
    unfold cnf
    by_cases hkn : k = n
    · subst hkn
      rw [if_neg hf, if_pos hg]
      have := cf_le h k
      omega
    · have := ih (by omega)
      by_cases h1 : f n = true
      · rw [if_pos h1, if_pos (h n h1)]; omega
      · rw [if_neg h1]; split <;> omega
theorem cf_t (n : Nat) : cnf (fun _ => true) n = n := by
  induction n with
  | zero => rfl
  | succ n ih => unfold cnf; rw [if_pos rfl, ih]
theorem pgn : ∀ (n : Nat) (f : Nat → Nat), (∀ i, i < n → f i < n) → (∀ i j, i < n → j < n → f i = f j → i = j) → ∀ v, v < n → ∃ i, i < n ∧ f i = v := by
  intro n
  induction n with
  | zero => intro f _ _ v hv; omega
  | succ n ih =>
    intro f h1 h2 v hv
    have hc := h1 n (by omega)
    have hlt : ∀ i, i < n → (if f i = n then f n else f i) < n := by
      intro i hi
      split
      · rename_i e
        have : f n ≠ n := fun e2 => by have := h2 i n (by omega) (by omega) (by omega); omega
        omega
      · have := h1 i (by omega); omega
    have hinj : ∀ i j, i < n → j < n → (if f i = n then f n else f i) = (if f j = n then f n else f j) → i = j := by
      intro i j hi hj e
      by_cases a : f i = n
      · by_cases b : f j = n
        · exact h2 i j (by omega) (by omega) (by omega)
        · rw [if_pos a, if_neg b] at e
          have := h2 n j (by omega) (by omega) e; omega
      · by_cases b : f j = n
        · rw [if_neg a, if_pos b] at e
          have := h2 i n (by omega) (by omega) e; omega
        · rw [if_neg a, if_neg b] at e
          exact h2 i j (by omega) (by omega) e
    by_cases hvc : v = f n
    · exact ⟨n, by omega, hvc.symm⟩
    · by_cases hvn : v = n
      · obtain ⟨i, hi, e⟩ := ih (fun i => if f i = n then f n else f i) hlt hinj (f n) (by omega)
        by_cases a : f i = n
        · exact ⟨i, by omega, by omega⟩
        · simp only [if_neg a] at e
          have := h2 i n (by omega) (by omega) e; omega
      · obtain ⟨i, hi, e⟩ := ih (fun i => if f i = n then f n else f i) hlt hinj v (by omega)
        by_cases a : f i = n
        · simp only [if_pos a] at e; omega
        · simp only [if_neg a] at e
          exact ⟨i, by omega, e⟩
/-- bits told by a test -/
def bm (f : Nat → Bool) : Nat → Nat
  | 0 => 0
  | n + 1 => if f n then bm f n ||| 2 ^ n else bm f n
theorem bm_bit (f : Nat → Bool) (j : Nat) : ∀ n, (bm f n).testBit j = (decide (j < n) && f j) := by
  intro n
  induction n with
  | zero => simp [bm]
  | succ n ih =>
    unfold bm
    by_cases hj : j = n
    · subst hj
      by_cases h : f j = true
      · rw [if_pos h, Nat.testBit_or, Nat.testBit_two_pow]; simp [h]
      · rw [if_neg h, ih]; simp [h]
    · have e : decide (j < n + 1) = decide (j < n) := by
        by_cases h : j < n
        · rw [decide_eq_true h, decide_eq_true (by omega)]
        · rw [decide_eq_false h, decide_eq_false (by omega)]
      by_cases h : f n = true
      · have h2 : ¬ n = j := fun e => hj e.symm
        rw [if_pos h, Nat.testBit_or, Nat.testBit_two_pow, ih, e]; simp [h2]
      · rw [if_neg h, ih, e]
theorem bm_lt (f : Nat → Bool) : ∀ n, bm f n < 2 ^ n := by
  intro n
  induction n with
  | zero => exact Nat.one_pos
  | succ n ih =>
    unfold bm
    have h1 : bm f n < 2 ^ (n + 1) := Nat.lt_of_lt_of_le ih (Nat.pow_le_pow_right (by decide) (by omega))
    split
    · exact Nat.or_lt_two_pow h1 (Nat.pow_lt_pow_right (by decide) (by omega))
    · exact h1
theorem bm_12 (f : Nat → Bool) {n : Nat} (h : n ≤ 12) : bm f n < 4096 := Nat.lt_of_lt_of_le (bm_lt f n) (Nat.pow_le_pow_right (by decide) h)
theorem bm_s (f : Nat → Bool) {n : Nat} (h : n < 12) (hf : f n = true) : cI (bm f n) ||| ((1 : Int32) <<< (cI n &&& 31)) = cI (bm f (n + 1)) := by
  rw [sh12 n h, cI_or]
  conv => rhs; unfold bm
  rw [if_pos hf]
theorem bm_n (f : Nat → Bool) {n : Nat} (hf : ¬ f n = true) : bm f (n + 1) = bm f n := by
  conv => lhs; unfold bm
  rw [if_neg hf]
