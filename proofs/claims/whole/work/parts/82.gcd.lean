/-! common divisors on both sides -/
abbrev nJ (a : Nat) : Int64 := Int64.ofInt (a : Int)
theorem nJ_0 {a : Nat} (h : a ≤ 2 ^ 62) : nJ a = 0 ↔ a = 0 := by
  rw [z64, eq64 (by omega) (by omega) (by omega) (by omega)]; omega
theorem div64 {a b : Int} (a1 : -2 ^ 62 ≤ a) (a2 : a ≤ 2 ^ 62) (b1 : -2 ^ 62 ≤ b) (b2 : b ≤ 2 ^ 62) : Int64.ofInt a / Int64.ofInt b = Int64.ofInt (a.tdiv b) := by
  apply Int64.toInt_inj.mp
  rw [Int64.toInt_div, to64 a1 a2, to64 b1 b2]
  have h : (a.tdiv b).natAbs ≤ a.natAbs := Int.natAbs_tdiv_le_natAbs a b
  rw [to64 (by omega) (by omega)]
  exact Int.bmod_eq_of_le (by omega) (by omega)
theorem rem64 {a b : Nat} (ha : a ≤ 2 ^ 62) (hb : b ≤ 2 ^ 62) : nJ a - nJ a / nJ b * nJ b = nJ (a % b) := by
  rw [div64 (by omega) (by omega) (by omega) (by omega), ← Int64.ofInt_mul, ← Int64.ofInt_sub]
  congr 1
  have h : ((a : Int).tdiv b) = ((a / b : Nat) : Int) := rfl
  rw [h]
  have := Nat.div_add_mod a b
  have e : ((a / b : Nat) : Int) * (b : Int) = ((b * (a / b) : Nat) : Int) := by rw [Nat.mul_comm]; rfl
  rw [e]
  omega
theorem gcd_half {a b : Nat} (hb : 0 < b) (h : b < a) : 2 * (a % b) < a := by
  have h1 := Nat.mod_lt a hb
  have h2 := Nat.div_add_mod a b
  have h3 : 1 ≤ a / b := (Nat.one_le_div_iff hb).mpr (by omega)
  have h4 : b * 1 ≤ b * (a / b) := Nat.mul_le_mul_left b h3
  omega
/-- (a, b) with b below a, and a below 2^m: at most 2 m rounds -/
theorem da_gcd_lp (g : M2) : ∀ (m n k a b : Nat), b < a → a < 2 ^ m → m ≤ 62 → 2 * m + k ≤ 129 → 2 * m < n → Ok (lp (fun s => b_Da_commonDivisor_8 s.1 s.2.1 s.2.2 g) n (nJ a, nJ b, cI k)) (fun r => r = nJ (Nat.gcd a b)) := by
  intro m
  induction m with
  | zero => intro n k a b h1 h2; omega
  | succ m ih =>
    intro n k a b h1 h2 hm hk hn
    have h62 : (2 : Nat) ^ (m + 1) ≤ 2 ^ 62 := Nat.pow_le_pow_right (by decide) hm
    have rd : ∀ (n k a b : Nat) (P : Int64 → Prop), a ≤ 2 ^ 62 → b ≤ 2 ^ 62 → k < 130 → (b = 0 → P (nJ (Nat.gcd a b))) → (0 < b → Ok (lp (fun s => b_Da_commonDivisor_8 s.1 s.2.1 s.2.2 g) n (nJ b, nJ (a % b), cI (k + 1))) P) → Ok (lp (fun s => b_Da_commonDivisor_8 s.1 s.2.1 s.2.2 g) (n + 1) (nJ a, nJ b, cI k)) P := by
      intro n k a b P ha hb hk p1 p2
      by_cases hb0 : b = 0
      · have eb : b_Da_commonDivisor_8 (nJ a) (nJ b) (cI k) g = some (.inr (nJ (Nat.gcd a b))) := by
          unfold b_Da_commonDivisor_8
          rw [if_neg (show ¬ (130 : Int32) ≤ cI k from le_no (a := 130) hk (by decide)), if_pos ((nJ_0 hb).mpr hb0), hb0, Nat.gcd_zero_right]
        exact ok_lpS (body := fun s => b_Da_commonDivisor_8 s.1 s.2.1 s.2.2 g) eb (p1 hb0)
      · have eb : b_Da_commonDivisor_8 (nJ a) (nJ b) (cI k) g = some (.inl (nJ b, nJ (a % b), cI (k + 1))) := by
          unfold b_Da_commonDivisor_8
          rw [if_neg (show ¬ (130 : Int32) ≤ cI k from le_no (a := 130) hk (by decide)), if_neg (fun e => hb0 ((nJ_0 hb).mp e)), if_neg (fun e => hb0 ((nJ_0 hb).mp e)), rem64 ha hb, c_succ]
        exact ok_lpS (body := fun s => b_Da_commonDivisor_8 s.1 s.2.1 s.2.2 g) eb (p2 (by omega))
    obtain ⟨n', rfl⟩ : ∃ n', n = n' + 1 + 1 := ⟨n - 2, by omega⟩
    refine rd (n' + 1) k a b _ (by omega) (by omega) (by omega) (fun _ => rfl) (fun hb => ?_)
    have hmod := Nat.mod_lt a hb
    have e1 : Nat.gcd a b = Nat.gcd b (a % b) := by rw [Nat.gcd_comm b, ← Nat.gcd_rec, Nat.gcd_comm]
    rw [e1]
    refine rd n' (k + 1) b (a % b) _ (by omega) (by omega) (by omega) (fun _ => rfl) (fun hb2 => ?_)
    have e2 : Nat.gcd b (a % b) = Nat.gcd (a % b) (b % (a % b)) := by rw [Nat.gcd_comm (a % b), ← Nat.gcd_rec, Nat.gcd_comm]
    rw [e2]
    have h3 := gcd_half hb h1
    have h4 : a < 2 ^ m * 2 := by rw [← Nat.pow_succ]; exact h2
    exact ih n' (k + 1 + 1) _ _ (Nat.mod_lt _ hb2) (by generalize 2 ^ m = M at *; omega) (by omega) (by omega) (by omega)
theorem mo_gcd_lp (g : M2) : ∀ (b n a : Nat), a ≤ 2 ^ 62 → b ≤ 2 ^ 62 → ∀ m, (b < a → a < 2 ^ m) → b < a → 2 * m < n → m ≤ 62 → Ok (lp (fun s => b_Mo_common_6 s.1 s.2 g) n (nJ a, nJ b)) (fun r => r = nJ (Nat.gcd a b)) := by
  intro b n a ha hb m hm hba hn hm2
  have h2 := hm hba
  clear hm
  induction m generalizing n a b with
  | zero => omega
  | succ m ih =>
    have h62 : (2 : Nat) ^ (m + 1) ≤ 2 ^ 62 := Nat.pow_le_pow_right (by decide) hm2
    have rd : ∀ (n a b : Nat) (P : Int64 → Prop), a ≤ 2 ^ 62 → b ≤ 2 ^ 62 → (b = 0 → P (nJ (Nat.gcd a b))) → (0 < b → Ok (lp (fun s => b_Mo_common_6 s.1 s.2 g) n (nJ b, nJ (a % b))) P) → Ok (lp (fun s => b_Mo_common_6 s.1 s.2 g) (n + 1) (nJ a, nJ b)) P := by
      intro n a b P ha hb p1 p2
      by_cases hb0 : b = 0
      · have eb : b_Mo_common_6 (nJ a) (nJ b) g = some (.inr (nJ (Nat.gcd a b))) := by
          unfold b_Mo_common_6
          rw [if_pos ((nJ_0 hb).mpr hb0), hb0, Nat.gcd_zero_right]
        exact ok_lpS (body := fun s => b_Mo_common_6 s.1 s.2 g) eb (p1 hb0)
      · have eb : b_Mo_common_6 (nJ a) (nJ b) g = some (.inl (nJ b, nJ (a % b))) := by
          unfold b_Mo_common_6
          rw [if_neg (fun e => hb0 ((nJ_0 hb).mp e)), if_neg (fun e => hb0 ((nJ_0 hb).mp e)), rem64 ha hb]
        exact ok_lpS (body := fun s => b_Mo_common_6 s.1 s.2 g) eb (p2 (by omega))
    obtain ⟨n', rfl⟩ : ∃ n', n = n' + 1 + 1 := ⟨n - 2, by omega⟩
    refine rd (n' + 1) a b _ (by omega) (by omega) (fun _ => rfl) (fun hb0 => ?_)
    have hmod := Nat.mod_lt a hb0
    have e1 : Nat.gcd a b = Nat.gcd b (a % b) := by rw [Nat.gcd_comm b, ← Nat.gcd_rec, Nat.gcd_comm]
    rw [e1]
    refine rd n' b (a % b) _ (by omega) (by omega) (fun _ => rfl) (fun hb2 => ?_)
    have e2 : Nat.gcd b (a % b) = Nat.gcd (a % b) (b % (a % b)) := by rw [Nat.gcd_comm (a % b), ← Nat.gcd_rec, Nat.gcd_comm]
    rw [e2]
    have h3 := gcd_half hb0 hba
    have h4 : a < 2 ^ m * 2 := by rw [← Nat.pow_succ]; exact h2
    have h5 := Nat.mod_lt b hb2
    exact ih (b % (a % b)) n' (a % b) (by omega) (by omega) h5 (by omega) (by omega) (by generalize 2 ^ m = M at *; omega)
theorem absN {x : Int} (h1 : -2 ^ 61 ≤ x) (h2 : x ≤ 2 ^ 61) (g : M2) : f_Ma_abs (Int64.ofInt x) g = nJ x.natAbs := by
  rw [abs64 (by omega) (by omega)]
  congr 1
  split <;> omega
theorem da_gcd {x y : Int} (x1 : -2 ^ 61 ≤ x) (x2 : x ≤ 2 ^ 61) (y1 : -2 ^ 61 ≤ y) (y2 : y ≤ 2 ^ 61) (g : M2) : f_Da_commonDivisor (Int64.ofInt x) (Int64.ofInt y) g = some (nJ (Int.gcd x y)) := by
  refine ok_to ?_
  unfold f_Da_commonDivisor
  rw [absN x1 x2, absN y1 y2]
  have ha : x.natAbs ≤ 2 ^ 61 := by omega
  have hb : y.natAbs ≤ 2 ^ 61 := by omega
  unfold Int.gcd
  generalize x.natAbs = a at ha
  generalize y.natAbs = b at hb
  refine ok_bindm (Q := fun r => r = nJ (Nat.gcd a b)) ?_ (fun r hr => ok_some hr)
  by_cases hb0 : b = 0
  · have eb : b_Da_commonDivisor_8 (nJ a) (nJ b) 0 g = some (.inr (nJ (Nat.gcd a b))) := by
      unfold b_Da_commonDivisor_8
      rw [if_neg (by decide), if_pos ((nJ_0 (by omega)).mpr hb0), hb0, Nat.gcd_zero_right]
    exact ok_lpS (n := 4999) (body := fun s => b_Da_commonDivisor_8 s.1 s.2.1 s.2.2 g) eb rfl
  · have eb : b_Da_commonDivisor_8 (nJ a) (nJ b) 0 g = some (.inl (nJ b, nJ (a % b), cI 1)) := by
      unfold b_Da_commonDivisor_8
      rw [if_neg (by decide), if_neg (fun e => hb0 ((nJ_0 (by omega)).mp e)), if_neg (fun e => hb0 ((nJ_0 (by omega)).mp e)), rem64 (by omega) (by omega)]
      rfl
    refine ok_lpS (n := 4999) (body := fun s => b_Da_commonDivisor_8 s.1 s.2.1 s.2.2 g) eb ?_
    have e1 : Nat.gcd a b = Nat.gcd b (a % b) := by rw [Nat.gcd_comm b, ← Nat.gcd_rec, Nat.gcd_comm]
    rw [e1]
    exact da_gcd_lp g 62 4999 1 b (a % b) (Nat.mod_lt _ (by omega)) (by omega) (by decide) (by decide) (by decide)
theorem mo_gcd {x y : Int} (x1 : -2 ^ 61 ≤ x) (x2 : x ≤ 2 ^ 61) (y1 : -2 ^ 61 ≤ y) (y2 : y ≤ 2 ^ 61) (g : M2) : f_Mo_common (Int64.ofInt x) (Int64.ofInt y) g = some (nJ (Int.gcd x y)) := by
  refine ok_to ?_
  unfold f_Mo_common
  rw [absN x1 x2, absN y1 y2]
  have ha : x.natAbs ≤ 2 ^ 61 := by omega
  have hb : y.natAbs ≤ 2 ^ 61 := by omega
  unfold Int.gcd
  generalize x.natAbs = a at ha
  generalize y.natAbs = b at hb
  refine ok_bindm (Q := fun r => r = nJ (Nat.gcd a b)) ?_ (fun r hr => ok_some hr)
  by_cases hb0 : b = 0
  · have eb : b_Mo_common_6 (nJ a) (nJ b) g = some (.inr (nJ (Nat.gcd a b))) := by
      unfold b_Mo_common_6
      rw [if_pos ((nJ_0 (by omega)).mpr hb0), hb0, Nat.gcd_zero_right]
    exact ok_lpS (n := 4999) (body := fun s => b_Mo_common_6 s.1 s.2 g) eb rfl
  · have eb : b_Mo_common_6 (nJ a) (nJ b) g = some (.inl (nJ b, nJ (a % b))) := by
      unfold b_Mo_common_6
      rw [if_neg (fun e => hb0 ((nJ_0 (by omega)).mp e)), if_neg (fun e => hb0 ((nJ_0 (by omega)).mp e)), rem64 (by omega) (by omega)]
    refine ok_lpS (n := 4999) (body := fun s => b_Mo_common_6 s.1 s.2 g) eb ?_
    have e1 : Nat.gcd a b = Nat.gcd b (a % b) := by rw [Nat.gcd_comm b, ← Nat.gcd_rec, Nat.gcd_comm]
    rw [e1]
    have hm := Nat.mod_lt a (Nat.pos_of_ne_zero hb0)
    exact mo_gcd_lp g (a % b) 4999 b (by omega) (by omega) 62 (fun _ => by omega) hm (by decide) (by decide)
