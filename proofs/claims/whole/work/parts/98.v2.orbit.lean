/-! sets that are one another moved: counting, the least -/
def mss (s : Nat) : Nat → Nat → Nat
  | _, 0 => 12
  | m, k + 1 => if m < s then 0 else if m = s then 12 - (k + 1) else mss s (rot1 m) k
def msd (s : Nat) : Nat := mss s (rot1 s) 11
def rotn (s : Nat) : Nat → Nat
  | 0 => s
  | t + 1 => rot1 (rotn s t)
theorem rotn_lt {s : Nat} (h : s < 4096) : ∀ t, rotn s t < 4096 ∧ pc (rotn s t) = pc s := by
  intro t
  induction t with
  | zero => exact ⟨h, rfl⟩
  | succ t ih =>
    have := rb ih.1
    exact ⟨this.1, this.2.1.trans ih.2⟩
theorem mss_0 (s : Nat) : ∀ (k t : Nat), k ≤ 11 → mss s (rotn s t) k = 0 → ∃ u, rotn s u < s := by
  intro k
  induction k with
  | zero => intro t _ h; cases h
  | succ k ih =>
    intro t hk h
    unfold mss at h
    by_cases h1 : rotn s t < s
    · exact ⟨t, h1⟩
    · rw [if_neg h1] at h
      by_cases h2 : rotn s t = s
      · rw [if_pos h2] at h; omega
      · rw [if_neg h2] at h
        exact ih (t + 1) (by omega) h
theorem msd_0 {s : Nat} (h : msd s = 0) : ∃ u, rotn s u < s := mss_0 s 11 1 (by decide) h
theorem mss_le (s : Nat) : ∀ (k m : Nat), mss s m k ≤ 12 := by
  intro k
  induction k with
  | zero => intro m; exact Nat.le_refl _
  | succ k ih =>
    intro m
    unfold mss
    repeat' split
    · omega
    · omega
    · exact ih _
def rep (s : Nat) : Nat := (List.range 12).foldl (fun b t => if rotn s t < b then rotn s t else b) s
def shf (s : Nat) : Nat := ((List.range 12).find? (fun t => rotn (rep s) t == s)).getD 0
theorem orb_a : ∀ a : Nat, a < 64 → ∀ b : Nat, b < 64 → pc (64 * a + b) ≤ 5 → shf (64 * a + b) < msd (rep (64 * a + b)) ∧ rotn (rep (64 * a + b)) (shf (64 * a + b)) = 64 * a + b ∧ rep (64 * a + b) < 4096 := by decide +kernel
theorem orb_c : ∀ a : Nat, a < 64 → ∀ b : Nat, b < 64 → (List.range 12).all (fun t => !(Nat.ble (pc (64 * a + b)) 5 && Nat.blt t (msd (64 * a + b))) || (Nat.beq (rep (rotn (64 * a + b) t)) (64 * a + b) && Nat.beq (shf (rotn (64 * a + b) t)) t)) = true := by decide +kernel
theorem orb_b (a : Nat) (ha : a < 64) (b : Nat) (hb2 : b < 64) (t : Nat) (ht : t < 12) (hp : pc (64 * a + b) ≤ 5) (hm : t < msd (64 * a + b)) : rep (rotn (64 * a + b) t) = 64 * a + b ∧ shf (rotn (64 * a + b) t) = t := by
  have h := List.all_eq_true.mp (orb_c a ha b hb2) t (List.mem_range.mpr ht)
  have h1 : Nat.ble (pc (64 * a + b)) 5 = true := Nat.ble_eq.mpr hp
  have h2 : Nat.blt t (msd (64 * a + b)) = true := Nat.blt_eq.mpr hm
  simp only [h1, h2, Bool.and_self, Bool.not_true, Bool.false_or, Bool.and_eq_true] at h
  exact ⟨Nat.eq_of_beq_eq_true h.1, Nat.eq_of_beq_eq_true h.2⟩
/-- sums -/
def smc (g : Nat → Nat) : Nat → Nat
  | 0 => 0
  | k + 1 => smc g k + g k
theorem smc_ext {g h : Nat → Nat} : ∀ N, (∀ i, i < N → g i = h i) → smc g N = smc h N := by
  intro N
  induction N with
  | zero => intro _; rfl
  | succ N ih => intro e; show smc g N + g N = smc h N + h N; rw [ih (fun i hi => e i (by omega)), e N (by omega)]
theorem smc_add (g h : Nat → Nat) : ∀ N, smc (fun i => g i + h i) N = smc g N + smc h N := by
  intro N
  induction N with
  | zero => rfl
  | succ N ih => show smc (fun i => g i + h i) N + (g N + h N) = smc g N + g N + (smc h N + h N); rw [ih]; omega
theorem smc_0 : ∀ N, smc (fun _ => 0) N = 0 := by
  intro N
  induction N with
  | zero => rfl
  | succ N ih => show smc (fun _ => 0) N + 0 = 0; rw [ih]
theorem smc_sw (g : Nat → Nat → Nat) (M : Nat) : ∀ N, smc (fun i => smc (fun j => g i j) M) N = smc (fun j => smc (fun i => g i j) N) M := by
  intro N
  induction N with
  | zero => show 0 = smc (fun _ => 0) M; rw [smc_0]
  | succ N ih =>
    show smc (fun i => smc (fun j => g i j) M) N + smc (fun j => g N j) M = smc (fun j => smc (fun i => g i j) N + g N j) M
    rw [ih, smc_add]
theorem smc_one (a c : Nat) : ∀ N, smc (fun i => if i = a then c else 0) N = if a < N then c else 0 := by
  intro N
  induction N with
  | zero => rw [if_neg (by omega)]; rfl
  | succ N ih =>
    show smc (fun i => if i = a then c else 0) N + (if N = a then c else 0) = _
    rw [ih]
    by_cases h : N = a
    · rw [if_neg (by omega), if_pos h, if_pos (by omega)]; omega
    · rw [if_neg h]
      by_cases h2 : a < N
      · rw [if_pos h2, if_pos (by omega), Nat.add_zero]
      · rw [if_neg h2, if_neg (by omega)]
theorem smc_lt (c m : Nat) : ∀ N, smc (fun t => if t < m then c else 0) N = (if m ≤ N then m else N) * c := by
  intro N
  induction N with
  | zero => show 0 = _; split
            · rw [show m = 0 by omega, Nat.zero_mul]
            · rw [Nat.zero_mul]
  | succ N ih =>
    show smc (fun t => if t < m then c else 0) N + (if N < m then c else 0) = _
    rw [ih]
    by_cases h : N < m
    · rw [if_pos h]
      by_cases h2 : m ≤ N + 1
      · rw [if_pos h2, if_neg (by omega), show m = N + 1 by omega, Nat.succ_mul]
      · rw [if_neg h2, if_neg (by omega), Nat.succ_mul]
    · rw [if_neg h, if_pos (by omega), if_pos (by omega)]; rfl
theorem sum_orb {F : Nat → Nat} (h5 : ∀ s, s < 4096 → ¬ pc s ≤ 5 → F s = 0) (hr : ∀ s, s < 4096 → F (rot1 s) = F s) : smc F 4096 = smc (fun r => msd r * F r) 4096 := by
  have hrn : ∀ s, s < 4096 → ∀ t, F (rotn s t) = F s := fun s hs t => by
    induction t with
    | zero => rfl
    | succ t ih => show F (rot1 (rotn s t)) = F s; rw [hr _ (rotn_lt hs t).1, ih]
  have ha : ∀ s, s < 4096 → pc s ≤ 5 → shf s < msd (rep s) ∧ rotn (rep s) (shf s) = s ∧ rep s < 4096 := fun s hs hp => by
    have := orb_a (s / 64) (by omega) (s % 64) (by omega)
    rw [show 64 * (s / 64) + s % 64 = s by omega] at this
    exact this hp
  have hb : ∀ r, r < 4096 → pc r ≤ 5 → ∀ t, t < 12 → t < msd r → rep (rotn r t) = r ∧ shf (rotn r t) = t := fun r hr2 hp => by
    have := orb_b (r / 64) (by omega) (r % 64) (by omega)
    rw [show 64 * (r / 64) + r % 64 = r by omega] at this
    exact fun t ht h1 => this t ht hp h1
  have e1 : smc F 4096 = smc (fun s => smc (fun r => smc (fun t => if t < msd r ∧ rotn r t = s then F s else 0) 12) 4096) 4096 := by
    refine smc_ext 4096 (fun s hs => ?_)
    by_cases hp : pc s ≤ 5
    · obtain ⟨a1, a2, a3⟩ := ha s hs hp
      have hm12 := mss_le (rep s) 11 (rot1 (rep s))
      have hsh : shf s < 12 := by unfold msd at a1; omega
      have e2 : smc (fun r => smc (fun t => if t < msd r ∧ rotn r t = s then F s else 0) 12) 4096 = smc (fun r => if r = rep s then F s else 0) 4096 := by
        refine smc_ext 4096 (fun r hr2 => ?_)
        by_cases hrr : r = rep s
        · rw [if_pos hrr]
          have e3 : smc (fun t => if t < msd r ∧ rotn r t = s then F s else 0) 12 = smc (fun t => if t = shf s then F s else 0) 12 := by
            refine smc_ext 12 (fun t ht => ?_)
            by_cases hts : t = shf s
            · rw [if_pos hts, if_pos ⟨by rw [hts, hrr]; exact a1, by rw [hts, hrr]; exact a2⟩]
            · rw [if_neg hts, if_neg]
              rintro ⟨c1, c2⟩
              have hpr : pc r ≤ 5 := by rw [← (rotn_lt hr2 t).2, c2]; exact hp
              have := (hb r hr2 hpr t ht c1).2
              rw [c2] at this
              exact hts this.symm
          rw [e3, smc_one, if_pos hsh]
        · rw [if_neg hrr]
          have e3 : smc (fun t => if t < msd r ∧ rotn r t = s then F s else 0) 12 = smc (fun _ => 0) 12 := by
            refine smc_ext 12 (fun t ht => ?_)
            rw [if_neg]
            rintro ⟨c1, c2⟩
            have hpr : pc r ≤ 5 := by rw [← (rotn_lt hr2 t).2, c2]; exact hp
            have := (hb r hr2 hpr t ht c1).1
            rw [c2] at this
            exact hrr this.symm
          rw [e3, smc_0]
      rw [e2, smc_one, if_pos a3]
    · rw [h5 s hs hp]
      symm
      refine (smc_ext (h := fun _ => 0) 4096 (fun r _ => ?_)).trans (smc_0 4096)
      refine (smc_ext (h := fun _ => 0) 12 (fun t _ => ?_)).trans (smc_0 12)
      rw [ite_self]
  rw [e1, smc_sw (fun s r => smc (fun t => if t < msd r ∧ rotn r t = s then F s else 0) 12) 4096 4096]
  refine smc_ext 4096 (fun r hr2 => ?_)
  rw [smc_sw (fun s t => if t < msd r ∧ rotn r t = s then F s else 0) 12 4096]
  have e4 : smc (fun t => smc (fun s => if t < msd r ∧ rotn r t = s then F s else 0) 4096) 12 = smc (fun t => if t < msd r then F r else 0) 12 := by
    refine smc_ext 12 (fun t ht => ?_)
    by_cases h1 : t < msd r
    · rw [if_pos h1]
      have e5 : smc (fun s => if t < msd r ∧ rotn r t = s then F s else 0) 4096 = smc (fun s => if s = rotn r t then F r else 0) 4096 := by
        refine smc_ext 4096 (fun s _ => ?_)
        by_cases h2 : s = rotn r t
        · rw [if_pos h2, if_pos ⟨h1, h2.symm⟩, h2, hrn r hr2 t]
        · rw [if_neg h2, if_neg (fun e => h2 e.2.symm)]
      rw [e5, smc_one, if_pos (rotn_lt hr2 t).1]
    · rw [if_neg h1]
      refine (smc_ext (h := fun _ => 0) 4096 (fun s _ => ?_)).trans (smc_0 4096)
      rw [if_neg (fun e => h1 e.1)]
  rw [e4, smc_lt]
  have hm12 : msd r ≤ 12 := mss_le r 11 (rot1 r)
  rw [if_pos hm12]
/-! the least of all is among those that are least of their like -/
theorem tB_lt {X Y L U V M : Int} (h : tB X Y L) (k : tB U V M) : sgn (X * M - U * L) (Y * M - V * L) < 0 ↔ (X * 579069776145402304 + Y * 1002978273411373057) * M < (U * 579069776145402304 + V * 1002978273411373057) * L := by
  obtain ⟨s1, s2, s3, s4⟩ := tB_s h k
  rw [(sgn_lin s1 s2 s3 s4).2.2]
  have e : (X * M - U * L) * 579069776145402304 + (Y * M - V * L) * 1002978273411373057 = (X * 579069776145402304 + Y * 1002978273411373057) * M - (U * 579069776145402304 + V * 1002978273411373057) * L := by grind
  rw [e]
  omega
theorem fr_tr {A B C a b c : Int} (ha : 0 < a) (hb : 0 < b) (hc : 0 < c) (h1 : A * b ≤ B * a) (h2 : B * c ≤ C * b) : A * c ≤ C * a := by
  have h3 : A * b * c ≤ B * a * c := Int.mul_le_mul_of_nonneg_right h1 (Int.le_of_lt hc)
  have h4 : B * c * a ≤ C * b * a := Int.mul_le_mul_of_nonneg_right h2 (Int.le_of_lt ha)
  refine Int.le_of_mul_le_mul_left (a := b) ?_ hb
  have e1 : b * (A * c) = A * b * c := by grind
  have e2 : B * a * c = B * c * a := by grind
  have e3 : b * (C * a) = C * b * a := by grind
  omega
abbrev vA (X Y : Nat → Int) (k : Nat) : Int := X k * 579069776145402304 + Y k * 1002978273411373057
theorem lmn_min {c : Nat → Bool} {X Y L : Nat → Int} (hB : ∀ k, c k = true → tB (X k) (Y k) (L k)) : ∀ n r, r < n → c r = true → ∃ b, lmn c X Y L n = some b ∧ c b = true ∧ vA X Y b * L r ≤ vA X Y r * L b := by
  intro n
  induction n with
  | zero => intro r hr; omega
  | succ n ih =>
    intro r hr hcr
    have hLp : ∀ k, c k = true → 0 < L k := fun k hk => (hB k hk).2.2.2.2.1
    by_cases hcn : c n = true
    · rw [lmn_y hcn]
      by_cases hrn : r = n
      · subst hrn
        cases ho : lmn c X Y L r with
        | none => exact ⟨r, rfl, hcr, Int.le_refl _⟩
        | some b =>
          have hcb := (lmn_in c X Y L r b ho).2
          have key := tB_lt (hB r hcr) (hB b hcb)
          by_cases hs : sgn (X r * L b - X b * L r) (Y r * L b - Y b * L r) < 0
          · exact ⟨r, if_pos hs, hcr, Int.le_refl _⟩
          · refine ⟨b, if_neg hs, hcb, ?_⟩
            rw [key] at hs
            exact Int.not_lt.mp hs
      · obtain ⟨b, hb1, hcb, hb2⟩ := ih r (by omega) hcr
        rw [hb1]
        have key := tB_lt (hB n hcn) (hB b hcb)
        by_cases hs : sgn (X n * L b - X b * L n) (Y n * L b - Y b * L n) < 0
        · refine ⟨n, if_pos hs, hcn, ?_⟩
          rw [key] at hs
          exact fr_tr (A := vA X Y n) (B := vA X Y b) (C := vA X Y r) (hLp n hcn) (hLp b hcb) (hLp r hcr) (Int.le_of_lt hs) hb2
        · exact ⟨b, if_neg hs, hcb, hb2⟩
    · rw [lmn_n hcn]
      have hrn : r ≠ n := fun e => hcn (e ▸ hcr)
      exact ih r (by omega) hcr
theorem lmn_rep {c d : Nat → Bool} {X Y L : Nat → Int} (hB : ∀ k, c k = true → tB (X k) (Y k) (L k)) (hd : ∀ k, d k = true → c k = true) (hr : ∀ k, c k = true → ¬ d k = true → ∃ r, r < k ∧ c r = true ∧ X r = X k ∧ Y r = Y k ∧ L r = L k) : ∀ n, lmn c X Y L n = lmn d X Y L n := by
  intro n
  induction n with
  | zero => rfl
  | succ n ih =>
    by_cases hcn : c n = true
    · by_cases hdn : d n = true
      · rw [lmn_y hcn, lmn_y hdn, ih]
      · rw [lmn_y hcn, lmn_n hdn, ← ih]
        obtain ⟨r, hrn, hcr, e1, e2, e3⟩ := hr n hcn hdn
        obtain ⟨b, hb1, hcb, hb2⟩ := lmn_min hB n r hrn hcr
        rw [hb1]
        have key := tB_lt (hB n hcn) (hB b hcb)
        refine if_neg (fun hs => ?_)
        rw [key, ← e1, ← e2, ← e3] at hs
        have h2 : vA X Y b * L r ≤ vA X Y r * L b := hb2
        unfold vA at h2
        omega
    · have hdn : ¬ d n = true := fun e => hcn (hd n e)
      rw [lmn_n hcn, lmn_n hdn, ih]
