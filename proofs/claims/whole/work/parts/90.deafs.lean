/-! deaf directions as bits; taken out -/
theorem cI_or (a b : Nat) : cI a ||| cI b = cI (a ||| b) := by
  apply Int32.toBitVec_inj.mp
  rw [Int32.toBitVec_or]
  show BitVec.ofNat 32 a ||| BitVec.ofNat 32 b = BitVec.ofNat 32 (a ||| b)
  exact (BitVec.ofNat_or ..).symm
theorem sh12 : ∀ d : Nat, d < 12 → ((1 : Int32) <<< (cI d &&& 31)) = cI (2 ^ d) := by decide +kernel
def db (ds : List Nat) : Nat := ds.foldl (fun b d => b ||| 2 ^ d) 0
theorem fold_bit (k : Nat) : ∀ (ds : List Nat) (b : Nat), (ds.foldl (fun b d => b ||| 2 ^ d) b).testBit k = (b.testBit k || decide (k ∈ ds)) := by
  intro ds
  induction ds with
  | nil => intro b; simp
  | cons d ds ih =>
    intro b
    rw [List.foldl_cons, ih, Nat.testBit_or, Nat.testBit_two_pow]
    by_cases h : d = k
    · subst h; simp
    · have h2 : ¬ k = d := fun e => h e.symm
      simp [h, h2]
theorem db_bit (ds : List Nat) (k : Nat) : (db ds).testBit k = decide (k ∈ ds) := by
  unfold db; rw [fold_bit]; simp
theorem fold_lt : ∀ (ds : List Nat) (b : Nat), b < 2 ^ 12 → (∀ d ∈ ds, d < 12) → (ds.foldl (fun b d => b ||| 2 ^ d) b) < 2 ^ 12 := by
  intro ds
  induction ds with
  | nil => intro b hb _; exact hb
  | cons d ds ih =>
    intro b hb h
    rw [List.foldl_cons]
    exact ih _ (Nat.or_lt_two_pow hb (Nat.pow_lt_pow_right (by decide) (h d (List.mem_cons_self ..)))) (fun e he => h e (List.mem_cons_of_mem _ he))
theorem db_lt {ds : List Nat} (h : ∀ d ∈ ds, d < 12) : db ds < 4096 := fold_lt ds 0 (by decide) h
theorem tb12k : ∀ a : Nat, a < 64 → ∀ b : Nat, b < 64 → ∀ j : Nat, j < 12 → ((cI (64 * a + b) >>> (cI j &&& 31)) &&& (1 : Int32)) = if (64 * a + b).testBit j then 1 else 0 := by decide +kernel
theorem tb12 {s : Nat} (hs : s < 4096) {j : Nat} (hj : j < 12) : ((cI s >>> (cI j &&& 31)) &&& (1 : Int32)) = if s.testBit j then 1 else 0 := by
  have := tb12k (s / 64) (by omega) (s % 64) (by omega) j hj
  rw [show 64 * (s / 64) + s % 64 = s by omega] at this
  exact this
