/-! what a function gives: rules -/
def Ok {α : Type} (x : Option α) (P : α → Prop) : Prop := ∃ r, x = some r ∧ P r
theorem ok_some {α : Type} {r : α} {P : α → Prop} (h : P r) : Ok (some r) P := ⟨r, rfl, h⟩
theorem ok_eq {α : Type} {x : Option α} {r : α} {P : α → Prop} (e : x = some r) (h : P r) : Ok x P := ⟨r, e, h⟩
theorem ok_bind {α β : Type} {x : Option α} {f : α → Option β} {P : β → Prop} (h : Ok x (fun r => Ok (f r) P)) : Ok (x.bind f) P := by
  obtain ⟨r, e, q, e2, h⟩ := h
  exact ⟨q, by rw [e]; exact e2, h⟩
theorem ok_bindm {α β : Type} {x : Option α} {f : α → Option β} {Q : α → Prop} {P : β → Prop} (h : Ok x Q) (k : ∀ r, Q r → Ok (f r) P) : Ok (x.bind f) P := by
  obtain ⟨r, e, hq⟩ := h
  obtain ⟨q, e2, h⟩ := k r hq
  exact ⟨q, by rw [e]; exact e2, h⟩
theorem ok_binde {α β : Type} {x : Option α} {f : α → Option β} {r : α} {P : β → Prop} (e : x = some r) (k : Ok (f r) P) : Ok (x.bind f) P := by
  rw [e]; exact k
theorem ok_bd {α β : Type} {v : α} {f : α → Option β} {P : β → Prop} (h : Ok (f v) P) : Ok (bd v f) P := h
theorem ok_mono {α : Type} {x : Option α} {P Q : α → Prop} (h : Ok x P) (k : ∀ r, P r → Q r) : Ok x Q := by
  obtain ⟨r, e, hp⟩ := h
  exact ⟨r, e, k r hp⟩
theorem ok_if {α : Type} {c : Prop} [Decidable c] {a b : Option α} {P : α → Prop} (h1 : c → Ok a P) (h2 : ¬ c → Ok b P) : Ok (if c then a else b) P := by
  by_cases h : c
  · rw [if_pos h]; exact h1 h
  · rw [if_neg h]; exact h2 h
theorem ok_pos {α : Type} {c : Prop} [Decidable c] {a b : Option α} {P : α → Prop} (h : c) (k : Ok a P) : Ok (if c then a else b) P := by rw [if_pos h]; exact k
theorem ok_neg {α : Type} {c : Prop} [Decidable c] {a b : Option α} {P : α → Prop} (h : ¬ c) (k : Ok b P) : Ok (if c then a else b) P := by rw [if_neg h]; exact k
/-- a loop, by the number of its rounds -/
theorem ok_lp {S R : Type} {body : S → Option (S ⊕ R)} {P : R → Prop} (I : Nat → S → Prop) (N : Nat) : ∀ (n k : Nat) (s : S), N < n + k → k ≤ N → I k s → (∀ k s, k ≤ N → I k s → Ok (body s) (fun r => Sum.elim (fun s2 => k < N ∧ I (k + 1) s2) P r)) → Ok (lp body n s) P := by
  intro n
  induction n with
  | zero => intro k s hn hk; omega
  | succ n ih =>
    intro k s hn hk hI hs
    obtain ⟨r, e, h⟩ := hs k s hk hI
    unfold lp
    rw [e]
    cases r with
    | inl s2 => exact ih (k + 1) s2 (by omega) (by have := h.1; omega) h.2 hs
    | inr q => exact ⟨q, rfl, h⟩
abbrev cI (n : Nat) : Int32 := Int32.ofNat n
/-- a loop that counts from 0 to N: the counter first -/
theorem ok_for {S R : Type} {body : Int32 × S → Option ((Int32 × S) ⊕ R)} {P : R → Prop} {s : S} (N : Nat) (hN : N < 5000) (I : Nat → S → Prop) (h0 : I 0 s) (hs : ∀ k s, k < N → I k s → Ok (body (cI k, s)) (fun r => Sum.elim (fun s2 => s2.1 = cI (k + 1) ∧ I (k + 1) s2.2) P r)) (he : ∀ s, I N s → Ok (body (cI N, s)) (fun r => Sum.elim (fun _ => False) P r)) : Ok (lp body 5000 ((0 : Int32), s)) P := by
  refine ok_lp (fun k q => q.1 = cI k ∧ I k q.2) N 5000 0 _ (by omega) (Nat.zero_le _) ⟨rfl, h0⟩ ?_
  rintro k ⟨c, q⟩ hk ⟨hc, hI⟩
  simp only at hc
  subst hc
  rcases Nat.lt_or_eq_of_le hk with h | h
  · refine ok_mono (hs k q h hI) (fun r hr => ?_)
    cases r with
    | inl s2 => exact ⟨h, hr⟩
    | inr _ => exact hr
  · subst h
    refine ok_mono (he q hI) (fun r hr => ?_)
    cases r with
    | inl s2 => exact hr.elim
    | inr _ => exact hr
theorem cI_add (a b : Nat) : cI a + cI b = cI (a + b) := (Int32.ofNat_add a b).symm
theorem cI_mul (a b : Nat) : cI a * cI b = cI (a * b) := (Int32.ofNat_mul a b).symm
theorem cI_sub {a b : Nat} (h : b ≤ a) : cI a - cI b = cI (a - b) := (Int32.ofNat_sub a b h).symm
theorem cI_toInt {a : Nat} (h : a < 2 ^ 31) : (cI a).toInt = a := Int32.toInt_ofNat_of_lt h
theorem cI_nat {a : Nat} (h : a < 2 ^ 31) : (cI a).toNatClampNeg = a := Int32.toNatClampNeg_ofNat_of_lt h
theorem cI_le {a b : Nat} (ha : a < 2 ^ 31) (hb : b < 2 ^ 31) : cI a ≤ cI b ↔ a ≤ b := by
  rw [Int32.le_iff_toInt_le, cI_toInt ha, cI_toInt hb]; omega
theorem cI_lt {a b : Nat} (ha : a < 2 ^ 31) (hb : b < 2 ^ 31) : cI a < cI b ↔ a < b := by
  rw [Int32.lt_iff_toInt_lt, cI_toInt ha, cI_toInt hb]; omega
theorem cI_inj {a b : Nat} (ha : a < 2 ^ 31) (hb : b < 2 ^ 31) : cI a = cI b ↔ a = b := by
  rw [← Int32.toInt_inj, cI_toInt ha, cI_toInt hb]; omega
theorem cI_nn {a : Nat} (ha : a < 2 ^ 31) : (0 : Int32) ≤ cI a := (cI_le (by decide) ha).mpr (Nat.zero_le _)
theorem le_no {a b : Nat} (h : b < a) (ha : a < 2 ^ 31) : ¬ cI a ≤ cI b := fun k => by rw [cI_le ha (by omega)] at k; omega
theorem le_yes {a b : Nat} (h : a ≤ b) (hb : b < 2 ^ 31) : cI a ≤ cI b := (cI_le (by omega) hb).mpr h
theorem lt_no {a b : Nat} (h : b ≤ a) (ha : a < 2 ^ 31) : ¬ cI a < cI b := fun k => by rw [cI_lt ha (by omega)] at k; omega
theorem lt_yes {a b : Nat} (h : a < b) (hb : b < 2 ^ 31) : cI a < cI b := (cI_lt (by omega) hb).mpr h
theorem ne_no {a b : Nat} (h : a ≠ b) (ha : a < 2 ^ 31) (hb : b < 2 ^ 31) : ¬ cI a = cI b := fun k => h ((cI_inj ha hb).mp k)
theorem nn_no {a : Nat} (ha : a < 2 ^ 31) : ¬ cI a < (0 : Int32) := lt_no (b := 0) (Nat.zero_le _) ha
theorem inb_cI {a n : Nat} (h : a < n) (hn : n < 2 ^ 31) : inb (cI a) n := ⟨cI_nn (by omega), by rw [cI_nat (by omega)]; exact h⟩
theorem inb_to {x : Int32} {n : Nat} (h : inb x n) : x = cI x.toNatClampNeg := by
  have h1 : 0 ≤ x.toInt := by have := Int32.le_iff_toInt_le.mp h.1; simpa using this
  rw [← Int32.toInt_inj, cI_toInt x.toNatClampNeg_lt]
  exact (Int32.toInt_eq_toNatClampNeg (by simpa using h.1) : _)
