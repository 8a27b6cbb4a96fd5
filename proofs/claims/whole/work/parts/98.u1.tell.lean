/-! telling: digits -/
theorem ok_lpO {S R : Type} {body : S → Option (S ⊕ R)} {n : Nat} {s : S} {P : R → Prop} (h : Ok (body s) (fun r => Sum.elim (fun s2 => Ok (lp body n s2) P) P r)) : Ok (lp body (n + 1) s) P := by
  obtain ⟨r, e, h2⟩ := h
  exact ok_lpS e h2
/-- the class's out -/
def OB (g : M2) (l : List Nat) : Prop := g.1 153 1 = cI l.length ∧ ∀ i, i < l.length → g.1 154 i = cI (l.getD i 0)
def FO (g r : M2) : Prop := (∀ y, y ≠ 153 → y ≠ 154 → r.1 y = g.1 y) ∧ r.2 = g.2
theorem FO_rf (g : M2) : FO g g := ⟨fun _ _ _ => rfl, rfl⟩
theorem FO_tr {g r z : M2} (h : FO g r) (k : FO r z) : FO g z := ⟨fun y a b => (k.1 y a b).trans (h.1 y a b), k.2.trans h.2⟩
/-- the reference's out -/
def MB (g : M2) (l : List Nat) : Prop := g.1 157 38 = cI l.length ∧ ∀ i, i < l.length → g.1 171 i = cI (l.getD i 0)
def FQ (g r : M2) : Prop := (∀ y, y ≠ 157 → y ≠ 171 → r.1 y = g.1 y) ∧ (∀ j, j ≠ 38 → r.1 157 j = g.1 157 j) ∧ r.2 = g.2
theorem FQ_rf (g : M2) : FQ g g := ⟨fun _ _ _ => rfl, fun _ _ => rfl, rfl⟩
theorem FQ_tr {g r z : M2} (h : FQ g r) (k : FQ r z) : FQ g z := ⟨fun y a b => (k.1 y a b).trans (h.1 y a b), fun j a => (k.2.1 j a).trans (h.2.1 j a), k.2.2.trans h.2.2⟩
theorem gd_app (l : List Nat) (c i : Nat) : (l ++ [c]).getD i 0 = if i = l.length then c else if i < l.length then l.getD i 0 else 0 := by
  rw [List.getD_eq_getElem?_getD]
  by_cases h : i = l.length
  · rw [if_pos h, h, List.getElem?_append_right (Nat.le_refl _), Nat.sub_self]; rfl
  · rw [if_neg h]
    by_cases h2 : i < l.length
    · rw [if_pos h2, List.getElem?_append_left h2, ← List.getD_eq_getElem?_getD]
    · rw [if_neg h2, List.getElem?_eq_none (by rw [List.length_append]; simp; omega)]; rfl
theorem ou_write {g : M2} {l : List Nat} (h : OB g l) (hl : l.length < 160) (c : Nat) : Ok (f_Ou_write (cI c) g) (fun r => OB r (l ++ [c]) ∧ FO g r) := by
  unfold f_Ou_write
  rw [h.1]
  refine ok_neg (le_no (a := 160) hl (by decide)) (ok_pos (inb_cI hl (by decide)) (ok_bd (ok_bd (ok_some ?_))))
  rw [cI_nat (by omega), uI_o _ _ _ (show 153 ≠ 154 by decide), h.1, c_succ]
  refine ⟨⟨by rw [uI_s, List.length_append]; rfl, fun i hi => ?_⟩, fun y a b => by rw [uI_o _ _ _ a, uI_o _ _ _ b], rfl⟩
  have hi2 : i < l.length + 1 := by rw [List.length_append] at hi; simpa using hi
  rw [uI_o _ _ _ (by decide), gd_app]
  by_cases hil : i = l.length
  · rw [if_pos hil, hil, uI_s]
  · rw [if_neg hil, if_pos (by omega), uI_k _ _ _ hil]; exact h.2 i (by omega)
theorem byte_k : ∀ c : Nat, c < 128 → (cI c).toInt8.toInt32.toInt8.toInt32 = cI c := by decide +kernel
theorem mo_tells {g : M2} {l : List Nat} (h : MB g l) (hl : l.length < 160) {c : Nat} (hc : c < 128) : Ok (f_Mo_tells (cI c) g) (fun r => MB r (l ++ [c]) ∧ FQ g r) := by
  unfold f_Mo_tells
  rw [h.1, byte_k c hc]
  refine ok_pos (inb_cI (by omega) (by decide)) (ok_bd (ok_bd (ok_some ?_)))
  rw [cI_nat (by omega), uI_o _ _ _ (show 157 ≠ 171 by decide), h.1, c_succ]
  refine ⟨⟨by rw [uI_s, List.length_append]; rfl, fun i hi => ?_⟩, fun y a b => by rw [uI_o _ _ _ a, uI_o _ _ _ b], fun j a => by rw [uI_k _ _ _ a, uI_o _ _ _ (by decide)], rfl⟩
  have hi2 : i < l.length + 1 := by rw [List.length_append] at hi; simpa using hi
  rw [uI_o _ _ _ (by decide), gd_app]
  by_cases hil : i = l.length
  · rw [if_pos hil, hil, uI_s]
  · rw [if_neg hil, if_pos (by omega), uI_k _ _ _ hil]; exact h.2 i (by omega)
/-- digits from the k-th on -/
def dgl (N : Nat) : Nat → List Nat
  | 0 => [48 + N % 10]
  | k + 1 => (48 + N / 10 ^ (k + 1) % 10) :: dgl N k
theorem dgl_len (N : Nat) : ∀ k, (dgl N k).length = k + 1 := by
  intro k
  induction k with
  | zero => rfl
  | succ k ih => show (dgl N k).length + 1 = _; rw [ih]
theorem dgl_lt (N : Nat) : ∀ k, ∀ d ∈ dgl N k, d < 128 := by
  intro k
  induction k with
  | zero =>
    intro d hd
    have : d = 48 + N % 10 := List.mem_singleton.mp hd
    omega
  | succ k ih =>
    intro d hd
    rcases List.mem_cons.mp hd with h | h
    · have := Nat.mod_lt (N / 10 ^ (k + 1)) (show 0 < 10 by decide); omega
    · exact ih d h
def pk (N : Nat) : Nat := if N < 10 then 0 else if N < 100 then 1 else if N < 1000 then 2 else if N < 10000 then 3 else if N < 100000 then 4 else if N < 1000000 then 5 else if N < 10000000 then 6 else 7
theorem pk_p {N : Nat} (h : N < 100000000) : pk N ≤ 7 ∧ N < 10 ^ (pk N + 1) ∧ (pk N = 0 ∨ 10 ^ pk N ≤ N) := by
  unfold pk
  repeat' split
  all_goals (refine ⟨by omega, ?_, ?_⟩ <;> simp <;> omega)
theorem pk_lo {N : Nat} (h : N < 100000000) {j : Nat} (hj : j < pk N) : 10 ^ (j + 1) ≤ N := by
  obtain ⟨_, _, h3⟩ := pk_p h
  rcases h3 with e | e
  · omega
  · exact Nat.le_trans (Nat.pow_le_pow_right (by decide) (by omega)) e
theorem p10_b {k : Nat} (hk : k ≤ 7) : 1 ≤ 10 ^ k ∧ 10 ^ k ≤ 10000000 := ⟨Nat.pos_of_ne_zero (by simp), Nat.le_trans (Nat.pow_le_pow_right (by decide) hk) (by decide)⟩
theorem nJ_div {a b : Nat} (ha : a ≤ 2 ^ 62) (hb : b ≤ 2 ^ 62) : nJ a / nJ b = nJ (a / b) := by
  show Int64.ofInt (a : Int) / Int64.ofInt (b : Int) = Int64.ofInt ((a / b : Nat) : Int)
  rw [div64 (by omega) (by omega) (by omega) (by omega)]; rfl
theorem nJ_lt {a b : Nat} (ha : a ≤ 2 ^ 62) (hb : b ≤ 2 ^ 62) : nJ a < nJ b ↔ a < b := by
  show Int64.ofInt (a : Int) < Int64.ofInt (b : Int) ↔ _
  rw [lt64 (by omega) (by omega) (by omega) (by omega)]; omega
theorem nJ_le {a b : Nat} (ha : a ≤ 2 ^ 62) (hb : b ≤ 2 ^ 62) : nJ a ≤ nJ b ↔ a ≤ b := by
  show Int64.ofInt (a : Int) ≤ Int64.ofInt (b : Int) ↔ _
  rw [le64 (by omega) (by omega) (by omega) (by omega)]; omega
theorem dig_k : ∀ d : Nat, d < 10 → ((48 : Int64) + nJ d).toInt32 = cI (48 + d) ∧ (48 : Int32) + (nJ d).toInt32 = cI (48 + d) := by decide +kernel
theorem nJ_m (a b : Nat) : nJ a * nJ b = nJ (a * b) := by
  show Int64.ofInt (a : Int) * Int64.ofInt (b : Int) = Int64.ofInt ((a * b : Nat) : Int)
  rw [← Int64.ofInt_mul]; rfl
theorem ou_digits {N : Nat} (hN : N < 100000000) : ∀ (k n i : Nat) (g : M2) (l : List Nat), k ≤ 7 → OB g l → l.length + k + 1 ≤ 160 → i + k + 1 < 19 → k + 2 ≤ n → Ok (lp (fun s => b_Ou_writeNumber_21 (nJ N) s.1 s.2.1 s.2.2) n (nJ (10 ^ k), cI i, g)) (fun r => OB r (l ++ dgl N k) ∧ FO g r) := by
  intro k
  induction k with
  | zero =>
    intro n i g l hk hO hl hi hn
    obtain ⟨m, rfl⟩ : ∃ m, n = m + 1 + 1 := ⟨n - 2, by omega⟩
    refine ok_lpO ?_
    show Ok (b_Ou_writeNumber_21 (nJ N) (nJ 1) (cI i) g) _
    unfold b_Ou_writeNumber_21
    rw [nJ_div (by omega) (by decide), Nat.div_one, show (10 : Int64) = nJ 10 from rfl, rem64 (by omega) (by decide), (dig_k (N % 10) (Nat.mod_lt _ (by decide))).1]
    refine ok_neg (le_no (a := 19) (by omega) (by decide)) (ok_neg (by decide) (ok_neg (by decide) (ok_bindm (ou_write hO (by omega) _) (fun r hr => ok_some ?_))))
    show Ok (lp _ (m + 1) (nJ 1 / nJ 10, cI i + 1, r)) _
    refine ok_lpO ?_
    show Ok (b_Ou_writeNumber_21 (nJ N) (nJ 1 / nJ 10) (cI i + 1) r) _
    unfold b_Ou_writeNumber_21
    rw [c_succ]
    exact ok_neg (le_no (a := 19) (by omega) (by decide)) (ok_pos (by decide) (ok_some hr))
  | succ k ih =>
    intro n i g l hk hO hl hi hn
    obtain ⟨m, rfl⟩ : ∃ m, n = m + 1 := ⟨n - 1, by omega⟩
    obtain ⟨b1, b2⟩ := p10_b hk
    refine ok_lpO ?_
    show Ok (b_Ou_writeNumber_21 (nJ N) (nJ (10 ^ (k + 1))) (cI i) g) _
    unfold b_Ou_writeNumber_21
    have hd := Nat.div_le_self N (10 ^ (k + 1))
    rw [nJ_div (by omega) (by omega), show (10 : Int64) = nJ 10 from rfl, rem64 (by omega) (by decide), (dig_k (N / 10 ^ (k + 1) % 10) (Nat.mod_lt _ (by decide))).1, nJ_div (by omega) (by decide)]
    have hp : ¬ nJ (10 ^ (k + 1)) ≤ nJ 0 := fun e => by rw [nJ_le (by omega) (by decide)] at e; omega
    have hp0 : ¬ nJ (10 ^ (k + 1)) = 0 := fun e => by rw [nJ_0 (by omega)] at e; omega
    refine ok_neg (le_no (a := 19) (by omega) (by decide)) (ok_neg hp (ok_neg hp0 (ok_bindm (ou_write hO (by omega) _) (fun r hr => ok_some ?_))))
    show Ok (lp _ m (nJ (10 ^ (k + 1) / 10), cI i + 1, r)) _
    rw [c_succ, show 10 ^ (k + 1) / 10 = 10 ^ k by rw [Nat.pow_succ]; exact Nat.mul_div_cancel _ (by decide)]
    refine ok_mono (ih m (i + 1) r (l ++ [48 + N / 10 ^ (k + 1) % 10]) (by omega) hr.1 (by rw [List.length_append]; simp; omega) (by omega) (by omega)) (fun z hz => ⟨?_, FO_tr hr.2 hz.2⟩)
    have e : l ++ dgl N (k + 1) = l ++ [48 + N / 10 ^ (k + 1) % 10] ++ dgl N k := by rw [List.append_assoc]; rfl
    rw [e]; exact hz.1
abbrev dgN (N : Nat) : List Nat := dgl N (pk N)
theorem ou_num {N : Nat} (hN : N < 100000000) {g : M2} {l : List Nat} (hO : OB g l) (hl : l.length + 8 ≤ 160) : Ok (f_Ou_writeNumber (nJ N) g) (fun r => OB r (l ++ dgN N) ∧ FO g r) := by
  obtain ⟨p1, p2, p3⟩ := pk_p hN
  unfold f_Ou_writeNumber
  refine ok_bindm (Q := fun e => e = nJ (10 ^ pk N)) ?_ (fun e he => ?_)
  · refine ok_ct (fun j => (nJ (10 ^ j), cI j)) (pk N) (by omega) rfl (fun j hj => ?_) ?_
    · show Ok (b_Ou_writeNumber_4 (nJ N) (nJ (10 ^ j)) (cI j) g) _
      unfold b_Ou_writeNumber_4
      obtain ⟨b1, b2⟩ := p10_b (show j ≤ 7 by omega)
      have hlo := pk_lo hN hj
      have hd : 10 ^ j ≤ N / 10 := by rw [Nat.le_div_iff_mul_le (by decide)]; rw [Nat.pow_succ] at hlo; exact hlo
      rw [show (10 : Int64) = nJ 10 from rfl, nJ_div (by omega) (by decide), nJ_m]
      refine ok_neg (le_no (a := 18) (by omega) (by decide)) (ok_neg (fun e => by rw [nJ_lt (by omega) (by omega)] at e; omega) (ok_some ?_))
      show _ = (nJ (10 ^ (j + 1)), cI (j + 1))
      rw [c_succ, Nat.pow_succ]
    · show Ok (b_Ou_writeNumber_4 (nJ N) (nJ (10 ^ pk N)) (cI (pk N)) g) _
      unfold b_Ou_writeNumber_4
      obtain ⟨b1, b2⟩ := p10_b p1
      have hd : N / 10 < 10 ^ pk N := by rw [Nat.div_lt_iff_lt_mul (by decide)]; rw [Nat.pow_succ] at p2; exact p2
      rw [show (10 : Int64) = nJ 10 from rfl, nJ_div (by omega) (by decide)]
      exact ok_neg (le_no (a := 18) (by omega) (by decide)) (ok_pos ((nJ_lt (by omega) (by omega)).mpr hd) (ok_some rfl))
  · subst he
    unfold j_Ou_writeNumber_19
    exact ok_bindm (ou_digits hN (pk N) 5000 0 g l p1 hO (by omega) (by omega) (by omega)) (fun r hr => ok_some hr)
theorem mo_digits {N : Nat} (hN : N < 100000000) : ∀ (k n : Nat) (g : M2) (l : List Nat), k ≤ 7 → MB g l → l.length + k + 1 ≤ 160 → k + 2 ≤ n → Ok (lp (fun s => b_Mo_tellsNumber_13 (nJ N) s.1 s.2) n (nJ (10 ^ k), g)) (fun r => MB r (l ++ dgl N k) ∧ FQ g r) := by
  intro k
  induction k with
  | zero =>
    intro n g l hk hO hl hn
    obtain ⟨m, rfl⟩ : ∃ m, n = m + 1 + 1 := ⟨n - 2, by omega⟩
    refine ok_lpO ?_
    show Ok (b_Mo_tellsNumber_13 (nJ N) (nJ 1) g) _
    unfold b_Mo_tellsNumber_13
    have hm := Nat.mod_lt N (show 0 < 10 by decide)
    rw [nJ_div (by omega) (by decide), Nat.div_one, show (10 : Int64) = nJ 10 from rfl, rem64 (by omega) (by decide), (dig_k (N % 10) hm).2]
    refine ok_neg (by decide) (ok_neg (by decide) (ok_bindm (mo_tells hO (by omega) (by omega)) (fun r hr => ok_some ?_)))
    show Ok (lp _ (m + 1) (nJ 1 / nJ 10, r)) _
    refine ok_lpO ?_
    show Ok (b_Mo_tellsNumber_13 (nJ N) (nJ 1 / nJ 10) r) _
    unfold b_Mo_tellsNumber_13
    exact ok_pos (by decide) (ok_some hr)
  | succ k ih =>
    intro n g l hk hO hl hn
    obtain ⟨m, rfl⟩ : ∃ m, n = m + 1 := ⟨n - 1, by omega⟩
    obtain ⟨b1, b2⟩ := p10_b hk
    refine ok_lpO ?_
    show Ok (b_Mo_tellsNumber_13 (nJ N) (nJ (10 ^ (k + 1))) g) _
    unfold b_Mo_tellsNumber_13
    have hd := Nat.div_le_self N (10 ^ (k + 1))
    have hm := Nat.mod_lt (N / 10 ^ (k + 1)) (show 0 < 10 by decide)
    rw [nJ_div (by omega) (by omega), show (10 : Int64) = nJ 10 from rfl, rem64 (by omega) (by decide), (dig_k (N / 10 ^ (k + 1) % 10) hm).2, nJ_div (by omega) (by decide)]
    have hp : ¬ nJ (10 ^ (k + 1)) ≤ nJ 0 := fun e => by rw [nJ_le (by omega) (by decide)] at e; omega
    have hp0 : ¬ nJ (10 ^ (k + 1)) = 0 := fun e => by rw [nJ_0 (by omega)] at e; omega
    refine ok_neg hp (ok_neg hp0 (ok_bindm (mo_tells hO (by omega) (by omega)) (fun r hr => ok_some ?_)))
    show Ok (lp _ m (nJ (10 ^ (k + 1) / 10), r)) _
    rw [show 10 ^ (k + 1) / 10 = 10 ^ k by rw [Nat.pow_succ]; exact Nat.mul_div_cancel _ (by decide)]
    refine ok_mono (ih m r (l ++ [48 + N / 10 ^ (k + 1) % 10]) (by omega) hr.1 (by rw [List.length_append]; simp; omega) (by omega)) (fun z hz => ⟨?_, FQ_tr hr.2 hz.2⟩)
    have e : l ++ dgl N (k + 1) = l ++ [48 + N / 10 ^ (k + 1) % 10] ++ dgl N k := by rw [List.append_assoc]; rfl
    rw [e]; exact hz.1
theorem mo_num {N : Nat} (hN : N < 100000000) {g : M2} {l : List Nat} (hO : MB g l) (hl : l.length + 8 ≤ 160) : Ok (f_Mo_tellsNumber (nJ N) g) (fun r => MB r (l ++ dgN N) ∧ FQ g r) := by
  obtain ⟨p1, p2, p3⟩ := pk_p hN
  unfold f_Mo_tellsNumber
  refine ok_bindm (Q := fun e => e = nJ (10 ^ pk N)) ?_ (fun e he => ?_)
  · refine ok_ct (fun j => nJ (10 ^ j)) (pk N) (by omega) rfl (fun j hj => ?_) ?_
    · show Ok (b_Mo_tellsNumber_2 (nJ N) (nJ (10 ^ j)) g) _
      unfold b_Mo_tellsNumber_2
      obtain ⟨b1, b2⟩ := p10_b (show j ≤ 7 by omega)
      have hlo := pk_lo hN hj
      have hle := Nat.div_le_self N (10 ^ j)
      have hd : 10 ≤ N / 10 ^ j := by rw [Nat.le_div_iff_mul_le (by omega), Nat.mul_comm]; rw [Nat.pow_succ] at hlo; exact hlo
      rw [show (10 : Int64) = nJ 10 from rfl, nJ_div (by omega) (by omega), nJ_m]
      refine ok_neg (fun e => by rw [nJ_0 (by omega)] at e; omega) (ok_neg (fun e => by rw [nJ_lt (by omega) (by decide)] at e; omega) (ok_some ?_))
      show _ = nJ (10 ^ (j + 1))
      rw [Nat.pow_succ]
    · show Ok (b_Mo_tellsNumber_2 (nJ N) (nJ (10 ^ pk N)) g) _
      unfold b_Mo_tellsNumber_2
      obtain ⟨b1, b2⟩ := p10_b p1
      have hle := Nat.div_le_self N (10 ^ pk N)
      have hd : N / 10 ^ pk N < 10 := by rw [Nat.div_lt_iff_lt_mul (by omega), Nat.mul_comm]; rw [Nat.pow_succ] at p2; exact p2
      rw [show (10 : Int64) = nJ 10 from rfl, nJ_div (by omega) (by omega)]
      exact ok_neg (fun e => by rw [nJ_0 (by omega)] at e; omega) (ok_pos ((nJ_lt (by omega) (by decide)).mpr hd) (ok_some rfl))
  · subst he
    exact ok_bindm (mo_digits hN (pk N) 5000 g l p1 hO (by omega) (by omega)) (fun r hr => ok_some hr)
