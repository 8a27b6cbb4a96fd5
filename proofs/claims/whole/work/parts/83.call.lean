/-! one call on both sides -/
def Cs {A : Type} (F : M2 → Option (A × M2)) (q : Sg) (v : A) (q2 : Sg) : Prop := ∀ g, IC g q → Ok (F g) (fun p => p.1 = v ∧ IC p.2 q2 ∧ KC g p.2)
def Ms {A : Type} (F : M2 → Option (A × M2)) (q : Sg) (v : A) (q2 : Sg) : Prop := ∀ g, IM g q → Ok (F g) (fun p => p.1 = v ∧ IM p.2 q2 ∧ KM g p.2)
def Pr {A : Type} (F G : M2 → Option (A × M2)) (q : Sg) : Prop := ∃ v q2, WF q2 ∧ Cs F q v q2 ∧ Ms G q v q2
abbrev Lo3 : Type := (Int32 × M2) ⊕ (M2 ⊕ (Int32 × M2))
def Lp (v3 : Int32) (g : M2) (r : Lo3) : Prop := ∃ z, r = .inl (v3 + 6, z) ∧ (∃ q, WF q ∧ IC z q ∧ IM z q) ∧ z.1 1001 = g.1 1001
theorem lw {A : Type} [DecidableEq A] {F G : M2 → Option (A × M2)} {q : Sg} {g : M2} {v3 : Int32} {K : (A × M2) → Option Lo3} (h : Pr F G q) (hC : IC g q) (hM : IM g q) (hK : ∀ a : A × M2, a.2.1 1001 = g.1 1001 → K a = ((G a.2).bind fun b => (if a.1 = b.1 then some (.inl ((v3 + (6 : Int32)), b.2)) else some (.inr (.inr ((0 : Int32), b.2)))))) : Ok ((F g).bind K) (Lp v3 g) := by
  obtain ⟨v, q2, h0, h1, h2⟩ := h
  refine ok_bindm (h1 g hC) (fun a ha => ?_)
  obtain ⟨a1, a2, a3⟩ := ha
  rw [hK a (a3 1001 (by decide)).1]
  refine ok_bindm (h2 a.2 (IM_k hM a3)) (fun b hb => ?_)
  obtain ⟨b1, b2, b3⟩ := hb
  refine ok_pos (a1.trans b1.symm) (ok_some ⟨b.2, rfl, ⟨q2, h0, IC_k h0 a2 (fun y hy => b3 y (Or.inl hy)), b2⟩, ?_⟩)
  rw [(b3 1001 (by decide)).1, (a3 1001 (by decide)).1]
theorem lw1 {A : Type} [DecidableEq A] {F G : Int32 → M2 → Option (A × M2)} {q : Sg} {g : M2} {v3 : Int32} {Lx : Nat} (i1 : inb (v3 + 1) Lx) (h : ∀ x, Pr (F x) (G x) q) (hC : IC g q) (hM : IM g q) : Ok (if inb (v3 + (1 : Int32)) Lx then ((F (g.1 1001 (v3 + (1 : Int32)).toNatClampNeg) g).bind fun a => (if inb (v3 + (1 : Int32)) Lx then ((G (a.2.1 1001 (v3 + (1 : Int32)).toNatClampNeg) a.2).bind fun b => (if a.1 = b.1 then some (.inl ((v3 + (6 : Int32)), b.2)) else some (.inr (.inr ((0 : Int32), b.2))))) else none)) else none) (Lp v3 g) :=
  ok_pos i1 (lw (h _) hC hM (fun a ha => by rw [if_pos i1, ha]))
theorem lw2 {A : Type} [DecidableEq A] {F G : Int32 → Int32 → M2 → Option (A × M2)} {q : Sg} {g : M2} {v3 : Int32} {Lx : Nat} (i1 : inb (v3 + 1) Lx) (i2 : inb (v3 + 2) Lx) (h : ∀ x y, Pr (F x y) (G x y) q) (hC : IC g q) (hM : IM g q) : Ok (if inb (v3 + (1 : Int32)) Lx then (if inb (v3 + (2 : Int32)) Lx then ((F (g.1 1001 (v3 + (1 : Int32)).toNatClampNeg) (g.1 1001 (v3 + (2 : Int32)).toNatClampNeg) g).bind fun a => (if inb (v3 + (1 : Int32)) Lx then (if inb (v3 + (2 : Int32)) Lx then ((G (a.2.1 1001 (v3 + (1 : Int32)).toNatClampNeg) (a.2.1 1001 (v3 + (2 : Int32)).toNatClampNeg) a.2).bind fun b => (if a.1 = b.1 then some (.inl ((v3 + (6 : Int32)), b.2)) else some (.inr (.inr ((0 : Int32), b.2))))) else none) else none)) else none) else none) (Lp v3 g) :=
  ok_pos i1 (ok_pos i2 (lw (h _ _) hC hM (fun a ha => by rw [if_pos i1, if_pos i2, ha])))
theorem lw3 {A : Type} [DecidableEq A] {F G : Int32 → Int32 → Int32 → M2 → Option (A × M2)} {q : Sg} {g : M2} {v3 : Int32} {Lx : Nat} (i1 : inb (v3 + 1) Lx) (i2 : inb (v3 + 2) Lx) (i3 : inb (v3 + 3) Lx) (h : ∀ x y z, Pr (F x y z) (G x y z) q) (hC : IC g q) (hM : IM g q) : Ok (if inb (v3 + (1 : Int32)) Lx then (if inb (v3 + (2 : Int32)) Lx then (if inb (v3 + (3 : Int32)) Lx then ((F (g.1 1001 (v3 + (1 : Int32)).toNatClampNeg) (g.1 1001 (v3 + (2 : Int32)).toNatClampNeg) (g.1 1001 (v3 + (3 : Int32)).toNatClampNeg) g).bind fun a => (if inb (v3 + (1 : Int32)) Lx then (if inb (v3 + (2 : Int32)) Lx then (if inb (v3 + (3 : Int32)) Lx then ((G (a.2.1 1001 (v3 + (1 : Int32)).toNatClampNeg) (a.2.1 1001 (v3 + (2 : Int32)).toNatClampNeg) (a.2.1 1001 (v3 + (3 : Int32)).toNatClampNeg) a.2).bind fun b => (if a.1 = b.1 then some (.inl ((v3 + (6 : Int32)), b.2)) else some (.inr (.inr ((0 : Int32), b.2))))) else none) else none) else none)) else none) else none) else none) (Lp v3 g) :=
  ok_pos i1 (ok_pos i2 (ok_pos i3 (lw (h _ _ _) hC hM (fun a ha => by rw [if_pos i1, if_pos i2, if_pos i3, ha]))))
theorem lw5 {A : Type} [DecidableEq A] {F G : Int32 → Int32 → Int32 → Int32 → Int32 → M2 → Option (A × M2)} {q : Sg} {g : M2} {v3 : Int32} {Lx : Nat} (i1 : inb (v3 + 1) Lx) (i2 : inb (v3 + 2) Lx) (i3 : inb (v3 + 3) Lx) (i4 : inb (v3 + 4) Lx) (i5 : inb (v3 + 5) Lx) (h : ∀ x y z u w, Pr (F x y z u w) (G x y z u w) q) (hC : IC g q) (hM : IM g q) : Ok (if inb (v3 + (1 : Int32)) Lx then (if inb (v3 + (2 : Int32)) Lx then (if inb (v3 + (3 : Int32)) Lx then (if inb (v3 + (4 : Int32)) Lx then (if inb (v3 + (5 : Int32)) Lx then ((F (g.1 1001 (v3 + (1 : Int32)).toNatClampNeg) (g.1 1001 (v3 + (2 : Int32)).toNatClampNeg) (g.1 1001 (v3 + (3 : Int32)).toNatClampNeg) (g.1 1001 (v3 + (4 : Int32)).toNatClampNeg) (g.1 1001 (v3 + (5 : Int32)).toNatClampNeg) g).bind fun a => (if inb (v3 + (1 : Int32)) Lx then (if inb (v3 + (2 : Int32)) Lx then (if inb (v3 + (3 : Int32)) Lx then (if inb (v3 + (4 : Int32)) Lx then (if inb (v3 + (5 : Int32)) Lx then ((G (a.2.1 1001 (v3 + (1 : Int32)).toNatClampNeg) (a.2.1 1001 (v3 + (2 : Int32)).toNatClampNeg) (a.2.1 1001 (v3 + (3 : Int32)).toNatClampNeg) (a.2.1 1001 (v3 + (4 : Int32)).toNatClampNeg) (a.2.1 1001 (v3 + (5 : Int32)).toNatClampNeg) a.2).bind fun b => (if a.1 = b.1 then some (.inl ((v3 + (6 : Int32)), b.2)) else some (.inr (.inr ((0 : Int32), b.2))))) else none) else none) else none) else none) else none)) else none) else none) else none) else none) else none) (Lp v3 g) :=
  ok_pos i1 (ok_pos i2 (ok_pos i3 (ok_pos i4 (ok_pos i5 (lw (h _ _ _ _ _) hC hM (fun a ha => by rw [if_pos i1, if_pos i2, if_pos i3, if_pos i4, if_pos i5, ha]))))))
/-- arguments within a row -/
theorem inb_int {x : Int32} {n : Nat} : inb x n ↔ 0 ≤ x.toInt ∧ x.toInt < n := by
  unfold inb
  rw [Int32.le_iff_toInt_le, show (0 : Int32).toInt = 0 from rfl]
  have : x.toNatClampNeg = x.toInt.toNat := rfl
  rw [this]
  omega
theorem da_among {x : Int32} {n : Nat} (hn : n < 2 ^ 31) (g : M2) : f_Da_isAmong x (cI n) g = if inb x n then 1 else 0 := by
  unfold f_Da_isAmong
  simp only [Int32.lt_iff_toInt_lt, Int32.le_iff_toInt_le, show (0 : Int32).toInt = 0 from rfl, cI_toInt hn]
  by_cases h : inb x n
  · rw [if_pos h]; have := inb_int.mp h; rw [if_neg (by omega), if_neg (by omega)]
  · rw [if_neg h]
    have h2 : ¬ (0 ≤ x.toInt ∧ x.toInt < n) := fun e => h (inb_int.mpr e)
    by_cases h0 : x.toInt < 0
    · rw [if_pos h0]
    · rw [if_neg h0, if_pos (by omega)]
theorem mo_inI {x : Int32} {a b : Int} (a1 : -2 ^ 62 ≤ a) (a2 : a ≤ 2 ^ 62) (b1 : -2 ^ 62 ≤ b) (b2 : b ≤ 2 ^ 62) (g : M2) : f_Mo_in x.toInt64 (Int64.ofInt a) (Int64.ofInt b) g = if a ≤ x.toInt ∧ x.toInt ≤ b then 1 else 0 := by
  unfold f_Mo_in
  simp only [Int64.lt_iff_toInt_lt, Int64.lt_iff_toInt_lt, to64 a1 a2, to64 b1 b2, Int32.toInt_toInt64]
  by_cases h : a ≤ x.toInt ∧ x.toInt ≤ b
  · rw [if_pos h, if_neg (by omega), if_neg (by omega)]
  · rw [if_neg h]
    by_cases h0 : x.toInt < a
    · rw [if_pos h0]
    · rw [if_neg h0, if_pos (by omega)]
theorem mo_in0 {x : Int32} {n : Nat} (hn : n < 2 ^ 31) (g : M2) : f_Mo_in x.toInt64 (0 : Int64) (Int64.ofInt ((n : Int) - 1)) g = if inb x n then 1 else 0 := by
  rw [z64, mo_inI (by omega) (by omega) (by omega) (by omega)]
  by_cases h : inb x n
  · rw [if_pos h]; have := inb_int.mp h; rw [if_pos (by omega)]
  · rw [if_neg h, if_neg (fun e => h (inb_int.mpr (by omega)))]
theorem c_pr64 {n : Nat} (hn : n < 2 ^ 31) : (cI n - 1).toInt64 = Int64.ofInt ((n : Int) - 1) := by
  apply Int64.toInt_inj.mp
  rw [Int32.toInt_toInt64, to64 (by omega) (by omega)]
  cases n with
  | zero => rfl
  | succ m => rw [c_pred (by omega), Nat.add_sub_cancel, cI_toInt (by omega)]; omega
theorem mo_inN {x : Int32} {n : Nat} (hn : n < 2 ^ 31) (g : M2) : f_Mo_in x.toInt64 (0 : Int64) (cI n - 1).toInt64 g = if inb x n then 1 else 0 := by
  rw [c_pr64 hn, mo_in0 hn]
theorem if10 {c : Prop} [Decidable c] : (if c then (1 : Int32) else 0) &&& 1 = if c then 1 else 0 := by
  split <;> decide
theorem if10e {c : Prop} [Decidable c] : ((if c then (1 : Int32) else 0) = 0) = ¬ c := by
  by_cases h : c
  · rw [if_pos h]; simp [h]
  · rw [if_neg h]; simp [h]
theorem da_has {g : M2} {q : Sg} {x : Int32} (hw : WF q) (h : IC g q) : f_Pl_has 7 x g = if inb x (sn q) then 1 else 0 := by
  have := hw.1
  unfold f_Pl_has
  rw [h.1.1, da_among (by omega), if10]
theorem da_dir {x : Int32} (g : M2) : f_Da_isDirection x g = if inb x 12 then 1 else 0 := by
  unfold f_Da_isDirection
  rw [show (12 : Int32) = cI 12 from rfl, da_among (by decide), if10]
theorem mo_dir {x : Int32} (g : M2) : f_Mo_isDirection x g = if inb x 12 then 1 else 0 := by
  unfold f_Mo_isDirection
  rw [show (11 : Int64) = Int64.ofInt (((12 : Nat) : Int) - 1) from rfl, mo_in0 (by decide), if10]
theorem mo_elem {g : M2} {q : Sg} {x : Int32} (hw : WF q) (h : WD g q) : f_Mo_isElement x g = some (if inb x (sn q) then 1 else 0) := by
  have := hw.1
  unfold f_Mo_isElement
  rw [h.2.1, mo_inN (by omega), if10]
theorem qh_e {g : M2} {q : Sg} (h : Now g q) : (g.1 6 13 = 0) = ¬ (qh q = true) := by rw [h.2.2.2.2.1, if10e]
/-- rank, solved, wish -/
theorem pr_rank {q : Sg} (hw : WF q) : Pr f_Da_rank f_Mo_rank q := by
  refine ⟨cI (fl (Gz (qw q) (qp q)) (qm q)).length, q, hw, fun g hg => ?_, fun g hg => ?_⟩
  · unfold f_Da_rank
    exact ok_bindm (da_refresh hw hg) (fun r hr => ok_some ⟨hr.2.1.2.2.1, hr.1, hr.2.2⟩)
  · unfold f_Mo_rank
    exact ok_bindm (mo_canNow hw hg) (fun r hr => ok_some ⟨hr.2.2.2.1.2.1, hr.2.2.1, FM_K hr.2.1⟩)
theorem pr_solved {q : Sg} (hw : WF q) : Pr f_Da_solved f_Mo_solved q := by
  refine ⟨if qh q then 1 else 0, q, hw, fun g hg => ?_, fun g hg => ?_⟩
  · unfold f_Da_solved
    refine ok_bindm (da_refresh hw hg) (fun r hr => ?_)
    simp only [qh_e hr.2.1]
    by_cases h : qh q = true
    · rw [if_pos h]; exact ok_neg (fun e => e h) (ok_some ⟨rfl, hr.1, hr.2.2⟩)
    · rw [if_neg h]; exact ok_pos h (ok_some ⟨rfl, hr.1, hr.2.2⟩)
  · unfold f_Mo_solved
    refine ok_bindm (mo_canNow hw hg) (fun r hr => ?_)
    simp only [hr.1, if10e]
    by_cases h : qh q = true
    · rw [if_pos h]; exact ok_neg (fun e => e h) (ok_some ⟨rfl, hr.2.2.1, FM_K hr.2.1⟩)
    · rw [if_neg h]; exact ok_pos h (ok_some ⟨rfl, hr.2.2.1, FM_K hr.2.1⟩)
theorem pr_wish {q : Sg} (hw : WF q) (x y : Int32) : Pr (f_Da_wish x y) (f_Mo_wish x y) q := by
  have hm := WF_m hw
  refine ⟨if inb x (qm q) then (if inb y 2 then (if y = 0 then cI (qw q x.toNatClampNeg) else loI (qw q) (qp q) x.toNatClampNeg) else -2) else -2, q, hw, fun g hg => ?_, fun g hg => ?_⟩
  · unfold f_Da_wish
    refine ok_bindm (da_refresh hw hg) (fun r hr => ?_)
    obtain ⟨h1, h2, h3⟩ := hr
    rw [h2.1, show (2 : Int32) = cI 2 from rfl]
    simp only [da_among (show qm q < 2 ^ 31 by omega), da_among (show 2 < 2 ^ 31 by decide), if10e]
    by_cases c1 : inb x (qm q)
    · have hx : x.toNatClampNeg < qm q := c1.2
      rw [if_pos c1]
      refine ok_neg (fun e => e c1) ?_
      by_cases c2 : inb y 2
      · rw [if_pos c2]
        refine ok_neg (fun e => e c2) ?_
        have i5 : inb x 5 := ⟨c1.1, by omega⟩
        by_cases c3 : y = 0
        · rw [if_pos c3]
          exact ok_pos i5 (ok_some ⟨(h2.2.1 _ hx).trans (if_pos c3).symm, h1, h3⟩)
        · rw [if_neg c3]
          refine ok_pos i5 ?_
          rw [h2.2.2.2.1 _ hx]
          unfold loI
          split
          · exact ok_neg (by decide) (ok_some ⟨rfl, h1, h3⟩)
          · exact ok_pos rfl (ok_some ⟨rfl, h1, h3⟩)
      · rw [if_neg c2]
        exact ok_pos c2 (ok_some ⟨rfl, h1, h3⟩)
    · rw [if_neg c1]
      exact ok_pos c1 (ok_some ⟨rfl, h1, h3⟩)
  · unfold f_Mo_wish
    refine ok_bindm (mo_canNow hw hg) (fun r hr => ?_)
    obtain ⟨_, h2, h3, h4, _⟩ := hr
    have h5 := FM_K h2
    have hin := h4.1
    rw [hin.2.2.2.2.1, show (1 : Int64) = Int64.ofInt (((2 : Nat) : Int) - 1) from rfl]
    simp only [mo_inN (show qm q < 2 ^ 31 by omega), mo_in0 (show 2 < 2 ^ 31 by decide), if10e]
    by_cases c1 : inb x (qm q)
    · have hx : x.toNatClampNeg < qm q := c1.2
      rw [if_pos c1]
      refine ok_neg (fun e => e c1) ?_
      by_cases c2 : inb y 2
      · rw [if_pos c2]
        refine ok_neg (fun e => e c2) ?_
        have i5 : inb x 5 := ⟨c1.1, by omega⟩
        by_cases c3 : y = 0
        · rw [if_pos c3]
          exact ok_pos i5 (ok_some ⟨(hin.2.2.2.2.2.2 _ hx).1.trans (if_pos c3).symm, h3, h5⟩)
        · rw [if_neg c3]
          refine ok_pos i5 ?_
          rw [h4.2.2.2.1 _ hx]
          unfold loI
          split
          · exact ok_neg (by decide) (ok_some ⟨rfl, h3, h5⟩)
          · exact ok_pos rfl (ok_some ⟨rfl, h3, h5⟩)
      · rw [if_neg c2]
        exact ok_pos c2 (ok_some ⟨rfl, h3, h5⟩)
    · rw [if_neg c1]
      exact ok_pos c1 (ok_some ⟨rfl, h3, h5⟩)
