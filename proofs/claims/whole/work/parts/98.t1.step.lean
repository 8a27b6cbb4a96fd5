/-! one step: what is least by it -/
def rtS (c : Nat) : Nat := c / 2 % 4 + (if c % 2 = 0 then 0 else 6)
def stC (W : Nat → Z4) (c : Nat) : Nat → Z4 := fun i => if i = c / 8 then qadd (W i) (rt (rtS c)) else W i
theorem rtS_lt (c : Nat) : rtS c < 10 := by
  unfold rtS
  split <;> omega
def dXn (q : Sg) (W : Nat → Z4) : Nat → Int
  | 0 => 0
  | i + 1 => dXn q W i + pXz (cg q W ((sd q).getD i 0) (sn q))
def dYn (q : Sg) (W : Nat → Z4) : Nat → Int
  | 0 => 0
  | i + 1 => dYn q W i + pYz (cg q W ((sd q).getD i 0) (sn q))
abbrev dX (q : Sg) (W : Nat → Z4) : Int := dXn q W (sd q).length
abbrev dY (q : Sg) (W : Nat → Z4) : Int := dYn q W (sd q).length
theorem dXn_b {q : Sg} (hw : WF q) {W : Nat → Z4} (h : bW W (sn q) 200000) : ∀ i : Nat, 0 ≤ dXn q W i ∧ dXn q W i ≤ i * 2 ^ 43 ∧ -(i * 2 ^ 43 : Int) ≤ dYn q W i ∧ dYn q W i ≤ i * 2 ^ 43 := by
  intro i
  induction i with
  | zero => exact ⟨Int.le_refl _, by show (0 : Int) ≤ _; simp, by show _ ≤ (0 : Int); simp, by show (0 : Int) ≤ _; simp⟩
  | succ i ih =>
    have c := cg_l hw h ((sd q).getD i 0)
    show 0 ≤ dXn q W i + pXz (cg q W ((sd q).getD i 0) (sn q)) ∧ dXn q W i + pXz (cg q W ((sd q).getD i 0) (sn q)) ≤ ((i + 1 : Nat) : Int) * 2 ^ 43 ∧ -(((i + 1 : Nat) : Int) * 2 ^ 43) ≤ dYn q W i + pYz (cg q W ((sd q).getD i 0) (sn q)) ∧ dYn q W i + pYz (cg q W ((sd q).getD i 0) (sn q)) ≤ ((i + 1 : Nat) : Int) * 2 ^ 43
    omega
theorem dX_b {q : Sg} (hw : WF q) {W : Nat → Z4} (h : bW W (sn q) 200000) : 0 ≤ dX q W ∧ dX q W ≤ 2 ^ 46 ∧ -2 ^ 46 ≤ dY q W ∧ dY q W ≤ 2 ^ 46 := by
  have h1 := dXn_b hw h (sd q).length
  have hd4 := hw.2.2.2.2.2.1
  show 0 ≤ dXn q W (sd q).length ∧ dXn q W (sd q).length ≤ 2 ^ 46 ∧ -2 ^ 46 ≤ dYn q W (sd q).length ∧ dYn q W (sd q).length ≤ 2 ^ 46
  omega
theorem cg_st {q : Sg} {W : Nat → Z4} {c : Nat} (hb : ¬ (sb q).testBit (c / 8) = true) (k : Nat) : ∀ m, cg q (stC W c) k m = if c / 8 < m then qadd (cg q W k m) (rt (rtS c + k * sp q (c / 8))) else cg q W k m := by
  intro m
  induction m with
  | zero => rw [if_neg (by omega)]; rfl
  | succ m ih =>
    rw [cg_s, cg_s]
    by_cases hm : m = c / 8
    · have hbm : ¬ (sb q).testBit m = true := by rw [hm]; exact hb
      simp only [if_neg hbm]
      rw [ih, if_neg (show ¬ c / 8 < m by omega), if_pos (show c / 8 < m + 1 by omega)]
      have e1 : stC W c m = qadd (W m) (rt (rtS c)) := if_pos hm
      rw [e1, ← hm, ← rt_mul]
      generalize cg q W k m = a
      generalize W m = b
      generalize rt (rtS c) = d
      generalize rt (k * sp q m) = e
      apply q_ext <;> simp only [qadd, qmul] <;> grind
    · have e1 : stC W c m = W m := if_neg hm
      rw [e1, ih]
      by_cases hb2 : (sb q).testBit m = true
      · rw [if_pos hb2, if_pos hb2]
        by_cases hlt : c / 8 < m
        · rw [if_pos hlt, if_pos (by omega)]
        · rw [if_neg hlt, if_neg (by omega)]
      · rw [if_neg hb2, if_neg hb2]
        by_cases hlt : c / 8 < m
        · rw [if_pos hlt, if_pos (by omega)]
          generalize cg q W k m = a
          generalize qmul (W m) (rt (k * sp q m)) = b
          generalize rt (rtS c + k * sp q (c / 8)) = d
          apply q_ext <;> simp only [qadd] <;> omega
        · rw [if_neg hlt, if_neg (by omega)]
theorem rt_c (k : Nat) : ((rt k).1.natAbs ≤ 1 ∧ (rt k).2.1.natAbs ≤ 1) ∧ (rt k).2.2.1.natAbs ≤ 1 ∧ (rt k).2.2.2.natAbs ≤ 1 := by
  have := len_comp (len_rt k)
  omega
theorem bW_st {W : Nat → Z4} {n : Nat} {N : Int} (h : bW W n N) (c : Nat) : bW (stC W c) n (N + 1) := by
  intro e he
  have h1 := h e he
  have h2 := rt_c (rtS c)
  by_cases hec : e = c / 8
  · have e1 : stC W c e = qadd (W e) (rt (rtS c)) := if_pos hec
    rw [e1]
    show (-(N + 1) ≤ (W e).1 + (rt (rtS c)).1 ∧ (W e).1 + (rt (rtS c)).1 ≤ N + 1) ∧ (-(N + 1) ≤ (W e).2.1 + (rt (rtS c)).2.1 ∧ (W e).2.1 + (rt (rtS c)).2.1 ≤ N + 1) ∧ (-(N + 1) ≤ (W e).2.2.1 + (rt (rtS c)).2.2.1 ∧ (W e).2.2.1 + (rt (rtS c)).2.2.1 ≤ N + 1) ∧ (-(N + 1) ≤ (W e).2.2.2 + (rt (rtS c)).2.2.2 ∧ (W e).2.2.2 + (rt (rtS c)).2.2.2 ≤ N + 1)
    omega
  · have e1 : stC W c e = W e := if_neg hec
    rw [e1]
    omega
/-- broken ones have none -/
def w0 (q : Sg) (W : Nat → Z4) : Prop := ∀ e, e < sn q → (sb q).testBit e = true → W e = (0, 0, 0, 0)
theorem w0_st {q : Sg} {W : Nat → Z4} (h : w0 q W) {c : Nat} (hb : ¬ (sb q).testBit (c / 8) = true) : w0 q (stC W c) := by
  intro e he hbe
  have : e ≠ c / 8 := fun e2 => hb (e2 ▸ hbe)
  have e1 : stC W c e = W e := if_neg this
  rw [e1]; exact h e he hbe
/-- the best of the first steps -/
def bst (q : Sg) (W : Nat → Z4) : Nat → Int × Int × Option Nat
  | 0 => (dX q W, dY q W, none)
  | c + 1 => if (sb q).testBit (c / 8) then bst q W c else if sgn (dX q (stC W c) - (bst q W c).1) (dY q (stC W c) - (bst q W c).2.1) < 0 then (dX q (stC W c), dY q (stC W c), some c) else bst q W c
theorem bst_b {q : Sg} {W : Nat → Z4} {c : Nat} (h : (sb q).testBit (c / 8) = true) : bst q W (c + 1) = bst q W c := by
  conv => lhs; unfold bst
  rw [if_pos h]
theorem bst_y {q : Sg} {W : Nat → Z4} {c : Nat} (h : ¬ (sb q).testBit (c / 8) = true) (hs : sgn (dX q (stC W c) - (bst q W c).1) (dY q (stC W c) - (bst q W c).2.1) < 0) : bst q W (c + 1) = (dX q (stC W c), dY q (stC W c), some c) := by
  conv => lhs; unfold bst
  rw [if_neg h, if_pos hs]
theorem bst_n {q : Sg} {W : Nat → Z4} {c : Nat} (h : ¬ (sb q).testBit (c / 8) = true) (hs : ¬ sgn (dX q (stC W c) - (bst q W c).1) (dY q (stC W c) - (bst q W c).2.1) < 0) : bst q W (c + 1) = bst q W c := by
  conv => lhs; unfold bst
  rw [if_neg h, if_neg hs]
theorem bst_in (q : Sg) (W : Nat → Z4) : ∀ n, (((bst q W n).2.2 = none → (bst q W n).1 = dX q W ∧ (bst q W n).2.1 = dY q W) ∧ ∀ c, (bst q W n).2.2 = some c → (c < n ∧ ¬ (sb q).testBit (c / 8) = true) ∧ (bst q W n).1 = dX q (stC W c) ∧ (bst q W n).2.1 = dY q (stC W c)) := by
  intro n
  induction n with
  | zero => exact ⟨fun _ => ⟨rfl, rfl⟩, fun c hc => by cases hc⟩
  | succ n ih =>
    have keep : bst q W (n + 1) = bst q W n → _ := fun e => (show (((bst q W (n + 1)).2.2 = none → (bst q W (n + 1)).1 = dX q W ∧ (bst q W (n + 1)).2.1 = dY q W) ∧ ∀ c, (bst q W (n + 1)).2.2 = some c → (c < n + 1 ∧ ¬ (sb q).testBit (c / 8) = true) ∧ (bst q W (n + 1)).1 = dX q (stC W c) ∧ (bst q W (n + 1)).2.1 = dY q (stC W c)) from by
      rw [e]
      exact ⟨ih.1, fun c hc => ⟨⟨by have := (ih.2 c hc).1.1; omega, (ih.2 c hc).1.2⟩, (ih.2 c hc).2⟩⟩)
    by_cases hb : (sb q).testBit (n / 8) = true
    · exact keep (bst_b hb)
    · by_cases hs : sgn (dX q (stC W n) - (bst q W n).1) (dY q (stC W n) - (bst q W n).2.1) < 0
      · rw [bst_y hb hs]
        exact ⟨fun h => (by cases h), fun c hc => (by cases hc; exact ⟨⟨Nat.lt_succ_self n, hb⟩, rfl, rfl⟩)⟩
      · exact keep (bst_n hb hs)
theorem bst_bd {q : Sg} (hw : WF q) {W : Nat → Z4} (h : bW W (sn q) 199999) (n : Nat) : 0 ≤ (bst q W n).1 ∧ (bst q W n).1 ≤ 2 ^ 46 ∧ -2 ^ 46 ≤ (bst q W n).2.1 ∧ (bst q W n).2.1 ≤ 2 ^ 46 := by
  have hi := bst_in q W n
  cases ho : (bst q W n).2.2 with
  | none =>
    obtain ⟨e1, e2⟩ := hi.1 ho
    rw [e1, e2]
    exact dX_b hw (bW_m h (by decide))
  | some c =>
    obtain ⟨_, e1, e2⟩ := hi.2 c ho
    rw [e1, e2]
    exact dX_b hw (bW_st h c)
theorem code_k : ∀ c : Nat, c < 40 → cI c / (8 : Int32) = cI (c / 8) ∧ ((cI c / (2 : Int32)) - (cI c / (2 : Int32)) / (4 : Int32) * (4 : Int32)) = cI (c / 2 % 4) ∧ (cI c - cI c / (2 : Int32) * (2 : Int32)) = cI (c % 2) := by decide +kernel
abbrev sgI (c : Nat) : Int32 := if c % 2 = 0 then 1 else -1
/-! the class -/
/-- deaf gains are kept -/
def DG (z : M2) (q : Sg) (W : Nat → Z4) : Prop := ∀ i, i < (sd q).length → rN z (146 + i) = q64 (cg q W ((sd q).getD i 0) (sn q))
theorem cu_hear {g : M2} {q : Sg} (hw : WF q) (hC : IC g q) {s : Nat} (hc : CC g q s) : Ok (f_Cu_hearDeaf 6 g) (fun r => FC g r ∧ DG r q (cz q s) ∧ r.2 138 3 = Int64.ofInt (dX q (cz q s)) ∧ r.2 138 4 = Int64.ofInt (dY q (cz q s))) := by
  have hd4 := hw.2.2.2.2.2.1
  have hn := hw.1
  unfold f_Cu_hearDeaf
  refine ok_bd (ok_bd (ok_bindm (Q := fun r => FC g r ∧ DG r q (cz q s) ∧ r.2 138 3 = Int64.ofInt (dX q (cz q s)) ∧ r.2 138 4 = Int64.ofInt (dY q (cz q s))) ?_ (fun r hr => ok_some hr)))
  refine ok_for (sd q).length (by omega) (fun j z => (z.1 = g.1 ∧ ∀ y, ¬ (145 < y ∧ y ≤ 149) → y ≠ 138 → z.2 y = g.2 y) ∧ (∀ i, i < j → rN z (146 + i) = q64 (cg q (cz q s) ((sd q).getD i 0) (sn q))) ∧ z.2 138 3 = Int64.ofInt (dXn q (cz q s) j) ∧ z.2 138 4 = Int64.ofInt (dYn q (cz q s) j)) ⟨⟨rfl, fun y _ y2 => by rw [uJ_o _ _ _ y2, uJ_o _ _ _ y2]⟩, fun i hi => absurd hi (by omega), by rw [uJ_k _ _ _ (by decide), uJ_s]; rfl, by rw [uJ_s]; rfl⟩ ?_ ?_
  · rintro j z hj ⟨⟨z1, z2⟩, z3, z4, z5⟩
    show Ok (b_Cu_hearDeaf_11 7 (cI j) z) _
    unfold b_Cu_hearDeaf_11
    rw [z1, show g.1 7 5 = cI (sd q).length from hC.1.2.2.2.2.2.2.2.1]
    have ij : inb (cI j) 4 := inb_cI (by omega) (by decide)
    refine ok_neg (le_no hj (by omega)) (ok_pos ij (ok_pos ij ?_))
    simp only [cI_nat (show j < 2 ^ 31 by omega), (hC.1.2.2.2.2.2.2.2.2.2 j hj).1]
    have hFz : FC g z := fun y hy => ⟨by rw [z1], z2 y (by omega) (by omega)⟩
    have hcz : CC z q s := fun e he => by rw [rN_f (z2 _ (by omega) (by omega))]; exact hc e he
    refine ok_bindm (da_cutGain (FC_I hw hC hFz).1 hcz (d12 hw hj) (t := 145 + 1 + j) (fun e he => by omega)) (fun w hw2 => ok_pos ij (ok_bd (ok_pos ij (ok_bd (ok_some ⟨c_succ j, ?_⟩)))))
    have w3 : w.2 138 = z.2 138 := hw2.2.1 138 (by omega)
    have hv2 : rN (uJ w 138 3 (w.2 138 3 + f_Nu_powerX (145 + 1 + j) w)) (145 + 1 + j) = q64 (cg q (cz q s) ((sd q).getD j 0) (sn q)) := by
      rw [rN_f (show (uJ w 138 3 (w.2 138 3 + f_Nu_powerX (145 + 1 + j) w)).2 (145 + 1 + j) = w.2 (145 + 1 + j) from uJ_o _ _ _ (by omega))]; exact hw2.2.2.1
    rw [pY64 hv2, pX64 hw2.2.2.1, w3, z4, uJ_k _ _ _ (show 4 ≠ 3 by decide), w3, z5, ← Int64.ofInt_add, ← Int64.ofInt_add]
    refine ⟨⟨by show w.1 = _; rw [hw2.1, z1], fun y y1 y2 => by rw [uJ_o _ _ _ y2, uJ_o _ _ _ y2, hw2.2.1 y (by omega)]; exact z2 y y1 y2⟩, fun i hi => ?_, ?_, ?_⟩
    · rw [rN_f (show (uJ (uJ w 138 3 _) 138 4 _).2 (146 + i) = w.2 (146 + i) from by rw [uJ_o _ _ _ (by omega), uJ_o _ _ _ (by omega)])]
      by_cases hij : i = j
      · subst hij; rw [show 146 + i = 145 + 1 + i by omega]; exact hw2.2.2.1
      · rw [rN_f (hw2.2.1 _ (by omega))]; exact z3 i (by omega)
    · rw [uJ_k _ _ _ (by decide), uJ_s]; rfl
    · rw [uJ_s]; rfl
  · rintro z ⟨⟨z1, z2⟩, z3, z4, z5⟩
    show Ok (b_Cu_hearDeaf_11 7 (cI (sd q).length) z) _
    unfold b_Cu_hearDeaf_11
    rw [z1, show g.1 7 5 = cI (sd q).length from hC.1.2.2.2.2.2.2.2.1]
    exact ok_pos (le_yes (Nat.le_refl _) (by omega)) (ok_some ⟨fun y hy => ⟨by rw [z1], z2 y (by omega) (by omega)⟩, z3, z4, z5⟩)
theorem cu_root {g : M2} {q : Sg} (hw : WF q) (hC : IC g q) {i c : Nat} (hi : i < (sd q).length) (he : c / 8 < sn q) : f_Cu_rootOfStep 7 (cI i) (cI (c / 8)) (cI (c / 2 % 4)) (sgI c) g = some (cI (rtS c + (sd q).getD i 0 * sp q (c / 8))) := by
  have hd4 := hw.2.2.2.2.2.1
  have hn := hw.1
  have i4 : inb (cI i) 4 := inb_cI (by omega) (by decide)
  have i5 : inb (cI (c / 8)) 5 := inb_cI (by omega) (by decide)
  have e1 := (hC.1.2.2.2.2.2.2.2.2.2 i hi).1
  have e2 := (hC.1.2.2.1 (c / 8) he).1
  unfold f_Cu_rootOfStep j_Cu_rootOfStep_6
  rw [if_pos i4, if_pos i5, if_pos i4, if_pos i5, cI_nat (by omega), cI_nat (by omega), show (7 + 2 : Nat) = 7 + 2 from rfl, e1, e2, cI_mul, cI_add]
  unfold sgI rtS
  by_cases h : c % 2 = 0
  · rw [if_pos h, if_pos h, if_pos (by decide), show (0 : Int32) = cI 0 from rfl, cI_add]
    exact congrArg (fun n => some (cI n)) (by omega)
  · rw [if_neg h, if_neg h, if_neg (by decide), show (6 : Int32) = cI 6 from rfl, cI_add]
    exact congrArg (fun n => some (cI n)) (by omega)
/-- what the class has when it seeks a step -/
def SK (z : M2) (q : Sg) (W : Nat → Z4) (n : Nat) : Prop := DG z q W ∧ z.2 138 8 = Int64.ofInt (bst q W n).1 ∧ z.2 138 9 = Int64.ofInt (bst q W n).2.1 ∧ z.1 138 5 = lkI ((bst q W n).2.2.map (fun c => c / 8)) ∧ ∀ c, (bst q W n).2.2 = some c → z.1 138 6 = cI (c / 2 % 4) ∧ z.1 138 7 = sgI c
theorem cu_try {g : M2} {q : Sg} (hw : WF q) (hC : IC g q) {W : Nat → Z4} (hW : bW W (sn q) 199999) {c : Nat} (hc : c / 8 < sn q) (hb : ¬ (sb q).testBit (c / 8) = true) (hS : SK g q W c) : Ok (f_Cu_tryStep 7 (cI (c / 8)) (cI (c / 2 % 4)) (sgI c) g) (fun r => SK r q W (c + 1) ∧ FC g r ∧ r.2 138 3 = g.2 138 3 ∧ r.2 138 4 = g.2 138 4) := by
  have hd4 := hw.2.2.2.2.2.1
  have hn := hw.1
  obtain ⟨s1, s2, s3, s4, s5⟩ := hS
  unfold f_Cu_tryStep
  refine ok_bindm (Q := fun e => e.1 = Int64.ofInt (dX q (stC W c)) ∧ e.2.1 = Int64.ofInt (dY q (stC W c)) ∧ e.2.2.1 = g.1 ∧ ∀ y, y ≠ 150 → e.2.2.2 y = g.2 y) ?_ (fun e he => ?_)
  · refine ok_lp (fun j st => ∃ z, st = (Int64.ofInt (dXn q (stC W c) j), Int64.ofInt (dYn q (stC W c) j), cI j, z) ∧ z.1 = g.1 ∧ ∀ y, y ≠ 150 → z.2 y = g.2 y) (sd q).length 5000 0 _ (by omega) (by omega) ⟨g, rfl, rfl, fun _ _ => rfl⟩ ?_
    rintro j st hj ⟨z, rfl, z1, z2⟩
    show Ok (b_Cu_tryStep_6 7 (cI (c / 8)) (cI (c / 2 % 4)) (sgI c) (Int64.ofInt (dXn q (stC W c) j)) (Int64.ofInt (dYn q (stC W c) j)) (cI j) z) _
    unfold b_Cu_tryStep_6
    rw [z1, show g.1 7 5 = cI (sd q).length from hC.1.2.2.2.2.2.2.2.1]
    by_cases hj2 : j = (sd q).length
    · subst hj2
      exact ok_pos (le_yes (Nat.le_refl _) (by omega)) (ok_some ⟨rfl, rfl, z1, z2⟩)
    · have hj' : j < (sd q).length := by omega
      refine ok_neg (le_no hj' (by omega)) (ok_pos (inb_cI (by omega) (by decide)) ?_)
      rw [cI_nat (by omega)]
      refine ok_binde (nu_copy (by omega) z) ?_
      have hC2 : IC (sN z 150 (rN z (145 + 1 + j))) q := (FC_I hw hC (fun y hy => ⟨by show z.1 y = _; rw [z1], by rw [sN_o _ _ (by omega)]; exact z2 y (by omega)⟩)).1
      have hp := prod12 (d12 hw hj') (hw.2.1 (c / 8) hc)
      have hr := rtS_lt c
      refine ok_binde (cu_root hw hC2 hj' hc) (ok_binde (nu_addRoot (by omega) 150 _) (ok_some ⟨hj', sN (sN z 150 (rN z (145 + 1 + j))) 150 (qadd (rN (sN z 150 (rN z (145 + 1 + j))) 150) (rt6 (rtS c + (sd q).getD j 0 * sp q (c / 8)))), ?_, z1, fun y hy => by rw [sN_o _ _ hy, sN_o _ _ hy]; exact z2 y hy⟩))
      have hv : rN (sN (sN z 150 (rN z (145 + 1 + j))) 150 (qadd (rN (sN z 150 (rN z (145 + 1 + j))) 150) (rt6 (rtS c + (sd q).getD j 0 * sp q (c / 8))))) 150 = q64 (cg q (stC W c) ((sd q).getD j 0) (sn q)) := by
        rw [rN_sN, rN_sN, rN_f (z2 _ (by omega)), show 145 + 1 + j = 146 + j by omega, s1 j hj', cg_st hb, if_pos hc, q64_add]; rfl
      rw [pX64 hv, pY64 hv, ← Int64.ofInt_add, ← Int64.ofInt_add, c_succ]; rfl
  · obtain ⟨e1, e2, e3, e4⟩ := he
    have hb1 := dX_b hw (bW_st hW c)
    have hb2 := bst_bd hw hW c
    rw [e1, e2, e4 138 (by decide), s2, s3, ← Int64.ofInt_sub, ← Int64.ofInt_sub]
    refine ok_binde (da_sign (by omega) (by omega) (by omega) (by omega) _) ?_
    simp only [s_ge (sgn_r _ _)]
    have dg : ∀ z : M2, (∀ y, y ≠ 138 → z.2 y = e.2.2.2 y) → DG z q W := fun z hz i hi => by
      rw [rN_f (hz _ (by omega)), rN_f (e4 _ (by omega))]; exact s1 i hi
    refine ok_if (fun d => ok_some ⟨?_, fun y hy => ⟨by rw [e3], e4 y (by omega)⟩, by rw [e4 138 (by decide)], by rw [e4 138 (by decide)]⟩) (fun d => ok_bd (ok_bd (ok_bd (ok_bd (ok_bd (ok_some ⟨?_, fun y hy => ⟨?_, ?_⟩, ?_, ?_⟩))))))
    · have en : bst q W (c + 1) = bst q W c := bst_n hb (by omega)
      refine ⟨dg _ (fun _ _ => rfl), ?_, ?_, ?_, ?_⟩
      · rw [en, e4 138 (by decide)]; exact s2
      · rw [en, e4 138 (by decide)]; exact s3
      · rw [en, e3]; exact s4
      · rw [en, e3]; exact s5
    · have en := bst_y (W := W) hb (by omega : sgn (dX q (stC W c) - (bst q W c).1) (dY q (stC W c) - (bst q W c).2.1) < 0)
      refine ⟨dg _ (fun y hy => by rw [uJ_o _ _ _ hy, uJ_o _ _ _ hy]; rfl), ?_, ?_, ?_, ?_⟩
      · rw [en, uJ_k _ _ _ (by decide), uJ_s]
      · rw [en, uJ_s]
      · rw [en]
        show (uI (uI (uI e.2.2 138 5 (cI (c / 8))) 138 6 (cI (c / 2 % 4))) 138 7 (sgI c)).1 138 5 = _
        rw [uI_k _ _ _ (by decide), uI_k _ _ _ (by decide), uI_s]; rfl
      · rw [en]
        intro c2 hc2
        cases hc2
        show (uI (uI (uI e.2.2 138 5 (cI (c / 8))) 138 6 (cI (c / 2 % 4))) 138 7 (sgI c)).1 138 6 = _ ∧ (uI (uI (uI e.2.2 138 5 (cI (c / 8))) 138 6 (cI (c / 2 % 4))) 138 7 (sgI c)).1 138 7 = _
        rw [uI_k _ _ _ (by decide), uI_s, uI_s]; exact ⟨rfl, rfl⟩
    · show (uI (uI (uI e.2.2 138 5 (cI (c / 8))) 138 6 (cI (c / 2 % 4))) 138 7 (sgI c)).1 y = _
      rw [uI_o _ _ _ (by omega), uI_o _ _ _ (by omega), uI_o _ _ _ (by omega), e3]
    · rw [uJ_o _ _ _ (by omega), uJ_o _ _ _ (by omega)]; exact e4 y (by omega)
    · rw [uJ_k _ _ _ (by decide), uJ_k _ _ _ (by decide)]; show e.2.2.2 138 3 = _; rw [e4 138 (by decide)]
    · rw [uJ_k _ _ _ (by decide), uJ_k _ _ _ (by decide)]; show e.2.2.2 138 4 = _; rw [e4 138 (by decide)]
theorem bst_skip {q : Sg} {W : Nat → Z4} {e : Nat} (hb : (sb q).testBit e = true) : ∀ k, k ≤ 8 → bst q W (8 * e + k) = bst q W (8 * e) := by
  intro k
  induction k with
  | zero => intro _; rfl
  | succ k ih =>
    intro hk
    rw [← ih (by omega)]
    exact bst_b (c := 8 * e + k) (by rw [show (8 * e + k) / 8 = e by omega]; exact hb)
theorem cu_seek {g : M2} {q : Sg} (hw : WF q) (hC : IC g q) {W : Nat → Z4} (hW : bW W (sn q) 199999) (hD : DG g q W) (h3 : g.2 138 3 = Int64.ofInt (dX q W)) (h4 : g.2 138 4 = Int64.ofInt (dY q W)) : Ok (f_Cu_seekStep 7 g) (fun p => p.1 = (if (bst q W (8 * sn q)).2.2 = none then 0 else 1) ∧ SK p.2 q W (8 * sn q) ∧ FC g p.2 ∧ p.2.2 138 3 = g.2 138 3 ∧ p.2.2 138 4 = g.2 138 4) := by
  have hn := hw.1
  have hb32 := b32 hw
  unfold f_Cu_seekStep
  refine ok_bd (ok_bd (ok_bd (ok_bindm (Q := fun r => SK r q W (8 * sn q) ∧ FC g r ∧ r.2 138 3 = g.2 138 3 ∧ r.2 138 4 = g.2 138 4) ?_ (fun r hr => ?_))))
  · refine ok_for (sn q) (by omega) (fun e z => SK z q W (8 * e) ∧ FC g z ∧ z.2 138 3 = g.2 138 3 ∧ z.2 138 4 = g.2 138 4) ⟨⟨fun i hi => ?_, ?_, ?_, ?_, ?_⟩, fun y hy => ⟨?_, ?_⟩, ?_, ?_⟩ ?_ ?_
    · rw [rN_f (show (uJ (uJ (uI g 138 5 (-1)) 138 8 _) 138 9 _).2 (146 + i) = g.2 (146 + i) from by rw [uJ_o _ _ _ (by omega), uJ_o _ _ _ (by omega)]; rfl)]; exact hD i hi
    · rw [uJ_k _ _ _ (by decide), uJ_s]; exact h3
    · rw [uJ_s, uJ_k _ _ _ (by decide)]; exact h4
    · show (uI g 138 5 (-1)).1 138 5 = _
      rw [uI_s]; rfl
    · intro c hc; cases hc
    · show (uI g 138 5 (-1)).1 y = _
      rw [uI_o _ _ _ (by omega)]
    · rw [uJ_o _ _ _ (by omega), uJ_o _ _ _ (by omega)]; rfl
    · rw [uJ_k _ _ _ (by decide), uJ_k _ _ _ (by decide)]; rfl
    · rw [uJ_k _ _ _ (by decide), uJ_k _ _ _ (by decide)]; rfl
    · rintro e z he ⟨z1, z2, z3, z4⟩
      show Ok (b_Cu_seekStep_13 7 (cI e) z) _
      unfold b_Cu_seekStep_13
      have hCz := (FC_I hw hC z2).1
      rw [hCz.1.1]
      refine ok_neg (le_no he (by omega)) ?_
      rw [pl_works hCz.1.2.2.2.1 hb32 (by omega)]
      by_cases hb : (sb q).testBit e = true
      · rw [if_pos hb]
        refine ok_pos rfl (ok_some ⟨c_succ e, ?_, z2, z3, z4⟩)
        have es := bst_skip (W := W) hb 8 (by decide)
        unfold SK at z1 ⊢
        rw [show 8 * (e + 1) = 8 * e + 8 by omega, es]; exact z1
      · rw [if_neg hb]
        refine ok_neg (by decide) (ok_bindm (Q := fun w => SK w q W (8 * e + 8) ∧ FC g w ∧ w.2 138 3 = g.2 138 3 ∧ w.2 138 4 = g.2 138 4) ?_ (fun w hw2 => ok_some ⟨c_succ e, by rw [show 8 * (e + 1) = 8 * e + 8 by omega]; exact hw2.1, hw2.2⟩))
        refine ok_for 4 (by decide) (fun p w => SK w q W (8 * e + 2 * p) ∧ FC g w ∧ w.2 138 3 = g.2 138 3 ∧ w.2 138 4 = g.2 138 4) ⟨z1, z2, z3, z4⟩ ?_ ?_
        · rintro p w hp ⟨w1, w2, w3, w4⟩
          show Ok (b_Cu_seekStep_23 7 (cI e) (cI p) w) _
          unfold b_Cu_seekStep_23
          have c1 : (8 * e + 2 * p) / 8 = e := by omega
          have c2 : (8 * e + 2 * p) / 2 % 4 = p := by omega
          have c3 : (8 * e + 2 * p + 1) / 8 = e := by omega
          have c4 : (8 * e + 2 * p + 1) / 2 % 4 = p := by omega
          have t1 := cu_try hw (FC_I hw hC w2).1 hW (c := 8 * e + 2 * p) (by rw [c1]; exact he) (by rw [c1]; exact hb) w1
          rw [c1, c2, show sgI (8 * e + 2 * p) = 1 from if_pos (by omega)] at t1
          refine ok_neg (le_no (a := 4) hp (by decide)) (ok_bindm t1 (fun u hu => ?_))
          have fu := FC_tr w2 hu.2.1
          have t2 := cu_try hw (FC_I hw hC fu).1 hW (c := 8 * e + 2 * p + 1) (by rw [c3]; exact he) (by rw [c3]; exact hb) hu.1
          rw [c3, c4, show sgI (8 * e + 2 * p + 1) = -1 from if_neg (by omega)] at t2
          refine ok_bindm t2 (fun v hv => ok_some ⟨c_succ p, by rw [show 8 * e + 2 * (p + 1) = 8 * e + 2 * p + 1 + 1 by omega]; exact hv.1, FC_tr fu hv.2.1, by rw [hv.2.2.1, hu.2.2.1]; exact w3, by rw [hv.2.2.2, hu.2.2.2]; exact w4⟩)
        · rintro w hw2
          show Ok (b_Cu_seekStep_23 7 (cI e) (cI 4) w) _
          unfold b_Cu_seekStep_23
          exact ok_pos (le_yes (a := 4) (Nat.le_refl _) (by decide)) (ok_some hw2)
    · rintro z ⟨z1, z2, z3, z4⟩
      show Ok (b_Cu_seekStep_13 7 (cI (sn q)) z) _
      unfold b_Cu_seekStep_13
      rw [(FC_I hw hC z2).1.1.1]
      exact ok_pos (le_yes (Nat.le_refl _) (by omega)) (ok_some ⟨z1, z2, z3, z4⟩)
  · rw [hr.1.2.2.2.1]
    cases ho : (bst q W (8 * sn q)).2.2 with
    | none => exact ok_pos rfl (ok_some ⟨by rw [if_pos rfl], hr⟩)
    | some c =>
      have hlt := ((bst_in q W (8 * sn q)).2 c ho).1.1
      exact ok_neg (cI_m1 (b := c / 8) (by omega)) (ok_some ⟨by rw [if_neg (by simp)], hr⟩)
