/-! powers, totals -/
/-- x + y r over L in lowest terms -/
def rp (x y L : Int) (k : Nat) : Int64 := Int64.ofInt (if k = 0 then x else if k = 1 then y else L) / nJ (Int.gcd (Int.gcd L x : Nat) y)
theorem rp_g {x y L : Int} (hL : b61 L) (h0 : L ≠ 0) : (b61 ((Int.gcd L x : Nat) : Int) ∧ ((Int.gcd L x : Nat) : Int) ≠ 0) ∧ ¬ nJ (Int.gcd (Int.gcd L x : Nat) y) = 0 := by
  have h1 := gcd_b (b := x) hL h0
  have h2 := gcd_b (b := y) h1.2 (by omega)
  refine ⟨⟨h1.2, by omega⟩, fun e => ?_⟩
  have h3 := h2.2
  unfold b61 at h3
  rw [nJ_0 (by omega)] at e
  omega
theorem da_real {x y L : Int} (hx : b61 x) (hy : b61 y) (hL : b61 L) (h0 : L ≠ 0) (p : Int32) (g : M2) : f_Da_realPart (Int64.ofInt x) (Int64.ofInt y) (Int64.ofInt L) p g = some (if inb p 3 then rp x y L p.toNatClampNeg else MN64) := by
  obtain ⟨⟨g1, g2⟩, g3⟩ := rp_g (x := x) (y := y) hL h0
  refine ok_to ?_
  unfold f_Da_realPart
  refine ok_binde (da_gcd hL.1 hL.2 hx.1 hx.2 g) (ok_binde (da_gcd g1.1 g1.2 hy.1 hy.2 g) (ok_neg g3 ?_))
  rw [show (3 : Int32) = cI 3 from rfl]
  simp only [da_among (show 3 < 2 ^ 31 by decide), if10e]
  by_cases c : inb p 3
  · refine ok_neg (fun e => e c) ?_
    rw [if_pos c]
    have hp := c.2
    have he := inb_to c
    generalize p.toNatClampNeg = e at hp he
    subst he
    have : e = 0 ∨ e = 1 ∨ e = 2 := by omega
    rcases this with rfl | rfl | rfl
    · exact ok_pos rfl (ok_neg g3 (ok_some rfl))
    · exact ok_neg (by decide) (ok_pos rfl (ok_neg g3 (ok_some rfl)))
    · exact ok_neg (by decide) (ok_neg (by decide) (ok_neg g3 (ok_some rfl)))
  · rw [if_neg c]
    exact ok_pos c (ok_some rfl)
theorem mo_real {x y L : Int} (hx : b61 x) (hy : b61 y) (hL : b61 L) (h0 : L ≠ 0) {p : Int32} (c : inb p 3) (g : M2) : f_Mo_toldPower (Int64.ofInt x) (Int64.ofInt y) (Int64.ofInt L) p g = some (rp x y L p.toNatClampNeg) := by
  obtain ⟨⟨g1, g2⟩, g3⟩ := rp_g (x := x) (y := y) hL h0
  refine ok_to ?_
  unfold f_Mo_toldPower
  refine ok_binde (mo_gcd hL.1 hL.2 hx.1 hx.2 g) (ok_binde (mo_gcd g1.1 g1.2 hy.1 hy.2 g) ?_)
  have hp := c.2
  have he := inb_to c
  generalize p.toNatClampNeg = e at hp he
  subst he
  have : e = 0 ∨ e = 1 ∨ e = 2 := by omega
  rcases this with rfl | rfl | rfl
  · exact ok_pos rfl (ok_neg g3 (ok_some rfl))
  · exact ok_neg (by decide) (ok_pos rfl (ok_neg g3 (ok_some rfl)))
  · exact ok_neg (by decide) (ok_neg (by decide) (ok_neg g3 (ok_some rfl)))
/-- the turned number, by powers -/
def psm (v : Q6) : Nat → Q6
  | 0 => (0, 0, 0, 0)
  | k + 1 => qadd (psm v k) (qsc (cmp v k) (rz (-(k : Int))))
theorem rz_n : rz (-((0 : Nat) : Int)) = (1, 0, 0, 0) ∧ rz (-((1 : Nat) : Int)) = (0, 1, 0, -1) ∧ rz (-((2 : Nat) : Int)) = (1, 0, -1, 0) ∧ rz (-((3 : Nat) : Int)) = (0, 0, 0, -1) := by decide +kernel
theorem psm_4 (v : Q6) : psm v 4 = cj v := by
  simp only [psm, cmp, if_true, Nat.one_ne_zero, if_false]
  rw [rz_n.1, rz_n.2.1, rz_n.2.2.1, rz_n.2.2.2]
  apply q_ext <;> simp [qadd, qsc, cj] <;> grind
theorem c_neg (k : Nat) : -(cI k) = Int32.ofInt (-(k : Int)) := by
  rw [Int32.ofInt_neg]; rfl
/-- what laying a power does -/
def LPw (g r : M2) (v : Z4) : Prop := r.1 = g.1 ∧ (∀ y, y ≠ 157 → y ≠ 158 → y ≠ 159 → r.2 y = g.2 y) ∧ (∀ j, j ≠ 3 → j ≠ 4 → r.2 157 j = g.2 157 j) ∧ (∀ b, b < 80 → rM r b = rM g b) ∧ (∀ b, 81 < b → b < 88 → rM r b = rM g b) ∧ r.2 157 3 = Int64.ofInt (pXz v) ∧ r.2 157 4 = Int64.ofInt (pYz v)
theorem rM_u7 (g : M2) (k : Nat) (x : Int64) (a : Nat) : rM (uJ g 157 k x) a = rM g a := by
  unfold rM; rw [uJ_o _ _ _ (by decide)]
theorem mo_laysPower {g : M2} (hp : PW g) {a : Nat} (ha : a < 80) {v : Z4} (hv : rM g a = q64 v) : Ok (f_Mo_laysPower (cI a) g) (fun r => LPw g r v) := by
  unfold f_Mo_laysPower
  refine ok_bindm (mn_clears (MN_rf g) (a := 81) (by decide)) (fun q1 h1 => ?_)
  refine ok_bindm (Q := fun r => MN g r (up (rM g) 81 (cj (q64 v)))) ?_ (fun e5 h5 => ?_)
  · refine ok_for 4 (by decide) (fun k z => MN g z (up (rM g) 81 (psm (q64 v) k))) h1 ?_ ?_
    · intro k z hk hz
      show Ok (b_Mo_laysPower_5 (cI a) (cI k) z) _
      unfold b_Mo_laysPower_5
      refine ok_neg (le_no (a := 4) hk (by decide)) (ok_binde (mo_part (by omega) hk z) ?_)
      rw [hz.2.2 a (by omega), up_o _ _ (by omega), hv, c_neg]
      refine ok_bindm (mn_addsPower hz hp (t := 81) (by decide) (by omega) (by omega) _) (fun r hr => ok_some ⟨c_succ k, ?_⟩)
      rw [up_s, up_up] at hr
      exact hr
    · intro z hz
      show Ok (b_Mo_laysPower_5 (cI a) (cI 4) z) _
      unfold b_Mo_laysPower_5
      rw [psm_4] at hz
      exact ok_pos (le_yes (a := 4) (Nat.le_refl _) (by decide)) (ok_some hz)
  · refine ok_bindm (mn_clears h5 (a := 80) (by decide)) (fun q6 h6 => ?_)
    refine ok_bindm (mn_addsProduct h6 hp (t := 80) (a := a) (b := 81) (by decide) (by omega) (by decide) 1) (fun q7 h7 => ?_)
    have h80 : rM q7 80 = q64 (re (pXz v) (pYz v)) := by
      rw [h7.2.2 80 (by decide), up_s, up_s, up_o _ _ (show a ≠ 80 by omega), up_o _ _ (show a ≠ 81 by omega), up_o _ _ (show 81 ≠ 80 by decide), up_s, hv, ← q64_cj]
      have e := pw_eq v
      have e2 : qmul (q64 v) (q64 (cj v)) = q64 (re (pXz v) (pYz v)) := by rw [← q64_mul, e]; rfl
      rw [e2]
      generalize q64 (re (pXz v) (pYz v)) = w
      apply q_ext <;> simp [qadd, qsc]
    refine ok_binde (mo_part (a := 80) (i := 0) (by decide) (by decide) q7) (ok_bd ?_)
    refine ok_binde (mo_part (a := 80) (i := 3) (by decide) (by decide) _) (ok_bd (ok_some ?_))
    rw [rM_u7, h80]
    refine ⟨h7.1, fun y y1 y2 y3 => by rw [uJ_o _ _ _ y1, uJ_o _ _ _ y1]; exact h7.2.1 y y2 y3, fun j j1 j2 => by rw [uJ_k _ _ _ j2, uJ_k _ _ _ j1, h7.2.1 157 (by decide) (by decide)], fun b hb => ?_, fun b hb hb2 => ?_, ?_, ?_⟩
    · rw [rM_u7, rM_u7, h7.2.2 b (by omega), up_o _ _ (by omega), up_o _ _ (by omega), up_o _ _ (by omega)]
    · rw [rM_u7, rM_u7, h7.2.2 b (by omega), up_o _ _ (by omega), up_o _ _ (by omega), up_o _ _ (by omega)]
    · rw [uJ_k _ _ _ (by decide), uJ_s]; rfl
    · rw [uJ_s]
      show -(Int64.ofInt (-(pYz v))) = _
      rw [o64_neg]
theorem pX_b {q : Sg} (hw : WF q) (h : qh q = true) (k : Nat) : 0 ≤ pXz (gnz (qw q) (qp q) (qm q) k) ∧ pXz (gnz (qw q) (qp q) (qm q) k) ≤ 2 ^ 57 ∧ -2 ^ 57 ≤ pYz (gnz (qw q) (qp q) (qm q) k) ∧ pYz (gnz (qw q) (qp q) (qm q) k) ≤ 2 ^ 57 := by
  obtain ⟨h1, h2, h3, h4, h5, _⟩ := q_on hw h
  have hb := gn_c (WF_m hw) h4 h1 h2 (fun i hi => Nat.le_of_lt (h5 i hi)) k
  generalize gnz (qw q) (qp q) (qm q) k = v at hb
  obtain ⟨a, b, c, d⟩ := v
  show 0 ≤ pX a b c d ∧ pX a b c d ≤ 2 ^ 57 ∧ -2 ^ 57 ≤ pY a b c d ∧ pY a b c d ≤ 2 ^ 57
  have hb' : 4 * pX a b c d ≤ 3 * (16777216 * 16777216) := hb
  unfold pX at hb' ⊢
  unfold pY
  have s1 : 0 ≤ (a + c) * (a + c) := by have := sq_nn (a + c); omega
  have s2 : 0 ≤ (b + d) * (b + d) := by have := sq_nn (b + d); omega
  have s3 := sq_nn a
  have s4 := sq_nn b
  have s5 := sq_nn c
  have s6 := sq_nn d
  have t1 := sq_nn (a - b)
  have t2 := sq_nn (a + b)
  have t3 := sq_nn (b - c)
  have t4 := sq_nn (b + c)
  have t5 := sq_nn (c - d)
  have t6 := sq_nn (c + d)
  have e1 : (a + c) * (a + c) = a * a + 2 * (a * c) + c * c := by grind
  have e2 : (b + d) * (b + d) = b * b + 2 * (b * d) + d * d := by grind
  have f1 : (a - b) * (a - b) = a * a - 2 * (a * b) + b * b := by grind
  have f2 : (a + b) * (a + b) = a * a + 2 * (a * b) + b * b := by grind
  have f3 : (b - c) * (b - c) = b * b - 2 * (b * c) + c * c := by grind
  have f4 : (b + c) * (b + c) = b * b + 2 * (b * c) + c * c := by grind
  have f5 : (c - d) * (c - d) = c * c - 2 * (c * d) + d * d := by grind
  have f6 : (c + d) * (c + d) = c * c + 2 * (c * d) + d * d := by grind
  omega
theorem FM_P {g r : M2} {v : Z4} (h : LPw g r v) : FM g r :=
  ⟨fun y hy => ⟨by rw [h.1], h.2.1 y (by omega) (by omega) (by omega)⟩, fun j _ => by rw [h.1]⟩
theorem L2_b {q : Sg} (hw : WF q) : b61 (qL q * qL q) ∧ qL q * qL q ≠ 0 := by
  obtain ⟨h1, h2⟩ := qL_b hw
  have h3 : 0 < qL q * qL q := Int.mul_pos h1 h1
  have h4 : qL q * qL q ≤ 9765625 * 9765625 := Int.mul_le_mul h2 h2 (by omega) (by omega)
  unfold b61
  omega
theorem pr_power {q : Sg} (hw : WF q) (x y : Int32) : Pr (f_Da_power x y) (f_Mo_power x y) q := by
  refine ⟨if qh q then (if inb x 12 then (if inb y 3 then rp (pXz (gnz (qw q) (qp q) (qm q) x.toNatClampNeg)) (pYz (gnz (qw q) (qp q) (qm q) x.toNatClampNeg)) (qL q * qL q) y.toNatClampNeg else MN64) else MN64) else MN64, q, hw, fun g hg => ?_, fun g hg => ?_⟩
  · unfold f_Da_power
    refine ok_bindm (da_refresh hw hg) (fun r hr => ?_)
    obtain ⟨a1, a2, a3⟩ := hr
    simp only [qh_e a2, da_dir, if10e]
    by_cases h : qh q = true
    · refine ok_neg (fun e => e h) ?_
      by_cases c : inb x 12
      · refine ok_neg (fun e => e c) (ok_pos c (ok_pos c ?_))
        have hv := a2.2.2.2.2.2.2.2 h
        have hx := c.2
        obtain ⟨x1, x2, x3, x4⟩ := pX_b hw h x.toNatClampNeg
        rw [hv.1.1, (hv.2.2 _ hx).1, (hv.2.2 _ hx).2, ← Int64.ofInt_mul]
        exact ok_binde (da_real ⟨by omega, by omega⟩ ⟨by omega, by omega⟩ (L2_b hw).1 (L2_b hw).2 y r) (ok_some ⟨by rw [if_pos h, if_pos c], a1, a3⟩)
      · exact ok_pos c (ok_some ⟨by rw [if_neg c, ite_self], a1, a3⟩)
    · exact ok_pos h (ok_some ⟨by rw [if_neg h], a1, a3⟩)
  · unfold f_Mo_power
    simp only [mo_dir, show (2 : Int64) = Int64.ofInt (((3 : Nat) : Int) - 1) from rfl, mo_in0 (show 3 < 2 ^ 31 by decide), if10e]
    by_cases c : inb x 12
    · refine ok_neg (fun e => e c) ?_
      by_cases c2 : inb y 3
      · refine ok_neg (fun e => e c2) (ok_bindm (mo_canNow hw hg) (fun r hr => ?_))
        obtain ⟨b1, b2, b3, b4, b5⟩ := hr
        rw [b1]
        simp only [if10e]
        by_cases h : qh q = true
        · refine ok_neg (fun e => e h) ?_
          obtain ⟨h1, h2, h3, h4, h5, _⟩ := q_on hw h
          have hv := b4.2.2.2.2.2 ⟨h3, h2⟩
          have hx := c.2
          obtain ⟨x1, x2, x3, x4⟩ := pX_b hw h x.toNatClampNeg
          rw [show (67 : Int32) = Int32.ofNat 67 from rfl, e_add 67 c]
          refine ok_bindm (mo_laysPower b3.1 (a := 67 + x.toNatClampNeg) (by omega) (hv.2.2.2.2.2.2 _ hx)) (fun q5 l => ?_)
          rw [l.2.2.2.2.2.1, l.2.2.2.2.2.2, l.2.2.1 16 (by decide) (by decide), hv.1, ← Int64.ofInt_mul]
          have hf := FM_P l
          exact ok_binde (mo_real ⟨by omega, by omega⟩ ⟨by omega, by omega⟩ (L2_b hw).1 (L2_b hw).2 c2 q5) (ok_some ⟨by rw [if_pos h, if_pos c, if_pos c2], IM_f b3 hf, FM_K (FM_tr b2 hf)⟩)
        · exact ok_pos h (ok_some ⟨by rw [if_neg h], b3, FM_K b2⟩)
      · exact ok_pos c2 (ok_some ⟨by rw [if_neg c2, ite_self, ite_self], hg, KM_rf g⟩)
    · exact ok_pos c (ok_some ⟨by rw [if_neg c, ite_self], hg, KM_rf g⟩)
theorem t_b {q : Sg} (hw : WF q) (h : qh q = true) : 0 ≤ tX (qw q) (qp q) (qm q) ∧ tX (qw q) (qp q) (qm q) ≤ 1953125 ∧ -1953125 ≤ tY (qw q) (qp q) (qm q) ∧ tY (qw q) (qp q) (qm q) ≤ 1953125 := by
  obtain ⟨h1, h2, h3, h4, h5, _⟩ := q_on hw h
  obtain ⟨s1, s2, s3⟩ := sh_re (WF_m hw) h4 h1 h2
  unfold tn at s2
  have h6 := sq_nn (tY (qw q) (qp q) (qm q))
  have h7 := abs_le (a := tY (qw q) (qp q) (qm q)) s2.1 (by omega)
  omega
theorem pr_total {q : Sg} (hw : WF q) (x : Int32) : Pr (f_Da_total x) (f_Mo_total x) q := by
  refine ⟨if qh q then (if inb x 3 then rp (tX (qw q) (qp q) (qm q)) (tY (qw q) (qp q) (qm q)) (qL q) x.toNatClampNeg else MN64) else MN64, q, hw, fun g hg => ?_, fun g hg => ?_⟩
  · unfold f_Da_total
    refine ok_bindm (da_refresh hw hg) (fun r hr => ?_)
    obtain ⟨a1, a2, a3⟩ := hr
    simp only [qh_e a2]
    by_cases h : qh q = true
    · refine ok_neg (fun e => e h) ?_
      obtain ⟨h1, h2, h3, h4, h5, _⟩ := q_on hw h
      have hv := a2.2.2.2.2.2.2.2 h
      have hsh := hv.1.2.1 0 h1
      have e1 : f_So_totalX 6 r = some (Int64.ofInt (tX (qw q) (qp q) (qm q))) := by
        unfold f_So_totalX f_Nu_realX tX
        exact congrArg some (congrArg (fun z : Q6 => z.1) hsh)
      have e2 : f_So_totalY 6 r = some (Int64.ofInt (tY (qw q) (qp q) (qm q))) := by
        unfold f_So_totalY f_Nu_realY tY
        have : r.2 (6 + 37 + 1 + 0) 3 = Int64.ofInt (shz (qw q) (qp q) (qm q) 0).2.2.2 := congrArg (fun z : Q6 => z.2.2.2) hsh
        rw [this, ← Int64.ofInt_neg]
      obtain ⟨t1, t2, t3, t4⟩ := t_b hw h
      refine ok_binde e1 (ok_binde e2 ?_)
      rw [hv.1.1]
      exact ok_binde (da_real ⟨by omega, by omega⟩ ⟨by omega, by omega⟩ (qL_1 hw).1 (qL_1 hw).2 x r) (ok_some ⟨by rw [if_pos h], a1, a3⟩)
    · exact ok_pos h (ok_some ⟨by rw [if_neg h], a1, a3⟩)
  · unfold f_Mo_total
    simp only [show (2 : Int64) = Int64.ofInt (((3 : Nat) : Int) - 1) from rfl, mo_in0 (show 3 < 2 ^ 31 by decide), if10e]
    by_cases c2 : inb x 3
    · refine ok_neg (fun e => e c2) (ok_bindm (mo_canNow hw hg) (fun r hr => ?_))
      obtain ⟨b1, b2, b3, b4, b5⟩ := hr
      rw [b1]
      simp only [if10e]
      by_cases h : qh q = true
      · refine ok_neg (fun e => e h) ?_
        obtain ⟨h1, h2, h3, h4, h5, _⟩ := q_on hw h
        have hv := b4.2.2.2.2.2 ⟨h3, h2⟩
        obtain ⟨t1, t2, t3, t4⟩ := t_b hw h
        rw [hv.1, hv.2.1, hv.2.2.1]
        exact ok_binde (mo_real ⟨by omega, by omega⟩ ⟨by omega, by omega⟩ (qL_1 hw).1 (qL_1 hw).2 c2 r.2) (ok_some ⟨by rw [if_pos h, if_pos c2], b3, FM_K b2⟩)
      · exact ok_pos h (ok_some ⟨by rw [if_neg h], b3, FM_K b2⟩)
    · exact ok_pos c2 (ok_some ⟨by rw [if_neg c2, ite_self], hg, KM_rf g⟩)
