/-! cuts: floor division, weights cut, their gains -/
theorem nn64 {z : Int} (h1 : -2 ^ 62 ≤ z) (h2 : z ≤ 2 ^ 62) : (Int64.ofInt z).toBitVec.msb = decide (z < 0) := by
  have e : (Int64.ofInt z).toBitVec.toInt = z := to64 h1 h2
  rw [BitVec.msb_eq_toInt, e]
theorem le0_msb (v : Int64) : (0 : Int64) ≤ v ↔ v.toBitVec.msb = false := by
  rw [Int64.le_iff_toInt_le, BitVec.msb_eq_toInt]
  show (0 : Int) ≤ v.toBitVec.toInt ↔ _
  rw [decide_eq_false_iff_not]
  omega
theorem ma_floor {x y : Int} (x1 : -2 ^ 61 ≤ x) (x2 : x ≤ 2 ^ 61) (y1 : 0 < y) (y2 : y ≤ 2 ^ 61) (g : M2) : f_Ma_floorDiv (Int64.ofInt x) (Int64.ofInt y) g = some (Int64.ofInt (x / y)) := by
  unfold f_Ma_floorDiv
  have hy0 : ¬ Int64.ofInt y = 0 := by rw [z64, eq64 (by omega) (by omega) (by omega) (by omega)]; omega
  rw [if_neg hy0, div64 (by omega) (by omega) (by omega) (by omega)]
  have hx : (Int64.ofInt x ^^^ Int64.ofInt y).toBitVec.msb = decide (x < 0) := by
    rw [Int64.toBitVec_xor, BitVec.msb_xor, nn64 (by omega) (by omega), nn64 (by omega) (by omega), decide_eq_false (show ¬ y < 0 by omega)]
    cases decide (x < 0) <;> rfl
  by_cases hs : x < 0
  · have h0 : ¬ (0 : Int64) ≤ Int64.ofInt x ^^^ Int64.ofInt y := by rw [le0_msb, hx, decide_eq_true hs]; decide
    rw [if_neg h0]
    have hm : x.tdiv y * y + x.tmod y = x := by rw [Int.mul_comm]; exact Int.mul_tdiv_add_tmod x y
    have hm1 : -y < x.tmod y := by
      have := Int.natAbs_tmod x y
      have h2 : x.natAbs % y.natAbs < y.natAbs := Nat.mod_lt _ (by omega)
      omega
    have hm2 : x.tmod y ≤ 0 := by
      have h3 := Int.tmod_nonneg (a := -x) y (by omega)
      rw [Int.neg_tmod] at h3
      omega
    have hb1 : -2 ^ 61 ≤ x.tdiv y * y ∧ x.tdiv y * y ≤ 2 ^ 61 := by omega
    rw [← Int64.ofInt_mul]
    have e := eq64 (a := x.tdiv y * y) (b := x) (by omega) (by omega) (by omega) (by omega)
    by_cases hz : x.tmod y = 0
    · rw [if_pos (e.mpr (by omega))]
      congr 2
      have : x = x.tdiv y * y := by omega
      conv => rhs; rw [this]
      rw [Int.mul_ediv_cancel _ (by omega)]
    · rw [if_neg (fun k => hz (by have := e.mp k; omega)), show (1 : Int64) = Int64.ofInt 1 from rfl, ← Int64.ofInt_sub]
      congr 2
      have e3 : x = (x.tdiv y - 1) * y + (x.tmod y + y) := by rw [Int.sub_mul]; omega
      have e4 : (x.tmod y + y) / y = 0 := Int.ediv_eq_zero_of_lt (by omega) (by omega)
      conv => rhs; rw [e3]
      rw [Int.add_comm, Int.add_mul_ediv_right _ _ (by omega), e4, Int.zero_add]
  · have h0 : (0 : Int64) ≤ Int64.ofInt x ^^^ Int64.ofInt y := by rw [le0_msb, hx, decide_eq_false hs]
    rw [if_pos h0, Int.tdiv_eq_ediv_of_nonneg (by omega)]
/-- one part cut -/
def ct (a s L : Int) : Int := (2 * (a * s) + L) / (2 * L)
def ctz (v : Z4) (s L : Int) : Z4 := (ct v.1 s L, ct v.2.1 s L, ct v.2.2.1 s L, ct v.2.2.2 s L)
theorem ct_0 {L : Int} (hL : 0 < L) (s : Int) : ct 0 s L = 0 := by
  unfold ct
  rw [Int.zero_mul, Int.mul_zero, Int.zero_add]
  exact Int.ediv_eq_zero_of_lt (by omega) (by omega)
theorem ctz_0 {L : Int} (hL : 0 < L) (s : Int) : ctz (0, 0, 0, 0) s L = (0, 0, 0, 0) := by
  unfold ctz
  simp only [ct_0 hL s]
theorem as_b {a : Int} {s : Nat} (a1 : -16777216 ≤ a) (a2 : a ≤ 16777216) (hs : s ≤ 99) : -1660944384 ≤ a * s ∧ a * s ≤ 1660944384 := by
  have := mul_b (a := (s : Int)) (b := a) (A := 99) (B := 16777216) (by omega) (by omega) (by omega) a2
  rw [Int.mul_comm (s : Int) a] at this
  omega
theorem cu_near {a L : Int} {s : Nat} (a1 : -16777216 ≤ a) (a2 : a ≤ 16777216) (hs : s ≤ 99) (l0 : 0 < L) (l1 : L ≤ 9765625) (g : M2) : f_Cu_nearestWhole (Int64.ofInt a * (cI s).toInt64) (Int64.ofInt L) g = some (Int64.ofInt (ct a s L)) := by
  have hb := as_b a1 a2 hs
  unfold f_Cu_nearestWhole
  have hl0 : ¬ Int64.ofInt L = 0 := by rw [z64, eq64 (by omega) (by omega) (by omega) (by omega)]; omega
  rw [if_neg hl0, ← Int64.ofInt_int32ToInt, cI_toInt (by omega), show (2 : Int64) = Int64.ofInt 2 from rfl, ← Int64.ofInt_mul, ← Int64.ofInt_mul, ← Int64.ofInt_mul, ← Int64.ofInt_add, ma_floor (by omega) (by omega) (by omega) (by omega)]
  rfl
/-- the weight of an element, cut -/
def cz (q : Sg) (s e : Nat) : Z4 := ctz (qv q e) s (qL q)
theorem qv_c {q : Sg} (hw : WF q) (h : qh q = true) {e : Nat} (he : e < sn q) : (-16777216 ≤ (qv q e).1 ∧ (qv q e).1 ≤ 16777216) ∧ (-16777216 ≤ (qv q e).2.1 ∧ (qv q e).2.1 ≤ 16777216) ∧ (-16777216 ≤ (qv q e).2.2.1 ∧ (qv q e).2.2.1 ≤ 16777216) ∧ (-16777216 ≤ (qv q e).2.2.2 ∧ (qv q e).2.2.2 ≤ 16777216) := by
  have hb := qv_b hw h he
  have := comp_le (v := qv q e) (N := 16777216) (by decide) hb
  omega
/-- the class cuts -/
def CC (g : M2) (q : Sg) (s : Nat) : Prop := ∀ e, e < sn q → rN g (140 + e) = q64 (cz q s e)
theorem cu_round {g : M2} {q : Sg} (hw : WF q) (h : qh q = true) (hC : IC g q) (hN : Now g q) {s : Nat} (hs : s ≤ 99) : Ok (f_Cu_roundAll 6 (cI s) g) (fun r => r.1 = g.1 ∧ (∀ y, ¬ (140 ≤ y ∧ y ≤ 144) → r.2 y = g.2 y) ∧ CC r q s) := by
  have hn := hw.1
  obtain ⟨l0, l1⟩ := qL_b hw
  have hv := (hN.2.2.2.2.2.2.2 h).1
  unfold f_Cu_roundAll
  refine ok_bindm (Q := fun r => r.1 = g.1 ∧ (∀ y, ¬ (140 ≤ y ∧ y ≤ 144) → r.2 y = g.2 y) ∧ CC r q s) ?_ (fun r hr => ok_some hr)
  refine ok_for (sn q) (by omega) (fun j z => z.1 = g.1 ∧ (∀ y, ¬ (140 ≤ y ∧ y ≤ 144) → z.2 y = g.2 y) ∧ ∀ e, e < j → rN z (140 + e) = q64 (cz q s e)) ⟨rfl, fun _ _ => rfl, fun e he => absurd he (by omega)⟩ ?_ ?_
  · rintro j z hj ⟨z1, z2, z3⟩
    show Ok (b_Cu_roundAll_2 6 (cI s) (cI j) z) _
    unfold b_Cu_roundAll_2
    rw [z1, show g.1 (6 + 1) 2 = cI (sn q) from hC.1.1]
    refine ok_neg (le_no hj (by omega)) (ok_pos (inb_cI (by omega) (by decide)) (ok_pos (inb_cI (by omega) (by decide)) ?_))
    rw [cI_nat (by omega)]
    have hw1 : rN z (6 + 43 + 1 + j) = q64 (qv q j) := by
      rw [rN_f (z2 _ (by omega))]; exact hv.2.2 j hj
    have hl : z.2 6 16 = Int64.ofInt (qL q) := by rw [z2 6 (by omega)]; exact hv.1
    have w0 : z.2 (6 + 43 + 1 + j) 0 = Int64.ofInt (qv q j).1 := congrArg (fun v : Q6 => v.1) hw1
    have w1 : z.2 (6 + 43 + 1 + j) 1 = Int64.ofInt (qv q j).2.1 := congrArg (fun v : Q6 => v.2.1) hw1
    have w2 : z.2 (6 + 43 + 1 + j) 2 = Int64.ofInt (qv q j).2.2.1 := congrArg (fun v : Q6 => v.2.2.1) hw1
    have w3 : z.2 (6 + 43 + 1 + j) 3 = Int64.ofInt (qv q j).2.2.2 := congrArg (fun v : Q6 => v.2.2.2) hw1
    obtain ⟨⟨a1, a2⟩, ⟨b1, b2⟩, ⟨c1, c2⟩, d1, d2⟩ := qv_c hw h hj
    rw [w0, w1, w2, w3, hl]
    refine ok_binde (cu_near a1 a2 hs l0 l1 z) (ok_binde (cu_near b1 b2 hs l0 l1 z) (ok_binde (cu_near c1 c2 hs l0 l1 z) (ok_binde (cu_near d1 d2 hs l0 l1 z) (ok_binde (nu_setParts _ _ _ _ _ z) (ok_some ⟨c_succ j, z1, fun y hy => ?_, fun e he => ?_⟩)))))
    · rw [sN_o _ _ (by omega)]; exact z2 y hy
    · by_cases hej : e = j
      · subst hej
        rw [show 139 + 1 + e = 140 + e by omega, rN_sN]; rfl
      · rw [rN_sNo _ _ (by omega)]; exact z3 e (by omega)
  · rintro z ⟨z1, z2, z3⟩
    show Ok (b_Cu_roundAll_2 6 (cI s) (cI (sn q)) z) _
    unfold b_Cu_roundAll_2
    rw [z1, show g.1 (6 + 1) 2 = cI (sn q) from hC.1.1]
    exact ok_pos (le_yes (Nat.le_refl _) (by omega)) (ok_some ⟨z1, z2, z3⟩)
/-- the reference cuts -/
def stc (v : Q6) (k : Nat) : Q6 := (if 0 < k then v.1 else 0, if 1 < k then v.2.1 else 0, if 2 < k then v.2.2.1 else 0, if 3 < k then v.2.2.2 else 0)
theorem stc_s (v : Q6) {k : Nat} (hk : k < 4) : setc (stc v k) k (cmp v k) = stc v (k + 1) := by
  have h4 : k = 0 ∨ k = 1 ∨ k = 2 ∨ k = 3 := by omega
  rcases h4 with h | h | h | h <;> subst h <;> rfl
theorem q_wk {r : M2} {q : Sg} (hQ : Mqr r q) {e : Nat} (he : e < sn q) (hb : ¬ (sb q).testBit e = true) : r.1 166 e = cI (wkl (sp q) (sb q) e).length ∧ (wkl (sp q) (sb q) e).length < (qp q).length ∧ rM r (62 + (wkl (sp q) (sb q) e).length) = q64 (qv q e) := by
  have h1 := hQ.2.2.2 e he
  rw [Nat.or_zero, if_neg hb] at h1
  obtain ⟨i1, i2⟩ := wk_idx (sp q) (sb q) (sn q) e he hb
  refine ⟨h1, i1, ?_⟩
  have h2 := hQ.2.2.1.2.2.2.2.2.1 _ i1
  rw [h2]
  show q64 (wtz (qw q) (qp q) (qm q) ((wkl (sp q) (sb q) (sn q)).getD (wkl (sp q) (sb q) e).length 0)) = _
  rw [i2]
  show _ = q64 (wte (qw q) (qp q) (qm q) (sp q) (sb q) e)
  unfold wte
  rw [if_neg hb]
theorem q_br {r : M2} {q : Sg} (hQ : Mqr r q) {e : Nat} (he : e < sn q) (hb : (sb q).testBit e = true) : r.1 166 e = -1 := by
  have h1 := hQ.2.2.2 e he
  rw [Nat.or_zero, if_pos hb] at h1
  exact h1
theorem qv_0 {q : Sg} {e : Nat} (hb : (sb q).testBit e = true) : qv q e = (0, 0, 0, 0) := by
  show wte (qw q) (qp q) (qm q) (sp q) (sb q) e = _
  unfold wte; rw [if_pos hb]
theorem mo_cuts {g : M2} {q : Sg} (hw : WF q) (h : qh q = true) (hQ : Mqr g q) {s : Nat} (hs : s ≤ 99) : Ok (f_Mo_laysCuts (cI s) g) (fun r => ∃ D, MN g r D ∧ (∀ e, e < sn q → D (82 + e) = q64 (cz q s e)) ∧ ∀ b, b < 82 ∨ b = 87 → D b = rM g b) := by
  have hn := hw.1
  obtain ⟨l0, l1⟩ := qL_b hw
  have hlen := q5 hw
  unfold f_Mo_laysCuts
  refine ok_bindm (Q := fun r => ∃ D, MN g r D ∧ (∀ e, e < sn q → D (82 + e) = q64 (cz q s e)) ∧ ∀ b, b < 82 ∨ b = 87 → D b = rM g b) ?_ (fun r hr => ok_some hr)
  refine ok_for (sn q) (by omega) (fun j z => ∃ D, MN g z D ∧ (∀ e, e < j → D (82 + e) = q64 (cz q s e)) ∧ ∀ b, b < 82 ∨ b = 87 → D b = rM g b) ⟨_, MN_rf g, fun e he => absurd he (by omega), fun _ _ => rfl⟩ ?_ ?_
  · rintro j z hj ⟨D, hD, hD1, hD2⟩
    show Ok (b_Mo_laysCuts_2 (cI s) (cI j) z) _
    unfold b_Mo_laysCuts_2
    rw [hD.1, hQ.1.2.1.2.1, show (82 : Int32) = cI 82 from rfl, cI_add]
    refine ok_neg (le_no hj (by omega)) (ok_bindm (mn_clears hD (a := 82 + j) (by omega)) (fun z2 hz2 => ?_))
    have fin : ∀ w : M2, MN g w (up D (82 + j) (q64 (cz q s j))) → Ok (some (Sum.inl (cI j + (1 : Int32), w)) : Option ((Int32 × M2) ⊕ M2)) (fun r => Sum.elim (fun s2 => s2.1 = cI (j + 1) ∧ ∃ D, MN g s2.2 D ∧ (∀ e, e < j + 1 → D (82 + e) = q64 (cz q s e)) ∧ ∀ b, b < 82 ∨ b = 87 → D b = rM g b) (fun r => ∃ D, MN g r D ∧ (∀ e, e < sn q → D (82 + e) = q64 (cz q s e)) ∧ ∀ b, b < 82 ∨ b = 87 → D b = rM g b) r) := by
      intro w hw2
      refine ok_some ⟨c_succ j, _, hw2, fun e he => ?_, fun b hb => ?_⟩
      · by_cases hej : e = j
        · subst hej; rw [up_s]
        · rw [up_o _ _ (by omega)]; exact hD1 e (by omega)
      · rw [up_o _ _ (by omega)]; exact hD2 b hb
    have ij : inb (cI j) 5 := inb_cI (by omega) (by decide)
    by_cases hb : (sb q).testBit j = true
    · refine ok_bindm (Q := fun w => w = z2) ?_ (fun w hw2 => ?_)
      · refine ok_ct (fun _ => ((0 : Int32), z2)) 0 (by decide) rfl (fun k hk => absurd hk (by omega)) ?_
        show Ok (b_Mo_laysCuts_15 (cI s) (cI j) (0 : Int32) z2) _
        unfold b_Mo_laysCuts_15
        refine ok_neg (by decide) (ok_pos ij ?_)
        have e166 : z2.1 166 (cI j).toNatClampNeg = -1 := by rw [cI_nat (by omega), hz2.1]; exact q_br hQ hj hb
        exact ok_pos e166 (ok_some rfl)
      · subst hw2
        refine fin w ?_
        show MN g w (up D (82 + j) (q64 (ctz (qv q j) s (qL q))))
        rw [qv_0 hb, ctz_0 l0, q64_z]; exact hz2
    · obtain ⟨i1, i2, i3⟩ := q_wk hQ hj hb
      refine ok_bindm (Q := fun w => MN g w (up D (82 + j) (q64 (cz q s j)))) ?_ (fun w hw2 => fin w hw2)
      refine ok_for 4 (by decide) (fun k w => MN g w (up D (82 + j) (stc (q64 (cz q s j)) k))) hz2 ?_ ?_
      · rintro k w hk hw2
        show Ok (b_Mo_laysCuts_15 (cI s) (cI j) (cI k) w) _
        unfold b_Mo_laysCuts_15
        refine ok_neg (le_no (a := 4) hk (by decide)) (ok_pos ij ?_)
        simp only [cI_nat (show j < 2 ^ 31 by omega), hw2.1, i1]
        refine ok_neg (cI_m1 (by omega)) (ok_pos ij ?_)
        rw [show (62 : Int32) = cI 62 from rfl, cI_add, show (82 : Int32) = cI 82 from rfl, cI_add, show (4 : Int32) = cI 4 from rfl, cI_mul, cI_add]
        refine ok_binde (mo_part (a := 62 + (wkl (sp q) (sb q) j).length) (by omega) hk w) ?_
        have e1 : rM w (62 + (wkl (sp q) (sb q) j).length) = q64 (qv q j) := by
          rw [hw2.2.2 _ (by omega), up_o _ _ (by omega), hD2 _ (by omega)]; exact i3
        have e2 : w.2 157 16 = Int64.ofInt (qL q) := by rw [hw2.2.1 157 (by decide) (by decide)]; exact hQ.2.2.1.1
        rw [e1, e2, cmp_z (L := 0) hk]
        have hbd : -16777216 ≤ cmz (qv q j) 0 k ∧ cmz (qv q j) 0 k ≤ 16777216 := by
          obtain ⟨a, b, c, d⟩ := qv_c hw h hj
          have h4 : k = 0 ∨ k = 1 ∨ k = 2 ∨ k = 3 := by omega
          rcases h4 with e | e | e | e <;> subst e
          · exact a
          · exact b
          · exact c
          · exact d
        have hab := as_b hbd.1 hbd.2 hs
        have e3 : ((2 : Int64) * (cI s).toInt64 * Int64.ofInt (cmz (qv q j) 0 k)) + Int64.ofInt (qL q) = Int64.ofInt (2 * (cmz (qv q j) 0 k * s) + qL q) := by
          rw [← Int64.ofInt_int32ToInt, cI_toInt (by omega), show (2 : Int64) = Int64.ofInt 2 from rfl, ← Int64.ofInt_mul, ← Int64.ofInt_mul, ← Int64.ofInt_add]
          congr 2
          rw [Int.mul_assoc, Int.mul_comm (s : Int)]
        rw [e3, show (2 : Int64) * Int64.ofInt (qL q) = Int64.ofInt (2 * qL q) by rw [Int64.ofInt_mul]; rfl]
        refine ok_binde (ma_floor (by omega) (by omega) (by omega) (by omega) w) (ok_pos (inb_cI (by omega) (by decide)) (ok_bd (ok_some ⟨c_succ k, ?_⟩)))
        rw [cI_nat (by omega)]
        have h5 := MN_c hw2 (82 + j) (by omega) hk (Int64.ofInt ((2 * (cmz (qv q j) 0 k * s) + qL q) / (2 * qL q)))
        rw [up_up, up_s] at h5
        have e4 : Int64.ofInt ((2 * (cmz (qv q j) 0 k * s) + qL q) / (2 * qL q)) = cmp (q64 (cz q s j)) k := by
          have h4 : k = 0 ∨ k = 1 ∨ k = 2 ∨ k = 3 := by omega
          rcases h4 with e | e | e | e <;> subst e <;> rfl
        rw [e4, stc_s _ hk] at h5
        rw [e4]
        exact h5
      · rintro w hw2
        show Ok (b_Mo_laysCuts_15 (cI s) (cI j) (cI 4) w) _
        unfold b_Mo_laysCuts_15
        exact ok_pos (le_yes (a := 4) (Nat.le_refl _) (by decide)) (ok_some hw2)
  · rintro z ⟨D, hD, hD1, hD2⟩
    show Ok (b_Mo_laysCuts_2 (cI s) (cI (sn q)) z) _
    unfold b_Mo_laysCuts_2
    rw [hD.1, hQ.1.2.1.2.1]
    exact ok_pos (le_yes (Nat.le_refl _) (by omega)) (ok_some ⟨D, hD, hD1, hD2⟩)
/-- what the reference has when its weights are cut -/
def MC (g r : M2) (q : Sg) (s : Nat) : Prop := ∃ D, MN g r D ∧ (∀ e, e < sn q → D (82 + e) = q64 (cz q s e)) ∧ ∀ b, b < 82 → D b = rM g b
theorem mo_cutsNow {A : Type} {q : Sg} (hw : WF q) {g : M2} (hg : IM g q) {K : Int32 × M2 → Option (A × M2)} {N v : A} (hn : ¬ qh q = true → v = N) (hK : qh q = true → ∀ r z, Mqr r q → MC r z q (ss q) → Ok (K (1, z)) (fun p => p.1 = v ∧ FM z p.2)) : Ok ((f_Mo_cutsNow g).bind fun q2 => if q2.1 = 0 then some (N, q2.2) else K q2) (fun p => p.1 = v ∧ IM p.2 q ∧ KM g p.2) := by
  unfold f_Mo_cutsNow
  refine ok_bind ?_
  refine ok_bindm (mo_canNow hw hg) (fun r hr => ?_)
  obtain ⟨b1, b2, b3, b4, b5⟩ := hr
  rw [b1]
  refine ok_grd rfl (fun h => ok_some (ok_pos rfl (ok_some ⟨(hn h).symm, b3, FM_K b2⟩))) (fun h => ?_)
  obtain ⟨h1, h2, h3, h4, h5, _⟩ := q_on hw h
  have hQ : Mqr r.2 q := ⟨b3, b4.1, b4.2.2.2.2.2 ⟨h3, h2⟩, b5⟩
  have es : r.2.1 160 0 = cI (ss q) := b3.2.1.1
  rw [es]
  refine ok_bindm (mo_cuts hw h hQ (s := ss q) hw.2.2.2.2.2.2.2.2.1) (fun z hz => ok_some (ok_neg (show ¬ (1 : Int32) = 0 by decide) ?_))
  obtain ⟨D, hD, hD1, hD2⟩ := hz
  have hf : FM r.2 z := FM_N hD
  exact ok_mono (hK h r.2 z hQ ⟨D, hD, hD1, fun b hb => hD2 b (Or.inl hb)⟩) (fun p hp => ⟨hp.1, IM_f b3 (FM_tr hf hp.2), FM_K (FM_tr b2 (FM_tr hf hp.2))⟩)
theorem cz_0 {q : Sg} (hw : WF q) {e : Nat} (hb : (sb q).testBit e = true) (s : Nat) : cz q s e = (0, 0, 0, 0) := by
  unfold cz; rw [qv_0 hb, ctz_0 (qL_b hw).1]
/-- a gain by cut weights -/
def cg (q : Sg) (W : Nat → Z4) (k n : Nat) : Z4 := zsum (((List.range n).filter (fun i => !(sb q).testBit i)).map (fun e => qmul (W e) (rt (k * sp q e))))
theorem cg_s (q : Sg) (W : Nat → Z4) (k n : Nat) : cg q W k (n + 1) = if (sb q).testBit n then cg q W k n else qadd (cg q W k n) (qmul (W n) (rt (k * sp q n))) := by
  unfold cg
  rw [List.range_succ, List.filter_append, List.map_append]
  by_cases h : (sb q).testBit n = true
  · rw [if_pos h]; simp [h]
  · rw [if_neg h]
    simp only [List.filter_cons, h, Bool.not_false, if_true, List.filter_nil, List.map_cons, List.map_nil]
    rw [zsum_app]
theorem mo_cutGain {b z : M2} {D : Nat → Q6} {q : Sg} (hw : WF q) (hI : IM b q) (hD : MN b z D) {W : Nat → Z4} (hW : ∀ e, e < sn q → D (82 + e) = q64 (W e)) (h0 : ∀ e, e < sn q → (sb q).testBit e = true → W e = (0, 0, 0, 0)) {k : Nat} (hk : k < 12) : Ok (f_Mo_laysCutGain (cI k) z) (fun r => MN b r (up D 87 (q64 (cg q W k (sn q))))) := by
  have hn := hw.1
  unfold f_Mo_laysCutGain
  refine ok_bindm (mn_clears hD (a := 87) (by decide)) (fun z1 hz1 => ?_)
  refine ok_bindm (Q := fun r => MN b r (up D 87 (q64 (cg q W k (sn q))))) ?_ (fun r hr => ok_some hr)
  refine ok_for (sn q) (by omega) (fun e w => MN b w (up D 87 (q64 (cg q W k e)))) hz1 ?_ ?_
  · intro e w he hw2
    show Ok (b_Mo_laysCutGain_5 (cI k) (cI e) w) _
    unfold b_Mo_laysCutGain_5
    rw [hw2.1, hI.2.1.2.1, show (2 : Int32) = cI 2 from rfl, cI_add, show (82 : Int32) = cI 82 from rfl, cI_add]
    refine ok_neg (le_no he (by omega)) (ok_pos (inb_cI (by omega) (by decide)) ?_)
    have hp12 := prod12 hk (hw.2.1 e he)
    rw [cI_nat (by omega), hI.2.1.2.2.1 e he, c_mul2]
    refine ok_bindm (mn_addsTurned hw2 hI.1 (t := 87) (a := 82 + e) (by decide) (by omega) (by omega) (by omega) (by omega) 1) (fun r hr => ok_some ⟨c_succ e, ?_⟩)
    rw [up_up, up_s, up_o _ _ (by omega), hW e he, rz_nat, qsc_1] at hr
    rw [cg_s]
    by_cases hb : (sb q).testBit e = true
    · rw [if_pos hb]
      rw [h0 e he hb, q64_z] at hr
      have e0 : qadd (q64 (cg q W k e)) (qmul (0, 0, 0, 0) (rt6 (k * sp q e))) = q64 (cg q W k e) := by
        generalize q64 (cg q W k e) = v
        generalize rt6 (k * sp q e) = u
        apply q_ext <;> simp [qadd, qmul]
      rw [e0] at hr
      exact hr
    · rw [if_neg hb, q64_add, q64_mul]; exact hr
  · intro w hw2
    show Ok (b_Mo_laysCutGain_5 (cI k) (cI (sn q)) w) _
    unfold b_Mo_laysCutGain_5
    rw [hw2.1, hI.2.1.2.1]
    exact ok_pos (le_yes (Nat.le_refl _) (by omega)) (ok_some hw2)
theorem da_cutGain {g : M2} {q : Sg} (hC : IC g q) {s : Nat} (hc : CC g q s) {k t : Nat} (hk : k < 12) (ht : ∀ e, e < 5 → 140 + e ≠ t) : Ok (f_Pl_hearBy 7 139 (cI k) t g) (fun r => r.1 = g.1 ∧ (∀ y, y ≠ t → r.2 y = g.2 y) ∧ rN r t = q64 (cg q (cz q s) k (sn q)) ∧ ∀ y j, 4 ≤ j → r.2 y j = g.2 y j) := by
  refine ok_mono (pl_hearBy (A := fun y => y = t) (CN_rf _ g) hC.1 (w := 139) (k := k) (t := t) hk rfl (fun e he => by have := ht e he; omega) (cz q s) (fun e he => by
    show rN g (139 + 1 + e) = _
    rw [show 139 + 1 + e = 140 + e by omega]; exact hc e he)) (fun r hr => ⟨hr.1, fun y hy => hr.2.1 y hy, ?_, hr.2.2.1⟩)
  rw [hr.2.2.2, up_s]; rfl
theorem pr_cut {q : Sg} (hw : WF q) (x y : Int32) : Pr (f_Da_cut x y) (f_Mo_cut x y) q := by
  have hn := hw.1
  refine ⟨if qh q = true ∧ inb x (sn q) ∧ inb y 4 then cmp (q64 (cz q (ss q) x.toNatClampNeg)) y.toNatClampNeg else MN64, q, hw, cs_ref hw (fun g => rfl) (fun n => if_neg (fun e => n e.1)) (fun h r hC hN => ?_), fun g hg => ?_⟩
  · rw [show (4 : Int32) = cI 4 from rfl]
    refine ok_grd (da_has hw hC) (fun n => ok_some ⟨(if_neg (fun e => n e.2.1)).symm, hC, KC_rf r⟩) (fun c1 => ok_grd (da_among (by decide) r) (fun n => ok_some ⟨(if_neg (fun e => n e.2.2)).symm, hC, KC_rf r⟩) (fun c2 => ?_))
    rw [hC.2.1, if_pos (show qh q = true ∧ inb x (sn q) ∧ inb y 4 from ⟨h, c1, c2⟩)]
    refine ok_bindm (cu_round hw h hC hN hw.2.2.2.2.2.2.2.2.1) (fun z hz => ok_pos ⟨c1.1, by have := c1.2; omega⟩ (ok_some ⟨?_, IC_7 hw hC hz.1 (fun t ht _ => hz.2.1 t (fun e => ht (by unfold qc; omega))) (fun t ht => hz.2.1 t (by omega))⟩))
    have hv := hz.2.2 _ c1.2
    show f_Nu_part (139 + 1 + x.toNatClampNeg) y z = _
    rw [show 139 + 1 + x.toNatClampNeg = 140 + x.toNatClampNeg by omega]
    have e := nu_part hv (L := 0) c2.2
    rw [← inb_to c2] at e
    rw [e, cmp_z (L := 0) c2.2]
  · unfold f_Mo_cut
    refine ok_binde (mo_elem hw hg.2.1) ?_
    rw [show (3 : Int64) = Int64.ofInt (((4 : Nat) : Int) - 1) from rfl]
    refine ok_grd rfl (fun n => ok_some ⟨(if_neg (fun e => n e.2.1)).symm, hg, KM_rf g⟩) (fun c1 => ok_grd (mo_in0 (by decide) g) (fun n => ok_some ⟨(if_neg (fun e => n e.2.2)).symm, hg, KM_rf g⟩) (fun c2 => mo_cutsNow hw hg (fun n => if_neg (fun e => n e.1)) (fun h r z hQ hz => ?_)))
    obtain ⟨D, hD, hD1, hD2⟩ := hz
    rw [if_pos (show qh q = true ∧ inb x (sn q) ∧ inb y 4 from ⟨h, c1, c2⟩)]
    have h5 : x.toNatClampNeg < 5 := by have := c1.2; omega
    have e := mo_part (a := 82 + x.toNatClampNeg) (by omega) c2.2 z
    rw [← inb_to c2, ← e_add 82 c1] at e
    refine ok_binde e (ok_some ⟨?_, FM_rf z⟩)
    show cmp (rM z (82 + x.toNatClampNeg)) y.toNatClampNeg = _
    rw [hD.2.2 _ (by omega), hD1 _ c1.2]
theorem pr_cutGain {q : Sg} (hw : WF q) (x y : Int32) : Pr (f_Da_cutGain x y) (f_Mo_cutGain x y) q := by
  have hn := hw.1
  refine ⟨if qh q = true ∧ inb x 12 ∧ inb y 4 then cmp (q64 (cg q (cz q (ss q)) x.toNatClampNeg (sn q))) y.toNatClampNeg else MN64, q, hw, cs_ref hw (fun g => rfl) (fun n => if_neg (fun e => n e.1)) (fun h r hC hN => ?_), fun g hg => ?_⟩
  · rw [show (4 : Int32) = cI 4 from rfl]
    refine ok_grd (da_dir r) (fun n => ok_some ⟨(if_neg (fun e => n e.2.1)).symm, hC, KC_rf r⟩) (fun c1 => ok_grd (da_among (by decide) r) (fun n => ok_some ⟨(if_neg (fun e => n e.2.2)).symm, hC, KC_rf r⟩) (fun c2 => ?_))
    rw [hC.2.1, if_pos (show qh q = true ∧ inb x 12 ∧ inb y 4 from ⟨h, c1, c2⟩)]
    refine ok_bindm (cu_round hw h hC hN hw.2.2.2.2.2.2.2.2.1) (fun z hz => ?_)
    have hI := IC_7 hw hC hz.1 (fun t ht _ => hz.2.1 t (fun e => ht (by unfold qc; omega))) (fun t ht => hz.2.1 t (by omega))
    have hg := da_cutGain hI.1 hz.2.2 c1.2 (t := 155) (fun e he => by omega)
    rw [← inb_to c1] at hg
    refine ok_bindm hg (fun w hw2 => ok_some ⟨?_, ?_⟩)
    · have e := nu_part hw2.2.2.1 (L := 0) c2.2
      rw [← inb_to c2] at e
      show f_Nu_part 155 y w = _
      rw [e, cmp_z (L := 0) c2.2]
    · have hI2 := IC_7 hw hI.1 hw2.1 (fun t ht _ => hw2.2.1 t (fun e => ht (by unfold qc; omega))) (fun t ht => hw2.2.1 t (by omega))
      exact ⟨hI2.1, KC_tr hI.2 hI2.2⟩
  · unfold f_Mo_cutGain
    rw [show (3 : Int64) = Int64.ofInt (((4 : Nat) : Int) - 1) from rfl]
    refine ok_grd (mo_dir g) (fun n => ok_some ⟨(if_neg (fun e => n e.2.1)).symm, hg, KM_rf g⟩) (fun c1 => ok_grd (mo_in0 (by decide) g) (fun n => ok_some ⟨(if_neg (fun e => n e.2.2)).symm, hg, KM_rf g⟩) (fun c2 => mo_cutsNow hw hg (fun n => if_neg (fun e => n e.1)) (fun h r z hQ hz => ?_)))
    obtain ⟨D, hD, hD1, hD2⟩ := hz
    rw [if_pos (show qh q = true ∧ inb x 12 ∧ inb y 4 from ⟨h, c1, c2⟩)]
    have hcg := mo_cutGain hw hQ.1 hD hD1 (fun e _ hb => cz_0 hw hb _) c1.2
    rw [← inb_to c1] at hcg
    refine ok_bindm hcg (fun w hw2 => ?_)
    have e := mo_part (a := 87) (by decide) c2.2 w
    rw [← inb_to c2] at e
    refine ok_binde e (ok_some ⟨?_, ?_⟩)
    · show cmp (rM w 87) y.toNatClampNeg = _
      rw [hw2.2.2 87 (by decide), up_s]
    · exact ⟨fun t ht => ⟨by rw [hw2.1, hD.1], by rw [hw2.2.1 t (by omega) (by omega), hD.2.1 t (by omega) (by omega)]⟩, fun j _ => by rw [hw2.1, hD.1]⟩
