/-! powers against a bound; loud, hush, beam -/
theorem pw_c {q : Sg} (hw : WF q) (h : qh q = true) (k : Nat) : 0 ≤ pXz (qg q k) ∧ pXz (qg q k) ≤ 2 ^ 48 ∧ -2 ^ 48 ≤ pYz (qg q k) ∧ pYz (qg q k) ≤ 2 ^ 48 := by
  obtain ⟨h1, h2, h3, h4, h5, _⟩ := q_on hw h
  have hb := gn_c (WF_m hw) h4 h1 h2 (fun i hi => Nat.le_of_lt (h5 i hi)) k
  have hx : 0 ≤ pXz (qg q k) := (pX_b hw h k).1
  have hz : tn (pXz (qg q k)) (pYz (qg q k)) := p_tn _ _ _ _
  unfold tn at hz
  have hb' : 4 * pXz (qg q k) ≤ 3 * (16777216 * 16777216) := hb
  have hy := abs_le (a := pYz (qg q k)) (N := pXz (qg q k)) hx (by have := sq_nn (pYz (qg q k)); have := hz.2; omega)
  omega
abbrev fr (x y : Int32) : Prop := (0 ≤ x.toInt ∧ x.toInt ≤ 99) ∧ 1 ≤ y.toInt ∧ y.toInt ≤ 99
theorem da_frac (x y : Int32) (g : M2) : f_Da_isFraction x y g = if fr x y then 1 else 0 := by
  unfold f_Da_isFraction
  simp only [Int32.lt_iff_toInt_lt, show (0 : Int32).toInt = 0 from rfl, show (99 : Int32).toInt = 99 from rfl, show (1 : Int32).toInt = 1 from rfl]
  by_cases h : fr x y
  · obtain ⟨⟨h1, h2⟩, h3, h4⟩ := id h
    rw [if_pos h, if_neg (by omega), if_neg (by omega), if_neg (by omega), if_neg (by omega)]
  · rw [if_neg h]
    by_cases c1 : x.toInt < 0
    · rw [if_pos c1]
    · rw [if_neg c1]
      by_cases c2 : 99 < x.toInt
      · rw [if_pos c2]
      · rw [if_neg c2]
        by_cases c3 : y.toInt < 1
        · rw [if_pos c3]
        · have : ¬ y.toInt ≤ 99 := fun e => h ⟨⟨by omega, by omega⟩, by omega, e⟩
          rw [if_neg c3, if_pos (by omega)]
theorem mo_frac (x y : Int32) (g : M2) : f_Mo_isBound x y g = if fr x y then 1 else 0 := by
  unfold f_Mo_isBound
  rw [z64, show (99 : Int64) = Int64.ofInt 99 from rfl, show (1 : Int64) = Int64.ofInt 1 from rfl, mo_inI (by decide) (by decide) (by decide) (by decide), mo_inI (by decide) (by decide) (by decide) (by decide)]
  by_cases h1 : 0 ≤ x.toInt ∧ x.toInt ≤ 99
  · rw [if_pos h1, if_neg (by decide)]
    by_cases h2 : 1 ≤ y.toInt ∧ y.toInt ≤ 99
    · rw [if_pos h2, if_neg (by decide), if_pos ⟨h1, h2⟩]
    · rw [if_neg h2, if_pos rfl, if_neg (fun e => h2 e.2)]
  · rw [if_neg h1, if_pos rfl, if_neg (fun e => h1 e.1)]
theorem mul_b {a b A B : Int} (a0 : 0 ≤ a) (a1 : a ≤ A) (b0 : -B ≤ b) (b1 : b ≤ B) : -(A * B) ≤ a * b ∧ a * b ≤ A * B := by
  have hB : 0 ≤ B := by omega
  have h1 : a * b ≤ a * B := Int.mul_le_mul_of_nonneg_left b1 a0
  have h2 : a * B ≤ A * B := Int.mul_le_mul_of_nonneg_right a1 hB
  have h3 : a * (-B) ≤ a * b := Int.mul_le_mul_of_nonneg_left b0 a0
  have h4 : a * (-B) = -(a * B) := Int.mul_neg a B
  omega
/-- a power against a bound -/
def cmL (X Y L : Int) (x y : Int32) : Int := sgn (y.toInt * X - x.toInt * (L * L)) (y.toInt * Y)
theorem cmL_r (X Y L : Int) (x y : Int32) : cmL X Y L x y = -1 ∨ cmL X Y L x y = 0 ∨ cmL X Y L x y = 1 := sgn_r _ _
theorem cmL_b {X Y L : Int} {x y : Int32} (hf : fr x y) (x0 : 0 ≤ X) (x1 : X ≤ 2 ^ 48) (y0 : -2 ^ 48 ≤ Y) (y1 : Y ≤ 2 ^ 48) (l0 : 0 ≤ L) (l1 : L ≤ 9765625) : -2 ^ 57 ≤ y.toInt * X - x.toInt * (L * L) ∧ y.toInt * X - x.toInt * (L * L) ≤ 2 ^ 57 ∧ -2 ^ 57 ≤ y.toInt * Y ∧ y.toInt * Y ≤ 2 ^ 57 := by
  obtain ⟨⟨h1, h2⟩, h3, h4⟩ := hf
  have hL := mul_b (a := L) (b := L) (A := 9765625) (B := 9765625) l0 l1 (by omega) l1
  have hL0 : 0 ≤ L * L := Int.mul_nonneg l0 l0
  have a := mul_b (a := y.toInt) (b := X) (A := 99) (B := 2 ^ 48) (by omega) h4 (by omega) x1
  have b := mul_b (a := y.toInt) (b := Y) (A := 99) (B := 2 ^ 48) (by omega) h4 y0 y1
  have c := mul_b (a := x.toInt) (b := L * L) (A := 99) (B := 9765625 * 9765625) h1 h2 (by omega) (by omega)
  omega
theorem so_cmpL {g : M2} {s : Nat} {X Y L : Int} (hL : g.2 s 16 = Int64.ofInt L) {x y : Int32} (hf : fr x y) (x0 : 0 ≤ X) (x1 : X ≤ 2 ^ 48) (y0 : -2 ^ 48 ≤ Y) (y1 : Y ≤ 2 ^ 48) (l0 : 0 ≤ L) (l1 : L ≤ 9765625) : f_So_compareTo s (Int64.ofInt X) (Int64.ofInt Y) x y g = some (Int32.ofInt (cmL X Y L x y)) := by
  obtain ⟨b1, b2, b3, b4⟩ := cmL_b hf x0 x1 y0 y1 l0 l1
  unfold f_So_compareTo
  rw [hL, ← Int64.ofInt_int32ToInt, ← Int64.ofInt_int32ToInt, ← Int64.ofInt_mul, ← Int64.ofInt_mul, ← Int64.ofInt_mul, ← Int64.ofInt_mul, ← Int64.ofInt_sub, Int.mul_assoc x.toInt L L, da_sign b1 b2 b3 b4]
  rfl
def cmB (q : Sg) (x y : Int32) (k : Nat) : Int := cmL (pXz (qg q k)) (pYz (qg q k)) (qL q) x y
theorem cmB_r (q : Sg) (x y : Int32) (k : Nat) : cmB q x y k = -1 ∨ cmB q x y k = 0 ∨ cmB q x y k = 1 := cmL_r _ _ _ _ _
theorem so_bound {g : M2} {q : Sg} (hw : WF q) (h : qh q = true) (hN : Now g q) {x y : Int32} (hf : fr x y) {k : Nat} (hk : k < 12) : f_So_comparePowerTo 6 (cI k) x y g = some (Int32.ofInt (cmB q x y k)) := by
  have hv := hN.2.2.2.2.2.2.2 h
  have ia : inb (cI k) 12 := inb_cI hk (by decide)
  obtain ⟨x0, x1, y0, y1⟩ := pw_c hw h k
  obtain ⟨l0, l1⟩ := qL_b hw
  unfold f_So_comparePowerTo
  rw [if_pos ia, if_pos ia, cI_nat (by omega), (hv.2.2 k hk).1, (hv.2.2 k hk).2, so_cmpL hv.1.1 hf x0 x1 y0 y1 (Int.le_of_lt l0) l1]
  rfl
theorem mo_bnd {g r : M2} {q : Sg} (hw : WF q) (h : qh q = true) (hL : LPs g r (qg q) 12) (h16 : r.2 157 16 = Int64.ofInt (qL q)) {x y : Int32} (hf : fr x y) {k : Nat} (hk : k < 12) : f_Mo_signOf (((r.2 169 k) * y.toInt64) - (((r.2 157 16) * (r.2 157 16)) * x.toInt64)) ((r.2 170 k) * y.toInt64) r = some (Int32.ofInt (cmB q x y k)) := by
  have hv := hL.2.2.2.2.2
  obtain ⟨x0, x1, y0, y1⟩ := pw_c hw h k
  obtain ⟨l0, l1⟩ := qL_b hw
  obtain ⟨b1, b2, b3, b4⟩ := cmL_b hf x0 x1 y0 y1 (Int.le_of_lt l0) l1
  rw [h16, (hv k hk).1, (hv k hk).2, ← Int64.ofInt_int32ToInt, ← Int64.ofInt_int32ToInt, ← Int64.ofInt_mul, ← Int64.ofInt_mul, ← Int64.ofInt_mul, ← Int64.ofInt_mul, ← Int64.ofInt_sub, Int.mul_comm (pXz (qg q k)), Int.mul_comm (pYz (qg q k)), Int.mul_comm (qL q * qL q), mo_sign b1 b2 b3 b4]
  rfl
theorem mo_bound {g r : M2} {q : Sg} (hw : WF q) (h : qh q = true) (hL : LPs g r (qg q) 12) (h16 : r.2 157 16 = Int64.ofInt (qL q)) {x y : Int32} (hf : fr x y) {k : Nat} (hk : k < 12) : f_Mo_byBound (cI k) x y r = some (Int32.ofInt (cmB q x y k)) := by
  have ia : inb (cI k) 12 := inb_cI hk (by decide)
  unfold f_Mo_byBound
  rw [if_pos ia, if_pos ia, cI_nat (by omega), mo_bnd hw h hL h16 hf hk]
  rfl
theorem LP_16 {g r : M2} {q : Sg} (hQ : Mqr g q) {G : Nat → Z4} {n : Nat} (hL : LPs g r G n) : r.2 157 16 = Int64.ofInt (qL q) := by
  rw [hL.2.2.1 16 (by decide) (by decide)]; exact hQ.2.2.1.1
/-- after laying all powers -/
theorem mo_pows {A : Type} {g : M2} {q : Sg} (hQ : Mqr g q) {K : M2 → Option (A × M2)} {v : A} (hK : ∀ r, LPs g r (qg q) 12 → r.2 157 16 = Int64.ofInt (qL q) → IM r q → Ok (K r) (fun p => p.1 = v ∧ FM r p.2)) : Ok ((f_Mo_laysPowers g).bind K) (fun p => p.1 = v ∧ FM g p.2) := by
  refine ok_bindm (mo_laysPowers hQ.1.1 (G := qg q) hQ.2.2.1.2.2.2.2.2.2) (fun z hz => ?_)
  exact ok_mono (hK z hz (LP_16 hQ hz) (IM_f hQ.1 (FM_L hz))) (fun p hp => ⟨hp.1, FM_tr (FM_L hz) hp.2⟩)
/-- the value of a power, for its order -/
def vl (q : Sg) (a : Nat) : Int := pXz (qg q a) * 579069776145402304 + pYz (qg q a) * 1002978273411373057
theorem cmp_r (q : Sg) (a b : Nat) : cmpP q a b = -1 ∨ cmpP q a b = 0 ∨ cmpP q a b = 1 := sgn_r _ _
theorem cmp_vl {q : Sg} (hw : WF q) (h : qh q = true) (a b : Nat) : (0 < cmpP q a b ↔ vl q b < vl q a) ∧ (cmpP q a b = 0 ↔ vl q a = vl q b) := by
  obtain ⟨x1, x2, x3, x4⟩ := pw_c hw h a
  obtain ⟨y1, y2, y3, y4⟩ := pw_c hw h b
  have k := sgn_lin (x := pXz (qg q a) - pXz (qg q b)) (y := pYz (qg q a) - pYz (qg q b)) (by omega) (by omega) (by omega) (by omega)
  unfold cmpP vl
  rw [k.1, k.2.1, Int.sub_mul, Int.sub_mul]
  generalize pXz (qg q a) * 579069776145402304 = x
  generalize pXz (qg q b) * 579069776145402304 = y
  generalize pYz (qg q a) * 1002978273411373057 = z
  generalize pYz (qg q b) * 1002978273411373057 = w
  omega
def ahd (q : Sg) (o k : Nat) : Bool := decide (0 < cmpP q o k ∨ cmpP q o k = 0 ∧ o < k)
theorem ahd_iff {q : Sg} (hw : WF q) (h : qh q = true) (o k : Nat) : ahd q o k = true ↔ (vl q k < vl q o ∨ vl q o = vl q k ∧ o < k) := by
  unfold ahd
  rw [decide_eq_true_iff, (cmp_vl hw h o k).1, (cmp_vl hw h o k).2]
abbrev plc (q : Sg) (k n : Nat) : Nat := cnf (fun o => ahd q o k) n
theorem plc_inj {q : Sg} (hw : WF q) (h : qh q = true) {a b : Nat} (ha : a < 12) (hb : b < 12) (e : plc q a 12 = plc q b 12) : a = b := by
  have irr : ∀ a, ¬ ahd q a a = true := fun a => by rw [ahd_iff hw h]; omega
  have tr : ∀ a b c, ahd q a b = true → ahd q b c = true → ahd q a c = true := fun a b c h1 h2 => by
    rw [ahd_iff hw h] at h1 h2 ⊢; omega
  have key : ∀ a b, a < 12 → ahd q a b = true → plc q a 12 < plc q b 12 := fun a b ha hab => cf_lt (fun o ho => tr o a b ho hab) (irr a) hab 12 ha
  by_cases hab : a = b
  · exact hab
  · have tot : ahd q a b = true ∨ ahd q b a = true := by
      rw [ahd_iff hw h, ahd_iff hw h]; omega
    rcases tot with t | t
    · have := key a b ha t; omega
    · have := key b a hb t; omega
theorem plc_ex {q : Sg} (hw : WF q) (h : qh q = true) {i : Nat} (hi : i < 12) : ∃ K, K < 12 ∧ plc q K 12 = i := by
  refine pgn 12 (fun k => plc q k 12) (fun k hk => ?_) (fun a b ha hb e => plc_inj hw h ha hb e) i hi
  have irr : ¬ ahd q k k = true := by rw [ahd_iff hw h]; omega
  have := cf_lt (f := fun o => ahd q o k) (g := fun _ => true) (fun _ _ => rfl) irr rfl 12 hk
  rw [cf_t] at this
  exact this
theorem plc_le (q : Sg) (k : Nat) : plc q k 12 ≤ 12 := by
  have := cf_le (f := fun o => ahd q o k) (g := fun _ => true) (fun _ _ => rfl) 12
  rw [cf_t] at this
  exact this
theorem cf_s {f : Nat → Bool} {n : Nat} (h : f n = true) : cnf f (n + 1) = cnf f n + 1 := by
  conv => lhs; unfold cnf
  rw [if_pos h]
theorem cf_n {f : Nat → Bool} {n : Nat} (h : ¬ f n = true) : cnf f (n + 1) = cnf f n := by
  conv => lhs; unfold cnf
  rw [if_neg h]
theorem so_place {g : M2} {q : Sg} (hw : WF q) (h : qh q = true) (hN : Now g q) {k : Nat} (hk : k < 12) : f_So_placeByPower 6 (cI k) g = some (cI (plc q k 12)) := by
  refine ok_to ?_
  unfold f_So_placeByPower
  refine ok_bindm (Q := fun r => r = cI (plc q k 12)) ?_ (fun r hr => ok_some hr)
  refine ok_ct (fun j => (cI (plc q k j), cI j)) 12 (by decide) rfl (fun j hj => ?_) ?_
  · show Ok (b_So_placeByPower_4 6 (cI k) (cI (plc q k j)) (cI j) g) _
    unfold b_So_placeByPower_4
    refine ok_neg (le_no (a := 12) hj (by decide)) (ok_binde (so_compare hw h hN hj hk) ?_)
    simp only [s_gt (cmp_r q j k), s_eq (cmp_r q j k)]
    refine ok_if (fun c => ok_some ?_) (fun c => ok_if (fun c2 => ok_if (fun c3 => ok_some ?_) (fun c3 => ok_some ?_)) (fun c2 => ok_some ?_))
    · show _ = (cI (plc q k (j + 1)), cI (j + 1))
      rw [show plc q k (j + 1) = plc q k j + 1 from cf_s (decide_eq_true (Or.inl c)), c_succ, c_succ]
    · rw [cI_le (by omega) (by omega)] at c3
      show _ = (cI (plc q k (j + 1)), cI (j + 1))
      rw [show plc q k (j + 1) = plc q k j from cf_n (fun e => by have := of_decide_eq_true e; omega), c_succ]
    · rw [cI_le (by omega) (by omega)] at c3
      show _ = (cI (plc q k (j + 1)), cI (j + 1))
      rw [show plc q k (j + 1) = plc q k j + 1 from cf_s (decide_eq_true (Or.inr ⟨c2, by omega⟩)), c_succ, c_succ]
    · show _ = (cI (plc q k (j + 1)), cI (j + 1))
      rw [show plc q k (j + 1) = plc q k j from cf_n (fun e => by have := of_decide_eq_true e; omega), c_succ]
  · show Ok (b_So_placeByPower_4 6 (cI k) (cI (plc q k 12)) (cI 12) g) _
    unfold b_So_placeByPower_4
    exact ok_pos (le_yes (a := 12) (Nat.le_refl _) (by decide)) (ok_some rfl)
theorem mo_place {g r : M2} {q : Sg} (hw : WF q) (h : qh q = true) (hL : LPs g r (qg q) 12) (x : Int32) {k : Nat} (hk : k < 12) : lp (fun s => b_Mo_loud_19 x (cI k) s.1 s.2 r) 5000 ((0 : Int32), (0 : Int32)) = some (cI (plc q k 12)) := by
  refine ok_to ?_
  refine ok_ct (fun j => (cI (plc q k j), cI j)) 12 (by decide) rfl (fun j hj => ?_) ?_
  · show Ok (b_Mo_loud_19 x (cI k) (cI (plc q k j)) (cI j) r) _
    unfold b_Mo_loud_19
    refine ok_neg (le_no (a := 12) hj (by decide)) (ok_binde (mo_compared hw h hL hj hk) ?_)
    have e0 : cI (plc q k j) + (0 : Int32) = cI (plc q k j) := by rw [show (0 : Int32) = cI 0 from rfl, cI_add]; rfl
    simp only [s_gt (cmp_r q j k), e0]
    refine ok_if (fun c => ok_some ?_) (fun c => ok_binde (mo_compared hw h hL hj hk) ?_)
    · show _ = (cI (plc q k (j + 1)), cI (j + 1))
      rw [show plc q k (j + 1) = plc q k j + 1 from cf_s (decide_eq_true (Or.inl c)), c_succ, c_succ]
    · simp only [s_eq (cmp_r q j k)]
      refine ok_if (fun c2 => ok_if (fun c3 => ok_some ?_) (fun c3 => ok_some ?_)) (fun c2 => ok_some ?_)
      · rw [cI_le (by omega) (by omega)] at c3
        show _ = (cI (plc q k (j + 1)), cI (j + 1))
        rw [show plc q k (j + 1) = plc q k j from cf_n (fun e => by have := of_decide_eq_true e; omega), c_succ]
      · rw [cI_le (by omega) (by omega)] at c3
        show _ = (cI (plc q k (j + 1)), cI (j + 1))
        rw [show plc q k (j + 1) = plc q k j + 1 from cf_s (decide_eq_true (Or.inr ⟨c2, by omega⟩)), c_succ, c_succ]
      · show _ = (cI (plc q k (j + 1)), cI (j + 1))
        rw [show plc q k (j + 1) = plc q k j from cf_n (fun e => by have := of_decide_eq_true e; omega), c_succ]
  · show Ok (b_Mo_loud_19 x (cI k) (cI (plc q k 12)) (cI 12) r) _
    unfold b_Mo_loud_19
    exact ok_pos (le_yes (a := 12) (Nat.le_refl _) (by decide)) (ok_some rfl)
theorem ms_no {A : Type} {q : Sg} (hw : WF q) {g : M2} (hg : IM g q) {K : Int32 × M2 → Option (A × M2)} {N : A} (h : ¬ qh q = true) : Ok ((f_Mo_canNow g).bind fun q2 => if q2.1 = 0 then some (N, q2.2) else K q2) (fun p => p.1 = N ∧ IM p.2 q ∧ KM g p.2) := by
  refine ok_bindm (mo_canNow hw hg) (fun r hr => ?_)
  obtain ⟨b1, b2, b3, b4, b5⟩ := hr
  rw [b1]
  exact ok_grd rfl (fun _ => ok_some ⟨rfl, b3, FM_K b2⟩) (fun h2 => absurd h2 h)
theorem c_add12 (l : Nat) : cI l + (12 : Int32) = cI (l + 12) := cI_add l 12
theorem pr_loud {q : Sg} (hw : WF q) (x : Int32) : Pr (f_Da_loud x) (f_Mo_loud x) q := by
  by_cases hc : qh q = true ∧ inb x 12
  · obtain ⟨h, c⟩ := hc
    obtain ⟨K, hK, hKi⟩ := plc_ex hw h c.2
    have hx : x = cI (plc q K 12) := by rw [hKi]; exact inb_to c
    have hne : ∀ k, k < K → ¬ cI (plc q k 12) = x := fun k hk e => by
      rw [hx, cI_inj (by have := plc_le q k; omega) (by have := plc_le q K; omega)] at e
      have := plc_inj hw h (by omega) hK e; omega
    refine ⟨cI K, q, hw, cs_ref hw (fun g => rfl) (fun n => absurd h n) (fun _ r hC hN => ?_), fun g hg => ?_⟩
    · refine ok_grd (da_dir r) (fun n => absurd c n) (fun _ => ok_bindm (Q := fun u => u = .inr (cI K, r)) ?_ (fun u hu => ?_))
      · refine ok_ct (fun k => cI k) K (by omega) rfl (fun k hk => ?_) ?_
        · show Ok (b_Da_loud_13 x (cI k) r) _
          unfold b_Da_loud_13
          exact ok_neg (le_no (a := 12) (by omega) (by decide)) (ok_binde (so_place hw h hN (by omega)) (ok_neg (hne k hk) (ok_some (c_succ k))))
        · show Ok (b_Da_loud_13 x (cI K) r) _
          unfold b_Da_loud_13
          exact ok_neg (le_no (a := 12) (by omega) (by decide)) (ok_binde (so_place hw h hN (by omega)) (ok_pos hx.symm (ok_some rfl)))
      · subst hu
        exact ok_some ⟨rfl, hC, KC_rf r⟩
    · unfold f_Mo_loud
      refine ok_grd (mo_dir g) (fun n => absurd c n) (fun _ => ms_can hw hg (fun n => absurd h n) (fun _ r hQ => mo_pows hQ (fun z hz h16 hM => ?_)))
      refine ok_bindm (Q := fun u => u = .inr (cI K, z)) ?_ (fun u hu => ?_)
      · refine ok_ct (fun k => cI k) K (by omega) rfl (fun k hk => ?_) ?_
        · show Ok (b_Mo_loud_12 x (cI k) z) _
          unfold b_Mo_loud_12
          exact ok_neg (le_no (a := 12) (by omega) (by decide)) (ok_binde (mo_place hw h hz x (by omega)) (ok_neg (hne k hk) (ok_some (c_succ k))))
        · show Ok (b_Mo_loud_12 x (cI K) z) _
          unfold b_Mo_loud_12
          exact ok_neg (le_no (a := 12) (by omega) (by decide)) (ok_binde (mo_place hw h hz x (by omega)) (ok_pos hx.symm (ok_some rfl)))
      · subst hu
        exact ok_some ⟨rfl, FM_rf z⟩
  · refine ⟨-2, q, hw, cs_ref hw (fun g => rfl) (fun n => rfl) (fun h r hC hN => ?_), fun g hg => ?_⟩
    · exact ok_grd (da_dir r) (fun _ => ok_some ⟨rfl, hC, KC_rf r⟩) (fun c => absurd ⟨h, c⟩ hc)
    · unfold f_Mo_loud
      exact ok_grd (mo_dir g) (fun _ => ok_some ⟨rfl, hg, KM_rf g⟩) (fun c => ms_no hw hg (fun h => hc ⟨h, c⟩))
/-- a row of directions -/
def rl (f : Nat → Bool) (s : Nat) : Nat → Nat → Nat
  | 0, _ => 0
  | n + 1, k => if f k then rl f s n ((k + s) % 12) + 1 else 0
theorem rl_le (f : Nat → Bool) (s : Nat) : ∀ n k, rl f s n k ≤ n := by
  intro n
  induction n with
  | zero => intro k; exact Nat.le_refl _
  | succ n ih => intro k; unfold rl; split
                 · have := ih ((k + s) % 12); omega
                 · omega
theorem rl_y {f : Nat → Bool} {s n k : Nat} (h : f k = true) : rl f s (n + 1) k = rl f s n ((k + s) % 12) + 1 := by
  conv => lhs; unfold rl
  rw [if_pos h]
theorem rl_n {f : Nat → Bool} {s n k : Nat} (h : ¬ f k = true) : rl f s (n + 1) k = 0 := by
  conv => lhs; unfold rl
  rw [if_neg h]
theorem rl_12 {f : Nat → Bool} {s k j a m : Nat} (hj : j < m) (e : rl f s m k = j + rl f s (m - j) a) : (f a = true → rl f s m k = (j + 1) + rl f s (m - (j + 1)) ((a + s) % 12)) ∧ (¬ f a = true → rl f s m k = j) := by
  rw [show m - j = (m - (j + 1)) + 1 by omega] at e
  constructor
  · intro h; rw [rl_y h] at e; omega
  · intro h; rw [rl_n h] at e; omega
theorem da_row {M k s : Nat} (hM : M < 4096) (hk : k < 12) (hs : s < 12) (g : M2) : f_Da_rowFrom (cI M) (cI k) (cI s) g = some (cI (rl (fun j => M.testBit j) s 12 k)) := by
  refine ok_to ?_
  unfold f_Da_rowFrom
  refine ok_bindm (Q := fun r => r = cI (rl (fun j => M.testBit j) s 12 k)) ?_ (fun r hr => ok_some hr)
  refine ok_lp (fun j st => ∃ a, a < 12 ∧ st = (cI j, cI a) ∧ rl (fun j => M.testBit j) s 12 k = j + rl (fun j => M.testBit j) s (12 - j) a) 12 5000 0 _ (by omega) (by omega) ⟨k, hk, rfl, (Nat.zero_add _).symm⟩ ?_
  rintro j st hj ⟨a, ha, rfl, e⟩
  show Ok (b_Da_rowFrom_4 (cI M) (cI s) (cI j) (cI a) g) _
  unfold b_Da_rowFrom_4
  rw [tb12 hM ha]
  by_cases hj2 : j = 12
  · subst hj2
    exact ok_pos (le_yes (a := 12) (Nat.le_refl _) (by decide)) (ok_some (by show cI 12 = _; rw [e]; rfl))
  · have hj' : j < 12 := by omega
    obtain ⟨e1, e2⟩ := rl_12 hj' e
    refine ok_neg (le_no (a := 12) hj' (by decide)) (ok_grd rfl (fun n => ok_some ?_) (fun c => ok_some ⟨hj', (a + s) % 12, Nat.mod_lt _ (by decide), ?_, e1 c⟩))
    · show cI j = _; rw [e2 n]
    · rw [c_succ, cI_add, rm12 (a + s) (by omega)]
/-- the longest row, the first of them -/
def hsh (f : Nat → Bool) : Nat → Nat × Int32
  | 0 => (0, -1)
  | k + 1 => if rl f 1 12 k ≤ (hsh f k).1 then hsh f k else (rl f 1 12 k, cI k)
theorem hsh_le (f : Nat → Bool) : ∀ k, (hsh f k).1 ≤ 12 := by
  intro k
  induction k with
  | zero => exact Nat.zero_le _
  | succ k ih => unfold hsh; split
                 · exact ih
                 · exact rl_le f 1 12 k
theorem hsh_k {f : Nat → Bool} {k : Nat} (h : rl f 1 12 k ≤ (hsh f k).1) : hsh f (k + 1) = hsh f k := by
  conv => lhs; unfold hsh
  rw [if_pos h]
theorem hsh_n {f : Nat → Bool} {k : Nat} (h : ¬ rl f 1 12 k ≤ (hsh f k).1) : hsh f (k + 1) = (rl f 1 12 k, cI k) := by
  conv => lhs; unfold hsh
  rw [if_neg h]
theorem rl_congr {f h : Nat → Bool} (e : ∀ j, j < 12 → f j = h j) (s : Nat) : ∀ n k, k < 12 → rl f s n k = rl h s n k := by
  intro n
  induction n with
  | zero => intro k _; rfl
  | succ n ih => intro k hk; unfold rl; rw [e k hk, ih _ (Nat.mod_lt _ (by decide))]
theorem hsh_congr {f h : Nat → Bool} (e : ∀ j, j < 12 → f j = h j) : ∀ k, k ≤ 12 → hsh f k = hsh h k := by
  intro k
  induction k with
  | zero => intro _; rfl
  | succ k ih => intro hk; unfold hsh; rw [ih (by omega), rl_congr e 1 12 k (by omega)]
theorem bm_f (f : Nat → Bool) : ∀ j, j < 12 → (fun i => (bm f 12).testBit i) j = f j := by
  intro j hj
  show (bm f 12).testBit j = f j
  rw [bm_bit, decide_eq_true hj, Bool.true_and]
def hsf (q : Sg) (x y : Int32) (k : Nat) : Bool := decide (cmB q x y k ≤ 0)
theorem pr_hush {q : Sg} (hw : WF q) (x y w : Int32) : Pr (f_Da_hush x y w) (f_Mo_hush x y w) q := by
  refine ⟨if qh q = true ∧ fr x y ∧ inb w 2 then (if w = 0 then cI (hsh (hsf q x y) 12).1 else (hsh (hsf q x y) 12).2) else -2, q, hw, cs_ref hw (fun g => rfl) (fun n => if_neg (fun e => n e.1)) (fun h r hC hN => ?_), fun g hg => ?_⟩
  · rw [show (2 : Int32) = cI 2 from rfl]
    refine ok_grd (da_frac x y r) (fun n => ok_some ⟨(if_neg (fun e => n e.2.1)).symm, hC, KC_rf r⟩) (fun c1 => ok_grd (da_among (by decide) r) (fun n => ok_some ⟨(if_neg (fun e => n e.2.2)).symm, hC, KC_rf r⟩) (fun c2 => ?_))
    refine ok_bindm (Q := fun e => e = cI (bm (hsf q x y) 12)) ?_ (fun e8 he8 => ?_)
    · refine ok_ct (fun j => (cI (bm (hsf q x y) j), cI j)) 12 (by decide) rfl (fun j hj => ?_) ?_
      · show Ok (b_Da_hush_20 x y w (cI (bm (hsf q x y) j)) (cI j) r) _
        unfold b_Da_hush_20
        refine ok_neg (le_no (a := 12) hj (by decide)) (ok_binde (so_bound hw h hN c1 hj) ?_)
        simp only [s_gt (cmB_r _ _ _ _)]
        refine ok_if (fun c => ok_some ?_) (fun c => ok_some ?_)
        · show _ = (cI (bm (hsf q x y) (j + 1)), cI (j + 1))
          rw [bm_n _ (fun e => by have := of_decide_eq_true e; omega), c_succ]
        · show _ = (cI (bm (hsf q x y) (j + 1)), cI (j + 1))
          rw [bm_s _ hj (decide_eq_true (by omega)), c_succ]
      · show Ok (b_Da_hush_20 x y w (cI (bm (hsf q x y) 12)) (cI 12) r) _
        unfold b_Da_hush_20
        exact ok_pos (le_yes (a := 12) (Nat.le_refl _) (by decide)) (ok_some rfl)
    · subst he8
      refine ok_bindm (Q := fun e => e = (cI (hsh (hsf q x y) 12).1, (hsh (hsf q x y) 12).2)) ?_ (fun e12 he12 => ?_)
      · refine ok_ct (fun j => (cI (hsh (hsf q x y) j).1, (hsh (hsf q x y) j).2, cI j)) 12 (by decide) rfl (fun j hj => ?_) ?_
        · show Ok (b_Da_hush_44 w (cI (bm (hsf q x y) 12)) (cI (hsh (hsf q x y) j).1) (hsh (hsf q x y) j).2 (cI j) r) _
          unfold b_Da_hush_44
          have hle := hsh_le (hsf q x y) j
          have hrl := rl_le (hsf q x y) 1 12 j
          refine ok_neg (le_no (a := 12) hj (by decide)) (ok_binde (da_row (s := 1) (bm_12 _ (Nat.le_refl _)) hj (by decide) r) ?_)
          rw [rl_congr (bm_f (hsf q x y)) 1 12 j hj]
          refine ok_if (fun c => ok_some ?_) (fun c => ok_some ?_)
          · rw [cI_le (by omega) (by omega)] at c
            show _ = (cI (hsh (hsf q x y) (j + 1)).1, (hsh (hsf q x y) (j + 1)).2, cI (j + 1))
            rw [hsh_k c, c_succ]
          · rw [cI_le (by omega) (by omega)] at c
            show _ = (cI (hsh (hsf q x y) (j + 1)).1, (hsh (hsf q x y) (j + 1)).2, cI (j + 1))
            rw [hsh_n c, c_succ]
        · show Ok (b_Da_hush_44 w (cI (bm (hsf q x y) 12)) (cI (hsh (hsf q x y) 12).1) (hsh (hsf q x y) 12).2 (cI 12) r) _
          unfold b_Da_hush_44
          exact ok_pos (le_yes (a := 12) (Nat.le_refl _) (by decide)) (ok_some rfl)
      · subst he12
        refine ok_if (fun d => ok_some ⟨?_, hC, KC_rf r⟩) (fun d => ok_some ⟨?_, hC, KC_rf r⟩)
        · rw [if_pos ⟨h, c1, c2⟩, if_pos d]
        · rw [if_pos ⟨h, c1, c2⟩, if_neg d]
  · unfold f_Mo_hush
    rw [show (1 : Int64) = Int64.ofInt (((2 : Nat) : Int) - 1) from rfl]
    refine ok_grd (mo_in0 (by decide) g) (fun n => ok_some ⟨(if_neg (fun e => n e.2.2)).symm, hg, KM_rf g⟩) (fun c2 => ok_grd (mo_frac x y g) (fun n => ok_some ⟨(if_neg (fun e => n e.2.1)).symm, hg, KM_rf g⟩) (fun c1 => ms_can hw hg (fun n => if_neg (fun e => n e.1)) (fun h r hQ => mo_pows hQ (fun z hz h16 hM => ?_))))
    refine ok_bindm (Q := fun e => e = (cI (hsh (hsf q x y) 12).1, (hsh (hsf q x y) 12).2)) ?_ (fun e12 he12 => ?_)
    · refine ok_ct (fun j => (cI (hsh (hsf q x y) j).1, (hsh (hsf q x y) j).2, cI j)) 12 (by decide) rfl (fun j hj => ?_) ?_
      · show Ok (b_Mo_hush_23 x y w (cI (hsh (hsf q x y) j).1) (hsh (hsf q x y) j).2 (cI j) z) _
        unfold b_Mo_hush_23
        have hle := hsh_le (hsf q x y) j
        have hrl := rl_le (hsf q x y) 1 12 j
        refine ok_neg (le_no (a := 12) hj (by decide)) (ok_bindm (Q := fun e => e = cI (rl (hsf q x y) 1 12 j)) ?_ (fun e10 he10 => ?_))
        · refine ok_lp (fun i st => st = cI i ∧ rl (hsf q x y) 1 12 j = i + rl (hsf q x y) 1 (12 - i) ((j + i) % 12)) 12 5000 0 _ (by omega) (by omega) ⟨rfl, by rw [Nat.add_zero, Nat.mod_eq_of_lt hj]; exact (Nat.zero_add _).symm⟩ ?_
          rintro i st hi ⟨rfl, e⟩
          show Ok (b_Mo_hush_28 x y w (cI (hsh (hsf q x y) j).1) (hsh (hsf q x y) j).2 (cI j) (cI i) z) _
          unfold b_Mo_hush_28
          by_cases hi2 : i = 12
          · subst hi2
            exact ok_pos (le_yes (a := 12) (Nat.le_refl _) (by decide)) (ok_some (by show cI 12 = _; rw [e]; rfl))
          · have hi' : i < 12 := by omega
            obtain ⟨e1, e2⟩ := rl_12 hi' e
            rw [cI_add, rm12 (j + i) (by omega)]
            refine ok_neg (le_no (a := 12) hi' (by decide)) (ok_binde (mo_bound hw h hz h16 c1 (Nat.mod_lt _ (by decide))) ?_)
            simp only [s_gt (cmB_r _ _ _ _)]
            refine ok_if (fun c => ok_some ?_) (fun c => ok_some ⟨hi', c_succ i, ?_⟩)
            · show cI i = _
              rw [e2 (fun d => by have := of_decide_eq_true d; omega)]
            · rw [e1 (decide_eq_true (by omega)), show ((j + i) % 12 + 1) % 12 = (j + (i + 1)) % 12 by omega]
        · subst he10
          refine ok_if (fun c => ok_some ?_) (fun c => ok_some ?_)
          · rw [cI_lt (by omega) (by omega)] at c
            show _ = (cI (hsh (hsf q x y) (j + 1)).1, (hsh (hsf q x y) (j + 1)).2, cI (j + 1))
            rw [hsh_n (by omega), c_succ]
          · rw [cI_lt (by omega) (by omega)] at c
            show _ = (cI (hsh (hsf q x y) (j + 1)).1, (hsh (hsf q x y) (j + 1)).2, cI (j + 1))
            rw [hsh_k (by omega), c_succ]
      · show Ok (b_Mo_hush_23 x y w (cI (hsh (hsf q x y) 12).1) (hsh (hsf q x y) 12).2 (cI 12) z) _
        unfold b_Mo_hush_23
        exact ok_pos (le_yes (a := 12) (Nat.le_refl _) (by decide)) (ok_some rfl)
    · subst he12
      refine ok_if (fun d => ok_some ⟨?_, FM_rf z⟩) (fun d => ok_some ⟨?_, FM_rf z⟩)
      · rw [if_pos ⟨h, c1, c2⟩, if_pos d]
      · rw [if_pos ⟨h, c1, c2⟩, if_neg d]

def bmf (q : Sg) (x y : Int32) (k : Nat) : Bool := decide (0 ≤ cmB q x y k)
def bmv (f : Nat → Bool) (l : Nat) : Nat := if rl f 1 12 l = 0 then 0 else if rl f 1 12 l + rl f 11 12 l - 1 < 12 then rl f 1 12 l + rl f 11 12 l - 1 else 12
theorem ma_min {a : Nat} (ha : a < 2 ^ 31) (g : M2) : f_Ma_min (12 : Int32) (cI a) g = cI (if a < 12 then a else 12) := by
  unfold f_Ma_min
  by_cases h : a < 12
  · rw [if_pos h, if_pos (show cI a < (12 : Int32) from (cI_lt (b := 12) ha (by decide)).mpr h)]
  · rw [if_neg h, if_neg (show ¬ cI a < (12 : Int32) from fun e => h ((cI_lt (b := 12) ha (by decide)).mp e))]; rfl
theorem look_some {q : Sg} (hw : WF q) (h : qh q = true) : ∃ l, sl q = some l ∧ l < 12 ∧ l ∉ sd q := by
  obtain ⟨_, _, h3, _⟩ := q_on hw h
  obtain ⟨l, hl⟩ := Option.isSome_iff_exists.mp h3
  exact ⟨l, hl, hw.2.2.2.2.1 l hl⟩
theorem pr_beam {q : Sg} (hw : WF q) (x y : Int32) : Pr (f_Da_beam x y) (f_Mo_beam x y) q := by
  refine ⟨if qh q = true ∧ fr x y then cI (bmv (bmf q x y) ((sl q).getD 0)) else -2, q, hw, cs_ref hw (fun g => rfl) (fun n => if_neg (fun e => n e.1)) (fun h r hC hN => ?_), fun g hg => ?_⟩
  · obtain ⟨l, hl, hl12, _⟩ := look_some hw h
    refine ok_grd (da_frac x y r) (fun n => ok_some ⟨(if_neg (fun e => n e.2)).symm, hC, KC_rf r⟩) (fun c1 => ?_)
    refine ok_bindm (Q := fun e => e = cI (bm (bmf q x y) 12)) ?_ (fun e8 he8 => ?_)
    · refine ok_ct (fun j => (cI (bm (bmf q x y) j), cI j)) 12 (by decide) rfl (fun j hj => ?_) ?_
      · show Ok (b_Da_beam_16 x y (cI (bm (bmf q x y) j)) (cI j) r) _
        unfold b_Da_beam_16
        refine ok_neg (le_no (a := 12) hj (by decide)) (ok_binde (so_bound hw h hN c1 hj) ?_)
        simp only [s_lt (cmB_r _ _ _ _)]
        refine ok_if (fun c => ok_some ?_) (fun c => ok_some ?_)
        · show _ = (cI (bm (bmf q x y) (j + 1)), cI (j + 1))
          rw [bm_n _ (fun e => by have := of_decide_eq_true e; omega), c_succ]
        · show _ = (cI (bm (bmf q x y) (j + 1)), cI (j + 1))
          rw [bm_s _ hj (decide_eq_true (by omega)), c_succ]
      · show Ok (b_Da_beam_16 x y (cI (bm (bmf q x y) 12)) (cI 12) r) _
        unfold b_Da_beam_16
        exact ok_pos (le_yes (a := 12) (Nat.le_refl _) (by decide)) (ok_some rfl)
    · subst he8
      have e4 : r.1 7 4 = cI l := by rw [hC.1.2.2.2.2.2.1, hl]; rfl
      rw [e4]
      have r1 := rl_le (bmf q x y) 1 12 l
      have r2 := rl_le (bmf q x y) 11 12 l
      refine ok_binde (da_row (s := 1) (bm_12 _ (Nat.le_refl _)) hl12 (by decide) r) (ok_binde (da_row (s := 11) (bm_12 _ (Nat.le_refl _)) hl12 (by decide) r) ?_)
      rw [rl_congr (bm_f (bmf q x y)) 1 12 l hl12, rl_congr (bm_f (bmf q x y)) 11 12 l hl12, if_pos (show qh q = true ∧ fr x y from ⟨h, c1⟩), hl]
      refine ok_if (fun d => ok_some ⟨?_, hC, KC_rf r⟩) (fun d => ok_some ⟨?_, hC, KC_rf r⟩)
      · have d2 : rl (bmf q x y) 1 12 l = 0 := (cI_inj (b := 0) (by omega) (by decide)).mp d
        show (0 : Int32) = cI (bmv (bmf q x y) l)
        unfold bmv; rw [if_pos d2]; rfl
      · have d2 : ¬ rl (bmf q x y) 1 12 l = 0 := fun e => d (by rw [e]; rfl)
        show f_Ma_min (12 : Int32) ((cI (rl (bmf q x y) 1 12 l) + cI (rl (bmf q x y) 11 12 l)) - (1 : Int32)) r = cI (bmv (bmf q x y) l)
        unfold bmv
        rw [if_neg d2, cI_add, c_pred (by omega), ma_min (by omega)]
  · unfold f_Mo_beam
    refine ok_grd (mo_frac x y g) (fun n => ok_some ⟨(if_neg (fun e => n e.2)).symm, hg, KM_rf g⟩) (fun c1 => ms_can hw hg (fun n => if_neg (fun e => n e.1)) (fun h r hQ => mo_pows hQ (fun z hz h16 hM => ?_)))
    obtain ⟨l, hl, hl12, _⟩ := look_some hw h
    have elk : f_Mo_lookNow z = some (cI l) := by rw [look_now hM.2.1, hl]; rfl
    rw [if_pos (show qh q = true ∧ fr x y from ⟨h, c1⟩), hl]
    show Ok _ (fun p : Int32 × M2 => p.1 = cI (bmv (bmf q x y) l) ∧ FM z p.2)
    have r1 := rl_le (bmf q x y) 1 12 l
    refine ok_binde elk (ok_bindm (Q := fun e => e = cI (rl (bmf q x y) 1 12 l)) ?_ (fun e9 he9 => ?_))
    · refine ok_lp (fun j st => ∃ a, a < 12 ∧ st = (cI j, cI a) ∧ rl (bmf q x y) 1 12 l = j + rl (bmf q x y) 1 (12 - j) a) 12 5000 0 _ (by omega) (by omega) ⟨l, hl12, rfl, (Nat.zero_add _).symm⟩ ?_
      rintro j st hj ⟨a, ha, rfl, e⟩
      show Ok (b_Mo_beam_16 x y (cI j) (cI a) z) _
      unfold b_Mo_beam_16
      by_cases hj2 : j = 12
      · subst hj2
        exact ok_pos (le_yes (a := 12) (Nat.le_refl _) (by decide)) (ok_some (by show cI 12 = _; rw [e]; rfl))
      · have hj' : j < 12 := by omega
        obtain ⟨e1, e2⟩ := rl_12 hj' e
        refine ok_neg (le_no (a := 12) hj' (by decide)) (ok_binde (mo_bound hw h hz h16 c1 ha) ?_)
        simp only [s_lt (cmB_r _ _ _ _)]
        refine ok_if (fun c => ok_some ?_) (fun c => ok_some ⟨hj', (a + 1) % 12, Nat.mod_lt _ (by decide), ?_, e1 (decide_eq_true (by omega))⟩)
        · show cI j = _
          rw [e2 (fun d => by have := of_decide_eq_true d; omega)]
        · rw [c_succ, c_succ, rm12 (a + 1) (by omega)]
    · subst he9
      unfold j_Mo_beam_33
      refine ok_binde elk (ok_bindm (Q := fun e => e = cI (bmv (bmf q x y) l)) ?_ (fun e15 he15 => ok_some ⟨he15, FM_rf z⟩))
      rw [c_add12, c_pred (by omega), rm12 (l + 12 - 1) (by omega)]
      by_cases h0 : rl (bmf q x y) 1 12 l = 0
      · refine ok_ct (fun _ => (cI 0, cI ((l + 12 - 1) % 12))) 0 (by decide) (by rw [h0]) (fun k hk => absurd hk (by omega)) ?_
        show Ok (b_Mo_beam_42 x y (cI 0) (cI ((l + 12 - 1) % 12)) z) _
        unfold b_Mo_beam_42 bmv
        rw [if_pos h0]
        exact ok_pos (by decide) (ok_some rfl)
      · have fl1 : bmf q x y l = true := by
          refine Classical.byContradiction (fun n => h0 ?_)
          exact rl_n n
        have eB : rl (bmf q x y) 11 12 l = rl (bmf q x y) 11 11 ((l + 11) % 12) + 1 := rl_y fl1
        have r3 := rl_le (bmf q x y) 11 11 ((l + 11) % 12)
        refine ok_lp (fun j st => ∃ a, a < 12 ∧ st = (cI (rl (bmf q x y) 1 12 l + j), cI a) ∧ rl (bmf q x y) 11 11 ((l + 11) % 12) = j + rl (bmf q x y) 11 (11 - j) a) (12 - rl (bmf q x y) 1 12 l) 5000 0 _ (by omega) (by omega) ⟨(l + 11) % 12, Nat.mod_lt _ (by decide), by rw [show l + 12 - 1 = l + 11 by omega]; rfl, (Nat.zero_add _).symm⟩ ?_
        rintro j st hj ⟨a, ha, rfl, e⟩
        show Ok (b_Mo_beam_42 x y (cI (rl (bmf q x y) 1 12 l + j)) (cI a) z) _
        unfold b_Mo_beam_42
        refine ok_neg (le_no (b := 0) (by omega) (by omega)) ?_
        by_cases hj2 : rl (bmf q x y) 1 12 l + j = 12
        · refine ok_pos (le_yes (a := 12) (by omega) (by omega)) (ok_some ?_)
          show cI (rl (bmf q x y) 1 12 l + j) = cI (bmv (bmf q x y) l)
          unfold bmv
          rw [if_neg h0, if_neg (by omega), hj2]
        · have hj' : j < 11 := by omega
          obtain ⟨e1, e2⟩ := rl_12 hj' e
          refine ok_neg (le_no (a := 12) (by omega) (by decide)) (ok_binde (mo_bound hw h hz h16 c1 ha) ?_)
          simp only [s_lt (cmB_r _ _ _ _)]
          refine ok_if (fun c => ok_some ?_) (fun c => ok_some ⟨by omega, (a + 11) % 12, Nat.mod_lt _ (by decide), ?_, e1 (decide_eq_true (by omega))⟩)
          · have e3 := e2 (fun d => by have := of_decide_eq_true d; omega)
            show cI (rl (bmf q x y) 1 12 l + j) = cI (bmv (bmf q x y) l)
            unfold bmv
            rw [if_neg h0, if_pos (by omega)]
            congr 1
            omega
          · rw [c_succ, c_add12, c_pred (by omega), rm12 (a + 12 - 1) (by omega), show a + 12 - 1 = a + 11 by omega]; rfl
