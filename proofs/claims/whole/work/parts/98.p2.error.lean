/-! cut powers; errors: error, farthest, within -/
theorem FM_2 {b z w : M2} {D E : Nat → Q6} (h : MN b z D) (k : MN b w E) : FM z w := ⟨fun t ht => ⟨by rw [k.1, h.1], by rw [k.2.1 t (by omega) (by omega), h.2.1 t (by omega) (by omega)]⟩, fun j _ => by rw [k.1, h.1]⟩
theorem IM_N {b z : M2} {D : Nat → Q6} {q : Sg} (hI : IM b q) (h : MN b z D) : IM z q := IM_f hI (FM_N h)
theorem PW_N {b z : M2} {D : Nat → Q6} (hI : PW b) (h : MN b z D) : PW z := fun j hj => by rw [h.1]; exact hI j hj
/-- the class: steps cut, then a try -/
theorem da_cuts {q : Sg} (hw : WF q) (h : qh q = true) {r : M2} (hC : IC r q) (hN : Now r q) {s : Nat} (hs : s ≤ 99) : Ok (f_Cu_roundAll 6 (cI s) r) (fun z => IC z q ∧ KC r z ∧ Now z q ∧ CC z q s) := by
  refine ok_mono (cu_round hw h hC hN hs) (fun z hz => ?_)
  have hI := IC_7 hw hC hz.1 (fun t ht _ => hz.2.1 t (fun e => ht (by unfold qc; omega))) (fun t ht => hz.2.1 t (by omega))
  exact ⟨hI.1, hI.2, Now_mono (WF_m hw) hw.1 hN (by rw [hz.1]) (by rw [hz.1]) (by rw [hz.1]) (hz.2.1 6 (by omega)) (fun y y1 y2 => hz.2.1 y (by omega)), hz.2.2⟩
theorem pr_cutPower {q : Sg} (hw : WF q) (x y : Int32) : Pr (f_Da_cutPower x y) (f_Mo_cutPower x y) q := by
  have hn := hw.1
  refine ⟨if qh q = true ∧ inb x 12 ∧ inb y 2 then (if y = 0 then Int64.ofInt (pXz (cg q (cz q (ss q)) x.toNatClampNeg (sn q))) else Int64.ofInt (pYz (cg q (cz q (ss q)) x.toNatClampNeg (sn q)))) else MN64, q, hw, cs_ref hw (fun g => rfl) (fun n => if_neg (fun e => n e.1)) (fun h r hC hN => ?_), fun g hg => ?_⟩
  · rw [show (2 : Int32) = cI 2 from rfl]
    refine ok_grd (da_dir r) (fun n => ok_some ⟨(if_neg (fun e => n e.2.1)).symm, hC, KC_rf r⟩) (fun c1 => ok_grd (da_among (by decide) r) (fun n => ok_some ⟨(if_neg (fun e => n e.2.2)).symm, hC, KC_rf r⟩) (fun c2 => ?_))
    rw [hC.2.1, if_pos (show qh q = true ∧ inb x 12 ∧ inb y 2 from ⟨h, c1, c2⟩)]
    refine ok_bindm (da_cuts hw h hC hN hw.2.2.2.2.2.2.2.2.1) (fun z hz => ?_)
    have hg := da_cutGain hz.1 hz.2.2.2 c1.2 (t := 155) (fun e he => by omega)
    rw [← inb_to c1] at hg
    refine ok_bindm hg (fun w hw2 => ?_)
    have hI2 := IC_7 hw hz.1 hw2.1 (fun t ht _ => hw2.2.1 t (fun e => ht (by unfold qc; omega))) (fun t ht => hw2.2.1 t (by omega))
    refine ok_if (fun d => ok_some ⟨?_, hI2.1, KC_tr hz.2.1 hI2.2⟩) (fun d => ok_some ⟨?_, hI2.1, KC_tr hz.2.1 hI2.2⟩)
    · rw [if_pos d, pX64 hw2.2.2.1]
    · rw [if_neg d, pY64 hw2.2.2.1]
  · unfold f_Mo_cutPower
    rw [show (1 : Int64) = Int64.ofInt (((2 : Nat) : Int) - 1) from rfl]
    refine ok_grd (mo_dir g) (fun n => ok_some ⟨(if_neg (fun e => n e.2.1)).symm, hg, KM_rf g⟩) (fun c1 => ok_grd (mo_in0 (by decide) g) (fun n => ok_some ⟨(if_neg (fun e => n e.2.2)).symm, hg, KM_rf g⟩) (fun c2 => mo_cutsNow hw hg (fun n => if_neg (fun e => n e.1)) (fun h r z hQ hz => ?_)))
    obtain ⟨D, hD, hD1, hD2⟩ := hz
    rw [if_pos (show qh q = true ∧ inb x 12 ∧ inb y 2 from ⟨h, c1, c2⟩)]
    have hcg := mo_cutGain hw hQ.1 hD hD1 (fun e _ hb => cz_0 hw hb _) c1.2
    rw [← inb_to c1] at hcg
    refine ok_bindm hcg (fun w hw2 => ok_bindm (mo_laysPowr (a := 87) (PW_N hQ.1.1 hw2) (by decide) (by decide) (by decide) ((hw2.2.2 87 (by decide)).trans (up_s _ _ _))) (fun u hu => ?_))
    have hf : FM z u := FM_tr (FM_2 hD hw2) (FM_P hu)
    refine ok_if (fun d => ok_some ⟨?_, hf⟩) (fun d => ok_some ⟨?_, hf⟩)
    · rw [if_pos d]; exact hu.2.2.2.2.2.1
    · rw [if_neg d]; exact hu.2.2.2.2.2.2
/-! errors -/
def zsc (x : Int) (v : Z4) : Z4 := (x * v.1, x * v.2.1, x * v.2.2.1, x * v.2.2.2)
theorem q64_sc (x : Int) (v : Z4) : q64 (zsc x v) = qsc (Int64.ofInt x) (q64 v) := by
  apply q_ext <;> simp only [q64, zsc, qsc, Int64.ofInt_mul] <;> exact Int64.mul_comm _ _
/-- the error of a direction, times lower number and steps -/
def erz (q : Sg) (k : Nat) : Z4 := qadd (zsc (qL q) (cg q (cz q (ss q)) k (sn q))) (zsc (-(ss q : Int)) (qg q k))
theorem neg_64 {s : Nat} (hs : s ≤ 99) : (-(cI s)).toInt64 = Int64.ofInt (-(s : Int)) := by
  rw [c_neg, ← Int64.ofInt_int32ToInt, Int32.toInt_ofInt_of_le (by omega) (by omega)]
theorem da_miss {z : M2} {q : Sg} (hw : WF q) (h : qh q = true) (hC : IC z q) (hN : Now z q) (hc : CC z q (ss q)) {k : Nat} (hk : k < 12) : Ok (f_Cu_missAt 6 (cI k) 155 z) (fun r => r.1 = z.1 ∧ (∀ y, y ≠ 155 → r.2 y = z.2 y) ∧ rN r 155 = q64 (erz q k)) := by
  have hv := hN.2.2.2.2.2.2.2 h
  unfold f_Cu_missAt
  refine ok_bindm (da_cutGain hC hc hk (t := 155) (fun e he => by omega)) (fun w hw2 => ?_)
  have hL : w.2 6 16 = Int64.ofInt (qL q) := by rw [hw2.2.1 6 (by decide)]; exact hv.1.1
  rw [hL]
  refine ok_binde (nu_scale 155 _ w) (ok_pos (inb_cI hk (by decide)) ?_)
  rw [cI_nat (by omega)]
  have es : (sN w 155 (qsc (Int64.ofInt (qL q)) (rN w 155))).1 (6 + 1) 6 = cI (ss q) := by
    show w.1 7 6 = _
    rw [hw2.1]; exact hC.2.1
  rw [es, neg_64 hw.2.2.2.2.2.2.2.2.1]
  refine ok_binde (nu_addScaled (by omega) _ _) (ok_some ⟨hw2.1, fun y hy => by rw [sN_o _ _ hy, sN_o _ _ hy]; exact hw2.2.1 y hy, ?_⟩)
  rw [rN_sN, rN_sN, rN_sNo _ _ (by omega), hw2.2.2.1]
  have hg : rN w (6 + 49 + 1 + k) = q64 (qg q k) := by
    rw [rN_f (hw2.2.1 _ (by omega))]; exact hv.2.1 k hk
  rw [hg]
  unfold erz
  rw [q64_add, q64_sc, q64_sc]
/-- what laying an error does -/
theorem mo_err {b z : M2} {D : Nat → Q6} {q : Sg} (hw : WF q) (hI : IM b q) (hD : MN b z D) (hW : ∀ e, e < sn q → D (82 + e) = q64 (cz q (ss q) e)) (hG : ∀ k, k < 12 → D (67 + k) = q64 (qg q k)) (hL : b.2 157 16 = Int64.ofInt (qL q)) {k : Nat} (hk : k < 12) : Ok (f_Mo_laysError (cI k) z) (fun r => FM z r ∧ (∀ y, y ≠ 157 → y ≠ 158 → y ≠ 159 → r.2 y = z.2 y) ∧ (∀ j, j ≠ 3 → j ≠ 4 → r.2 157 j = z.2 157 j) ∧ r.1 = z.1 ∧ (∀ a, a < 80 ∨ 81 < a ∧ a < 87 → rM r a = D a) ∧ r.2 157 3 = Int64.ofInt (pXz (erz q k)) ∧ r.2 157 4 = Int64.ofInt (pYz (erz q k))) := by
  unfold f_Mo_laysError
  refine ok_bindm (mo_cutGain hw hI hD hW (fun e _ hb => cz_0 hw hb _) hk) (fun w hw2 => ?_)
  have e87 : ∀ i : Nat, (348 : Int32) + cI i = cI (4 * 87 + i) := fun i => by rw [show (348 : Int32) = cI 348 from rfl, cI_add]
  refine ok_bindm (Q := fun r => MN b r (up D 87 (q64 (erz q k)))) ?_ (fun u hu => ?_)
  · refine ok_for 4 (by decide) (fun i u => ∃ v, MN b u (up D 87 v) ∧ (∀ j, j < i → cmp v j = cmp (q64 (erz q k)) j) ∧ ∀ j, i ≤ j → j < 4 → cmp v j = cmp (q64 (cg q (cz q (ss q)) k (sn q))) j) ⟨_, hw2, fun j hj => absurd hj (by omega), fun _ _ _ => rfl⟩ ?_ ?_
    · rintro i u hi ⟨v, hu, hv1, hv2⟩
      show Ok (b_Mo_laysError_5 (cI k) (cI i) u) _
      unfold b_Mo_laysError_5
      rw [e87 i, show (67 : Int32) = cI 67 from rfl, cI_add]
      have i352 : inb (cI (4 * 87 + i)) 352 := inb_cI (by omega) (by decide)
      refine ok_neg (le_no (a := 4) hi (by decide)) (ok_pos i352 (ok_binde (mo_part (a := 67 + k) (by omega) hi u) (ok_pos i352 (ok_bd (ok_some ⟨c_succ i, ?_⟩)))))
      rw [cI_nat (by omega), hu.2.2 _ (by omega), up_o _ _ (by omega), hG k hk, hu.1, hI.2.1.1, hu.2.1 157 (by decide) (by decide), hL]
      have ev : u.2 158 (4 * 87 + i) = cmp v i := by
        have h4 : i = 0 ∨ i = 1 ∨ i = 2 ∨ i = 3 := by omega
        have hr : rM u 87 = v := by rw [hu.2.2 87 (by decide), up_s]
        rw [← hr]
        rcases h4 with e | e | e | e <;> subst e <;> rfl
      have h5 := MN_c hu 87 (by decide) hi (u.2 158 (4 * 87 + i) * Int64.ofInt (qL q) - cmp (q64 (qg q k)) i * (cI (ss q)).toInt64)
      rw [up_up, up_s] at h5
      refine ⟨_, h5, fun j hj => ?_, fun j hj hj4 => ?_⟩
      · by_cases hji : j = i
        · subst hji
          have es : cmp (setc v j (u.2 158 (4 * 87 + j) * Int64.ofInt (qL q) - cmp (q64 (qg q k)) j * (cI (ss q)).toInt64)) j = u.2 158 (4 * 87 + j) * Int64.ofInt (qL q) - cmp (q64 (qg q k)) j * (cI (ss q)).toInt64 := by
            have h4 : j = 0 ∨ j = 1 ∨ j = 2 ∨ j = 3 := by omega
            rcases h4 with e | e | e | e <;> subst e <;> rfl
          rw [es, ev, hv2 j (Nat.le_refl _) hi, ← Int64.ofInt_int32ToInt, cI_toInt (by have := hw.2.2.2.2.2.2.2.2.1; omega), cmp_z (L := 0) hi, cmp_z (L := 0) hi, cmp_z (L := 0) hi, ← Int64.ofInt_mul, ← Int64.ofInt_mul, ← Int64.ofInt_sub]
          congr 1
          unfold erz
          have h4 : j = 0 ∨ j = 1 ∨ j = 2 ∨ j = 3 := by omega
          rcases h4 with e | e | e | e <;> subst e <;> simp only [cmz, qadd, zsc] <;> simp <;> grind
        · have h4 : cmp (setc v i (u.2 158 (4 * 87 + i) * Int64.ofInt (qL q) - cmp (q64 (qg q k)) i * (cI (ss q)).toInt64)) j = cmp v j := by
            generalize u.2 158 (4 * 87 + i) * Int64.ofInt (qL q) - cmp (q64 (qg q k)) i * (cI (ss q)).toInt64 = x
            unfold cmp setc
            have h5 : i = 0 ∨ i = 1 ∨ i = 2 ∨ i = 3 := by omega
            have h6 : j = 0 ∨ j = 1 ∨ j = 2 ∨ j = 3 := by omega
            rcases h5 with e | e | e | e <;> rcases h6 with f | f | f | f <;> subst e <;> subst f <;> first | rfl | exact absurd rfl hji
          rw [h4]
          exact hv1 j (by omega)
      · have h4 : cmp (setc v i (u.2 158 (4 * 87 + i) * Int64.ofInt (qL q) - cmp (q64 (qg q k)) i * (cI (ss q)).toInt64)) j = cmp v j := by
          generalize u.2 158 (4 * 87 + i) * Int64.ofInt (qL q) - cmp (q64 (qg q k)) i * (cI (ss q)).toInt64 = x
          have hji : ¬ j = i := by omega
          unfold cmp setc
          have h5 : i = 0 ∨ i = 1 ∨ i = 2 ∨ i = 3 := by omega
          have h6 : j = 0 ∨ j = 1 ∨ j = 2 ∨ j = 3 := by omega
          rcases h5 with e | e | e | e <;> rcases h6 with f | f | f | f <;> subst e <;> subst f <;> first | rfl | exact absurd rfl hji
        rw [h4]
        exact hv2 j (by omega) hj4
    · rintro u ⟨v, hu, hv1, _⟩
      show Ok (b_Mo_laysError_5 (cI k) (cI 4) u) _
      unfold b_Mo_laysError_5
      refine ok_pos (le_yes (a := 4) (Nat.le_refl _) (by decide)) (ok_some ?_)
      have : v = q64 (erz q k) := q_ext (hv1 0 (by decide)) (hv1 1 (by decide)) (hv1 2 (by decide)) (hv1 3 (by decide))
      rw [← this]; exact hu
  · refine ok_bindm (mo_laysPowr (a := 87) (PW_N hI.1 hu) (by decide) (by decide) (by decide) ((hu.2.2 87 (by decide)).trans (up_s _ _ _))) (fun p hp => ok_some ⟨FM_tr (FM_2 hD hu) (FM_P hp), fun y y1 y2 y3 => ?_, fun j j1 j2 => ?_, ?_, fun a ha => ?_, hp.2.2.2.2.2.1, hp.2.2.2.2.2.2⟩)
    · rw [hp.2.1 y y1 y2 y3, hu.2.1 y y2 y3, hD.2.1 y y2 y3]
    · rw [hp.2.2.1 j j1 j2, hu.2.1 157 (by decide) (by decide), hD.2.1 157 (by decide) (by decide)]
    · rw [hp.1, hu.1, hD.1]
    · have : rM p a = rM u a := by
        rcases ha with h | h
        · exact hp.2.2.2.1 a h
        · exact hp.2.2.2.2.1 a h.1 (by omega)
      rw [this, hu.2.2 a (by omega), up_o _ _ (by omega)]
/-! how large errors are -/
theorem ct_b {a s L : Int} (hL : 0 < L) : -L ≤ 2 * (L * ct a s L + -s * a) ∧ 2 * (L * ct a s L + -s * a) ≤ L := by
  unfold ct
  have h1 := Int.mul_ediv_add_emod (2 * (a * s) + L) (2 * L)
  have h2 := Int.emod_nonneg (2 * (a * s) + L) (show 2 * L ≠ 0 by omega)
  have h3 := Int.emod_lt_of_pos (2 * (a * s) + L) (show 0 < 2 * L by omega)
  generalize (2 * (a * s) + L) / (2 * L) = c at *
  generalize (2 * (a * s) + L) % (2 * L) = m at *
  have e1 : 2 * (L * c + -s * a) = 2 * L * c - 2 * (a * s) := by grind
  rw [e1]
  omega
def erd (q : Sg) (e : Nat) : Z4 := qadd (zsc (qL q) (cz q (ss q) e)) (zsc (-(ss q : Int)) (qv q e))
theorem cg_lin (q : Sg) (x y : Int) (W V : Nat → Z4) (k : Nat) : ∀ n, qadd (zsc x (cg q W k n)) (zsc y (cg q V k n)) = cg q (fun e => qadd (zsc x (W e)) (zsc y (V e))) k n := by
  intro n
  induction n with
  | zero =>
    show qadd (zsc x (0, 0, 0, 0)) (zsc y (0, 0, 0, 0)) = (0, 0, 0, 0)
    unfold zsc qadd; simp
  | succ n ih =>
    rw [cg_s, cg_s, cg_s]
    by_cases h : (sb q).testBit n = true
    · rw [if_pos h, if_pos h, if_pos h]; exact ih
    · rw [if_neg h, if_neg h, if_neg h, ← ih]
      generalize cg q W k n = u
      generalize cg q V k n = v
      generalize W n = w
      generalize V n = t
      generalize rt (k * sp q n) = r
      apply q_ext <;> simp only [qadd, qmul, zsc] <;> grind
theorem erz_cg (q : Sg) (k : Nat) : erz q k = cg q (erd q) k (sn q) := by
  unfold erz
  have e : qg q k = cg q (qv q) k (sn q) := (hear_gn (qw q) (qp q) (qm q) (sn q) (sp q) (sb q) k rfl).symm
  rw [e, cg_lin]
  rfl
theorem pX_c {v : Z4} {N : Int} (h1 : -N ≤ v.1 ∧ v.1 ≤ N) (h2 : -N ≤ v.2.1 ∧ v.2.1 ≤ N) (h3 : -N ≤ v.2.2.1 ∧ v.2.2.1 ≤ N) (h4 : -N ≤ v.2.2.2 ∧ v.2.2.2 ≤ N) : pXz v ≤ 6 * (N * N) := by
  have key : ∀ a b : Int, -N ≤ a ∧ a ≤ N → -N ≤ b ∧ b ≤ N → a * b ≤ N * N := fun a b ha hb => by
    by_cases h : 0 ≤ a
    · exact (mul_b h ha.2 hb.1 hb.2).2
    · have := (mul_b (a := -a) (b := -b) (A := N) (B := N) (by omega) (by omega) (by omega) (by omega)).2
      rw [Int.neg_mul, Int.mul_neg, Int.neg_neg] at this
      exact this
  have a1 := key _ _ h1 h1
  have a2 := key _ _ h2 h2
  have a3 := key _ _ h3 h3
  have a4 := key _ _ h4 h4
  have a5 := key _ _ h1 h3
  have a6 := key _ _ h2 h4
  unfold pXz pX
  omega
theorem cg_b {q : Sg} (hw : WF q) {W : Nat → Z4} {B : Int} (hB : 0 ≤ B) (hW : ∀ e, e < sn q → pXz (W e) ≤ B) (k : Nat) : pXz (cg q W k (sn q)) ≤ 25 * B := by
  unfold cg
  obtain ⟨h1, h2, _⟩ := pX_sum (((List.range (sn q)).filter (fun i => !(sb q).testBit i)).map (fun e => qmul (W e) (rt (k * sp q e))))
  have hl : (((List.range (sn q)).filter (fun i => !(sb q).testBit i)).map (fun e => qmul (W e) (rt (k * sp q e)))).length ≤ 5 := by
    rw [List.length_map]
    exact Nat.le_trans (List.length_filter_le _ _) (by rw [List.length_range]; exact hw.1)
  have hs : ∀ l : List Nat, (∀ e ∈ l, e < sn q) → isum ((l.map (fun e => qmul (W e) (rt (k * sp q e)))).map pXz) ≤ l.length * B := by
    intro l
    induction l with
    | nil => intro _; show (0 : Int) ≤ ((0 : Nat) : Int) * B; simp
    | cons a l ih =>
      intro hl
      have i1 := ih (fun e he => hl e (List.mem_cons_of_mem _ he))
      have i2 := hW a (hl a (List.mem_cons_self ..))
      show pXz (qmul (W a) (rt (k * sp q a))) + isum ((l.map (fun e => qmul (W e) (rt (k * sp q e)))).map pXz) ≤ ((l.length + 1 : Nat) : Int) * B
      rw [(pXz_rt (W a) (k * sp q a)).1]
      have : ((l.length + 1 : Nat) : Int) * B = l.length * B + B := by
        rw [show ((l.length + 1 : Nat) : Int) = (l.length : Int) + 1 by omega, Int.add_mul, Int.one_mul]
      omega
  have h3 := hs ((List.range (sn q)).filter (fun i => !(sb q).testBit i)) (fun e he => List.mem_range.mp (List.mem_filter.mp he).1)
  have hl2 : (((List.range (sn q)).filter (fun i => !(sb q).testBit i)).length : Int) ≤ 5 := by
    have := Nat.le_trans (List.length_filter_le (fun i => !(sb q).testBit i) (List.range (sn q))) (by rw [List.length_range]; exact hw.1 : _ ≤ 5)
    omega
  have h4 : (((List.range (sn q)).filter (fun i => !(sb q).testBit i)).length : Int) * B ≤ 5 * B := Int.mul_le_mul_of_nonneg_right hl2 hB
  generalize isum ((((List.range (sn q)).filter (fun i => !(sb q).testBit i)).map (fun e => qmul (W e) (rt (k * sp q e)))).map pXz) = S at *
  generalize ((((List.range (sn q)).filter (fun i => !(sb q).testBit i)).map (fun e => qmul (W e) (rt (k * sp q e)))).length) = n at *
  have h5 : (n : Int) * S ≤ 5 * S := Int.mul_le_mul_of_nonneg_right (by omega) h2
  omega
theorem erz_b {q : Sg} (hw : WF q) (k : Nat) : 0 ≤ pXz (erz q k) ∧ pXz (erz q k) ≤ 2 ^ 54 ∧ -2 ^ 54 ≤ pYz (erz q k) ∧ pYz (erz q k) ≤ 2 ^ 54 := by
  obtain ⟨l0, l1⟩ := qL_b hw
  have hLL := mul_b (a := qL q) (b := qL q) (A := 9765625) (B := 9765625) (by omega) l1 (by omega) l1
  have hp : ∀ e, e < sn q → pXz (erd q e) ≤ 6 * (9765625 * 9765625) := fun e _ => by
    have b1 := ct_b (a := (qv q e).1) (s := (ss q : Int)) l0
    have b2 := ct_b (a := (qv q e).2.1) (s := (ss q : Int)) l0
    have b3 := ct_b (a := (qv q e).2.2.1) (s := (ss q : Int)) l0
    have b4 := ct_b (a := (qv q e).2.2.2) (s := (ss q : Int)) l0
    have h := pX_c (v := erd q e) (N := 9765625) (by
      show -9765625 ≤ qL q * ct (qv q e).1 (ss q) (qL q) + -(ss q : Int) * (qv q e).1 ∧ qL q * ct (qv q e).1 (ss q) (qL q) + -(ss q : Int) * (qv q e).1 ≤ 9765625
      omega) (by
      show -9765625 ≤ qL q * ct (qv q e).2.1 (ss q) (qL q) + -(ss q : Int) * (qv q e).2.1 ∧ qL q * ct (qv q e).2.1 (ss q) (qL q) + -(ss q : Int) * (qv q e).2.1 ≤ 9765625
      omega) (by
      show -9765625 ≤ qL q * ct (qv q e).2.2.1 (ss q) (qL q) + -(ss q : Int) * (qv q e).2.2.1 ∧ qL q * ct (qv q e).2.2.1 (ss q) (qL q) + -(ss q : Int) * (qv q e).2.2.1 ≤ 9765625
      omega) (by
      show -9765625 ≤ qL q * ct (qv q e).2.2.2 (ss q) (qL q) + -(ss q : Int) * (qv q e).2.2.2 ∧ qL q * ct (qv q e).2.2.2 (ss q) (qL q) + -(ss q : Int) * (qv q e).2.2.2 ≤ 9765625
      omega)
    exact h
  have h := cg_b hw (W := erd q) (B := 6 * (9765625 * 9765625)) (by decide) hp k
  rw [← erz_cg] at h
  have h0 := pXz_nn (erz q k)
  have h1 := pY_le (erz q k)
  omega
theorem ss_1 {q : Sg} (hw : WF q) (h : qh q = true) : 1 ≤ ss q ∧ ss q ≤ 99 := by
  obtain ⟨l, hl, _, _⟩ := look_some hw h
  refine ⟨?_, hw.2.2.2.2.2.2.2.2.1⟩
  refine Nat.pos_of_ne_zero (fun e => ?_)
  have h2 := hw.2.2.2.2.2.2.2.2.2.2.2.1 (hw.2.2.2.2.2.2.2.2.2.1.mp e)
  rw [h2.2.1] at hl
  cases hl
theorem Ls_b {q : Sg} (hw : WF q) (h : qh q = true) : b61 ((qL q * (ss q : Int)) * (qL q * (ss q : Int))) ∧ (qL q * (ss q : Int)) * (qL q * (ss q : Int)) ≠ 0 := by
  obtain ⟨l0, l1⟩ := qL_b hw
  obtain ⟨s1, s2⟩ := ss_1 hw h
  have a := mul_b (a := qL q) (b := (ss q : Int)) (A := 9765625) (B := 99) (by omega) l1 (by omega) (by omega)
  have a0 : 0 < qL q * (ss q : Int) := Int.mul_pos l0 (by omega)
  have b := mul_b (a := qL q * (ss q : Int)) (b := qL q * (ss q : Int)) (A := 966796875) (B := 966796875) (by omega) (by omega) (by omega) (by omega)
  have b0 : 0 < (qL q * (ss q : Int)) * (qL q * (ss q : Int)) := Int.mul_pos a0 a0
  refine ⟨⟨?_, ?_⟩, ?_⟩ <;> omega
theorem pr_error {q : Sg} (hw : WF q) (x y : Int32) : Pr (f_Da_error x y) (f_Mo_error x y) q := by
  refine ⟨if qh q = true ∧ inb x 12 ∧ inb y 3 then rp (pXz (erz q x.toNatClampNeg)) (pYz (erz q x.toNatClampNeg)) ((qL q * (ss q : Int)) * (qL q * (ss q : Int))) y.toNatClampNeg else MN64, q, hw, cs_ref hw (fun g => rfl) (fun n => if_neg (fun e => n e.1)) (fun h r hC hN => ?_), fun g hg => ?_⟩
  · refine ok_grd (da_dir r) (fun n => ok_some ⟨(if_neg (fun e => n e.2.1)).symm, hC, KC_rf r⟩) (fun c1 => ?_)
    rw [hC.2.1]
    refine ok_bindm (da_cuts hw h hC hN hw.2.2.2.2.2.2.2.2.1) (fun z hz => ?_)
    have hg := da_miss hw h hz.1 hz.2.2.1 hz.2.2.2 c1.2
    rw [← inb_to c1] at hg
    refine ok_bindm hg (fun w hw2 => ?_)
    have hI2 := IC_7 hw hz.1 hw2.1 (fun t ht _ => hw2.2.1 t (fun e => ht (by unfold qc; omega))) (fun t ht => hw2.2.1 t (by omega))
    obtain ⟨b1, b2, b3, b4⟩ := erz_b hw x.toNatClampNeg
    have hL : w.2 6 16 = Int64.ofInt (qL q) := by rw [hw2.2.1 6 (by decide)]; exact (hz.2.2.1.2.2.2.2.2.2.2 h).1.1
    have es : w.1 7 6 = cI (ss q) := by rw [hw2.1]; exact hz.1.2.1
    obtain ⟨s1, s2⟩ := ss_1 hw h
    rw [pX64 hw2.2.2, pY64 hw2.2.2, hL, es, ← Int64.ofInt_int32ToInt, cI_toInt (by omega), ← Int64.ofInt_mul, ← Int64.ofInt_mul]
    refine ok_binde (da_real ⟨by omega, by omega⟩ ⟨by omega, by omega⟩ (Ls_b hw h).1 (Ls_b hw h).2 y w) (ok_some ⟨?_, hI2.1, KC_tr hz.2.1 hI2.2⟩)
    by_cases c2 : inb y 3
    · rw [if_pos c2, if_pos ⟨h, c1, c2⟩]
    · rw [if_neg c2, if_neg (fun e => c2 e.2.2)]
  · unfold f_Mo_error
    rw [show (2 : Int64) = Int64.ofInt (((3 : Nat) : Int) - 1) from rfl]
    refine ok_grd (mo_dir g) (fun n => ok_some ⟨(if_neg (fun e => n e.2.1)).symm, hg, KM_rf g⟩) (fun c1 => ok_grd (mo_in0 (by decide) g) (fun n => ok_some ⟨(if_neg (fun e => n e.2.2)).symm, hg, KM_rf g⟩) (fun c2 => mo_cutsNow hw hg (fun n => if_neg (fun e => n e.1)) (fun h r z hQ hz => ?_)))
    obtain ⟨D, hD, hD1, hD2⟩ := hz
    rw [if_pos (show qh q = true ∧ inb x 12 ∧ inb y 3 from ⟨h, c1, c2⟩)]
    have he := mo_err hw hQ.1 hD hD1 (fun k hk => by rw [hD2 _ (by omega)]; exact hQ.2.2.1.2.2.2.2.2.2 k hk) hQ.2.2.1.1 c1.2
    rw [← inb_to c1] at he
    refine ok_bindm he (fun u hu => ?_)
    obtain ⟨b1, b2, b3, b4⟩ := erz_b hw x.toNatClampNeg
    have hL : u.2 157 16 = Int64.ofInt (qL q) := by rw [hu.2.2.1 16 (by decide) (by decide), hD.2.1 157 (by decide) (by decide)]; exact hQ.2.2.1.1
    have es : u.1 160 0 = cI (ss q) := by rw [hu.2.2.2.1, hD.1]; exact hQ.1.2.1.1
    obtain ⟨s1, s2⟩ := ss_1 hw h
    rw [hu.2.2.2.2.2.1, hu.2.2.2.2.2.2, hL, es, ← Int64.ofInt_int32ToInt, cI_toInt (by omega), ← Int64.ofInt_mul, ← Int64.ofInt_mul]
    exact ok_binde (mo_real ⟨by omega, by omega⟩ ⟨by omega, by omega⟩ (Ls_b hw h).1 (Ls_b hw h).2 c2 u) (ok_some ⟨rfl, hu.1⟩)
