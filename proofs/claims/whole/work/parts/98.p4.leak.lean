/-! leak, weakest -/
theorem ms_cq {A : Type} {q : Sg} (hw : WF q) {g : M2} (hg : IM g q) {K : Int32 × M2 → Option (A × M2)} {N v : A} (hn : ¬ qh q = true → v = N) (hK : qh q = true → ∀ (i : Int32) (r : M2), Mqr r q → Ok (K (i, r)) (fun p => p.1 = v ∧ FM r p.2)) : Ok ((f_Mo_canNow g).bind fun q2 => if q2.1 = 0 then some (N, q2.2) else K q2) (fun p => p.1 = v ∧ IM p.2 q ∧ KM g p.2) := by
  refine ok_bindm (mo_canNow hw hg) (fun r hr => ?_)
  obtain ⟨b1, b2, b3, b4, b5⟩ := hr
  rw [b1]
  refine ok_grd rfl (fun h => ok_some ⟨(hn h).symm, b3, FM_K b2⟩) (fun h => ?_)
  obtain ⟨h1, h2, h3, h4, h5, _⟩ := q_on hw h
  exact ok_mono (hK h r.1 r.2 ⟨b3, b4.1, b4.2.2.2.2.2 ⟨h3, h2⟩, b5⟩) (fun p hp => ⟨hp.1, IM_f b3 hp.2, FM_K (FM_tr b2 hp.2)⟩)
theorem rt_6 (k : Nat) : rt (k + 6) = qneg (rt k) := by
  rw [← rt_mul]
  have e : rt 6 = (-1, 0, 0, 0) := by decide
  rw [e]
  apply q_ext <;> simp only [qmul, qneg] <;> grind
/-- a gain without an element -/
def lkz (q : Sg) (e k : Nat) : Z4 := qadd (qg q k) (qmul (qv q e) (rt (k * sp q e + 6)))
theorem pX_two (a b : Z4) : pXz (qadd a b) ≤ 2 * (pXz a + pXz b) := by
  have := pB_le a b
  unfold pB at this
  omega
theorem lkz_b {q : Sg} (hw : WF q) (h : qh q = true) {e : Nat} (he : e < sn q) (k : Nat) : 0 ≤ pXz (lkz q e k) ∧ pXz (lkz q e k) ≤ 2 ^ 51 ∧ -2 ^ 51 ≤ pYz (lkz q e k) ∧ pYz (lkz q e k) ≤ 2 ^ 51 := by
  have h1 := pX_two (qg q k) (qmul (qv q e) (rt (k * sp q e + 6)))
  rw [(pXz_rt (qv q e) (k * sp q e + 6)).1] at h1
  have h2 := pw_c hw h k
  have h3 := qv_b hw h he
  have h4 := pXz_nn (lkz q e k)
  have h5 := pY_le (lkz q e k)
  have h6 : pXz (lkz q e k) ≤ 2 * (pXz (qg q k) + pXz (qv q e)) := h1
  omega
theorem mo_leak {z : M2} {q : Sg} (hw : WF q) (hQ : Mqr z q) {e k : Nat} (he : e < sn q) (hk : k < 12) : Ok (f_Mo_laysLeak (cI e) (cI k) z) (fun r => MN z r (up (rM z) 87 (q64 (lkz q e k)))) := by
  have hn := hw.1
  have hlen := q5 hw
  unfold f_Mo_laysLeak
  refine ok_bindm (mn_clears (MN_rf z) (a := 87) (by decide)) (fun z1 hz1 => ?_)
  rw [show (67 : Int32) = cI 67 from rfl, cI_add]
  refine ok_bindm (mn_adds hz1 (t := 87) (a := 67 + k) (by decide) (by omega) 1) (fun z2 hz2 => ?_)
  rw [up_up, up_s, up_o _ _ (by omega), hQ.2.2.1.2.2.2.2.2.2 k hk, qsc_1, qadd_0] at hz2
  have ie : inb (cI e) 5 := inb_cI (by omega) (by decide)
  refine ok_pos ie ?_
  simp only [cI_nat (show e < 2 ^ 31 by omega), hz2.1]
  by_cases hb : (sb q).testBit e = true
  · refine ok_pos (q_br hQ he hb) (ok_some ?_)
    have e1 : lkz q e k = qg q k := by
      unfold lkz
      rw [qv_0 hb, z_0m]
      apply q_ext <;> simp [qadd]
    rw [e1]; exact hz2
  · obtain ⟨i1, i2, i3⟩ := q_wk hQ he hb
    rw [i1]
    refine ok_neg (cI_m1 (by omega)) (ok_pos ie ?_)
    rw [show (2 : Int32) = cI 2 from rfl, cI_add, show (62 : Int32) = cI 62 from rfl, cI_add]
    refine ok_pos (inb_cI (by omega) (by decide)) ?_
    have hp12 := prod12 hk (hw.2.1 e he)
    rw [cI_nat (by omega), hQ.1.2.1.2.2.1 e he, c_mul2]
    refine ok_bindm (mn_addsTurned hz2 hQ.1.1 (t := 87) (a := 62 + (wkl (sp q) (sb q) e).length) (by decide) (by omega) (by omega) (by omega) (by omega) (-1)) (fun r hr => ok_some ?_)
    rw [up_up, up_s, up_o _ _ (by omega), i3, rz_nat, qsc_n1] at hr
    have e1 : q64 (lkz q e k) = qadd (q64 (qg q k)) (qneg (qmul (q64 (qv q e)) (rt6 (k * sp q e)))) := by
      unfold lkz
      rw [q64_add, rt_6, q64_mul, q64_neg]
      congr 1
      show qmul (q64 (qv q e)) (qneg (rt6 (k * sp q e))) = _
      generalize q64 (qv q e) = a
      generalize rt6 (k * sp q e) = b
      apply q_ext <;> simp only [qmul, qneg] <;> grind
    rw [e1]; exact hr
theorem pr_leak {q : Sg} (hw : WF q) (x y w : Int32) : Pr (f_Da_leak x y w) (f_Mo_leak x y w) q := by
  have hn := hw.1
  refine ⟨if qh q = true ∧ inb x (sn q) ∧ inb y 12 ∧ inb w 3 then rp (pXz (lkz q x.toNatClampNeg y.toNatClampNeg)) (pYz (lkz q x.toNatClampNeg y.toNatClampNeg)) (qL q * qL q) w.toNatClampNeg else MN64, q, hw, cs_ref hw (fun g => rfl) (fun n => if_neg (fun e => n e.1)) (fun h r hC hN => ?_), fun g hg => ?_⟩
  · refine ok_grd (da_has hw hC) (fun n => ok_some ⟨(if_neg (fun e => n e.2.1)).symm, hC, KC_rf r⟩) (fun c1 => ok_grd (da_dir r) (fun n => ok_some ⟨(if_neg (fun e => n e.2.2.1)).symm, hC, KC_rf r⟩) (fun c2 => ok_pos c2 ?_))
    have hv := hN.2.2.2.2.2.2.2 h
    have i5 : inb x 5 := ⟨c1.1, by have := c1.2; omega⟩
    refine ok_binde (nu_copy (by have := c2.2; omega) r) (ok_pos i5 (ok_pos i5 ?_))
    have hg1 : rN r (55 + 1 + y.toNatClampNeg) = q64 (qg q y.toNatClampNeg) := hv.2.1 _ c2.2
    have hw1 : rN r (49 + 1 + x.toNatClampNeg) = q64 (qv q x.toNatClampNeg) := hv.1.2.2 _ c1.2
    have hp12 := prod12 c2.2 (hw.2.1 _ c1.2)
    have ep : y * (sN r 155 (rN r (55 + 1 + y.toNatClampNeg))).1 8 x.toNatClampNeg + (6 : Int32) = cI (y.toNatClampNeg * sp q x.toNatClampNeg + 6) := by
      have e8 : (sN r 155 (rN r (55 + 1 + y.toNatClampNeg))).1 8 x.toNatClampNeg = cI (sp q x.toNatClampNeg) := (hC.1.2.2.1 _ c1.2).1
      rw [e8]
      conv => lhs; rw [inb_to c2]
      rw [show (6 : Int32) = cI 6 from rfl, cI_mul, cI_add]
    rw [ep]
    refine ok_binde (nu_addTurned (by omega) (by have := i5.2; omega) _) ?_
    have hN1 : rN (sN (sN r 155 (rN r (55 + 1 + y.toNatClampNeg))) 155 (qadd (rN (sN r 155 (rN r (55 + 1 + y.toNatClampNeg))) 155) (qmul (rN (sN r 155 (rN r (55 + 1 + y.toNatClampNeg))) (49 + 1 + x.toNatClampNeg)) (rt6 (y.toNatClampNeg * sp q x.toNatClampNeg + 6))))) 155 = q64 (lkz q x.toNatClampNeg y.toNatClampNeg) := by
      rw [rN_sN, rN_sN, rN_sNo _ _ (by have := i5.2; omega), hg1, hw1]
      unfold lkz
      rw [q64_add, q64_mul]; rfl
    have hN2 : ∀ t, t ≠ 155 → (sN (sN r 155 (rN r (55 + 1 + y.toNatClampNeg))) 155 (qadd (rN (sN r 155 (rN r (55 + 1 + y.toNatClampNeg))) 155) (qmul (rN (sN r 155 (rN r (55 + 1 + y.toNatClampNeg))) (49 + 1 + x.toNatClampNeg)) (rt6 (y.toNatClampNeg * sp q x.toNatClampNeg + 6))))).2 t = r.2 t := fun t ht => by rw [sN_o _ _ ht, sN_o _ _ ht]
    have hN3 : (sN (sN r 155 (rN r (55 + 1 + y.toNatClampNeg))) 155 (qadd (rN (sN r 155 (rN r (55 + 1 + y.toNatClampNeg))) 155) (qmul (rN (sN r 155 (rN r (55 + 1 + y.toNatClampNeg))) (49 + 1 + x.toNatClampNeg)) (rt6 (y.toNatClampNeg * sp q x.toNatClampNeg + 6))))).1 = r.1 := rfl
    generalize sN (sN r 155 (rN r (55 + 1 + y.toNatClampNeg))) 155 (qadd (rN (sN r 155 (rN r (55 + 1 + y.toNatClampNeg))) 155) (qmul (rN (sN r 155 (rN r (55 + 1 + y.toNatClampNeg))) (49 + 1 + x.toNatClampNeg)) (rt6 (y.toNatClampNeg * sp q x.toNatClampNeg + 6)))) = u at hN1 hN2 hN3
    have hI2 := IC_7 hw hC hN3 (fun t ht _ => hN2 t (fun e => ht (by unfold qc; omega))) (fun t ht => hN2 t (by omega))
    obtain ⟨b1, b2, b3, b4⟩ := lkz_b hw h c1.2 y.toNatClampNeg
    have hL : u.2 6 16 = Int64.ofInt (qL q) := by rw [hN2 6 (by decide)]; exact hv.1.1
    rw [pX64 hN1, pY64 hN1, hL, ← Int64.ofInt_mul]
    refine ok_binde (da_real ⟨by omega, by omega⟩ ⟨by omega, by omega⟩ (L2_b hw).1 (L2_b hw).2 w u) (ok_some ⟨?_, hI2⟩)
    by_cases c3 : inb w 3
    · rw [if_pos c3, if_pos ⟨h, c1, c2, c3⟩]
    · rw [if_neg c3, if_neg (fun e => c3 e.2.2.2)]
  · unfold f_Mo_leak
    refine ok_binde (mo_elem hw hg.2.1) ?_
    rw [show (2 : Int64) = Int64.ofInt (((3 : Nat) : Int) - 1) from rfl]
    refine ok_grd rfl (fun n => ok_some ⟨(if_neg (fun e => n e.2.1)).symm, hg, KM_rf g⟩) (fun c1 => ok_grd (mo_dir g) (fun n => ok_some ⟨(if_neg (fun e => n e.2.2.1)).symm, hg, KM_rf g⟩) (fun c2 => ok_grd (mo_in0 (by decide) g) (fun n => ok_some ⟨(if_neg (fun e => n e.2.2.2)).symm, hg, KM_rf g⟩) (fun c3 => ms_cq hw hg (fun n => if_neg (fun e => n e.1)) (fun h _ r hQ => ?_))))
    rw [if_pos (show qh q = true ∧ inb x (sn q) ∧ inb y 12 ∧ inb w 3 from ⟨h, c1, c2, c3⟩)]
    have hl := mo_leak hw hQ c1.2 c2.2
    rw [← inb_to c1, ← inb_to c2] at hl
    refine ok_bindm hl (fun u hu => ok_bindm (mo_laysPowr (a := 87) (PW_N hQ.1.1 hu) (by decide) (by decide) (by decide) ((hu.2.2 87 (by decide)).trans (up_s _ _ _))) (fun p hp => ?_))
    obtain ⟨b1, b2, b3, b4⟩ := lkz_b hw h c1.2 y.toNatClampNeg
    have hL : p.2 157 16 = Int64.ofInt (qL q) := by rw [hp.2.2.1 16 (by decide) (by decide), hu.2.1 157 (by decide) (by decide)]; exact hQ.2.2.1.1
    rw [hp.2.2.2.2.2.1, hp.2.2.2.2.2.2, hL, ← Int64.ofInt_mul]
    exact ok_binde (mo_real ⟨by omega, by omega⟩ ⟨by omega, by omega⟩ (L2_b hw).1 (L2_b hw).2 c3 p) (ok_some ⟨rfl, FM_tr (FM_N hu) (FM_P hp)⟩)
/-! weakest -/
abbrev wvX (q : Sg) (e : Nat) : Int := pXz (qv q e)
abbrev wvY (q : Sg) (e : Nat) : Int := pYz (qv q e)
theorem wv_XB {q : Sg} (hw : WF q) (h : qh q = true) : XB (wvX q) (wvY q) (sn q) := fun e he => by
  have h3 := qv_b hw h he
  have h4 := pXz_nn (qv q e)
  have h5 := pY_le (qv q e)
  show -2 ^ 56 ≤ pXz (qv q e) ∧ pXz (qv q e) ≤ 2 ^ 56 ∧ -2 ^ 56 ≤ pYz (qv q e) ∧ pYz (qv q e) ≤ 2 ^ 56
  omega
abbrev wkx (q : Sg) (n : Nat) : Option Nat := gmx (fun _ => true) (wvX q) (wvY q) n
/-- a deaf direction has gain 0 -/
theorem deaf_0 {q : Sg} (hw : WF q) (h : qh q = true) {i : Nat} (hi : i < (sd q).length) : qg q ((sd q).getD i 0) = (0, 0, 0, 0) := by
  obtain ⟨h1, h2, h3, h4, h5, h6⟩ := q_on hw h
  obtain ⟨l, hl, _, _⟩ := look_some hw h
  have e1 : qw q (i + 1) = (sd q).getD i 0 := by
    show wsl (sl q) (sd q) (i + 1) = _
    rw [hl]; rfl
  have e2 : qm q = (sd q).length + 1 := by
    show (wll (sl q) (sd q)).length = _
    rw [hl]; rfl
  have := gn_wish (WF_m hw) h1 h6 (fun i hi => Nat.le_of_lt (h5 i hi)) (r := i + 1) (by omega) (by omega)
  rw [e1] at this
  exact this
theorem lkz_w {q : Sg} (hw : WF q) (h : qh q = true) {i : Nat} (hi : i < (sd q).length) (e : Nat) : pXz (lkz q e ((sd q).getD i 0)) = wvX q e ∧ pYz (lkz q e ((sd q).getD i 0)) = wvY q e := by
  have e1 : lkz q e ((sd q).getD i 0) = qmul (qv q e) (rt ((sd q).getD i 0 * sp q e + 6)) := by
    unfold lkz
    rw [deaf_0 hw h hi]
    generalize qmul (qv q e) (rt ((sd q).getD i 0 * sp q e + 6)) = v
    apply q_ext <;> simp [qadd]
  rw [e1]
  exact pXz_rt _ _
theorem sgn_00 : sgn 0 0 = 0 := by decide
theorem gst_2 {X Y : Nat → Int} {o : Option Nat} {k : Nat} : gst X Y (gst X Y o k) k = gst X Y o k := by
  cases o with
  | none =>
    show (if 0 < sgn (X k - X k) (Y k - Y k) then some k else some k) = some k
    rw [ite_self]
  | some b =>
    show gst X Y (if 0 < sgn (X k - X b) (Y k - Y b) then some k else some b) k = (if 0 < sgn (X k - X b) (Y k - Y b) then some k else some b)
    by_cases h : 0 < sgn (X k - X b) (Y k - Y b)
    · rw [if_pos h]
      show (if 0 < sgn (X k - X k) (Y k - Y k) then some k else some k) = some k
      rw [ite_self]
    · rw [if_neg h]
      show (if 0 < sgn (X k - X b) (Y k - Y b) then some k else some b) = some b
      rw [if_neg h]
/-- reference states that hold what was solved -/
theorem Mqr_P {z u p : M2} {q : Sg} {v : Z4} {x : Q6} (hQ : Mqr z q) (hu : MN z u (up (rM z) 87 x)) (hp : LPw u p v) : Mqr p q := by
  have hf := FM_tr (FM_N hu) (FM_P hp)
  have h1 : p.1 = z.1 := by rw [hp.1, hu.1]
  have h2 : ∀ b, b < 80 → rM p b = rM z b := fun b hb => by rw [hp.2.2.2.1 b hb, hu.2.2 b (by omega), up_o _ _ (by omega)]
  obtain ⟨a1, ⟨d1, d2, d3, d4, d5, d6, d7⟩, ⟨v1, v2, v3, v4, v5, v6, v7⟩, a4⟩ := hQ
  have h157 : ∀ j, j ≠ 3 → j ≠ 4 → p.2 157 j = z.2 157 j := fun j j1 j2 => by rw [hp.2.2.1 j j1 j2, hu.2.1 157 (by decide) (by decide)]
  have hfl : (fl (Gz (qw q) (qp q)) (qm q)).length ≤ 5 := Nat.le_trans (fl_le _ _) d6
  exact ⟨IM_f a1 hf, ⟨fun j hj => by rw [h1]; exact d1 j hj, by rw [h1]; exact d2, d3, fun e he => by rw [h1]; exact d4 e he, by rw [h1]; exact d5, d6, fun i hi => by rw [h1]; exact d7 i hi⟩, ⟨by rw [h157 16 (by decide) (by decide)]; exact v1, by rw [h157 17 (by decide) (by decide)]; exact v2, by rw [h157 18 (by decide) (by decide)]; exact v3, fun j hj => by rw [h2 _ (by omega)]; exact v4 j hj, by rw [h2 _ (by omega)]; exact v5, fun e he => by rw [h2 _ (by omega)]; exact v6 e he, fun k hk => by rw [h2 _ (by omega)]; exact v7 k hk⟩, fun e he => by rw [h1]; exact a4 e he⟩
theorem pr_weakest {q : Sg} (hw : WF q) : Pr f_Da_weakest f_Mo_weakest q := by
  have hn := hw.1
  have hd4 := hw.2.2.2.2.2.1
  by_cases h : qh q = true
  · have hB := wv_XB hw h
    refine ⟨if (sd q).length = 0 then -1 else lkI (wkx q (sn q)), q, hw, cs_ref hw (fun g => rfl) (fun n => absurd h n) (fun _ r hC hN => ?_), fun g hg => ?_⟩
    · have hv := hN.2.2.2.2.2.2.2 h
      have e5 : r.1 7 5 = cI (sd q).length := hC.1.2.2.2.2.2.2.2.1
      rw [e5]
      refine ok_if (fun c => ok_some ⟨?_, hC, KC_rf r⟩) (fun c => ?_)
      · have : (sd q).length = 0 := (cI_inj (b := 0) (by omega) (by decide)).mp c
        rw [if_pos this]
      · rw [if_neg (show ¬ (sd q).length = 0 from fun e => c (by rw [e]; rfl))]
        refine ok_bindm (gr_clear r (wvX q) (wvY q)) (fun r4 hr4 => ?_)
        refine ok_bindm (Q := fun z => GS z (wvX q) (wvY q) (wkx q (sn q)) ∧ F1 152 r z) ?_ (fun z hz => ok_some ⟨hz.1.1, IC_q hw hC (fun y _ hy => hz.2 y (fun e => hy (by unfold qc; omega))), fun y hy => hz.2 y (by omega)⟩)
        refine ok_for (sn q) (by omega) (fun j z => GS z (wvX q) (wvY q) (wkx q j) ∧ F1 152 r z) hr4 ?_ ?_
        · rintro j z hj ⟨z1, z2⟩
          show Ok (b_Da_weakest_20 (cI j) z) _
          unfold b_Da_weakest_20
          rw [(z2 7 (by decide)).1, hC.1.1]
          refine ok_neg (le_no hj (by omega)) (ok_pos (inb_cI (by omega) (by decide)) ?_)
          rw [cI_nat (by omega)]
          refine ok_bindm (gr_offer (N := sn q) z1 (fun b hb => by have := gmx_lt _ _ _ j b hb; omega) (by omega) hj hB (v := qv q j) (by
            rw [rN_f (z2 _ (show 49 + 1 + j ≠ 152 by omega)).2]
            exact hv.1.2.2 j hj) rfl rfl) (fun r8 hr8 => ok_some ⟨c_succ j, by rw [show wkx q (j + 1) = _ from gmx_y rfl]; exact hr8.1, F1_tr z2 hr8.2⟩)
        · rintro z hz
          show Ok (b_Da_weakest_20 (cI (sn q)) z) _
          unfold b_Da_weakest_20
          rw [(hz.2 7 (by decide)).1, hC.1.1]
          exact ok_pos (le_yes (Nat.le_refl _) (by omega)) (ok_some hz)
    · unfold f_Mo_weakest
      refine ms_cq hw hg (fun n => absurd h n) (fun _ _ r hQ => ?_)
      refine ok_bindm (Q := fun e => e.1 = (if (sd q).length = 0 then -1 else lkI (wkx q (sn q))) ∧ FM r e.2) ?_ (fun e he => ok_some he)
      refine ok_lp (fun j st => ∃ u v z o, st = (lkI o, u, v, cI j, z) ∧ (Mqr z q ∧ FM r z) ∧ (o = if (sd q).length = 0 then none else wkx q j) ∧ ∀ b, o = some b → u = Int64.ofInt (wvX q b) ∧ v = Int64.ofInt (wvY q b)) (sn q) 5000 0 _ (by omega) (by omega) ⟨0, 0, r, none, rfl, ⟨hQ, FM_rf r⟩, by split <;> rfl, fun b hb => absurd hb (by simp)⟩ ?_
      rintro j st hj ⟨u, v, z, o, rfl, ⟨hz, hfz⟩, ho, huv⟩
      show Ok (b_Mo_weakest_13 (lkI o) u v (cI j) z) _
      unfold b_Mo_weakest_13
      rw [hz.1.2.1.2.1]
      by_cases hj2 : j = sn q
      · refine ok_pos (le_yes (by omega) (by omega)) (ok_some ⟨?_, hfz⟩)
        show lkI o = _
        rw [ho, hj2]
        split <;> rfl
      · have hj' : j < sn q := by omega
        refine ok_neg (le_no hj' (by omega)) ?_
        refine ok_bindm (Q := fun e => ∃ u v z o2, e = (lkI o2, u, v, z) ∧ (Mqr z q ∧ FM r z) ∧ (o2 = if (sd q).length = 0 then o else gst (wvX q) (wvY q) o j) ∧ ∀ b, o2 = some b → u = Int64.ofInt (wvX q b) ∧ v = Int64.ofInt (wvY q b)) ?_ (fun e he => ?_)
        · have hob : ∀ b, o = some b → b < j := fun b hb => by
            rw [ho] at hb
            by_cases h0 : (sd q).length = 0
            · rw [if_pos h0] at hb; cases hb
            · rw [if_neg h0] at hb; exact gmx_lt _ _ _ j b hb
          refine ok_lp (fun i st => ∃ u v z o2, st = (lkI o2, u, v, cI i, z) ∧ (Mqr z q ∧ FM r z) ∧ (o2 = if i = 0 then o else gst (wvX q) (wvY q) o j) ∧ ∀ b, o2 = some b → u = Int64.ofInt (wvX q b) ∧ v = Int64.ofInt (wvY q b)) (sd q).length 5000 0 _ (by omega) (by omega) ⟨u, v, z, o, rfl, ⟨hz, hfz⟩, (if_pos rfl).symm, huv⟩ ?_
          rintro i st hi ⟨u, v, z, o2, rfl, ⟨hz, hfz⟩, ho2, huv⟩
          show Ok (b_Mo_weakest_21 (cI j) (lkI o2) u v (cI i) z) _
          unfold b_Mo_weakest_21
          rw [hz.1.2.1.2.2.2.2.2.1]
          by_cases hi2 : i = (sd q).length
          · refine ok_pos (le_yes (by omega) (by omega)) (ok_some ⟨u, v, z, o2, rfl, ⟨hz, hfz⟩, ?_, huv⟩)
            rw [ho2, hi2]
          · have hi' : i < (sd q).length := by omega
            rw [show (14 : Int32) = cI 14 from rfl, cI_add]
            refine ok_neg (le_no hi' (by omega)) (ok_pos (inb_cI (by omega) (by decide)) ?_)
            rw [cI_nat (by omega), hz.1.2.1.2.2.2.2.2.2.1 i hi']
            refine ok_bindm (mo_leak hw hz hj' (d12 hw hi')) (fun p hp => ok_bindm (mo_laysPowr (a := 87) (PW_N hz.1.1 hp) (by decide) (by decide) (by decide) ((hp.2.2 87 (by decide)).trans (up_s _ _ _))) (fun s hs => ?_))
            have hQs := Mqr_P hz hp hs
            have hfs := FM_tr hfz (FM_tr (FM_N hp) (FM_P hs))
            obtain ⟨lw1, lw2⟩ := lkz_w hw h hi' j
            have p6 := hs.2.2.2.2.2.1
            have p7 := hs.2.2.2.2.2.2
            rw [lw1] at p6
            rw [lw2] at p7
            have hg1 : (if i + 1 = 0 then o else gst (wvX q) (wvY q) o j) = gst (wvX q) (wvY q) o2 j := by
              rw [if_neg (by omega), ho2]
              by_cases hi0 : i = 0
              · rw [if_pos hi0]
              · rw [if_neg hi0, gst_2]
            have hob2 : ∀ b, o2 = some b → b < sn q := fun b hb => by
              rw [ho2] at hb
              by_cases hi0 : i = 0
              · rw [if_pos hi0] at hb; have := hob b hb; omega
              · rw [if_neg hi0] at hb
                exact gst_lt hj' (fun c hc => by have := hob c hc; omega) b hb
            cases ho3 : o2 with
            | none =>
              refine ok_pos rfl (ok_some ⟨hi', s.2 157 3, s.2 157 4, s, some j, ?_, ⟨hQs, hfs⟩, ?_, fun b hb => ?_⟩)
              · rw [c_succ]; rfl
              · rw [hg1, ho3]; rfl
              · cases hb; exact ⟨p6, p7⟩
            | some b =>
              have hb := hob2 b ho3
              obtain ⟨x1, x2, x3, x4⟩ := hB j hj'
              obtain ⟨y1, y2, y3, y4⟩ := hB b hb
              rw [p6, p7, (huv b ho3).1, (huv b ho3).2, ← Int64.ofInt_sub, ← Int64.ofInt_sub]
              refine ok_neg (cI_m1 (b := b) (by omega)) (ok_binde (mo_sign (by omega) (by omega) (by omega) (by omega) s) ?_)
              simp only [s_gt (sgn_r _ _)]
              have hg2 : gst (wvX q) (wvY q) (some b) j = if 0 < sgn (wvX q j - wvX q b) (wvY q j - wvY q b) then some j else some b := rfl
              refine ok_if (fun d => ok_some ⟨hi', Int64.ofInt (wvX q j), Int64.ofInt (wvY q j), s, some j, ?_, ⟨hQs, hfs⟩, ?_, fun b2 hb2 => ?_⟩) (fun d => ok_some ⟨hi', Int64.ofInt (wvX q b), Int64.ofInt (wvY q b), s, some b, ?_, ⟨hQs, hfs⟩, ?_, fun b2 hb2 => ?_⟩)
              · rw [c_succ]; rfl
              · rw [hg1, ho3, hg2, if_pos d]
              · cases hb2; exact ⟨rfl, rfl⟩
              · rw [c_succ]
              · rw [hg1, ho3, hg2, if_neg d]
              · cases hb2; exact ⟨rfl, rfl⟩
        · obtain ⟨u, v, z, o2, rfl, hz2, ho2, huv⟩ := he
          refine ok_some ⟨hj', u, v, z, o2, by rw [c_succ], hz2, ?_, huv⟩
          rw [ho2, ho]
          by_cases h0 : (sd q).length = 0
          · rw [if_pos h0, if_pos h0, if_pos h0]
          · rw [if_neg h0, if_neg h0, if_neg h0]
            exact (gmx_y (c := fun _ => true) (X := wvX q) (Y := wvY q) (k := j) rfl).symm
  · refine ⟨-2, q, hw, cs_ref hw (fun g => rfl) (fun n => rfl) (fun h2 => absurd h2 h), fun g hg => ?_⟩
    unfold f_Mo_weakest
    exact ms_no hw hg h
