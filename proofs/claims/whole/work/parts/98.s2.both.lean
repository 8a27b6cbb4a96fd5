/-! both -/
abbrev fc (x : Int32) : Prop := -9 ≤ x.toInt ∧ x.toInt ≤ 9
theorem da_factor (x : Int32) (g : M2) : f_Da_isFactor x g = if fc x then 1 else 0 := by
  unfold f_Da_isFactor
  simp only [Int32.lt_iff_toInt_lt, show (-9 : Int32).toInt = -9 from rfl, show (9 : Int32).toInt = 9 from rfl]
  by_cases h : fc x
  · obtain ⟨h1, h2⟩ := id h
    rw [if_pos h, if_neg (by omega), if_neg (by omega)]
  · rw [if_neg h]
    by_cases c1 : x.toInt < -9
    · rw [if_pos c1]
    · have : ¬ x.toInt ≤ 9 := fun e => h ⟨by omega, e⟩
      rw [if_neg c1, if_pos (by omega)]
theorem mo_factor (x : Int32) (g : M2) : f_Mo_in x.toInt64 (-9 : Int64) (9 : Int64) g = if fc x then 1 else 0 := by
  rw [show (-9 : Int64) = Int64.ofInt (-9) from rfl, show (9 : Int64) = Int64.ofInt 9 from rfl, mo_inI (by decide) (by decide) (by decide) (by decide)]
/-- gains with another look -/
abbrev tG (q : Sg) (l k : Nat) : Z4 := gnz (wsl (some l) (fd l (sd q))) (qp q) (wll (some l) (fd l (sd q))).length k
abbrev tW (q : Sg) (l : Nat) : Int := lowz (wsl (some l) (fd l (sd q))) (qp q) (wll (some l) (fd l (sd q))).length
def bov (q : Sg) (l k : Nat) (y w : Int32) : Z4 := qadd (zsc (w.toInt * qL q) (tG q l k)) (zsc (y.toInt * tW q l) (qg q k))
theorem tW_b {q : Sg} (hw : WF q) (l : Nat) : 0 < tW q l ∧ tW q l ≤ 9765625 := by
  have hl4 : (fd l (sd q)).length ≤ 4 := Nat.le_trans (fd_len l _) hw.2.2.2.2.2.1
  have hm := wll_len (lk := some l) hl4
  exact ⟨low_pos hm, (low_le hm (q5 hw)).2⟩
theorem LL_b {q : Sg} (hw : WF q) (l : Nat) : b61 (qL q * tW q l) ∧ qL q * tW q l ≠ 0 := by
  obtain ⟨l0, l1⟩ := qL_b hw
  obtain ⟨t0, t1⟩ := tW_b hw l
  have a := mul_b (a := qL q) (b := tW q l) (A := 9765625) (B := 9765625) (by omega) l1 (by omega) t1
  have a0 : 0 < qL q * tW q l := Int.mul_pos l0 t0
  refine ⟨⟨?_, ?_⟩, ?_⟩ <;> omega
theorem fcl_b {x : Int32} {L : Int} (hf : fc x) (l0 : 0 < L) (l1 : L ≤ 9765625) : -87890625 ≤ x.toInt * L ∧ x.toInt * L ≤ 87890625 := by
  have := mul_b (a := L) (b := x.toInt) (A := 9765625) (B := 9) (by omega) l1 (by omega) (by omega)
  rw [Int.mul_comm L] at this
  omega
theorem zz_b {a c : Int} (h1 : -87890625 ≤ a) (h2 : a ≤ 87890625) (h3 : -16777216 ≤ c) (h4 : c ≤ 16777216) : -1474560000000000 ≤ a * c ∧ a * c ≤ 1474560000000000 := by
  by_cases h : 0 ≤ a
  · have := mul_b (a := a) (b := c) (A := 87890625) (B := 16777216) h h2 h3 h4
    omega
  · have := mul_b (a := -a) (b := c) (A := 87890625) (B := 16777216) (by omega) (by omega) h3 h4
    rw [Int.neg_mul] at this
    omega
theorem bov_b {q : Sg} (hw : WF q) (h : qh q = true) {l k : Nat} (hl : l < 12) (hh : lof q l = true) {y w : Int32} (hy : fc y) (hw2 : fc w) : bz (bov q l k y w) := by
  obtain ⟨l0, l1⟩ := qL_b hw
  obtain ⟨t0, t1⟩ := tW_b hw l
  obtain ⟨h1, h2, h3, h4, h5, _⟩ := q_on hw h
  obtain ⟨d1, d2, _⟩ := hdq_on hh
  have hl4 : (fd l (sd q)).length ≤ 4 := Nat.le_trans (fd_len l _) hw.2.2.2.2.2.1
  have g1 := comp_le (v := qg q k) (N := 16777216) (by decide) (gn_c (WF_m hw) h4 h1 h2 (fun i hi => Nat.le_of_lt (h5 i hi)) k)
  have g2 := comp_le (v := tG q l k) (N := 16777216) (by decide) (gn_c (wll_len hl4) (q5 hw) d1 d2 (fun i hi => Nat.le_of_lt (wsl_lt (fun j hj => by cases hj; exact hl) (fun j hj => hw.2.2.2.2.2.2.1 _ (fd_mem.mp (getD_mem hj)).1) i hi)) k)
  have f1 := fcl_b hw2 l0 l1
  have f2 := fcl_b hy t0 t1
  have key : ∀ a b : Int, (a ≤ 16777216 ∧ -16777216 ≤ a) → (b ≤ 16777216 ∧ -16777216 ≤ b) → b61 (w.toInt * qL q * a + y.toInt * tW q l * b) := fun a b ha hb => by
    have z1 := zz_b f1.1 f1.2 ha.2 ha.1
    have z2 := zz_b f2.1 f2.2 hb.2 hb.1
    unfold b61
    omega
  exact ⟨key _ _ g2.1 g1.1, key _ _ g2.2.1 g1.2.1, key _ _ g2.2.2.1 g1.2.2.1, key _ _ g2.2.2.2 g1.2.2.2⟩
theorem pr_both {q : Sg} (hw : WF q) (x y w u v : Int32) : Pr (f_Da_both x y w u v) (f_Mo_both x y w u v) q := by
  have hn := hw.1
  refine ⟨if qh q = true ∧ inb x 12 ∧ inb u 12 ∧ fc y ∧ fc w ∧ inb v 5 ∧ lof q x.toNatClampNeg = true then tld (qL q * tW q x.toNatClampNeg) (bov q x.toNatClampNeg u.toNatClampNeg y w) v.toNatClampNeg else MN64, q, hw, cs_ref hw (fun g => rfl) (fun n => if_neg (fun e => n e.1)) (fun h r hC hN => ?_), fun g hg => ?_⟩
  · refine ok_grd (da_dir r) (fun n => ok_some ⟨(if_neg (fun e => n e.2.1)).symm, hC, KC_rf r⟩) (fun c1 => ok_grd (da_dir r) (fun n => ok_some ⟨(if_neg (fun e => n e.2.2.1)).symm, hC, KC_rf r⟩) (fun c2 => ok_grd (da_factor y r) (fun n => ok_some ⟨(if_neg (fun e => n e.2.2.2.1)).symm, hC, KC_rf r⟩) (fun c3 => ok_grd (da_factor w r) (fun n => ok_some ⟨(if_neg (fun e => n e.2.2.2.2.1)).symm, hC, KC_rf r⟩) (fun c4 => ?_))))
    have hL := da_hL hC c1.2
    rw [← inb_to c1] at hL
    refine ok_bindm hL (fun p hp => ?_)
    have hIp := FT_I hw hC hp.2.2
    refine ok_grd hp.1 (fun n => ok_some ⟨(if_neg (fun e => n e.2.2.2.2.2.2)).symm, hIp⟩) (fun c5 => ?_)
    have hCV := hp.2.1.2.2 c5
    have hgn := pl_hearBy (A := fun t => t = 155) (CN_rf _ p.2) hp.2.1.1 (w := 115) (k := u.toNatClampNeg) (t := 155) c2.2 rfl (fun e he => by omega) (wte (wsl (some x.toNatClampNeg) (fd x.toNatClampNeg (sd q))) (qp q) (wll (some x.toNatClampNeg) (fd x.toNatClampNeg (sd q))).length (sp q) (sb q)) (fun e he => hCV.2.2 e he)
    rw [hear_gn _ _ _ _ _ _ _ rfl, ← inb_to c2] at hgn
    refine ok_bindm hgn (fun z hz => ?_)
    have hNp : Now p.2 q := Now_mono (WF_m hw) hw.1 hN (hp.2.2 6 (by omega)).1 (hp.2.2 10 (by omega)).1 (hp.2.2 11 (by omega)).1 (hp.2.2 6 (by omega)).2 (fun t _ t2 => (hp.2.2 t (by omega)).2)
    have hv := hNp.2.2.2.2.2.2.2 h
    have zL : z.2 6 16 = Int64.ofInt (qL q) := by rw [hz.2.1 6 (by decide)]; exact hv.1.1
    have zg : rN z 155 = q64 (tG q x.toNatClampNeg u.toNatClampNeg) := by rw [hz.2.2.2, up_s]
    rw [zL, ← Int64.ofInt_int32ToInt, ← Int64.ofInt_mul]
    refine ok_binde (nu_scale 155 _ z) (ok_pos c2 ?_)
    have eT : (sN z 155 (qsc (Int64.ofInt (w.toInt * qL q)) (rN z 155))).2 72 16 = Int64.ofInt (tW q x.toNatClampNeg) := by
      rw [sN_o _ _ (by decide), hz.2.1 72 (by decide)]; exact hCV.1
    rw [eT, ← Int64.ofInt_int32ToInt, ← Int64.ofInt_mul]
    refine ok_binde (nu_addScaled (by have := c2.2; omega) _ _) ?_
    have hN1 : rN (sN (sN z 155 (qsc (Int64.ofInt (w.toInt * qL q)) (rN z 155))) 155 (qadd (rN (sN z 155 (qsc (Int64.ofInt (w.toInt * qL q)) (rN z 155))) 155) (qsc (Int64.ofInt (y.toInt * tW q x.toNatClampNeg)) (rN (sN z 155 (qsc (Int64.ofInt (w.toInt * qL q)) (rN z 155))) (55 + 1 + u.toNatClampNeg))))) 155 = q64 (bov q x.toNatClampNeg u.toNatClampNeg y w) := by
      rw [rN_sN, rN_sN, rN_sNo _ _ (by have := c2.2; omega), zg]
      have hg1 : rN z (55 + 1 + u.toNatClampNeg) = q64 (qg q u.toNatClampNeg) := by
        rw [rN_f (hz.2.1 _ (by have := c2.2; omega))]; exact hv.2.1 _ c2.2
      rw [hg1]
      unfold bov
      rw [q64_add, q64_sc, q64_sc]
    have hN2 : ∀ t, t ≠ 155 → (sN (sN z 155 (qsc (Int64.ofInt (w.toInt * qL q)) (rN z 155))) 155 (qadd (rN (sN z 155 (qsc (Int64.ofInt (w.toInt * qL q)) (rN z 155))) 155) (qsc (Int64.ofInt (y.toInt * tW q x.toNatClampNeg)) (rN (sN z 155 (qsc (Int64.ofInt (w.toInt * qL q)) (rN z 155))) (55 + 1 + u.toNatClampNeg))))).2 t = z.2 t := fun t ht => by rw [sN_o _ _ ht, sN_o _ _ ht]
    have hN3 : (sN (sN z 155 (qsc (Int64.ofInt (w.toInt * qL q)) (rN z 155))) 155 (qadd (rN (sN z 155 (qsc (Int64.ofInt (w.toInt * qL q)) (rN z 155))) 155) (qsc (Int64.ofInt (y.toInt * tW q x.toNatClampNeg)) (rN (sN z 155 (qsc (Int64.ofInt (w.toInt * qL q)) (rN z 155))) (55 + 1 + u.toNatClampNeg))))).1 = z.1 := rfl
    generalize sN (sN z 155 (qsc (Int64.ofInt (w.toInt * qL q)) (rN z 155))) 155 (qadd (rN (sN z 155 (qsc (Int64.ofInt (w.toInt * qL q)) (rN z 155))) 155) (qsc (Int64.ofInt (y.toInt * tW q x.toNatClampNeg)) (rN (sN z 155 (qsc (Int64.ofInt (w.toInt * qL q)) (rN z 155))) (55 + 1 + u.toNatClampNeg)))) = s at hN1 hN2 hN3
    have sL1 : s.2 6 16 = Int64.ofInt (qL q) := by rw [hN2 6 (by decide)]; exact zL
    have sL2 : s.2 72 16 = Int64.ofInt (tW q x.toNatClampNeg) := by rw [hN2 72 (by decide), hz.2.1 72 (by decide)]; exact hCV.1
    rw [sL1, sL2, ← Int64.ofInt_mul]
    refine ok_bindm (da_part hN1 (by decide) (bov_b hw h c1.2 c5 c3 c4) (LL_b hw _).1 (LL_b hw _).2 v) (fun t ht => ok_some ⟨?_, ?_⟩)
    · rw [ht.1]
      by_cases c6 : inb v 5
      · rw [if_pos c6, if_pos ⟨h, c1, c2, c3, c4, c6, c5⟩]
      · rw [if_neg c6, if_neg (fun e => c6 e.2.2.2.2.2.1)]
    · have fin : ∀ a, a ≠ 155 → a ≠ 156 → t.2.1 a = p.2.1 a ∧ t.2.2 a = p.2.2 a := fun a a1 a2 => ⟨by rw [ht.2.1, hN3, hz.1], by rw [ht.2.2 a a2, hN2 a a1, hz.2.1 a a1]⟩
      have hI2 : IC t.2 q ∧ KC p.2 t.2 := ⟨IC_q hw hIp.1 (fun a _ ha => fin a (fun e => ha (by unfold qc; omega)) (fun e => ha (by unfold qc; omega))), fun a ha => fin a (by omega) (by omega)⟩
      exact ⟨hI2.1, KC_tr hIp.2 hI2.2⟩
  · unfold f_Mo_both
    rw [show (4 : Int64) = Int64.ofInt (((5 : Nat) : Int) - 1) from rfl]
    refine ok_grd (mo_dir g) (fun n => ok_some ⟨(if_neg (fun e => n e.2.1)).symm, hg, KM_rf g⟩) (fun c1 => ok_grd (mo_factor y g) (fun n => ok_some ⟨(if_neg (fun e => n e.2.2.2.1)).symm, hg, KM_rf g⟩) (fun c3 => ok_grd (mo_factor w g) (fun n => ok_some ⟨(if_neg (fun e => n e.2.2.2.2.1)).symm, hg, KM_rf g⟩) (fun c4 => ok_grd (mo_dir g) (fun n => ok_some ⟨(if_neg (fun e => n e.2.2.1)).symm, hg, KM_rf g⟩) (fun c2 => ok_grd (mo_in0 (by decide) g) (fun n => ok_some ⟨(if_neg (fun e => n e.2.2.2.2.2.1)).symm, hg, KM_rf g⟩) (fun c6 => ?_)))))
    have hL := mo_wL hw hg c1.2
    rw [← inb_to c1] at hL
    refine ok_bindm hL (fun r hr => ?_)
    have hIr := IM_f hg hr.1
    refine ok_grd hr.2.2.2.1 (fun n => ok_some ⟨(if_neg (fun e => n e.2.2.2.2.2.2)).symm, hIr, FM_K hr.1⟩) (fun c5 => ?_)
    have hMV := hr.2.2.2.2 c5
    refine ok_bindm (mn_clears (MN_rf r) (a := 87) (by decide)) (fun z1 hz1 => ?_)
    have e67 : (67 : Int32) + u = cI (67 + u.toNatClampNeg) := e_add 67 c2
    rw [e67]
    have hu12 := c2.2
    refine ok_bindm (mn_adds hz1 (t := 87) (a := 67 + u.toNatClampNeg) (by decide) (by omega) 1) (fun z2 hz2 => ?_)
    rw [up_up, up_s, up_o _ _ (by omega), hMV.2.2.2.2.2.2 _ c2.2, qsc_1, qadd_0] at hz2
    have hI2 := IM_N hIr hz2
    have eT : z2.2 157 16 = Int64.ofInt (tW q x.toNatClampNeg) := by rw [hz2.2.1 157 (by decide) (by decide)]; exact hMV.1
    refine ok_bindm (mo_canNow7 hw hI2) (fun s hs => ?_)
    obtain ⟨b1, b2, b3, b4, b5, b6⟩ := hs
    have hfs := FM_tr hr.1 (FM_tr (FM_N hz2) b2)
    rw [b1]
    refine ok_grd rfl (fun n => ok_some ⟨(if_neg (fun e => n e.1)).symm, b3, FM_K hfs⟩) (fun h => ?_)
    obtain ⟨h1, h2, h3, h4, h5, _⟩ := q_on hw h
    have hV := b4.2.2.2.2.2 ⟨h3, h2⟩
    rw [eT]
    have s87 : rM s.2 87 = q64 (tG q x.toNatClampNeg u.toNatClampNeg) := by rw [b6, hz2.2.2 87 (by decide), up_s]
    have e87 : ∀ i : Nat, (348 : Int32) + cI i = cI (4 * 87 + i) := fun i => by rw [show (348 : Int32) = cI 348 from rfl, cI_add]
    refine ok_bindm (Q := fun t => MN s.2 t (up (rM s.2) 87 (q64 (bov q x.toNatClampNeg u.toNatClampNeg y w)))) ?_ (fun t ht => ?_)
    · refine ok_for 4 (by decide) (fun i t => ∃ v, MN s.2 t (up (rM s.2) 87 v) ∧ (∀ j, j < i → cmp v j = cmp (q64 (bov q x.toNatClampNeg u.toNatClampNeg y w)) j) ∧ ∀ j, i ≤ j → j < 4 → cmp v j = cmp (q64 (tG q x.toNatClampNeg u.toNatClampNeg)) j) ⟨rM s.2 87, ⟨rfl, fun _ _ _ => rfl, fun a _ => by
        by_cases ha : a = 87
        · subst ha; rw [up_s]
        · rw [up_o _ _ ha]⟩, fun j hj => absurd hj (by omega), fun j _ _ => by rw [s87]⟩ ?_ ?_
      · rintro i t hi ⟨a, ht, ha1, ha2⟩
        show Ok (b_Mo_both_55 y w u v (Int64.ofInt (tW q x.toNatClampNeg)) (cI i) t) _
        unfold b_Mo_both_55
        rw [e87 i, e67]
        have i352 : inb (cI (4 * 87 + i)) 352 := inb_cI (by omega) (by decide)
        refine ok_neg (le_no (a := 4) hi (by decide)) (ok_pos i352 (ok_binde (mo_part (a := 67 + u.toNatClampNeg) (by omega) hi t) (ok_pos i352 (ok_bd (ok_some ⟨c_succ i, ?_⟩)))))
        rw [cI_nat (by omega), ht.2.2 _ (by omega), up_o _ _ (by omega), hV.2.2.2.2.2.2 _ c2.2, ht.2.1 157 (by decide) (by decide), hV.1]
        have ev : t.2 158 (4 * 87 + i) = cmp a i := by
          have h4 : i = 0 ∨ i = 1 ∨ i = 2 ∨ i = 3 := by omega
          have hr2 : rM t 87 = a := by rw [ht.2.2 87 (by decide), up_s]
          rw [← hr2]
          rcases h4 with e | e | e | e <;> subst e <;> rfl
        rw [ev]
        have h5 := MN_c ht 87 (by decide) hi (cmp a i * w.toInt64 * Int64.ofInt (qL q) + cmp (q64 (qg q u.toNatClampNeg)) i * y.toInt64 * Int64.ofInt (tW q x.toNatClampNeg))
        rw [up_up, up_s] at h5
        have ho : ∀ (X : Int64) (j : Nat), j < 4 → ¬ j = i → cmp (setc a i X) j = cmp a j := fun X j hj4 hji => by
          unfold cmp setc
          have h5 : i = 0 ∨ i = 1 ∨ i = 2 ∨ i = 3 := by omega
          have h6 : j = 0 ∨ j = 1 ∨ j = 2 ∨ j = 3 := by omega
          rcases h5 with e | e | e | e <;> rcases h6 with f | f | f | f <;> subst e <;> subst f <;> first | rfl | exact absurd rfl hji
        refine ⟨_, h5, fun j hj => ?_, fun j hj hj4 => ?_⟩
        · by_cases hji : j = i
          · subst hji
            have es : ∀ X : Int64, cmp (setc a j X) j = X := fun X => by
              have h4 : j = 0 ∨ j = 1 ∨ j = 2 ∨ j = 3 := by omega
              rcases h4 with e | e | e | e <;> subst e <;> rfl
            rw [es, ha2 j (Nat.le_refl _) hi, ← Int64.ofInt_int32ToInt, ← Int64.ofInt_int32ToInt, cmp_z (L := 0) hi, cmp_z (L := 0) hi, cmp_z (L := 0) hi, ← Int64.ofInt_mul, ← Int64.ofInt_mul, ← Int64.ofInt_mul, ← Int64.ofInt_mul, ← Int64.ofInt_add]
            congr 1
            unfold bov
            have h4 : j = 0 ∨ j = 1 ∨ j = 2 ∨ j = 3 := by omega
            rcases h4 with e | e | e | e <;> subst e <;> simp only [cmz, qadd, zsc] <;> simp <;> grind
          · rw [ho _ j (by omega) hji]
            exact ha1 j (by omega)
        · rw [ho _ j hj4 (by omega)]
          exact ha2 j (by omega) hj4
      · rintro t ⟨a, ht, ha1, _⟩
        show Ok (b_Mo_both_55 y w u v (Int64.ofInt (tW q x.toNatClampNeg)) (cI 4) t) _
        unfold b_Mo_both_55
        refine ok_pos (le_yes (a := 4) (Nat.le_refl _) (by decide)) (ok_some ?_)
        have : a = q64 (bov q x.toNatClampNeg u.toNatClampNeg y w) := q_ext (ha1 0 (by decide)) (ha1 1 (by decide)) (ha1 2 (by decide)) (ha1 3 (by decide))
        rw [← this]; exact ht
    · have tL : t.2 157 16 = Int64.ofInt (qL q) := by rw [ht.2.1 157 (by decide) (by decide)]; exact hV.1
      rw [tL, ← Int64.ofInt_mul, Int.mul_comm (tW q x.toNatClampNeg)]
      have h87 : rM t 87 = q64 (bov q x.toNatClampNeg u.toNatClampNeg y w) := by rw [ht.2.2 87 (by decide), up_s]
      refine ok_binde (mo_told (a := 87) (by decide) h87 (bov_b hw h c1.2 c5 c3 c4) (LL_b hw _).1 (LL_b hw _).2 c6) (ok_some ⟨?_, IM_f b3 (FM_N ht), FM_K (FM_tr hfs (FM_N ht))⟩)
      rw [if_pos ⟨h, c1, c2, c3, c4, c6, c5⟩]
