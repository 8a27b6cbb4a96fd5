/-! the reference solves: the whole -/
section
variable {b g2 : M2} {D : Nat → Q6} {ps : List Nat} {ws : Nat → Nat} {m : Nat}
theorem ms_gain (h : MN b g2 D) (hI : MIn b ps ws m) (hW : ∀ e, e < ps.length → D (62 + e) = q64 (wtz ws ps m (ps.getD e 0))) {t k : Nat} (ht : t < 88) (ht2 : t < 62 ∨ 67 ≤ t) (hk : k < 12) : Ok (f_Mo_laysGain (cI t) (cI k) g2) (fun r => MN b r (up D t (q64 (gnz ws ps m k)))) := by
  obtain ⟨hp, hn, hn5, hps, hm, hm5, hws⟩ := hI
  unfold f_Mo_laysGain
  refine ok_bindm (mn_clears h ht) (fun q1 hq1 => ?_)
  refine ok_bindm (Q := fun r => MN b r (up D t (q64 (gnz ws ps m k)))) ?_ (fun r hr => ok_some hr)
  refine ok_for ps.length (by omega) (fun e s => MN b s (up D t (q64 (zsum ((ps.take e).map (fun p => qmul (wtz ws ps m p) (rt (k * p)))))))) hq1 ?_ ?_
  · intro e s he hs
    show Ok (b_Mo_laysGain_5 (cI t) (cI k) (cI e) s) _
    unfold b_Mo_laysGain_5
    rw [hs.1, hn]
    refine ok_neg (le_no he (by omega)) (ok_pos (inb_cI (by omega) (by decide)) ?_)
    have e62 : (62 : Int32) + cI e = cI (62 + e) := by rw [show (62 : Int32) = cI 62 from rfl, cI_add]
    rw [cI_nat (by omega), (hps e he).1, c_mul2, e62]
    have hb := prod12 hk (hps e he).2
    refine ok_bindm (mn_addsTurned hs hp (t := t) (a := 62 + e) ht (by omega) (by omega) (by omega) (by omega) 1) (fun z hz2 => ok_some ⟨c_succ e, ?_⟩)
    rw [up_up, up_s, up_o _ _ (by omega), hW e he, rz_nat, qsc_1] at hz2
    rw [take_app ps he, List.map_append, List.map_cons, List.map_nil, zsum_app, q64_add, q64_mul]
    exact hz2
  · intro s hs
    show Ok (b_Mo_laysGain_5 (cI t) (cI k) (cI ps.length) s) _
    unfold b_Mo_laysGain_5
    rw [hs.1, hn]
    refine ok_pos (le_yes (Nat.le_refl _) (by omega)) (ok_some ?_)
    rw [List.take_length] at hs
    exact hs
end
theorem abs_le {a N : Int} (hN : 0 ≤ N) (h : a * a ≤ N * N) : a ≤ N ∧ -N ≤ a := by
  refine ⟨sq_le hN h, ?_⟩
  have : (-a) * (-a) ≤ N * N := by rw [Int.neg_mul_neg]; exact h
  have := sq_le hN this
  omega
theorem comp_le {v : Z4} {N : Int} (hN : 0 ≤ N) (h : 4 * pXz v ≤ 3 * (N * N)) : (v.1 ≤ N ∧ -N ≤ v.1) ∧ (v.2.1 ≤ N ∧ -N ≤ v.2.1) ∧ (v.2.2.1 ≤ N ∧ -N ≤ v.2.2.1) ∧ (v.2.2.2 ≤ N ∧ -N ≤ v.2.2.2) := by
  obtain ⟨h1, h2, h3, h4⟩ := p3_le v.1 v.2.1 v.2.2.1 v.2.2.2
  have h' : 4 * pX v.1 v.2.1 v.2.2.1 v.2.2.2 ≤ 3 * (N * N) := h
  exact ⟨abs_le hN (by omega), abs_le hN (by omega), abs_le hN (by omega), abs_le hN (by omega)⟩
theorem q64_c0 {v : Z4} {N : Int} (hN : 0 ≤ N) (hN2 : N < 2 ^ 62) (h : 4 * pXz v ≤ 3 * (N * N)) : q64 v = (0, 0, 0, 0) ↔ v = (0, 0, 0, 0) := by
  obtain ⟨h1, h2, h3, h4⟩ := comp_le hN h
  constructor
  · intro e
    simp only [q64, Prod.mk.injEq] at e
    exact q_ext (o64_0 (by omega) e.1) (o64_0 (by omega) e.2.1) (o64_0 (by omega) e.2.2.1) (o64_0 (by omega) e.2.2.2)
  · intro e; rw [e]; rfl
theorem gn_c {ws : Nat → Nat} {ps : List Nat} {m : Nat} (hm : m ≤ 5) (hp : ps.length ≤ 5) (h1 : 0 < m) (h0 : ¬ Lo ws ps 0) (hw : ∀ i, i < m → ws i ≤ 12) (k : Nat) : 4 * pXz (gnz ws ps m k) ≤ 3 * (16777216 * 16777216) := by
  have h2 := gn_le hm hp h1 h0 hw k
  have h3 := (low_le (ws := ws) (ps := ps) hm hp).2
  omega
theorem o64_neg (z : Int) : -Int64.ofInt (-z) = Int64.ofInt z := by rw [← Int64.ofInt_neg, Int.neg_neg]
theorem mo_solves {g : M2} {ps : List Nat} {ws : Nat → Nat} {m : Nat} {lk : Bool} (hI : MIn g ps ws m) (hlk : g.1 157 11 = (if lk then 1 else 0)) (hlm : lk = true → 0 < m) : Ok (f_Mo_solves g) (fun r => MS g r ps ws m lk) := by
  have hI' := hI
  obtain ⟨hp, hn, hn5, hps, hm, hm5, hws⟩ := hI'
  have hws12 : ∀ i, i < m → ws i ≤ 12 := fun i hi => Nat.le_of_lt (hws i hi).2
  unfold f_Mo_solves
  refine ok_bindm (mo_findsRank hI) (fun q1 hq1 => ok_bd ?_)
  have hIq := FR_in hq1 hI
  obtain ⟨a1, a2, a3, a4, a5, a6⟩ := hq1
  generalize hb0 : uI q1 157 15 0 = b0
  have c1 : ∀ y, y ≠ 157 → b0.1 y = q1.1 y := fun y hy => by rw [← hb0]; exact uI_o _ _ _ hy
  have c2 : ∀ j, j ≠ 15 → b0.1 157 j = q1.1 157 j := fun j hj => by rw [← hb0]; exact uI_k _ _ _ hj
  have c3 : b0.1 157 15 = 0 := by rw [← hb0]; exact uI_s _ _ _ _
  have c4 : b0.2 = q1.2 := by rw [← hb0]; rfl
  have hIb : MIn b0 ps ws m := by
    obtain ⟨i1, i2, i3, i4, i5, i6, i7⟩ := hIq
    exact ⟨fun j hj => by rw [c1 _ (by decide)]; exact i1 j hj, by rw [c2 _ (by decide)]; exact i2, i3, fun e he => by rw [c1 _ (by decide)]; exact i4 e he, by rw [c2 _ (by decide)]; exact i5, i6, fun i hi => by rw [c1 _ (by decide)]; exact i7 i hi⟩
  have d11 : b0.1 157 11 = (if lk then 1 else 0) := by rw [c2 _ (by decide), a2 _ (by decide)]; exact hlk
  have d14 : b0.1 157 14 = cI (fl (Gz ws ps) m).length := by rw [c2 _ (by decide)]; exact a3
  have dfr : ∀ i, i < (fl (Gz ws ps) m).length → b0.1 165 i = cI (frz (Gz ws ps) m i) := fun i hi => by rw [c1 _ (by decide)]; exact a4 i hi
  have dlo : ∀ i, i < m → b0.1 164 i = loI ws ps i := fun i hi => by rw [c1 _ (by decide)]; exact a5 i hi
  have dI : ∀ y, y ≠ 157 → y ≠ 164 → y ≠ 165 → b0.1 y = g.1 y := fun y y1 y2 y3 => by rw [c1 y y1]; exact a1 y y1 y2 y3
  have dI2 : ∀ j, j ≠ 14 → j ≠ 15 → b0.1 157 j = g.1 157 j := fun j j1 j2 => by rw [c2 j j2]; exact a2 j j1
  have dJ : ∀ y, y ≠ 158 → y ≠ 159 → b0.2 y = g.2 y := fun y y1 y2 => by rw [c4]; exact a6 y y1 y2
  have hstop : (lk = false ∨ Lo ws ps 0 ∧ 0 < m) → MS g b0 ps ws m lk := by
    intro hst
    refine ⟨dI, dI2, fun y _ y2 y3 => dJ y y2 y3, fun j _ _ _ => by rw [dJ 157 (by decide) (by decide)], d14, dfr, dlo, ?_, ?_⟩
    · rw [c3]
      rcases hst with hst | ⟨hst, hm0⟩
      · rw [hst]; rfl
      · have : hdb ws ps m = false := by
          apply Bool.eq_false_iff.mpr
          intro hh
          exact look_free ((hdb_iff ws ps m).mp hh) hm0 hst
        rw [this, Bool.and_false]; rfl
    · rintro ⟨hl, hn0⟩
      rcases hst with hst | hst
      · rw [hst] at hl; cases hl
      · exact absurd hst.1 hn0
  rw [d11]
  cases lk with
  | false => exact ok_pos rfl (ok_some (hstop (Or.inl rfl)))
  | true =>
  have hm0 := hlm rfl
  refine ok_neg (by decide) ?_
  rw [dlo 0 hm0]
  by_cases h0 : Lo ws ps 0
  · rw [loI_1 h0]
    exact ok_neg (by decide) (ok_some (hstop (Or.inr ⟨h0, hm0⟩)))
  rw [loI_0 h0]
  refine ok_pos rfl ?_
  have hle := fl_le (Gz ws ps) m
  have hr0 : 0 < (fl (Gz ws ps) m).length := by
    obtain ⟨f, f1, _, _⟩ := fl_look (ws := ws) (ps := ps) hm0 h0
    rw [f1]; simp
  have hfz0 : frz (Gz ws ps) m 0 = 0 := by
    obtain ⟨f, f1, _, _⟩ := fl_look (ws := ws) (ps := ps) hm0 h0
    unfold frz
    rw [f1, List.reverse_append]; rfl
  have hflt : ∀ i, i < (fl (Gz ws ps) m).length → b0.1 165 i = cI (frz (Gz ws ps) m i) ∧ frz (Gz ws ps) m i < m := fun i hi => ⟨dfr i hi, frz_lt _ _ _ hi⟩
  have hp32 : 2 ^ (fl (Gz ws ps) m).length ≤ 32 := show _ ≤ 2 ^ 5 from Nat.pow_le_pow_right (by decide) (by omega)
  have hp1 : 1 ≤ 2 ^ (fl (Gz ws ps) m).length := Nat.one_le_two_pow
  rw [d14]
  refine ok_bindm (mo_laysGram (MN_rf b0) hIb (many := (fl (Gz ws ps) m).length) (by omega) hflt) (fun q5 hq5 => ?_)
  rw [hq5.1, d14]
  refine ok_bindm (mo_laysDet hq5 hIb.1 (G := fun i j => Gz ws ps (frz (Gz ws ps) m i) (frz (Gz ws ps) m j)) (fm := 0) (many := (fl (Gz ws ps) m).length) (by omega) (by decide) (fun i j hi hj => by rw [if_pos (by omega), show (5 * i + j) / 5 = i by omega, show (5 * i + j) % 5 = j by omega])) (fun q6 hq6 => ?_)
  obtain ⟨E6, hE6, hE6d, hE6a⟩ := hq6
  rw [hE6.1, d14, pow5 _ (by omega), c_pred hp1, ix25]
  have hroom : rM q6 (25 + (2 ^ (fl (Gz ws ps) m).length - 1)) = q64 (re (rX ws ps m) (rY ws ps m)) := by
    rw [hE6.2.2 _ (by omega), hE6d _ (by omega) (by rw [(bl_full _ (by omega)).2]; omega), (bl_full _ (by omega)).1, (bl_full _ (by omega)).2, zdx_map (frz (Gz ws ps) m) (Gz ws ps), fr_all (Gz ws ps) m _ (fun _ _ => rfl), ← (rm_re (ws := ws) (ps := ps) hm5).1]
    rfl
  refine ok_binde (mo_part (a := 25 + (2 ^ (fl (Gz ws ps) m).length - 1)) (i := 0) (by omega) (by decide) q6) ?_
  refine ok_binde (mo_part (a := 25 + (2 ^ (fl (Gz ws ps) m).length - 1)) (i := 3) (by omega) (by decide) q6) ?_
  have hx : cmp (rM q6 (25 + (2 ^ (fl (Gz ws ps) m).length - 1))) 0 = Int64.ofInt (rX ws ps m) := by rw [hroom]; rfl
  have hy : cmp (rM q6 (25 + (2 ^ (fl (Gz ws ps) m).length - 1))) 3 = Int64.ofInt (-(rY ws ps m)) := by rw [hroom]; rfl
  rw [hx, hy, o64_neg]
  have hlow : (Int64.ofInt (rX ws ps m) * Int64.ofInt (rX ws ps m)) - (((3 : Int64) * Int64.ofInt (rY ws ps m)) * Int64.ofInt (rY ws ps m)) = Int64.ofInt (lowz ws ps m) := by
    unfold lowz
    rw [Int64.ofInt_sub, Int64.ofInt_mul, Int64.ofInt_mul, Int64.ofInt_mul, Int64.mul_assoc]; rfl
  rw [hlow]
  refine ok_bd ?_
  have hM9 := MN_uJ hE6 16 (Int64.ofInt (lowz ws ps m))
  generalize hb1 : uJ b0 157 16 (Int64.ofInt (lowz ws ps m)) = b1 at hM9
  refine ok_bindm (mn_clears hM9 (a := 79) (by decide)) (fun q10 hq10 => ok_bd (ok_bd (ok_bd ?_)))
  have hM11 := MN_c hq10 79 (by decide) (i := 0) (by decide) (Int64.ofInt (rX ws ps m))
  have hM12 := MN_c hM11 79 (by decide) (i := 1) (by decide) ((-2 : Int64) * Int64.ofInt (rY ws ps m))
  have hM13 := MN_c hM12 79 (by decide) (i := 3) (by decide) (Int64.ofInt (rY ws ps m))
  rw [up_up, up_s, up_up, up_s, up_up, up_s] at hM13
  have hback : setc (setc (setc (0, 0, 0, 0) 0 (Int64.ofInt (rX ws ps m))) 1 ((-2 : Int64) * Int64.ofInt (rY ws ps m))) 3 (Int64.ofInt (rY ws ps m)) = q64 (re (rX ws ps m) (-(rY ws ps m))) := by
    rw [q64_re]
    refine q_ext rfl ?_ rfl ?_
    · show (-2 : Int64) * Int64.ofInt (rY ws ps m) = Int64.ofInt (-(rY ws ps m)) + Int64.ofInt (-(rY ws ps m))
      rw [Int64.ofInt_neg]; grind
    · show Int64.ofInt (rY ws ps m) = -Int64.ofInt (-(rY ws ps m))
      rw [o64_neg]
  rw [hback] at hM13
  generalize hg13 : uJ (uJ (uJ q10 158 316 (Int64.ofInt (rX ws ps m))) 158 317 ((-2 : Int64) * Int64.ofInt (rY ws ps m))) 158 319 (Int64.ofInt (rY ws ps m)) = g13
  have hM13' : MN b1 g13 (up E6 79 (q64 (re (rX ws ps m) (-(rY ws ps m))))) := by rw [← hg13]; exact hM13
  have hb1I : b1.1 = b0.1 := by rw [← hb1]; rfl
  have hI1 : MIn b1 ps ws m := by
    obtain ⟨i1, i2, i3, i4, i5, i6, i7⟩ := hIb
    exact ⟨fun j hj => by rw [hb1I]; exact i1 j hj, by rw [hb1I]; exact i2, i3, fun e he => by rw [hb1I]; exact i4 e he, by rw [hb1I]; exact i5, i6, fun i hi => by rw [hb1I]; exact i7 i hi⟩
  show Ok ((f_Mo_laysDeterminants (1 : Int32) (g13.1 157 14) g13).bind _) _
  rw [hM13'.1, hb1I, d14]
  refine ok_bindm (mo_laysDet hM13' hI1.1 (G := fun i j => Gz ws ps (frz (Gz ws ps) m i) (frz (Gz ws ps) m j)) (fm := 1) (many := (fl (Gz ws ps) m).length) (by omega) (by decide) (fun i j hi hj => by rw [up_o _ _ (by omega), hE6a _ (by omega), if_pos (by omega), show (5 * i + j) / 5 = i by omega, show (5 * i + j) % 5 = j by omega])) (fun q14 hq14 => ?_)
  obtain ⟨E14, hE14, hE14d, hE14a⟩ := hq14
  refine ok_bindm (ms_cof hE14 hI1 hm0 h0 (by rw [hb1I]; exact d14) (fun j hj => ?_)) (fun e20 he20 => ?_)
  · have hbd := bl_drop (fl (Gz ws ps) m).length (by omega) j hj
    have hpj : 2 ^ j < 2 ^ (fl (Gz ws ps) m).length := Nat.pow_lt_pow_right (by decide) hj
    rw [hE14d _ (Nat.lt_of_le_of_lt (Nat.sub_le _ _) (by omega)) (by rw [hbd.2]; omega), hbd.2]
  obtain ⟨E20, hE20, hE20c, hE20a⟩ := he20
  have hE79 : E20 79 = q64 (re (rX ws ps m) (-(rY ws ps m))) := by rw [hE20a _ (by omega), hE14a _ (by omega), up_s]
  refine ok_bindm (mn_clears hE20 (a := 81) (by decide)) (fun q21 hq21 => ?_)
  refine ok_bindm (mn_addsProduct hq21 hI1.1 (t := 81) (a := 57) (b := 79) (by decide) (by decide) (by decide) 1) (fun q22 hq22 => ?_)
  rw [up_up, up_s, up_o _ _ (by decide), up_o _ _ (by decide), hE79, show E20 57 = q64 (Cz ws ps m 0) by have := hE20c 0 hr0; rw [hfz0] at this; exact this, qadd_0, qsc_1, ← q64_mul] at hq22
  have h81 : rM q22 81 = q64 (shz ws ps m 0) := by rw [hq22.2.2 81 (by decide), up_s]; rfl
  refine ok_binde (mo_part (a := 81) (i := 0) (by decide) (by decide) q22) (ok_bd ?_)
  have h0x : cmp (rM q22 81) 0 = Int64.ofInt (tX ws ps m) := by rw [h81]; rfl
  rw [h0x]
  have hM24 := MN_uJ hq22 17 (Int64.ofInt (tX ws ps m))
  generalize hb2 : uJ b1 157 17 (Int64.ofInt (tX ws ps m)) = b2 at hM24
  refine ok_binde (mo_part (a := 81) (i := 3) (by decide) (by decide) (uJ q22 157 17 (Int64.ofInt (tX ws ps m)))) (ok_bd ?_)
  have h3y : -cmp (rM (uJ q22 157 17 (Int64.ofInt (tX ws ps m))) 81) 3 = Int64.ofInt (tY ws ps m) := by
    rw [rM_uJ, h81]
    show -Int64.ofInt (shz ws ps m 0).2.2.2 = Int64.ofInt (-(shz ws ps m 0).2.2.2)
    rw [Int64.ofInt_neg]
  rw [h3y]
  have hM26 := MN_uJ hM24 18 (Int64.ofInt (tY ws ps m))
  generalize hb3 : uJ b2 157 18 (Int64.ofInt (tY ws ps m)) = b3 at hM26
  generalize hg26 : uJ (uJ q22 157 17 (Int64.ofInt (tX ws ps m))) 157 18 (Int64.ofInt (tY ws ps m)) = g26 at hM26
  have hb3I : b3.1 = b0.1 := by rw [← hb3, ← hb2]; exact hb1I
  have hI3 : MIn b3 ps ws m := by
    obtain ⟨i1, i2, i3, i4, i5, i6, i7⟩ := hIb
    exact ⟨fun j hj => by rw [hb3I]; exact i1 j hj, by rw [hb3I]; exact i2, i3, fun e he => by rw [hb3I]; exact i4 e he, by rw [hb3I]; exact i5, i6, fun i hi => by rw [hb3I]; exact i7 i hi⟩
  -- weights
  refine ok_bindm (Q := fun r => ∃ E, MN b3 r E ∧ (∀ j, j < (fl (Gz ws ps) m).length → E (57 + j) = q64 (Cz ws ps m (frz (Gz ws ps) m j))) ∧ E 79 = q64 (re (rX ws ps m) (-(rY ws ps m))) ∧ ∀ e, e < ps.length → E (62 + e) = q64 (wtz ws ps m (ps.getD e 0))) ?_ (fun e38 he38 => ?_)
  · refine ok_for ps.length (by omega) (fun e s => ∃ E, MN b3 s E ∧ (∀ j, j < (fl (Gz ws ps) m).length → E (57 + j) = q64 (Cz ws ps m (frz (Gz ws ps) m j))) ∧ E 79 = q64 (re (rX ws ps m) (-(rY ws ps m))) ∧ ∀ e2, e2 < e → E (62 + e2) = q64 (wtz ws ps m (ps.getD e2 0))) ⟨_, hM26, fun j hj => by rw [up_o _ _ (by omega)]; exact hE20c j hj, by rw [up_o _ _ (by decide)]; exact hE79, fun e2 he2 => absurd he2 (by omega)⟩ ?_ ?_
    · rintro e s he ⟨E, hE, hEc, hE79, hEw⟩
      show Ok (b_Mo_solves_139 (cI e) s) _
      unfold b_Mo_solves_139
      rw [hE.1, hb3I, hIb.2.1]
      refine ok_neg (le_no he (by omega)) ?_
      refine ok_bindm (mn_clears hE (a := 81) (by decide)) (fun q28 hq28 => ?_)
      refine ok_bindm (ms_two hq28 hI3 hm0 h0 (by rw [hb3I]; exact d14) (fun i hi => by rw [hb3I]; exact dfr i hi) (fun j hj => by rw [up_o _ _ (by omega)]; exact hEc j hj) (up_s _ _ _) he) (fun e34 he34 => ?_)
      have e62 : (62 : Int32) + cI e = cI (62 + e) := by rw [show (62 : Int32) = cI 62 from rfl, cI_add]
      rw [e62]
      refine ok_bindm (mn_clears he34 (a := 62 + e) (by omega)) (fun q35 hq35 => ?_)
      refine ok_bindm (mn_addsProduct hq35 hI3.1 (t := 62 + e) (a := 81) (b := 79) (by omega) (by decide) (by decide) 1) (fun q36 hq36 => ok_some ⟨c_succ e, _, hq36, fun j hj => ?_, ?_, fun e2 he2 => ?_⟩)
      · rw [up_o _ _ (by omega), up_o _ _ (by omega), up_o _ _ (by omega), up_o _ _ (by omega)]; exact hEc j hj
      · rw [up_o _ _ (by omega), up_o _ _ (by omega), up_o _ _ (by decide), up_o _ _ (by decide)]; exact hE79
      · by_cases hee : e2 = e
        · rw [hee, up_s, up_s, up_o _ _ (show 81 ≠ 62 + e by omega), up_s, up_o _ _ (show 79 ≠ 62 + e by omega), up_o _ _ (by decide), up_o _ _ (by decide), hE79, qadd_0, qsc_1, ← q64_mul, ← wt_uh hm0 h0 hws12]
        · rw [up_o _ _ (by omega), up_o _ _ (by omega), up_o _ _ (by omega), up_o _ _ (by omega)]; exact hEw e2 (by omega)
    · rintro s ⟨E, hE, hEc, hE79, hEw⟩
      show Ok (b_Mo_solves_139 (cI ps.length) s) _
      unfold b_Mo_solves_139
      rw [hE.1, hb3I, hIb.2.1]
      exact ok_pos (le_yes (Nat.le_refl _) (by omega)) (ok_some ⟨E, hE, hEc, hE79, hEw⟩)
  obtain ⟨E38, hE38, hE38c, hE38b, hE38w⟩ := he38
  -- gains
  refine ok_bindm (Q := fun r => ∃ E, MN b3 r E ∧ (∀ j, j < (fl (Gz ws ps) m).length → E (57 + j) = q64 (Cz ws ps m (frz (Gz ws ps) m j))) ∧ E 79 = q64 (re (rX ws ps m) (-(rY ws ps m))) ∧ (∀ e, e < ps.length → E (62 + e) = q64 (wtz ws ps m (ps.getD e 0))) ∧ ∀ k, k < 12 → E (67 + k) = q64 (gnz ws ps m k)) ?_ (fun e41 he41 => ok_bd ?_)
  · refine ok_for 12 (by decide) (fun k s => ∃ E, MN b3 s E ∧ (∀ j, j < (fl (Gz ws ps) m).length → E (57 + j) = q64 (Cz ws ps m (frz (Gz ws ps) m j))) ∧ E 79 = q64 (re (rX ws ps m) (-(rY ws ps m))) ∧ (∀ e, e < ps.length → E (62 + e) = q64 (wtz ws ps m (ps.getD e 0))) ∧ ∀ k2, k2 < k → E (67 + k2) = q64 (gnz ws ps m k2)) ⟨_, hE38, hE38c, hE38b, hE38w, fun k2 hk2 => absurd hk2 (by omega)⟩ ?_ ?_
    · rintro k s hk ⟨E, hE, hEc, hE79, hEw, hEg⟩
      show Ok (b_Mo_solves_191 (cI k) s) _
      unfold b_Mo_solves_191
      refine ok_neg (le_no (a := 12) hk (by decide)) ?_
      have e67 : (67 : Int32) + cI k = cI (67 + k) := by rw [show (67 : Int32) = cI 67 from rfl, cI_add]
      rw [e67]
      refine ok_bindm (ms_gain hE hI3 hEw (t := 67 + k) (by omega) (by omega) hk) (fun r hr => ok_some ⟨c_succ k, _, hr, fun j hj => ?_, ?_, fun e he => ?_, fun k2 hk2 => ?_⟩)
      · rw [up_o _ _ (by omega)]; exact hEc j hj
      · rw [up_o _ _ (by omega)]; exact hE79
      · rw [up_o _ _ (by omega)]; exact hEw e he
      · by_cases hkk : k2 = k
        · rw [hkk, up_s]
        · rw [up_o _ _ (by omega)]; exact hEg k2 (by omega)
    · rintro s hs
      show Ok (b_Mo_solves_191 (cI 12) s) _
      unfold b_Mo_solves_191
      exact ok_pos (le_yes (a := 12) (Nat.le_refl _) (by decide)) (ok_some hs)
  obtain ⟨E41, hE41, hE41c, hE41b, hE41w, hE41g⟩ := he41
  -- what is lost must be so
  refine ok_bindm (Q := fun r => ∃ x : Int32, r = uI e41 157 15 x ∧ x = (if hdb ws ps m then 1 else 0)) ?_ (fun e50 he50 => ?_)
  · refine ok_for m (by omega) (fun w s => ∃ x : Int32, s = uI e41 157 15 x ∧ (x = 0 ∨ x = 1) ∧ (x = 1 ↔ ∀ i, i < w → Lo ws ps i → gnz ws ps m (ws i) = (0, 0, 0, 0))) ⟨1, rfl, Or.inr rfl, ⟨fun _ i hi => absurd hi (by omega), fun _ => rfl⟩⟩ ?_ ?_
    · rintro w s hw ⟨x, rfl, hx01, hx⟩
      show Ok (b_Mo_solves_207 (cI w) (uI e41 157 15 x)) _
      unfold b_Mo_solves_207
      rw [uI_k _ _ _ (by decide), uI_o _ _ _ (by decide), uI_o _ _ _ (by decide), hE41.1, hb3I, hIb.2.2.2.2.1]
      refine ok_neg (le_no hw (by omega)) (ok_pos (inb_cI (by omega) (by decide)) ?_)
      have hw1 : b0.1 164 (cI w).toNatClampNeg = loI ws ps w := by rw [cI_nat (by omega)]; exact dlo w hw
      rw [hw1]
      by_cases hL : Lo ws ps w
      · rw [loI_1 hL]
        refine ok_neg (by decide) (ok_pos (inb_cI (by omega) (by decide)) ?_)
        have e67 : (67 : Int32) + b0.1 163 w = cI (67 + ws w) := by rw [(hIb.2.2.2.2.2.2 w hw).1, show (67 : Int32) = cI 67 from rfl, cI_add]
        have hww := (hws w hw).2
        rw [cI_nat (by omega), e67]
        refine ok_binde (mo_isNought (a := 67 + ws w) (by omega) (uI e41 157 15 x)) ?_
        have hgz : rM (uI e41 157 15 x) (67 + ws w) = (0, 0, 0, 0) ↔ gnz ws ps m (ws w) = (0, 0, 0, 0) := by
          rw [rM_uI, hE41.2.2 _ (by omega), hE41g _ hww]
          exact q64_c0 (by decide) (by decide) (gn_c hm5 hn5 hm0 h0 hws12 (ws w))
        by_cases hz : gnz ws ps m (ws w) = (0, 0, 0, 0)
        · rw [if_pos (hgz.mpr hz)]
          refine ok_neg (by decide) (ok_some ⟨c_succ w, x, rfl, hx01, ?_⟩)
          rw [hx]
          constructor
          · intro hh i hi hLi
            by_cases hiw : i = w
            · rw [hiw]; exact hz
            · exact hh i (by omega) hLi
          · intro hh i hi hLi; exact hh i (by omega) hLi
        · rw [if_neg (fun e => hz (hgz.mp e))]
          refine ok_pos rfl (ok_bd (ok_some ⟨c_succ w, 0, ?_, Or.inl rfl, ?_⟩))
          · show uI (uI e41 157 15 x) 157 15 0 = uI e41 157 15 0
            apply Prod.ext
            · funext y j
              by_cases hy : y = 157
              · subst hy
                by_cases hj : j = 15
                · subst hj; rw [uI_s, uI_s]
                · rw [uI_k _ _ _ hj, uI_k _ _ _ hj, uI_k _ _ _ hj]
              · rw [uI_o _ _ _ hy, uI_o _ _ _ hy, uI_o _ _ _ hy]
            · rfl
          · constructor
            · intro hh; exact absurd hh (by decide)
            · intro hh; exact absurd (hh w (by omega) hL) hz
      · rw [loI_0 hL]
        refine ok_pos rfl (ok_some ⟨c_succ w, x, rfl, hx01, ?_⟩)
        rw [hx]
        constructor
        · intro hh i hi hLi
          by_cases hiw : i = w
          · rw [hiw] at hLi; exact absurd hLi hL
          · exact hh i (by omega) hLi
        · intro hh i hi hLi; exact hh i (by omega) hLi
    · rintro s ⟨x, rfl, hx01, hx⟩
      show Ok (b_Mo_solves_207 (cI m) (uI e41 157 15 x)) _
      unfold b_Mo_solves_207
      rw [uI_k _ _ _ (by decide), hE41.1, hb3I, hIb.2.2.2.2.1]
      refine ok_pos (le_yes (Nat.le_refl _) (by omega)) (ok_some ⟨x, rfl, ?_⟩)
      have hiff : x = 1 ↔ hdb ws ps m = true := by
        rw [hx, hdb_iff]
        constructor
        · intro hh i hi hL; exact (lost_iff hm5 hm0 h0 hws12 hi hL).mp (hh i hi hL)
        · intro hh i hi hL; exact (lost_iff hm5 hm0 h0 hws12 hi hL).mpr (hh i hi hL)
      by_cases hh : hdb ws ps m = true
      · rw [hh, hiff.mpr hh]; rfl
      · rw [Bool.eq_false_iff.mpr hh]
        rcases hx01 with h | h
        · rw [h]; rfl
        · exact absurd (hiff.mp h) hh
  obtain ⟨x, rfl, hxv⟩ := he50
  refine ok_some ⟨fun y y1 y2 y3 => ?_, fun j j1 j2 => ?_, fun y y1 y2 y3 => ?_, fun j j1 j2 j3 => ?_, ?_, fun i hi => ?_, fun i hi => ?_, ?_, fun _ => ?_⟩
  · rw [uI_o _ _ _ y1, hE41.1, hb3I]; exact dI y y1 y2 y3
  · rw [uI_k _ _ _ j2, hE41.1, hb3I]; exact dI2 j j1 j2
  · rw [uI_2, hE41.2.1 y y2 y3, ← hb3, uJ_o _ _ _ y1, ← hb2, uJ_o _ _ _ y1, ← hb1, uJ_o _ _ _ y1]; exact dJ y y2 y3
  · rw [uI_2, hE41.2.1 157 (by decide) (by decide), ← hb3, uJ_k _ _ _ j3, ← hb2, uJ_k _ _ _ j2, ← hb1, uJ_k _ _ _ j1, dJ 157 (by decide) (by decide)]
  · rw [uI_k _ _ _ (by decide), hE41.1, hb3I]; exact d14
  · rw [uI_o _ _ _ (by decide), hE41.1, hb3I]; exact dfr i hi
  · rw [uI_o _ _ _ (by decide), hE41.1, hb3I]; exact dlo i hi
  · rw [uI_s, hxv, Bool.true_and]
  · have hJ : ∀ j, (uI e41 157 15 x).2 157 j = b3.2 157 j := fun j => by rw [uI_2, hE41.2.1 157 (by decide) (by decide)]
    refine ⟨?_, ?_, ?_, fun j hj => ?_, ?_, fun e he => ?_, fun k hk => ?_⟩
    · rw [hJ, ← hb3, uJ_k _ _ _ (by decide), ← hb2, uJ_k _ _ _ (by decide), ← hb1, uJ_s]
    · rw [hJ, ← hb3, uJ_k _ _ _ (by decide), ← hb2, uJ_s]
    · rw [hJ, ← hb3, uJ_s]
    · rw [rM_uI, hE41.2.2 _ (by omega)]; exact hE41c j hj
    · rw [rM_uI, hE41.2.2 _ (by decide)]; exact hE41b
    · rw [rM_uI, hE41.2.2 _ (by omega)]; exact hE41w e he
    · rw [rM_uI, hE41.2.2 _ (by omega)]; exact hE41g k hk
