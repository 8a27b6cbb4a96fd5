/-! the reference solves, and leaves the last number as it is; both -/
theorem mo_findsRank7 {g : M2} {ps : List Nat} {ws : Nat → Nat} {m : Nat} (hI : MIn g ps ws m) : Ok (f_Mo_findsRank g) (fun r => FR g r ps ws m ∧ rM r 87 = rM g 87) := by
  have hI' := hI
  obtain ⟨hp, hn, hn5, hps, hm, hm5, hws⟩ := hI'
  unfold f_Mo_findsRank
  refine ok_bd (ok_bindm (Q := fun r => FR g r ps ws m ∧ rM r 87 = rM g 87) ?_ (fun r hr => ok_some hr))
  refine ok_for m (by omega) (fun k s => FR g s ps ws k ∧ rM s 87 = rM g 87) ⟨⟨fun y h1 _ _ => uI_o g _ _ h1, fun j hj => uI_k g _ _ hj, uI_s g _ _ _, fun i hi => absurd hi (by simp [fl]), fun i hi => absurd hi (by omega), fun y _ _ => rfl⟩, rfl⟩ ?_ ?_
  · rintro k s hk ⟨hs, h87⟩
    have hIs := FR_in hs hI
    obtain ⟨h1, h2, h3, h4, h5, h6⟩ := hs
    show Ok (b_Mo_findsRank_5 (cI k) s) _
    unfold b_Mo_findsRank_5
    have hlk := fl_le (Gz ws ps) k
    generalize hr : (fl (Gz ws ps) k).length = r at *
    rw [h2 10 (by decide), hm, h3]
    refine ok_neg (le_no hk (by omega)) (ok_pos (inb_cI (by omega) (by decide)) (ok_bd ?_))
    rw [cI_nat (by omega)]
    generalize hs1 : uI s 165 r (cI k) = s1
    have f1 : ∀ y, y ≠ 165 → s1.1 y = s.1 y := fun y hy => by rw [← hs1]; exact uI_o s _ _ hy
    have f2 : s1.1 165 r = cI k := by rw [← hs1]; exact uI_s s _ _ _
    have f3 : ∀ i, i ≠ r → s1.1 165 i = s.1 165 i := fun i hi => by rw [← hs1]; exact uI_k s _ _ hi
    have f4 : s1.2 = s.2 := by rw [← hs1]; rfl
    have hI1 : MIn s1 ps ws m := by
      obtain ⟨i1, i2, i3, i4, i5, i6, i7⟩ := hIs
      exact ⟨fun j hj => by rw [f1 _ (by decide)]; exact i1 j hj, by rw [f1 _ (by decide)]; exact i2, i3, fun e he => by rw [f1 _ (by decide)]; exact i4 e he, by rw [f1 _ (by decide)]; exact i5, i6, fun i hi => by rw [f1 _ (by decide)]; exact i7 i hi⟩
    let fr : Nat → Nat := fun i => if i = r then k else frz (Gz ws ps) k i
    have hfr : ∀ i, i < r + 1 → s1.1 165 i = cI (fr i) ∧ fr i < m := fun i hi => by
      show s1.1 165 i = cI (if i = r then k else frz (Gz ws ps) k i) ∧ (if i = r then k else frz (Gz ws ps) k i) < m
      by_cases hir : i = r
      · rw [if_pos hir, hir]; exact ⟨f2, hk⟩
      · rw [if_neg hir, f3 i hir]
        exact ⟨h4 i (by omega), by have := frz_lt (Gz ws ps) k i (by omega); omega⟩
    have e14 : s1.1 157 14 = cI r := by rw [f1 _ (by decide)]; exact h3
    rw [e14, c_succ]
    refine ok_bindm (mo_laysGram (MN_rf s1) hI1 (many := r + 1) (by omega) hfr) (fun q4 hq4 => ?_)
    rw [hq4.1, e14, c_succ]
    refine ok_bindm (mo_laysDet hq4 hI1.1 (G := fun i j => Gz ws ps (fr i) (fr j)) (fm := 0) (many := r + 1) (by omega) (by decide) (fun i j hi hj => by rw [if_pos (by omega), show (5 * i + j) / 5 = i by omega, show (5 * i + j) % 5 = j by omega])) (fun q5 hq5 => ?_)
    obtain ⟨E, hE1, hE2, hE3⟩ := hq5
    rw [hE1.1, e14, c_succ, pow5 _ (by omega)]
    have hp32 : 2 ^ (r + 1) ≤ 32 := show 2 ^ (r + 1) ≤ 2 ^ 5 from Nat.pow_le_pow_right (by decide) (by omega)
    have hp1 : 1 ≤ 2 ^ (r + 1) := Nat.one_le_two_pow
    rw [ix25, c_pred (by omega)]
    refine ok_binde (mo_isNought (by omega) q5) ?_
    have hdet : rM q5 (25 + 2 ^ (r + 1) - 1) = q64 (zdx (Gz ws ps) (k :: fl (Gz ws ps) k) (k :: fl (Gz ws ps) k)) := by
      rw [hE1.2.2 _ (by omega), show 25 + 2 ^ (r + 1) - 1 = 25 + (2 ^ (r + 1) - 1) by omega, hE2 _ (by omega) (by rw [(bl_full (r + 1) (by omega)).2]; omega), (bl_full (r + 1) (by omega)).1, (bl_full (r + 1) (by omega)).2, zdx_map fr (Gz ws ps)]
      have hm2 : (rwl 0 (r + 1)).map fr = k :: fl (Gz ws ps) k := by
        rw [← hr]
        exact fr_new (Gz ws ps) k fr (fun i hi => if_neg (by omega)) (by show (if _ then _ else _) = _; rw [if_pos hr])
      rw [hm2]
    have hz : rM q5 (25 + 2 ^ (r + 1) - 1) = (0, 0, 0, 0) ↔ Lo ws ps k := by
      rw [hdet, q64_0 (dx_len (Gz_len ws ps hn5) _ _ rfl) (Nat.lt_of_le_of_lt (dlen_5 _ (by simp only [List.length_cons]; omega)) (by decide)), Lo_dx (by omega)]
    have hlo : ((if rM q5 (25 + 2 ^ (r + 1) - 1) = (0, 0, 0, 0) then (1 : Int32) else 0) &&& 1) = loI ws ps k := by
      by_cases hL : Lo ws ps k
      · rw [if_pos (hz.mpr hL), loI_1 hL]; decide
      · rw [if_neg (fun e => hL (hz.mp e)), loI_0 hL]; decide
    refine ok_pos (inb_cI (by omega) (by decide)) (ok_bd ?_)
    show Ok (if inb (cI k) 5 then _ else _) _
    refine ok_pos (inb_cI (by omega) (by decide)) ?_
    rw [cI_nat (by omega), hlo, uI_s]
    have base : ∀ z : M2, (∀ y, y ≠ 157 → y ≠ 164 → z.1 y = q5.1 y) → z.2 = q5.2 → (∀ y, y ≠ 157 → y ≠ 164 → y ≠ 165 → z.1 y = g.1 y) ∧ ∀ y, y ≠ 158 → y ≠ 159 → z.2 y = g.2 y := by
      intro z hz1 hz2
      refine ⟨fun y y1 y2 y3 => ?_, fun y y1 y2 => ?_⟩
      · rw [hz1 y y1 y2, hE1.1, f1 y y3]; exact h1 y y1 y2 y3
      · rw [hz2, hE1.2.1 y y1 y2, f4]; exact h6 y y1 y2
    have k87 : rM q5 87 = rM g 87 := by
      rw [hE1.2.2 87 (by decide), hE3 87 (by omega)]
      show (if 87 / 5 < r + 1 ∧ 87 % 5 < r + 1 then _ else _) = _
      rw [if_neg (by omega)]
      unfold rM
      rw [f4]
      exact h87
    by_cases hL : Lo ws ps k
    · rw [loI_1 hL]
      refine ok_neg (by decide) (ok_some ⟨c_succ k, ?_⟩)
      have hfl : fl (Gz ws ps) (k + 1) = fl (Gz ws ps) k := fl_lost (by omega) hL
      obtain ⟨b1, b2⟩ := base (uI q5 164 k 1) (fun y _ y2 => uI_o q5 _ _ y2) rfl
      refine ⟨⟨b1, fun j hj => ?_, ?_, fun i hi => ?_, fun i hi => ?_, b2⟩, k87⟩
      · rw [uI_o q5 _ _ (by decide), hE1.1, f1 _ (by decide)]; exact h2 j hj
      · rw [hfl, hr, uI_o q5 _ _ (by decide), hE1.1]; exact e14
      · rw [hfl, hr] at hi
        rw [uI_o q5 _ _ (by decide), hE1.1]
        have e : frz (Gz ws ps) (k + 1) i = frz (Gz ws ps) k i := by unfold frz; rw [hfl]
        rw [e, f3 i (by omega)]; exact h4 i hi
      · by_cases hik : i = k
        · rw [hik, uI_s, loI_1 hL]
        · rw [uI_k q5 _ _ hik, hE1.1, f1 _ (by decide)]; exact h5 i (by omega)
    · rw [loI_0 hL]
      refine ok_pos rfl (ok_bd ?_)
      refine ok_some ⟨c_succ k, ?_⟩
      have hfl : fl (Gz ws ps) (k + 1) = k :: fl (Gz ws ps) k := fl_free (by omega) hL
      obtain ⟨b1, b2⟩ := base (uI (uI q5 164 k 0) 157 14 ((uI q5 164 k 0).1 157 14 + 1)) (fun y y1 y2 => by rw [uI_o _ _ _ y1, uI_o _ _ _ y2]) rfl
      refine ⟨⟨b1, fun j hj => ?_, ?_, fun i hi => ?_, fun i hi => ?_, b2⟩, k87⟩
      · rw [uI_k _ _ _ hj, uI_o q5 _ _ (by decide), hE1.1, f1 _ (by decide)]; exact h2 j hj
      · rw [hfl, List.length_cons, hr, uI_s, uI_o q5 _ _ (by decide), hE1.1, e14]; exact c_succ r
      · rw [hfl, List.length_cons, hr] at hi
        rw [uI_o _ _ _ (by decide), uI_o q5 _ _ (by decide), hE1.1, (hfr i hi).1]
        congr 1
        show (if i = r then k else frz (Gz ws ps) k i) = frz (Gz ws ps) (k + 1) i
        unfold frz
        rw [hfl, List.reverse_cons]
        by_cases hir : i = r
        · rw [if_pos hir, List.getD_eq_getElem?_getD, List.getElem?_append_right (by rw [List.length_reverse]; omega), List.length_reverse, show i - (fl (Gz ws ps) k).length = 0 by omega]; rfl
        · rw [if_neg hir, List.getD_eq_getElem?_getD, List.getD_eq_getElem?_getD, List.getElem?_append_left (by rw [List.length_reverse]; omega)]
      · rw [uI_o _ _ _ (by decide)]
        by_cases hik : i = k
        · rw [hik, uI_s, loI_0 hL]
        · rw [uI_k q5 _ _ hik, hE1.1, f1 _ (by decide)]; exact h5 i (by omega)
  · intro s hs
    show Ok (b_Mo_findsRank_5 (cI m) s) _
    unfold b_Mo_findsRank_5
    rw [hs.1.2.1 10 (by decide), hm]
    exact ok_pos (le_yes (Nat.le_refl _) (by omega)) (ok_some hs)
theorem mo_solves7 {g : M2} {ps : List Nat} {ws : Nat → Nat} {m : Nat} {lk : Bool} (hI : MIn g ps ws m) (hlk : g.1 157 11 = (if lk then 1 else 0)) (hlm : lk = true → 0 < m) : Ok (f_Mo_solves g) (fun r => MS g r ps ws m lk ∧ rM r 87 = rM g 87) := by
  have hI' := hI
  obtain ⟨hp, hn, hn5, hps, hm, hm5, hws⟩ := hI'
  have hws12 : ∀ i, i < m → ws i ≤ 12 := fun i hi => Nat.le_of_lt (hws i hi).2
  unfold f_Mo_solves
  refine ok_bindm (mo_findsRank7 hI) (fun q1 hq17 => ok_bd ?_)
  obtain ⟨hq1, k87⟩ := hq17
  have hIq := FR_in hq1 hI
  obtain ⟨a1, a2, a3, a4, a5, a6⟩ := hq1
  generalize hb0 : uI q1 157 15 0 = b0
  have c1 : ∀ y, y ≠ 157 → b0.1 y = q1.1 y := fun y hy => by rw [← hb0]; exact uI_o _ _ _ hy
  have c2 : ∀ j, j ≠ 15 → b0.1 157 j = q1.1 157 j := fun j hj => by rw [← hb0]; exact uI_k _ _ _ hj
  have c3 : b0.1 157 15 = 0 := by rw [← hb0]; exact uI_s _ _ _ _
  have c4 : b0.2 = q1.2 := by rw [← hb0]; rfl
  have kb : rM b0 87 = rM g 87 := by unfold rM; rw [c4]; exact k87
  have hIb : MIn b0 ps ws m := by
    obtain ⟨i1, i2, i3, i4, i5, i6, i7⟩ := hIq
    exact ⟨fun j hj => by rw [c1 _ (by decide)]; exact i1 j hj, by rw [c2 _ (by decide)]; exact i2, i3, fun e he => by rw [c1 _ (by decide)]; exact i4 e he, by rw [c2 _ (by decide)]; exact i5, i6, fun i hi => by rw [c1 _ (by decide)]; exact i7 i hi⟩
  have d11 : b0.1 157 11 = (if lk then 1 else 0) := by rw [c2 _ (by decide), a2 _ (by decide)]; exact hlk
  have d14 : b0.1 157 14 = cI (fl (Gz ws ps) m).length := by rw [c2 _ (by decide)]; exact a3
  have dfr : ∀ i, i < (fl (Gz ws ps) m).length → b0.1 165 i = cI (frz (Gz ws ps) m i) := fun i hi => by rw [c1 _ (by decide)]; exact a4 i hi
  have dlo : ∀ i, i < m → b0.1 164 i = loI ws ps i := fun i hi => by rw [c1 _ (by decide)]; exact a5 i hi
  have dI : ∀ y, y ≠ 157 → y ≠ 164 → y ≠ 165 → b0.1 y = g.1 y := fun y y1 y2 y3 => by rw [c1 y y1]; exact a1 y y1 y2 y3
  have dI2 : ∀ j, j ≠ 14 → j ≠ 15 → b0.1 157 j = g.1 157 j := fun j j1 j2 => by rw [c2 j j2]; exact a2 j j1
  have dJ : ∀ y, y ≠ 158 → y ≠ 159 → b0.2 y = g.2 y := fun y y1 y2 => by rw [c4]; exact a6 y y1 y2
  have hstop : (lk = false ∨ Lo ws ps 0 ∧ 0 < m) → MS g b0 ps ws m lk := by
    intro hst
    refine ⟨dI, dI2, fun y _ y2 y3 => dJ y y2 y3, fun j _ _ _ => by rw [dJ 157 (by decide) (by decide)], d14, dfr, dlo, ?_, ?_⟩
    · rw [c3]
      rcases hst with hst | ⟨hst, hm0⟩
      · rw [hst]; rfl
      · have : hdb ws ps m = false := by
          apply Bool.eq_false_iff.mpr
          intro hh
          exact look_free ((hdb_iff ws ps m).mp hh) hm0 hst
        rw [this, Bool.and_false]; rfl
    · rintro ⟨hl, hn0⟩
      rcases hst with hst | hst
      · rw [hst] at hl; cases hl
      · exact absurd hst.1 hn0
  rw [d11]
  cases lk with
  | false => exact ok_pos rfl (ok_some ⟨hstop (Or.inl rfl), kb⟩)
  | true =>
  have hm0 := hlm rfl
  refine ok_neg (by decide) ?_
  rw [dlo 0 hm0]
  by_cases h0 : Lo ws ps 0
  · rw [loI_1 h0]
    exact ok_neg (by decide) (ok_some ⟨hstop (Or.inr ⟨h0, hm0⟩), kb⟩)
  rw [loI_0 h0]
  refine ok_pos rfl ?_
  have hle := fl_le (Gz ws ps) m
  have hr0 : 0 < (fl (Gz ws ps) m).length := by
    obtain ⟨f, f1, _, _⟩ := fl_look (ws := ws) (ps := ps) hm0 h0
    rw [f1]; simp
  have hfz0 : frz (Gz ws ps) m 0 = 0 := by
    obtain ⟨f, f1, _, _⟩ := fl_look (ws := ws) (ps := ps) hm0 h0
    unfold frz
    rw [f1, List.reverse_append]; rfl
  have hflt : ∀ i, i < (fl (Gz ws ps) m).length → b0.1 165 i = cI (frz (Gz ws ps) m i) ∧ frz (Gz ws ps) m i < m := fun i hi => ⟨dfr i hi, frz_lt _ _ _ hi⟩
  have hp32 : 2 ^ (fl (Gz ws ps) m).length ≤ 32 := show _ ≤ 2 ^ 5 from Nat.pow_le_pow_right (by decide) (by omega)
  have hp1 : 1 ≤ 2 ^ (fl (Gz ws ps) m).length := Nat.one_le_two_pow
  rw [d14]
  refine ok_bindm (mo_laysGram (MN_rf b0) hIb (many := (fl (Gz ws ps) m).length) (by omega) hflt) (fun q5 hq5 => ?_)
  rw [hq5.1, d14]
  refine ok_bindm (mo_laysDet hq5 hIb.1 (G := fun i j => Gz ws ps (frz (Gz ws ps) m i) (frz (Gz ws ps) m j)) (fm := 0) (many := (fl (Gz ws ps) m).length) (by omega) (by decide) (fun i j hi hj => by rw [if_pos (by omega), show (5 * i + j) / 5 = i by omega, show (5 * i + j) % 5 = j by omega])) (fun q6 hq6 => ?_)
  obtain ⟨E6, hE6, hE6d, hE6a⟩ := hq6
  have k6 : E6 87 = rM g 87 := by
    rw [hE6a 87 (by omega)]
    show (if 87 / 5 < (fl (Gz ws ps) m).length ∧ 87 % 5 < (fl (Gz ws ps) m).length then _ else _) = _
    rw [if_neg (by omega)]
    exact kb
  rw [hE6.1, d14, pow5 _ (by omega), c_pred hp1, ix25]
  have hroom : rM q6 (25 + (2 ^ (fl (Gz ws ps) m).length - 1)) = q64 (re (rX ws ps m) (rY ws ps m)) := by
    rw [hE6.2.2 _ (by omega), hE6d _ (by omega) (by rw [(bl_full _ (by omega)).2]; omega), (bl_full _ (by omega)).1, (bl_full _ (by omega)).2, zdx_map (frz (Gz ws ps) m) (Gz ws ps), fr_all (Gz ws ps) m _ (fun _ _ => rfl), ← (rm_re (ws := ws) (ps := ps) hm5).1]
    rfl
  refine ok_binde (mo_part (a := 25 + (2 ^ (fl (Gz ws ps) m).length - 1)) (i := 0) (by omega) (by decide) q6) ?_
  refine ok_binde (mo_part (a := 25 + (2 ^ (fl (Gz ws ps) m).length - 1)) (i := 3) (by omega) (by decide) q6) ?_
  have hx : cmp (rM q6 (25 + (2 ^ (fl (Gz ws ps) m).length - 1))) 0 = Int64.ofInt (rX ws ps m) := by rw [hroom]; rfl
  have hy : cmp (rM q6 (25 + (2 ^ (fl (Gz ws ps) m).length - 1))) 3 = Int64.ofInt (-(rY ws ps m)) := by rw [hroom]; rfl
  rw [hx, hy, o64_neg]
  have hlow : (Int64.ofInt (rX ws ps m) * Int64.ofInt (rX ws ps m)) - (((3 : Int64) * Int64.ofInt (rY ws ps m)) * Int64.ofInt (rY ws ps m)) = Int64.ofInt (lowz ws ps m) := by
    unfold lowz
    rw [Int64.ofInt_sub, Int64.ofInt_mul, Int64.ofInt_mul, Int64.ofInt_mul, Int64.mul_assoc]; rfl
  rw [hlow]
  refine ok_bd ?_
  have hM9 := MN_uJ hE6 16 (Int64.ofInt (lowz ws ps m))
  generalize hb1 : uJ b0 157 16 (Int64.ofInt (lowz ws ps m)) = b1 at hM9
  refine ok_bindm (mn_clears hM9 (a := 79) (by decide)) (fun q10 hq10 => ok_bd (ok_bd (ok_bd ?_)))
  have hM11 := MN_c hq10 79 (by decide) (i := 0) (by decide) (Int64.ofInt (rX ws ps m))
  have hM12 := MN_c hM11 79 (by decide) (i := 1) (by decide) ((-2 : Int64) * Int64.ofInt (rY ws ps m))
  have hM13 := MN_c hM12 79 (by decide) (i := 3) (by decide) (Int64.ofInt (rY ws ps m))
  rw [up_up, up_s, up_up, up_s, up_up, up_s] at hM13
  have hback : setc (setc (setc (0, 0, 0, 0) 0 (Int64.ofInt (rX ws ps m))) 1 ((-2 : Int64) * Int64.ofInt (rY ws ps m))) 3 (Int64.ofInt (rY ws ps m)) = q64 (re (rX ws ps m) (-(rY ws ps m))) := by
    rw [q64_re]
    refine q_ext rfl ?_ rfl ?_
    · show (-2 : Int64) * Int64.ofInt (rY ws ps m) = Int64.ofInt (-(rY ws ps m)) + Int64.ofInt (-(rY ws ps m))
      rw [Int64.ofInt_neg]; grind
    · show Int64.ofInt (rY ws ps m) = -Int64.ofInt (-(rY ws ps m))
      rw [o64_neg]
  rw [hback] at hM13
  generalize hg13 : uJ (uJ (uJ q10 158 316 (Int64.ofInt (rX ws ps m))) 158 317 ((-2 : Int64) * Int64.ofInt (rY ws ps m))) 158 319 (Int64.ofInt (rY ws ps m)) = g13
  have hM13' : MN b1 g13 (up E6 79 (q64 (re (rX ws ps m) (-(rY ws ps m))))) := by rw [← hg13]; exact hM13
  have hb1I : b1.1 = b0.1 := by rw [← hb1]; rfl
  have hI1 : MIn b1 ps ws m := by
    obtain ⟨i1, i2, i3, i4, i5, i6, i7⟩ := hIb
    exact ⟨fun j hj => by rw [hb1I]; exact i1 j hj, by rw [hb1I]; exact i2, i3, fun e he => by rw [hb1I]; exact i4 e he, by rw [hb1I]; exact i5, i6, fun i hi => by rw [hb1I]; exact i7 i hi⟩
  show Ok ((f_Mo_laysDeterminants (1 : Int32) (g13.1 157 14) g13).bind _) _
  rw [hM13'.1, hb1I, d14]
  refine ok_bindm (mo_laysDet hM13' hI1.1 (G := fun i j => Gz ws ps (frz (Gz ws ps) m i) (frz (Gz ws ps) m j)) (fm := 1) (many := (fl (Gz ws ps) m).length) (by omega) (by decide) (fun i j hi hj => by rw [up_o _ _ (by omega), hE6a _ (by omega), if_pos (by omega), show (5 * i + j) / 5 = i by omega, show (5 * i + j) % 5 = j by omega])) (fun q14 hq14 => ?_)
  obtain ⟨E14, hE14, hE14d, hE14a⟩ := hq14
  have k14 : E14 87 = rM g 87 := by rw [hE14a 87 (by omega), up_o _ _ (by decide)]; exact k6
  refine ok_bindm (ms_cof hE14 hI1 hm0 h0 (by rw [hb1I]; exact d14) (fun j hj => ?_)) (fun e20 he20 => ?_)
  · have hbd := bl_drop (fl (Gz ws ps) m).length (by omega) j hj
    have hpj : 2 ^ j < 2 ^ (fl (Gz ws ps) m).length := Nat.pow_lt_pow_right (by decide) hj
    rw [hE14d _ (Nat.lt_of_le_of_lt (Nat.sub_le _ _) (by omega)) (by rw [hbd.2]; omega), hbd.2]
  obtain ⟨E20, hE20, hE20c, hE20a⟩ := he20
  have k20 : E20 87 = rM g 87 := by rw [hE20a 87 (by omega)]; exact k14
  have hE79 : E20 79 = q64 (re (rX ws ps m) (-(rY ws ps m))) := by rw [hE20a _ (by omega), hE14a _ (by omega), up_s]
  refine ok_bindm (mn_clears hE20 (a := 81) (by decide)) (fun q21 hq21 => ?_)
  refine ok_bindm (mn_addsProduct hq21 hI1.1 (t := 81) (a := 57) (b := 79) (by decide) (by decide) (by decide) 1) (fun q22 hq22 => ?_)
  rw [up_up, up_s, up_o _ _ (by decide), up_o _ _ (by decide), hE79, show E20 57 = q64 (Cz ws ps m 0) by have := hE20c 0 hr0; rw [hfz0] at this; exact this, qadd_0, qsc_1, ← q64_mul] at hq22
  have h81 : rM q22 81 = q64 (shz ws ps m 0) := by rw [hq22.2.2 81 (by decide), up_s]; rfl
  refine ok_binde (mo_part (a := 81) (i := 0) (by decide) (by decide) q22) (ok_bd ?_)
  have h0x : cmp (rM q22 81) 0 = Int64.ofInt (tX ws ps m) := by rw [h81]; rfl
  rw [h0x]
  have hM24 := MN_uJ hq22 17 (Int64.ofInt (tX ws ps m))
  generalize hb2 : uJ b1 157 17 (Int64.ofInt (tX ws ps m)) = b2 at hM24
  refine ok_binde (mo_part (a := 81) (i := 3) (by decide) (by decide) (uJ q22 157 17 (Int64.ofInt (tX ws ps m)))) (ok_bd ?_)
  have h3y : -cmp (rM (uJ q22 157 17 (Int64.ofInt (tX ws ps m))) 81) 3 = Int64.ofInt (tY ws ps m) := by
    rw [rM_uJ, h81]
    show -Int64.ofInt (shz ws ps m 0).2.2.2 = Int64.ofInt (-(shz ws ps m 0).2.2.2)
    rw [Int64.ofInt_neg]
  rw [h3y]
  have hM26 := MN_uJ hM24 18 (Int64.ofInt (tY ws ps m))
  generalize hb3 : uJ b2 157 18 (Int64.ofInt (tY ws ps m)) = b3 at hM26
  generalize hg26 : uJ (uJ q22 157 17 (Int64.ofInt (tX ws ps m))) 157 18 (Int64.ofInt (tY ws ps m)) = g26 at hM26
  have hb3I : b3.1 = b0.1 := by rw [← hb3, ← hb2]; exact hb1I
  have hI3 : MIn b3 ps ws m := by
    obtain ⟨i1, i2, i3, i4, i5, i6, i7⟩ := hIb
    exact ⟨fun j hj => by rw [hb3I]; exact i1 j hj, by rw [hb3I]; exact i2, i3, fun e he => by rw [hb3I]; exact i4 e he, by rw [hb3I]; exact i5, i6, fun i hi => by rw [hb3I]; exact i7 i hi⟩
  -- weights
  refine ok_bindm (Q := fun r => ∃ E, MN b3 r E ∧ E 87 = rM g 87 ∧ (∀ j, j < (fl (Gz ws ps) m).length → E (57 + j) = q64 (Cz ws ps m (frz (Gz ws ps) m j))) ∧ E 79 = q64 (re (rX ws ps m) (-(rY ws ps m))) ∧ ∀ e, e < ps.length → E (62 + e) = q64 (wtz ws ps m (ps.getD e 0))) ?_ (fun e38 he38 => ?_)
  · refine ok_for ps.length (by omega) (fun e s => ∃ E, MN b3 s E ∧ E 87 = rM g 87 ∧ (∀ j, j < (fl (Gz ws ps) m).length → E (57 + j) = q64 (Cz ws ps m (frz (Gz ws ps) m j))) ∧ E 79 = q64 (re (rX ws ps m) (-(rY ws ps m))) ∧ ∀ e2, e2 < e → E (62 + e2) = q64 (wtz ws ps m (ps.getD e2 0))) ⟨_, hM26, by rw [up_o _ _ (by decide)]; exact k20, fun j hj => by rw [up_o _ _ (by omega)]; exact hE20c j hj, by rw [up_o _ _ (by decide)]; exact hE79, fun e2 he2 => absurd he2 (by omega)⟩ ?_ ?_
    · rintro e s he ⟨E, hE, kE, hEc, hE79, hEw⟩
      show Ok (b_Mo_solves_139 (cI e) s) _
      unfold b_Mo_solves_139
      rw [hE.1, hb3I, hIb.2.1]
      refine ok_neg (le_no he (by omega)) ?_
      refine ok_bindm (mn_clears hE (a := 81) (by decide)) (fun q28 hq28 => ?_)
      refine ok_bindm (ms_two hq28 hI3 hm0 h0 (by rw [hb3I]; exact d14) (fun i hi => by rw [hb3I]; exact dfr i hi) (fun j hj => by rw [up_o _ _ (by omega)]; exact hEc j hj) (up_s _ _ _) he) (fun e34 he34 => ?_)
      have e62 : (62 : Int32) + cI e = cI (62 + e) := by rw [show (62 : Int32) = cI 62 from rfl, cI_add]
      rw [e62]
      refine ok_bindm (mn_clears he34 (a := 62 + e) (by omega)) (fun q35 hq35 => ?_)
      refine ok_bindm (mn_addsProduct hq35 hI3.1 (t := 62 + e) (a := 81) (b := 79) (by omega) (by decide) (by decide) 1) (fun q36 hq36 => ok_some ⟨c_succ e, _, hq36, by rw [up_o _ _ (by omega), up_o _ _ (by omega), up_o _ _ (by decide), up_o _ _ (by decide)]; exact kE, fun j hj => ?_, ?_, fun e2 he2 => ?_⟩)
      · rw [up_o _ _ (by omega), up_o _ _ (by omega), up_o _ _ (by omega), up_o _ _ (by omega)]; exact hEc j hj
      · rw [up_o _ _ (by omega), up_o _ _ (by omega), up_o _ _ (by decide), up_o _ _ (by decide)]; exact hE79
      · by_cases hee : e2 = e
        · rw [hee, up_s, up_s, up_o _ _ (show 81 ≠ 62 + e by omega), up_s, up_o _ _ (show 79 ≠ 62 + e by omega), up_o _ _ (by decide), up_o _ _ (by decide), hE79, qadd_0, qsc_1, ← q64_mul, ← wt_uh hm0 h0 hws12]
        · rw [up_o _ _ (by omega), up_o _ _ (by omega), up_o _ _ (by omega), up_o _ _ (by omega)]; exact hEw e2 (by omega)
    · rintro s ⟨E, hE, kE, hEc, hE79, hEw⟩
      show Ok (b_Mo_solves_139 (cI ps.length) s) _
      unfold b_Mo_solves_139
      rw [hE.1, hb3I, hIb.2.1]
      exact ok_pos (le_yes (Nat.le_refl _) (by omega)) (ok_some ⟨E, hE, kE, hEc, hE79, hEw⟩)
  obtain ⟨E38, hE38, k38, hE38c, hE38b, hE38w⟩ := he38
  -- gains
  refine ok_bindm (Q := fun r => ∃ E, MN b3 r E ∧ E 87 = rM g 87 ∧ (∀ j, j < (fl (Gz ws ps) m).length → E (57 + j) = q64 (Cz ws ps m (frz (Gz ws ps) m j))) ∧ E 79 = q64 (re (rX ws ps m) (-(rY ws ps m))) ∧ (∀ e, e < ps.length → E (62 + e) = q64 (wtz ws ps m (ps.getD e 0))) ∧ ∀ k, k < 12 → E (67 + k) = q64 (gnz ws ps m k)) ?_ (fun e41 he41 => ok_bd ?_)
  · refine ok_for 12 (by decide) (fun k s => ∃ E, MN b3 s E ∧ E 87 = rM g 87 ∧ (∀ j, j < (fl (Gz ws ps) m).length → E (57 + j) = q64 (Cz ws ps m (frz (Gz ws ps) m j))) ∧ E 79 = q64 (re (rX ws ps m) (-(rY ws ps m))) ∧ (∀ e, e < ps.length → E (62 + e) = q64 (wtz ws ps m (ps.getD e 0))) ∧ ∀ k2, k2 < k → E (67 + k2) = q64 (gnz ws ps m k2)) ⟨_, hE38, k38, hE38c, hE38b, hE38w, fun k2 hk2 => absurd hk2 (by omega)⟩ ?_ ?_
    · rintro k s hk ⟨E, hE, kE, hEc, hE79, hEw, hEg⟩
      show Ok (b_Mo_solves_191 (cI k) s) _
      unfold b_Mo_solves_191
      refine ok_neg (le_no (a := 12) hk (by decide)) ?_
      have e67 : (67 : Int32) + cI k = cI (67 + k) := by rw [show (67 : Int32) = cI 67 from rfl, cI_add]
      rw [e67]
      refine ok_bindm (ms_gain hE hI3 hEw (t := 67 + k) (by omega) (by omega) hk) (fun r hr => ok_some ⟨c_succ k, _, hr, by rw [up_o _ _ (by omega)]; exact kE, fun j hj => ?_, ?_, fun e he => ?_, fun k2 hk2 => ?_⟩)
      · rw [up_o _ _ (by omega)]; exact hEc j hj
      · rw [up_o _ _ (by omega)]; exact hE79
      · rw [up_o _ _ (by omega)]; exact hEw e he
      · by_cases hkk : k2 = k
        · rw [hkk, up_s]
        · rw [up_o _ _ (by omega)]; exact hEg k2 (by omega)
    · rintro s hs
      show Ok (b_Mo_solves_191 (cI 12) s) _
      unfold b_Mo_solves_191
      exact ok_pos (le_yes (a := 12) (Nat.le_refl _) (by decide)) (ok_some hs)
  obtain ⟨E41, hE41, k41, hE41c, hE41b, hE41w, hE41g⟩ := he41
  -- what is lost must be so
  refine ok_bindm (Q := fun r => ∃ x : Int32, r = uI e41 157 15 x ∧ x = (if hdb ws ps m then 1 else 0)) ?_ (fun e50 he50 => ?_)
  · refine ok_for m (by omega) (fun w s => ∃ x : Int32, s = uI e41 157 15 x ∧ (x = 0 ∨ x = 1) ∧ (x = 1 ↔ ∀ i, i < w → Lo ws ps i → gnz ws ps m (ws i) = (0, 0, 0, 0))) ⟨1, rfl, Or.inr rfl, ⟨fun _ i hi => absurd hi (by omega), fun _ => rfl⟩⟩ ?_ ?_
    · rintro w s hw ⟨x, rfl, hx01, hx⟩
      show Ok (b_Mo_solves_207 (cI w) (uI e41 157 15 x)) _
      unfold b_Mo_solves_207
      rw [uI_k _ _ _ (by decide), uI_o _ _ _ (by decide), uI_o _ _ _ (by decide), hE41.1, hb3I, hIb.2.2.2.2.1]
      refine ok_neg (le_no hw (by omega)) (ok_pos (inb_cI (by omega) (by decide)) ?_)
      have hw1 : b0.1 164 (cI w).toNatClampNeg = loI ws ps w := by rw [cI_nat (by omega)]; exact dlo w hw
      rw [hw1]
      by_cases hL : Lo ws ps w
      · rw [loI_1 hL]
        refine ok_neg (by decide) (ok_pos (inb_cI (by omega) (by decide)) ?_)
        have e67 : (67 : Int32) + b0.1 163 w = cI (67 + ws w) := by rw [(hIb.2.2.2.2.2.2 w hw).1, show (67 : Int32) = cI 67 from rfl, cI_add]
        have hww := (hws w hw).2
        rw [cI_nat (by omega), e67]
        refine ok_binde (mo_isNought (a := 67 + ws w) (by omega) (uI e41 157 15 x)) ?_
        have hgz : rM (uI e41 157 15 x) (67 + ws w) = (0, 0, 0, 0) ↔ gnz ws ps m (ws w) = (0, 0, 0, 0) := by
          rw [rM_uI, hE41.2.2 _ (by omega), hE41g _ hww]
          exact q64_c0 (by decide) (by decide) (gn_c hm5 hn5 hm0 h0 hws12 (ws w))
        by_cases hz : gnz ws ps m (ws w) = (0, 0, 0, 0)
        · rw [if_pos (hgz.mpr hz)]
          refine ok_neg (by decide) (ok_some ⟨c_succ w, x, rfl, hx01, ?_⟩)
          rw [hx]
          constructor
          · intro hh i hi hLi
            by_cases hiw : i = w
            · rw [hiw]; exact hz
            · exact hh i (by omega) hLi
          · intro hh i hi hLi; exact hh i (by omega) hLi
        · rw [if_neg (fun e => hz (hgz.mp e))]
          refine ok_pos rfl (ok_bd (ok_some ⟨c_succ w, 0, ?_, Or.inl rfl, ?_⟩))
          · show uI (uI e41 157 15 x) 157 15 0 = uI e41 157 15 0
            apply Prod.ext
            · funext y j
              by_cases hy : y = 157
              · subst hy
                by_cases hj : j = 15
                · subst hj; rw [uI_s, uI_s]
                · rw [uI_k _ _ _ hj, uI_k _ _ _ hj, uI_k _ _ _ hj]
              · rw [uI_o _ _ _ hy, uI_o _ _ _ hy, uI_o _ _ _ hy]
            · rfl
          · constructor
            · intro hh; exact absurd hh (by decide)
            · intro hh; exact absurd (hh w (by omega) hL) hz
      · rw [loI_0 hL]
        refine ok_pos rfl (ok_some ⟨c_succ w, x, rfl, hx01, ?_⟩)
        rw [hx]
        constructor
        · intro hh i hi hLi
          by_cases hiw : i = w
          · rw [hiw] at hLi; exact absurd hLi hL
          · exact hh i (by omega) hLi
        · intro hh i hi hLi; exact hh i (by omega) hLi
    · rintro s ⟨x, rfl, hx01, hx⟩
      show Ok (b_Mo_solves_207 (cI m) (uI e41 157 15 x)) _
      unfold b_Mo_solves_207
      rw [uI_k _ _ _ (by decide), hE41.1, hb3I, hIb.2.2.2.2.1]
      refine ok_pos (le_yes (Nat.le_refl _) (by omega)) (ok_some ⟨x, rfl, ?_⟩)
      have hiff : x = 1 ↔ hdb ws ps m = true := by
        rw [hx, hdb_iff]
        constructor
        · intro hh i hi hL; exact (lost_iff hm5 hm0 h0 hws12 hi hL).mp (hh i hi hL)
        · intro hh i hi hL; exact (lost_iff hm5 hm0 h0 hws12 hi hL).mpr (hh i hi hL)
      by_cases hh : hdb ws ps m = true
      · rw [hh, hiff.mpr hh]; rfl
      · rw [Bool.eq_false_iff.mpr hh]
        rcases hx01 with h | h
        · rw [h]; rfl
        · exact absurd (hiff.mp h) hh
  obtain ⟨x, rfl, hxv⟩ := he50
  refine ok_some ⟨⟨fun y y1 y2 y3 => ?_, fun j j1 j2 => ?_, fun y y1 y2 y3 => ?_, fun j j1 j2 j3 => ?_, ?_, fun i hi => ?_, fun i hi => ?_, ?_, fun _ => ?_⟩, by rw [rM_uI, hE41.2.2 87 (by decide)]; exact k41⟩
  · rw [uI_o _ _ _ y1, hE41.1, hb3I]; exact dI y y1 y2 y3
  · rw [uI_k _ _ _ j2, hE41.1, hb3I]; exact dI2 j j1 j2
  · rw [uI_2, hE41.2.1 y y2 y3, ← hb3, uJ_o _ _ _ y1, ← hb2, uJ_o _ _ _ y1, ← hb1, uJ_o _ _ _ y1]; exact dJ y y2 y3
  · rw [uI_2, hE41.2.1 157 (by decide) (by decide), ← hb3, uJ_k _ _ _ j3, ← hb2, uJ_k _ _ _ j2, ← hb1, uJ_k _ _ _ j1, dJ 157 (by decide) (by decide)]
  · rw [uI_k _ _ _ (by decide), hE41.1, hb3I]; exact d14
  · rw [uI_o _ _ _ (by decide), hE41.1, hb3I]; exact dfr i hi
  · rw [uI_o _ _ _ (by decide), hE41.1, hb3I]; exact dlo i hi
  · rw [uI_s, hxv, Bool.true_and]
  · have hJ : ∀ j, (uI e41 157 15 x).2 157 j = b3.2 157 j := fun j => by rw [uI_2, hE41.2.1 157 (by decide) (by decide)]
    refine ⟨?_, ?_, ?_, fun j hj => ?_, ?_, fun e he => ?_, fun k hk => ?_⟩
    · rw [hJ, ← hb3, uJ_k _ _ _ (by decide), ← hb2, uJ_k _ _ _ (by decide), ← hb1, uJ_s]
    · rw [hJ, ← hb3, uJ_k _ _ _ (by decide), ← hb2, uJ_s]
    · rw [hJ, ← hb3, uJ_s]
    · rw [rM_uI, hE41.2.2 _ (by omega)]; exact hE41c j hj
    · rw [rM_uI, hE41.2.2 _ (by decide)]; exact hE41b
    · rw [rM_uI, hE41.2.2 _ (by omega)]; exact hE41w e he
    · rw [rM_uI, hE41.2.2 _ (by omega)]; exact hE41g k hk
theorem mo_with7 {g : M2} {q : Sg} (hw : WF q) (hM : IM g q) {b : Nat} (hb : b < 32) {lk : Option Nat} (hlk : ∀ k, lk = some k → k < 12) : Ok (f_Mo_solvesWith (cI b) (lkI lk) g) (fun r => FM g r ∧ SM r (wkl (sp q) (sb q ||| b) (sn q)) (wsl lk (dsx lk (sd q))) (wll lk (dsx lk (sd q))).length lk.isSome ∧ WA r q b ∧ rM r 87 = rM g 87) := by
  have hl5 : (wll lk (dsx lk (sd q))).length ≤ 5 := wll_len (Nat.le_trans (dsx_len _ _) hw.2.2.2.2.2.1)
  unfold f_Mo_solvesWith
  refine ok_bindm (mo_elements hw hM.2.1 hb) (fun q1 hq1 => ?_)
  obtain ⟨a1, a2, a3, a4, a5, a6⟩ := hq1
  refine ok_bindm (mo_wishes hw (WD_f hM.2.1 (a2 160 (by decide) (by decide) (by decide))) hlk hl5) (fun q2 hq2 => ?_)
  obtain ⟨b1, b2, b3, b4, b5, b6⟩ := hq2
  have hin : MIn q2 (wkl (sp q) (sb q ||| b) (sn q)) (wsl lk (dsx lk (sd q))) (wll lk (dsx lk (sd q))).length := by
    refine ⟨fun j hj => by rw [b2 _ (by decide) (by decide), a2 _ (by decide) (by decide) (by decide)]; exact hM.1 j hj, by rw [b3 _ (by decide) (by decide)]; exact a4, Nat.le_trans (wkl_len _ _ _) hw.1, fun e he => ⟨by rw [b2 _ (by decide) (by decide)]; exact a5 e he, wkl_lt _ _ hw.2.1 _ (getD_mem he)⟩, b4, hl5, fun i hi => ⟨b5 i hi, ?_⟩⟩
    refine wsl_lt hlk (fun i hi => ?_) i hi
    exact hw.2.2.2.2.2.2.1 _ (List.mem_filter.mp (getD_mem hi)).1
  refine ok_bindm (mo_solves7 hin b6 (fun h => ?_)) (fun q3 hq37 => ok_some ?_)
  · unfold wll
    cases lk with
    | none => cases h
    | some k => simp
  · obtain ⟨⟨c1, c2, c3, c4, c5, c6, c7, c8, c9⟩, k87⟩ := hq37
    have i1 : ∀ y, y ≠ 157 → y ≠ 162 → y ≠ 163 → y ≠ 164 → y ≠ 165 → y ≠ 166 → q3.1 y = g.1 y := fun y y1 y2 y3 y4 y5 y6 => by rw [c1 y y1 y4 y5, b2 y y1 y3, a2 y y1 y2 y6]
    have i2 : ∀ j, j ≠ 8 → j ≠ 10 → j ≠ 11 → j ≠ 14 → j ≠ 15 → q3.1 157 j = g.1 157 j := fun j j1 j2 j3 j4 j5 => by rw [c2 j j4 j5, b3 j j2 j3, a3 j j1]
    have i3 : ∀ y, y ≠ 157 → y ≠ 158 → y ≠ 159 → q3.2 y = g.2 y := fun y y1 y2 y3 => by rw [c3 y y1 y2 y3, b1, a1]
    refine ⟨⟨fun y hy => ⟨i1 y (by omega) (by omega) (by omega) (by omega) (by omega) (by omega), i3 y (by omega) (by omega) (by omega)⟩, fun j hj => i2 j (by omega) (by omega) (by omega) (by omega) (by omega)⟩, ⟨?_, c5, c6, c7, c8, c9⟩, fun e he => by rw [c1 _ (by decide) (by decide) (by decide), b2 _ (by decide) (by decide)]; exact a6 e he, by rw [k87]; unfold rM; rw [b1, a1]⟩
    obtain ⟨d1, d2, d3, d4, d5, d6, d7⟩ := hin
    exact ⟨fun j hj => by rw [c1 _ (by decide) (by decide) (by decide)]; exact d1 j hj, by rw [c2 _ (by decide) (by decide)]; exact d2, d3, fun e he => by rw [c1 _ (by decide) (by decide) (by decide)]; exact d4 e he, by rw [c2 _ (by decide) (by decide)]; exact d5, d6, fun i hi => by rw [c1 _ (by decide) (by decide) (by decide)]; exact d7 i hi⟩
theorem mo_canNow7 {g : M2} {q : Sg} (hw : WF q) (hM : IM g q) : Ok (f_Mo_canNow g) (fun p => p.1 = (if qh q then 1 else 0) ∧ FM g p.2 ∧ IM p.2 q ∧ SM p.2 (qp q) (qw q) (qm q) (sl q).isSome ∧ WA p.2 q 0 ∧ rM p.2 87 = rM g 87) := by
  unfold f_Mo_canNow
  refine ok_binde (look_now hM.2.1) ?_
  refine ok_bindm (mo_with7 hw hM (b := 0) (by decide) (lk := sl q) (fun k hk => (hw.2.2.2.2.1 k hk).1)) (fun r hr => ok_some ?_)
  obtain ⟨h1, h2, h3, h4⟩ := hr
  rw [dsx_self hw, Nat.or_zero] at h2
  refine ⟨?_, h1, IM_f hM h1, h2, h3, h4⟩
  show (r.1 157 15 &&& 1) = _
  rw [h2.2.2.2.2.1]
  show ((if qh q then (1 : Int32) else 0) &&& 1) = _
  by_cases hh : qh q = true
  · rw [if_pos hh]; decide
  · rw [if_neg hh]; decide
