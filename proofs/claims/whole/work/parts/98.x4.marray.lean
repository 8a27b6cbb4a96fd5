theorem mo_rd {g : M2} {T : List Nat} {d : Sg} {a : Nat} (hT : TT T) (h : GM g T d a) (b : Bool) : Ok (f_Mo_readDirection (if b then 1 else 0) g) (fun r => LX g r T (if b then lnK T d a else lnD T d a)) := by
  obtain ⟨b1, b2, b3, b4, b5, b6, b7, b8, b9⟩ := h.2.2.2.1
  have n4 := b9.2.2.2.1
  unfold f_Mo_readDirection
  cases b with
  | false =>
    rw [b6]
    show Ok _ (fun r => LX g r T (lnD T d a))
    unfold lnD
    refine ok_pos rfl (ok_if (fun c => ?_) (fun c => ?_))
    · have c5 : (sd d).length = 4 := (cI_inj (b := 4) (by omega) (by decide)).mp c
      rw [if_pos c5]
      exact mo_14G h _
    · have c5 : ¬ (sd d).length = 4 := fun e => c (by rw [e]; rfl)
      rw [if_neg c5]
      exact mo_17G hT h false (fun _ => by omega)
  | true =>
    rw [b5]
    show Ok _ (fun r => LX g r T (lnK T d a))
    unfold lnK
    have hlk : cI (lkM (sl d)) ≤ 0 ↔ ¬ (sl d).isSome = true := by
      cases hs : sl d with
      | none => exact ⟨fun _ => by decide, fun _ => by decide⟩
      | some k =>
        have hk := b9.2.2.1 k hs
        exact ⟨fun e => absurd ((cI_le (a := k + 1) (b := 0) (by omega) (by decide)).mp e) (by omega), fun e => absurd rfl e⟩
    refine ok_neg (by decide) (ok_if (fun c => ?_) (fun c => ?_))
    · rw [if_neg (hlk.mp c)]
      exact mo_17G hT h true (fun e => by cases e)
    · rw [if_pos (Classical.byContradiction (fun n => c (hlk.mpr n)))]
      exact mo_14G h _
theorem mo_ln {g : M2} {T : List Nat} {d : Sg} {a : Nat} (hT : TT T) (h : GM g T d a) (hL : sL d ≤ 300) : Ok (f_Mo_readLine g) (fun r => OM r T (lnX T d a) ∧ F6 g r) := by
  have ht := tk_in h.2.2.1
  have wd : ∀ {p : Nat}, Wok p → Ok (f_Mo_is p g) (fun v => v = if Isw T (tk T a) (mm_tx p) then 1 else 0) := fun hp => mo_word h.2.2.2.2.1 h.1 hT.1 hT.2 h.2.1 ht.2.1 ht.2.2.1 ht.2.2.2.1 hp
  unfold f_Mo_readLine lnX
  rw [h.2.2.2.1.2.2.2.2.2.2.2.1]
  refine ok_if (fun c0 => ?_) (fun c0 => ?_)
  · have c1 : sL d = 0 := (cI_inj (b := 0) (by omega) (by decide)).mp c0
    rw [if_pos c1]
    exact mo_l1 hT h
  · have c1 : ¬ sL d = 0 := fun e => c0 (by rw [e]; rfl)
    rw [if_neg c1]
    refine ok_bindm (wd wok5) (fun v5 h5 => ok_grd h5 (fun c5 => ?_) (fun c5 => ?_))
    · rw [if_neg c5]
      refine ok_bindm (wd wok6) (fun v6 h6 => ok_grd h6 (fun c6 => ?_) (fun c6 => ?_))
      · rw [if_neg c6]
        refine ok_bindm (wd wok7) (fun v7 h7 => ok_grd h7 (fun c7 => ?_) (fun c7 => ?_))
        · rw [if_neg c7]
          refine ok_bindm (wd wok8) (fun v8 h8 => ok_grd h8 (fun c8 => ?_) (fun c8 => ?_))
          · rw [if_neg c8]
            exact ok_bindm (mo_eG (c := 1) h (by decide) (by decide)) (fun r hr => mo_sX hT ⟨Or.inr ⟨_, _, hr.1, rfl⟩, hr.2⟩)
          · rw [if_pos c8]
            exact ok_bindm (mo_rd hT h false) (fun r hr => mo_sX hT hr)
        · rw [if_pos c7]
          exact ok_bindm (mo_rd hT h true) (fun r hr => mo_sX hT hr)
      · rw [if_pos c6]
        exact ok_bindm (mo_el hT h true) (fun r hr => mo_sX hT hr)
    · rw [if_pos c5]
      exact ok_bindm (mo_el hT h false) (fun r hr => mo_sX hT hr)
def OX (r : M2) (R : Sg ⊕ (Nat × Nat)) (o : List Nat) : Prop := Sum.elim (fun d => WE r d ∧ r.1 157 28 = 0 ∧ r.1 157 29 = -1 ∧ DI d o) (fun e => BM r e.1 e.2) R
theorem mo_loop {T : List Nat} {o : List Nat} (hT : TT T) : ∀ k n d a g, GM g T d a → DI d o → sL d ≤ a → T.length - a < k → k < n → Ok (lp (fun s : M2 => b_Mo_array_30 s) n g) (fun r => OX r (rd T k d a) o ∧ F6 g r) := by
  intro k
  induction k with
  | zero => intro n d a g _ _ _ h; omega
  | succ k ih =>
    intro n d a g hG hI hL hk hn
    obtain ⟨m, rfl⟩ : ∃ m, n = m + 1 := ⟨n - 1, by omega⟩
    have ha := hG.2.2.1
    have ht := tk_in ha
    have hT3 := hT.1
    refine ok_lpO ?_
    show Ok (b_Mo_array_30 g) _
    unfold b_Mo_array_30
    rw [hG.2.1.2.2.1]
    refine ok_neg (gm_g hG) (ok_if (fun c => ?_) (fun c => ?_))
    · have c1 : (tk T a).2.2.1 = 0 := (cI_inj (b := 0) (by omega) (by decide)).mp c
      refine ok_some ?_
      show OX g (rd T (k + 1) d a) o ∧ F6 g g
      unfold rd
      rw [if_pos c1]
      exact ⟨⟨hG.2.2.2.1, hG.2.2.2.2.1, hG.2.2.2.2.2, hI⟩, F6_rf g⟩
    · have c1 : ¬ (tk T a).2.2.1 = 0 := fun e => c (by rw [e]; rfl)
      have er : rd T (k + 1) d a = Sum.elim (fun p => rd T k p.1 p.2) Sum.inr (lnX T d a) := by
        unfold rd
        rw [if_neg c1]
        cases k <;> rfl
      refine ok_bindm (mo_ln hT hG (by omega)) (fun z hz => ok_some ?_)
      show Ok (lp (fun s : M2 => b_Mo_array_30 s) m z) (fun r => OX r (rd T (k + 1) d a) o ∧ F6 g r)
      obtain ⟨z1, z2⟩ := hz
      rw [er]
      cases hR : lnX T d a with
      | inl p =>
        rw [hR] at z1
        obtain ⟨q1, q2, q3, q4⟩ := ln_in hT ha hL hI hR
        exact ok_mono (ih m p.1 p.2 z z1 q4 q3 (by omega) (by omega)) (fun r hr => ⟨hr.1, F6_tr z2 hr.2⟩)
      | inr e =>
        rw [hR] at z1
        have hB : BM z e.1 e.2 := z1
        obtain ⟨m2, rfl⟩ : ∃ m2, m = m2 + 1 := ⟨m - 1, by omega⟩
        refine ok_lpO ?_
        show Ok (b_Mo_array_30 z) _
        unfold b_Mo_array_30
        exact ok_pos (bm_g hB) (ok_some ⟨hB, z2⟩)
theorem mo_arrT {g : M2} {q : Sg} (hw : WF q) (hg : IM g q) : Ok (f_Mo_array g) (fun p => Sum.elim (fun d => p.1 = cI (sL d) ∧ IM p.2 d) (fun e => p.1 = -4 ∧ IM p.2 (qE q e)) (rd (st q) 301 (d0 (so q)) 0) ∧ KM g p.2) := by
  have hT := q_TT hw
  have h300 := hT.1
  obtain ⟨a1, a2, a3, a4, a5, a6, a7, a8⟩ := hg
  unfold f_Mo_array
  refine ok_bd (ok_bd (ok_bd (ok_bd (ok_bd ?_))))
  rw [a3]
  generalize hx : uI (uI (uI (uI (uI g 157 23 (cI (st q).length)) 157 21 0) 157 24 0) 157 28 0) 157 29 (-1) = x
  have x0 : ∀ y, y ≠ 157 → x.1 y = g.1 y := fun y hy => by rw [← hx, uI_o _ _ _ hy, uI_o _ _ _ hy, uI_o _ _ _ hy, uI_o _ _ _ hy, uI_o _ _ _ hy]
  have x2 : x.2 = g.2 := by rw [← hx]; rfl
  have x23 : x.1 157 23 = cI (st q).length := by rw [← hx, uI_k _ _ _ (by decide), uI_k _ _ _ (by decide), uI_k _ _ _ (by decide), uI_k _ _ _ (by decide), uI_s]
  have x21 : x.1 157 21 = 0 := by rw [← hx, uI_k _ _ _ (by decide), uI_k _ _ _ (by decide), uI_k _ _ _ (by decide), uI_s]
  have x24 : x.1 157 24 = 0 := by rw [← hx, uI_k _ _ _ (by decide), uI_k _ _ _ (by decide), uI_s]
  have x28 : x.1 157 28 = 0 := by rw [← hx, uI_k _ _ _ (by decide), uI_s]
  have x29 : x.1 157 29 = -1 := by rw [← hx, uI_s]
  have x38 : x.1 157 38 = g.1 157 38 := by rw [← hx, uI_k _ _ _ (by decide), uI_k _ _ _ (by decide), uI_k _ _ _ (by decide), uI_k _ _ _ (by decide), uI_k _ _ _ (by decide)]
  refine ok_bindm (Q := fun z => (∀ y, y ≠ 161 → z.1 y = x.1 y) ∧ z.2 = x.2 ∧ ∀ i, i < 19 → z.1 161 i = 0) ?_ (fun z hz => ?_)
  · refine ok_for 19 (by decide) (fun j z => (∀ y, y ≠ 161 → z.1 y = x.1 y) ∧ z.2 = x.2 ∧ ∀ i, i < j → z.1 161 i = 0) ⟨fun _ _ => rfl, rfl, fun i hi => absurd hi (by omega)⟩ ?_ ?_
    · rintro j z hj ⟨z1, z2, z3⟩
      show Ok (b_Mo_array_18 (cI j) z) _
      unfold b_Mo_array_18
      refine ok_neg (le_no (a := 19) hj (by decide)) (ok_pos (inb_cI hj (by decide)) (ok_bd (ok_some ⟨c_succ j, fun y hy => by rw [uI_o _ _ _ hy]; exact z1 y hy, z2, fun i hi => ?_⟩)))
      rw [cI_nat (by omega)]
      by_cases hij : i = j
      · rw [hij, uI_s]
      · rw [uI_k _ _ _ hij]; exact z3 i (by omega)
    · rintro z hz
      show Ok (b_Mo_array_18 (cI 19) z) _
      unfold b_Mo_array_18
      exact ok_pos (le_yes (a := 19) (Nat.le_refl _) (by decide)) (ok_some hz)
  · obtain ⟨z1, z2, z3⟩ := hz
    have hTM : TM z (st q) := ⟨by rw [z1 157 (by decide)]; exact x23, fun i hi => by rw [z1 167 (by decide), x0 167 (by decide)]; exact a4 i hi⟩
    refine ok_bindm (mo_adv hTM hT.1 hT.2 (a := 0) (by omega) (by rw [z1 157 (by decide), x24]; rfl)) (fun w hw2 => ?_)
    obtain ⟨w1, w2⟩ := hw2
    have e161 : w.1 161 = z.1 161 := w2.1 161 (by decide)
    have hG : GM w (st q) (d0 (so q)) 0 := by
      refine ⟨FMd_T hTM w2, w1, by omega, ⟨?_, ?_, fun e he => absurd (show e < 0 from he) (by omega), fun e he => absurd (show e < 0 from he) (by omega), ?_, ?_, fun i hi => absurd (show i < 0 from hi) (by omega), ?_, ?_⟩, ?_, ?_⟩
      · rw [e161, z3 0 (by decide)]; rfl
      · rw [e161, z3 1 (by decide)]; rfl
      · rw [e161, z3 12 (by decide)]; rfl
      · rw [e161, z3 13 (by decide)]; rfl
      · rw [e161, z3 18 (by decide)]; rfl
      · exact ⟨by show 0 ≤ 5; omega, fun e he => absurd (show e < 0 from he) (by omega), fun k hk => by (cases hk), by show 0 ≤ 4; omega, fun k hk => by (cases hk), by show 0 < 2 ^ 0; decide⟩
      · rw [w2.2.1 28 (by decide) (by decide) (by decide) (by decide), z1 157 (by decide)]; exact x28
      · rw [w2.2.1 29 (by decide) (by decide) (by decide) (by decide), z1 157 (by decide)]; exact x29
    refine ok_bindm (mo_loop hT 301 5000 (d0 (so q)) 0 w hG (d0_I hw) (by show 0 ≤ 0; omega) (by omega) (by omega)) (fun v hv => ?_)
    obtain ⟨v1, v2⟩ := hv
    have kv : ∀ y, y ≠ 157 → y ≠ 161 → v.1 y = g.1 y := fun y y1 y2 => by rw [v2.1 y y1 y2, w2.1 y y1, z1 y y2, x0 y y1]
    have kv2 : v.2 = g.2 := by rw [v2.2.2, w2.2.2, z2, x2]
    have k21 : v.1 157 21 = 0 := by rw [v2.2.1 21 (by omega), w2.2.1 21 (by decide) (by decide) (by decide) (by decide), z1 157 (by decide)]; exact x21
    have k38 : v.1 157 38 = g.1 157 38 := by rw [v2.2.1 38 (by omega), w2.2.1 38 (by decide) (by decide) (by decide) (by decide), z1 157 (by decide)]; exact x38
    unfold j_Mo_array_39
    cases hR : rd (st q) 301 (d0 (so q)) 0 with
    | inl d =>
      rw [hR] at v1
      obtain ⟨b1, b2, b3, b4⟩ := v1
      have hgd : ¬ f_Mo_good v = 0 := by unfold f_Mo_good; rw [if_pos b2]; decide
      refine ok_neg hgd (ok_bindm (Q := fun u => (∀ y, y ≠ 160 → u.1 y = v.1 y) ∧ u.2 = v.2 ∧ ∀ i, i < 19 → u.1 160 i = v.1 161 i) ?_ (fun u hu => ?_))
      · refine ok_for 19 (by decide) (fun j u => (∀ y, y ≠ 160 → u.1 y = v.1 y) ∧ u.2 = v.2 ∧ ∀ i, i < j → u.1 160 i = v.1 161 i) ⟨fun _ _ => rfl, rfl, fun i hi => absurd hi (by omega)⟩ ?_ ?_
        · rintro j u hj ⟨u1, u2, u3⟩
          show Ok (b_Mo_array_46 (cI j) u) _
          unfold b_Mo_array_46
          refine ok_neg (le_no (a := 19) hj (by decide)) (ok_pos (inb_cI hj (by decide)) (ok_pos (inb_cI hj (by decide)) (ok_bd (ok_some ⟨c_succ j, fun y hy => by rw [uI_o _ _ _ hy]; exact u1 y hy, u2, fun i hi => ?_⟩))))
          rw [cI_nat (by omega)]
          by_cases hij : i = j
          · rw [hij, uI_s, u1 161 (by decide)]
          · rw [uI_k _ _ _ hij]; exact u3 i (by omega)
        · rintro u hu
          show Ok (b_Mo_array_46 (cI 19) u) _
          unfold b_Mo_array_46
          exact ok_pos (le_yes (a := 19) (Nat.le_refl _) (by decide)) (ok_some hu)
      · obtain ⟨u1, u2, u3⟩ := hu
        obtain ⟨c1, c2, c3, c4, c5, c6, c7, c8, c9⟩ := b1
        have n5 := c9.1
        have n4 := c9.2.2.2.1
        refine ok_some ⟨⟨by rw [u3 18 (by decide)]; exact c8, ⟨fun j hj => by rw [u1 _ (by decide), kv _ (by decide) (by decide)]; exact a1 j hj, ⟨by rw [u3 _ (by decide)]; exact c1, by rw [u3 _ (by decide)]; exact c2, fun e he => by rw [u3 _ (by omega)]; exact c3 e he, fun e he => by rw [u3 _ (by omega)]; exact c4 e he, by rw [u3 _ (by decide)]; exact c5, by rw [u3 _ (by decide)]; exact c6, fun i hi => by rw [u3 _ (by omega)]; exact c7 i hi, by rw [u3 _ (by decide)]; exact c8⟩, ?_, fun i hi => ?_, ?_, ?_, ?_, fun i hi => ?_⟩⟩, fun y hy => ⟨by rw [u1 y (by omega), kv y (by omega) (by omega)], by rw [u2, kv2]⟩⟩
        · rw [u1 157 (by decide), k21, b4.2.1]; rfl
        · rw [b4.2.1] at hi; exact absurd (show i < 0 from hi) (by omega)
        · rw [u1 157 (by decide), b2, b4.2.2.1]; rfl
        · rw [u1 157 (by decide), b3, b4.2.2.2.1]
        · rw [u1 157 (by decide), k38, b4.2.2.2.2]; exact a7
        · rw [b4.2.2.2.2] at hi ⊢
          rw [u1 171 (by decide), kv 171 (by decide) (by decide)]; exact a8 i hi
    | inr e =>
      rw [hR] at v1
      have hB : BM v e.1 e.2 := v1
      refine ok_pos (bm_g hB) (ok_some ⟨⟨rfl, ⟨fun j hj => by rw [kv _ (by decide) (by decide)]; exact a1 j hj, WD_f a2 (kv 160 (by decide) (by decide)), by rw [k21]; rfl, fun i hi => absurd (show i < 0 from hi) (by omega), hB.1, hB.2.1, by rw [k38]; exact a7, fun i hi => by rw [kv 171 (by decide) (by decide)]; exact a8 i hi⟩⟩, fun y hy => ⟨kv y (by omega) (by omega), by rw [kv2]⟩⟩)
theorem num_er {t : Nat × Nat × Nat × Nat} {lo hi : Nat} {K : Nat → Rs} {e : Nat × Nat} (h : numE t lo hi K = .inr e) (hK : ∀ v, K v = .inr e → e.1 ≤ 3) : e.1 ≤ 3 := by
  unfold numE at h
  by_cases c1 : t.2.2.1 = 2
  · rw [if_pos c1] at h
    by_cases c2 : lo ≤ t.2.2.2 ∧ t.2.2.2 ≤ hi
    · rw [if_pos c2] at h; exact hK _ h
    · rw [if_neg c2] at h; cases h; show 2 ≤ 3; omega
  · rw [if_neg c1] at h; cases h; show 1 ≤ 3; omega
theorem sg_er {T : List Nat} {d : Sg} {b : Nat} {e : Nat × Nat} (h : sgE T d b = .inr e) : e.1 ≤ 3 := by
  unfold sgE at h
  by_cases c1 : (tk T b).2.2.1 = 3
  · rw [if_pos c1] at h; cases h
  · rw [if_neg c1] at h; cases h; show 1 ≤ 3; omega
theorem if_er {c : Prop} [Decidable c] {x y : Rs} {e : Nat × Nat} (h : (if c then x else y) = .inr e) (h1 : x = .inr e → e.1 ≤ 3) (h2 : y = .inr e → e.1 ≤ 3) : e.1 ≤ 3 := by
  by_cases hc : c
  · rw [if_pos hc] at h; exact h1 h
  · rw [if_neg hc] at h; exact h2 h
theorem ir_er {a b : Nat} {e : Nat × Nat} (ha : a ≤ 3) (h : (Sum.inr (a, b) : Rs) = .inr e) : e.1 ≤ 3 := by cases h; exact ha
theorem ln_er {T : List Nat} {d : Sg} {a : Nat} {e : Nat × Nat} (h : lnX T d a = .inr e) : e.1 ≤ 3 := by
  unfold lnX at h
  have hE : ∀ b, lnE T d a b = .inr e → e.1 ≤ 3 := fun b h => by
    unfold lnE at h
    exact if_er h (ir_er (by decide)) (fun h => num_er h (fun v h => if_er h (ir_er (by decide)) sg_er))
  refine if_er h (fun h => ?_) (fun h => if_er h (hE _) (fun h => if_er h (hE _) (fun h => if_er h (fun h => ?_) (fun h => if_er h (fun h => ?_) (ir_er (by decide))))))
  · unfold ln1 at h
    exact if_er h (fun h => if_er h (fun h => num_er h (fun v h => sg_er h)) (ir_er (by decide))) (ir_er (by decide))
  · unfold lnK at h
    exact if_er h (ir_er (by decide)) (fun h => num_er h (fun v h => if_er h (ir_er (by decide)) sg_er))
  · unfold lnD at h
    exact if_er h (ir_er (by decide)) (fun h => num_er h (fun v h => if_er h (ir_er (by decide)) sg_er))
theorem rd_ok {T : List Nat} {o : List Nat} (hT : TT T) : ∀ k d a, a ≤ T.length → sL d ≤ a → DI d o → Sum.elim (fun d => DI d o) (fun e : Nat × Nat => e.1 ≤ 3) (rd T k d a) := by
  intro k
  induction k with
  | zero => intro d a _ _ hI; exact hI
  | succ k ih =>
    intro d a ha hL hI
    by_cases c1 : (tk T a).2.2.1 = 0
    · have er : rd T (k + 1) d a = .inl d := by
        unfold rd
        rw [if_pos c1]
      rw [er]; exact hI
    · have er : rd T (k + 1) d a = Sum.elim (fun p => rd T k p.1 p.2) Sum.inr (lnX T d a) := by
        unfold rd
        rw [if_neg c1]
        cases k <;> rfl
      rw [er]
      cases hR : lnX T d a with
      | inl p =>
        obtain ⟨q1, q2, q3, q4⟩ := ln_in hT ha hL hI hR
        exact ih p.1 p.2 q2 q3 q4
      | inr e => exact ln_er hR
theorem pr_array {q : Sg} (hw : WF q) : Pr f_Da_array f_Mo_array q := by
  have hok := rd_ok (q_TT hw) 301 (d0 (so q)) 0 (by omega) (by show 0 ≤ 0; omega) (d0_I hw)
  cases hR : rd (st q) 301 (d0 (so q)) 0 with
  | inl d =>
    rw [hR] at hok
    have hd : WF d := hok.1
    refine ⟨cI (sL d), d, hd, fun g hg => ?_, fun g hg => ?_⟩
    · refine ok_mono (da_arr hw hg) (fun p hp => ?_)
      rw [hR] at hp
      exact ⟨hp.1.1, hp.1.2.1, hp.2⟩
    · refine ok_mono (mo_arrT hw hg) (fun p hp => ?_)
      rw [hR] at hp
      exact ⟨hp.1.1, hp.1.2, hp.2⟩
  | inr e =>
    rw [hR] at hok
    have he : e.1 ≤ 3 := hok
    obtain ⟨w1, w2, w3, w4, w5, w6, w7, w8, w9, w10, w11, w12, w13, w14, w15, w16, w17⟩ := hw
    have hw : WF q := ⟨w1, w2, w3, w4, w5, w6, w7, w8, w9, w10, w11, w12, w13, w14, w15, w16, w17⟩
    have hq : WF (qE q e) := ⟨w1, w2, w3, w4, w5, w6, w7, w8, w9, w10, w11, w12, by show 0 ≤ 300; omega, fun x hx => by (cases hx), he, w16, w17⟩
    refine ⟨-4, qE q e, hq, fun g hg => ?_, fun g hg => ?_⟩
    · refine ok_mono (da_arr hw hg) (fun p hp => ?_)
      rw [hR] at hp
      exact ⟨hp.1.1, hp.1.2.1, hp.2⟩
    · refine ok_mono (mo_arrT hw hg) (fun p hp => ?_)
      rw [hR] at hp
      exact ⟨hp.1.1, hp.1.2, hp.2⟩
