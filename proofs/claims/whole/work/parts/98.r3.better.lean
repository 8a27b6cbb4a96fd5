/-! better -/
def updN (pos : Nat → Nat) (e p : Nat) : Nat → Nat := fun i => if i = e then p else pos i
theorem updN_s (pos : Nat → Nat) (e p : Nat) : updN pos e p e = p := if_pos rfl
theorem updN_o (pos : Nat → Nat) {e i : Nat} (p : Nat) (h : i ≠ e) : updN pos e p i = pos i := if_neg h
abbrev qup (q : Sg) (e p : Nat) : Sg := (sn q, updN (sp q) e p, sb q, sl q, sd q, ss q, sL q, st q, sf q, sP q, so q)
/-- a position that an element may take -/
def acc (q : Sg) (e p : Nat) : Prop := (∀ i, i < sn q → sp q i ≠ p) ∨ sp q e = p
theorem acc_W {q : Sg} (hw : WF q) {e p : Nat} (he : e < sn q) (hp : p < 12) (ha : acc q e p) : WF (qup q e p) := by
  obtain ⟨h1, h2, h3, h4⟩ := hw
  have hne : ∀ i, i < sn q → i ≠ e → sp q i ≠ p := fun i hi hie hip => by
    rcases ha with h | h
    · exact h i hi hip
    · exact hie (h3 i e hi he (by rw [hip, h]))
  refine ⟨h1, fun i hi => ?_, fun i j hi hj hij => ?_, h4⟩
  · show updN (sp q) e p i < 12
    by_cases hie : i = e
    · rw [hie, updN_s]; exact hp
    · rw [updN_o _ _ hie]; exact h2 i hi
  · have hij2 : updN (sp q) e p i = updN (sp q) e p j := hij
    by_cases hie : i = e
    · by_cases hje : j = e
      · rw [hie, hje]
      · rw [hie, updN_s, updN_o _ _ hje] at hij2
        exact absurd hij2.symm (hne j hj hje)
    · by_cases hje : j = e
      · rw [hje, updN_s, updN_o _ _ hie] at hij2
        exact absurd hij2 (hne i hi hie)
      · rw [updN_o _ _ hie, updN_o _ _ hje] at hij2
        exact h3 i j hi hj hij2
theorem acc_M {z : M2} {q : Sg} (hw : WF q) (h : IM z q) {e : Nat} (he : e < sn q) (p : Nat) : IM (uI z 160 (2 + e) (cI p)) (qup q e p) := by
  have hn := hw.1
  have hd4 := hw.2.2.2.2.2.1
  obtain ⟨b1, b2, b3, b4, b5, b6, b7, b8⟩ := h.2.1
  refine IM_set h (q2 := qup q e p) ⟨?_, ?_, fun i hi => ?_, fun i hi => ?_, ?_, ?_, fun i hi => ?_, ?_⟩ rfl rfl rfl rfl (fun y hy => uI_o _ _ _ hy)
  · rw [uI_k _ _ _ (by omega)]; exact b1
  · rw [uI_k _ _ _ (by omega)]; exact b2
  · by_cases hie : i = e
    · subst hie; rw [uI_s]; show cI p = cI (updN (sp q) i p i); rw [updN_s]
    · rw [uI_k _ _ _ (by omega)]; show z.1 160 (2 + i) = cI (updN (sp q) e p i); rw [updN_o _ _ hie]; exact b3 i hi
  · have hi2 : i < sn q := hi
    rw [uI_k _ _ _ (by omega)]; exact b4 i hi
  · rw [uI_k _ _ _ (by omega)]; exact b5
  · rw [uI_k _ _ _ (by omega)]; exact b6
  · have hi2 : i < (sd q).length := hi
    rw [uI_k _ _ _ (by omega)]; exact b7 i hi
  · rw [uI_k _ _ _ (by omega)]; exact b8
theorem FM_back {z r : M2} {e : Nat} {x w : Int32} (h : FM (uI z 160 (2 + e) x) r) (hw : z.1 160 (2 + e) = w) : FM z (uI r 160 (2 + e) w) := by
  refine ⟨fun y hy => ⟨?_, ?_⟩, fun j hj => ?_⟩
  · by_cases hy2 : y = 160
    · subst hy2
      funext j
      by_cases hj : j = 2 + e
      · subst hj; rw [uI_s, hw]
      · rw [uI_k _ _ _ hj, (h.1 160 (by omega)).1, uI_k _ _ _ hj]
    · rw [uI_o _ _ _ hy2, (h.1 y hy).1, uI_o _ _ _ hy2]
  · rw [uI_2, (h.1 y hy).2, uI_2]
  · rw [uI_o _ _ _ (by decide), h.2 j hj, uI_o _ _ _ (by decide)]
abbrev beX (q : Sg) (e k : Nat) : Int := qX (sn q) (updN (sp q) e k) (sb q) (sl q) (sd q)
abbrev beY (q : Sg) (e k : Nat) : Int := qY (sn q) (updN (sp q) e k) (sb q) (sl q) (sd q)
abbrev beL (q : Sg) (e k : Nat) : Int := qW (sn q) (updN (sp q) e k) (sb q) (sl q) (sd q)
noncomputable def bef (q : Sg) (e k : Nat) : Bool := @decide (acc q e k) (Classical.propDecidable _) && hdq (sn q) (updN (sp q) e k) (sb q) (sl q) (sd q)
theorem bef_y {q : Sg} {e k : Nat} (ha : acc q e k) : bef q e k = hdq (sn q) (updN (sp q) e k) (sb q) (sl q) (sd q) := by
  unfold bef
  rw [@decide_eq_true _ (Classical.propDecidable _) ha, Bool.true_and]
theorem bef_n {q : Sg} {e k : Nat} (ha : ¬ acc q e k) : bef q e k = false := by
  unfold bef
  rw [@decide_eq_false _ (Classical.propDecidable _) ha, Bool.false_and]
theorem bef_h {q : Sg} {e k : Nat} (h : bef q e k = true) : hdq (sn q) (updN (sp q) e k) (sb q) (sl q) (sd q) = true := by
  unfold bef at h
  rw [Bool.and_eq_true] at h
  exact h.2
noncomputable abbrev bex (q : Sg) (e n : Nat) : Option Nat := lmn (bef q e) (beX q e) (beY q e) (beL q e) n
theorem pr_better {q : Sg} (hw : WF q) (x : Int32) : Pr (f_Da_better x) (f_Mo_better x) q := by
  have hn := hw.1
  have hd4 := hw.2.2.2.2.2.1
  have hb := b32 hw
  by_cases hc : inb x (sn q) ∧ ¬ (sb q).testBit x.toNatClampNeg = true
  · obtain ⟨c1, c2⟩ := hc
    obtain ⟨e, he⟩ : ∃ e, x.toNatClampNeg = e := ⟨_, rfl⟩
    have hen : e < sn q := he ▸ c1.2
    have hx : x = cI e := he ▸ inb_to c1
    rw [he] at c2
    have hin := lmn_in (bef q e) (beX q e) (beY q e) (beL q e)
    have hB : ∀ j b, bex q e j = some b → tB (beX q e b) (beY q e b) (beL q e b) := fun j b hb => q_tB hn hd4 (bef_h (hin j b hb).2)
    refine ⟨lkI (bex q e 12), q, hw, fun g hg => ?_, fun g hg => ?_⟩
    · unfold f_Da_better
      refine ok_grd (da_has hw hg) (fun n => absurd c1 n) (fun _ => ?_)
      rw [hx, pl_works hg.1.2.2.2.1 hb (by omega), if_neg c2]
      refine ok_neg (by decide) (ok_bindm (le_clear g (beX q e) (beY q e) (beL q e)) (fun r hr => ?_))
      have fr0 : FL g r := fun y _ y2 => hr.2 y y2
      have hPr : PL r 7 (sn q) (sp q) (sb q) (sl q) (sd q) := PL_k hg.1 (fun y _ _ => (hr.2 y (by omega)).1)
      refine ok_bindm (pl_copy (a := 73) hPr (by omega)) (fun r1 hr1 => ?_)
      obtain ⟨p1, p2, p3, p4, p5⟩ := hr1
      refine ok_bindm (Q := fun z => LSt z (beX q e) (beY q e) (beL q e) (bex q e 12) ∧ FL g z) ?_ (fun z hz => ok_some ⟨hz.1.1, FL_I hw hg hz.2⟩)
      refine ok_for 12 (by decide) (fun j z => (LSt z (beX q e) (beY q e) (beL q e) (bex q e j) ∧ FL g z) ∧ ∃ pos, PL z 73 (sn q) pos (sb q) (sl q) (sd q) ∧ ∀ i, i ≠ e → pos i = sp q i) ⟨⟨⟨by rw [p4 151 (by decide) (by decide) (by decide)]; exact hr.1.1, fun b hb => by rw [p5]; exact hr.1.2 b hb⟩, fun y y1 y2 => by rw [p4 y (by omega) (by omega) (by omega), p5]; exact fr0 y y1 y2⟩, sp q, p1, fun _ _ => rfl⟩ ?_ ?_
      · rintro j z hj ⟨⟨z1, z2⟩, pos, zP, zpos⟩
        show Ok (b_Da_better_26 (cI e) (cI j) z) _
        unfold b_Da_better_26
        have hCz := (FL_I hw hg z2).1
        have go : acc q e j → Ok (j_Da_better_41 (cI e) (cI j) z) (fun r => Sum.elim (fun s2 => s2.1 = cI (j + 1) ∧ (LSt s2.2 (beX q e) (beY q e) (beL q e) (bex q e (j + 1)) ∧ FL g s2.2) ∧ ∃ pos, PL s2.2 73 (sn q) pos (sb q) (sl q) (sd q) ∧ ∀ i, i ≠ e → pos i = sp q i) (fun z => LSt z (beX q e) (beY q e) (beL q e) (bex q e 12) ∧ FL g z) r) := by
          intro ha
          unfold j_Da_better_41
          refine ok_pos (inb_cI (by omega) (by decide)) (ok_bd ?_)
          rw [cI_nat (by omega)]
          obtain ⟨a1, a2, a3, a4, a5, a6, a7, a8, a9, a10⟩ := zP
          have hP2 : PL (uI z 74 e (cI j)) 73 (sn q) (updN (sp q) e j) (sb q) (sl q) (sd q) := by
            refine ⟨by rw [uI_o _ _ _ (by decide)]; exact a1, a2, fun i hi => ?_, by rw [uI_o _ _ _ (by decide)]; exact a4, a5, by rw [uI_o _ _ _ (by decide)]; exact a6, a7, by rw [uI_o _ _ _ (by decide)]; exact a8, a9, fun i hi => by rw [uI_o _ _ _ (by decide)]; exact a10 i hi⟩
            by_cases hie : i = e
            · subst hie; rw [uI_s, updN_s]; exact ⟨rfl, hj⟩
            · rw [uI_k _ _ _ hie, updN_o _ _ hie, ← zpos i hie]; exact a3 i hi
          refine ok_bindm (tr_solve hP2) (fun w hw2 => ?_)
          have fw : FT z w := fun y hy => by rw [(hw2.2.2.2 y hy).1, (hw2.2.2.2 y hy).2, uI_o _ _ _ (by omega), uI_2]; exact ⟨rfl, rfl⟩
          have f1 : FL g w := fun y y1 y2 => by rw [(fw y y1).1, (fw y y1).2]; exact z2 y y1 y2
          refine ok_grd hw2.2.1 (fun c => ok_some ⟨c_succ j, ⟨?_, f1⟩, _, hw2.2.2.1.1, fun i hi => updN_o _ _ hi⟩) (fun c => ?_)
          · rw [show bex q e (j + 1) = bex q e j from lmn_n (by rw [bef_y ha]; exact c)]; exact LS_f z1 fw
          · refine ok_bindm (tr_offer (k := j) hw2.2.2.1 c rfl rfl rfl (LS_f z1 fw) (fun b hb => ⟨by have := (hin j b hb).1; omega, hB j b hb⟩)) (fun r2 hr2 => ok_some ⟨c_succ j, ⟨?_, fun y y1 y2 => ?_⟩, updN (sp q) e j, PL_k hw2.2.2.1.1 (fun y y1 y2 => (hr2.2 y (by omega)).1), fun i hi => updN_o _ _ hi⟩)
            · rw [show bex q e (j + 1) = _ from lmn_y (by rw [bef_y ha]; exact c)]; exact hr2.1
            · rw [(hr2.2 y y2).1, (hr2.2 y y2).2]; exact f1 y y1 y2
        refine ok_neg (le_no (a := 12) hj (by decide)) (ok_bindm (pl_elementAt hCz.1 hj) (fun t ht => ?_))
        rcases ht with ⟨t1, t2⟩ | ⟨t1, i, hi, hi2, t3⟩
        · exact ok_pos t1 (go (Or.inl t2))
        · refine ok_neg t1 (ok_if (fun c => ?_) (fun c => ok_some ⟨c_succ j, ⟨?_, z2⟩, pos, zP, zpos⟩))
          · rw [t3, cI_inj (by omega) (by omega)] at c
            exact go (Or.inr (by rw [← c]; exact hi2))
          · rw [t3, cI_inj (by omega) (by omega)] at c
            have hna : ¬ acc q e j := fun ha => by
              rcases ha with h | h
              · exact h i hi hi2
              · exact c (hw.2.2.1 i e hi hen (by rw [hi2, h]))
            rw [show bex q e (j + 1) = bex q e j from lmn_n (by rw [bef_n hna]; decide)]; exact z1
      · rintro z ⟨hz, _⟩
        show Ok (b_Da_better_26 (cI e) (cI 12) z) _
        unfold b_Da_better_26
        exact ok_pos (le_yes (a := 12) (Nat.le_refl _) (by decide)) (ok_some hz)
    · unfold f_Mo_better
      refine ok_binde (mo_elem hw hg.2.1) (ok_grd rfl (fun n => absurd c1 n) (fun _ => ?_))
      rw [hx]
      refine ok_binde (mo_isBroken hg.2.1 hen hn) ?_
      have e2 : (2 : Int32) + cI e = cI (2 + e) := by rw [show (2 : Int32) = cI 2 from rfl, cI_add]
      rw [if_neg c2, e2]
      refine ok_pos rfl (ok_pos (inb_cI (by omega) (by decide)) ?_)
      rw [cI_nat (by omega), hg.2.1.2.2.1 e hen]
      refine ok_bindm (Q := fun t => t.1 = lkI (bex q e 12) ∧ FM g t.2) ?_ (fun t ht => ok_some ⟨ht.1, IM_f hg ht.2, FM_K ht.2⟩)
      refine ok_lp (fun j st => ∃ z, st = (lkI (bex q e j), cI j, z) ∧ FM g z ∧ ML z (beX q e) (beY q e) (beL q e) (bex q e j)) 12 5000 0 _ (by omega) (by omega) ⟨g, rfl, FM_rf g, fun b hb => absurd hb (by simp [bex, lmn])⟩ ?_
      rintro j st hj ⟨z, rfl, hz, hL⟩
      show Ok (b_Mo_better_21 (cI e) (cI (sp q e)) (lkI (bex q e j)) (cI j) z) _
      unfold b_Mo_better_21
      by_cases hj2 : j = 12
      · subst hj2
        exact ok_pos (le_yes (a := 12) (Nat.le_refl _) (by decide)) (ok_some ⟨rfl, hz⟩)
      · have hj' : j < 12 := by omega
        have hIz := IM_f hg hz
        have hp12 := hw.2.1 e hen
        have go : acc q e j → Ok (j_Mo_better_32 (cI e) (cI (sp q e)) (lkI (bex q e j)) (cI j) z) (fun r => Sum.elim (fun s2 => j < 12 ∧ ∃ z, s2 = (lkI (bex q e (j + 1)), cI (j + 1), z) ∧ FM g z ∧ ML z (beX q e) (beY q e) (beL q e) (bex q e (j + 1))) (fun t => t.1 = lkI (bex q e 12) ∧ FM g t.2) r) := by
          intro ha
          have hW2 := acc_W hw hen hj' ha
          have hM2 := acc_M hw hIz hen j
          unfold j_Mo_better_32
          rw [e2]
          refine ok_pos (inb_cI (by omega) (by decide)) (ok_bd ?_)
          rw [cI_nat (by omega)]
          refine ok_binde (look_now hM2.2.1) (ok_bindm (mo_with2 hW2 hM2 (b := 0) (by decide) (lk := sl q) (fun k hk => (hw.2.2.2.2.1 k hk).1)) (fun r hr => ?_))
          have hWB : WB r (sn q) (updN (sp q) e j) (sb q) (sl q) (sd q) := by
            have h := hr.2.1
            have ed : dsx (sl q) (sd (qup q e j)) = sd q := dsx_self hw
            rw [ed, Nat.or_zero] at h
            exact SM_WB h
          have hs1 := lsc_s (bef q e) (beX q e) (beY q e) (beL q e) j
          rw [bef_y ha] at hs1
          have hLr : ML r (beX q e) (beY q e) (beL q e) (bex q e j) := ML_f (g := uI z 160 (2 + e) (cI j)) (fun b hb => hL b hb) hr.2.2.2
          have wz : z.1 160 (2 + e) = cI (sp q e) := hIz.2.1.2.2.1 e hen
          have k2 : ∀ r2 : M2, ML r2 (beX q e) (beY q e) (beL q e) (bex q e (j + 1)) → ML (uI r2 160 (2 + e) (cI (sp q e))) (beX q e) (beY q e) (beL q e) (bex q e (j + 1)) := fun r2 h2 b hb => h2 b hb
          refine mo_less (c := hdq (sn q) (updN (sp q) e j) (sb q) (sl q) (sd q)) (k := j) (X := beX q e) (Y := beY q e) (L := beL q e) (o := bex q e j) (A := fun r => j_Mo_better_55 (cI e) (cI (sp q e)) (lkI (bex q e j)) (cI j) r) (B := fun r => j_Mo_better_53 (cI e) (cI (sp q e)) (cI j) r) (fun b hb => by have := (hin j b hb).1; omega) hWB.2.2.1 (wb_tot hn hd4 hWB rfl rfl rfl) hLr (hB j) (fun r2 e1 e3 e4 e5 => ?_) (fun r2 e1 e3 e4 e5 => ?_)
          · unfold j_Mo_better_55
            rw [e2]
            refine ok_pos (inb_cI (by omega) (by decide)) (ok_bd ?_)
            rw [cI_nat (by omega)]
            have en : bex q e (j + 1) = bex q e j := hs1.symm.trans e1
            refine ok_some ⟨hj', _, by rw [en, c_succ], FM_tr hz (FM_back (FM_tr hr.1 e4) wz), k2 r2 (by rw [en]; exact e3)⟩
          · unfold j_Mo_better_53
            rw [e2]
            refine ok_pos (inb_cI (by omega) (by decide)) (ok_bd ?_)
            rw [cI_nat (by omega)]
            have en : bex q e (j + 1) = some j := hs1.symm.trans e1
            refine ok_some ⟨hj', _, by rw [en, c_succ]; rfl, FM_tr hz (FM_back (FM_tr hr.1 e4) wz), k2 r2 (by rw [en]; exact e3)⟩
        refine ok_neg (le_no (a := 12) hj' (by decide)) (ok_if (fun c => ?_) (fun c => ok_bindm (mo_isTaken hw hIz.2.1 hj') (fun t ht => ?_)))
        · rw [cI_inj (by omega) (by omega)] at c
          exact go (Or.inr c.symm)
        · rw [cI_inj (by omega) (by omega)] at c
          rcases ht with ⟨t1, t2⟩ | ⟨t1, i, hi, hi2⟩
          · exact ok_pos t1 (go (Or.inl t2))
          · have hna : ¬ acc q e j := fun ha => by
              rcases ha with h | h
              · exact h i hi hi2
              · exact c h.symm
            have en : bex q e (j + 1) = bex q e j := lmn_n (by rw [bef_n hna]; decide)
            exact ok_neg (by rw [t1]; decide) (ok_some ⟨hj', z, by rw [en, c_succ], hz, by rw [en]; exact hL⟩)
  · refine ⟨-2, q, hw, fun g hg => ?_, fun g hg => ?_⟩
    · unfold f_Da_better
      refine ok_grd (da_has hw hg) (fun _ => ok_some ⟨rfl, hg, KC_rf g⟩) (fun c1 => ?_)
      have ew := pl_works (e := x.toNatClampNeg) hg.1.2.2.2.1 hb (by have := c1.2; omega)
      rw [← inb_to c1] at ew
      rw [ew, if_pos (Classical.byContradiction (fun n => hc ⟨c1, n⟩))]
      exact ok_pos rfl (ok_some ⟨rfl, hg, KC_rf g⟩)
    · unfold f_Mo_better
      refine ok_binde (mo_elem hw hg.2.1) (ok_grd rfl (fun _ => ok_some ⟨rfl, hg, KM_rf g⟩) (fun c1 => ?_))
      have eb := mo_isBroken hg.2.1 c1.2 hn
      rw [← inb_to c1, if_pos (Classical.byContradiction (fun n => hc ⟨c1, n⟩))] at eb
      exact ok_binde eb (ok_neg (by decide) (ok_some ⟨rfl, hg, KM_rf g⟩))
