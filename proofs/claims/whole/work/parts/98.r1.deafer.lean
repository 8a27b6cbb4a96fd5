/-! further deaf ones: deafer -/
theorem pl_addDeaf {g : M2} {p n : Nat} {pos : Nat → Nat} {br : Nat} {lk : Option Nat} {ds : List Nat} (hP : PL g p n pos br lk ds) {k : Nat} (hk : k < 12) (hl : ds.length < 4) : Ok (f_Pl_addDeaf p (cI k) g) (fun r => PL r p n pos br lk (ds ++ [k]) ∧ (∀ y, y ≠ p → y ≠ p + 2 → r.1 y = g.1 y) ∧ r.2 = g.2) := by
  obtain ⟨a1, a2, a3, a4, a5, a6, a7, a8, a9, a10⟩ := hP
  unfold f_Pl_addDeaf
  rw [a8]
  refine ok_neg (le_no (a := 4) hl (by decide)) (ok_pos (inb_cI hl (by decide)) (ok_bd (ok_bd (ok_some ?_))))
  rw [cI_nat (by omega), uI_o _ _ _ (show p ≠ p + 2 by omega), a8]
  refine ⟨⟨by rw [uI_k _ _ _ (by decide), uI_o _ _ _ (by omega)]; exact a1, a2, fun e he => by rw [uI_o _ _ _ (by omega), uI_o _ _ _ (by omega)]; exact a3 e he, by rw [uI_k _ _ _ (by decide), uI_o _ _ _ (by omega)]; exact a4, a5, by rw [uI_k _ _ _ (by decide), uI_o _ _ _ (by omega)]; exact a6, a7, by rw [uI_s, List.length_append]; exact c_succ _, by rw [List.length_append]; simp; omega, fun i hi => ?_⟩, fun y y1 y2 => by rw [uI_o _ _ _ y1, uI_o _ _ _ y2], rfl⟩
  rw [List.length_append] at hi
  have hi2 : i < ds.length + 1 := by simpa using hi
  rw [uI_o _ _ _ (show p + 2 ≠ p by omega), List.getD_eq_getElem?_getD]
  by_cases hil : i = ds.length
  · rw [hil, uI_s, List.getElem?_append_right (Nat.le_refl _), Nat.sub_self]; exact ⟨rfl, hk⟩
  · rw [uI_k _ _ _ hil, List.getElem?_append_left (by omega), ← List.getD_eq_getElem?_getD]; exact a10 i (by omega)
/-- directions of a set, in their order -/
def bls (M n : Nat) : List Nat := (List.range n).filter (fun j => M.testBit j)
theorem bls_s (M n : Nat) : bls M (n + 1) = if M.testBit n then bls M n ++ [n] else bls M n := by
  unfold bls
  rw [List.range_succ, List.filter_append]
  by_cases h : M.testBit n = true
  · rw [if_pos h]; simp [h]
  · rw [if_neg h]; simp [h]
theorem bls_le (M : Nat) {i n : Nat} (h : i ≤ n) : (bls M i).length ≤ (bls M n).length := by
  induction n with
  | zero => rw [show i = 0 by omega]; exact Nat.le_refl _
  | succ n ih =>
    by_cases hi : i = n + 1
    · rw [hi]; exact Nat.le_refl _
    · have := ih (by omega)
      rw [bls_s]
      split
      · rw [List.length_append]; omega
      · exact this
theorem bls_lt (M n : Nat) : ∀ d ∈ bls M n, d < n := fun d hd => List.mem_range.mp (List.mem_filter.mp hd).1
theorem da_hD {g : M2} {q : Sg} (hg : IC g q) {M : Nat} (hM : M < 4096) (hl : (sd q).length + (bls M 12).length ≤ 4) : Ok (f_Da_holdsDeafTo (cI M) g) (fun p => p.1 = (if hdq (sn q) (sp q) (sb q) (sl q) (sd q ++ bls M 12) then 1 else 0) ∧ TS p.2 (sn q) (sp q) (sb q) (sl q) (sd q ++ bls M 12) ∧ FT g p.2) := by
  unfold f_Da_holdsDeafTo
  refine ok_bindm (pl_copy (a := 73) hg.1 (by omega)) (fun r hr => ?_)
  obtain ⟨r1, r2, r3, r4, r5⟩ := hr
  refine ok_bindm (Q := fun z => PL z 73 (sn q) (sp q) (sb q) (sl q) (sd q ++ bls M 12) ∧ (∀ y, y ≠ 73 → y ≠ 75 → z.1 y = r.1 y) ∧ z.2 = r.2) ?_ (fun z hz => ?_)
  · refine ok_for 12 (by decide) (fun j z => PL z 73 (sn q) (sp q) (sb q) (sl q) (sd q ++ bls M j) ∧ (∀ y, y ≠ 73 → y ≠ 75 → z.1 y = r.1 y) ∧ z.2 = r.2) ⟨by show PL r 73 _ _ _ _ (sd q ++ []); rw [List.append_nil]; exact r1, fun _ _ _ => rfl, rfl⟩ ?_ ?_
    · rintro j z hj ⟨z1, z2, z3⟩
      show Ok (b_Da_holdsDeafTo_9 (cI M) (cI j) z) _
      unfold b_Da_holdsDeafTo_9
      rw [tb12 hM hj]
      refine ok_neg (le_no (a := 12) hj (by decide)) (ok_grd rfl (fun c => ok_some ⟨c_succ j, by rw [bls_s, if_neg c]; exact z1, z2, z3⟩) (fun c => ?_))
      have hlen := bls_le M (show j + 1 ≤ 12 by omega)
      rw [bls_s, if_pos c, List.length_append] at hlen
      have hl1 : (bls M j).length + 1 ≤ (bls M 12).length := by simpa using hlen
      refine ok_bindm (pl_addDeaf z1 hj (by rw [List.length_append]; omega)) (fun w hw => ok_some ⟨c_succ j, ?_, fun y y1 y2 => by rw [hw.2.1 y y1 y2]; exact z2 y y1 y2, hw.2.2.trans z3⟩)
      rw [bls_s, if_pos c, ← List.append_assoc]; exact hw.1
    · rintro z hz
      show Ok (b_Da_holdsDeafTo_9 (cI M) (cI 12) z) _
      unfold b_Da_holdsDeafTo_9
      exact ok_pos (le_yes (a := 12) (Nat.le_refl _) (by decide)) (ok_some hz)
  · refine ok_bindm (tr_solve hz.1) (fun w hw => ok_some ⟨hw.1, hw.2.2.1, fun y hy => ?_⟩)
    rw [(hw.2.2.2 y hy).1, (hw.2.2.2 y hy).2, hz.2.1 y (by omega) (by omega), hz.2.2, r5]
    exact ⟨r4 y (by omega) (by omega) (by omega), rfl⟩
/-- the reference: elements and wishes laid, further ones behind -/
def WX (g z : M2) (q : Sg) (ext : List Nat) : Prop := z.2 = g.2 ∧ (∀ y, y ≠ 157 → y ≠ 162 → y ≠ 163 → y ≠ 166 → z.1 y = g.1 y) ∧ (∀ j, j ≠ 8 → j ≠ 10 → j ≠ 11 → z.1 157 j = g.1 157 j) ∧ z.1 157 8 = cI (qp q).length ∧ (∀ i, i < (qp q).length → z.1 162 i = cI ((qp q).getD i 0)) ∧ z.1 157 10 = cI (wll (sl q) (sd q ++ ext)).length ∧ (∀ i, i < (wll (sl q) (sd q ++ ext)).length → z.1 163 i = cI (wsl (sl q) (sd q ++ ext) i)) ∧ z.1 157 11 = (if (sl q).isSome then 1 else 0)
theorem mo_base {A : Type} {g : M2} {q : Sg} (hw : WF q) (hg : IM g q) {K : M2 → Option A} {P : A → Prop} (hK : ∀ z, WX g z q [] → Ok (K z) P) : Ok ((f_Mo_laysElements (0 : Int32) g).bind fun q9 => (f_Mo_lookNow q9).bind fun q10 => (f_Mo_laysWishes q10 q9).bind K) P := by
  have hlk : ∀ k, sl q = some k → k < 12 := fun k hk => (hw.2.2.2.2.1 k hk).1
  refine ok_bindm (mo_elements hw hg.2.1 (b := 0) (by decide)) (fun q1 hq1 => ?_)
  obtain ⟨a1, a2, a3, a4, a5, a6⟩ := hq1
  have hW1 : WD q1 q := WD_f hg.2.1 (a2 160 (by decide) (by decide) (by decide))
  have hl5 : (wll (sl q) (dsx (sl q) (sd q))).length ≤ 5 := wll_len (Nat.le_trans (dsx_len _ _) hw.2.2.2.2.2.1)
  refine ok_binde (look_now hW1) (ok_bindm (mo_wishes hw hW1 hlk hl5) (fun q2 hq2 => ?_))
  obtain ⟨b1, b2, b3, b4, b5, b6⟩ := hq2
  rw [dsx_self hw] at b4 b5
  rw [Nat.or_zero] at a4 a5
  refine hK q2 ⟨b1.trans a1, fun y y1 y2 y3 y4 => by rw [b2 y y1 y3, a2 y y1 y2 y4], fun j j1 j2 j3 => by rw [b3 j j2 j3, a3 j j1], by rw [b3 8 (by decide) (by decide)]; exact a4, fun i hi => by rw [b2 162 (by decide) (by decide)]; exact a5 i hi, by rw [List.append_nil]; exact b4, fun i hi => by rw [List.append_nil] at hi ⊢; exact b5 i hi, b6⟩
theorem wx_add {g z : M2} {q : Sg} {ext : List Nat} (h : WX g z q ext) (k : Nat) : WX g (uI (uI z 163 (wll (sl q) (sd q ++ ext)).length (cI k)) 157 10 (cI ((wll (sl q) (sd q ++ ext)).length + 1))) q (ext ++ [k]) := by
  obtain ⟨a1, a2, a3, a4, a5, a6, a7, a8⟩ := h
  have hl : (wll (sl q) (sd q ++ (ext ++ [k]))).length = (wll (sl q) (sd q ++ ext)).length + 1 := by
    unfold wll; simp; omega
  refine ⟨a1, fun y y1 y2 y3 y4 => by rw [uI_o _ _ _ y1, uI_o _ _ _ y3]; exact a2 y y1 y2 y3 y4, fun j j1 j2 j3 => by rw [uI_k _ _ _ j2, uI_o _ _ _ (by decide)]; exact a3 j j1 j2 j3, by rw [uI_k _ _ _ (by decide), uI_o _ _ _ (by decide)]; exact a4, fun i hi => by rw [uI_o _ _ _ (by decide), uI_o _ _ _ (by decide)]; exact a5 i hi, by rw [uI_s, hl], fun i hi => ?_, by rw [uI_k _ _ _ (by decide), uI_o _ _ _ (by decide)]; exact a8⟩
  rw [hl] at hi
  rw [uI_o _ _ _ (by decide)]
  have hws : wsl (sl q) (sd q ++ (ext ++ [k])) i = ((wll (sl q) (sd q ++ ext)) ++ [k]).getD i 0 := by
    unfold wsl wll; simp [List.append_assoc]
  rw [hws]
  by_cases hil : i = (wll (sl q) (sd q ++ ext)).length
  · rw [hil, uI_s, List.getD_eq_getElem?_getD, List.getElem?_append_right (Nat.le_refl _), Nat.sub_self]; rfl
  · rw [uI_k _ _ _ hil, a7 i (by omega), List.getD_eq_getElem?_getD (l := wll (sl q) (sd q ++ ext) ++ _), List.getElem?_append_left (by omega)]
    unfold wsl; rw [List.getD_eq_getElem?_getD]
theorem wx_solve {g z : M2} {q : Sg} {ext : List Nat} (hw : WF q) (hg : IM g q) (h : WX g z q ext) (hl : (sd q).length + ext.length ≤ 4) (he : ∀ d ∈ ext, d < 12) : Ok (f_Mo_solves z) (fun r => FM g r ∧ WB r (sn q) (sp q) (sb q) (sl q) (sd q ++ ext) ∧ ∀ j, j ≠ 16 → j ≠ 17 → j ≠ 18 → r.2 157 j = g.2 157 j) := by
  obtain ⟨a1, a2, a3, a4, a5, a6, a7, a8⟩ := h
  have hl4 : (sd q ++ ext).length ≤ 4 := by rw [List.length_append]; exact hl
  have hlk : ∀ k, sl q = some k → k < 12 := fun k hk => (hw.2.2.2.2.1 k hk).1
  have hin : MIn z (qp q) (wsl (sl q) (sd q ++ ext)) (wll (sl q) (sd q ++ ext)).length := by
    refine ⟨fun j hj => by rw [a2 _ (by decide) (by decide) (by decide) (by decide)]; exact hg.1 j hj, a4, q5 hw, fun e he => ⟨a5 e he, wkl_lt _ _ hw.2.1 _ (getD_mem he)⟩, a6, wll_len hl4, fun i hi => ⟨a7 i hi, ?_⟩⟩
    refine wsl_lt hlk (fun i hi => ?_) i hi
    rcases List.mem_append.mp (getD_mem hi) with h | h
    · exact hw.2.2.2.2.2.2.1 _ h
    · exact he _ h
  refine ok_mono (mo_solves hin a8 (fun h => ?_)) (fun r hr => ?_)
  · unfold wll
    cases hs : sl q with
    | none => rw [hs] at h; cases h
    | some k => simp
  · obtain ⟨c1, c2, c3, c4, c5, c6, c7, c8, c9⟩ := hr
    refine ⟨⟨fun y hy => ⟨by rw [c1 y (by omega) (by omega) (by omega), a2 y (by omega) (by omega) (by omega) (by omega)], by rw [c3 y (by omega) (by omega) (by omega), a1]⟩, fun j hj => by rw [c2 j (by omega) (by omega), a3 j (by omega) (by omega) (by omega)]⟩, SM_WB ⟨?_, c5, c6, c7, c8, c9⟩, fun j j1 j2 j3 => by rw [c4 j j1 j2 j3, a1]⟩
    obtain ⟨d1, d2, d3, d4, d5, d6, d7⟩ := hin
    exact ⟨fun j hj => by rw [c1 _ (by decide) (by decide) (by decide)]; exact d1 j hj, by rw [c2 _ (by decide) (by decide)]; exact d2, d3, fun e he => by rw [c1 _ (by decide) (by decide) (by decide)]; exact d4 e he, by rw [c2 _ (by decide) (by decide)]; exact d5, d6, fun i hi => by rw [c1 _ (by decide) (by decide) (by decide)]; exact d7 i hi⟩
/-! deafer -/
theorem bls_1 : ∀ k : Nat, k < 12 → bls (2 ^ k) 12 = [k] ∧ 2 ^ k < 4096 := by decide +kernel
abbrev deX (q : Sg) (k : Nat) : Int := qX (sn q) (sp q) (sb q) (sl q) (sd q ++ [k])
abbrev deY (q : Sg) (k : Nat) : Int := qY (sn q) (sp q) (sb q) (sl q) (sd q ++ [k])
abbrev deL (q : Sg) (k : Nat) : Int := qW (sn q) (sp q) (sb q) (sl q) (sd q ++ [k])
def def1 (q : Sg) (k : Nat) : Bool := !decide (k ∈ sd q ∨ sl q = some k) && hdq (sn q) (sp q) (sb q) (sl q) (sd q ++ [k])
abbrev dex (q : Sg) (n : Nat) : Option Nat := lmn (def1 q) (deX q) (deY q) (deL q) n
theorem pr_deafer {q : Sg} (hw : WF q) : Pr f_Da_deafer f_Mo_deafer q := by
  have hn := hw.1
  have hd4 := hw.2.2.2.2.2.1
  have hds := hw.2.2.2.2.2.2.1
  by_cases h : qh q = true
  · obtain ⟨l, hl, hl12, hld⟩ := look_some hw h
    have hlk : ∀ k, sl q = some k → k < 12 := fun k hk => (hw.2.2.2.2.1 k hk).1
    refine ⟨if (sd q).length = 4 then -1 else lkI (dex q 12), q, hw, cs_ref hw (fun g => rfl) (fun n => absurd h n) (fun _ r hC hN => ?_), fun g hg => ?_⟩
    · refine ok_bindm (le_clear r (deX q) (deY q) (deL q)) (fun r3 hr3 => ?_)
      have f3 : FL r r3 := fun y _ y2 => hr3.2 y y2
      have hC3 := FL_I hw hC f3
      have e5 : r3.1 7 5 = cI (sd q).length := hC3.1.1.2.2.2.2.2.2.2.1
      rw [e5]
      refine ok_if (fun c => ok_some ⟨?_, hC3⟩) (fun c => ?_)
      · have : (sd q).length = 4 := (cI_inj (b := 4) (by omega) (by decide)).mp c
        rw [if_pos this]
      · have h4 : ¬ (sd q).length = 4 := fun e => c (by rw [e]; rfl)
        rw [if_neg h4]
        have hin := lmn_in (def1 q) (deX q) (deY q) (deL q)
        have hB : ∀ j b, dex q j = some b → tB (deX q b) (deY q b) (deL q b) := fun j b hb => by
          have h2 := (hin j b hb).2
          unfold def1 at h2
          rw [Bool.and_eq_true] at h2
          exact q_tB hn (by rw [List.length_append]; simp; omega) h2.2
        refine ok_binde (pl_wishBits hC3.1.1) (ok_bindm (Q := fun z => LSt z (deX q) (deY q) (deL q) (dex q 12) ∧ FL r z) ?_ (fun z hz => ok_some ⟨hz.1.1, FL_I hw hC hz.2⟩))
        refine ok_for 12 (by decide) (fun j z => LSt z (deX q) (deY q) (deL q) (dex q j) ∧ FL r z) ⟨hr3.1, f3⟩ ?_ ?_
        · rintro j z hj ⟨z1, z2⟩
          show Ok (b_Da_deafer_26 (cI (wb (sl q) (sd q))) (cI j) z) _
          unfold b_Da_deafer_26
          rw [tb12 (wb_lt hds hlk) hj, wb_bit]
          refine ok_neg (le_no (a := 12) hj (by decide)) (ok_grd rfl (fun c2 => ?_) (fun c2 => ok_some ⟨c_succ j, ?_, z2⟩))
          · rw [sh12 j hj]
            refine ok_bindm (da_hD (FL_I hw hC z2).1 (bls_1 j hj).2 (by rw [(bls_1 j hj).1]; simp; omega)) (fun p hp => ?_)
            rw [(bls_1 j hj).1] at hp
            have f1 : FL r p.2 := fun y y1 y2 => by rw [(hp.2.2 y y1).1, (hp.2.2 y y1).2]; exact z2 y y1 y2
            refine ok_grd hp.1 (fun c => ok_some ⟨c_succ j, ?_, f1⟩) (fun c => ?_)
            · rw [show dex q (j + 1) = dex q j from lmn_n (by unfold def1; simp [c])]; exact LS_f z1 hp.2.2
            · refine ok_bindm (tr_offer (k := j) hp.2.1 c rfl rfl rfl (LS_f z1 hp.2.2) (fun b hb => ⟨by have := (hin j b hb).1; omega, hB j b hb⟩)) (fun r2 hr2 => ok_some ⟨c_succ j, ?_, fun y y1 y2 => ?_⟩)
              · rw [show dex q (j + 1) = _ from lmn_y (by unfold def1; rw [Bool.and_eq_true]; exact ⟨by rw [Bool.not_eq_true']; exact Bool.eq_false_iff.mpr c2, c⟩)]; exact hr2.1
              · rw [(hr2.2 y y2).1, (hr2.2 y y2).2]; exact f1 y y1 y2
          · rw [show dex q (j + 1) = dex q j from lmn_n (by unfold def1; rw [c2]; simp)]; exact z1
        · rintro z hz
          show Ok (b_Da_deafer_26 (cI (wb (sl q) (sd q))) (cI 12) z) _
          unfold b_Da_deafer_26
          exact ok_pos (le_yes (a := 12) (Nat.le_refl _) (by decide)) (ok_some hz)
    · unfold f_Mo_deafer
      refine ms_cq hw hg (fun n => absurd h n) (fun _ _ r hQ => ?_)
      have hM := hQ.1
      show Ok (if r.1 160 13 = (4 : Int32) then _ else _) _
      rw [hM.2.1.2.2.2.2.2.1]
      refine ok_if (fun c => ok_some ⟨?_, FM_rf r⟩) (fun c => ?_)
      · have : (sd q).length = 4 := (cI_inj (b := 4) (by omega) (by decide)).mp c
        rw [if_pos this]
      · have h4 : ¬ (sd q).length = 4 := fun e => c (by rw [e]; rfl)
        rw [if_neg h4]
        have hin := lmn_in (def1 q) (deX q) (deY q) (deL q)
        have hdl : ∀ b : Nat, (sd q ++ [b]).length ≤ 4 := fun b => by rw [List.length_append]; simp; omega
        have hB : ∀ j b, dex q j = some b → tB (deX q b) (deY q b) (deL q b) := fun j b hb => by
          have h2 := (hin j b hb).2
          unfold def1 at h2
          rw [Bool.and_eq_true] at h2
          exact q_tB hn (hdl b) h2.2
        refine ok_bindm (Q := fun e => e.1 = lkI (dex q 12) ∧ FM r e.2) ?_ (fun e he => ok_some he)
        refine ok_lp (fun j st => ∃ z, st = (lkI (dex q j), cI j, z) ∧ FM r z ∧ ML z (deX q) (deY q) (deL q) (dex q j)) 12 5000 0 _ (by omega) (by omega) ⟨r, rfl, FM_rf r, fun b hb => absurd hb (by simp [dex, lmn])⟩ ?_
        rintro j st hj ⟨z, rfl, hz, hL⟩
        show Ok (b_Mo_deafer_17 (lkI (dex q j)) (cI j) z) _
        unfold b_Mo_deafer_17
        by_cases hj2 : j = 12
        · subst hj2
          exact ok_pos (le_yes (a := 12) (Nat.le_refl _) (by decide)) (ok_some ⟨rfl, hz⟩)
        · have hj' : j < 12 := by omega
          have hIz := IM_f hM hz
          have elk : f_Mo_lookNow z = some (cI l) := by rw [look_now hIz.2.1, hl]; rfl
          have skip : (j ∈ sd q ∨ sl q = some j) → dex q (j + 1) = dex q j := fun hm => lmn_n (by unfold def1; simp [hm])
          refine ok_neg (le_no (a := 12) hj' (by decide)) (ok_binde elk (ok_if (fun c2 => ok_some ⟨hj', z, ?_, hz, ?_⟩) (fun c2 => ok_bindm (mo_deafAt hw hIz.2.1 hj') (fun d hd => ?_))))
          · rw [cI_inj (by omega) (by omega)] at c2
            rw [skip (Or.inr (by rw [c2]; exact hl)), c_succ]
          · rw [cI_inj (by omega) (by omega)] at c2
            rw [skip (Or.inr (by rw [c2]; exact hl))]; exact hL
          · rw [cI_inj (by omega) (by omega)] at c2
            rcases hd with ⟨d1, d2⟩ | ⟨d1, i, hi, hi2, _⟩
            · refine ok_pos d1 (mo_base hw hIz (fun w hw2 => ?_))
              have hlen : (wll (sl q) (sd q)).length ≤ 4 := by
                unfold wll; rw [hl]; simp; omega
              have e10 : w.1 157 10 = cI (wll (sl q) (sd q)).length := by have := hw2.2.2.2.2.2.1; rw [List.append_nil] at this; exact this
              rw [e10]
              refine ok_pos (inb_cI (by omega) (by decide)) (ok_bd (ok_bd ?_))
              rw [cI_nat (by omega), uI_o _ _ _ (show 157 ≠ 163 by decide), e10, c_succ]
              have hx := wx_add hw2 j
              rw [List.append_nil, List.nil_append] at hx
              have hj1 : ∀ d ∈ [j], d < 12 := fun d hd => by rw [List.mem_singleton.mp hd]; exact hj'
              refine ok_bindm (wx_solve hw hIz hx (by simp; omega) hj1) (fun s hs => ?_)
              have hc : def1 q j = hdq (sn q) (sp q) (sb q) (sl q) (sd q ++ [j]) := by
                unfold def1
                have hnm : ¬ (j ∈ sd q ∨ sl q = some j) := fun hm => by
                  rcases hm with hm | hm
                  · exact d2 hm
                  · rw [hl] at hm; cases hm; exact c2 rfl
                simp [hnm]
              have hs1 := lsc_s (def1 q) (deX q) (deY q) (deL q) j
              rw [hc] at hs1
              refine mo_less (c := hdq (sn q) (sp q) (sb q) (sl q) (sd q ++ [j])) (k := j) (X := deX q) (Y := deY q) (L := deL q) (o := dex q j) (A := fun r => some (Sum.inl (lkI (dex q j), cI j + (1 : Int32), r))) (B := fun r => some (Sum.inl (cI j, cI j + (1 : Int32), r))) (fun b hb => by have := (hin j b hb).1; omega) hs.2.1.2.2.1 (wb_tot hn (hdl j) hs.2.1 rfl rfl rfl) (ML_f hL hs.2.2) (hB j) (fun r2 e1 e2 e3 e4 => ok_some ⟨hj', r2, ?_, FM_tr hz (FM_tr hs.1 e3), ?_⟩) (fun r2 e1 e2 e3 e4 => ok_some ⟨hj', r2, ?_, FM_tr hz (FM_tr hs.1 e3), ?_⟩)
              · rw [show dex q (j + 1) = dex q j from hs1.symm.trans e1, c_succ]
              · rw [show dex q (j + 1) = dex q j from hs1.symm.trans e1]; exact e2
              · rw [show dex q (j + 1) = some j from hs1.symm.trans e1, c_succ]; rfl
              · rw [show dex q (j + 1) = some j from hs1.symm.trans e1]; exact e2
            · refine ok_neg d1 (ok_some ⟨hj', z, ?_, hz, ?_⟩)
              · rw [skip (Or.inl (by rw [← hi2]; exact getD_mem hi)), c_succ]
              · rw [skip (Or.inl (by rw [← hi2]; exact getD_mem hi))]; exact hL
  · refine ⟨-2, q, hw, cs_ref hw (fun g => rfl) (fun n => rfl) (fun h2 => absurd h2 h), fun g hg => ?_⟩
    unfold f_Mo_deafer
    exact ms_no hw hg h
