/-! placed -/
abbrev pqs (s : Nat) (i : Nat) : Nat := (bls s 12).getD i 0
theorem wkl_l (l : List Nat) : wkl (fun i => l.getD i 0) 0 l.length = l := by
  unfold wkl
  rw [List.filter_eq_self.mpr (fun i _ => by simp)]
  refine List.ext_getElem (by simp) (fun i h1 h2 => ?_)
  simp [List.getD_eq_getElem?_getD, h2]
theorem wkl_b (s : Nat) : wkl (pqs s) 0 (pc s) = bls s 12 := by
  have := wkl_l (bls s 12)
  rw [bls_pc] at this
  exact this
theorem pl_addE {g : M2} {l : List Nat} {br : Nat} {lk : Option Nat} {ds : List Nat} (hP : PL g 73 l.length (fun i => l.getD i 0) br lk ds) {k : Nat} (hk : k < 12) (hl : l.length < 5) : Ok (f_Pl_addElement 73 (cI k) (0 : Int32) g) (fun r => PL r 73 (l ++ [k]).length (fun i => (l ++ [k]).getD i 0) br lk ds ∧ (∀ y, y ≠ 73 → y ≠ 74 → r.1 y = g.1 y) ∧ r.2 = g.2) := by
  obtain ⟨a1, a2, a3, a4, a5, a6, a7, a8, a9, a10⟩ := hP
  unfold f_Pl_addElement
  rw [a1]
  refine ok_neg (le_no (a := 5) hl (by decide)) (ok_pos (inb_cI hl (by decide)) (ok_bd (ok_pos rfl (ok_bd (ok_some ?_)))))
  rw [cI_nat (by omega), uI_o _ _ _ (show 73 ≠ 73 + 1 by decide), a1, c_succ]
  have hl2 : (l ++ [k]).length = l.length + 1 := by simp
  refine ⟨⟨by rw [uI_s, hl2], by rw [hl2]; omega, fun e he => ?_, by rw [uI_k _ _ _ (by decide), uI_o _ _ _ (by decide)]; exact a4, a5, by rw [uI_k _ _ _ (by decide), uI_o _ _ _ (by decide)]; exact a6, a7, by rw [uI_k _ _ _ (by decide), uI_o _ _ _ (by decide)]; exact a8, a9, fun i hi => by rw [uI_o _ _ _ (by decide), uI_o _ _ _ (by decide)]; exact a10 i hi⟩, fun y y1 y2 => by rw [uI_o _ _ _ y1, uI_o _ _ _ y2], rfl⟩
  rw [hl2] at he
  rw [uI_o _ _ _ (show 73 + 1 ≠ 73 by decide)]
  show (uI g (73 + 1) l.length (cI k)).1 (73 + 1) e = cI ((l ++ [k]).getD e 0) ∧ (l ++ [k]).getD e 0 < 12
  by_cases hel : e = l.length
  · rw [hel, uI_s, List.getD_eq_getElem?_getD, List.getElem?_append_right (Nat.le_refl _), Nat.sub_self]; exact ⟨rfl, hk⟩
  · rw [uI_k _ _ _ hel, List.getD_eq_getElem?_getD, List.getElem?_append_left (by omega), ← List.getD_eq_getElem?_getD]; exact a3 e (by omega)
theorem pl_stand {g : M2} {n : Nat} {pos : Nat → Nat} {br : Nat} {lk : Option Nat} {ds : List Nat} (hP : PL g 73 n pos br lk ds) {s : Nat} (hs : s < 4096) (h5 : pc s ≤ 5) : Ok (f_Pl_standAt 73 (cI s) g) (fun r => PL r 73 (pc s) (pqs s) 0 lk ds ∧ (∀ y, y ≠ 73 → y ≠ 74 → r.1 y = g.1 y) ∧ r.2 = g.2) := by
  obtain ⟨a1, a2, a3, a4, a5, a6, a7, a8, a9, a10⟩ := hP
  have hl : (bls s 12).length ≤ 5 := by rw [bls_pc]; exact h5
  unfold f_Pl_standAt
  refine ok_bd (ok_bd (ok_bindm (Q := fun z => PL z 73 (bls s 12).length (fun i => (bls s 12).getD i 0) 0 lk ds ∧ (∀ y, y ≠ 73 → y ≠ 74 → z.1 y = g.1 y) ∧ z.2 = g.2) ?_ (fun z hz => ok_some (by rw [bls_pc] at hz; exact hz))))
  refine ok_for 12 (by decide) (fun j z => PL z 73 (bls s j).length (fun i => (bls s j).getD i 0) 0 lk ds ∧ (∀ y, y ≠ 73 → y ≠ 74 → z.1 y = g.1 y) ∧ z.2 = g.2) ⟨⟨by rw [uI_k _ _ _ (by decide), uI_s]; rfl, by show 0 ≤ 5; decide, fun e he => absurd (show e < 0 from he) (by omega), by rw [uI_s]; rfl, by decide, by rw [uI_k _ _ _ (by decide), uI_k _ _ _ (by decide)]; exact a6, a7, by rw [uI_k _ _ _ (by decide), uI_k _ _ _ (by decide)]; exact a8, a9, fun i hi => by rw [uI_o _ _ _ (by decide), uI_o _ _ _ (by decide)]; exact a10 i hi⟩, fun y y1 _ => by rw [uI_o _ _ _ y1, uI_o _ _ _ y1], rfl⟩ ?_ ?_
  · rintro j z hj ⟨z1, z2, z3⟩
    show Ok (b_Pl_standAt_8 73 (cI s) (cI j) z) _
    unfold b_Pl_standAt_8
    rw [tb12 hs hj]
    refine ok_neg (le_no (a := 12) hj (by decide)) (ok_grd rfl (fun c => ok_some ⟨c_succ j, by rw [bls_s, if_neg c]; exact ⟨z1, z2, z3⟩⟩) (fun c => ?_))
    have hlen := bls_le s (show j + 1 ≤ 12 by omega)
    rw [bls_s, if_pos c, List.length_append] at hlen
    have hl1 : (bls s j).length + 1 ≤ (bls s 12).length := by simpa using hlen
    refine ok_bindm (pl_addE z1 hj (by omega)) (fun w hw => ok_some ⟨c_succ j, ?_, fun y y1 y2 => by rw [hw.2.1 y y1 y2]; exact z2 y y1 y2, hw.2.2.trans z3⟩)
    rw [bls_s, if_pos c]; exact hw.1
  · rintro z hz
    show Ok (b_Pl_standAt_8 73 (cI s) (cI 12) z) _
    unfold b_Pl_standAt_8
    exact ok_pos (le_yes (a := 12) (Nat.le_refl _) (by decide)) (ok_some hz)
theorem mv_k : ∀ a : Nat, a < 64 → ∀ b : Nat, b < 64 → pc (64 * a + b) ≤ 5 → f_Da_movedSets (cI (64 * a + b)) z2 = some (cI (msd (64 * a + b))) := by decide +kernel
theorem mv_e {s : Nat} (hs : s < 4096) (h5 : pc s ≤ 5) (g : M2) : f_Da_movedSets (cI s) g = some (cI (msd s)) := by
  have := mv_k (s / 64) (by omega) (s % 64) (by omega)
  rw [show 64 * (s / 64) + s % 64 = s by omega] at this
  exact this h5
/-- the sets that are counted -/
def plA (q : Sg) (n s : Nat) : Bool := decide (s < 4096 ∧ pc s = n) && hdq (pc s) (pqs s) 0 (sl q) (sd q)
def plD (q : Sg) (n s : Nat) : Bool := plA q n s && decide (0 < msd s)
def plF (q : Sg) (n s : Nat) : Nat := if plA q n s then 1 else 0
def plG (q : Sg) (n s : Nat) : Nat := if plA q n s then msd s else 0
abbrev plX (q : Sg) (s : Nat) : Int := qX (pc s) (pqs s) 0 (sl q) (sd q)
abbrev plY (q : Sg) (s : Nat) : Int := qY (pc s) (pqs s) 0 (sl q) (sd q)
abbrev plL (q : Sg) (s : Nat) : Int := qW (pc s) (pqs s) 0 (sl q) (sd q)
theorem plA_e {q : Sg} {n s : Nat} (hs : s < 4096) (hp : pc s = n) : plA q n s = hdq (pc s) (pqs s) 0 (sl q) (sd q) := by
  unfold plA
  rw [decide_eq_true ⟨hs, hp⟩, Bool.true_and]
theorem plA_n {q : Sg} {n s : Nat} (hp : ¬ pc s = n) : plA q n s = false := by
  unfold plA
  rw [decide_eq_false (fun e => hp e.2), Bool.false_and]
theorem plA_h {q : Sg} {n s : Nat} (h : plA q n s = true) : s < 4096 ∧ pc s = n ∧ hdq (pc s) (pqs s) 0 (sl q) (sd q) = true := by
  unfold plA at h
  rw [Bool.and_eq_true, decide_eq_true_eq] at h
  exact ⟨h.1.1, h.1.2, h.2⟩
theorem pl_rot {q : Sg} (hw : WF q) (n : Nat) {s : Nat} (hs : s < 4096) : plA q n (rot1 s) = plA q n s ∧ (plA q n s = true → plX q (rot1 s) = plX q s ∧ plY q (rot1 s) = plY q s ∧ plL q (rot1 s) = plL q s) := by
  obtain ⟨r1, r2, _⟩ := rb hs
  have hR := rot_RS hs (wsl (sl q) (sd q))
  have hm : (wll (sl q) (sd q)).length ≤ 5 := wll_len hw.2.2.2.2.2.1
  constructor
  · by_cases hp : pc s = n
    · rw [plA_e r1 (r2.trans hp), plA_e hs hp]
      unfold hdq
      rw [wkl_b, wkl_b, rs_hd hR hm]
    · rw [plA_n hp, plA_n (by rw [r2]; exact hp)]
  · intro h
    have h3 := hdq_on (plA_h h).2.2
    rw [wkl_b] at h3
    obtain ⟨t1, t2⟩ := rs_tot hR hm h3.1 h3.2.1
    show tX _ (wkl (pqs (rot1 s)) 0 (pc (rot1 s))) _ = tX _ (wkl (pqs s) 0 (pc s)) _ ∧ tY _ (wkl (pqs (rot1 s)) 0 (pc (rot1 s))) _ = tY _ (wkl (pqs s) 0 (pc s)) _ ∧ lowz _ (wkl (pqs (rot1 s)) 0 (pc (rot1 s))) _ = lowz _ (wkl (pqs s) 0 (pc s)) _
    rw [wkl_b, wkl_b]
    exact ⟨t1, t2, (rs_low hR _).2.2⟩
theorem pl_rotn {q : Sg} (hw : WF q) (n : Nat) {s : Nat} (hs : s < 4096) : ∀ t, plA q n (rotn s t) = plA q n s ∧ (plA q n s = true → plX q (rotn s t) = plX q s ∧ plY q (rotn s t) = plY q s ∧ plL q (rotn s t) = plL q s) := by
  intro t
  induction t with
  | zero => exact ⟨rfl, fun _ => ⟨rfl, rfl, rfl⟩⟩
  | succ t ih =>
    have h := pl_rot hw n (rotn_lt hs t).1
    refine ⟨h.1.trans ih.1, fun ha => ?_⟩
    obtain ⟨a1, a2, a3⟩ := h.2 (ih.1.trans ha)
    obtain ⟨b1, b2, b3⟩ := ih.2 ha
    exact ⟨a1.trans b1, a2.trans b2, a3.trans b3⟩
theorem pl_B {q : Sg} (hw : WF q) {n : Nat} (hn : n ≤ 5) {s : Nat} (h : plA q n s = true) : tB (plX q s) (plY q s) (plL q s) := by
  obtain ⟨h1, h2, h3⟩ := plA_h h
  exact q_tB (by omega) hw.2.2.2.2.2.1 h3
theorem pl_lmn {q : Sg} (hw : WF q) {n : Nat} (hn : n ≤ 5) (N : Nat) : lmn (plA q n) (plX q) (plY q) (plL q) N = lmn (plD q n) (plX q) (plY q) (plL q) N := by
  refine lmn_rep (fun k hk => pl_B hw hn hk) (fun k hk => ?_) (fun k hk hnd => ?_) N
  · unfold plD at hk
    rw [Bool.and_eq_true] at hk
    exact hk.1
  · have hk4 := (plA_h hk).1
    have h0 : msd k = 0 := by
      unfold plD at hnd
      rw [hk, Bool.true_and, decide_eq_true_eq] at hnd
      omega
    obtain ⟨u, hu⟩ := msd_0 h0
    obtain ⟨e1, e2⟩ := pl_rotn hw n hk4 u
    obtain ⟨a1, a2, a3⟩ := e2 hk
    exact ⟨rotn k u, hu, e1.trans hk, a1, a2, a3⟩
theorem pl_cnt {q : Sg} (hw : WF q) {n : Nat} (hn : n ≤ 5) : smc (plG q n) 4096 = smc (plF q n) 4096 := by
  rw [sum_orb (F := plF q n) (fun s _ h5 => ?_) (fun s hs => ?_)]
  · refine smc_ext 4096 (fun s _ => ?_)
    unfold plG plF
    split
    · rw [Nat.mul_one]
    · rw [Nat.mul_zero]
  · unfold plF
    rw [plA_n (by omega)]; rfl
  · unfold plF
    rw [(pl_rot hw n hs).1]
/-- wishes that lie in the reference -/
def WI (z : M2) (q : Sg) : Prop := z.1 157 10 = cI (wll (sl q) (sd q)).length ∧ (∀ i, i < (wll (sl q) (sd q)).length → z.1 163 i = cI (wsl (sl q) (sd q) i)) ∧ z.1 157 11 = (if (sl q).isSome then 1 else 0)
theorem mo_lay (z : M2) {s : Nat} (hs : s < 4096) (h5 : pc s ≤ 5) (v1 v2 v3 v4 : Int32) : Ok (lp (fun st => b_Mo_placed_37 v1 v2 v3 v4 (cI s) st.1 st.2) 5000 ((0 : Int32), uI z 157 8 (0 : Int32))) (fun w => w.2 = z.2 ∧ (∀ y, y ≠ 157 → y ≠ 162 → w.1 y = z.1 y) ∧ (∀ j, j ≠ 8 → w.1 157 j = z.1 157 j) ∧ w.1 157 8 = cI (bls s 12).length ∧ ∀ i, i < (bls s 12).length → w.1 162 i = cI ((bls s 12).getD i 0)) := by
  have hl : (bls s 12).length ≤ 5 := by rw [bls_pc]; exact h5
  refine ok_for 12 (by decide) (fun j w => w.2 = z.2 ∧ (∀ y, y ≠ 157 → y ≠ 162 → w.1 y = z.1 y) ∧ (∀ j, j ≠ 8 → w.1 157 j = z.1 157 j) ∧ w.1 157 8 = cI (bls s j).length ∧ ∀ i, i < (bls s j).length → w.1 162 i = cI ((bls s j).getD i 0)) ⟨rfl, fun y y1 _ => by rw [uI_o _ _ _ y1], fun j hj => by rw [uI_k _ _ _ hj], by rw [uI_s]; rfl, fun i hi => absurd (show i < 0 from hi) (by omega)⟩ ?_ ?_
  · rintro j w hj ⟨w1, w2, w3, w4, w5⟩
    show Ok (b_Mo_placed_37 v1 v2 v3 v4 (cI s) (cI j) w) _
    unfold b_Mo_placed_37
    rw [tb12 hs hj]
    refine ok_neg (le_no (a := 12) hj (by decide)) (ok_grd rfl (fun c => ok_some ⟨c_succ j, by rw [bls_s, if_neg c]; exact ⟨w1, w2, w3, w4, w5⟩⟩) (fun c => ?_))
    have hlen := bls_le s (show j + 1 ≤ 12 by omega)
    rw [bls_s, if_pos c, List.length_append] at hlen
    have hl1 : (bls s j).length + 1 ≤ (bls s 12).length := by simpa using hlen
    rw [w4]
    refine ok_pos (inb_cI (by omega) (by decide)) (ok_bd (ok_bd (ok_some ⟨c_succ j, ?_⟩)))
    rw [cI_nat (by omega), uI_o _ _ _ (show 157 ≠ 162 by decide), w4, c_succ, bls_s, if_pos c]
    have hl2 : (bls s j ++ [j]).length = (bls s j).length + 1 := by simp
    refine ⟨w1, fun y y1 y2 => by rw [uI_o _ _ _ y1, uI_o _ _ _ y2]; exact w2 y y1 y2, fun i hi => by rw [uI_k _ _ _ hi, uI_o _ _ _ (by decide)]; exact w3 i hi, by rw [uI_s, hl2]; exact c_succ _, fun i hi => ?_⟩
    rw [hl2] at hi
    rw [uI_o _ _ _ (by decide)]
    by_cases hil : i = (bls s j).length
    · rw [hil, uI_s, List.getD_eq_getElem?_getD, List.getElem?_append_right (Nat.le_refl _), Nat.sub_self]; rfl
    · rw [uI_k _ _ _ hil, w5 i (by omega), List.getD_eq_getElem?_getD, List.getD_eq_getElem?_getD, List.getElem?_append_left (by omega)]
  · rintro w hw
    show Ok (b_Mo_placed_37 v1 v2 v3 v4 (cI s) (cI 12) w) _
    unfold b_Mo_placed_37
    exact ok_pos (le_yes (a := 12) (Nat.le_refl _) (by decide)) (ok_some hw)
theorem mo_lsol {z w : M2} {q : Sg} (hw : WF q) (hz : IM z q) (hW : WI z q) {s : Nat} (h5 : pc s ≤ 5) (h : w.2 = z.2 ∧ (∀ y, y ≠ 157 → y ≠ 162 → w.1 y = z.1 y) ∧ (∀ j, j ≠ 8 → w.1 157 j = z.1 157 j) ∧ w.1 157 8 = cI (bls s 12).length ∧ ∀ i, i < (bls s 12).length → w.1 162 i = cI ((bls s 12).getD i 0)) : Ok (f_Mo_solves w) (fun r => FM z r ∧ WB r (pc s) (pqs s) 0 (sl q) (sd q) ∧ WI r q ∧ ∀ j, j ≠ 16 → j ≠ 17 → j ≠ 18 → r.2 157 j = z.2 157 j) := by
  obtain ⟨a1, a2, a3, a4, a5⟩ := h
  obtain ⟨b1, b2, b3⟩ := hW
  have hl4 := hw.2.2.2.2.2.1
  have hlk : ∀ k, sl q = some k → k < 12 := fun k hk => (hw.2.2.2.2.1 k hk).1
  have hin : MIn w (bls s 12) (wsl (sl q) (sd q)) (wll (sl q) (sd q)).length := by
    refine ⟨fun j hj => by rw [a2 _ (by decide) (by decide)]; exact hz.1 j hj, a4, by rw [bls_pc]; exact h5, fun e he => ⟨a5 e he, bls_lt s 12 _ (getD_mem he)⟩, by rw [a3 _ (by decide)]; exact b1, wll_len hl4, fun i hi => ⟨by rw [a2 _ (by decide) (by decide)]; exact b2 i hi, ?_⟩⟩
    exact wsl_lt hlk (fun i hi => hw.2.2.2.2.2.2.1 _ (getD_mem hi)) i hi
  refine ok_mono (mo_solves hin (by rw [a3 _ (by decide)]; exact b3) (fun h => ?_)) (fun r hr => ?_)
  · unfold wll
    cases hs : sl q with
    | none => rw [hs] at h; cases h
    | some k => simp
  · obtain ⟨c1, c2, c3, c4, c5, c6, c7, c8, c9⟩ := hr
    refine ⟨⟨fun y hy => ⟨by rw [c1 y (by omega) (by omega) (by omega), a2 y (by omega) (by omega)], by rw [c3 y (by omega) (by omega) (by omega), a1]⟩, fun j hj => by rw [c2 j (by omega) (by omega), a3 j (by omega)]⟩, SM_WB ?_, ⟨by rw [c2 _ (by decide) (by decide), a3 _ (by decide)]; exact b1, fun i hi => by rw [c1 _ (by decide) (by decide) (by decide), a2 _ (by decide) (by decide)]; exact b2 i hi, by rw [c2 _ (by decide) (by decide), a3 _ (by decide)]; exact b3⟩, fun j j1 j2 j3 => by rw [c4 j j1 j2 j3, a1]⟩
    rw [wkl_b]
    refine ⟨?_, c5, c6, c7, c8, c9⟩
    obtain ⟨d1, d2, d3, d4, d5, d6, d7⟩ := hin
    exact ⟨fun j hj => by rw [c1 _ (by decide) (by decide) (by decide)]; exact d1 j hj, by rw [c2 _ (by decide) (by decide)]; exact d2, d3, fun e he => by rw [c1 _ (by decide) (by decide) (by decide)]; exact d4 e he, by rw [c2 _ (by decide) (by decide)]; exact d5, d6, fun i hi => by rw [c1 _ (by decide) (by decide) (by decide)]; exact d7 i hi⟩
