/-! the greatest of what is offered; side, nearest -/
theorem cI_m1 {b : Nat} (hb : b < 2 ^ 31) : ¬ cI b = (-1 : Int32) := fun e => by
  have h := congrArg Int32.toInt e
  rw [cI_toInt hb] at h
  have h2 : (b : Int) = -1 := h
  omega
def gst (X Y : Nat → Int) (o : Option Nat) (k : Nat) : Option Nat := match o with
  | none => some k
  | some b => if 0 < sgn (X k - X b) (Y k - Y b) then some k else some b
def gmx (c : Nat → Bool) (X Y : Nat → Int) : Nat → Option Nat
  | 0 => none
  | k + 1 => if c k then gst X Y (gmx c X Y k) k else gmx c X Y k
theorem gst_lt {X Y : Nat → Int} {o : Option Nat} {k N : Nat} (hk : k < N) (ho : ∀ b, o = some b → b < N) : ∀ b, gst X Y o k = some b → b < N := by
  intro b hb
  unfold gst at hb
  cases o with
  | none => cases hb; exact hk
  | some d =>
    simp only at hb
    split at hb
    · cases hb; exact hk
    · cases hb; exact ho _ rfl
theorem gmx_lt (c : Nat → Bool) (X Y : Nat → Int) : ∀ n b, gmx c X Y n = some b → b < n := by
  intro n
  induction n with
  | zero => intro b hb; cases hb
  | succ n ih =>
    intro b hb
    unfold gmx at hb
    split at hb
    · exact gst_lt (Nat.lt_succ_self n) (fun d hd => by have := ih d hd; omega) b hb
    · have := ih b hb; omega
theorem gmx_y {c : Nat → Bool} {X Y : Nat → Int} {k : Nat} (h : c k = true) : gmx c X Y (k + 1) = gst X Y (gmx c X Y k) k := by
  conv => lhs; unfold gmx
  rw [if_pos h]
theorem gmx_n {c : Nat → Bool} {X Y : Nat → Int} {k : Nat} (h : ¬ c k = true) : gmx c X Y (k + 1) = gmx c X Y k := by
  conv => lhs; unfold gmx
  rw [if_neg h]
def XB (X Y : Nat → Int) (N : Nat) : Prop := ∀ k, k < N → -2 ^ 56 ≤ X k ∧ X k ≤ 2 ^ 56 ∧ -2 ^ 56 ≤ Y k ∧ Y k ≤ 2 ^ 56
def GS (g : M2) (X Y : Nat → Int) (o : Option Nat) : Prop := g.1 152 0 = lkI o ∧ ∀ b, o = some b → g.2 152 1 = Int64.ofInt (X b) ∧ g.2 152 2 = Int64.ofInt (Y b)
def F1 (a : Nat) (g r : M2) : Prop := ∀ y, y ≠ a → r.1 y = g.1 y ∧ r.2 y = g.2 y
theorem gr_set (g : M2) (X Y : Nat → Int) (k : Nat) : GS (uJ (uJ (uI g 152 0 (cI k)) 152 1 (Int64.ofInt (X k))) 152 2 (Int64.ofInt (Y k))) X Y (some k) ∧ F1 152 g (uJ (uJ (uI g 152 0 (cI k)) 152 1 (Int64.ofInt (X k))) 152 2 (Int64.ofInt (Y k))) := by
  refine ⟨⟨?_, fun b hb => ?_⟩, fun y hy => ⟨?_, ?_⟩⟩
  · show (uI g 152 0 (cI k)).1 152 0 = _
    rw [uI_s]; rfl
  · cases hb
    refine ⟨?_, uJ_s _ _ _ _⟩
    rw [uJ_k _ _ _ (by decide), uJ_s]
  · show (uI g 152 0 (cI k)).1 y = _
    rw [uI_o _ _ _ hy]
  · rw [uJ_o _ _ _ hy, uJ_o _ _ _ hy]; rfl
theorem gr_offer {g : M2} {a k N : Nat} {v : Z4} {X Y : Nat → Int} {o : Option Nat} (hG : GS g X Y o) (ho : ∀ b, o = some b → b < N) (hN : N ≤ 4096) (hk : k < N) (hB : XB X Y N) (hv : rN g a = q64 v) (hX : pXz v = X k) (hY : pYz v = Y k) : Ok (f_Gr_offer a (cI k) g) (fun r => GS r X Y (gst X Y o k) ∧ F1 152 g r) := by
  unfold f_Gr_offer
  rw [pX64 hv, pY64 hv, hX, hY, hG.1]
  cases o with
  | none => exact ok_pos rfl (ok_bd (ok_bd (ok_bd (ok_some (gr_set g X Y k)))))
  | some b =>
    have hb := ho b rfl
    obtain ⟨x1, x2, x3, x4⟩ := hB k hk
    obtain ⟨y1, y2, y3, y4⟩ := hB b hb
    refine ok_neg (cI_m1 (b := b) (by omega)) ?_
    rw [(hG.2 b rfl).1, (hG.2 b rfl).2, ← Int64.ofInt_sub, ← Int64.ofInt_sub]
    refine ok_binde (da_sign (by omega) (by omega) (by omega) (by omega) g) ?_
    simp only [s_le (sgn_r _ _)]
    refine ok_if (fun c => ok_some ⟨?_, fun y _ => ⟨rfl, rfl⟩⟩) (fun c => ok_bd (ok_bd (ok_bd (ok_some ?_))))
    · show GS g X Y (if 0 < sgn (X k - X b) (Y k - Y b) then some k else some b)
      rw [if_neg (by omega)]; exact hG
    · show GS _ X Y (if 0 < sgn (X k - X b) (Y k - Y b) then some k else some b) ∧ _
      rw [if_pos (by omega)]; exact gr_set g X Y k
theorem gr_clear (g : M2) (X Y : Nat → Int) : Ok (f_Gr_clear g) (fun r => GS r X Y none ∧ F1 152 g r) := by
  unfold f_Gr_clear
  refine ok_bd (ok_some ⟨⟨uI_s _ _ _ _, fun b hb => absurd hb (by simp)⟩, fun y hy => ⟨uI_o _ _ _ hy, rfl⟩⟩)
theorem F1_tr {a : Nat} {g r z : M2} (h : F1 a g r) (k : F1 a r z) : F1 a g z := fun y hy => ⟨(k y hy).1.trans (h y hy).1, (k y hy).2.trans (h y hy).2⟩
theorem rN_f {g r : M2} {a : Nat} (h : r.2 a = g.2 a) : rN r a = rN g a := by unfold rN; rw [h]
theorem pr_side {q : Sg} (hw : WF q) : Pr f_Da_side f_Mo_side q := by
  by_cases h : qh q = true
  · obtain ⟨l, hl, hl12, _⟩ := look_some hw h
    have hds := hw.2.2.2.2.2.2.1
    have hB : XB (fun k => pXz (qg q k)) (fun k => pYz (qg q k)) 12 := fun k _ => by
      have := pw_c hw h k
      show -2 ^ 56 ≤ pXz (qg q k) ∧ pXz (qg q k) ≤ 2 ^ 56 ∧ -2 ^ 56 ≤ pYz (qg q k) ∧ pYz (qg q k) ≤ 2 ^ 56
      omega
    refine ⟨lkI (gmx (asq (qp q) l (sd q)) (fun k => pXz (qg q k)) (fun k => pYz (qg q k)) 12), q, hw, cs_ref hw (fun g => rfl) (fun n => absurd h n) (fun _ r hC hN => ?_), fun g hg => ?_⟩
    · have hP := hC.1
      rw [hl] at hP
      obtain ⟨hM, hbit⟩ := asM_b (ps := qp q) hl12 hds
      refine ok_binde (pl_aside hP hds) (ok_bindm (gr_clear r (fun k => pXz (qg q k)) (fun k => pYz (qg q k))) (fun r4 hr4 => ?_))
      refine ok_bindm (Q := fun z => GS z (fun k => pXz (qg q k)) (fun k => pYz (qg q k)) (gmx (asq (qp q) l (sd q)) (fun k => pXz (qg q k)) (fun k => pYz (qg q k)) 12) ∧ F1 152 r z) ?_ (fun z hz => ok_some ⟨hz.1.1, IC_q hw hC (fun y _ hy => hz.2 y (fun e => hy (by unfold qc; omega))), fun y hy => hz.2 y (by omega)⟩)
      refine ok_for 12 (by decide) (fun j z => GS z (fun k => pXz (qg q k)) (fun k => pYz (qg q k)) (gmx (asq (qp q) l (sd q)) (fun k => pXz (qg q k)) (fun k => pYz (qg q k)) j) ∧ F1 152 r z) hr4 ?_ ?_
      · rintro j z hj ⟨z1, z2⟩
        show Ok (b_Da_side_18 (cI (asM (qp q) l (sd q))) (cI j) z) _
        unfold b_Da_side_18
        rw [tb12 hM hj, hbit j hj]
        refine ok_neg (le_no (a := 12) hj (by decide)) (ok_grd rfl (fun c => ok_some ⟨c_succ j, by rw [gmx_n c]; exact z1, z2⟩) (fun c => ok_pos (inb_cI hj (by decide)) ?_))
        rw [cI_nat (by omega)]
        refine ok_bindm (gr_offer (N := 12) z1 (fun b hb => by have := gmx_lt _ _ _ j b hb; omega) (by decide) hj hB (v := qg q j) (by
          rw [rN_f (z2 _ (show 55 + 1 + j ≠ 152 by omega)).2]
          exact (hN.2.2.2.2.2.2.2 h).2.1 j hj) rfl rfl) (fun r8 hr8 => ok_some ⟨c_succ j, by rw [gmx_y c]; exact hr8.1, F1_tr z2 hr8.2⟩)
      · rintro z hz
        show Ok (b_Da_side_18 (cI (asM (qp q) l (sd q))) (cI 12) z) _
        unfold b_Da_side_18
        exact ok_pos (le_yes (a := 12) (Nat.le_refl _) (by decide)) (ok_some hz)
    · unfold f_Mo_side
      refine ms_can hw hg (fun n => absurd h n) (fun _ r hQ => mo_pows hQ (fun z hz h16 hM => ?_))
      refine ok_bindm (Q := fun e => e = lkI (gmx (asq (qp q) l (sd q)) (fun k => pXz (qg q k)) (fun k => pYz (qg q k)) 12)) ?_ (fun e he => ok_some ⟨he, FM_rf z⟩)
      refine ok_ct (fun j => (lkI (gmx (asq (qp q) l (sd q)) (fun k => pXz (qg q k)) (fun k => pYz (qg q k)) j), cI j)) 12 (by decide) rfl (fun j hj => ?_) ?_
      · show Ok (b_Mo_side_11 (lkI (gmx (asq (qp q) l (sd q)) (fun k => pXz (qg q k)) (fun k => pYz (qg q k)) j)) (cI j) z) _
        unfold b_Mo_side_11
        have hlt := gmx_lt (asq (qp q) l (sd q)) (fun k => pXz (qg q k)) (fun k => pYz (qg q k)) j
        refine ok_neg (le_no (a := 12) hj (by decide)) (ok_binde (mo_isAside hw hM.2.1 hl hj) (ok_grd rfl (fun c => ok_some ?_) (fun c => ?_)))
        · show _ = (lkI (gmx _ _ _ (j + 1)), cI (j + 1))
          rw [gmx_n c, c_succ]
        · have hg1 := gmx_y (X := fun k => pXz (qg q k)) (Y := fun k => pYz (qg q k)) c
          cases ho : gmx (asq (qp q) l (sd q)) (fun k => pXz (qg q k)) (fun k => pYz (qg q k)) j with
          | none =>
            refine ok_pos rfl (ok_some ?_)
            show _ = (lkI (gmx _ _ _ (j + 1)), cI (j + 1))
            rw [hg1, ho, c_succ]; rfl
          | some b =>
            have hb := hlt b ho
            refine ok_neg (cI_m1 (b := b) (by omega)) (ok_binde (mo_compared hw h hz hj (b := b) (by omega)) ?_)
            simp only [s_le (cmp_r q j b)]
            refine ok_if (fun d => ok_some ?_) (fun d => ok_some ?_)
            · show _ = (lkI (gmx _ _ _ (j + 1)), cI (j + 1))
              rw [hg1, ho, c_succ]
              show _ = (lkI (if 0 < cmpP q j b then some j else some b), _)
              rw [if_neg (by omega)]
            · show _ = (lkI (gmx _ _ _ (j + 1)), cI (j + 1))
              rw [hg1, ho, c_succ]
              show _ = (lkI (if 0 < cmpP q j b then some j else some b), _)
              rw [if_pos (by omega)]; rfl
      · show Ok (b_Mo_side_11 (lkI (gmx (asq (qp q) l (sd q)) (fun k => pXz (qg q k)) (fun k => pYz (qg q k)) 12)) (cI 12) z) _
        unfold b_Mo_side_11
        exact ok_pos (le_yes (a := 12) (Nat.le_refl _) (by decide)) (ok_some rfl)
  · refine ⟨-2, q, hw, cs_ref hw (fun g => rfl) (fun n => rfl) (fun h2 => absurd h2 h), fun g hg => ?_⟩
    unfold f_Mo_side
    exact ms_no hw hg h
/-! nearest -/
theorem ab_le {a b : Int} {m : Nat} (ha : a.natAbs ≤ m) (hb : b.natAbs ≤ m) : -((m * m : Nat) : Int) ≤ a * b ∧ a * b ≤ ((m * m : Nat) : Int) := by
  have h : (a * b).natAbs ≤ m * m := by rw [Int.natAbs_mul]; exact Nat.mul_le_mul ha hb
  omega
theorem pw_len {m : Nat} {v : Z4} (h : len m v) (hm : m ≤ 67108864) : -2 ^ 56 ≤ pXz v ∧ pXz v ≤ 2 ^ 56 ∧ -2 ^ 56 ≤ pYz v ∧ pYz v ≤ 2 ^ 56 := by
  obtain ⟨h1, h2, h3, h4⟩ := len_comp h
  have hmm : m * m ≤ 67108864 * 67108864 := Nat.mul_le_mul hm hm
  have a1 := ab_le h1 h1
  have a2 := ab_le h2 h2
  have a3 := ab_le h3 h3
  have a4 := ab_le h4 h4
  have a5 := ab_le h1 h3
  have a6 := ab_le h2 h4
  have a7 := ab_le h1 h2
  have a8 := ab_le h2 h3
  have a9 := ab_le h3 h4
  unfold pXz pYz pX pY
  omega
abbrev lkv (q : Sg) (k o : Nat) : Z4 := zsum ((qp q).map (fun p => rt (k * p + 11 * (o * p))))
theorem lkv_b {q : Sg} (hw : WF q) (k : Nat) : XB (fun o => pXz (lkv q k o)) (fun o => pYz (lkv q k o)) 12 := by
  intro o _
  have h5 := q5 hw
  refine pw_len (m := 5) (len_mono (zsum_len (m := 1) _ (fun a ha => ?_)) ?_) (by decide)
  · obtain ⟨p, _, rfl⟩ := List.mem_map.mp ha
    exact len_rt _
  · rw [List.length_map]; omega
abbrev nrx (q : Sg) (k n : Nat) : Option Nat := gmx (fun o => !twl (qp q) k o) (fun o => pXz (lkv q k o)) (fun o => pYz (lkv q k o)) n
def F2 (a b : Nat) (g r : M2) : Prop := ∀ y, y ≠ a → y ≠ b → r.1 y = g.1 y ∧ r.2 y = g.2 y
theorem pr_nearest {q : Sg} (hw : WF q) (x : Int32) : Pr (f_Da_nearest x) (f_Mo_nearest x) q := by
  refine ⟨if inb x 12 then lkI (nrx q x.toNatClampNeg 12) else -2, q, hw, fun g hg => ?_, fun g hg => ?_⟩
  · unfold f_Da_nearest
    refine ok_grd (da_dir g) (fun n => ok_some ⟨(if_neg n).symm, hg, KC_rf g⟩) (fun c => ?_)
    rw [if_pos c]
    obtain ⟨k, hk⟩ : ∃ k, x.toNatClampNeg = k := ⟨_, rfl⟩
    have hk12 : k < 12 := hk ▸ c.2
    have hx : x = cI k := hk ▸ inb_to c
    rw [hk, hx]
    have hB := lkv_b hw k
    refine ok_binde (pl_twinBits hg.1 hk12) (ok_bindm (gr_clear g (fun o => pXz (lkv q k o)) (fun o => pYz (lkv q k o))) (fun r4 hr4 => ?_))
    refine ok_bindm (Q := fun z => GS z (fun o => pXz (lkv q k o)) (fun o => pYz (lkv q k o)) (nrx q k 12) ∧ F2 152 155 g z) ?_ (fun z hz => ok_some ⟨hz.1.1, IC_q hw hg (fun y _ hy => hz.2 y (fun e => hy (by unfold qc; omega)) (fun e => hy (by unfold qc; omega))), fun y hy => hz.2 y (by omega) (by omega)⟩)
    refine ok_for 12 (by decide) (fun j z => GS z (fun o => pXz (lkv q k o)) (fun o => pYz (lkv q k o)) (nrx q k j) ∧ F2 152 155 g z) ⟨hr4.1, fun y y1 _ => hr4.2 y y1⟩ ?_ ?_
    · rintro j z hj ⟨z1, z2⟩
      show Ok (b_Da_nearest_16 (cI k) (cI (bm (twl (qp q) k) 12)) (cI j) z) _
      unfold b_Da_nearest_16
      rw [tb12 (bm_12 _ (Nat.le_refl _)) hj, bm_bit, decide_eq_true hj, Bool.true_and]
      refine ok_neg (le_no (a := 12) hj (by decide)) (ok_grd rfl (fun c => ?_) (fun c => ok_some ⟨c_succ j, by rw [show nrx q k (j + 1) = nrx q k j from gmx_n (by simp [c])]; exact z1, z2⟩))
      have hP : PL z 7 (sn q) (sp q) (sb q) (sl q) (sd q) := PL_k hg.1 (fun y _ _ => (z2 y (by omega) (by omega)).1)
      refine ok_bindm (pl_meet (A := fun t => t = 155) (CN_rf _ z) hP hk12 hj (t := 155) rfl) (fun r6 hr6 => ?_)
      have hG6 : GS r6 (fun o => pXz (lkv q k o)) (fun o => pYz (lkv q k o)) (nrx q k j) := ⟨by rw [hr6.1]; exact z1.1, fun b hb => by rw [hr6.2.1 152 (by decide)]; exact z1.2 b hb⟩
      refine ok_bindm (gr_offer (N := 12) hG6 (fun b hb => by have := gmx_lt _ _ _ j b hb; omega) (by decide) hj hB (v := lkv q k j) (by rw [hr6.2.2.2, up_s]) rfl rfl) (fun r8 hr8 => ok_some ⟨c_succ j, ?_, fun y y1 y2 => ?_⟩)
      · rw [show nrx q k (j + 1) = _ from gmx_y (by simp [c])]; exact hr8.1
      · rw [(hr8.2 y y1).1, (hr8.2 y y1).2, hr6.1, hr6.2.1 y y2]; exact z2 y y1 y2
    · rintro z hz
      show Ok (b_Da_nearest_16 (cI k) (cI (bm (twl (qp q) k) 12)) (cI 12) z) _
      unfold b_Da_nearest_16
      exact ok_pos (le_yes (a := 12) (Nat.le_refl _) (by decide)) (ok_some hz)
  · unfold f_Mo_nearest
    refine ok_grd (mo_dir g) (fun n => ok_some ⟨(if_neg n).symm, hg, KM_rf g⟩) (fun c => ?_)
    rw [if_pos c]
    obtain ⟨k, hk⟩ : ∃ k, x.toNatClampNeg = k := ⟨_, rfl⟩
    have hk12 : k < 12 := hk ▸ c.2
    have hx : x = cI k := hk ▸ inb_to c
    rw [hk, hx]
    have hB := lkv_b hw k
    refine ok_bindm (Q := fun e => e.1 = lkI (nrx q k 12) ∧ FM g e.2) ?_ (fun e he => ok_some ⟨he.1, IM_f hg he.2, FM_K he.2⟩)
    refine ok_lp (fun j st => ∃ u w z, st = (lkI (nrx q k j), u, w, cI j, z) ∧ FM g z ∧ ∀ b, nrx q k j = some b → u = Int64.ofInt (pXz (lkv q k b)) ∧ w = Int64.ofInt (pYz (lkv q k b))) 12 5000 0 _ (by omega) (by omega) ⟨0, 0, g, rfl, FM_rf g, fun b hb => absurd hb (by simp [nrx, gmx])⟩ ?_
    rintro j st hj ⟨u, w, z, rfl, hz, huw⟩
    show Ok (b_Mo_nearest_13 (cI k) (lkI (nrx q k j)) u w (cI j) z) _
    unfold b_Mo_nearest_13
    by_cases hj2 : j = 12
    · subst hj2
      exact ok_pos (le_yes (a := 12) (Nat.le_refl _) (by decide)) (ok_some ⟨rfl, hz⟩)
    · have hj' : j < 12 := by omega
      have hM := IM_f hg hz
      refine ok_neg (le_no (a := 12) hj' (by decide)) (ok_binde (mo_twinsOf hw hM.2.1 hk12) ?_)
      rw [tb12 (bm_12 _ (Nat.le_refl _)) hj', bm_bit, decide_eq_true hj', Bool.true_and]
      by_cases ct : twl (qp q) k j = true
      · refine ok_pos (if_pos ct) (ok_some ⟨hj', u, w, z, ?_, hz, ?_⟩)
        · rw [show nrx q k (j + 1) = nrx q k j from gmx_n (by simp [ct]), c_succ]
        · rw [show nrx q k (j + 1) = nrx q k j from gmx_n (by simp [ct])]; exact huw
      · have hg1 : nrx q k (j + 1) = gst (fun o => pXz (lkv q k o)) (fun o => pYz (lkv q k o)) (nrx q k j) j := gmx_y (by simp [ct])
        refine ok_neg (by rw [if_neg ct]; decide) (ok_bindm (mo_like hw hM hk12 hj') (fun r hr => ?_))
        have hlt := gmx_lt (fun o => !twl (qp q) k o) (fun o => pXz (lkv q k o)) (fun o => pYz (lkv q k o)) j
        cases ho : nrx q k j with
        | none =>
          refine ok_pos rfl (ok_some ⟨hj', r.2 157 3, r.2 157 4, r, ?_, FM_tr hz hr.1, fun b hb => ?_⟩)
          · rw [hg1, ho, c_succ]; rfl
          · rw [hg1, ho] at hb
            cases hb
            exact ⟨hr.2.1, hr.2.2⟩
        | some b =>
          have hb := hlt b ho
          obtain ⟨x1, x2, x3, x4⟩ : -2 ^ 56 ≤ pXz (lkv q k j) ∧ pXz (lkv q k j) ≤ 2 ^ 56 ∧ -2 ^ 56 ≤ pYz (lkv q k j) ∧ pYz (lkv q k j) ≤ 2 ^ 56 := hB j hj'
          obtain ⟨y1, y2, y3, y4⟩ : -2 ^ 56 ≤ pXz (lkv q k b) ∧ pXz (lkv q k b) ≤ 2 ^ 56 ∧ -2 ^ 56 ≤ pYz (lkv q k b) ∧ pYz (lkv q k b) ≤ 2 ^ 56 := hB b (by omega)
          have hr1 : r.2 157 3 = Int64.ofInt (pXz (lkv q k j)) := hr.2.1
          have hr2 : r.2 157 4 = Int64.ofInt (pYz (lkv q k j)) := hr.2.2
          rw [hr1, hr2, (huw b ho).1, (huw b ho).2, ← Int64.ofInt_sub, ← Int64.ofInt_sub]
          refine ok_neg (cI_m1 (b := b) (by omega)) (ok_binde (mo_sign (by omega) (by omega) (by omega) (by omega) r) ?_)
          simp only [s_gt (sgn_r _ _)]
          refine ok_if (fun d => ok_some ⟨hj', Int64.ofInt (pXz (lkv q k j)), Int64.ofInt (pYz (lkv q k j)), r, ?_, FM_tr hz hr.1, fun b2 hb2 => ?_⟩) (fun d => ok_some ⟨hj', Int64.ofInt (pXz (lkv q k b)), Int64.ofInt (pYz (lkv q k b)), r, ?_, FM_tr hz hr.1, fun b2 hb2 => ?_⟩)
          · rw [hg1, ho, c_succ]
            show _ = (lkI (if 0 < sgn _ _ then some j else some b), _)
            rw [if_pos d]; rfl
          · rw [hg1, ho] at hb2
            have hb3 : (if 0 < sgn _ _ then some j else some b) = some b2 := hb2
            rw [if_pos d] at hb3
            cases hb3
            exact ⟨rfl, rfl⟩
          · rw [hg1, ho, c_succ]
            show _ = (lkI (if 0 < sgn _ _ then some j else some b), _)
            rw [if_neg d]
          · rw [hg1, ho] at hb2
            have hb3 : (if 0 < sgn _ _ then some j else some b) = some b2 := hb2
            rw [if_neg d] at hb3
            cases hb3
            exact ⟨rfl, rfl⟩
