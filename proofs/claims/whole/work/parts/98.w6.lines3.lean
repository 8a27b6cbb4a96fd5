theorem pl_addX {g : M2} {n : Nat} {pos : Nat → Nat} {br : Nat} {lk : Option Nat} {ds : List Nat} (hP : PL g 3 n pos br lk ds) {k : Nat} (hk : k < 12) (hn : n < 5) (b : Bool) : Ok (f_Pl_addElement 3 (cI k) (if b then 1 else 0) g) (fun r => PL r 3 (n + 1) (updN pos n k) (if b then br ||| 2 ^ n else br) lk ds ∧ r.1 3 6 = g.1 3 6 ∧ r.1 3 7 = g.1 3 7 ∧ (∀ y, y ≠ 3 → y ≠ 4 → r.1 y = g.1 y) ∧ r.2 = g.2) := by
  obtain ⟨a1, a2, a3, a4, a5, a6, a7, a8, a9, a10⟩ := hP
  unfold f_Pl_addElement
  rw [a1]
  refine ok_neg (le_no (a := 5) hn (by decide)) (ok_pos (inb_cI hn (by decide)) (ok_bd ?_))
  rw [cI_nat (by omega), uI_o _ _ _ (show 3 ≠ 3 + 1 by decide), a1]
  have hpos : ∀ e, e < n + 1 → (uI g (3 + 1) n (cI k)).1 (3 + 1) e = cI (updN pos n k e) ∧ updN pos n k e < 12 := fun e he => by
    by_cases hen : e = n
    · rw [hen, uI_s, updN_s]; exact ⟨rfl, hk⟩
    · rw [uI_k _ _ _ hen, updN_o _ _ hen]; exact a3 e (by omega)
  cases b with
  | false =>
    refine ok_pos rfl (ok_bd (ok_some ?_))
    rw [c_succ]
    exact ⟨⟨uI_s _ _ _ _, by omega, fun e he => by rw [uI_o _ _ _ (by decide)]; exact hpos e he, by rw [uI_k _ _ _ (by decide), uI_o _ _ _ (by decide)]; exact a4, a5, by rw [uI_k _ _ _ (by decide), uI_o _ _ _ (by decide)]; exact a6, a7, by rw [uI_k _ _ _ (by decide), uI_o _ _ _ (by decide)]; exact a8, a9, fun i hi => by rw [uI_o _ _ _ (by decide), uI_o _ _ _ (by decide)]; exact a10 i hi⟩, by rw [uI_k _ _ _ (by decide), uI_o _ _ _ (by decide)], by rw [uI_k _ _ _ (by decide), uI_o _ _ _ (by decide)], fun y y1 y2 => by rw [uI_o _ _ _ y1, uI_o _ _ _ y2], rfl⟩
  | true =>
    have e5 := or5 br a5 n hn
    refine ok_neg (by decide) (ok_bd (ok_bd (ok_some ?_)))
    rw [a4, e5.1, uI_k _ _ _ (show 2 ≠ 3 by decide), uI_o _ _ _ (show 3 ≠ 3 + 1 by decide), a1, c_succ]
    exact ⟨⟨uI_s _ _ _ _, by omega, fun e he => by rw [uI_o _ _ _ (by decide), uI_o _ _ _ (by decide)]; exact hpos e he, by rw [uI_k _ _ _ (by decide), uI_s]; rfl, e5.2.1, by rw [uI_k _ _ _ (by decide), uI_k _ _ _ (by decide), uI_o _ _ _ (by decide)]; exact a6, a7, by rw [uI_k _ _ _ (by decide), uI_k _ _ _ (by decide), uI_o _ _ _ (by decide)]; exact a8, a9, fun i hi => by rw [uI_o _ _ _ (by decide), uI_o _ _ _ (by decide), uI_o _ _ _ (by decide)]; exact a10 i hi⟩, by rw [uI_k _ _ _ (by decide), uI_k _ _ _ (by decide), uI_o _ _ _ (by decide)], by rw [uI_k _ _ _ (by decide), uI_k _ _ _ (by decide), uI_o _ _ _ (by decide)], fun y y1 y2 => by rw [uI_o _ _ _ y1, uI_o _ _ _ y1, uI_o _ _ _ y2], rfl⟩
theorem pl_addY {g : M2} {n : Nat} {pos : Nat → Nat} {br : Nat} {lk : Option Nat} {ds : List Nat} (hP : PL g 3 n pos br lk ds) {k : Nat} (hk : k < 12) (hl : ds.length < 4) : Ok (f_Pl_addDeaf 3 (cI k) g) (fun r => PL r 3 n pos br lk (ds ++ [k]) ∧ r.1 3 6 = g.1 3 6 ∧ r.1 3 7 = g.1 3 7 ∧ (∀ y, y ≠ 3 → y ≠ 5 → r.1 y = g.1 y) ∧ r.2 = g.2) := by
  have h := pl_addDeaf hP hk hl
  have h2 : Ok (f_Pl_addDeaf 3 (cI k) g) (fun r => r.1 3 6 = g.1 3 6 ∧ r.1 3 7 = g.1 3 7) := by
    unfold f_Pl_addDeaf
    rw [hP.2.2.2.2.2.2.2.1]
    exact ok_neg (le_no (a := 4) hl (by decide)) (ok_pos (inb_cI hl (by decide)) (ok_bd (ok_bd (ok_some ⟨by rw [uI_k _ _ _ (by decide), uI_o _ _ _ (by decide)], by rw [uI_k _ _ _ (by decide), uI_o _ _ _ (by decide)]⟩))))
  obtain ⟨r, e, k1, k2, k3⟩ := h
  obtain ⟨r2, e2, k4⟩ := h2
  rw [e] at e2
  cases e2
  exact ⟨r, e, k1, k4.1, k4.2, k2, k3⟩
/-- the draft has changed alone -/
theorem GC_set {g r : M2} {T : List Nat} {d d2 : Sg} {a : Nat} (h : GC g T d a) (hd : DC r d2) (k : ∀ y, y ≠ 3 → y ≠ 4 → y ≠ 5 → r.1 y = g.1 y) : GC r T d2 a := by
  obtain ⟨h1, h2, h3, h4, h5, h6⟩ := h
  exact ⟨⟨by rw [k 1 (by decide) (by decide) (by decide)]; exact h1.1, fun i hi => by rw [k 2 (by decide) (by decide) (by decide)]; exact h1.2 i hi⟩, by unfold TkC; rw [k 1 (by decide) (by decide) (by decide)]; exact h2, h3, hd, by rw [k 1 (by decide) (by decide) (by decide)]; exact h5, by rw [k 1 (by decide) (by decide) (by decide)]; exact h6⟩
theorem BC_set {g r : M2} {T : List Nat} {c p : Nat} (h : BC g T c p) (k : ∀ y, y ≠ 3 → y ≠ 4 → y ≠ 5 → r.1 y = g.1 y) : BC r T c p := by
  obtain ⟨h1, ⟨a, h2, h3⟩, h4, h5, h6⟩ := h
  exact ⟨⟨by rw [k 1 (by decide) (by decide) (by decide)]; exact h1.1, fun i hi => by rw [k 2 (by decide) (by decide) (by decide)]; exact h1.2 i hi⟩, ⟨a, h2, by unfold TkC; rw [k 1 (by decide) (by decide) (by decide)]; exact h3⟩, by rw [k 1 (by decide) (by decide) (by decide)]; exact h4, by rw [k 1 (by decide) (by decide) (by decide)]; exact h5, h6⟩
theorem re_el {g : M2} {T : List Nat} {d : Sg} {a : Nat} (hT : TT T) (h : GC g T d a) (b : Bool) : Ok (f_Re_readElement (if b then 1 else 0) g) (fun r => LC g r T (lnE T d a b)) := by
  have hP := h.2.2.2.1.1
  unfold f_Re_readElement
  rw [hP.1]
  have hn := hP.2.1
  refine ok_if (fun c => ?_) (fun c => ?_)
  · have c5 : sn d = 5 := (cI_inj (b := 5) (by omega) (by decide)).mp c
    have e1 : lnE T d a b = .inr (3, (tk T a).1) := by unfold lnE; rw [if_pos c5]
    refine ok_bindm (re_bG (c := 3) h (by decide) (by decide)) (fun r hr => ?_)
    unfold j_Re_readElement_8
    refine ok_bindm (re_nB hT hr.1) (fun w hw => ok_binde (re_numB hw.1 _ _) (ok_pos rfl (ok_some ⟨Or.inr ⟨3, _, hw.1, e1⟩, FR3_tr hr.2.1 hw.2⟩)))
  · have c5 : ¬ sn d = 5 := fun e => c (by rw [e]; rfl)
    have e1 : lnE T d a b = numE (tk T (tk T a).2.1) 0 11 (fun v => if hasp d v then .inr (2, (tk T (tk T a).2.1).1) else sgE T (dE d v b) (tk T (tk T a).2.1).2.1) := by unfold lnE; rw [if_neg c5]
    unfold j_Re_readElement_8
    refine ok_bindm (re_nG hT h) (fun r hr => ok_bindm (re_numG (lo := 0) (hi := 11) hr.1 (by decide) (by decide)) (fun p hp => ?_))
    rcases hp with ⟨rfl, p1, p2, p3⟩ | ⟨p1, c, p2, p3, p4⟩
    · refine ok_neg (show ¬ (1 : Int32) = 0 by decide) ?_
      have hP2 := hr.1.2.2.2.1.1
      rw [gc_num hr.1 (by omega)]
      rw [p3] at e1
      refine ok_bindm (pl_elementAt hP2 (k := (tk T (tk T a).2.1).2.2.2) (by omega)) (fun t ht => ?_)
      rcases ht with ⟨t1, t2⟩ | ⟨t1, i, hi, hi2, _⟩
      · have hh : ¬ hasp d (tk T (tk T a).2.1).2.2.2 = true := fun e => by
          obtain ⟨i, hi, hi2⟩ := (hasp_iff _ _).mp e
          exact t2 i hi hi2
        rw [if_neg hh] at e1
        refine ok_pos t1 (ok_bindm (pl_addX hP2 (k := (tk T (tk T a).2.1).2.2.2) (by omega) (by omega) b) (fun w hw => ?_))
        have hG : GC w T (dE d (tk T (tk T a).2.1).2.2.2 b) (tk T a).2.1 := GC_set hr.1 ⟨hw.1, by rw [hw.2.1]; exact hr.1.2.2.2.1.2.1, by rw [hw.2.2.1]; exact hr.1.2.2.2.1.2.2⟩ (fun y y1 y2 y3 => hw.2.2.2.1 y y1 y2)
        refine ok_bindm (re_nG hT hG) (fun z hz => ok_some ⟨Or.inl ⟨_, _, hz.1, e1⟩, FR3_tr hr.2 (FR3_tr ⟨fun y y1 y2 y3 y4 => hw.2.2.2.1 y y2 y3, hw.2.2.2.2⟩ hz.2)⟩)
      · have hh : hasp d (tk T (tk T a).2.1).2.2.2 = true := (hasp_iff _ _).mpr ⟨i, hi, hi2⟩
        rw [if_pos hh] at e1
        refine ok_neg t1 (ok_bindm (re_bG (c := 2) hr.1 (by decide) (by decide)) (fun v hv => ?_))
        rw [hv.2.2.2, gc_num hr.1 (by omega)]
        have hPv := PL_k hP2 (r := v) (fun y y1 y2 => hv.2.2.1 y (by omega))
        refine ok_bindm (pl_addX hPv (k := (tk T (tk T a).2.1).2.2.2) (by omega) (by omega) b) (fun w hw => ok_bindm (re_nB hT (BC_set hv.1 (r := w) (fun y y1 y2 _ => hw.2.2.2.1 y y1 y2))) (fun z hz => ok_some ⟨Or.inr ⟨_, _, hz.1, e1⟩, FR3_tr hr.2 (FR3_tr hv.2.1 (FR3_tr ⟨fun y y1 y2 y3 y4 => hw.2.2.2.1 y y2 y3, hw.2.2.2.2⟩ hz.2))⟩))
    · exact ok_pos p1 (ok_some ⟨Or.inr ⟨c, _, p2, by rw [e1, p4]⟩, FR3_tr hr.2 p3⟩)
theorem re_dB {g : M2} {T : List Nat} {c p : Nat} (h : BC g T c p) : f_Re_expectDirection g = some (0, g) := by
  unfold f_Re_expectDirection
  rw [re_numB h]
  rfl
theorem re_dG {g : M2} {T : List Nat} {d : Sg} {a : Nat} (h : GC g T d a) : Ok (f_Re_expectDirection g) (fun p => (p = (1, g) ∧ (tk T a).2.2.2 ≤ 11 ∧ ∀ K : Nat → Rs, numE (tk T a) 0 11 (fun v => if v ∈ sd d ∨ sl d = some v then .inr (2, (tk T a).1) else K v) = K (tk T a).2.2.2) ∨ (p.1 = 0 ∧ ∃ c, BC p.2 T c (tk T a).1 ∧ FR3 g p.2 ∧ ∀ K : Nat → Rs, numE (tk T a) 0 11 (fun v => if v ∈ sd d ∨ sl d = some v then .inr (2, (tk T a).1) else K v) = .inr (c, (tk T a).1))) := by
  unfold f_Re_expectDirection
  refine ok_bindm (re_numG (lo := 0) (hi := 11) h (by decide) (by decide)) (fun p hp => ?_)
  rcases hp with ⟨rfl, p1, p2, p3⟩ | ⟨p1, c, p2, p3, p4⟩
  · have hP := h.2.2.2.1.1
    refine ok_neg (show ¬ (1 : Int32) = 0 by decide) (ok_binde (pl_wishBits hP) ?_)
    have hds : ∀ x ∈ sd d, x < 12 := fun x hx => by
      obtain ⟨i, hi, rfl⟩ := List.getElem_of_mem hx
      have := (hP.2.2.2.2.2.2.2.2.2 i hi).2
      rw [List.getD_eq_getElem?_getD, List.getElem?_eq_getElem hi] at this
      exact this
    rw [gc_num h (by omega), tb12 (wb_lt hds hP.2.2.2.2.2.2.1) (by omega), wb_bit]
    refine ok_grd rfl (fun c => ok_pos h.2.2.2.2.1 (ok_some (Or.inl ⟨rfl, p2, fun K => ?_⟩))) (fun c => ok_bindm (re_bG (c := 2) h (by decide) (by decide)) (fun v hv => ok_neg (bc_no hv.1) (ok_some (Or.inr ⟨rfl, 2, hv.1, hv.2.1, fun K => ?_⟩))))
    · rw [p3, if_neg (fun e => c (decide_eq_true e))]
    · rw [p3, if_pos (of_decide_eq_true c)]
  · exact ok_pos p1 (ok_some (Or.inr ⟨rfl, c, p2, p3, fun K => p4 _⟩))
theorem re_lk {g : M2} {T : List Nat} {d : Sg} {a : Nat} (hT : TT T) (h : GC g T d a) : Ok (f_Re_readLook g) (fun r => LC g r T (lnK T d a)) := by
  have hP := h.2.2.2.1.1
  unfold f_Re_readLook
  rw [hP.2.2.2.2.2.1]
  have hlk : lkI (sl d) = (-1 : Int32) ↔ ¬ (sl d).isSome = true := by
    cases hs : sl d with
    | none => exact ⟨fun _ => by decide, fun _ => rfl⟩
    | some k =>
      have key : ∀ k : Nat, k < 12 → ¬ (cI k = (-1 : Int32)) := by decide +kernel
      exact ⟨fun e => absurd e (key k (hP.2.2.2.2.2.2.1 k hs)), fun e => absurd rfl e⟩
  refine ok_if (fun c => ?_) (fun c => ?_)
  · have c1 := hlk.mp c
    have e1 : lnK T d a = numE (tk T (tk T a).2.1) 0 11 (fun v => if v ∈ sd d ∨ sl d = some v then .inr (2, (tk T (tk T a).2.1).1) else sgE T (dK d v) (tk T (tk T a).2.1).2.1) := by unfold lnK; rw [if_neg c1]
    unfold j_Re_readLook_8
    refine ok_bindm (re_nG hT h) (fun r hr => ok_bindm (re_dG hr.1) (fun p hp => ?_))
    rcases hp with ⟨rfl, p2, p3⟩ | ⟨p1, c, p2, p3, p4⟩
    · refine ok_neg (show ¬ (1 : Int32) = 0 by decide) (ok_bd ?_)
      rw [gc_num hr.1 (by omega)]
      obtain ⟨⟨a1, a2, a3, a4, a5, a6, a7, a8, a9, a10⟩, b1, b2⟩ := hr.1.2.2.2.1
      have hG : GC (uI r 3 4 (cI (tk T (tk T a).2.1).2.2.2)) T (dK d (tk T (tk T a).2.1).2.2.2) (tk T a).2.1 := GC_set hr.1 ⟨⟨by rw [uI_k _ _ _ (by decide)]; exact a1, a2, fun i hi => by rw [uI_o _ _ _ (by decide)]; exact a3 i hi, by rw [uI_k _ _ _ (by decide)]; exact a4, a5, by rw [uI_s]; rfl, fun k hk => by cases hk; omega, by rw [uI_k _ _ _ (by decide)]; exact a8, a9, fun i hi => by rw [uI_o _ _ _ (by decide)]; exact a10 i hi⟩, by rw [uI_k _ _ _ (by decide)]; exact b1, by rw [uI_k _ _ _ (by decide)]; exact b2⟩ (fun y y1 y2 y3 => uI_o _ _ _ y1)
      exact ok_bindm (re_nG hT hG) (fun z hz => ok_some ⟨Or.inl ⟨_, _, hz.1, by rw [e1, p3]⟩, FR3_tr hr.2 (FR3_tr (FR3_u r (by omega) _ _) hz.2)⟩)
    · exact ok_pos p1 (ok_some ⟨Or.inr ⟨c, _, p2, by rw [e1, p4]⟩, FR3_tr hr.2 p3⟩)
  · have c1 : (sl d).isSome = true := Classical.byContradiction (fun n => c (hlk.mpr n))
    have e1 : lnK T d a = .inr (3, (tk T a).1) := by unfold lnK; rw [if_pos c1]
    refine ok_bindm (re_bG (c := 3) h (by decide) (by decide)) (fun r hr => ?_)
    unfold j_Re_readLook_8
    refine ok_bindm (re_nB hT hr.1) (fun w hw => ok_binde (re_dB hw.1) (ok_pos rfl (ok_some ⟨Or.inr ⟨3, _, hw.1, e1⟩, FR3_tr hr.2.1 hw.2⟩)))
theorem re_df {g : M2} {T : List Nat} {d : Sg} {a : Nat} (hT : TT T) (h : GC g T d a) : Ok (f_Re_readDeaf g) (fun r => LC g r T (lnD T d a)) := by
  have hP := h.2.2.2.1.1
  have hd4 := hP.2.2.2.2.2.2.2.2.1
  unfold f_Re_readDeaf
  rw [hP.2.2.2.2.2.2.2.1]
  refine ok_if (fun c => ?_) (fun c => ?_)
  · have c5 : (sd d).length = 4 := (cI_inj (b := 4) (by omega) (by decide)).mp c
    have e1 : lnD T d a = .inr (3, (tk T a).1) := by unfold lnD; rw [if_pos c5]
    refine ok_bindm (re_bG (c := 3) h (by decide) (by decide)) (fun r hr => ?_)
    unfold j_Re_readDeaf_8
    refine ok_bindm (re_nB hT hr.1) (fun w hw => ok_binde (re_dB hw.1) (ok_pos rfl (ok_some ⟨Or.inr ⟨3, _, hw.1, e1⟩, FR3_tr hr.2.1 hw.2⟩)))
  · have c5 : ¬ (sd d).length = 4 := fun e => c (by rw [e]; rfl)
    have e1 : lnD T d a = numE (tk T (tk T a).2.1) 0 11 (fun v => if v ∈ sd d ∨ sl d = some v then .inr (2, (tk T (tk T a).2.1).1) else sgE T (dD d v) (tk T (tk T a).2.1).2.1) := by unfold lnD; rw [if_neg c5]
    unfold j_Re_readDeaf_8
    refine ok_bindm (re_nG hT h) (fun r hr => ok_bindm (re_dG hr.1) (fun p hp => ?_))
    rcases hp with ⟨rfl, p2, p3⟩ | ⟨p1, c, p2, p3, p4⟩
    · refine ok_neg (show ¬ (1 : Int32) = 0 by decide) ?_
      rw [gc_num hr.1 (by omega)]
      refine ok_bindm (pl_addY hr.1.2.2.2.1.1 (k := (tk T (tk T a).2.1).2.2.2) (by omega) (by omega)) (fun w hw => ?_)
      have hG : GC w T (dD d (tk T (tk T a).2.1).2.2.2) (tk T a).2.1 := GC_set hr.1 ⟨hw.1, by rw [hw.2.1]; exact hr.1.2.2.2.1.2.1, by rw [hw.2.2.1]; exact hr.1.2.2.2.1.2.2⟩ (fun y y1 y2 y3 => hw.2.2.2.1 y y1 y3)
      exact ok_bindm (re_nG hT hG) (fun z hz => ok_some ⟨Or.inl ⟨_, _, hz.1, by rw [e1, p3]⟩, FR3_tr hr.2 (FR3_tr ⟨fun y y1 y2 y3 y4 => hw.2.2.2.1 y y2 y4, hw.2.2.2.2⟩ hz.2)⟩)
    · exact ok_pos p1 (ok_some ⟨Or.inr ⟨c, _, p2, by rw [e1, p4]⟩, FR3_tr hr.2 p3⟩)
theorem re_ln {g : M2} {T : List Nat} {d : Sg} {a : Nat} (hT : TT T) (h : GC g T d a) (hL : ¬ sL d = 0) : Ok (f_Re_readLine g) (fun r => LC g r T (lnX T d a)) := by
  have ht := tk_in h.2.2.1
  have wd : ∀ {p : Nat}, Wok p → Ok (f_Re_isWord p g) (fun v => v = if Isw T (tk T a) (mm_tx p) then 1 else 0) := fun hp => re_word h.1 hT.1 hT.2 h.2.1 ht.2.1 ht.2.2.1 ht.2.2.2.1 hp
  unfold f_Re_readLine lnX
  rw [if_neg hL]
  refine ok_bindm (wd wok5) (fun v5 h5 => ok_grd h5 (fun c5 => ?_) (fun c5 => ?_))
  · rw [if_neg c5]
    refine ok_bindm (wd wok6) (fun v6 h6 => ok_grd h6 (fun c6 => ?_) (fun c6 => ?_))
    · rw [if_neg c6]
      refine ok_bindm (wd wok7) (fun v7 h7 => ok_grd h7 (fun c7 => ?_) (fun c7 => ?_))
      · rw [if_neg c7]
        refine ok_bindm (wd wok8) (fun v8 h8 => ok_grd h8 (fun c8 => ?_) (fun c8 => ?_))
        · rw [if_neg c8]
          exact ok_bindm (re_bG (c := 1) h (by decide) (by decide)) (fun r hr => ok_some ⟨Or.inr ⟨_, _, hr.1, rfl⟩, hr.2.1⟩)
        · rw [if_pos c8]
          exact ok_bindm (re_df hT h) (fun r hr => ok_some hr)
      · rw [if_pos c7]
        exact ok_bindm (re_lk hT h) (fun r hr => ok_some hr)
    · rw [if_pos c6]
      refine ok_bindm (wd wok6) (fun v hv => ?_)
      rw [if_pos c6] at hv
      rw [hv]
      exact ok_bindm (re_el hT h true) (fun r hr => ok_some hr)
  · rw [if_pos c5]
    have c6 : ¬ Isw T (tk T a) (mm_tx 1006) := fun e => by
      have h1 := c5.2.1
      have h2 := e.2.1
      rw [h1] at h2
      exact absurd h2 (by decide)
    refine ok_bindm (wd wok6) (fun v hv => ?_)
    rw [if_neg c6] at hv
    rw [hv]
    exact ok_bindm (re_el hT h false) (fun r hr => ok_some hr)
