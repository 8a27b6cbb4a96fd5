theorem mo_wTold {g : M2} {T : List Nat} {d : Sg} {a : Nat} (h : GM g T d a) (c2 : (tk T a).2.2.1 = 2) : Ok (f_Mo_wasTold g) (fun v => v = if (tk T a).2.2.2 ∈ sd d ∨ sl d = some (tk T a).2.2.2 then 1 else 0) := by
  obtain ⟨b1, b2, b3, b4, b5, b6, b7, b8, b9⟩ := h.2.2.2.1
  have e27 := h.2.1.2.2.2 c2
  have n4 := b9.2.2.2.1
  generalize (tk T a).2.2.2 = V at *
  unfold f_Mo_wasTold
  rw [b5, e27, c_succ]
  have hlm : lkM (sl d) ≤ 12 := by
    cases hs : sl d with
    | none => show 0 ≤ 12; omega
    | some k => have := b9.2.2.1 k hs; show k + 1 ≤ 12; omega
  refine ok_if (fun c => ?_) (fun c => ?_)
  · rw [cI_inj (by omega) (by omega)] at c
    refine ok_some ?_
    cases hs : sl d with
    | none => rw [hs] at c; cases c
    | some k =>
      rw [hs] at c
      have hk := b9.2.2.1 k hs
      have c' : k + 1 = min 99999 V + 1 := c
      rw [if_pos (Or.inr (by rw [show V = k by omega]))]
  · rw [cI_inj (by omega) (by omega)] at c
    have hns : ¬ sl d = some V := fun e => by
      have hk := b9.2.2.1 V e
      rw [e] at c
      exact c (show V + 1 = min 99999 V + 1 by omega)
    refine ok_bindm (Q := fun u => Sum.elim (fun _ => ¬ V ∈ sd d) (fun v => v = 1 ∧ V ∈ sd d) u) ?_ (fun u hu => ?_)
    · refine ok_lp (fun j s => s = cI j ∧ ∀ i, i < j → (sd d).getD i 0 ≠ V) (sd d).length 5000 0 _ (by omega) (by omega) ⟨rfl, fun i hi => absurd hi (by omega)⟩ ?_
      rintro j s hj ⟨rfl, hm⟩
      show Ok (b_Mo_wasTold_13 (cI j) g) _
      unfold b_Mo_wasTold_13
      have e14 : (14 : Int32) + cI j = cI (14 + j) := by rw [show (14 : Int32) = cI 14 from rfl, cI_add]
      rw [b6, e14, e27]
      by_cases hj2 : j = (sd d).length
      · refine ok_pos (le_yes (by omega) (by omega)) (ok_some (fun hV => ?_))
        obtain ⟨i, hi, e⟩ := List.getElem_of_mem hV
        refine hm i (by omega) ?_
        rw [List.getD_eq_getElem?_getD, List.getElem?_eq_getElem hi]
        exact e
      · have hj' : j < (sd d).length := by omega
        have hd12 := b9.2.2.2.2.1 _ (getD_mem hj')
        refine ok_neg (le_no hj' (by omega)) (ok_pos (inb_cI (by omega) (by decide)) ?_)
        rw [cI_nat (by omega), b7 j hj']
        refine ok_if (fun c3 => ok_some ⟨rfl, ?_⟩) (fun c3 => ok_some ⟨hj', c_succ j, fun i hi => ?_⟩)
        · rw [cI_inj (by omega) (by omega)] at c3
          rw [show V = (sd d).getD j 0 by omega]
          exact getD_mem hj'
        · rw [cI_inj (by omega) (by omega)] at c3
          by_cases hij : i = j
          · rw [hij]; omega
          · exact hm i (by omega)
    · cases u with
      | inl u => exact ok_some (by rw [if_neg (fun e => e.elim hu hns)])
      | inr u => exact ok_some (by rw [if_pos (Or.inl hu.2)]; exact hu.1)
abbrev dirR (T : List Nat) (d : Sg) (a : Nat) (b : Bool) : Rs := numE (tk T a) 0 11 (fun v => if v ∈ sd d ∨ sl d = some v then .inr (2, (tk T a).1) else sgE T (if b then dK d v else dD d v) (tk T a).2.1)
theorem mo_35B {g : M2} {c p : Nat} (h : BM g c p) (v : Int32) : j_Mo_readDirection_35 v g = some g := by
  unfold j_Mo_readDirection_35
  rw [mo_tB h]
  show (if f_Mo_good g = 0 then some g else _) = _
  rw [if_pos (bm_g h)]
theorem mo_35G {g : M2} {T : List Nat} {d : Sg} {a : Nat} (hT : TT T) (h : GM g T d a) (b : Bool) (hb : b = false → (sd d).length < 4) (ho : (tk T a).2.2.1 = 2 → ¬ ((tk T a).2.2.2 ∈ sd d ∨ sl d = some (tk T a).2.2.2)) : Ok (j_Mo_readDirection_35 (if b then 1 else 0) g) (fun r => LX g r T (dirR T d a b)) := by
  unfold j_Mo_readDirection_35
  refine ok_bindm (mo_tG (lo := 0) (hi := 11) hT h (by decide) (by decide)) (fun p hp => ?_)
  obtain ⟨⟨p1, p2, p3, p4, p5⟩ | ⟨p1, c, p2, p3⟩, f3⟩ := hp
  · obtain ⟨b1, b2, b3, b4, b5, b6, b7, b8, b9⟩ := p2.2.2.2.1
    have n5 := b9.1
    have n4 := b9.2.2.2.1
    have hk2 : (tk T a).2.2.1 = 2 := Classical.byContradiction (fun n => by
      have := p5 (fun _ => .inl (d, 0))
      unfold numE at this
      rw [if_neg n] at this
      cases this)
    have e1 : dirR T d a b = sgE T (if b then dK d (tk T a).2.2.2 else dD d (tk T a).2.2.2) (tk T a).2.1 := by
      unfold dirR
      rw [p5, if_neg (ho hk2)]
    refine ok_neg (gm_g p2) ?_
    cases b with
    | false =>
      have hl := hb rfl
      have e14 : (14 : Int32) + cI (sd d).length = cI (14 + (sd d).length) := by rw [show (14 : Int32) = cI 14 from rfl, cI_add]
      rw [b6, e14]
      refine ok_pos rfl (ok_pos (inb_cI (by omega) (by decide)) (ok_bd (ok_bd (ok_some ⟨Or.inl ⟨_, _, ?_, e1⟩, F6_tr f3 (F6_tr (F6_w _ _ _) (F6_w _ _ _))⟩))))
      rw [cI_nat (by omega), uI_k _ _ _ (show 13 ≠ 14 + (sd d).length by omega), b6, c_succ]
      have hl2 : (sd d ++ [(tk T a).2.2.2]).length = (sd d).length + 1 := by simp
      refine GM_w p2 (d2 := dD d (tk T a).2.2.2) ⟨?_, ?_, fun e he => ?_, fun e he => ?_, ?_, ?_, fun i hi => ?_, ?_, ?_⟩ (fun y hy => by rw [uI_o _ _ _ hy, uI_o _ _ _ hy])
      · rw [uI_k _ _ _ (by omega), uI_k _ _ _ (by omega)]; exact b1
      · rw [uI_k _ _ _ (by omega), uI_k _ _ _ (by omega)]; exact b2
      · have he2 : e < sn d := he
        rw [uI_k _ _ _ (by omega), uI_k _ _ _ (by omega)]; exact b3 e he
      · have he2 : e < sn d := he
        rw [uI_k _ _ _ (by omega), uI_k _ _ _ (by omega)]; exact b4 e he
      · rw [uI_k _ _ _ (by omega), uI_k _ _ _ (by omega)]; exact b5
      · rw [uI_s]; show _ = cI (sd d ++ [(tk T a).2.2.2]).length; rw [hl2]
      · have hi2 : i < (sd d ++ [(tk T a).2.2.2]).length := hi
        rw [hl2] at hi2
        rw [uI_k _ _ _ (by omega)]
        show _ = cI ((sd d ++ [(tk T a).2.2.2]).getD i 0)
        by_cases hil : i = (sd d).length
        · rw [hil, uI_s, List.getD_eq_getElem?_getD, List.getElem?_append_right (Nat.le_refl _), Nat.sub_self]; exact p1
        · rw [uI_k _ _ _ (by omega), b7 i (by omega), List.getD_eq_getElem?_getD, List.getD_eq_getElem?_getD, List.getElem?_append_left (by omega)]
      · rw [uI_k _ _ _ (by omega), uI_k _ _ _ (by omega)]; exact b8
      · refine ⟨b9.1, b9.2.1, b9.2.2.1, by show (sd d ++ [(tk T a).2.2.2]).length ≤ 4; omega, fun k hk => ?_, b9.2.2.2.2.2⟩
        rcases List.mem_append.mp hk with hm | hm
        · exact b9.2.2.2.2.1 k hm
        · rw [List.mem_singleton.mp hm]; omega
    | true =>
      refine ok_neg (by decide) (ok_bd (ok_some ⟨Or.inl ⟨_, _, ?_, e1⟩, F6_tr f3 (F6_w _ _ _)⟩))
      rw [p1, c_succ]
      refine GM_w p2 (d2 := dK d (tk T a).2.2.2) ⟨?_, ?_, fun e he => ?_, fun e he => ?_, ?_, ?_, fun i hi => ?_, ?_, ?_⟩ (fun y hy => by rw [uI_o _ _ _ hy])
      · rw [uI_k _ _ _ (by omega)]; exact b1
      · rw [uI_k _ _ _ (by omega)]; exact b2
      · have he2 : e < sn d := he
        rw [uI_k _ _ _ (by omega)]; exact b3 e he
      · have he2 : e < sn d := he
        rw [uI_k _ _ _ (by omega)]; exact b4 e he
      · rw [uI_s]; rfl
      · rw [uI_k _ _ _ (by omega)]; exact b6
      · rw [uI_k _ _ _ (by omega)]; exact b7 i hi
      · rw [uI_k _ _ _ (by omega)]; exact b8
      · exact ⟨b9.1, b9.2.1, fun k hk => by (cases hk; omega), b9.2.2.2⟩
  · exact ok_pos (bm_g p2) (ok_some ⟨Or.inr ⟨c, _, p2, p3 _⟩, f3⟩)
theorem mo_17G {g : M2} {T : List Nat} {d : Sg} {a : Nat} (hT : TT T) (h : GM g T d a) (b : Bool) (hb : b = false → (sd d).length < 4) : Ok (j_Mo_readDirection_17 (if b then 1 else 0) g) (fun r => LX g r T (dirR T d (tk T a).2.1 b)) := by
  unfold j_Mo_readDirection_17
  refine ok_neg (gm_g h) (ok_bindm (mo_aG hT h) (fun r hr => ?_))
  have ht := tk_in hr.1.2.2.1
  unfold j_Mo_readDirection_22
  rw [hr.1.2.1.2.2.1]
  have fx : ∀ {z : M2}, LX r z T (dirR T d (tk T a).2.1 b) → LX g z T (dirR T d (tk T a).2.1 b) := fun hz => ⟨hz.1, F6_tr hr.2 hz.2⟩
  refine ok_neg (gm_g hr.1) (ok_if (fun c => ?_) (fun c => ok_mono (mo_35G hT hr.1 b hb (fun e => absurd (by rw [e]; rfl) c)) (fun z hz => fx hz)))
  have c1 : (tk T (tk T a).2.1).2.2.1 = 2 := (cI_inj (b := 2) (by omega) (by decide)).mp c
  refine ok_bindm (mo_wTold hr.1 c1) (fun v hv => ok_grd hv (fun c3 => ok_mono (mo_35G hT hr.1 b hb (fun _ => c3)) (fun z hz => fx hz)) (fun c3 => ok_bindm (mo_eG (c := 2) hr.1 (by decide) (by decide)) (fun w hw => ?_)))
  rw [mo_35B hw.1]
  refine ok_some ⟨Or.inr ⟨2, _, hw.1, ?_⟩, F6_tr hr.2 hw.2⟩
  unfold dirR numE
  rw [if_pos c1]
  split
  · show (if (tk T (tk T a).2.1).2.2.2 ∈ sd d ∨ sl d = some (tk T (tk T a).2.1).2.2.2 then _ else _) = _
    rw [if_pos c3]
  · rfl
theorem mo_14G {g : M2} {T : List Nat} {d : Sg} {a : Nat} (h : GM g T d a) (v : Int32) : Ok (j_Mo_readDirection_14 v g) (fun r => LX g r T (.inr (3, (tk T a).1))) := by
  unfold j_Mo_readDirection_14
  refine ok_bindm (mo_eG (c := 3) h (by decide) (by decide)) (fun r hr => ?_)
  unfold j_Mo_readDirection_17 j_Mo_readDirection_22
  rw [if_pos (bm_g hr.1), if_pos (bm_g hr.1), mo_35B hr.1]
  exact ok_some ⟨Or.inr ⟨3, _, hr.1, rfl⟩, hr.2⟩
