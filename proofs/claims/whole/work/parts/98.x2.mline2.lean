theorem mo_l1 {g : M2} {T : List Nat} {d : Sg} {a : Nat} (hT : TT T) (h : GM g T d a) : Ok ((f_Mo_expects 1003 g).bind fun q22 => ((f_Mo_expects 1004 q22).bind fun q23 => ((f_Mo_takes (1 : Int32) (99 : Int32) q23).bind fun q24 => (bd (uI q24.2 161 0 q24.1) fun g25 => (j_Mo_readLine_55 g25))))) (fun r => OM r T (ln1 T d a) ∧ F6 g r) := by
  refine ok_bindm (mo_xG hT h wok3) (fun r hr => ?_)
  obtain ⟨hr1 | hr1, f1⟩ := hr
  · refine ok_bindm (mo_xG hT hr1.2 wok4) (fun w hw => ?_)
    obtain ⟨hw1 | hw1, f2⟩ := hw
    · have e1 : ln1 T d a = numE (tk T (tk T (tk T a).2.1).2.1) 1 99 (fun v => sgE T (dSt d v) (tk T (tk T (tk T a).2.1).2.1).2.1) := by
        unfold ln1
        rw [if_pos hr1.1, if_pos hw1.1]
      refine ok_bindm (mo_tG (lo := 1) (hi := 99) hT hw1.2 (by decide) (by decide)) (fun p hp => ok_bd ?_)
      obtain ⟨⟨p1, p2, p3, p4, p5⟩ | ⟨p1, c, p2, p3⟩, f3⟩ := hp
      · refine mo_sX hT ⟨Or.inl ⟨dSt d (tk T (tk T (tk T a).2.1).2.1).2.2.2, _, ?_, by rw [e1, p5]⟩, F6_tr f1 (F6_tr f2 (F6_tr f3 (F6_w _ _ _)))⟩
        obtain ⟨b1, b2, b3, b4, b5, b6, b7, b8, b9⟩ := p2.2.2.2.1
        exact GM_w p2 ⟨by rw [uI_s]; exact p1, by rw [uI_k _ _ _ (by decide)]; exact b2, fun e he => by rw [uI_k _ _ _ (by omega)]; exact b3 e he, fun e he => by rw [uI_k _ _ _ (by omega)]; exact b4 e he, by rw [uI_k _ _ _ (by decide)]; exact b5, by rw [uI_k _ _ _ (by decide)]; exact b6, fun i hi => by rw [uI_k _ _ _ (by omega)]; exact b7 i hi, by rw [uI_k _ _ _ (by decide)]; exact b8, b9⟩ (fun y hy => uI_o _ _ _ hy)
      · exact mo_sX hT ⟨Or.inr ⟨c, _, BM_w p2 _ _, by rw [e1, p3]⟩, F6_tr f1 (F6_tr f2 (F6_tr f3 (F6_w _ _ _)))⟩
    · have e1 : ln1 T d a = .inr (1, (tk T (tk T a).2.1).1) := by
        unfold ln1
        rw [if_pos hr1.1, if_neg hw1.1]
      exact ok_binde (mo_tB hw1.2 _ _) (ok_bd (mo_sX hT ⟨Or.inr ⟨1, _, BM_w hw1.2 _ _, e1⟩, F6_tr f1 (F6_tr f2 (F6_w _ _ _))⟩))
  · have e1 : ln1 T d a = .inr (1, (tk T a).1) := by
      unfold ln1
      rw [if_neg hr1.1]
    exact ok_binde (mo_xB hr1.2 _) (ok_binde (mo_tB hr1.2 _ _) (ok_bd (mo_sX hT ⟨Or.inr ⟨1, _, BM_w hr1.2 _ _, e1⟩, F6_tr f1 (F6_w _ _ _)⟩)))
theorem mo_el16B {g : M2} {c p : Nat} (h : BM g c p) (v : Int32) : Ok (j_Mo_readElement_16 v (cI 5) g) (fun r => r = g) := by
  unfold j_Mo_readElement_16
  refine ok_bindm (Q := fun r => r = g) ?_ (fun r hr => ?_)
  · refine ok_for 5 (by decide) (fun j z => z = g) rfl ?_ ?_
    · rintro j z hj rfl
      show Ok (b_Mo_readElement_18 v (cI 5) (cI j) z) _
      unfold b_Mo_readElement_18
      exact ok_neg (le_no (a := 5) hj (by decide)) (ok_pos (bm_g h) (ok_some ⟨c_succ j, rfl⟩))
    · rintro z rfl
      show Ok (b_Mo_readElement_18 v (cI 5) (cI 5) z) _
      unfold b_Mo_readElement_18
      exact ok_pos (le_yes (a := 5) (Nat.le_refl _) (by decide)) (ok_some rfl)
  · subst hr
    exact ok_binde (mo_tB h _ _) (ok_pos (bm_g h) (ok_some rfl))
theorem mo_el {g : M2} {T : List Nat} {d : Sg} {a : Nat} (hT : TT T) (h : GM g T d a) (b : Bool) : Ok (f_Mo_readElement (if b then 1 else 0) g) (fun r => LX g r T (lnE T d a b)) := by
  have hD := h.2.2.2.1.2.2.2.2.2.2.2.2
  have hn := hD.1
  unfold f_Mo_readElement
  rw [h.2.2.2.1.2.1]
  refine ok_if (fun c => ?_) (fun c => ?_)
  · have c5 : sn d = 5 := (cI_inj (b := 5) (by omega) (by decide)).mp c
    have e1 : lnE T d a b = .inr (3, (tk T a).1) := by unfold lnE; rw [if_pos c5]
    refine ok_bindm (mo_eG (c := 3) h (by decide) (by decide)) (fun r hr => ?_)
    unfold j_Mo_readElement_11
    refine ok_pos (bm_g hr.1) ?_
    rw [c5]
    refine ok_mono (mo_el16B hr.1 _) (fun z hz => ?_)
    rw [hz]
    exact ⟨Or.inr ⟨3, _, hr.1, e1⟩, hr.2⟩
  · have c5 : ¬ sn d = 5 := fun e => c (by rw [e]; rfl)
    have e1 : lnE T d a b = numE (tk T (tk T a).2.1) 0 11 (fun v => if hasp d v then .inr (2, (tk T (tk T a).2.1).1) else sgE T (dE d v b) (tk T (tk T a).2.1).2.1) := by unfold lnE; rw [if_neg c5]
    unfold j_Mo_readElement_11
    refine ok_neg (gm_g h) (ok_bindm (mo_aG hT h) (fun r hr => ?_))
    obtain ⟨hG, f1⟩ := hr
    have ht := tk_in hG.2.2.1
    unfold j_Mo_readElement_16
    refine ok_bindm (Q := fun z => (z = r ∧ ((tk T (tk T a).2.1).2.2.1 = 2 → ¬ hasp d (tk T (tk T a).2.1).2.2.2 = true)) ∨ (BM z 2 (tk T (tk T a).2.1).1 ∧ F6 r z ∧ (tk T (tk T a).2.1).2.2.1 = 2 ∧ hasp d (tk T (tk T a).2.1).2.2.2 = true)) ?_ (fun z hz => ?_)
    · refine ok_for (sn d) (by omega) (fun j z => (z = r ∧ ((tk T (tk T a).2.1).2.2.1 = 2 → ∀ e, e < j → sp d e ≠ (tk T (tk T a).2.1).2.2.2)) ∨ (BM z 2 (tk T (tk T a).2.1).1 ∧ F6 r z ∧ (tk T (tk T a).2.1).2.2.1 = 2 ∧ hasp d (tk T (tk T a).2.1).2.2.2 = true)) (Or.inl ⟨rfl, fun _ e he => absurd he (by omega)⟩) ?_ ?_
      · rintro j z hj hz
        show Ok (b_Mo_readElement_18 (if b then 1 else 0) (cI (sn d)) (cI j) z) _
        unfold b_Mo_readElement_18
        refine ok_neg (le_no hj (by omega)) ?_
        rcases hz with ⟨rfl, hz⟩ | ⟨z1, z2, z3, z4⟩
        · rw [hG.2.1.2.2.1]
          have e2 : (2 : Int32) + cI j = cI (2 + j) := by rw [show (2 : Int32) = cI 2 from rfl, cI_add]
          refine ok_neg (gm_g hG) (ok_if (fun c2 => ?_) (fun c2 => ok_some ⟨c_succ j, Or.inl ⟨rfl, fun e => absurd (by rw [e]; rfl) c2⟩⟩))
          have c3 : (tk T (tk T a).2.1).2.2.1 = 2 := (cI_inj (b := 2) (by omega) (by decide)).mp c2
          have hpj := hD.2.1 j hj
          rw [e2, hG.2.1.2.2.2 c3]
          refine ok_pos (inb_cI (by omega) (by decide)) ?_
          rw [cI_nat (by omega), hG.2.2.2.1.2.2.1 j hj]
          refine (ok_if (fun c4 => ?_) (fun c4 => ok_some ⟨c_succ j, Or.inl ⟨rfl, fun e i hi => ?_⟩⟩))
          · rw [cI_inj (by omega) (by omega)] at c4
            exact ok_bindm (mo_eG (c := 2) hG (by decide) (by decide)) (fun w hw => ok_some ⟨c_succ j, Or.inr ⟨hw.1, hw.2, c3, (hasp_iff _ _).mpr ⟨j, hj, by omega⟩⟩⟩)
          · rw [cI_inj (by omega) (by omega)] at c4
            by_cases hij : i = j
            · rw [hij]; omega
            · exact hz e i (by omega)
        · exact ok_pos (bm_g z1) (ok_some ⟨c_succ j, Or.inr ⟨z1, z2, z3, z4⟩⟩)
      · rintro z hz
        show Ok (b_Mo_readElement_18 (if b then 1 else 0) (cI (sn d)) (cI (sn d)) z) _
        unfold b_Mo_readElement_18
        refine ok_pos (le_yes (Nat.le_refl _) (by omega)) (ok_some ?_)
        rcases hz with ⟨z1, z2⟩ | hz
        · refine Or.inl ⟨z1, fun e hh => ?_⟩
          obtain ⟨i, hi, hi2⟩ := (hasp_iff _ _).mp hh
          exact z2 e i hi hi2
        · exact Or.inr hz
    · rcases hz with ⟨rfl, hz⟩ | ⟨z1, z2, z3, z4⟩
      · refine ok_bindm (mo_tG (lo := 0) (hi := 11) hT hG (by decide) (by decide)) (fun p hp => ?_)
        obtain ⟨⟨p1, p2, p3, p4, p5⟩ | ⟨p1, c, p2, p3⟩, f3⟩ := hp
        · obtain ⟨b1, b2, b3, b4, b5, b6, b7, b8, b9⟩ := p2.2.2.2.1
          have hk2 : (tk T (tk T a).2.1).2.2.1 = 2 := Classical.byContradiction (fun n => by
            have := p5 (fun _ => .inl (d, 0))
            unfold numE at this
            rw [if_neg n] at this
            cases this)
          rw [p5, if_neg (hz hk2)] at e1
          have e2 : (2 : Int32) + cI (sn d) = cI (2 + sn d) := by rw [show (2 : Int32) = cI 2 from rfl, cI_add]
          have e7 : (7 : Int32) + cI (sn d) = cI (7 + sn d) := by rw [show (7 : Int32) = cI 7 from rfl, cI_add]
          rw [e2, e7]
          refine ok_neg (gm_g p2) (ok_pos (inb_cI (by omega) (by decide)) (ok_bd (ok_pos (inb_cI (by omega) (by decide)) (ok_bd (ok_bd (ok_some ⟨Or.inl ⟨dE d (tk T (tk T a).2.1).2.2.2 b, _, ?_, e1⟩, F6_tr f1 (F6_tr f3 (F6_tr (F6_w _ _ _) (F6_tr (F6_w _ _ _) (F6_w _ _ _))))⟩))))))
          rw [cI_nat (by omega), cI_nat (by omega), uI_k _ _ _ (show 1 ≠ 7 + sn d by omega), uI_k _ _ _ (show 1 ≠ 2 + sn d by omega), b2, c_succ]
          refine GM_w p2 ⟨?_, uI_s _ _ _ _, fun e he => ?_, fun e he => ?_, ?_, ?_, fun i hi => ?_, ?_, ?_⟩ (fun y hy => by rw [uI_o _ _ _ hy, uI_o _ _ _ hy, uI_o _ _ _ hy])
          · rw [uI_k _ _ _ (by omega), uI_k _ _ _ (by omega), uI_k _ _ _ (by omega)]; exact b1
          · have he2 : e < sn d + 1 := he
            rw [uI_k _ _ _ (by omega), uI_k _ _ _ (by omega)]
            show _ = cI (updN (sp d) (sn d) _ e)
            by_cases hen : e = sn d
            · rw [hen, uI_s, updN_s]; exact p1
            · rw [uI_k _ _ _ (by omega), updN_o _ _ hen]; exact b3 e (by omega)
          · have he2 : e < sn d + 1 := he
            rw [uI_k _ _ _ (by omega)]
            show _ = if (if b then sb d ||| 2 ^ sn d else sb d).testBit e then 1 else 0
            have hsb := hD.2.2.2.2.2
            have htb : (sb d).testBit (sn d) = false := Nat.testBit_lt_two_pow hsb
            by_cases hen : e = sn d
            · rw [hen, uI_s]
              cases b with
              | false => show (0 : Int32) = if (sb d).testBit (sn d) then 1 else 0; rw [htb]; rfl
              | true => show (1 : Int32) = if (sb d ||| 2 ^ sn d).testBit (sn d) then 1 else 0; rw [Nat.testBit_or, Nat.testBit_two_pow_self, Bool.or_true]; rfl
            · rw [uI_k _ _ _ (by omega), uI_k _ _ _ (by omega), b4 e (by omega)]
              cases b with
              | false => rfl
              | true => show _ = if (sb d ||| 2 ^ sn d).testBit e then 1 else 0; rw [Nat.testBit_or, Nat.testBit_two_pow, decide_eq_false (fun h => hen h.symm), Bool.or_false]
          · rw [uI_k _ _ _ (by omega), uI_k _ _ _ (by omega), uI_k _ _ _ (by omega)]; exact b5
          · rw [uI_k _ _ _ (by omega), uI_k _ _ _ (by omega), uI_k _ _ _ (by omega)]; exact b6
          · have hi2 : i < (sd d).length := hi
            have := hD.2.2.2.1
            rw [uI_k _ _ _ (by omega), uI_k _ _ _ (by omega), uI_k _ _ _ (by omega)]; exact b7 i hi
          · rw [uI_k _ _ _ (by omega), uI_k _ _ _ (by omega), uI_k _ _ _ (by omega)]; exact b8
          · refine ⟨by show sn d + 1 ≤ 5; omega, fun e he => ?_, b9.2.2.1, b9.2.2.2.1, b9.2.2.2.2.1, ?_⟩
            rotate_left
            · show (if b then sb d ||| 2 ^ sn d else sb d) < 2 ^ (sn d + 1)
              have hsb := hD.2.2.2.2.2
              have hp : 2 ^ (sn d + 1) = 2 * 2 ^ sn d := by rw [Nat.pow_succ, Nat.mul_comm]
              cases b with
              | false => show sb d < _; omega
              | true => show sb d ||| 2 ^ sn d < _; exact Nat.or_lt_two_pow (by omega) (by omega)
            have he2 : e < sn d + 1 := he
            show updN (sp d) (sn d) _ e < 12
            by_cases hen : e = sn d
            · rw [hen, updN_s]; omega
            · rw [updN_o _ _ hen]; exact b9.2.1 e (by omega)
        · exact ok_pos (bm_g p2) (ok_some ⟨Or.inr ⟨c, _, p2, by rw [e1, p3]⟩, F6_tr f1 f3⟩)
      · refine ok_binde (mo_tB z1 _ _) (ok_pos (bm_g z1) (ok_some ⟨Or.inr ⟨2, _, z1, ?_⟩, F6_tr f1 z2⟩))
        rw [e1]
        unfold numE
        rw [if_pos z3]
        split
        · show (if hasp d (tk T (tk T a).2.1).2.2.2 = true then _ else _) = _
          rw [if_pos z4]
        · rfl
