/-! count; feeding bytes -/
def cnE (q : Sg) (x : Int32) : Option Int32 := if x = 0 then some (cI (sn q)) else if x = 1 then some (cI (wkn (sn q) (sb q))) else if x = 2 then some (cI (ss q)) else if x = 3 then some (lkI (sl q)) else if x = 4 then some (cI (db (sd q))) else if x = 5 then some (cI (wll (sl q) (sd q)).length) else if x = 6 then some (cI (sL q)) else if x = 7 then some (cI (st q).length) else if x = 8 then some (cI (so q).length) else some (-1)
theorem pp_count {q : Sg} (hw : WF q) (x : Int32) : Pp (f_Da_count x) (f_Mo_count x) q := by
  have hd := hw.2.2.2.2.2.1
  have hE : cnE q x = some ((cnE q x).getD 0) := by
    unfold cnE
    repeat' split
    all_goals rfl
  refine ⟨(cnE q x).getD 0, fun g hg => ?_, fun g hg => ?_⟩
  · rw [← hE]
    have hgP := hg.1
    obtain ⟨⟨p1, p2, p3, p4, p5, p6, p7, p8, p9, p10⟩, a2, a3, a4, a5, a6, a7, a8, a9, a10⟩ := hg
    have hwc : f_Pl_wishCount 7 g = cI (wll (sl q) (sd q)).length := by
      unfold f_Pl_wishCount
      rw [p6, p8]
      cases hs : sl q with
      | none => rw [if_pos (show lkI none = -1 from rfl)]; rfl
      | some l =>
        have key : ∀ k : Nat, k < 12 → ¬ (cI k = (-1 : Int32)) := by decide +kernel
        rw [if_neg (show ¬ lkI (some l) = -1 from key l (p7 l hs)), c_succ]
        unfold wll
        rw [List.length_append, Nat.add_comm]; rfl
    unfold f_Da_count cnE
    rw [p1, pl_working p1 p2 p4 p5, a2, p6, pl_deafBits hgP, hwc, a3, a4, a8]
    rfl
  · rw [← hE]
    obtain ⟨a1, hW, a3, a4, a5, a6, a7, a8⟩ := hg
    have hW2 := hW
    obtain ⟨b1, b2, b3, b4, b5, b6, b7, b8⟩ := hW2
    unfold f_Mo_count
    have hlp : lp (fun s => b_Mo_count_4 x s.1 s.2 g) 5000 ((0 : Int32), (0 : Int32)) = some (cI (db (sd q))) := by
      refine ok_to ?_
      refine ok_lp (fun k s => s = (cI (db ((sd q).take k)), cI k)) (sd q).length 5000 0 _ (by omega) (by omega) rfl ?_
      intro k s hk hs
      subst hs
      show Ok (b_Mo_count_4 x (cI (db ((sd q).take k))) (cI k) g) _
      unfold b_Mo_count_4
      rw [b6]
      by_cases hkn : k = (sd q).length
      · rw [hkn]
        exact ok_pos (le_yes (Nat.le_refl _) (by omega)) (ok_some (by rw [List.take_length]; rfl))
      · have hk' : k < (sd q).length := by omega
        rw [show (14 : Int32) = cI 14 from rfl, cI_add]
        refine ok_neg (le_no hk' (by omega)) (ok_pos (inb_cI (by omega) (by decide)) (ok_some ⟨hk', ?_⟩))
        rw [cI_nat (by omega), b7 k hk', sh12 _ (d12 hw hk'), cI_or, c_succ, tkS hk']
        unfold db
        rw [List.foldl_append]
        rfl
    have h5 : (if g.1 160 12 ≤ 0 then some (g.1 160 13 + (0 : Int32)) else some (g.1 160 13 + (1 : Int32))) = some (cI (wll (sl q) (sd q)).length) := by
      rw [b5, b6]
      cases hs : sl q with
      | none =>
        rw [if_pos (show cI (lkM none) ≤ 0 by decide), show (0 : Int32) = cI 0 from rfl, cI_add]; rfl
      | some l =>
        have hl := (hw.2.2.2.2.1 l hs).1
        rw [if_neg (show ¬ cI (lkM (some l)) ≤ (0 : Int32) from le_no (b := 0) (a := l + 1) (by omega) (by omega)), c_succ]
        unfold wll
        rw [List.length_append, Nat.add_comm]; rfl
    rw [hlp, mo_whole hw hW, look_now hW]
    show (if x = 0 then some (g.1 160 1) else if x = 1 then some _ else if x = 2 then some (g.1 160 0) else if x = 3 then some _ else if x = 4 then some _ else if x = 5 then (if g.1 160 12 ≤ 0 then some (g.1 160 13 + (0 : Int32)) else some (g.1 160 13 + (1 : Int32))) else if x = 6 then some (g.1 160 18) else if x = 7 then some (g.1 157 21) else if x = 8 then some (g.1 157 38) else some (-1)) = cnE q x
    rw [h5, b2, b1, b8, a3, a7]
    rfl
