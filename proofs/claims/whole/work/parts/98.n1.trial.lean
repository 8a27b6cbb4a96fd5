/-! the class's other solver; without, spares, looks -/
/-- plans are copied -/
theorem pl_copy {g : M2} {a p n : Nat} {pos : Nat → Nat} {br : Nat} {lk : Option Nat} {ds : List Nat} (hP : PL g p n pos br lk ds) (hap : a + 2 < p ∨ p + 2 < a) : Ok (f_Pl_copy a p g) (fun r => PL r a n pos br lk ds ∧ r.1 a 6 = g.1 p 6 ∧ r.1 a 7 = g.1 p 7 ∧ (∀ y, y ≠ a → y ≠ a + 1 → y ≠ a + 2 → r.1 y = g.1 y) ∧ r.2 = g.2) := by
  obtain ⟨a1, a2, a3, a4, a5, a6, a7, a8, a9, a10⟩ := hP
  unfold f_Pl_copy
  refine ok_bindm (Q := fun z => z.2 = g.2 ∧ (∀ y, y ≠ a + 1 → z.1 y = g.1 y) ∧ ∀ i, i < 5 → z.1 (a + 1) i = g.1 (p + 1) i) ?_ (fun z hz => ?_)
  · refine ok_for 5 (by decide) (fun j z => z.2 = g.2 ∧ (∀ y, y ≠ a + 1 → z.1 y = g.1 y) ∧ ∀ i, i < j → z.1 (a + 1) i = g.1 (p + 1) i) ⟨rfl, fun _ _ => rfl, fun i hi => absurd hi (by omega)⟩ ?_ ?_
    · rintro j z hj ⟨z1, z2, z3⟩
      show Ok (b_Pl_copy_2 a p (cI j) z) _
      unfold b_Pl_copy_2
      have ij : inb (cI j) 5 := inb_cI hj (by decide)
      refine ok_neg (le_no (a := 5) hj (by decide)) (ok_pos ij (ok_pos ij (ok_bd (ok_some ⟨c_succ j, z1, fun y hy => by rw [uI_o _ _ _ hy]; exact z2 y hy, fun i hi => ?_⟩))))
      rw [cI_nat (by omega)]
      by_cases hij : i = j
      · rw [hij, uI_s, z2 _ (by omega)]
      · rw [uI_k _ _ _ hij]; exact z3 i (by omega)
    · rintro z hz
      show Ok (b_Pl_copy_2 a p (cI 5) z) _
      unfold b_Pl_copy_2
      exact ok_pos (le_yes (a := 5) (Nat.le_refl _) (by decide)) (ok_some hz)
  · obtain ⟨z1, z2, z3⟩ := hz
    refine ok_bindm (Q := fun w => w.2 = z.2 ∧ (∀ y, y ≠ a + 2 → w.1 y = z.1 y) ∧ ∀ i, i < 4 → w.1 (a + 2) i = z.1 (p + 2) i) ?_ (fun w hw => ?_)
    · refine ok_for 4 (by decide) (fun j w => w.2 = z.2 ∧ (∀ y, y ≠ a + 2 → w.1 y = z.1 y) ∧ ∀ i, i < j → w.1 (a + 2) i = z.1 (p + 2) i) ⟨rfl, fun _ _ => rfl, fun i hi => absurd hi (by omega)⟩ ?_ ?_
      · rintro j w hj ⟨w1, w2, w3⟩
        show Ok (b_Pl_copy_17 a p (cI j) w) _
        unfold b_Pl_copy_17
        have ij : inb (cI j) 4 := inb_cI hj (by decide)
        refine ok_neg (le_no (a := 4) hj (by decide)) (ok_pos ij (ok_pos ij (ok_bd (ok_some ⟨c_succ j, w1, fun y hy => by rw [uI_o _ _ _ hy]; exact w2 y hy, fun i hi => ?_⟩))))
        rw [cI_nat (by omega)]
        by_cases hij : i = j
        · rw [hij, uI_s, w2 _ (by omega)]
        · rw [uI_k _ _ _ hij]; exact w3 i (by omega)
      · rintro w hw
        show Ok (b_Pl_copy_17 a p (cI 4) w) _
        unfold b_Pl_copy_17
        exact ok_pos (le_yes (a := 4) (Nat.le_refl _) (by decide)) (ok_some hw)
    · obtain ⟨w1, w2, w3⟩ := hw
      have hpa : p ≠ a := by omega
      have hp : ∀ j, w.1 p j = g.1 p j := fun j => by rw [w2 p (by omega), z2 p (by omega)]
      refine ok_bd (ok_bd (ok_bd (ok_bd (ok_bd (ok_bd (ok_some ?_))))))
      have ho : ∀ y, y ≠ a → (uI (uI (uI (uI (uI (uI w a 2 (w.1 p 2)) a 3 ((uI w a 2 (w.1 p 2)).1 p 3)) a 4 ((uI (uI w a 2 (w.1 p 2)) a 3 ((uI w a 2 (w.1 p 2)).1 p 3)).1 p 4)) a 5 ((uI (uI (uI w a 2 (w.1 p 2)) a 3 ((uI w a 2 (w.1 p 2)).1 p 3)) a 4 ((uI (uI w a 2 (w.1 p 2)) a 3 ((uI w a 2 (w.1 p 2)).1 p 3)).1 p 4)).1 p 5)) a 6 ((uI (uI (uI (uI w a 2 (w.1 p 2)) a 3 ((uI w a 2 (w.1 p 2)).1 p 3)) a 4 ((uI (uI w a 2 (w.1 p 2)) a 3 ((uI w a 2 (w.1 p 2)).1 p 3)).1 p 4)) a 5 ((uI (uI (uI w a 2 (w.1 p 2)) a 3 ((uI w a 2 (w.1 p 2)).1 p 3)) a 4 ((uI (uI w a 2 (w.1 p 2)) a 3 ((uI w a 2 (w.1 p 2)).1 p 3)).1 p 4)).1 p 5)).1 p 6)) a 7 ((uI (uI (uI (uI (uI w a 2 (w.1 p 2)) a 3 ((uI w a 2 (w.1 p 2)).1 p 3)) a 4 ((uI (uI w a 2 (w.1 p 2)) a 3 ((uI w a 2 (w.1 p 2)).1 p 3)).1 p 4)) a 5 ((uI (uI (uI w a 2 (w.1 p 2)) a 3 ((uI w a 2 (w.1 p 2)).1 p 3)) a 4 ((uI (uI w a 2 (w.1 p 2)) a 3 ((uI w a 2 (w.1 p 2)).1 p 3)).1 p 4)).1 p 5)) a 6 ((uI (uI (uI (uI w a 2 (w.1 p 2)) a 3 ((uI w a 2 (w.1 p 2)).1 p 3)) a 4 ((uI (uI w a 2 (w.1 p 2)) a 3 ((uI w a 2 (w.1 p 2)).1 p 3)).1 p 4)) a 5 ((uI (uI (uI w a 2 (w.1 p 2)) a 3 ((uI w a 2 (w.1 p 2)).1 p 3)) a 4 ((uI (uI w a 2 (w.1 p 2)) a 3 ((uI w a 2 (w.1 p 2)).1 p 3)).1 p 4)).1 p 5)).1 p 6)).1 p 7)).1 y = w.1 y := fun y hy => by rw [uI_o _ _ _ hy, uI_o _ _ _ hy, uI_o _ _ _ hy, uI_o _ _ _ hy, uI_o _ _ _ hy, uI_o _ _ _ hy]
      simp only [uI_o _ _ _ hpa, hp] at ho ⊢
      refine ⟨⟨?_, a2, fun e he => ?_, ?_, a5, ?_, a7, ?_, a9, fun i hi => ?_⟩, ?_, uI_s _ _ _ _, fun y y1 y2 y3 => ?_, ?_⟩
      · rw [uI_k _ _ _ (by decide), uI_k _ _ _ (by decide), uI_k _ _ _ (by decide), uI_k _ _ _ (by decide), uI_k _ _ _ (by decide), uI_s]; exact a1
      · rw [ho _ (by omega), w2 _ (by omega), z3 e (by omega)]; exact a3 e he
      · rw [uI_k _ _ _ (by decide), uI_k _ _ _ (by decide), uI_k _ _ _ (by decide), uI_k _ _ _ (by decide), uI_s]; exact a4
      · rw [uI_k _ _ _ (by decide), uI_k _ _ _ (by decide), uI_k _ _ _ (by decide), uI_s]; exact a6
      · rw [uI_k _ _ _ (by decide), uI_k _ _ _ (by decide), uI_s]; exact a8
      · rw [ho _ (by omega), w3 i (by omega), z2 _ (by omega)]; exact a10 i hi
      · rw [uI_k _ _ _ (by decide), uI_s]
      · rw [ho y y1, w2 y y3, z2 y y2]
      · exact w1.trans z1
/-- there are true weights, by a plan -/
def hdq (n : Nat) (pos : Nat → Nat) (br : Nat) (lk : Option Nat) (ds : List Nat) : Bool := lk.isSome && hdb (wsl lk ds) (wkl pos br n) (wll lk ds).length
/-- what the other solver has -/
def TS (r : M2) (n : Nat) (pos : Nat → Nat) (br : Nat) (lk : Option Nat) (ds : List Nat) : Prop := PL r 73 n pos br lk ds ∧ r.1 72 12 = cI (fl (Gz (wsl lk ds) (wkl pos br n)) (wll lk ds).length).length ∧ (hdq n pos br lk ds = true → CV 72 r (wsl lk ds) (wkl pos br n) (wll lk ds).length n pos br)
/-- only the other solver has changed -/
def FT (g r : M2) : Prop := ∀ y, y < 72 ∨ 138 ≤ y → r.1 y = g.1 y ∧ r.2 y = g.2 y
theorem FT_rf (g : M2) : FT g g := fun _ _ => ⟨rfl, rfl⟩
theorem FT_tr {g r z : M2} (h : FT g r) (k : FT r z) : FT g z := fun y hy => ⟨(k y hy).1.trans (h y hy).1, (k y hy).2.trans (h y hy).2⟩
theorem FT_I {g r : M2} {q : Sg} (hw : WF q) (h : IC g q) (k : FT g r) : IC r q ∧ KC g r := ⟨IC_q hw h (fun y _ hy => k y (by unfold qc at hy; omega)), fun y hy => k y (by omega)⟩
theorem tr_solve {g : M2} {n : Nat} {pos : Nat → Nat} {br : Nat} {lk : Option Nat} {ds : List Nat} (hP : PL g 73 n pos br lk ds) : Ok (f_So_solve 72 g) (fun r => ((r.1 72 13) &&& 1 = if hdq n pos br lk ds then 1 else 0) ∧ (r.1 72 13 = if hdq n pos br lk ds then 1 else 0) ∧ TS r n pos br lk ds ∧ FT g r) := by
  refine ok_mono (so_solve (s := 72) hP) (fun r hr => ?_)
  obtain ⟨c1, c2, c3, c4, c5, c6, c7, c8, c9, c10, c11⟩ := hr
  refine ⟨?_, c8, ⟨PL_k hP (fun y y1 y2 => c1 y (by omega) (by omega) (by omega)), c6, c11⟩, fun y hy => ⟨c1 y (by omega) (by omega) (by omega), c3 y (by show ¬ (_ ∧ _); omega) (by omega)⟩⟩
  rw [c8]
  show ((if hdq n pos br lk ds then (1 : Int32) else 0) &&& 1) = _
  rw [if10]
theorem da_hB {g : M2} {q : Sg} (hg : IC g q) {b : Nat} (hb : b < 32) : Ok (f_Da_holdsBroken (cI b) g) (fun p => p.1 = (if hdq (sn q) (sp q) b (sl q) (sd q) then 1 else 0) ∧ TS p.2 (sn q) (sp q) b (sl q) (sd q) ∧ FT g p.2) := by
  unfold f_Da_holdsBroken
  refine ok_bindm (pl_copy (a := 73) hg.1 (by omega)) (fun r hr => ok_bd ?_)
  obtain ⟨r1, r2, r3, r4, r5⟩ := hr
  obtain ⟨a1, a2, a3, a4, a5, a6, a7, a8, a9, a10⟩ := r1
  have hP : PL (uI r 73 3 (cI b)) 73 (sn q) (sp q) b (sl q) (sd q) := ⟨by rw [uI_k _ _ _ (by decide)]; exact a1, a2, fun e he => by rw [uI_o _ _ _ (by decide)]; exact a3 e he, uI_s _ _ _ _, hb, by rw [uI_k _ _ _ (by decide)]; exact a6, a7, by rw [uI_k _ _ _ (by decide)]; exact a8, a9, fun i hi => by rw [uI_o _ _ _ (by decide)]; exact a10 i hi⟩
  refine ok_bindm (tr_solve hP) (fun z hz => ok_some ⟨hz.1, hz.2.2.1, fun y hy => ?_⟩)
  rw [(hz.2.2.2 y hy).1, (hz.2.2.2 y hy).2, uI_o _ _ _ (by omega), uI_2, r5]
  exact ⟨r4 y (by omega) (by omega) (by omega), rfl⟩
theorem pl_turnTo {g : M2} {p n : Nat} {pos : Nat → Nat} {br : Nat} {lk : Option Nat} {ds : List Nat} (hP : PL g p n pos br lk ds) {k : Nat} (hk : k < 12) : Ok (f_Pl_turnTo p (cI k) g) (fun r => PL r p n pos br (some k) (fd k ds) ∧ (∀ y, y ≠ p → y ≠ p + 2 → r.1 y = g.1 y) ∧ r.2 = g.2) := by
  unfold f_Pl_turnTo
  refine ok_bindm (pl_dropDeaf hP hk) (fun r hr => ok_bd (ok_some ?_))
  obtain ⟨⟨a1, a2, a3, a4, a5, a6, a7, a8, a9, a10⟩, r2, r3, r4⟩ := hr
  exact ⟨⟨by rw [uI_k _ _ _ (by decide)]; exact a1, a2, fun e he => by rw [uI_o _ _ _ (by omega)]; exact a3 e he, by rw [uI_k _ _ _ (by decide)]; exact a4, a5, uI_s _ _ _ _, fun j hj => by cases hj; exact hk, by rw [uI_k _ _ _ (by decide)]; exact a8, a9, fun i hi => by rw [uI_o _ _ _ (by omega)]; exact a10 i hi⟩, fun y y1 y2 => by rw [uI_o _ _ _ y1]; exact r2 y y1 y2, r4⟩
theorem da_hL {g : M2} {q : Sg} (hg : IC g q) {k : Nat} (hk : k < 12) : Ok (f_Da_holdsLooking (cI k) g) (fun p => p.1 = (if hdq (sn q) (sp q) (sb q) (some k) (fd k (sd q)) then 1 else 0) ∧ TS p.2 (sn q) (sp q) (sb q) (some k) (fd k (sd q)) ∧ FT g p.2) := by
  unfold f_Da_holdsLooking
  refine ok_bindm (pl_copy (a := 73) hg.1 (by omega)) (fun r hr => ?_)
  obtain ⟨r1, r2, r3, r4, r5⟩ := hr
  refine ok_bindm (pl_turnTo r1 hk) (fun z hz => ?_)
  refine ok_bindm (tr_solve hz.1) (fun w hw => ok_some ⟨hw.1, hw.2.2.1, fun y hy => ?_⟩)
  rw [(hw.2.2.2 y hy).1, (hw.2.2.2 y hy).2, hz.2.1 y (by omega) (by omega), hz.2.2, r5]
  exact ⟨r4 y (by omega) (by omega) (by omega), rfl⟩
theorem dsx_fd (k : Nat) (ds : List Nat) : dsx (some k) ds = fd k ds := by
  unfold dsx fd
  refine List.filter_congr (fun d _ => ?_)
  by_cases h : d = k
  · subst h; simp
  · have h2 : ¬ k = d := fun e => h e.symm
    simp [h, h2]
/-- the reference with other elements broken or another look: what lies beside -/
def WB (r : M2) (n : Nat) (pos : Nat → Nat) (br : Nat) (lk : Option Nat) (ds : List Nat) : Prop := MIn r (wkl pos br n) (wsl lk ds) (wll lk ds).length ∧ r.1 157 14 = cI (fl (Gz (wsl lk ds) (wkl pos br n)) (wll lk ds).length).length ∧ r.1 157 15 = (if hdq n pos br lk ds then 1 else 0) ∧ (hdq n pos br lk ds = true → MV r (wkl pos br n) (wsl lk ds) (wll lk ds).length)
theorem SM_WB {r : M2} {n : Nat} {pos : Nat → Nat} {br : Nat} {lk : Option Nat} {ds : List Nat} (h : SM r (wkl pos br n) (wsl lk ds) (wll lk ds).length lk.isSome) : WB r n pos br lk ds := by
  obtain ⟨h1, h2, h3, h4, h5, h6⟩ := h
  refine ⟨h1, h2, h5, fun hh => h6 ?_⟩
  unfold hdq at hh
  rw [Bool.and_eq_true] at hh
  refine ⟨hh.1, look_free ((hdb_iff _ _ _).mp hh.2) ?_⟩
  unfold wll
  cases lk with
  | none => cases hh.1
  | some k => simp
theorem mo_wB {g : M2} {q : Sg} (hw : WF q) (hM : IM g q) {b : Nat} (hb : b < 32) : Ok (f_Mo_solvesWith (cI b) (lkI (sl q)) g) (fun r => FM g r ∧ WB r (sn q) (sp q) (sb q ||| b) (sl q) (sd q)) := by
  refine ok_mono (mo_with hw hM hb (lk := sl q) (fun k hk => (hw.2.2.2.2.1 k hk).1)) (fun r hr => ⟨hr.1, ?_⟩)
  have h := hr.2.1
  rw [dsx_self hw] at h
  exact SM_WB h
theorem mo_wL {g : M2} {q : Sg} (hw : WF q) (hM : IM g q) {k : Nat} (hk : k < 12) : Ok (f_Mo_solvesWith (0 : Int32) (cI k) g) (fun r => FM g r ∧ WB r (sn q) (sp q) (sb q) (some k) (fd k (sd q))) := by
  refine ok_mono (mo_with hw hM (b := 0) (by decide) (lk := some k) (fun j hj => by cases hj; exact hk)) (fun r hr => ⟨hr.1, ?_⟩)
  have h := hr.2.1
  rw [dsx_fd, Nat.or_zero] at h
  exact SM_WB h
theorem pr_without {q : Sg} (hw : WF q) (x y : Int32) : Pr (f_Da_without x y) (f_Mo_without x y) q := by
  have hn := hw.1
  have hb := b32 hw
  refine ⟨if inb x (sn q) ∧ inb y 2 then (if y = 0 then (if hdq (sn q) (sp q) (sb q ||| 2 ^ x.toNatClampNeg) (sl q) (sd q) then 1 else 0) else cI (fl (Gz (wsl (sl q) (sd q)) (wkl (sp q) (sb q ||| 2 ^ x.toNatClampNeg) (sn q))) (wll (sl q) (sd q)).length).length) else -2, q, hw, fun g hg => ?_, fun g hg => ?_⟩
  · unfold f_Da_without
    rw [show (2 : Int32) = cI 2 from rfl]
    refine ok_grd (da_has hw hg) (fun n => ok_some ⟨(if_neg (fun e => n e.1)).symm, hg, KC_rf g⟩) (fun c1 => ok_grd (da_among (by decide) g) (fun n => ok_some ⟨(if_neg (fun e => n e.2)).symm, hg, KC_rf g⟩) (fun c2 => ?_))
    rw [if_pos ⟨c1, c2⟩]
    have h5 : x.toNatClampNeg < 5 := by have := c1.2; omega
    have e5 := or5 (sb q) hb x.toNatClampNeg h5
    have ex : x = cI x.toNatClampNeg := inb_to c1
    have e6 : (g.1 7 3) ||| ((1 : Int32) <<< (x &&& 31)) = cI (sb q ||| 2 ^ x.toNatClampNeg) := by
      rw [hg.1.2.2.2.1]
      conv => lhs; rw [ex]
      exact e5.1
    rw [e6]
    refine ok_bindm (da_hB hg e5.2.1) (fun p hp => ?_)
    have hI := FT_I hw hg hp.2.2
    have hy : y = 0 ∨ y = 1 := by
      have h2 := inb_int.mp c2
      have : y.toInt = 0 ∨ y.toInt = 1 := by omega
      rcases this with e | e
      · exact Or.inl (Int32.toInt_inj.mp e)
      · exact Or.inr (Int32.toInt_inj.mp e)
    rcases hy with e | e
    · rw [if_pos e]
      refine ok_neg (by rw [e]; decide) (ok_grd hp.1 (fun c => ok_some ⟨by rw [if_neg c], hI⟩) (fun c => ok_some ⟨by rw [if_pos c], hI⟩))
    · exact ok_pos e (ok_some ⟨by rw [if_neg (show ¬ y = 0 by rw [e]; decide)]; exact hp.2.1.2.1, hI⟩)
  · unfold f_Mo_without
    refine ok_binde (mo_elem hw hg.2.1) ?_
    rw [show (1 : Int64) = Int64.ofInt (((2 : Nat) : Int) - 1) from rfl]
    refine ok_grd rfl (fun n => ok_some ⟨(if_neg (fun e => n e.1)).symm, hg, KM_rf g⟩) (fun c1 => ok_grd (mo_in0 (by decide) g) (fun n => ok_some ⟨(if_neg (fun e => n e.2)).symm, hg, KM_rf g⟩) (fun c2 => ok_binde (look_now hg.2.1) ?_))
    rw [if_pos ⟨c1, c2⟩]
    have h5 : x.toNatClampNeg < 5 := by have := c1.2; omega
    have ex : x = cI x.toNatClampNeg := inb_to c1
    have e6 : ((1 : Int32) <<< (x &&& 31)) = cI (2 ^ x.toNatClampNeg) := by
      conv => lhs; rw [ex]
      exact sh12 _ (by omega)
    have hp5 : 2 ^ x.toNatClampNeg ≤ 2 ^ 4 := Nat.pow_le_pow_right (by decide) (by omega)
    rw [e6]
    refine ok_bindm (mo_wB hw hg (by omega)) (fun r hr => ?_)
    refine ok_if (fun d => ?_) (fun d => ok_some ⟨by rw [if_neg d]; exact hr.2.2.1, IM_f hg hr.1, FM_K hr.1⟩)
    rw [if_pos d]
    exact ok_grd hr.2.2.2.1 (fun c => ok_some ⟨by rw [if_neg c], IM_f hg hr.1, FM_K hr.1⟩) (fun c => ok_some ⟨by rw [if_pos c], IM_f hg hr.1, FM_K hr.1⟩)
/-- those that may break -/
def spf (q : Sg) (e : Nat) : Bool := !(sb q).testBit e && hdq (sn q) (sp q) (sb q ||| 2 ^ e) (sl q) (sd q)
theorem pr_spares {q : Sg} (hw : WF q) : Pr f_Da_spares f_Mo_spares q := by
  have hn := hw.1
  have hb := b32 hw
  refine ⟨cI (bm (spf q) (sn q)), q, hw, fun g hg => ?_, fun g hg => ?_⟩
  · unfold f_Da_spares
    refine ok_bindm (Q := fun e => e.1 = cI (bm (spf q) (sn q)) ∧ FT g e.2) ?_ (fun e he => ok_some ⟨he.1, FT_I hw hg he.2⟩)
    refine ok_lp (fun j st => ∃ z, st = (cI (bm (spf q) j), cI j, z) ∧ FT g z) (sn q) 5000 0 _ (by omega) (by omega) ⟨g, rfl, FT_rf g⟩ ?_
    rintro j st hj ⟨z, rfl, hz⟩
    show Ok (b_Da_spares_4 (cI (bm (spf q) j)) (cI j) z) _
    unfold b_Da_spares_4
    have hI := (FT_I hw hg hz).1
    rw [hI.1.1, hI.1.2.2.2.1]
    by_cases hj2 : j = sn q
    · exact ok_pos (le_yes (by omega) (by omega)) (ok_some ⟨by rw [hj2], hz⟩)
    · have hj' : j < sn q := by omega
      refine ok_neg (le_no hj' (by omega)) ?_
      rw [pl_works hI.1.2.2.2.1 hb (by omega), (or5 (sb q) hb j (by omega)).1]
      by_cases hbit : (sb q).testBit j = true
      · rw [if_pos hbit]
        refine ok_pos rfl (ok_some ⟨hj', z, ?_, hz⟩)
        rw [bm_n _ (by unfold spf; simp [hbit]), c_succ]
      · rw [if_neg hbit]
        refine ok_neg (by decide) (ok_bindm (da_hB hI (or5 (sb q) hb j (by omega)).2.1) (fun p hp => ok_grd hp.1 (fun c => ok_some ⟨hj', p.2, ?_, FT_tr hz hp.2.2⟩) (fun c => ok_some ⟨hj', p.2, ?_, FT_tr hz hp.2.2⟩)))
        · rw [bm_n _ (by unfold spf; simp [c]), c_succ]
        · rw [bm_s _ (by omega) (by unfold spf; simp [c, hbit]), c_succ]
  · unfold f_Mo_spares
    refine ok_bindm (Q := fun e => e.1 = cI (bm (spf q) (sn q)) ∧ FM g e.2) ?_ (fun e he => ok_some ⟨he.1, IM_f hg he.2, FM_K he.2⟩)
    refine ok_lp (fun j st => ∃ z, st = (cI (bm (spf q) j), cI j, z) ∧ FM g z) (sn q) 5000 0 _ (by omega) (by omega) ⟨g, rfl, FM_rf g⟩ ?_
    rintro j st hj ⟨z, rfl, hz⟩
    show Ok (b_Mo_spares_4 (cI (bm (spf q) j)) (cI j) z) _
    unfold b_Mo_spares_4
    have hI := IM_f hg hz
    rw [hI.2.1.2.1]
    by_cases hj2 : j = sn q
    · exact ok_pos (le_yes (by omega) (by omega)) (ok_some ⟨by rw [hj2], hz⟩)
    · have hj' : j < sn q := by omega
      refine ok_neg (le_no hj' (by omega)) (ok_binde (mo_isBroken hI.2.1 hj' hn) ?_)
      by_cases hbit : (sb q).testBit j = true
      · rw [if_pos hbit]
        refine ok_neg (by decide) (ok_some ⟨hj', z, ?_, hz⟩)
        rw [bm_n _ (by unfold spf; simp [hbit]), c_succ]
      · rw [if_neg hbit]
        have hp5 : 2 ^ j ≤ 2 ^ 4 := Nat.pow_le_pow_right (by decide) (by omega)
        refine ok_pos rfl (ok_binde (look_now hI.2.1) ?_)
        have e6 := sh12 j (by omega)
        simp only [e6]
        refine ok_bindm (mo_wB hw hI (b := 2 ^ j) (by omega)) (fun r hr => ok_grd hr.2.2.2.1 (fun c => ok_some ⟨hj', r, ?_, FM_tr hz hr.1⟩) (fun c => ok_some ⟨hj', r, ?_, FM_tr hz hr.1⟩))
        · rw [bm_n _ (by unfold spf; simp [c]), c_succ, show (0 : Int32) = cI 0 from rfl, cI_or, Nat.or_zero]
        · rw [← e6, bm_s _ (by omega) (by unfold spf; simp [c, hbit]), c_succ]
def lof (q : Sg) (k : Nat) : Bool := hdq (sn q) (sp q) (sb q) (some k) (fd k (sd q))
theorem pr_looks {q : Sg} (hw : WF q) : Pr f_Da_looks f_Mo_looks q := by
  refine ⟨cI (bm (lof q) 12), q, hw, fun g hg => ?_, fun g hg => ?_⟩
  · unfold f_Da_looks
    refine ok_bindm (Q := fun e => e.1 = cI (bm (lof q) 12) ∧ FT g e.2) ?_ (fun e he => ok_some ⟨he.1, FT_I hw hg he.2⟩)
    refine ok_lp (fun j st => ∃ z, st = (cI (bm (lof q) j), cI j, z) ∧ FT g z) 12 5000 0 _ (by omega) (by omega) ⟨g, rfl, FT_rf g⟩ ?_
    rintro j st hj ⟨z, rfl, hz⟩
    show Ok (b_Da_looks_4 (cI (bm (lof q) j)) (cI j) z) _
    unfold b_Da_looks_4
    by_cases hj2 : j = 12
    · subst hj2
      exact ok_pos (le_yes (a := 12) (Nat.le_refl _) (by decide)) (ok_some ⟨rfl, hz⟩)
    · have hj' : j < 12 := by omega
      refine ok_neg (le_no (a := 12) hj' (by decide)) (ok_bindm (da_hL (FT_I hw hg hz).1 hj') (fun p hp => ok_grd hp.1 (fun c => ok_some ⟨hj', p.2, ?_, FT_tr hz hp.2.2⟩) (fun c => ok_some ⟨hj', p.2, ?_, FT_tr hz hp.2.2⟩)))
      · rw [bm_n _ c, c_succ]
      · rw [bm_s _ hj' c, c_succ]
  · unfold f_Mo_looks
    refine ok_bindm (Q := fun e => e.1 = cI (bm (lof q) 12) ∧ FM g e.2) ?_ (fun e he => ok_some ⟨he.1, IM_f hg he.2, FM_K he.2⟩)
    refine ok_lp (fun j st => ∃ z, st = (cI (bm (lof q) j), cI j, z) ∧ FM g z) 12 5000 0 _ (by omega) (by omega) ⟨g, rfl, FM_rf g⟩ ?_
    rintro j st hj ⟨z, rfl, hz⟩
    show Ok (b_Mo_looks_4 (cI (bm (lof q) j)) (cI j) z) _
    unfold b_Mo_looks_4
    by_cases hj2 : j = 12
    · subst hj2
      exact ok_pos (le_yes (a := 12) (Nat.le_refl _) (by decide)) (ok_some ⟨rfl, hz⟩)
    · have hj' : j < 12 := by omega
      refine ok_neg (le_no (a := 12) hj' (by decide)) (ok_bindm (mo_wL hw (IM_f hg hz) hj') (fun r hr => ok_grd hr.2.2.2.1 (fun c => ok_some ⟨hj', r, ?_, FM_tr hz hr.1⟩) (fun c => ok_some ⟨hj', r, ?_, FM_tr hz hr.1⟩)))
      · rw [bm_n _ c, c_succ, show (0 : Int32) = cI 0 from rfl, cI_or, Nat.or_zero]
      · rw [bm_s _ hj' c, c_succ]
