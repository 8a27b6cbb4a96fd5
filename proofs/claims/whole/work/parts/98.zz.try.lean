/-! the class's other solver; without, spares, looks -/
/-- plans are copied -/
theorem pl_copy {g : M2} {a p n : Nat} {pos : Nat → Nat} {br : Nat} {lk : Option Nat} {ds : List Nat} (hP : PL g p n pos br lk ds) (hap : a + 2 < p ∨ p + 2 < a) : Ok (f_Pl_copy a p g) (fun r => PL r a n pos br lk ds ∧ r.1 a 6 = g.1 p 6 ∧ r.1 a 7 = g.1 p 7 ∧ (∀ y, y ≠ a → y ≠ a + 1 → y ≠ a + 2 → r.1 y = g.1 y) ∧ r.2 = g.2) := by
  obtain ⟨a1, a2, a3, a4, a5, a6, a7, a8, a9, a10⟩ := hP
  unfold f_Pl_copy
  refine ok_bindm (Q := fun z => z.2 = g.2 ∧ (∀ y, y ≠ a + 1 → z.1 y = g.1 y) ∧ ∀ i, i < 5 → z.1 (a + 1) i = g.1 (p + 1) i) ?_ (fun z hz => ?_)
  · refine ok_for 5 (by decide) (fun j z => z.2 = g.2 ∧ (∀ y, y ≠ a + 1 → z.1 y = g.1 y) ∧ ∀ i, i < j → z.1 (a + 1) i = g.1 (p + 1) i) ⟨rfl, fun _ _ => rfl, fun i hi => absurd hi (by omega)⟩ ?_ ?_
    · rintro j z hj ⟨z1, z2, z3⟩
      show Ok (b_Pl_copy_2 a p (cI j) z) _
      unfold b_Pl_copy_2
      have ij : inb (cI j) 5 := inb_cI hj (by decide)
      refine ok_neg (le_no (a := 5) hj (by decide)) (ok_pos ij (ok_pos ij (ok_bd (ok_some ⟨c_succ j, z1, fun y hy => by rw [uI_o _ _ _ hy]; exact z2 y hy, fun i hi => ?_⟩))))
      rw [cI_nat (by omega)]
      by_cases hij : i = j
      · rw [hij, uI_s, z2 _ (by omega)]
      · rw [uI_k _ _ _ hij]; exact z3 i (by omega)
    · rintro z hz
      show Ok (b_Pl_copy_2 a p (cI 5) z) _
      unfold b_Pl_copy_2
      exact ok_pos (le_yes (a := 5) (Nat.le_refl _) (by decide)) (ok_some hz)
  · obtain ⟨z1, z2, z3⟩ := hz
    refine ok_bindm (Q := fun w => w.2 = z.2 ∧ (∀ y, y ≠ a + 2 → w.1 y = z.1 y) ∧ ∀ i, i < 4 → w.1 (a + 2) i = z.1 (p + 2) i) ?_ (fun w hw => ?_)
    · refine ok_for 4 (by decide) (fun j w => w.2 = z.2 ∧ (∀ y, y ≠ a + 2 → w.1 y = z.1 y) ∧ ∀ i, i < j → w.1 (a + 2) i = z.1 (p + 2) i) ⟨rfl, fun _ _ => rfl, fun i hi => absurd hi (by omega)⟩ ?_ ?_
      · rintro j w hj ⟨w1, w2, w3⟩
        show Ok (b_Pl_copy_17 a p (cI j) w) _
        unfold b_Pl_copy_17
        have ij : inb (cI j) 4 := inb_cI hj (by decide)
        refine ok_neg (le_no (a := 4) hj (by decide)) (ok_pos ij (ok_pos ij (ok_bd (ok_some ⟨c_succ j, w1, fun y hy => by rw [uI_o _ _ _ hy]; exact w2 y hy, fun i hi => ?_⟩))))
        rw [cI_nat (by omega)]
        by_cases hij : i = j
        · rw [hij, uI_s, w2 _ (by omega)]
        · rw [uI_k _ _ _ hij]; exact w3 i (by omega)
      · rintro w hw
        show Ok (b_Pl_copy_17 a p (cI 4) w) _
        unfold b_Pl_copy_17
        exact ok_pos (le_yes (a := 4) (Nat.le_refl _) (by decide)) (ok_some hw)
    · obtain ⟨w1, w2, w3⟩ := hw
      have hpa : p ≠ a := by omega
      have hp : ∀ j, w.1 p j = g.1 p j := fun j => by rw [w2 p (by omega), z2 p (by omega)]
      refine ok_bd (ok_bd (ok_bd (ok_bd (ok_bd (ok_bd (ok_some ?_))))))
      have ho : ∀ y, y ≠ a → (uI (uI (uI (uI (uI (uI w a 2 (w.1 p 2)) a 3 ((uI w a 2 (w.1 p 2)).1 p 3)) a 4 ((uI (uI w a 2 (w.1 p 2)) a 3 ((uI w a 2 (w.1 p 2)).1 p 3)).1 p 4)) a 5 ((uI (uI (uI w a 2 (w.1 p 2)) a 3 ((uI w a 2 (w.1 p 2)).1 p 3)) a 4 ((uI (uI w a 2 (w.1 p 2)) a 3 ((uI w a 2 (w.1 p 2)).1 p 3)).1 p 4)).1 p 5)) a 6 ((uI (uI (uI (uI w a 2 (w.1 p 2)) a 3 ((uI w a 2 (w.1 p 2)).1 p 3)) a 4 ((uI (uI w a 2 (w.1 p 2)) a 3 ((uI w a 2 (w.1 p 2)).1 p 3)).1 p 4)) a 5 ((uI (uI (uI w a 2 (w.1 p 2)) a 3 ((uI w a 2 (w.1 p 2)).1 p 3)) a 4 ((uI (uI w a 2 (w.1 p 2)) a 3 ((uI w a 2 (w.1 p 2)).1 p 3)).1 p 4)).1 p 5)).1 p 6)) a 7 ((uI (uI (uI (uI (uI w a 2 (w.1 p 2)) a 3 ((uI w a 2 (w.1 p 2)).1 p 3)) a 4 ((uI (uI w a 2 (w.1 p 2)) a 3 ((uI w a 2 (w.1 p 2)).1 p 3)).1 p 4)) a 5 ((uI (uI (uI w a 2 (w.1 p 2)) a 3 ((uI w a 2 (w.1 p 2)).1 p 3)) a 4 ((uI (uI w a 2 (w.1 p 2)) a 3 ((uI w a 2 (w.1 p 2)).1 p 3)).1 p 4)).1 p 5)) a 6 ((uI (uI (uI (uI w a 2 (w.1 p 2)) a 3 ((uI w a 2 (w.1 p 2)).1 p 3)) a 4 ((uI (uI w a 2 (w.1 p 2)) a 3 ((uI w a 2 (w.1 p 2)).1 p 3)).1 p 4)) a 5 ((uI (uI (uI w a 2 (w.1 p 2)) a 3 ((uI w a 2 (w.1 p 2)).1 p 3)) a 4 ((uI (uI w a 2 (w.1 p 2)) a 3 ((uI w a 2 (w.1 p 2)).1 p 3)).1 p 4)).1 p 5)).1 p 6)).1 p 7)).1 y = w.1 y := fun y hy => by rw [uI_o _ _ _ hy, uI_o _ _ _ hy, uI_o _ _ _ hy, uI_o _ _ _ hy, uI_o _ _ _ hy, uI_o _ _ _ hy]
      simp only [uI_o _ _ _ hpa, hp] at ho ⊢
      refine ⟨⟨?_, a2, fun e he => ?_, ?_, a5, ?_, a7, ?_, a9, fun i hi => ?_⟩, ?_, uI_s _ _ _ _, fun y y1 y2 y3 => ?_, ?_⟩
      · rw [uI_k _ _ _ (by decide), uI_k _ _ _ (by decide), uI_k _ _ _ (by decide), uI_k _ _ _ (by decide), uI_k _ _ _ (by decide), uI_s]; exact a1
      · rw [ho _ (by omega), w2 _ (by omega), z3 e (by omega)]; exact a3 e he
      · rw [uI_k _ _ _ (by decide), uI_k _ _ _ (by decide), uI_k _ _ _ (by decide), uI_k _ _ _ (by decide), uI_s]; exact a4
      · rw [uI_k _ _ _ (by decide), uI_k _ _ _ (by decide), uI_k _ _ _ (by decide), uI_s]; exact a6
      · rw [uI_k _ _ _ (by decide), uI_k _ _ _ (by decide), uI_s]; exact a8
      · rw [ho _ (by omega), w3 i (by omega), z2 _ (by omega)]; exact a10 i hi
      · rw [uI_k _ _ _ (by decide), uI_s]
      · rw [ho y y1, w2 y y3, z2 y y2]
      · exact w1.trans z1
/-- there are true weights, by a plan -/
def hdq (n : Nat) (pos : Nat → Nat) (br : Nat) (lk : Option Nat) (ds : List Nat) : Bool := lk.isSome && hdb (wsl lk ds) (wkl pos br n) (wll lk ds).length
/-- what the other solver has -/
def TS (r : M2) (n : Nat) (pos : Nat → Nat) (br : Nat) (lk : Option Nat) (ds : List Nat) : Prop := PL r 73 n pos br lk ds ∧ r.1 72 12 = cI (fl (Gz (wsl lk ds) (wkl pos br n)) (wll lk ds).length).length ∧ (hdq n pos br lk ds = true → CV 72 r (wsl lk ds) (wkl pos br n) (wll lk ds).length n pos br)
/-- only the other solver has changed -/
def FT (g r : M2) : Prop := ∀ y, y < 72 ∨ 138 ≤ y → r.1 y = g.1 y ∧ r.2 y = g.2 y
theorem FT_rf (g : M2) : FT g g := fun _ _ => ⟨rfl, rfl⟩
theorem FT_tr {g r z : M2} (h : FT g r) (k : FT r z) : FT g z := fun y hy => ⟨(k y hy).1.trans (h y hy).1, (k y hy).2.trans (h y hy).2⟩
theorem FT_I {g r : M2} {q : Sg} (hw : WF q) (h : IC g q) (k : FT g r) : IC r q ∧ KC g r := ⟨IC_q hw h (fun y _ hy => k y (by unfold qc at hy; omega)), fun y hy => k y (by omega)⟩
theorem tr_solve {g : M2} {n : Nat} {pos : Nat → Nat} {br : Nat} {lk : Option Nat} {ds : List Nat} (hP : PL g 73 n pos br lk ds) : Ok (f_So_solve 72 g) (fun r => ((r.1 72 13) &&& 1 = if hdq n pos br lk ds then 1 else 0) ∧ (r.1 72 13 = if hdq n pos br lk ds then 1 else 0) ∧ TS r n pos br lk ds ∧ FT g r) := by
  refine ok_mono (so_solve (s := 72) hP) (fun r hr => ?_)
  obtain ⟨c1, c2, c3, c4, c5, c6, c7, c8, c9, c10, c11⟩ := hr
  refine ⟨?_, c8, ⟨PL_k hP (fun y y1 y2 => c1 y (by omega) (by omega) (by omega)), c6, c11⟩, fun y hy => ⟨c1 y (by omega) (by omega) (by omega), c3 y (by show ¬ (_ ∧ _); omega) (by omega)⟩⟩
  rw [c8]
  show ((if hdq n pos br lk ds then (1 : Int32) else 0) &&& 1) = _
  rw [if10]
theorem da_hB {g : M2} {q : Sg} (hg : IC g q) {b : Nat} (hb : b < 32) : Ok (f_Da_holdsBroken (cI b) g) (fun p => p.1 = (if hdq (sn q) (sp q) b (sl q) (sd q) then 1 else 0) ∧ TS p.2 (sn q) (sp q) b (sl q) (sd q) ∧ FT g p.2) := by
  unfold f_Da_holdsBroken
  refine ok_bindm (pl_copy (a := 73) hg.1 (by omega)) (fun r hr => ok_bd ?_)
  obtain ⟨r1, r2, r3, r4, r5⟩ := hr
  obtain ⟨a1, a2, a3, a4, a5, a6, a7, a8, a9, a10⟩ := r1
  have hP : PL (uI r 73 3 (cI b)) 73 (sn q) (sp q) b (sl q) (sd q) := ⟨by rw [uI_k _ _ _ (by decide)]; exact a1, a2, fun e he => by rw [uI_o _ _ _ (by decide)]; exact a3 e he, uI_s _ _ _ _, hb, by rw [uI_k _ _ _ (by decide)]; exact a6, a7, by rw [uI_k _ _ _ (by decide)]; exact a8, a9, fun i hi => by rw [uI_o _ _ _ (by decide)]; exact a10 i hi⟩
  refine ok_bindm (tr_solve hP) (fun z hz => ok_some ⟨hz.1, hz.2.2.1, fun y hy => ?_⟩)
  rw [(hz.2.2.2 y hy).1, (hz.2.2.2 y hy).2, uI_o _ _ _ (by omega), uI_2, r5]
  exact ⟨r4 y (by omega) (by omega) (by omega), rfl⟩
theorem pl_turnTo {g : M2} {p n : Nat} {pos : Nat → Nat} {br : Nat} {lk : Option Nat} {ds : List Nat} (hP : PL g p n pos br lk ds) {k : Nat} (hk : k < 12) : Ok (f_Pl_turnTo p (cI k) g) (fun r => PL r p n pos br (some k) (fd k ds) ∧ (∀ y, y ≠ p → y ≠ p + 2 → r.1 y = g.1 y) ∧ r.2 = g.2) := by
  unfold f_Pl_turnTo
  refine ok_bindm (pl_dropDeaf hP hk) (fun r hr => ok_bd (ok_some ?_))
  obtain ⟨⟨a1, a2, a3, a4, a5, a6, a7, a8, a9, a10⟩, r2, r3, r4⟩ := hr
  exact ⟨⟨by rw [uI_k _ _ _ (by decide)]; exact a1, a2, fun e he => by rw [uI_o _ _ _ (by omega)]; exact a3 e he, by rw [uI_k _ _ _ (by decide)]; exact a4, a5, uI_s _ _ _ _, fun j hj => by cases hj; exact hk, by rw [uI_k _ _ _ (by decide)]; exact a8, a9, fun i hi => by rw [uI_o _ _ _ (by omega)]; exact a10 i hi⟩, fun y y1 y2 => by rw [uI_o _ _ _ y1]; exact r2 y y1 y2, r4⟩
theorem da_hL {g : M2} {q : Sg} (hg : IC g q) {k : Nat} (hk : k < 12) : Ok (f_Da_holdsLooking (cI k) g) (fun p => p.1 = (if hdq (sn q) (sp q) (sb q) (some k) (fd k (sd q)) then 1 else 0) ∧ TS p.2 (sn q) (sp q) (sb q) (some k) (fd k (sd q)) ∧ FT g p.2) := by
  unfold f_Da_holdsLooking
  refine ok_bindm (pl_copy (a := 73) hg.1 (by omega)) (fun r hr => ?_)
  obtain ⟨r1, r2, r3, r4, r5⟩ := hr
  refine ok_bindm (pl_turnTo r1 hk) (fun z hz => ?_)
  refine ok_bindm (tr_solve hz.1) (fun w hw => ok_some ⟨hw.1, hw.2.2.1, fun y hy => ?_⟩)
  rw [(hw.2.2.2 y hy).1, (hw.2.2.2 y hy).2, hz.2.1 y (by omega) (by omega), hz.2.2, r5]
  exact ⟨r4 y (by omega) (by omega) (by omega), rfl⟩
theorem dsx_fd (k : Nat) (ds : List Nat) : dsx (some k) ds = fd k ds := by
  unfold dsx fd
  refine List.filter_congr (fun d _ => ?_)
  by_cases h : d = k
  · subst h; simp
  · have h2 : ¬ k = d := fun e => h e.symm
    simp [h, h2]
/-- the reference with other elements broken or another look: what lies beside -/
def WB (r : M2) (n : Nat) (pos : Nat → Nat) (br : Nat) (lk : Option Nat) (ds : List Nat) : Prop := MIn r (wkl pos br n) (wsl lk ds) (wll lk ds).length ∧ r.1 157 14 = cI (fl (Gz (wsl lk ds) (wkl pos br n)) (wll lk ds).length).length ∧ r.1 157 15 = (if hdq n pos br lk ds then 1 else 0) ∧ (hdq n pos br lk ds = true → MV r (wkl pos br n) (wsl lk ds) (wll lk ds).length)
theorem SM_WB {r : M2} {n : Nat} {pos : Nat → Nat} {br : Nat} {lk : Option Nat} {ds : List Nat} (h : SM r (wkl pos br n) (wsl lk ds) (wll lk ds).length lk.isSome) : WB r n pos br lk ds := by
  obtain ⟨h1, h2, h3, h4, h5, h6⟩ := h
  refine ⟨h1, h2, h5, fun hh => h6 ?_⟩
  unfold hdq at hh
  rw [Bool.and_eq_true] at hh
  refine ⟨hh.1, look_free ((hdb_iff _ _ _).mp hh.2) ?_⟩
  unfold wll
  cases lk with
  | none => cases hh.1
  | some k => simp
theorem mo_wB {g : M2} {q : Sg} (hw : WF q) (hM : IM g q) {b : Nat} (hb : b < 32) : Ok (f_Mo_solvesWith (cI b) (lkI (sl q)) g) (fun r => FM g r ∧ WB r (sn q) (sp q) (sb q ||| b) (sl q) (sd q)) := by
  refine ok_mono (mo_with hw hM hb (lk := sl q) (fun k hk => (hw.2.2.2.2.1 k hk).1)) (fun r hr => ⟨hr.1, ?_⟩)
  have h := hr.2.1
  rw [dsx_self hw] at h
  exact SM_WB h
theorem mo_wL {g : M2} {q : Sg} (hw : WF q) (hM : IM g q) {k : Nat} (hk : k < 12) : Ok (f_Mo_solvesWith (0 : Int32) (cI k) g) (fun r => FM g r ∧ WB r (sn q) (sp q) (sb q) (some k) (fd k (sd q))) := by
  refine ok_mono (mo_with hw hM (b := 0) (by decide) (lk := some k) (fun j hj => by cases hj; exact hk)) (fun r hr => ⟨hr.1, ?_⟩)
  have h := hr.2.1
  rw [dsx_fd, Nat.or_zero] at h
  exact SM_WB h
theorem pr_without {q : Sg} (hw : WF q) (x y : Int32) : Pr (f_Da_without x y) (f_Mo_without x y) q := by
  have hn := hw.1
  have hb := b32 hw
  refine ⟨if inb x (sn q) ∧ inb y 2 then (if y = 0 then (if hdq (sn q) (sp q) (sb q ||| 2 ^ x.toNatClampNeg) (sl q) (sd q) then 1 else 0) else cI (fl (Gz (wsl (sl q) (sd q)) (wkl (sp q) (sb q ||| 2 ^ x.toNatClampNeg) (sn q))) (wll (sl q) (sd q)).length).length) else -2, q, hw, fun g hg => ?_, fun g hg => ?_⟩
  · unfold f_Da_without
    rw [show (2 : Int32) = cI 2 from rfl]
    refine ok_grd (da_has hw hg) (fun n => ok_some ⟨(if_neg (fun e => n e.1)).symm, hg, KC_rf g⟩) (fun c1 => ok_grd (da_among (by decide) g) (fun n => ok_some ⟨(if_neg (fun e => n e.2)).symm, hg, KC_rf g⟩) (fun c2 => ?_))
    rw [if_pos ⟨c1, c2⟩]
    have h5 : x.toNatClampNeg < 5 := by have := c1.2; omega
    have e5 := or5 (sb q) hb x.toNatClampNeg h5
    have ex : x = cI x.toNatClampNeg := inb_to c1
    have e6 : (g.1 7 3) ||| ((1 : Int32) <<< (x &&& 31)) = cI (sb q ||| 2 ^ x.toNatClampNeg) := by
      rw [hg.1.2.2.2.1]
      conv => lhs; rw [ex]
      exact e5.1
    rw [e6]
    refine ok_bindm (da_hB hg e5.2.1) (fun p hp => ?_)
    have hI := FT_I hw hg hp.2.2
    have hy : y = 0 ∨ y = 1 := by
      have h2 := inb_int.mp c2
      have : y.toInt = 0 ∨ y.toInt = 1 := by omega
      rcases this with e | e
      · exact Or.inl (Int32.toInt_inj.mp e)
      · exact Or.inr (Int32.toInt_inj.mp e)
    rcases hy with e | e
    · rw [if_pos e]
      refine ok_neg (by rw [e]; decide) (ok_grd hp.1 (fun c => ok_some ⟨by rw [if_neg c], hI⟩) (fun c => ok_some ⟨by rw [if_pos c], hI⟩))
    · exact ok_pos e (ok_some ⟨by rw [if_neg (show ¬ y = 0 by rw [e]; decide)]; exact hp.2.1.2.1, hI⟩)
  · unfold f_Mo_without
    refine ok_binde (mo_elem hw hg.2.1) ?_
    rw [show (1 : Int64) = Int64.ofInt (((2 : Nat) : Int) - 1) from rfl]
    refine ok_grd rfl (fun n => ok_some ⟨(if_neg (fun e => n e.1)).symm, hg, KM_rf g⟩) (fun c1 => ok_grd (mo_in0 (by decide) g) (fun n => ok_some ⟨(if_neg (fun e => n e.2)).symm, hg, KM_rf g⟩) (fun c2 => ok_binde (look_now hg.2.1) ?_))
    rw [if_pos ⟨c1, c2⟩]
    have h5 : x.toNatClampNeg < 5 := by have := c1.2; omega
    have ex : x = cI x.toNatClampNeg := inb_to c1
    have e6 : ((1 : Int32) <<< (x &&& 31)) = cI (2 ^ x.toNatClampNeg) := by
      conv => lhs; rw [ex]
      exact sh12 _ (by omega)
    have hp5 : 2 ^ x.toNatClampNeg ≤ 2 ^ 4 := Nat.pow_le_pow_right (by decide) (by omega)
    rw [e6]
    refine ok_bindm (mo_wB hw hg (by omega)) (fun r hr => ?_)
    refine ok_if (fun d => ?_) (fun d => ok_some ⟨by rw [if_neg d]; exact hr.2.2.1, IM_f hg hr.1, FM_K hr.1⟩)
    rw [if_pos d]
    exact ok_grd hr.2.2.2.1 (fun c => ok_some ⟨by rw [if_neg c], IM_f hg hr.1, FM_K hr.1⟩) (fun c => ok_some ⟨by rw [if_pos c], IM_f hg hr.1, FM_K hr.1⟩)
/-- those that may break -/
def spf (q : Sg) (e : Nat) : Bool := !(sb q).testBit e && hdq (sn q) (sp q) (sb q ||| 2 ^ e) (sl q) (sd q)
theorem pr_spares {q : Sg} (hw : WF q) : Pr f_Da_spares f_Mo_spares q := by
  have hn := hw.1
  have hb := b32 hw
  refine ⟨cI (bm (spf q) (sn q)), q, hw, fun g hg => ?_, fun g hg => ?_⟩
  · unfold f_Da_spares
    refine ok_bindm (Q := fun e => e.1 = cI (bm (spf q) (sn q)) ∧ FT g e.2) ?_ (fun e he => ok_some ⟨he.1, FT_I hw hg he.2⟩)
    refine ok_lp (fun j st => ∃ z, st = (cI (bm (spf q) j), cI j, z) ∧ FT g z) (sn q) 5000 0 _ (by omega) (by omega) ⟨g, rfl, FT_rf g⟩ ?_
    rintro j st hj ⟨z, rfl, hz⟩
    show Ok (b_Da_spares_4 (cI (bm (spf q) j)) (cI j) z) _
    unfold b_Da_spares_4
    have hI := (FT_I hw hg hz).1
    rw [hI.1.1, hI.1.2.2.2.1]
    by_cases hj2 : j = sn q
    · exact ok_pos (le_yes (by omega) (by omega)) (ok_some ⟨by rw [hj2], hz⟩)
    · have hj' : j < sn q := by omega
      refine ok_neg (le_no hj' (by omega)) ?_
      rw [pl_works hI.1.2.2.2.1 hb (by omega), (or5 (sb q) hb j (by omega)).1]
      by_cases hbit : (sb q).testBit j = true
      · rw [if_pos hbit]
        refine ok_pos rfl (ok_some ⟨hj', z, ?_, hz⟩)
        rw [bm_n _ (by unfold spf; simp [hbit]), c_succ]
      · rw [if_neg hbit]
        refine ok_neg (by decide) (ok_bindm (da_hB hI (or5 (sb q) hb j (by omega)).2.1) (fun p hp => ok_grd hp.1 (fun c => ok_some ⟨hj', p.2, ?_, FT_tr hz hp.2.2⟩) (fun c => ok_some ⟨hj', p.2, ?_, FT_tr hz hp.2.2⟩)))
        · rw [bm_n _ (by unfold spf; simp [c]), c_succ]
        · rw [bm_s _ (by omega) (by unfold spf; simp [c, hbit]), c_succ]
  · unfold f_Mo_spares
    refine ok_bindm (Q := fun e => e.1 = cI (bm (spf q) (sn q)) ∧ FM g e.2) ?_ (fun e he => ok_some ⟨he.1, IM_f hg he.2, FM_K he.2⟩)
    refine ok_lp (fun j st => ∃ z, st = (cI (bm (spf q) j), cI j, z) ∧ FM g z) (sn q) 5000 0 _ (by omega) (by omega) ⟨g, rfl, FM_rf g⟩ ?_
    rintro j st hj ⟨z, rfl, hz⟩
    show Ok (b_Mo_spares_4 (cI (bm (spf q) j)) (cI j) z) _
    unfold b_Mo_spares_4
    have hI := IM_f hg hz
    rw [hI.2.1.2.1]
    by_cases hj2 : j = sn q
    · exact ok_pos (le_yes (by omega) (by omega)) (ok_some ⟨by rw [hj2], hz⟩)
    · have hj' : j < sn q := by omega
      refine ok_neg (le_no hj' (by omega)) (ok_binde (mo_isBroken hI.2.1 hj' hn) ?_)
      by_cases hbit : (sb q).testBit j = true
      · rw [if_pos hbit]
        refine ok_neg (by decide) (ok_some ⟨hj', z, ?_, hz⟩)
        rw [bm_n _ (by unfold spf; simp [hbit]), c_succ]
      · rw [if_neg hbit]
        have hp5 : 2 ^ j ≤ 2 ^ 4 := Nat.pow_le_pow_right (by decide) (by omega)
        refine ok_pos rfl (ok_binde (look_now hI.2.1) ?_)
        have e6 := sh12 j (by omega)
        simp only [e6]
        refine ok_bindm (mo_wB hw hI (b := 2 ^ j) (by omega)) (fun r hr => ok_grd hr.2.2.2.1 (fun c => ok_some ⟨hj', r, ?_, FM_tr hz hr.1⟩) (fun c => ok_some ⟨hj', r, ?_, FM_tr hz hr.1⟩))
        · rw [bm_n _ (by unfold spf; simp [c]), c_succ, show (0 : Int32) = cI 0 from rfl, cI_or, Nat.or_zero]
        · rw [← e6, bm_s _ (by omega) (by unfold spf; simp [c, hbit]), c_succ]
def lof (q : Sg) (k : Nat) : Bool := hdq (sn q) (sp q) (sb q) (some k) (fd k (sd q))
theorem pr_looks {q : Sg} (hw : WF q) : Pr f_Da_looks f_Mo_looks q := by
  refine ⟨cI (bm (lof q) 12), q, hw, fun g hg => ?_, fun g hg => ?_⟩
  · unfold f_Da_looks
    refine ok_bindm (Q := fun e => e.1 = cI (bm (lof q) 12) ∧ FT g e.2) ?_ (fun e he => ok_some ⟨he.1, FT_I hw hg he.2⟩)
    refine ok_lp (fun j st => ∃ z, st = (cI (bm (lof q) j), cI j, z) ∧ FT g z) 12 5000 0 _ (by omega) (by omega) ⟨g, rfl, FT_rf g⟩ ?_
    rintro j st hj ⟨z, rfl, hz⟩
    show Ok (b_Da_looks_4 (cI (bm (lof q) j)) (cI j) z) _
    unfold b_Da_looks_4
    by_cases hj2 : j = 12
    · subst hj2
      exact ok_pos (le_yes (a := 12) (Nat.le_refl _) (by decide)) (ok_some ⟨rfl, hz⟩)
    · have hj' : j < 12 := by omega
      refine ok_neg (le_no (a := 12) hj' (by decide)) (ok_bindm (da_hL (FT_I hw hg hz).1 hj') (fun p hp => ok_grd hp.1 (fun c => ok_some ⟨hj', p.2, ?_, FT_tr hz hp.2.2⟩) (fun c => ok_some ⟨hj', p.2, ?_, FT_tr hz hp.2.2⟩)))
      · rw [bm_n _ c, c_succ]
      · rw [bm_s _ hj' c, c_succ]
  · unfold f_Mo_looks
    refine ok_bindm (Q := fun e => e.1 = cI (bm (lof q) 12) ∧ FM g e.2) ?_ (fun e he => ok_some ⟨he.1, IM_f hg he.2, FM_K he.2⟩)
    refine ok_lp (fun j st => ∃ z, st = (cI (bm (lof q) j), cI j, z) ∧ FM g z) 12 5000 0 _ (by omega) (by omega) ⟨g, rfl, FM_rf g⟩ ?_
    rintro j st hj ⟨z, rfl, hz⟩
    show Ok (b_Mo_looks_4 (cI (bm (lof q) j)) (cI j) z) _
    unfold b_Mo_looks_4
    by_cases hj2 : j = 12
    · subst hj2
      exact ok_pos (le_yes (a := 12) (Nat.le_refl _) (by decide)) (ok_some ⟨rfl, hz⟩)
    · have hj' : j < 12 := by omega
      refine ok_neg (le_no (a := 12) hj' (by decide)) (ok_bindm (mo_wL hw (IM_f hg hz) hj') (fun r hr => ok_grd hr.2.2.2.1 (fun c => ok_some ⟨hj', r, ?_, FM_tr hz hr.1⟩) (fun c => ok_some ⟨hj', r, ?_, FM_tr hz hr.1⟩)))
      · rw [bm_n _ c, c_succ, show (0 : Int32) = cI 0 from rfl, cI_or, Nat.or_zero]
      · rw [bm_s _ hj' c, c_succ]
/-! the least set: frail, fewest -/
def pc (s : Nat) : Nat := cnf (fun j => s.testBit j) 12
theorem pc_k : ∀ a : Nat, a < 64 → ∀ b : Nat, b < 64 → f_In_bitCount (cI (64 * a + b)) z2 = cI (pc (64 * a + b)) := by decide +kernel
theorem pc_e {s : Nat} (h : s < 4096) (g : M2) : f_In_bitCount (cI s) g = cI (pc s) := by
  have := pc_k (s / 64) (by omega) (s % 64) (by omega)
  rw [show 64 * (s / 64) + s % 64 = s by omega] at this
  exact this
theorem pc_le (s : Nat) : pc s ≤ 12 := by
  have := cf_le (f := fun j => s.testBit j) (g := fun _ => true) (fun _ _ => rfl) 12
  rw [cf_t] at this
  exact this
theorem pc_5 : ∀ s : Nat, s < 32 → pc s ≤ 5 := by decide +kernel
/-- the least by count, then by number -/
def LM (V : Nat → Prop) (N : Nat) (o : Option Nat) : Prop := match o with
  | none => ∀ t, t < N → ¬ V t
  | some s => s < N ∧ V s ∧ ∀ t, t < N → V t → pc s < pc t ∨ pc s = pc t ∧ s ≤ t
theorem LM_uq {V : Nat → Prop} {N : Nat} {o p : Option Nat} (h : LM V N o) (k : LM V N p) : o = p := by
  cases o with
  | none =>
    cases p with
    | none => rfl
    | some t => exact absurd k.2.1 (h t k.1)
  | some s =>
    cases p with
    | none => exact absurd h.2.1 (k s h.1)
    | some t =>
      have h1 := h.2.2 t k.1 k.2.1
      have h2 := k.2.2 s h.1 h.2.1
      have : s = t := by omega
      rw [this]
theorem LM_ex (V : Nat → Prop) (N : Nat) : ∃ o, LM V N o := by
  induction N with
  | zero => exact ⟨none, fun t ht => absurd ht (by omega)⟩
  | succ N ih =>
    obtain ⟨o, ho⟩ := ih
    by_cases hV : V N
    · cases o with
      | none =>
        refine ⟨some N, Nat.lt_succ_self N, hV, fun t ht hVt => ?_⟩
        by_cases htN : t = N
        · subst htN; exact Or.inr ⟨rfl, Nat.le_refl _⟩
        · exact absurd hVt (ho t (by omega))
      | some s =>
        by_cases hlt : pc N < pc s
        · refine ⟨some N, Nat.lt_succ_self N, hV, fun t ht hVt => ?_⟩
          by_cases htN : t = N
          · subst htN; exact Or.inr ⟨rfl, Nat.le_refl _⟩
          · have := ho.2.2 t (by omega) hVt; omega
        · refine ⟨some s, by have := ho.1; omega, ho.2.1, fun t ht hVt => ?_⟩
          by_cases htN : t = N
          · subst htN; have := ho.1; omega
          · exact ho.2.2 t (by omega) hVt
    · cases o with
      | none =>
        refine ⟨none, fun t ht hVt => ?_⟩
        by_cases htN : t = N
        · subst htN; exact hV hVt
        · exact ho t (by omega) hVt
      | some s =>
        refine ⟨some s, by have := ho.1; omega, ho.2.1, fun t ht hVt => ?_⟩
        by_cases htN : t = N
        · subst htN; exact absurd hVt hV
        · exact ho.2.2 t (by omega) hVt
theorem LM_s {V : Nat → Prop} {N : Nat} {o : Option Nat} (h : LM V N o) : (¬ V N → LM V (N + 1) o) ∧ (V N → o = none → LM V (N + 1) (some N)) ∧ (V N → ∀ s, o = some s → pc N < pc s → LM V (N + 1) (some N)) ∧ (∀ s, o = some s → ¬ pc N < pc s → LM V (N + 1) (some s)) := by
  refine ⟨fun hV => ?_, fun hV e => ?_, fun hV s e hlt => ?_, fun s e hlt => ?_⟩
  · cases o with
    | none =>
      intro t ht hVt
      by_cases htN : t = N
      · subst htN; exact hV hVt
      · exact h t (by omega) hVt
    | some s =>
      refine ⟨by have := h.1; omega, h.2.1, fun t ht hVt => ?_⟩
      by_cases htN : t = N
      · subst htN; exact absurd hVt hV
      · exact h.2.2 t (by omega) hVt
  · subst e
    refine ⟨Nat.lt_succ_self N, hV, fun t ht hVt => ?_⟩
    by_cases htN : t = N
    · subst htN; exact Or.inr ⟨rfl, Nat.le_refl _⟩
    · exact absurd hVt (h t (by omega))
  · subst e
    refine ⟨Nat.lt_succ_self N, hV, fun t ht hVt => ?_⟩
    by_cases htN : t = N
    · subst htN; exact Or.inr ⟨rfl, Nat.le_refl _⟩
    · have := h.2.2 t (by omega) hVt; omega
  · subst e
    refine ⟨by have := h.1; omega, h.2.1, fun t ht hVt => ?_⟩
    by_cases htN : t = N
    · subst htN; have := h.1; omega
    · exact h.2.2 t (by omega) hVt
/-- sets of those that work -/
abbrev wbt (n b : Nat) : Nat := (2 ^ n - 1) &&& (31 ^^^ b)
theorem sub_k : ∀ s : Nat, s < 32 → ∀ w : Nat, w < 32 → (cI s &&& (cI w ^^^ (-1 : Int32)) = 0 ↔ s &&& (31 ^^^ w) = 0) := by decide +kernel
theorem wb_n : ∀ n : Nat, n < 6 → ∀ b : Nat, b < 2 ^ n → ∀ s : Nat, s < 32 → (s &&& (31 ^^^ wbt n b) = 0 ↔ s < 2 ^ n ∧ s &&& b = 0) := by decide +kernel
theorem nt5 : ∀ s : Nat, s < 32 → (31 : Int32) &&& (cI s ^^^ (-1 : Int32)) = cI (31 ^^^ s) ∧ 31 ^^^ s < 32 := by decide +kernel
theorem or_nt5 : ∀ s : Nat, s < 32 → ∀ b : Nat, b < 32 → s &&& b = 0 → b ||| (31 ^^^ s) = 31 ^^^ s := by decide +kernel
theorem or_lt5 : ∀ s : Nat, s < 32 → ∀ b : Nat, b < 32 → b ||| s < 32 := by decide +kernel
theorem and_k : ∀ n : Nat, n < 6 → ∀ s : Nat, s < 2 ^ n → ∀ b : Nat, b < 2 ^ n → (s &&& b = 0 ↔ ∀ e : Nat, e < n → ¬ (b.testBit e = true ∧ s.testBit e = true)) := by decide +kernel
/-- broken ones of a try -/
def kbr (q : Sg) (kept : Bool) (s : Nat) : Nat := if kept then 31 ^^^ s else sb q ||| s
/-- a set that does -/
def VS (q : Sg) (kept : Bool) (s : Nat) : Prop := s < 2 ^ sn q ∧ s &&& sb q = 0 ∧ hdq (sn q) (sp q) (kbr q kept s) (sl q) (sd q) = kept
abbrev kI (kept : Bool) : Int32 := if kept then 1 else 0
theorem kI_e (b kept : Bool) : (if b then (1 : Int32) else 0) = kI kept ↔ b = kept := by
  cases b <;> cases kept <;> decide
theorem da_least {g : M2} {q : Sg} (hw : WF q) (hg : IC g q) (kept : Bool) {o : Option Nat} (ho : LM (VS q kept) 32 o) : Ok (f_Da_leastSet (kI kept) g) (fun p => p.1 = lkI o ∧ FT g p.2) := by
  have hn := hw.1
  have hb := b32 hw
  have hb2 := hw.2.2.2.1
  have ew : f_Pl_workingBits 7 g = cI (wbt (sn q) (sb q)) := by
    unfold f_Pl_workingBits
    rw [hg.1.1, hg.1.2.2.2.1]
    exact (wkb (sn q) (by omega) (sb q) hb).1
  have hwb : wbt (sn q) (sb q) < 32 := (wkb (sn q) (by omega) (sb q) hb).2.2
  unfold f_Da_leastSet
  rw [ew]
  refine ok_bindm (Q := fun u => Sum.elim (fun z => o = none ∧ FT g z) (fun p => p.1 = lkI o ∧ FT g p.2) u) ?_ (fun u hu => ?_)
  · refine ok_for 6 (by decide) (fun j z => FT g z ∧ ∀ t, t < 32 → VS q kept t → j ≤ pc t) ⟨FT_rf g, fun _ _ _ => Nat.zero_le _⟩ ?_ ?_
    · rintro j z hj ⟨z1, z2⟩
      show Ok (b_Da_leastSet_7 (kI kept) (cI (wbt (sn q) (sb q))) (cI j) z) _
      unfold b_Da_leastSet_7
      refine ok_neg (lt_no (b := j) (a := 5) (by omega) (by decide)) ?_
      refine ok_bindm (Q := fun u => Sum.elim (fun w => FT g w ∧ ∀ t, t < 32 → VS q kept t → pc t ≠ j) (fun p => p.1 = lkI o ∧ FT g p.2) u) ?_ (fun u hu => ?_)
      · refine ok_for 32 (by decide) (fun s w => FT g w ∧ ∀ t, t < s → VS q kept t → pc t ≠ j) ⟨z1, fun t ht => absurd ht (by omega)⟩ ?_ ?_
        · rintro s w hs ⟨w1, w2⟩
          show Ok (b_Da_leastSet_12 (kI kept) (cI (wbt (sn q) (sb q))) (cI j) (cI s) w) _
          unfold b_Da_leastSet_12
          have hI := (FT_I hw hg w1).1
          have hps := pc_5 s hs
          have skip : ¬ (VS q kept s ∧ pc s = j) → ∀ t, t < s + 1 → VS q kept t → pc t ≠ j := fun hn t ht hV e => by
            by_cases hts : t = s
            · subst hts; exact hn ⟨hV, e⟩
            · exact w2 t (by omega) hV e
          refine ok_neg (lt_no (b := s) (a := 31) (by omega) (by decide)) ?_
          rw [pc_e (by omega) w]
          refine ok_if (fun c1 => ?_) (fun c1 => ok_some ⟨c_succ s, w1, skip (fun e => c1 (by rw [e.2]))⟩)
          rw [cI_inj (by omega) (by omega)] at c1
          refine ok_if (fun c2 => ?_) (fun c2 => ok_some ⟨c_succ s, w1, skip (fun e => c2 ?_)⟩)
          · rw [sub_k s hs _ hwb, wb_n (sn q) (by omega) (sb q) hb2 s hs] at c2
            have done : ∀ (x : Int32) (b : Nat), x = cI b → b < 32 → b = kbr q kept s → Ok ((f_Da_holdsBroken x w).bind fun q6 => if q6.1 = kI kept then some (Sum.inr (Sum.inr (cI s, q6.2))) else some (Sum.inl (cI s + (1 : Int32), q6.2))) (fun r => Sum.elim (fun s2 => s2.1 = cI (s + 1) ∧ FT g s2.2 ∧ ∀ t, t < s + 1 → VS q kept t → pc t ≠ j) (fun u => Sum.elim (fun w => FT g w ∧ ∀ t, t < 32 → VS q kept t → pc t ≠ j) (fun p => p.1 = lkI o ∧ FT g p.2) u) r) := by
              intro x b hx hb3 hbk
              subst hx
              refine ok_bindm (da_hB hI hb3) (fun p hp => ?_)
              rw [hp.1]
              refine ok_if (fun c3 => ok_some ⟨?_, FT_tr w1 hp.2.2⟩) (fun c3 => ok_some ⟨c_succ s, FT_tr w1 hp.2.2, skip (fun e => c3 ?_)⟩)
              · rw [kI_e] at c3
                have hV : VS q kept s := ⟨c2.1, c2.2, by rw [← hbk]; exact c3⟩
                have : o = some s := LM_uq ho (show LM (VS q kept) 32 (some s) from ⟨hs, hV, fun t ht hVt => by
                  have h1 := z2 t ht hVt
                  by_cases hpt : pc t = j
                  · have h2 : ¬ t < s := fun hts => w2 t hts hVt hpt
                    omega
                  · omega⟩)
                rw [this]; rfl
              · rw [kI_e, hbk]; exact e.1.2.2
            cases kept with
            | false =>
              refine ok_pos rfl ?_
              rw [hI.1.2.2.2.1, cI_or]
              exact done _ _ rfl (or_lt5 s hs _ hb) rfl
            | true =>
              refine ok_neg (by decide) ?_
              exact done _ _ (nt5 s hs).1 (nt5 s hs).2 rfl
          · rw [sub_k s hs _ hwb, wb_n (sn q) (by omega) (sb q) hb2 s hs]
            exact ⟨e.1.1, e.1.2.1⟩
        · rintro w ⟨w1, w2⟩
          show Ok (b_Da_leastSet_12 (kI kept) (cI (wbt (sn q) (sb q))) (cI j) (cI 32) w) _
          unfold b_Da_leastSet_12
          exact ok_pos (lt_yes (a := 31) (b := 32) (by decide) (by decide)) (ok_some ⟨w1, w2⟩)
      · cases u with
        | inl w => exact ok_some ⟨c_succ j, hu.1, fun t ht hV => by have := z2 t ht hV; have := hu.2 t ht hV; omega⟩
        | inr p => exact ok_some hu
    · rintro z ⟨z1, z2⟩
      show Ok (b_Da_leastSet_7 (kI kept) (cI (wbt (sn q) (sb q))) (cI 6) z) _
      unfold b_Da_leastSet_7
      refine ok_pos (lt_yes (a := 5) (b := 6) (by decide) (by decide)) (ok_some ⟨?_, z1⟩)
      refine LM_uq ho (show LM (VS q kept) 32 none from fun t ht hV => ?_)
      have := z2 t ht hV
      have := pc_5 t ht
      omega
  · cases u with
    | inl z => exact ok_some ⟨by rw [hu.1]; rfl, hu.2⟩
    | inr p => exact ok_some hu
theorem VS_32 {q : Sg} (hw : WF q) {kept : Bool} {o : Option Nat} (h : LM (VS q kept) (2 ^ sn q) o) : LM (VS q kept) 32 o := by
  have hn := hw.1
  have hp : 2 ^ sn q ≤ 2 ^ 5 := Nat.pow_le_pow_right (by decide) hn
  cases o with
  | none => exact fun t ht hV => h t hV.1 hV
  | some s => exact ⟨by have := h.1; omega, h.2.1, fun t ht hV => h.2.2 t hV.1 hV⟩
theorem mo_isF {g : M2} {q : Sg} (hw : WF q) (h : WD g q) (v1 : Int32) {s : Nat} (hs : s < 2 ^ sn q) (b0 : Bool) : lp (fun st => b_Mo_frailSet_26 v1 (cI s) st.1 st.2 g) 5000 ((if b0 then (1 : Int32) else 0), (0 : Int32)) = some (if b0 = true ∧ s &&& sb q = 0 then 1 else 0) := by
  have hn := hw.1
  have hb2 := hw.2.2.2.1
  have hp : 2 ^ sn q ≤ 2 ^ 5 := Nat.pow_le_pow_right (by decide) hn
  have key := and_k (sn q) (by omega) s hs (sb q) hb2
  refine ok_to ?_
  refine ok_lp (fun j st => ∃ b : Bool, st = ((if b then (1 : Int32) else 0), cI j) ∧ (b = true ↔ b0 = true ∧ ∀ e, e < j → ¬ ((sb q).testBit e = true ∧ s.testBit e = true))) (sn q) 5000 0 _ (by omega) (by omega) ⟨b0, rfl, ⟨fun e => ⟨e, fun k hk => absurd hk (by omega)⟩, fun e => e.1⟩⟩ ?_
  rintro j st hj ⟨b, rfl, hI⟩
  show Ok (b_Mo_frailSet_26 v1 (cI s) (if b then (1 : Int32) else 0) (cI j) g) _
  unfold b_Mo_frailSet_26
  rw [h.2.1]
  by_cases hj2 : j = sn q
  · refine ok_pos (le_yes (by omega) (by omega)) (ok_some ?_)
    show (if b then (1 : Int32) else 0) = _
    have : b = true ↔ (b0 = true ∧ s &&& sb q = 0) := by rw [hI, key, hj2]
    by_cases hbt : b = true
    · rw [if_pos hbt, if_pos (this.mp hbt)]
    · rw [if_neg hbt, if_neg (fun e => hbt (this.mpr e))]
  · have hj' : j < sn q := by omega
    refine ok_neg (le_no hj' (by omega)) (ok_grd rfl (fun c => ok_some ⟨hj', false, by rw [c_succ]; rfl, ?_⟩) (fun c => ok_binde (mo_isBroken h hj' hn) ?_))
    · refine ⟨fun e => (by cases e), fun e => absurd (hI.mpr ⟨e.1, fun k hk => e.2 k (by omega)⟩) c⟩
    · have ext : ∀ P : Prop, ((P → ¬ ((sb q).testBit j = true ∧ s.testBit j = true))) → (P ↔ b0 = true ∧ ∀ e, e < j → ¬ ((sb q).testBit e = true ∧ s.testBit e = true)) → P → (b0 = true ∧ ∀ e, e < j + 1 → ¬ ((sb q).testBit e = true ∧ s.testBit e = true)) := by
        intro P h1 h2 hP
        refine ⟨(h2.mp hP).1, fun e he => ?_⟩
        by_cases hej : e = j
        · subst hej; exact h1 hP
        · exact (h2.mp hP).2 e (by omega)
      by_cases hbit : (sb q).testBit j = true
      · rw [if_pos hbit]
        refine ok_neg (by decide) ?_
        rw [tb5 s (by omega) j (by omega)]
        by_cases hsb : s.testBit j = true
        · rw [if_pos hsb]
          refine ok_pos rfl (ok_some ⟨hj', false, by rw [c_succ]; rfl, ⟨fun e => (by cases e), fun e => absurd ⟨hbit, hsb⟩ (e.2 j (by omega))⟩⟩)
        · rw [if_neg hsb]
          refine ok_neg (by decide) (ok_some ⟨hj', true, by rw [c_succ]; rfl, ⟨fun _ => ext (b = true) (fun _ e => hsb e.2) hI c, fun _ => rfl⟩⟩)
      · rw [if_neg hbit]
        exact ok_pos rfl (ok_some ⟨hj', true, by rw [c_succ]; rfl, ⟨fun _ => ext (b = true) (fun _ e => hbit e.1) hI c, fun _ => rfl⟩⟩)
theorem mo_isW {g : M2} {q : Sg} (hw : WF q) (h : WD g q) (v1 v2 : Int32) {s : Nat} (hs : s < 2 ^ sn q) (b0 : Bool) : lp (fun st => b_Mo_fewest_34 v1 v2 (cI s) st.1 st.2 g) 5000 ((if b0 then (1 : Int32) else 0), (0 : Int32)) = some (if b0 = true ∧ s &&& sb q = 0 then 1 else 0) := mo_isF hw h v2 hs b0
theorem mo_frailSet {g : M2} {q : Sg} (hw : WF q) (hg : IM g q) {o : Option Nat} (ho : LM (VS q false) 32 o) : Ok (f_Mo_frailSet g) (fun p => p.1 = lkI o ∧ FM g p.2) := by
  have hn := hw.1
  have hp : 2 ^ sn q ≤ 2 ^ 5 := Nat.pow_le_pow_right (by decide) hn
  unfold f_Mo_frailSet
  refine ok_bindm (Q := fun e => e.1 = lkI o ∧ FM g e.2) ?_ (fun e he => ok_some he)
  refine ok_lp (fun s st => ∃ o z, st = (lkI o, cI s, z) ∧ LM (VS q false) s o ∧ FM g z) (2 ^ sn q) 5000 0 _ (by omega) (Nat.zero_le _) ⟨none, g, rfl, fun t ht => absurd ht (by omega), FM_rf g⟩ ?_
  rintro s st hs ⟨o2, z, rfl, hL, hz⟩
  show Ok (b_Mo_frailSet_4 (lkI o2) (cI s) z) _
  unfold b_Mo_frailSet_4
  have hI := IM_f hg hz
  rw [hI.2.1.2.1, pow5 (sn q) (by omega)]
  by_cases hs2 : s = 2 ^ sn q
  · refine ok_pos (le_yes (by omega) (by omega)) (ok_some ⟨?_, hz⟩)
    rw [hs2] at hL
    show lkI o2 = lkI o
    rw [LM_uq (VS_32 hw hL) ho]
  · have hs' : s < 2 ^ sn q := by omega
    obtain ⟨L1, L2, L3, L4⟩ := LM_s hL
    refine ok_neg (le_no hs' (by omega)) ?_
    have run : ∀ b0 : Bool, (b0 = true → o2 = none ∨ ∃ t, o2 = some t ∧ pc s < pc t) → (¬ b0 = true → ∃ t, o2 = some t ∧ ¬ pc s < pc t) → Ok (j_Mo_frailSet_24 (lkI o2) (cI s) (if b0 then (1 : Int32) else 0) z) (fun r => Sum.elim (fun s2 => s < 2 ^ sn q ∧ ∃ o z, s2 = (lkI o, cI (s + 1), z) ∧ LM (VS q false) (s + 1) o ∧ FM g z) (fun e => e.1 = lkI o ∧ FM g e.2) r) := by
      intro b0 hb1 hb0
      unfold j_Mo_frailSet_24
      refine ok_binde (mo_isF hw hI.2.1 (lkI o2) hs' b0) (ok_grd rfl (fun c => ok_some ⟨hs', o2, z, by rw [c_succ], ?_, hz⟩) (fun c => ok_binde (look_now hI.2.1) (ok_bindm (mo_wB hw hI (b := s) (by omega)) (fun r hr => ?_))))
      · by_cases hb : b0 = true
        · exact L1 (fun hV => c ⟨hb, hV.2.1⟩)
        · obtain ⟨t, ht, hlt⟩ := hb0 hb
          rw [ht]; exact L4 t ht hlt
      · refine ok_grd hr.2.2.2.1 (fun d => ok_some ⟨hs', some s, r, by rw [c_succ]; rfl, ?_, FM_tr hz hr.1⟩) (fun d => ok_some ⟨hs', o2, r, by rw [c_succ], ?_, FM_tr hz hr.1⟩)
        · have hV : VS q false s := ⟨hs', c.2, Bool.eq_false_iff.mpr d⟩
          rcases hb1 c.1 with e | ⟨t, ht, hlt⟩
          · exact L2 hV e
          · exact L3 hV t ht hlt
        · refine L1 (fun hV => ?_)
          have h3 := hV.2.2
          have d2 : hdq (sn q) (sp q) (kbr q false s) (sl q) (sd q) = true := d
          rw [h3] at d2
          cases d2
    cases ho2 : o2 with
    | none =>
      refine ok_pos rfl ?_
      have := run true (fun _ => Or.inl ho2) (fun e => absurd rfl e)
      rw [ho2] at this
      exact this
    | some t =>
      have ht : t < s := by rw [ho2] at hL; exact hL.1
      have hpt := pc_5 t (by omega)
      have hps := pc_5 s (by omega)
      refine ok_neg (cI_m1 (b := t) (by omega)) ?_
      rw [show lkI (some t) = cI t from rfl, pc_e (by omega), pc_e (by omega)]
      refine ok_if (fun c => ?_) (fun c => ?_)
      · rw [cI_le (by omega) (by omega)] at c
        have := run false (fun e => (by cases e)) (fun _ => ⟨t, ho2, by omega⟩)
        rw [ho2] at this
        exact this
      · rw [cI_le (by omega) (by omega)] at c
        have := run true (fun _ => Or.inr ⟨t, ho2, by omega⟩) (fun e => absurd rfl e)
        rw [ho2] at this
        exact this
theorem pr_frail {q : Sg} (hw : WF q) (x : Int32) : Pr (f_Da_frail x) (f_Mo_frail x) q := by
  obtain ⟨o, ho⟩ := LM_ex (VS q false) 32
  refine ⟨if inb x 2 then (if x = 0 then f_In_bitCount (lkI o) z2 else lkI o) else -2, q, hw, fun g hg => ?_, fun g hg => ?_⟩
  · unfold f_Da_frail
    rw [show (2 : Int32) = cI 2 from rfl]
    refine ok_grd (da_among (by decide) g) (fun n => ok_some ⟨(if_neg n).symm, hg, KC_rf g⟩) (fun c => ?_)
    rw [if_pos c]
    refine ok_bindm (da_least hw hg false ho) (fun p hp => ?_)
    rw [hp.1]
    refine ok_if (fun d => ok_some ⟨by rw [if_pos d]; rfl, FT_I hw hg hp.2⟩) (fun d => ok_some ⟨by rw [if_neg d], FT_I hw hg hp.2⟩)
  · unfold f_Mo_frail
    rw [show (1 : Int64) = Int64.ofInt (((2 : Nat) : Int) - 1) from rfl]
    refine ok_grd (mo_in0 (by decide) g) (fun n => ok_some ⟨(if_neg n).symm, hg, KM_rf g⟩) (fun c => ?_)
    rw [if_pos c]
    refine ok_bindm (mo_frailSet hw hg ho) (fun p hp => ?_)
    rw [hp.1]
    refine ok_if (fun d => ok_some ⟨by rw [if_pos d]; rfl, IM_f hg hp.2, FM_K hp.2⟩) (fun d => ok_some ⟨by rw [if_neg d], IM_f hg hp.2, FM_K hp.2⟩)
theorem mo_fewestSet {g : M2} {q : Sg} (hw : WF q) (hg : IM g q) (x : Int32) {o : Option Nat} (ho : LM (VS q true) 32 o) : Ok (lp (fun s => b_Mo_fewest_12 x s.1 s.2.1 s.2.2) 5000 ((-1 : Int32), (0 : Int32), g)) (fun p => p.1 = lkI o ∧ FM g p.2) := by
  have hn := hw.1
  have hp : 2 ^ sn q ≤ 2 ^ 5 := Nat.pow_le_pow_right (by decide) hn
  refine ok_lp (fun s st => ∃ o z, st = (lkI o, cI s, z) ∧ LM (VS q true) s o ∧ FM g z) (2 ^ sn q) 5000 0 _ (by omega) (Nat.zero_le _) ⟨none, g, rfl, fun t ht => absurd ht (by omega), FM_rf g⟩ ?_
  rintro s st hs ⟨o2, z, rfl, hL, hz⟩
  show Ok (b_Mo_fewest_12 x (lkI o2) (cI s) z) _
  unfold b_Mo_fewest_12
  have hI := IM_f hg hz
  rw [hI.2.1.2.1, pow5 (sn q) (by omega)]
  by_cases hs2 : s = 2 ^ sn q
  · refine ok_pos (le_yes (by omega) (by omega)) (ok_some ⟨?_, hz⟩)
    rw [hs2] at hL
    show lkI o2 = lkI o
    rw [LM_uq (VS_32 hw hL) ho]
  · have hs' : s < 2 ^ sn q := by omega
    obtain ⟨L1, L2, L3, L4⟩ := LM_s hL
    refine ok_neg (le_no hs' (by omega)) ?_
    have run : ∀ b0 : Bool, (b0 = true → o2 = none ∨ ∃ t, o2 = some t ∧ pc s < pc t) → (¬ b0 = true → ∃ t, o2 = some t ∧ ¬ pc s < pc t) → Ok (j_Mo_fewest_32 x (lkI o2) (cI s) (if b0 then (1 : Int32) else 0) z) (fun r => Sum.elim (fun s2 => s < 2 ^ sn q ∧ ∃ o z, s2 = (lkI o, cI (s + 1), z) ∧ LM (VS q true) (s + 1) o ∧ FM g z) (fun e => e.1 = lkI o ∧ FM g e.2) r) := by
      intro b0 hb1 hb0
      unfold j_Mo_fewest_32
      refine ok_binde (mo_isW hw hI.2.1 x (lkI o2) hs' b0) (ok_grd rfl (fun c => ok_some ⟨hs', o2, z, by rw [c_succ], ?_, hz⟩) (fun c => ok_binde (look_now hI.2.1) ?_))
      · by_cases hb : b0 = true
        · exact L1 (fun hV => c ⟨hb, hV.2.1⟩)
        · obtain ⟨t, ht, hlt⟩ := hb0 hb
          rw [ht]; exact L4 t ht hlt
      · rw [(nt5 s (by omega)).1]
        refine ok_bindm (mo_wB hw hI (b := 31 ^^^ s) (nt5 s (by omega)).2) (fun r hr => ?_)
        have ek : sb q ||| (31 ^^^ s) = kbr q true s := or_nt5 s (by omega) (sb q) (b32 hw) c.2
        have h15 := hr.2.2.2.1
        rw [ek] at h15
        refine ok_grd h15 (fun d => ok_some ⟨hs', o2, r, by rw [c_succ], ?_, FM_tr hz hr.1⟩) (fun d => ok_some ⟨hs', some s, r, by rw [c_succ]; rfl, ?_, FM_tr hz hr.1⟩)
        · exact L1 (fun hV => d hV.2.2)
        · have hV : VS q true s := ⟨hs', c.2, d⟩
          rcases hb1 c.1 with e | ⟨t, ht, hlt⟩
          · exact L2 hV e
          · exact L3 hV t ht hlt
    cases ho2 : o2 with
    | none =>
      refine ok_pos rfl ?_
      have := run true (fun _ => Or.inl ho2) (fun e => absurd rfl e)
      rw [ho2] at this
      exact this
    | some t =>
      have ht : t < s := by rw [ho2] at hL; exact hL.1
      have hpt := pc_5 t (by omega)
      have hps := pc_5 s (by omega)
      refine ok_neg (cI_m1 (b := t) (by omega)) ?_
      rw [show lkI (some t) = cI t from rfl, pc_e (by omega), pc_e (by omega)]
      refine ok_if (fun c => ?_) (fun c => ?_)
      · rw [cI_le (by omega) (by omega)] at c
        have := run false (fun e => (by cases e)) (fun _ => ⟨t, ho2, by omega⟩)
        rw [ho2] at this
        exact this
      · rw [cI_le (by omega) (by omega)] at c
        have := run true (fun _ => Or.inr ⟨t, ho2, by omega⟩) (fun e => absurd rfl e)
        rw [ho2] at this
        exact this
theorem pr_fewest {q : Sg} (hw : WF q) (x : Int32) : Pr (f_Da_fewest x) (f_Mo_fewest x) q := by
  obtain ⟨o, ho⟩ := LM_ex (VS q true) 32
  have hx01 : inb x 2 → x = 0 ∨ x = 1 := fun c2 => by
    have h2 := inb_int.mp c2
    have : x.toInt = 0 ∨ x.toInt = 1 := by omega
    rcases this with e | e
    · exact Or.inl (Int32.toInt_inj.mp e)
    · exact Or.inr (Int32.toInt_inj.mp e)
  refine ⟨if inb x 2 then (if x = 1 then lkI o else if lkI o = -1 then lkI o else f_In_bitCount (lkI o) z2) else -2, q, hw, fun g hg => ?_, fun g hg => ?_⟩
  · unfold f_Da_fewest
    rw [show (2 : Int32) = cI 2 from rfl]
    refine ok_grd (da_among (by decide) g) (fun n => ok_some ⟨(if_neg n).symm, hg, KC_rf g⟩) (fun c => ?_)
    rw [if_pos c]
    refine ok_bindm (da_least hw hg true ho) (fun p hp => ?_)
    rw [hp.1]
    have hI := FT_I hw hg hp.2
    refine ok_if (fun d => ok_some ⟨by rw [if_pos d], hI⟩) (fun d => ok_if (fun d2 => ok_some ⟨by rw [if_neg d, if_pos d2], hI⟩) (fun d2 => ok_some ⟨by rw [if_neg d, if_neg d2]; rfl, hI⟩))
  · unfold f_Mo_fewest
    rw [show (1 : Int64) = Int64.ofInt (((2 : Nat) : Int) - 1) from rfl]
    refine ok_grd (mo_in0 (by decide) g) (fun n => ok_some ⟨(if_neg n).symm, hg, KM_rf g⟩) (fun c => ?_)
    rw [if_pos c]
    refine ok_bindm (mo_fewestSet hw hg x ho) (fun p hp => ?_)
    rw [hp.1]
    have hI : IM p.2 q ∧ KM g p.2 := ⟨IM_f hg hp.2, FM_K hp.2⟩
    refine ok_if (fun d => ok_some ⟨?_, hI⟩) (fun d => ok_if (fun d2 => ok_some ⟨?_, hI⟩) (fun d2 => ok_some ⟨?_, hI⟩))
    · rw [if_pos d, ite_self]; exact d.symm
    · rw [if_neg (show ¬ x = 1 by rw [d2]; decide), if_neg d]; rfl
    · have : x = 1 := (hx01 c).resolve_left d2
      rw [if_pos this]
