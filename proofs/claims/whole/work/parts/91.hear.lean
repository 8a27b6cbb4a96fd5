/-! deaf directions: asked, added, taken out -/
theorem tkS {l : List Nat} {k : Nat} (h : k < l.length) : l.take (k + 1) = l.take k ++ [l.getD k 0] := take_app _ h
theorem pl_deafBits {g : M2} {p n : Nat} {pos : Nat → Nat} {br : Nat} {lk : Option Nat} {ds : List Nat} (h : PL g p n pos br lk ds) : f_Pl_deafBits p g = some (cI (db ds)) := by
  obtain ⟨_, _, _, _, _, _, _, p8, p9, p10⟩ := h
  refine ok_to ?_
  unfold f_Pl_deafBits
  refine ok_bindm (Q := fun r => r = cI (db ds)) ?_ (fun r hr => ok_some hr)
  refine ok_lp (fun k s => s = (cI (db (ds.take k)), cI k)) ds.length 5000 0 _ (by omega) (by omega) rfl ?_
  intro k s hk hs
  subst hs
  show Ok (b_Pl_deafBits_4 p (cI (db (ds.take k))) (cI k) g) _
  unfold b_Pl_deafBits_4
  rw [p8]
  by_cases hkn : k = ds.length
  · rw [hkn]
    exact ok_pos (le_yes (Nat.le_refl _) (by omega)) (ok_some (by rw [List.take_length]; rfl))
  · have hk' : k < ds.length := by omega
    refine ok_neg (le_no hk' (by omega)) (ok_pos (inb_cI (by omega) (by decide)) (ok_some ⟨hk', ?_⟩))
    rw [cI_nat (by omega), (p10 k hk').1, sh12 _ (p10 k hk').2, cI_or, c_succ, tkS hk']
    unfold db
    rw [List.foldl_append]
    rfl
theorem mem_getD {l : List Nat} {k : Nat} : k ∈ l ↔ ∃ i, i < l.length ∧ l.getD i 0 = k := by
  rw [List.mem_iff_getElem]
  constructor
  · rintro ⟨i, hi, h⟩
    exact ⟨i, hi, by rw [List.getD_eq_getElem?_getD, List.getElem?_eq_getElem hi]; exact h⟩
  · rintro ⟨i, hi, h⟩
    refine ⟨i, hi, ?_⟩
    rw [List.getD_eq_getElem?_getD, List.getElem?_eq_getElem hi] at h; exact h
theorem d12 {q : Sg} (hw : WF q) {i : Nat} (hi : i < (sd q).length) : (sd q).getD i 0 < 12 := hw.2.2.2.2.2.2.1 _ (getD_mem hi)
theorem mo_deafAt {g : M2} {q : Sg} (hw : WF q) (h : WD g q) {k : Nat} (hk : k < 12) : Ok (f_Mo_deafAt (cI k) g) (fun r => (r = -1 ∧ k ∉ sd q) ∨ (¬ r = -1 ∧ ∃ i, i < (sd q).length ∧ (sd q).getD i 0 = k ∧ r = cI i)) := by
  have hd := hw.2.2.2.2.2.1
  unfold f_Mo_deafAt
  refine ok_bindm (Q := fun r => Sum.elim (fun _ => ∀ i, i < (sd q).length → (sd q).getD i 0 ≠ k) (fun a => ∃ i, i < (sd q).length ∧ (sd q).getD i 0 = k ∧ a = cI i) r) ?_ (fun r hr => ?_)
  · refine ok_lp (fun j s => s = cI j ∧ ∀ e, e < j → (sd q).getD e 0 ≠ k) (sd q).length 5000 0 _ (by omega) (by omega) ⟨rfl, fun e he => absurd he (by omega)⟩ ?_
    rintro j s hj ⟨rfl, hs⟩
    show Ok (b_Mo_deafAt_2 (cI k) (cI j) g) _
    unfold b_Mo_deafAt_2
    rw [h.2.2.2.2.2.1]
    by_cases hjn : j = (sd q).length
    · rw [hjn] at hs ⊢
      exact ok_pos (le_yes (Nat.le_refl _) (by omega)) (ok_some hs)
    · have hj' : j < (sd q).length := by omega
      have hp := d12 hw hj'
      rw [show (14 : Int32) = cI 14 from rfl, cI_add]
      refine ok_neg (le_no hj' (by omega)) (ok_pos (inb_cI (by omega) (by decide)) ?_)
      rw [cI_nat (by omega), h.2.2.2.2.2.2.1 j hj']
      by_cases hc : (sd q).getD j 0 = k
      · exact ok_pos (by rw [hc]) (ok_some ⟨j, hj', hc, rfl⟩)
      · refine ok_neg (ne_no hc (by omega) (by omega)) (ok_some ⟨hj', c_succ j, fun e he => ?_⟩)
        by_cases hej : e = j
        · rw [hej]; exact hc
        · exact hs e (by omega)
  · cases r with
    | inl u => exact ok_some (Or.inl ⟨rfl, fun hm => by obtain ⟨i, i1, i2⟩ := mem_getD.mp hm; exact hr i i1 i2⟩)
    | inr a =>
      obtain ⟨e, e1, e2, e3⟩ := hr
      refine ok_some (Or.inr ⟨?_, e, e1, e2, e3⟩)
      have key : ∀ k : Nat, k < 12 → ¬ (cI k = (-1 : Int32)) := by decide +kernel
      rw [e3]; exact key e (by omega)
/-- without k -/
def fd (k : Nat) (ds : List Nat) : List Nat := ds.filter (fun d => decide (d ≠ k))
theorem fd_id {k : Nat} {ds : List Nat} (h : k ∉ ds) : fd k ds = ds := by
  unfold fd
  exact List.filter_eq_self.mpr (fun d hd => decide_eq_true (fun e => h (e ▸ hd)))
theorem fd_erase {k : Nat} : ∀ (ds : List Nat) (i : Nat), ds.Nodup → i < ds.length → ds.getD i 0 = k → fd k ds = ds.eraseIdx i := by
  intro ds
  induction ds with
  | nil => intro i _ hi; simp at hi
  | cons d ds ih =>
    intro i hn hi hg
    rw [List.nodup_cons] at hn
    cases i with
    | zero =>
      have hdk : d = k := by simpa using hg
      subst hdk
      have := fd_id hn.1
      unfold fd at this ⊢
      rw [List.filter_cons, if_neg (by simp), this]; rfl
    | succ i =>
      have hg' : ds.getD i 0 = k := by simpa using hg
      have hi' : i < ds.length := by simpa using hi
      have hne : d ≠ k := fun e => hn.1 (by rw [e, ← hg']; exact getD_mem hi')
      have := ih i hn.2 hi' hg'
      unfold fd at this ⊢
      rw [List.filter_cons, if_pos (decide_eq_true hne), this]; rfl
theorem er_getD (ds : List Nat) (i j : Nat) : (ds.eraseIdx i).getD j 0 = if j < i then ds.getD j 0 else ds.getD (j + 1) 0 := by
  rw [List.getD_eq_getElem?_getD, List.getElem?_eraseIdx]
  split <;> rw [List.getD_eq_getElem?_getD]
theorem mo_takesOut {g : M2} {q : Sg} (hw : WF q) (h : WD g q) {i : Nat} (hi : i < (sd q).length) : Ok (f_Mo_takesOut (cI i) g) (fun r => WD r (sn q, sp q, sb q, sl q, (sd q).eraseIdx i, ss q, sL q, st q, sf q, sP q, so q) ∧ (∀ y, y ≠ 160 → r.1 y = g.1 y) ∧ r.2 = g.2) := by
  have hd := hw.2.2.2.2.2.1
  have hn := hw.1
  obtain ⟨b1, b2, b3, b4, b5, b6, b7, b8⟩ := h
  unfold f_Mo_takesOut
  refine ok_bindm (Q := fun r => r.2 = g.2 ∧ (∀ y, y ≠ 160 → r.1 y = g.1 y) ∧ (∀ j, ¬ (14 ≤ j ∧ j < 18) → r.1 160 j = g.1 160 j) ∧ ∀ j, j + 1 < (sd q).length → r.1 160 (14 + j) = cI (((sd q).eraseIdx i).getD j 0)) ?_ (fun e he => ok_bd (ok_some ?_))
  · refine ok_lp (fun k s => s.1 = cI (i + k) ∧ s.2.2 = g.2 ∧ (∀ y, y ≠ 160 → s.2.1 y = g.1 y) ∧ (∀ j, ¬ (14 ≤ j ∧ j < 18) → s.2.1 160 j = g.1 160 j) ∧ (∀ j, j < i + k → s.2.1 160 (14 + j) = cI (((sd q).eraseIdx i).getD j 0)) ∧ ∀ j, i + k ≤ j → j < (sd q).length → s.2.1 160 (14 + j) = cI ((sd q).getD j 0)) ((sd q).length - 1 - i) 5000 0 _ (by omega) (by omega) ⟨rfl, rfl, fun _ _ => rfl, fun _ _ => rfl, fun j hj => ?_, fun j _ hj => b7 j hj⟩ ?_
    · rw [er_getD, if_pos (by omega)]; exact b7 j (by omega)
    · rintro k ⟨s1, s2⟩ hk ⟨h1, h2, h3, h4, h5, h6⟩
      show Ok (b_Mo_takesOut_2 s1 s2) _
      dsimp only at h1 h2 h3 h4 h5 h6
      subst h1
      unfold b_Mo_takesOut_2
      rw [h4 13 (by omega), b6, c_succ]
      by_cases hkn : k = (sd q).length - 1 - i
      · exact ok_pos (le_yes (by omega) (by omega)) (ok_some ⟨h2, h3, h4, fun j hj => h5 j (by omega)⟩)
      · rw [show (14 : Int32) = cI 14 from rfl, cI_add, c_succ]
        refine ok_neg (le_no (by omega) (by omega)) (ok_pos (inb_cI (by omega) (by decide)) (ok_pos (inb_cI (by omega) (by decide)) (ok_bd (ok_some ⟨by omega, ?_⟩))))
        rw [cI_nat (by omega), cI_nat (by omega)]
        refine ⟨rfl, h2, fun y hy => by rw [uI_o _ _ _ hy]; exact h3 y hy, fun j hj => by rw [uI_k _ _ _ (by omega)]; exact h4 j hj, fun j hj => ?_, fun j hj1 hj2 => by rw [uI_k _ _ _ (by omega)]; exact h6 j (by omega) hj2⟩
        by_cases hje : j = i + k
        · subst hje
          rw [uI_s, er_getD, if_neg (by omega)]
          exact h6 (i + k + 1) (by omega) (by omega)
        · rw [uI_k _ _ _ (by omega)]; exact h5 j (by omega)
  · obtain ⟨e1, e2, e3, e4⟩ := he
    have hlen : ((sd q).eraseIdx i).length = (sd q).length - 1 := List.length_eraseIdx_of_lt hi
    refine ⟨⟨?_, ?_, fun j hj => ?_, fun j hj => ?_, ?_, ?_, fun j hj => ?_, ?_⟩, fun y hy => by rw [uI_o _ _ _ hy]; exact e2 y hy, e1⟩
    · rw [uI_k _ _ _ (by decide), e3 _ (by omega)]; exact b1
    · rw [uI_k _ _ _ (by decide), e3 _ (by omega)]; exact b2
    · have hj' : j < sn q := hj
      rw [uI_k _ _ _ (by omega), e3 _ (by omega)]; exact b3 j hj
    · have hj' : j < sn q := hj
      rw [uI_k _ _ _ (by omega), e3 _ (by omega)]; exact b4 j hj
    · rw [uI_k _ _ _ (by decide), e3 _ (by omega)]; exact b5
    · rw [uI_s, e3 13 (by omega), b6, c_pred (by omega)]
      show cI ((sd q).length - 1) = cI ((sd q).eraseIdx i).length
      rw [hlen]
    · have hj' : j < ((sd q).eraseIdx i).length := hj
      rw [uI_k _ _ _ (by omega)]
      exact e4 j (by omega)
    · rw [uI_k _ _ _ (by decide), e3 _ (by omega)]; exact b8
theorem fd_len (k : Nat) (ds : List Nat) : (fd k ds).length ≤ ds.length := List.length_filter_le _ _
theorem fd_s (k : Nat) (ds : List Nat) {j : Nat} (hj : j < ds.length) : fd k (ds.take (j + 1)) = if ds.getD j 0 = k then fd k (ds.take j) else fd k (ds.take j) ++ [ds.getD j 0] := by
  unfold fd
  rw [tkS hj, List.filter_append]
  by_cases h : ds.getD j 0 = k
  · rw [if_pos h, List.filter_cons, if_neg (by simp only [decide_eq_true_eq]; exact fun e => e h), List.filter_nil, List.append_nil]
  · rw [if_neg h, List.filter_cons, if_pos (decide_eq_true h), List.filter_nil]
theorem pl_dropDeaf {g : M2} {p n : Nat} {pos : Nat → Nat} {br : Nat} {lk : Option Nat} {ds : List Nat} (h : PL g p n pos br lk ds) {k : Nat} (hk : k < 12) : Ok (f_Pl_dropDeaf p (cI k) g) (fun r => PL r p n pos br lk (fd k ds) ∧ (∀ y, y ≠ p → y ≠ p + 2 → r.1 y = g.1 y) ∧ (∀ j, j ≠ 5 → r.1 p j = g.1 p j) ∧ r.2 = g.2) := by
  obtain ⟨p1, p2, p3, p4, p5, p6, p7, p8, p9, p10⟩ := h
  unfold f_Pl_dropDeaf
  refine ok_bindm (Q := fun r => r.1 = cI (fd k ds).length ∧ r.2.2 = g.2 ∧ (∀ y, y ≠ p + 2 → r.2.1 y = g.1 y) ∧ ∀ i, i < (fd k ds).length → r.2.1 (p + 2) i = cI ((fd k ds).getD i 0)) ?_ (fun e he => ok_bd (ok_some ?_))
  · refine ok_lp (fun j s => s.2.1 = cI j ∧ s.1 = cI (fd k (ds.take j)).length ∧ s.2.2.2 = g.2 ∧ (∀ y, y ≠ p + 2 → s.2.2.1 y = g.1 y) ∧ (∀ i, i < (fd k (ds.take j)).length → s.2.2.1 (p + 2) i = cI ((fd k (ds.take j)).getD i 0)) ∧ ∀ i, j ≤ i → i < ds.length → s.2.2.1 (p + 2) i = cI (ds.getD i 0)) ds.length 5000 0 _ (by omega) (by omega) ⟨rfl, rfl, rfl, fun _ _ => rfl, fun i hi => absurd hi (by simp [fd]), fun i _ hi => (p10 i hi).1⟩ ?_
    rintro j ⟨s1, s2, s3⟩ hj ⟨h1, h2, h3, h4, h5, h6⟩
    show Ok (b_Pl_dropDeaf_4 p (cI k) s1 s2 s3) _
    dsimp only at h1 h2 h3 h4 h5 h6
    subst h1 h2
    unfold b_Pl_dropDeaf_4
    rw [h4 p (by omega), p8]
    by_cases hjn : j = ds.length
    · subst hjn
      rw [List.take_length] at h5 ⊢
      exact ok_pos (le_yes (Nat.le_refl _) (by omega)) (ok_some ⟨rfl, h3, h4, h5⟩)
    · have hj' : j < ds.length := by omega
      have hle := fd_len k (ds.take j)
      rw [List.length_take] at hle
      have hx := (p10 j hj').2
      refine ok_neg (le_no hj' (by omega)) (ok_pos (inb_cI (by omega) (by decide)) ?_)
      simp only [cI_nat (show j < 2 ^ 31 by omega), h6 j (Nat.le_refl _) hj', cI_inj (show ds.getD j 0 < 2 ^ 31 by omega) (show k < 2 ^ 31 by omega)]
      rw [fd_s k ds hj']
      by_cases hc : ds.getD j 0 = k
      · rw [if_pos hc, if_pos hc]
        exact ok_some ⟨hj', c_succ j, rfl, h3, h4, h5, fun i hi1 hi2 => h6 i (by omega) hi2⟩
      · rw [if_neg hc, if_neg hc]
        refine ok_pos (inb_cI (by omega) (by decide)) (ok_pos (inb_cI (by omega) (by decide)) (ok_bd (ok_some ⟨hj', c_succ j, ?_, h3, fun y hy => by rw [uI_o _ _ _ hy]; exact h4 y hy, fun i hi => ?_, fun i hi1 hi2 => ?_⟩)))
        · rw [List.length_append]; exact c_succ _
        · rw [List.length_append] at hi
          simp only [List.length_cons, List.length_nil] at hi
          rw [cI_nat (by omega)]
          by_cases hil : i = (fd k (ds.take j)).length
          · rw [hil, uI_s, List.getD_eq_getElem?_getD (l := fd k (ds.take j) ++ _), List.getElem?_append_right (Nat.le_refl _), Nat.sub_self]; rfl
          · rw [uI_k _ _ _ hil, h5 i (by omega), List.getD_eq_getElem?_getD, List.getD_eq_getElem?_getD, List.getElem?_append_left (by omega)]
        · rw [cI_nat (by omega), uI_k _ _ _ (by omega)]; exact h6 i (by omega) hi2
  · obtain ⟨e1, e2, e3, e4⟩ := he
    have hle := fd_len k ds
    have k1 : ∀ y, y ≠ p → y ≠ p + 2 → (uI e.2 p 5 e.1).1 y = g.1 y := fun y y1 y2 => by rw [uI_o _ _ _ y1]; exact e3 y y2
    have k2 : ∀ j, j ≠ 5 → (uI e.2 p 5 e.1).1 p j = g.1 p j := fun j hj => by rw [uI_k _ _ _ hj, e3 p (by omega)]
    refine ⟨⟨(k2 2 (by decide)).trans p1, p2, fun i hi => by rw [k1 _ (by omega) (by omega)]; exact p3 i hi, (k2 3 (by decide)).trans p4, p5, (k2 4 (by decide)).trans p6, p7, by rw [uI_s]; exact e1, by omega, fun i hi => ?_⟩, k1, k2, e2⟩
    rw [uI_o _ _ _ (by omega)]
    refine ⟨e4 i hi, ?_⟩
    have hm := getD_mem hi
    have hm2 := (List.mem_filter.mp hm).1
    obtain ⟨j, j1, j2⟩ := mem_getD.mp hm2
    rw [← j2]; exact (p10 j j1).2
