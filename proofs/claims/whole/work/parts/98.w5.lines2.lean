theorem gc_num {g : M2} {T : List Nat} {d : Sg} {a : Nat} (h : GC g T d a) (h9 : (tk T a).2.2.2 ≤ 99) : g.1 1 6 = cI (tk T a).2.2.2 := by
  rw [h.2.1.2.2.2, show min 1000 (tk T a).2.2.2 = (tk T a).2.2.2 by omega]
theorem re_wG {g : M2} {T : List Nat} {d : Sg} {a p : Nat} (hT : TT T) (h : GC g T d a) (hp : Wok p) : Ok (f_Re_expectWord p g) (fun r => (Isw T (tk T a) (mm_tx p) ∧ GC r T d (tk T a).2.1 ∨ ¬ Isw T (tk T a) (mm_tx p) ∧ BC r T 1 (tk T a).1) ∧ FR3 g r) := by
  have ht := tk_in h.2.2.1
  unfold f_Re_expectWord
  refine ok_bindm (re_word h.1 hT.1 hT.2 h.2.1 ht.2.1 ht.2.2.1 ht.2.2.2.1 hp) (fun v hv => ok_grd hv (fun c => ?_) (fun c => ?_))
  · exact ok_bindm (re_bG (c := 1) h (by decide) (by decide)) (fun r hr => ok_bindm (re_nB hT hr.1) (fun w hw => ok_some ⟨Or.inr ⟨c, hw.1⟩, FR3_tr hr.2.1 hw.2⟩))
  · exact ok_bindm (re_nG hT h) (fun r hr => ok_some ⟨Or.inl ⟨c, hr.1⟩, hr.2⟩)
theorem re_wB {g : M2} {T : List Nat} {c q p : Nat} (hT : TT T) (h : BC g T c q) (hp : Wok p) : Ok (f_Re_expectWord p g) (fun r => BC r T c q ∧ FR3 g r) := by
  obtain ⟨h1, ⟨a, h2, h3⟩, h4⟩ := h
  have hB : BC g T c q := ⟨h1, ⟨a, h2, h3⟩, h4⟩
  have ht := tk_in h2
  unfold f_Re_expectWord
  refine ok_bindm (re_word h1 hT.1 hT.2 h3 ht.2.1 ht.2.2.1 ht.2.2.2.1 hp) (fun v hv => ok_if (fun c => ?_) (fun c => ?_))
  · exact ok_binde (re_bB hB _) (ok_bindm (re_nB hT hB) (fun w hw => ok_some hw))
  · exact ok_bindm (re_nB hT hB) (fun w hw => ok_some hw)
theorem GC_st {g : M2} {T : List Nat} {d : Sg} {a v : Nat} (h : GC g T d a) : GC (uI g 3 6 (cI v)) T (dSt d v) a := by
  obtain ⟨h1, h2, h3, ⟨⟨a1, a2, a3, a4, a5, a6, a7, a8, a9, a10⟩, b1, b2⟩, h5, h6⟩ := h
  have e : (uI g 3 6 (cI v)).1 1 = g.1 1 := uI_o _ _ _ (by omega)
  have e2 : (uI g 3 6 (cI v)).1 2 = g.1 2 := uI_o _ _ _ (by omega)
  exact ⟨⟨by rw [e]; exact h1.1, fun i hi => by rw [e2]; exact h1.2 i hi⟩, by unfold TkC; rw [e]; exact h2, h3, ⟨⟨by rw [uI_k _ _ _ (by decide)]; exact a1, a2, fun i hi => by rw [uI_o _ _ _ (by decide)]; exact a3 i hi, by rw [uI_k _ _ _ (by decide)]; exact a4, a5, by rw [uI_k _ _ _ (by decide)]; exact a6, a7, by rw [uI_k _ _ _ (by decide)]; exact a8, a9, fun i hi => by rw [uI_o _ _ _ (by decide)]; exact a10 i hi⟩, uI_s _ _ _ _, by rw [uI_k _ _ _ (by decide)]; exact b2⟩, by rw [e]; exact h5, by rw [e]; exact h6⟩
/-- a line but its sign -/
def LC (g r : M2) (T : List Nat) (R : Rs) : Prop := ((∃ d2 b, GC r T d2 b ∧ R = sgE T d2 b) ∨ ∃ c p, BC r T c p ∧ R = .inr (c, p)) ∧ FR3 g r
theorem re_sX {g r : M2} {T : List Nat} {R : Rs} (hT : TT T) (h : LC g r T R) : Ok (f_Re_expectSign r) (fun z => OC z T R ∧ FR3 g z) := by
  obtain ⟨⟨d2, b, k1, k2⟩ | ⟨c, p, k1, k2⟩, f⟩ := h
  · rw [k2]; exact ok_mono (re_sG hT k1) (fun z hz => ⟨hz.1, FR3_tr f hz.2⟩)
  · rw [k2]; exact ok_mono (re_sB hT k1) (fun z hz => ⟨hz.1, FR3_tr f hz.2⟩)
theorem re_l1 {g : M2} {T : List Nat} {d : Sg} {a : Nat} (hT : TT T) (h : GC g T d a) : Ok (f_Re_readFirstLine g) (fun r => LC g r T (ln1 T d a)) := by
  unfold f_Re_readFirstLine
  refine ok_bindm (re_wG hT h wok3) (fun r hr => ?_)
  obtain ⟨hr1 | hr1, f1⟩ := hr
  · refine ok_bindm (re_wG hT hr1.2 wok4) (fun w hw => ?_)
    obtain ⟨hw1 | hw1, f2⟩ := hw
    · have e1 : ln1 T d a = numE (tk T (tk T (tk T a).2.1).2.1) 1 99 (fun v => sgE T (dSt d v) (tk T (tk T (tk T a).2.1).2.1).2.1) := by
        unfold ln1
        rw [if_pos hr1.1, if_pos hw1.1]
      refine ok_bindm (re_numG (lo := 1) (hi := 99) hw1.2 (by decide) (by decide)) (fun p hp => ?_)
      rcases hp with ⟨rfl, p1, p2, p3⟩ | ⟨p1, c, p2, p3, p4⟩
      · rw [gc_num hw1.2 p2]
        refine ok_neg (show ¬ (1 : Int32) = 0 by decide) (ok_bd (ok_bindm (re_nG hT (GC_st hw1.2)) (fun z hz => ok_some ⟨Or.inl ⟨_, _, hz.1, ?_⟩, FR3_tr f1 (FR3_tr f2 (FR3_tr (FR3_u w (by omega) _ _) hz.2))⟩)))
        rw [e1, p3]
      · exact ok_pos p1 (ok_some ⟨Or.inr ⟨c, _, p2, by rw [e1, p4]⟩, FR3_tr f1 (FR3_tr f2 p3)⟩)
    · have e1 : ln1 T d a = .inr (1, (tk T (tk T a).2.1).1) := by
        unfold ln1
        rw [if_pos hr1.1, if_neg hw1.1]
      refine ok_binde (re_numB hw1.2 _ _) (ok_pos rfl (ok_some ⟨Or.inr ⟨1, _, hw1.2, e1⟩, FR3_tr f1 f2⟩))
  · have e1 : ln1 T d a = .inr (1, (tk T a).1) := by
      unfold ln1
      rw [if_neg hr1.1]
    refine ok_bindm (re_wB hT hr1.2 wok4) (fun w hw => ok_binde (re_numB hw.1 _ _) (ok_pos rfl (ok_some ⟨Or.inr ⟨1, _, hw.1, e1⟩, FR3_tr f1 hw.2⟩)))
