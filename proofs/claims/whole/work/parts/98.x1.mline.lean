/-! the reference's lines -/
def Dok (d : Sg) : Prop := sn d ≤ 5 ∧ (∀ e, e < sn d → sp d e < 12) ∧ (∀ k, sl d = some k → k < 12) ∧ (sd d).length ≤ 4 ∧ (∀ k ∈ sd d, k < 12) ∧ sb d < 2 ^ sn d
def WE (g : M2) (d : Sg) : Prop := g.1 161 0 = cI (ss d) ∧ g.1 161 1 = cI (sn d) ∧ (∀ e, e < sn d → g.1 161 (2 + e) = cI (sp d e)) ∧ (∀ e, e < sn d → g.1 161 (7 + e) = if (sb d).testBit e then 1 else 0) ∧ g.1 161 12 = cI (lkM (sl d)) ∧ g.1 161 13 = cI (sd d).length ∧ (∀ i, i < (sd d).length → g.1 161 (14 + i) = cI ((sd d).getD i 0)) ∧ g.1 161 18 = cI (sL d) ∧ Dok d
def GM (g : M2) (T : List Nat) (d : Sg) (a : Nat) : Prop := TM g T ∧ TkM g (tk T a) ∧ a ≤ T.length ∧ WE g d ∧ g.1 157 28 = 0 ∧ g.1 157 29 = -1
def BM (g : M2) (c p : Nat) : Prop := g.1 157 28 = cI c ∧ g.1 157 29 = cI p ∧ 0 < c ∧ c ≤ 3
def F6 (g r : M2) : Prop := (∀ y, y ≠ 157 → y ≠ 161 → r.1 y = g.1 y) ∧ (∀ j, j < 24 ∨ 29 < j → r.1 157 j = g.1 157 j) ∧ r.2 = g.2
theorem F6_rf (g : M2) : F6 g g := ⟨fun _ _ _ => rfl, fun _ _ => rfl, rfl⟩
theorem F6_tr {g r z : M2} (h : F6 g r) (k : F6 r z) : F6 g z := ⟨fun y a b => (k.1 y a b).trans (h.1 y a b), fun j hj => (k.2.1 j hj).trans (h.2.1 j hj), k.2.2.trans h.2.2⟩
theorem F6_d {g r : M2} (h : FMd g r) : F6 g r := ⟨fun y a _ => h.1 y a, fun j hj => h.2.1 j (by omega) (by omega) (by omega) (by omega), h.2.2⟩
theorem F6_w (g : M2) (j : Nat) (x : Int32) : F6 g (uI g 161 j x) := ⟨fun y _ b => uI_o _ _ _ b, fun i _ => by rw [uI_o _ _ _ (by decide)], rfl⟩
theorem WE_f {g r : M2} {d : Sg} (h : WE g d) (k : r.1 161 = g.1 161) : WE r d := by unfold WE; rw [k]; exact h
theorem bm_no {g : M2} {c p : Nat} (h : BM g c p) : ¬ g.1 157 28 = 0 := by
  rw [h.1]
  exact ne_no (b := 0) (by have := h.2.2.1; omega) (by have := h.2.2.2; omega) (by decide)
theorem bm_g {g : M2} {c p : Nat} (h : BM g c p) : f_Mo_good g = 0 := by unfold f_Mo_good; rw [if_neg (bm_no h)]
theorem gm_g {g : M2} {T : List Nat} {d : Sg} {a : Nat} (h : GM g T d a) : ¬ f_Mo_good g = 0 := by unfold f_Mo_good; rw [if_pos h.2.2.2.2.1]; decide
theorem BM_w {g : M2} {c p : Nat} (h : BM g c p) (j : Nat) (x : Int32) : BM (uI g 161 j x) c p := by
  unfold BM
  rw [uI_o _ _ _ (show 157 ≠ 161 by decide)]
  exact h
theorem GM_w {g : M2} {T : List Nat} {d d2 : Sg} {a : Nat} (h : GM g T d a) {r : M2} (hd : WE r d2) (k : ∀ y, y ≠ 161 → r.1 y = g.1 y) : GM r T d2 a := by
  obtain ⟨h1, h2, h3, h4, h5, h6⟩ := h
  exact ⟨⟨by rw [k 157 (by decide)]; exact h1.1, fun i hi => by rw [k 167 (by decide)]; exact h1.2 i hi⟩, by unfold TkM; rw [k 157 (by decide)]; exact h2, h3, hd, by rw [k 157 (by decide)]; exact h5, by rw [k 157 (by decide)]; exact h6⟩
theorem mo_aG {g : M2} {T : List Nat} {d : Sg} {a : Nat} (hT : TT T) (h : GM g T d a) : Ok (f_Mo_advance g) (fun r => GM r T d (tk T a).2.1 ∧ F6 g r) := by
  obtain ⟨h1, h2, h3, h4, h5, h6⟩ := h
  have ht := tk_in h3
  refine ok_mono (mo_adv h1 hT.1 hT.2 ht.2.2.1 h2.2.1) (fun r hr => ⟨⟨FMd_T h1 hr.2, hr.1, ht.2.2.1, WE_f h4 (hr.2.1 161 (by decide)), ?_, ?_⟩, F6_d hr.2⟩)
  · rw [hr.2.2.1 28 (by decide) (by decide) (by decide) (by decide)]; exact h5
  · rw [hr.2.2.1 29 (by decide) (by decide) (by decide) (by decide)]; exact h6
theorem mo_eG {g : M2} {T : List Nat} {d : Sg} {a c : Nat} (h : GM g T d a) (c1 : 0 < c) (c2 : c ≤ 3) : Ok (f_Mo_errs (cI c) g) (fun r => BM r c (tk T a).1 ∧ F6 g r) := by
  unfold f_Mo_errs
  refine ok_neg (gm_g h) (ok_bd (ok_bd (ok_some ?_)))
  rw [uI_k _ _ _ (show 25 ≠ 28 by decide), h.2.1.1]
  exact ⟨⟨by rw [uI_k _ _ _ (by decide), uI_s], uI_s _ _ _ _, c1, c2⟩, fun y y1 _ => by rw [uI_o _ _ _ y1, uI_o _ _ _ y1], fun j hj => by rw [uI_k _ _ _ (by omega), uI_k _ _ _ (by omega)], rfl⟩
theorem mo_eB {g : M2} {c p : Nat} (h : BM g c p) (x : Int32) : f_Mo_errs x g = some g := by
  unfold f_Mo_errs
  rw [if_pos (bm_g h)]
theorem mo_xG {g : M2} {T : List Nat} {d : Sg} {a p : Nat} (hT : TT T) (h : GM g T d a) (hp : Wok p) : Ok (f_Mo_expects p g) (fun r => (Isw T (tk T a) (mm_tx p) ∧ GM r T d (tk T a).2.1 ∨ ¬ Isw T (tk T a) (mm_tx p) ∧ BM r 1 (tk T a).1) ∧ F6 g r) := by
  have ht := tk_in h.2.2.1
  unfold f_Mo_expects
  refine ok_bindm (mo_word h.2.2.2.2.1 h.1 hT.1 hT.2 h.2.1 ht.2.1 ht.2.2.1 ht.2.2.2.1 hp) (fun v hv => ok_grd hv (fun c => ?_) (fun c => ?_))
  · exact ok_bindm (mo_eG (c := 1) h (by decide) (by decide)) (fun r hr => ok_some ⟨Or.inr ⟨c, hr.1⟩, hr.2⟩)
  · exact ok_bindm (mo_aG hT h) (fun r hr => ok_some ⟨Or.inl ⟨c, hr.1⟩, hr.2⟩)
theorem mo_xB {g : M2} {c q : Nat} (h : BM g c q) (p : Nat) : f_Mo_expects p g = some g := by
  unfold f_Mo_expects
  rw [mo_word0 (bm_no h)]
  show (if (0 : Int32) = 0 then ((f_Mo_errs 1 g).bind fun q3 => some q3) else ((f_Mo_advance g).bind fun q4 => some q4)) = _
  rw [if_pos rfl, mo_eB h]
  rfl
theorem c64 {n : Nat} (h : n ≤ 99) : (cI n).toInt64 = Int64.ofInt (n : Int) := by
  apply Int64.toInt_inj.mp
  rw [Int32.toInt_toInt64, to64 (by omega) (by omega), cI_toInt (by omega)]
theorem mo_tB {g : M2} {c p : Nat} (h : BM g c p) (x y : Int32) : f_Mo_takes x y g = some (0, g) := by
  unfold f_Mo_takes j_Mo_takes_10 j_Mo_takes_25
  rw [if_pos (bm_g h), if_pos (bm_g h), if_pos (bm_g h)]
theorem mo_tG {g : M2} {T : List Nat} {d : Sg} {a lo hi : Nat} (hT : TT T) (h : GM g T d a) (hlo : lo ≤ 99) (hhi : hi ≤ 99) : Ok (f_Mo_takes (cI lo) (cI hi) g) (fun p => ((p.1 = cI (tk T a).2.2.2 ∧ GM p.2 T d (tk T a).2.1 ∧ lo ≤ (tk T a).2.2.2 ∧ (tk T a).2.2.2 ≤ hi ∧ ∀ K, numE (tk T a) lo hi K = K (tk T a).2.2.2) ∨ (p.1 = 0 ∧ ∃ c, BM p.2 c (tk T a).1 ∧ ∀ K, numE (tk T a) lo hi K = .inr (c, (tk T a).1))) ∧ F6 g p.2) := by
  have ht := tk_in h.2.2.1
  have bad25 : ∀ {r : M2} {c p : Nat}, BM r c p → j_Mo_takes_25 r = some (0, r) := fun hb => by unfold j_Mo_takes_25; rw [if_pos (bm_g hb)]
  unfold f_Mo_takes
  rw [h.2.1.2.2.1]
  refine ok_neg (gm_g h) (ok_if (fun c => ?_) (fun c => ?_))
  · have c1 : (tk T a).2.2.1 = 2 := (cI_inj (b := 2) (by omega) (by decide)).mp c
    have e27 := h.2.1.2.2.2 c1
    unfold j_Mo_takes_10
    rw [e27, c64 hlo, c64 hhi]
    refine ok_neg (gm_g h) (ok_grd (mo_inI (by omega) (by omega) (by omega) (by omega) g) (fun c2 => ?_) (fun c2 => ?_))
    · rw [cI_toInt (by omega)] at c2
      refine ok_bindm (mo_eG (c := 2) h (by decide) (by decide)) (fun r hr => ?_)
      rw [bad25 hr.1]
      refine ok_some ⟨Or.inr ⟨rfl, 2, hr.1, fun K => ?_⟩, hr.2⟩
      unfold numE
      rw [if_pos c1, if_neg (by omega)]
    · rw [cI_toInt (by omega)] at c2
      unfold j_Mo_takes_25
      refine ok_neg (gm_g h) (ok_bindm (mo_aG hT h) (fun r hr => ok_some ⟨Or.inl ⟨?_, hr.1, by omega, by omega, fun K => ?_⟩, hr.2⟩))
      · show g.1 157 27 = _
        rw [e27, show min 99999 (tk T a).2.2.2 = (tk T a).2.2.2 by omega]
      · unfold numE
        rw [if_pos c1, if_pos (by omega)]
  · refine ok_bindm (mo_eG (c := 1) h (by decide) (by decide)) (fun r hr => ?_)
    unfold j_Mo_takes_10
    rw [if_pos (bm_g hr.1), bad25 hr.1]
    refine ok_some ⟨Or.inr ⟨rfl, 1, hr.1, fun K => ?_⟩, hr.2⟩
    unfold numE
    rw [if_neg (fun e => c (by rw [e]; rfl))]
/-- a line but its sign; with it -/
def LX (g r : M2) (T : List Nat) (R : Rs) : Prop := ((∃ d2 b, GM r T d2 b ∧ R = sgE T d2 b) ∨ ∃ c p, BM r c p ∧ R = .inr (c, p)) ∧ F6 g r
def OM (r : M2) (T : List Nat) (R : Rs) : Prop := Sum.elim (fun p => GM r T p.1 p.2) (fun e => BM r e.1 e.2) R
theorem mo_s65 {g r : M2} {c p : Nat} (h : BM r c p) (f : F6 g r) : Ok (j_Mo_readLine_65 r) (fun z => BM z c p ∧ F6 g z) := by
  unfold j_Mo_readLine_65
  exact ok_pos (bm_g h) (ok_bd (ok_some ⟨BM_w h _ _, F6_tr f (F6_w _ _ _)⟩))
theorem mo_sX {g r : M2} {T : List Nat} {R : Rs} (hT : TT T) (h : LX g r T R) : Ok (j_Mo_readLine_55 r) (fun z => OM z T R ∧ F6 g z) := by
  obtain ⟨⟨d2, b, k1, k2⟩ | ⟨c, p, k1, k2⟩, f⟩ := h
  · have ht := tk_in k1.2.2.1
    rw [k2]
    unfold j_Mo_readLine_55 sgE
    rw [k1.2.1.2.2.1]
    refine ok_neg (gm_g k1) (ok_if (fun c => ?_) (fun c => ?_))
    · have c1 : (tk T b).2.2.1 = 3 := (cI_inj (b := 3) (by omega) (by decide)).mp c
      rw [if_pos c1]
      unfold j_Mo_readLine_65
      refine ok_neg (gm_g k1) (ok_bindm (mo_aG hT k1) (fun z hz => ok_bd (ok_some ⟨?_, F6_tr f (F6_tr hz.2 (F6_w _ _ _))⟩)))
      obtain ⟨b1, b2, b3, b4, b5, b6, b7, b8, b9⟩ := hz.1.2.2.2.1
      have n5 := b9.1
      have n4 := b9.2.2.2.1
      rw [b8, c_succ]
      refine GM_w hz.1 (d2 := dl d2) ⟨by rw [uI_k _ _ _ (by decide)]; exact b1, by rw [uI_k _ _ _ (by decide)]; exact b2, fun e he => by rw [uI_k _ _ _ (by have : e < sn d2 := he; omega)]; exact b3 e he, fun e he => by rw [uI_k _ _ _ (by have : e < sn d2 := he; omega)]; exact b4 e he, by rw [uI_k _ _ _ (by decide)]; exact b5, by rw [uI_k _ _ _ (by decide)]; exact b6, fun i hi => by rw [uI_k _ _ _ (by have : i < (sd d2).length := hi; omega)]; exact b7 i hi, uI_s _ _ _ _, b9⟩ (fun y hy => uI_o _ _ _ hy)
    · have c1 : ¬ (tk T b).2.2.1 = 3 := fun e => c (by rw [e]; rfl)
      rw [if_neg c1]
      exact ok_bindm (mo_eG (c := 1) k1 (by decide) (by decide)) (fun z hz => mo_s65 hz.1 (F6_tr f hz.2))
  · rw [k2]
    unfold j_Mo_readLine_55
    exact ok_pos (bm_g k1) (mo_s65 k1 f)
