/-! what a line of a text does -/
abbrev Rs : Type := (Sg × Nat) ⊕ (Nat × Nat)
def dSt (d : Sg) (v : Nat) : Sg := (sn d, sp d, sb d, sl d, sd d, v, sL d, st d, sf d, sP d, so d)
def dE (d : Sg) (v : Nat) (b : Bool) : Sg := (sn d + 1, updN (sp d) (sn d) v, if b then sb d ||| 2 ^ sn d else sb d, sl d, sd d, ss d, sL d, st d, sf d, sP d, so d)
def dK (d : Sg) (v : Nat) : Sg := (sn d, sp d, sb d, some v, sd d, ss d, sL d, st d, sf d, sP d, so d)
def dD (d : Sg) (v : Nat) : Sg := (sn d, sp d, sb d, sl d, sd d ++ [v], ss d, sL d, st d, sf d, sP d, so d)
def dl (d : Sg) : Sg := (sn d, sp d, sb d, sl d, sd d, ss d, sL d + 1, st d, sf d, sP d, so d)
def numE (t : Nat × Nat × Nat × Nat) (lo hi : Nat) (K : Nat → Rs) : Rs := if t.2.2.1 = 2 then (if lo ≤ t.2.2.2 ∧ t.2.2.2 ≤ hi then K t.2.2.2 else .inr (2, t.1)) else .inr (1, t.1)
def sgE (T : List Nat) (d : Sg) (a : Nat) : Rs := if (tk T a).2.2.1 = 3 then .inl (dl d, (tk T a).2.1) else .inr (1, (tk T a).1)
def ln1 (T : List Nat) (d : Sg) (a : Nat) : Rs := if Isw T (tk T a) (mm_tx 1003) then (if Isw T (tk T (tk T a).2.1) (mm_tx 1004) then numE (tk T (tk T (tk T a).2.1).2.1) 1 99 (fun v => sgE T (dSt d v) (tk T (tk T (tk T a).2.1).2.1).2.1) else .inr (1, (tk T (tk T a).2.1).1)) else .inr (1, (tk T a).1)
def hasp (d : Sg) (v : Nat) : Bool := (List.range (sn d)).any (fun e => decide (sp d e = v))
theorem hasp_iff (d : Sg) (v : Nat) : hasp d v = true ↔ ∃ e, e < sn d ∧ sp d e = v := by
  unfold hasp
  rw [List.any_eq_true]
  constructor
  · rintro ⟨e, h1, h2⟩; exact ⟨e, List.mem_range.mp h1, of_decide_eq_true h2⟩
  · rintro ⟨e, h1, h2⟩; exact ⟨e, List.mem_range.mpr h1, decide_eq_true h2⟩
def lnE (T : List Nat) (d : Sg) (a : Nat) (b : Bool) : Rs := if sn d = 5 then .inr (3, (tk T a).1) else numE (tk T (tk T a).2.1) 0 11 (fun v => if hasp d v then .inr (2, (tk T (tk T a).2.1).1) else sgE T (dE d v b) (tk T (tk T a).2.1).2.1)
def lnK (T : List Nat) (d : Sg) (a : Nat) : Rs := if (sl d).isSome then .inr (3, (tk T a).1) else numE (tk T (tk T a).2.1) 0 11 (fun v => if v ∈ sd d ∨ sl d = some v then .inr (2, (tk T (tk T a).2.1).1) else sgE T (dK d v) (tk T (tk T a).2.1).2.1)
def lnD (T : List Nat) (d : Sg) (a : Nat) : Rs := if (sd d).length = 4 then .inr (3, (tk T a).1) else numE (tk T (tk T a).2.1) 0 11 (fun v => if v ∈ sd d ∨ sl d = some v then .inr (2, (tk T (tk T a).2.1).1) else sgE T (dD d v) (tk T (tk T a).2.1).2.1)
def lnX (T : List Nat) (d : Sg) (a : Nat) : Rs := if sL d = 0 then ln1 T d a else if Isw T (tk T a) (mm_tx 1005) then lnE T d a false else if Isw T (tk T a) (mm_tx 1006) then lnE T d a true else if Isw T (tk T a) (mm_tx 1007) then lnK T d a else if Isw T (tk T a) (mm_tx 1008) then lnD T d a else .inr (1, (tk T a).1)
/-! the class -/
def DC (g : M2) (d : Sg) : Prop := PL g 3 (sn d) (sp d) (sb d) (sl d) (sd d) ∧ g.1 3 6 = cI (ss d) ∧ g.1 3 7 = cI (sL d)
def TT (T : List Nat) : Prop := T.length ≤ 300 ∧ ∀ x ∈ T, x < 256
def GC (g : M2) (T : List Nat) (d : Sg) (a : Nat) : Prop := TP g T ∧ TkC g (tk T a) ∧ a ≤ T.length ∧ DC g d ∧ g.1 1 7 = 0 ∧ g.1 1 8 = -1
def BC (g : M2) (T : List Nat) (c p : Nat) : Prop := TP g T ∧ (∃ a, a ≤ T.length ∧ TkC g (tk T a)) ∧ g.1 1 7 = cI c ∧ g.1 1 8 = cI p ∧ 0 < c ∧ c ≤ 3
def FR3 (g r : M2) : Prop := (∀ y, y ≠ 1 → y ≠ 3 → y ≠ 4 → y ≠ 5 → r.1 y = g.1 y) ∧ r.2 = g.2
theorem FR3_rf (g : M2) : FR3 g g := ⟨fun _ _ _ _ _ => rfl, rfl⟩
theorem FR3_tr {g r z : M2} (h : FR3 g r) (k : FR3 r z) : FR3 g z := ⟨fun y a b c e => (k.1 y a b c e).trans (h.1 y a b c e), k.2.trans h.2⟩
theorem FR3_d {g r : M2} (h : FRd g r) : FR3 g r := ⟨fun y a _ _ _ => h.1 y a, h.2.2⟩
theorem FR3_u (g : M2) {y : Nat} (h : y = 1 ∨ y = 3 ∨ y = 4 ∨ y = 5) (j : Nat) (x : Int32) : FR3 g (uI g y j x) := ⟨fun i a b c e => uI_o _ _ _ (by omega), rfl⟩
def OC (r : M2) (T : List Nat) (R : Rs) : Prop := Sum.elim (fun p => GC r T p.1 p.2) (fun e => BC r T e.1 e.2) R
theorem DC_d {g r : M2} {d : Sg} (h : DC g d) (k : ∀ y, y ≠ 1 → r.1 y = g.1 y) : DC r d := ⟨PL_k h.1 (fun y y1 y2 => k y (by omega)), by rw [k 3 (by decide)]; exact h.2.1, by rw [k 3 (by decide)]; exact h.2.2⟩
theorem re_nG {g : M2} {T : List Nat} {d : Sg} {a : Nat} (hT : TT T) (h : GC g T d a) : Ok (f_Re_nextToken g) (fun r => GC r T d (tk T a).2.1 ∧ FR3 g r) := by
  obtain ⟨h1, h2, h3, h4, h5, h6⟩ := h
  have ht := tk_in h3
  refine ok_mono (re_next h1 hT.1 hT.2 ht.2.2.1 h2.2.1) (fun r hr => ⟨⟨FRd_T h1 hr.2, hr.1, ht.2.2.1, DC_d h4 hr.2.1, ?_, ?_⟩, FR3_d hr.2⟩)
  · rw [hr.2.2.1 7 (by decide) (by decide) (by decide) (by decide)]; exact h5
  · rw [hr.2.2.1 8 (by decide) (by decide) (by decide) (by decide)]; exact h6
theorem re_nB {g : M2} {T : List Nat} {c p : Nat} (hT : TT T) (h : BC g T c p) : Ok (f_Re_nextToken g) (fun r => BC r T c p ∧ FR3 g r) := by
  obtain ⟨h1, ⟨a, h2, h3⟩, h4, h5, h6, h7⟩ := h
  have ht := tk_in h2
  refine ok_mono (re_next h1 hT.1 hT.2 ht.2.2.1 h3.2.1) (fun r hr => ⟨⟨FRd_T h1 hr.2, ⟨_, ht.2.2.1, hr.1⟩, ?_, ?_, h6, h7⟩, FR3_d hr.2⟩)
  · rw [hr.2.2.1 7 (by decide) (by decide) (by decide) (by decide)]; exact h4
  · rw [hr.2.2.1 8 (by decide) (by decide) (by decide) (by decide)]; exact h5
theorem re_bG {g : M2} {T : List Nat} {d : Sg} {a c : Nat} (h : GC g T d a) (c1 : 0 < c) (c2 : c ≤ 3) : Ok (f_Re_blame (cI c) g) (fun r => BC r T c (tk T a).1 ∧ FR3 g r ∧ (∀ y, y ≠ 1 → r.1 y = g.1 y) ∧ r.1 1 6 = g.1 1 6) := by
  obtain ⟨h1, h2, h3, h4, h5, h6⟩ := h
  unfold f_Re_blame
  refine ok_pos h5 (ok_bd (ok_bd (ok_some ?_)))
  rw [uI_k _ _ _ (show 4 ≠ 7 by decide), h2.1]
  refine ⟨⟨⟨by rw [uI_k _ _ _ (by decide), uI_k _ _ _ (by decide)]; exact h1.1, fun i hi => by rw [uI_o _ _ _ (by decide), uI_o _ _ _ (by decide)]; exact h1.2 i hi⟩, ⟨a, h3, ?_⟩, by rw [uI_k _ _ _ (by decide), uI_s], uI_s _ _ _ _, c1, c2⟩, FR3_tr (FR3_u g (by omega) _ _) (FR3_u _ (by omega) _ _), fun y hy => by rw [uI_o _ _ _ hy, uI_o _ _ _ hy], by rw [uI_k _ _ _ (by decide), uI_k _ _ _ (by decide)]⟩
  obtain ⟨k1, k2, k3, k4⟩ := h2
  exact ⟨by rw [uI_k _ _ _ (by decide), uI_k _ _ _ (by decide)]; exact k1, by rw [uI_k _ _ _ (by decide), uI_k _ _ _ (by decide)]; exact k2, by rw [uI_k _ _ _ (by decide), uI_k _ _ _ (by decide)]; exact k3, by rw [uI_k _ _ _ (by decide), uI_k _ _ _ (by decide)]; exact k4⟩
theorem bc_no {g : M2} {T : List Nat} {c p : Nat} (h : BC g T c p) : ¬ g.1 1 7 = 0 := by
  rw [h.2.2.1]
  exact ne_no (b := 0) (by have := h.2.2.2.2.1; omega) (by have := h.2.2.2.2.2; omega) (by decide)
theorem re_bB {g : M2} {T : List Nat} {c p : Nat} (h : BC g T c p) (x : Int32) : f_Re_blame x g = some g := by
  unfold f_Re_blame
  rw [if_neg (bc_no h)]
theorem BC_u {g : M2} {T : List Nat} {c p : Nat} (h : BC g T c p) {y : Nat} (hy : y ≠ 1 ∧ y ≠ 2) (j : Nat) (x : Int32) : BC (uI g y j x) T c p := by
  obtain ⟨h1, ⟨a, h2, h3⟩, h4, h5, h6, h7⟩ := h
  have e : (uI g y j x).1 1 = g.1 1 := uI_o _ _ _ (by omega)
  have e2 : (uI g y j x).1 2 = g.1 2 := uI_o _ _ _ (by omega)
  exact ⟨⟨by rw [e]; exact h1.1, fun i hi => by rw [e2]; exact h1.2 i hi⟩, ⟨a, h2, by unfold TkC; rw [e]; exact h3⟩, by rw [e]; exact h4, by rw [e]; exact h5, h6, h7⟩
theorem re_sB {g : M2} {T : List Nat} {c p : Nat} (hT : TT T) (h : BC g T c p) : Ok (f_Re_expectSign g) (fun r => BC r T c p ∧ FR3 g r) := by
  have go : Ok (bd (uI g 3 7 ((g.1 3 7) + (1 : Int32))) fun g2 => ((f_Re_nextToken g2).bind fun q3 => some q3)) (fun r => BC r T c p ∧ FR3 g r) := by
    refine ok_bd (ok_bindm (re_nB hT (BC_u h (by omega) _ _)) (fun r hr => ok_some ⟨hr.1, FR3_tr (FR3_u g (by omega) _ _) hr.2⟩))
  unfold f_Re_expectSign
  exact ok_if (fun _ => go) (fun _ => ok_binde (re_bB h _) go)
theorem GC_dl {g : M2} {T : List Nat} {d : Sg} {a : Nat} (h : GC g T d a) : GC (uI g 3 7 ((g.1 3 7) + (1 : Int32))) T (dl d) a := by
  obtain ⟨h1, h2, h3, ⟨⟨a1, a2, a3, a4, a5, a6, a7, a8, a9, a10⟩, b1, b2⟩, h5, h6⟩ := h
  rw [b2, c_succ]
  have e : (uI g 3 7 (cI (sL d + 1))).1 1 = g.1 1 := uI_o _ _ _ (by omega)
  have e2 : (uI g 3 7 (cI (sL d + 1))).1 2 = g.1 2 := uI_o _ _ _ (by omega)
  exact ⟨⟨by rw [e]; exact h1.1, fun i hi => by rw [e2]; exact h1.2 i hi⟩, by unfold TkC; rw [e]; exact h2, h3, ⟨⟨by rw [uI_k _ _ _ (by decide)]; exact a1, a2, fun i hi => by rw [uI_o _ _ _ (by decide)]; exact a3 i hi, by rw [uI_k _ _ _ (by decide)]; exact a4, a5, by rw [uI_k _ _ _ (by decide)]; exact a6, a7, by rw [uI_k _ _ _ (by decide)]; exact a8, a9, fun i hi => by rw [uI_o _ _ _ (by decide)]; exact a10 i hi⟩, by rw [uI_k _ _ _ (by decide)]; exact b1, uI_s _ _ _ _⟩, by rw [e]; exact h5, by rw [e]; exact h6⟩
theorem re_sG {g : M2} {T : List Nat} {d : Sg} {a : Nat} (hT : TT T) (h : GC g T d a) : Ok (f_Re_expectSign g) (fun r => OC r T (sgE T d a) ∧ FR3 g r) := by
  have h2 := h.2.1
  have ht := tk_in h.2.2.1
  unfold f_Re_expectSign sgE
  rw [h2.2.2.1]
  refine ok_if (fun c => ?_) (fun c => ?_)
  · have c1 : (tk T a).2.2.1 = 3 := (cI_inj (b := 3) (by omega) (by decide)).mp c
    rw [if_pos c1]
    exact ok_bd (ok_bindm (re_nG hT (GC_dl h)) (fun r hr => ok_some ⟨hr.1, FR3_tr (FR3_u g (by omega) _ _) hr.2⟩))
  · have c1 : ¬ (tk T a).2.2.1 = 3 := fun e => c (by rw [e]; rfl)
    rw [if_neg c1]
    refine ok_bindm (re_bG (c := 1) h (by decide) (by decide)) (fun r hr => ok_bd (ok_bindm (re_nB hT (BC_u hr.1 (by omega) _ _)) (fun w hw => ok_some ⟨hw.1, FR3_tr hr.2.1 (FR3_tr (FR3_u r (by omega) _ _) hw.2)⟩)))
theorem re_numB {g : M2} {T : List Nat} {c p : Nat} (h : BC g T c p) (x y : Int32) : f_Re_expectNumber x y g = some (0, g) := by
  unfold f_Re_expectNumber
  have e := re_bB h
  have n := bc_no h
  rw [e, e]
  show (if g.1 1 5 = 2 then (if g.1 1 6 < x then (if g.1 1 7 = 0 then some ((1 : Int32), g) else some ((0 : Int32), g)) else (if g.1 1 6 ≤ y then (if g.1 1 7 = 0 then some ((1 : Int32), g) else some ((0 : Int32), g)) else (if g.1 1 7 = 0 then some ((1 : Int32), g) else some ((0 : Int32), g)))) else (if g.1 1 7 = 0 then some ((1 : Int32), g) else some ((0 : Int32), g))) = _
  rw [if_neg n, ite_self, ite_self, ite_self]
theorem re_numG {g : M2} {T : List Nat} {d : Sg} {a lo hi : Nat} (h : GC g T d a) (hlo : lo ≤ 99) (hhi : hi ≤ 99) : Ok (f_Re_expectNumber (cI lo) (cI hi) g) (fun p => (p = (1, g) ∧ lo ≤ (tk T a).2.2.2 ∧ (tk T a).2.2.2 ≤ hi ∧ (∀ K, numE (tk T a) lo hi K = K (tk T a).2.2.2)) ∨ (p.1 = 0 ∧ ∃ c, BC p.2 T c (tk T a).1 ∧ FR3 g p.2 ∧ ∀ K, numE (tk T a) lo hi K = .inr (c, (tk T a).1))) := by
  have h2 := h.2.1
  have ht := tk_in h.2.2.1
  have bad : ∀ c, 0 < c → c ≤ 3 → (∀ K, numE (tk T a) lo hi K = .inr (c, (tk T a).1)) → Ok ((f_Re_blame (cI c) g).bind fun q3 => (if (q3.1 1 7) = 0 then some ((1 : Int32), q3) else some ((0 : Int32), q3))) (fun p => (p = (1, g) ∧ lo ≤ (tk T a).2.2.2 ∧ (tk T a).2.2.2 ≤ hi ∧ (∀ K, numE (tk T a) lo hi K = K (tk T a).2.2.2)) ∨ (p.1 = 0 ∧ ∃ c, BC p.2 T c (tk T a).1 ∧ FR3 g p.2 ∧ ∀ K, numE (tk T a) lo hi K = .inr (c, (tk T a).1))) := by
    intro c c1 c2 hK
    refine ok_bindm (re_bG h c1 c2) (fun r hr => ok_neg (bc_no hr.1) (ok_some (Or.inr ⟨rfl, c, hr.1, hr.2.1, hK⟩)))
  unfold f_Re_expectNumber
  rw [h2.2.2.1, h2.2.2.2]
  refine ok_if (fun c => ?_) (fun c => ?_)
  · have c1 : (tk T a).2.2.1 = 2 := (cI_inj (b := 2) (by omega) (by decide)).mp c
    refine ok_if (fun c2 => bad 2 (by decide) (by decide) (fun K => ?_)) (fun c2 => ok_if (fun c3 => ok_pos h.2.2.2.2.1 (ok_some (Or.inl ?_))) (fun c3 => bad 2 (by decide) (by decide) (fun K => ?_)))
    · rw [cI_lt (by omega) (by omega)] at c2
      unfold numE
      rw [if_pos c1, if_neg (by omega)]
    · rw [cI_lt (by omega) (by omega)] at c2
      rw [cI_le (by omega) (by omega)] at c3
      refine ⟨rfl, by omega, by omega, fun K => ?_⟩
      unfold numE
      rw [if_pos c1, if_pos (by omega)]
    · rw [cI_le (by omega) (by omega)] at c3
      unfold numE
      rw [if_pos c1, if_neg (by omega)]
  · refine bad 1 (by decide) (by decide) (fun K => ?_)
    unfold numE
    rw [if_neg (fun e => c (by rw [e]; rfl))]
