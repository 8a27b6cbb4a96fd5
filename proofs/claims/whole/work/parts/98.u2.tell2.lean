/-! tell -/
def sgl (l : List Nat) (t : Int) : List Nat := if t < 0 then [45] else if l = [] then [] else [43]
def dpl (t : Int) (i : Nat) : List Nat := if i = 0 then dgN t.natAbs else if t.natAbs = 1 then [] else dgN t.natAbs
def txP (l : List Nat) (t : Int) (i : Nat) : List Nat := if t = 0 then l else l ++ sgl l t ++ dpl t i ++ List.replicate i 122
def txn (T : Nat → Int) : Nat → List Nat
  | 0 => []
  | i + 1 => txP (txn T i) (T i) i
def tx1 (T : Nat → Int) : List Nat := if txn T 4 = [] then [48] else txn T 4
def txt (T : Nat → Int) : List Nat := if T 4 = 1 then tx1 T else tx1 T ++ [47] ++ dgN (T 4).natAbs
/-- numbers that may be told -/
def tOk (T : Nat → Int) : Prop := (∀ k, k < 5 → (T k).natAbs < 100000000) ∧ 0 < T 4
def okL (l : List Nat) (n : Nat) : Prop := l.length ≤ n ∧ ∀ x ∈ l, x < 128
theorem okL_app {l m : List Nat} {a b : Nat} (h : okL l a) (k : okL m b) : okL (l ++ m) (a + b) := ⟨by rw [List.length_append]; have := h.1; have := k.1; omega, fun x hx => (List.mem_append.mp hx).elim (h.2 x) (k.2 x)⟩
theorem okL_m {l : List Nat} {a b : Nat} (h : okL l a) (hab : a ≤ b) : okL l b := ⟨Nat.le_trans h.1 hab, h.2⟩
theorem okL_1 {c : Nat} (h : c < 128) : okL [c] 1 := ⟨Nat.le_refl _, fun x hx => by rw [List.mem_singleton.mp hx]; exact h⟩
theorem okL_0 : okL [] 0 := ⟨Nat.le_refl _, fun x hx => absurd hx (by simp)⟩
theorem okL_d {N : Nat} (h : N < 100000000) : okL (dgN N) 8 := ⟨by rw [dgl_len]; have := (pk_p h).1; omega, dgl_lt N _⟩
theorem okL_s (l : List Nat) (t : Int) : okL (sgl l t) 1 := by
  unfold sgl
  repeat' split
  · exact okL_1 (by decide)
  · exact okL_m okL_0 (by decide)
  · exact okL_1 (by decide)
theorem okL_p {t : Int} (h : t.natAbs < 100000000) (i : Nat) : okL (dpl t i) 8 := by
  unfold dpl
  repeat' split
  · exact okL_d h
  · exact okL_m okL_0 (by decide)
  · exact okL_d h
theorem okL_r (i : Nat) : okL (List.replicate i 122) i := ⟨by rw [List.length_replicate]; exact Nat.le_refl _, fun x hx => by rw [(List.mem_replicate.mp hx).2]; decide⟩
theorem okL_P {l : List Nat} {a : Nat} (h : okL l a) {t : Int} (ht : t.natAbs < 100000000) {i : Nat} (hi : i < 4) : okL (txP l t i) (a + 12) := by
  unfold txP
  split
  · exact okL_m h (by omega)
  · exact okL_m (okL_app (okL_app (okL_app h (okL_s l t)) (okL_p ht i)) (okL_r i)) (by omega)
theorem okL_n {T : Nat → Int} (h : tOk T) : ∀ i, i ≤ 4 → okL (txn T i) (12 * i) := by
  intro i
  induction i with
  | zero => intro _; exact okL_0
  | succ i ih => intro hi; exact okL_m (okL_P (ih (by omega)) (h.1 i (by omega)) (by omega)) (by omega)
theorem okL_t {T : Nat → Int} (h : tOk T) : okL (tx1 T) 48 ∧ okL (txt T) 57 := by
  have h1 : okL (tx1 T) 48 := by
    unfold tx1
    split
    · exact okL_m (okL_1 (by decide)) (by decide)
    · exact okL_n h 4 (by decide)
  refine ⟨h1, ?_⟩
  unfold txt
  split
  · exact okL_m h1 (by decide)
  · exact okL_app (okL_app h1 (okL_1 (by decide))) (okL_d (h.1 4 (by decide)))
theorem txP_ne {l : List Nat} {t : Int} {i : Nat} (h : t ≠ 0) : txP l t i ≠ [] := by
  unfold txP
  rw [if_neg h]
  intro e
  have e1 := congrArg List.length e
  rw [List.length_append, List.length_append] at e1
  have e2 : (dpl t i).length + (List.replicate i 122).length = 0 := by
    simp only [List.length_nil] at e1; omega
  rw [List.length_replicate] at e2
  unfold dpl at e2
  rw [if_pos (by omega), dgl_len] at e2
  omega
theorem t_i {t : Int} (h : t.natAbs < 100000000) : (Int64.ofInt t = 0 ↔ t = 0) ∧ ((0 : Int64) ≤ Int64.ofInt t ↔ 0 ≤ t) := by
  constructor
  · rw [z64, eq64 (by omega) (by omega) (by omega) (by omega)]
  · rw [z64, le64 (by omega) (by omega) (by omega) (by omega)]
theorem nJ_1 {n : Nat} (h : n < 100000000) : nJ n = (1 : Int64) ↔ n = 1 := by
  show Int64.ofInt (n : Int) = Int64.ofInt 1 ↔ _
  rw [eq64 (by omega) (by omega) (by omega) (by omega)]; omega
/-! the class writes -/
theorem ou_zs {g : M2} {l : List Nat} {i : Nat} (hO : OB g l) (hl : l.length + i ≤ 160) (hi : i < 4) : Ok (j_Ou_writePart_30 (cI i) g) (fun r => OB r (l ++ List.replicate i 122) ∧ FO g r) := by
  unfold j_Ou_writePart_30
  refine ok_bindm (Q := fun r => OB r (l ++ List.replicate i 122) ∧ FO g r) ?_ (fun r hr => ok_some hr)
  refine ok_for i (by omega) (fun j z => OB z (l ++ List.replicate j 122) ∧ FO g z) ⟨by show OB g (l ++ []); rw [List.append_nil]; exact hO, FO_rf g⟩ ?_ ?_
  · rintro j z hj ⟨z1, z2⟩
    show Ok (b_Ou_writePart_32 (cI i) (cI j) z) _
    unfold b_Ou_writePart_32
    refine ok_neg (le_no hj (by omega)) (ok_bindm (ou_write z1 (by rw [List.length_append, List.length_replicate]; omega) 122) (fun r hr => ok_some ⟨c_succ j, ?_, FO_tr z2 hr.2⟩))
    rw [List.replicate_succ', ← List.append_assoc]; exact hr.1
  · rintro z hz
    show Ok (b_Ou_writePart_32 (cI i) (cI i) z) _
    unfold b_Ou_writePart_32
    exact ok_pos (le_yes (Nat.le_refl _) (by omega)) (ok_some hz)
theorem ou_19 {g : M2} {l : List Nat} {t : Int} {i : Nat} (ht : t.natAbs < 100000000) (hO : OB g l) (hl : l.length + 12 ≤ 160) (hi : i < 4) : Ok (j_Ou_writePart_19 (Int64.ofInt t) (cI i) g) (fun r => OB r (l ++ dpl t i ++ List.replicate i 122) ∧ FO g r) := by
  have num : Ok (j_Ou_writePart_26 (Int64.ofInt t) (cI i) g) (fun r => OB r (l ++ dgN t.natAbs ++ List.replicate i 122) ∧ FO g r) := by
    unfold j_Ou_writePart_26
    rw [absN (by omega) (by omega)]
    refine ok_bindm (ou_num ht hO (by omega)) (fun r hr => ?_)
    have hd := okL_d ht
    exact ok_mono (ou_zs hr.1 (by rw [List.length_append]; have := hd.1; omega) hi) (fun z hz => ⟨hz.1, FO_tr hr.2 hz.2⟩)
  unfold j_Ou_writePart_19
  refine ok_if (fun c => ?_) (fun c => ?_)
  · have hi0 : i = 0 := (cI_inj (b := 0) (by omega) (by decide)).mp c
    have e : dpl t i = dgN t.natAbs := by unfold dpl; rw [if_pos hi0]
    rw [e]; exact num
  · have hi0 : ¬ i = 0 := fun e => c (by rw [e]; rfl)
    rw [absN (by omega) (by omega)]
    refine ok_if (fun d => ?_) (fun d => ?_)
    · rw [nJ_1 ht] at d
      have e : dpl t i = [] := by unfold dpl; rw [if_neg hi0, if_pos d]
      rw [e, List.append_nil]
      exact ou_zs hO (by omega) hi
    · rw [nJ_1 ht] at d
      have e : dpl t i = dgN t.natAbs := by unfold dpl; rw [if_neg hi0, if_neg d]
      rw [e]; exact num
theorem ou_part {g : M2} {l : List Nat} {t : Int} {i : Nat} (ht : t.natAbs < 100000000) (hO : OB g l) (hl : l.length + 13 ≤ 160) (hi : i < 4) : Ok (f_Ou_writePart (Int64.ofInt t) (cI i) g) (fun r => OB r (txP l t i) ∧ FO g r) := by
  obtain ⟨t1, t2⟩ := t_i ht
  unfold f_Ou_writePart
  refine ok_if (fun c => ok_some ⟨?_, FO_rf g⟩) (fun c => ?_)
  · unfold txP; rw [if_pos (t1.mp c)]; exact hO
  · have c0 : ¬ t = 0 := fun e => c (t1.mpr e)
    have ex : ∀ l2 : List Nat, l ++ sgl l t = l2 → l2 ++ dpl t i ++ List.replicate i 122 = txP l t i := fun l2 h2 => by unfold txP; rw [if_neg c0, h2]
    refine ok_if (fun d => ?_) (fun d => ?_)
    · rw [t2] at d
      rw [hO.1]
      refine ok_if (fun f => ?_) (fun f => ?_)
      · have f0 : l.length = 0 := by
          have : cI l.length ≤ cI 0 := f
          rw [cI_le (by omega) (by decide)] at this
          omega
        have hl0 : l = [] := List.eq_nil_of_length_eq_zero f0
        have e := ex l (by unfold sgl; rw [if_neg (by omega), if_pos hl0, List.append_nil])
        rw [← e]
        exact ou_19 ht hO (by omega) hi
      · have hl0 : ¬ l = [] := fun e => f (by rw [e]; decide)
        have e := ex (l ++ [43]) (by unfold sgl; rw [if_neg (by omega), if_neg hl0])
        rw [← e]
        refine ok_bindm (ou_write hO (by omega) 43) (fun r hr => ok_mono (ou_19 ht hr.1 (by rw [List.length_append]; simp; omega) hi) (fun z hz => ⟨hz.1, FO_tr hr.2 hz.2⟩))
    · rw [t2] at d
      have e := ex (l ++ [45]) (by unfold sgl; rw [if_pos (by omega)])
      rw [← e]
      refine ok_bindm (ou_write hO (by omega) 45) (fun r hr => ok_mono (ou_19 ht hr.1 (by rw [List.length_append]; simp; omega) hi) (fun z hz => ⟨hz.1, FO_tr hr.2 hz.2⟩))
theorem ou_frac {g : M2} {T : Nat → Int} (hT : tOk T) (hg : ∀ j, j < 5 → g.2 156 j = Int64.ofInt (T j)) : Ok (f_Ou_writeFraction g) (fun r => OB r (txt T) ∧ FO g r) := by
  have fin : ∀ z : M2, OB z (tx1 T) → FO g z → Ok (j_Ou_writeFraction_26 z) (fun r => OB r (txt T) ∧ FO g r) := by
    intro z z1 z2
    unfold j_Ou_writeFraction_26
    have e4 : z.2 156 4 = Int64.ofInt (T 4) := by rw [z2.2]; exact hg 4 (by decide)
    have hb := hT.1 4 (by decide)
    have hp := hT.2
    have e1 : Int64.ofInt (T 4) = (1 : Int64) ↔ T 4 = 1 := by
      show _ = Int64.ofInt 1 ↔ _
      rw [eq64 (by omega) (by omega) (by omega) (by omega)]
    rw [e4]
    refine ok_neg (by decide) (ok_if (fun c => ok_some ⟨?_, z2⟩) (fun c => ?_))
    · unfold txt; rw [if_pos (e1.mp c)]; exact z1
    · have hl := (okL_t hT).1.1
      refine ok_bindm (ou_write z1 (by omega) 47) (fun r hr => ?_)
      have e5 : r.2 156 4 = nJ (T 4).natAbs := by
        rw [hr.2.2, e4]
        show _ = Int64.ofInt (((T 4).natAbs : Nat) : Int)
        rw [Int.natAbs_of_nonneg (by omega)]
      rw [e5]
      refine ok_bindm (ou_num hb hr.1 (by rw [List.length_append]; simp; omega)) (fun s hs => ok_some ⟨?_, FO_tr z2 (FO_tr hr.2 hs.2)⟩)
      unfold txt; rw [if_neg (fun e => c (e1.mpr e))]; exact hs.1
  unfold f_Ou_writeFraction
  refine ok_bd (ok_bindm (Q := fun z => OB z (txn T 4) ∧ FO g z) ?_ (fun z hz => ?_))
  · refine ok_for 4 (by decide) (fun i z => OB z (txn T i) ∧ FO g z) ⟨⟨uI_s _ _ _ _, fun i hi => absurd hi (by simp [txn])⟩, fun y a _ => uI_o _ _ _ a, rfl⟩ ?_ ?_
    · rintro i z hi ⟨z1, z2⟩
      show Ok (b_Ou_writeFraction_5 (cI i) z) _
      unfold b_Ou_writeFraction_5
      have hl := (okL_n hT i (by omega)).1
      refine ok_neg (le_no (a := 4) hi (by decide)) (ok_neg (le_no (a := 5) (by omega) (by decide)) (ok_pos (inb_cI (by omega) (by decide)) ?_))
      rw [cI_nat (by omega), z2.2, hg i (by omega)]
      exact ok_bindm (ou_part (hT.1 i (by omega)) z1 (by omega) hi) (fun r hr => ok_some ⟨c_succ i, hr.1, FO_tr z2 hr.2⟩)
    · rintro z hz
      show Ok (b_Ou_writeFraction_5 (cI 4) z) _
      unfold b_Ou_writeFraction_5
      exact ok_pos (le_yes (a := 4) (Nat.le_refl _) (by decide)) (ok_some hz)
  · unfold j_Ou_writeFraction_20
    have hl := (okL_n hT 4 (by decide)).1
    rw [hz.1.1]
    refine ok_if (fun c => ?_) (fun c => ?_)
    · have hl0 : txn T 4 = [] := List.eq_nil_of_length_eq_zero ((cI_inj (b := 0) (by omega) (by decide)).mp c)
      refine ok_bindm (ou_write hz.1 (by omega) 48) (fun r hr => fin r ?_ (FO_tr hz.2 hr.2))
      have h1 := hr.1
      rw [hl0] at h1
      unfold tx1; rw [if_pos hl0]; exact h1
    · have hl0 : ¬ txn T 4 = [] := fun e => c (by rw [e]; rfl)
      refine fin z ?_ hz.2
      unfold tx1; rw [if_neg hl0]; exact hz.1
/-! the reference tells -/
theorem mo_91 {g : M2} {l : List Nat} {i : Nat} (x y : Int32) (B : Int64) (hO : MB g l) (hl : l.length + i ≤ 160) (hi : i < 4) : Ok (j_Mo_tell_91 x y B (cI i) g) (fun r => ∃ z, r = .inl (x, cI (i + 1), z) ∧ MB z (l ++ List.replicate i 122) ∧ FQ g z) := by
  unfold j_Mo_tell_91
  refine ok_bindm (Q := fun r => MB r (l ++ List.replicate i 122) ∧ FQ g r) ?_ (fun r hr => ok_some ⟨r, by rw [c_succ], hr⟩)
  refine ok_for i (by omega) (fun j z => MB z (l ++ List.replicate j 122) ∧ FQ g z) ⟨by show MB g (l ++ []); rw [List.append_nil]; exact hO, FQ_rf g⟩ ?_ ?_
  · rintro j z hj ⟨z1, z2⟩
    show Ok (b_Mo_tell_93 x y B (cI i) (cI j) z) _
    unfold b_Mo_tell_93
    refine ok_neg (le_no hj (by omega)) (ok_bindm (mo_tells z1 (by rw [List.length_append, List.length_replicate]; omega) (c := 122) (by decide)) (fun r hr => ok_some ⟨c_succ j, ?_, FQ_tr z2 hr.2⟩))
    rw [List.replicate_succ', ← List.append_assoc]; exact hr.1
  · rintro z hz
    show Ok (b_Mo_tell_93 x y B (cI i) (cI i) z) _
    unfold b_Mo_tell_93
    exact ok_pos (le_yes (Nat.le_refl _) (by omega)) (ok_some hz)
theorem mo_78 {g : M2} {l : List Nat} {t : Int} {i : Nat} (y : Int32) (B : Int64) (ht : t.natAbs < 100000000) (hO : MB g l) (hl : l.length + 12 ≤ 160) (hi : i < 4) : Ok (j_Mo_tell_78 y B (cI i) (Int64.ofInt t) g) (fun r => ∃ z, r = .inl (0, cI (i + 1), z) ∧ MB z (l ++ dpl t i ++ List.replicate i 122) ∧ FQ g z) := by
  have num : Ok (j_Mo_tell_87 (0 : Int32) y B (cI i) (Int64.ofInt t) g) (fun r => ∃ z, r = .inl (0, cI (i + 1), z) ∧ MB z (l ++ dgN t.natAbs ++ List.replicate i 122) ∧ FQ g z) := by
    unfold j_Mo_tell_87
    rw [absN (by omega) (by omega)]
    refine ok_bindm (mo_num ht hO (by omega)) (fun r hr => ?_)
    have hd := okL_d ht
    exact ok_mono (mo_91 0 y B hr.1 (by rw [List.length_append]; have := hd.1; omega) hi) (fun z hz => by
      obtain ⟨w, w1, w2, w3⟩ := hz
      exact ⟨w, w1, w2, FQ_tr hr.2 w3⟩)
  unfold j_Mo_tell_78
  refine ok_if (fun c => ?_) (fun c => ?_)
  · have hi0 : i = 0 := (cI_inj (b := 0) (by omega) (by decide)).mp c
    have e : dpl t i = dgN t.natAbs := by unfold dpl; rw [if_pos hi0]
    rw [e]; exact num
  · have hi0 : ¬ i = 0 := fun e => c (by rw [e]; rfl)
    rw [absN (by omega) (by omega)]
    refine ok_if (fun d => ?_) (fun d => ?_)
    · rw [nJ_1 ht] at d
      have e : dpl t i = [] := by unfold dpl; rw [if_neg hi0, if_pos d]
      rw [e, List.append_nil]
      exact mo_91 0 y B hO (by omega) hi
    · rw [nJ_1 ht] at d
      have e : dpl t i = dgN t.natAbs := by unfold dpl; rw [if_neg hi0, if_neg d]
      rw [e]; exact num
theorem mo_49 {g : M2} {T : Nat → Int} {y : Int32} {B : Int64} (hT : tOk T) (hg : ∀ z : M2, z.2 = g.2 → ∀ j, j < 5 → f_Mo_told y B (cI j) z = some (Int64.ofInt (T j))) (hO : MB g []) : Ok (j_Mo_tell_49 (1 : Int32) y B g) (fun p => p.1 = cI (txt T).length ∧ MB p.2 (txt T) ∧ FQ g p.2) := by
  have fin : ∀ z : M2, MB z (tx1 T) → FQ g z → Ok (j_Mo_tell_108 y B z) (fun p => p.1 = cI (txt T).length ∧ MB p.2 (txt T) ∧ FQ g p.2) := by
    intro z z1 z2
    unfold j_Mo_tell_108
    have hb := hT.1 4 (by decide)
    have hp := hT.2
    have e1 : Int64.ofInt (T 4) = (1 : Int64) ↔ T 4 = 1 := by
      show _ = Int64.ofInt 1 ↔ _
      rw [eq64 (by omega) (by omega) (by omega) (by omega)]
    refine ok_binde (hg z z2.2.2 4 (by decide)) (ok_if (fun c => ok_some ?_) (fun c => ?_))
    · have e : txt T = tx1 T := by unfold txt; rw [if_pos (e1.mp c)]
      rw [e]; exact ⟨z1.1, z1, z2⟩
    · have hl := (okL_t hT).1.1
      refine ok_bindm (mo_tells z1 (by omega) (c := 47) (by decide)) (fun r hr => ?_)
      have e5 : Int64.ofInt (T 4) = nJ (T 4).natAbs := by
        show _ = Int64.ofInt (((T 4).natAbs : Nat) : Int)
        rw [Int.natAbs_of_nonneg (by omega)]
      rw [e5]
      have e : txt T = tx1 T ++ [47] ++ dgN (T 4).natAbs := by unfold txt; rw [if_neg (fun e => c (e1.mpr e))]
      rw [e]
      exact ok_bindm (mo_num hb hr.1 (by rw [List.length_append]; simp; omega)) (fun s hs => ok_some ⟨hs.1.1, hs.1, FQ_tr z2 (FQ_tr hr.2 hs.2)⟩)
  unfold j_Mo_tell_49
  refine ok_bindm (Q := fun e => e.1 = (if txn T 4 = [] then 1 else 0) ∧ MB e.2 (txn T 4) ∧ FQ g e.2) ?_ (fun e he => ?_)
  · refine ok_lp (fun i st => ∃ z, st = ((if txn T i = [] then (1 : Int32) else 0), cI i, z) ∧ MB z (txn T i) ∧ FQ g z) 4 5000 0 _ (by omega) (by omega) ⟨g, rfl, hO, FQ_rf g⟩ ?_
    rintro i st hi ⟨z, rfl, z1, z2⟩
    show Ok (b_Mo_tell_51 y B (if txn T i = [] then (1 : Int32) else 0) (cI i) z) _
    unfold b_Mo_tell_51
    by_cases hi2 : i = 4
    · subst hi2
      exact ok_pos (le_yes (a := 4) (Nat.le_refl _) (by decide)) (ok_some ⟨rfl, z1, z2⟩)
    · have hi' : i < 4 := by omega
      have hb := hT.1 i (by omega)
      obtain ⟨t1, t2⟩ := t_i hb
      have hl := (okL_n hT i (by omega)).1
      have exn : ∀ l2 : List Nat, T i ≠ 0 → txn T i ++ sgl (txn T i) (T i) = l2 → l2 ++ dpl (T i) i ++ List.replicate i 122 = txn T (i + 1) := fun l2 h0 h2 => by
        show _ = txP (txn T i) (T i) i
        unfold txP; rw [if_neg h0, h2]
      have nx : ∀ (w : M2) (l2 : List Nat), T i ≠ 0 → txn T i ++ sgl (txn T i) (T i) = l2 → l2.length + 12 ≤ 160 → MB w l2 → FQ g w → Ok (j_Mo_tell_78 y B (cI i) (Int64.ofInt (T i)) w) (fun r => Sum.elim (fun s2 => i < 4 ∧ ∃ z, s2 = ((if txn T (i + 1) = [] then (1 : Int32) else 0), cI (i + 1), z) ∧ MB z (txn T (i + 1)) ∧ FQ g z) (fun e => e.1 = (if txn T 4 = [] then 1 else 0) ∧ MB e.2 (txn T 4) ∧ FQ g e.2) r) := by
        intro w l2 h0 h2 h3 hM hF
        refine ok_mono (mo_78 y B hb hM h3 hi') (fun r hr => ?_)
        obtain ⟨v, rfl, v1, v2⟩ := hr
        rw [exn l2 h0 h2] at v1
        have hne : ¬ txn T (i + 1) = [] := txP_ne h0
        exact ⟨hi', v, by rw [if_neg hne], v1, FQ_tr hF v2⟩
      refine ok_neg (le_no (a := 4) hi' (by decide)) (ok_binde (hg z z2.2.2 i (by omega)) (ok_if (fun c => ok_some ⟨hi', z, ?_, ?_, z2⟩) (fun c => ?_)))
      · have e : txn T (i + 1) = txn T i := by
          show txP (txn T i) (T i) i = _
          unfold txP; rw [if_pos (t1.mp c)]
        rw [e, c_succ]
      · have e : txn T (i + 1) = txn T i := by
          show txP (txn T i) (T i) i = _
          unfold txP; rw [if_pos (t1.mp c)]
        rw [e]; exact z1
      · have c0 : T i ≠ 0 := fun e => c (t1.mpr e)
        refine ok_if (fun d => ?_) (fun d => ?_)
        · rw [t2] at d
          by_cases hl0 : txn T i = []
          · rw [if_pos hl0]
            exact ok_neg (by decide) (nx z (txn T i) c0 (by unfold sgl; rw [if_neg (by omega), if_pos hl0, List.append_nil]) (by omega) z1 z2)
          · rw [if_neg hl0]
            refine ok_pos rfl (ok_bindm (mo_tells z1 (by omega) (c := 43) (by decide)) (fun r hr => nx r (txn T i ++ [43]) c0 (by unfold sgl; rw [if_neg (by omega), if_neg hl0]) (by rw [List.length_append]; simp; omega) hr.1 (FQ_tr z2 hr.2)))
        · rw [t2] at d
          exact ok_bindm (mo_tells z1 (by omega) (c := 45) (by decide)) (fun r hr => nx r (txn T i ++ [45]) c0 (by unfold sgl; rw [if_pos (by omega)]) (by rw [List.length_append]; simp; omega) hr.1 (FQ_tr z2 hr.2))
  · have hl := (okL_n hT 4 (by decide)).1
    rw [he.1]
    by_cases hl0 : txn T 4 = []
    · rw [if_pos hl0]
      refine ok_neg (by decide) (ok_bindm (mo_tells he.2.1 (by omega) (c := 48) (by decide)) (fun r hr => fin r ?_ (FQ_tr he.2.2 hr.2)))
      have h1 := hr.1
      rw [hl0] at h1
      unfold tx1; rw [if_pos hl0]; exact h1
    · rw [if_neg hl0]
      refine ok_pos rfl (fin e.2 ?_ he.2.2)
      unfold tx1; rw [if_neg hl0]; exact he.2.1
/-! the call -/
def tli (L : Int) (v : Z4) (k : Nat) : Int := (cmz v L k).tdiv (gc L v 4)
def tT (q : Sg) (e k : Nat) : Int := if (sb q).testBit e then (if k = 4 then 1 else 0) else tli (qL q) (qv q e) k
theorem cmz_l {q : Sg} (hw : WF q) (h : qh q = true) {e : Nat} (he : e < sn q) (k : Nat) : (cmz (qv q e) (qL q) k).natAbs ≤ 16777216 := by
  obtain ⟨a, b, c, d⟩ := qv_c hw h he
  obtain ⟨l0, l1⟩ := qL_b hw
  unfold cmz
  repeat' split
  all_goals omega
theorem tT_ok {q : Sg} (hw : WF q) (h : qh q = true) {e : Nat} (he : e < sn q) : tOk (tT q e) := by
  obtain ⟨l0, l1⟩ := qL_b hw
  unfold tT
  by_cases hb : (sb q).testBit e = true
  · refine ⟨fun k hk => ?_, ?_⟩
    · show (if (sb q).testBit e then (if k = 4 then (1 : Int) else 0) else tli (qL q) (qv q e) k).natAbs < _
      rw [if_pos hb]; split <;> decide
    · show 0 < (if (sb q).testBit e then (if 4 = 4 then (1 : Int) else 0) else tli (qL q) (qv q e) 4)
      rw [if_pos hb]; decide
  · refine ⟨fun k hk => ?_, ?_⟩
    · show (if (sb q).testBit e then (if k = 4 then (1 : Int) else 0) else tli (qL q) (qv q e) k).natAbs < _
      rw [if_neg hb]
      unfold tli
      rw [Int.natAbs_tdiv]
      have := Nat.div_le_self (cmz (qv q e) (qL q) k).natAbs (gc (qL q) (qv q e) 4).natAbs
      have := cmz_l hw h he k
      show (cmz (qv q e) (qL q) k).natAbs.div (gc (qL q) (qv q e) 4).natAbs < _
      exact Nat.lt_of_le_of_lt (Nat.div_le_self _ _) (by omega)
    · show 0 < (if (sb q).testBit e then (if 4 = 4 then (1 : Int) else 0) else tli (qL q) (qv q e) 4)
      rw [if_neg hb]
      show 0 < (qL q).tdiv (gc (qL q) (qv q e) 4)
      have hgp := gc_pos (v := qv q e) l0 4
      have hgd := gc_dvd (L := qL q) (v := qv q e) 4
      rw [Int.tdiv_eq_ediv_of_nonneg (by omega)]
      generalize gc (qL q) (qv q e) 4 = m at hgp hgd
      obtain ⟨c, hc⟩ := hgd
      rw [hc, Int.mul_ediv_cancel_left _ (by omega)]
      rw [hc] at l0
      refine Int.lt_of_not_ge (fun hn => ?_)
      have h9 := Int.mul_le_mul_of_nonneg_left hn (Int.le_of_lt hgp)
      rw [Int.mul_zero] at h9
      omega
theorem tld_T {q : Sg} (hw : WF q) (h : qh q = true) {e : Nat} (he : e < sn q) {k : Nat} (hk : k < 5) : tld (qL q) (qv q e) k = Int64.ofInt (tT q e k) := by
  obtain ⟨l0, l1⟩ := qL_b hw
  unfold tT
  by_cases hb : (sb q).testBit e = true
  · rw [if_pos hb, qv_0 hb, tld_0 (qL_1 hw).1 l0 hk]
    split <;> rfl
  · rw [if_neg hb]
    have hgp := gc_pos (v := qv q e) l0 4
    have hgl : gc (qL q) (qv q e) 4 ≤ qL q := Int.le_of_dvd l0 (gc_dvd 4)
    have := cmz_l hw h he k
    unfold tld tli
    rw [div64 (by omega) (by omega) (by omega) (by omega)]
theorem pr_tell {q : Sg} (hw : WF q) (x : Int32) : Pr (f_Da_tell x) (f_Mo_tell x) q := by
  have hn := hw.1
  by_cases hc : qh q = true ∧ inb x (sn q)
  · obtain ⟨h, c1⟩ := hc
    have hT := tT_ok hw h c1.2
    have hL := (okL_t hT).2
    have i5 : inb x 5 := ⟨c1.1, by have := c1.2; omega⟩
    refine ⟨cI (txt (tT q x.toNatClampNeg)).length, (sn q, sp q, sb q, sl q, sd q, ss q, sL q, st q, sf q, sP q, txt (tT q x.toNatClampNeg)), ?_, fun g hg => ?_, fun g hg => ?_⟩
    · obtain ⟨w1, w2, w3, w4, w5, w6, w7, w8, w9, w10, w11, w12, w13, w14, w15, w16, w17⟩ := hw
      exact ⟨w1, w2, w3, w4, w5, w6, w7, w8, w9, w10, w11, w12, w13, w14, w15, Nat.le_trans hL.1 (by decide), hL.2⟩
    · unfold f_Da_tell
      refine ok_bindm (da_refresh hw hg) (fun r hr => ?_)
      obtain ⟨a1, a2, a3⟩ := hr
      refine ok_neg (by rw [qh_e a2]; exact fun e => e h) (ok_grd (da_has hw a1) (fun n => absurd c1 n) (fun _ => ok_pos i5 ?_))
      have hv := (a2.2.2.2.2.2.2.2 h).1
      rw [hv.1]
      have hbz : bz (qv q x.toNatClampNeg) := bz_c (qv_b hw h c1.2)
      refine ok_bindm (da_low (a := 49 + 1 + x.toNatClampNeg) (hv.2.2 _ c1.2) (by have := i5.2; omega) hbz (qL_1 hw).1 (qL_1 hw).2) (fun z hz => ?_)
      refine ok_bindm (ou_frac hT (fun j hj => by rw [hz.2.2 j hj]; exact tld_T hw h c1.2 hj)) (fun s hs => ok_some ⟨hs.1.1, ?_, ?_⟩)
      · have k1 : ∀ y, y ≠ 153 → y ≠ 154 → s.1 y = r.1 y := fun y b c => by rw [hs.2.1 y b c, hz.1]
        have k2 : ∀ y, y ≠ 156 → s.2 y = r.2 y := fun y b => by rw [hs.2.2]; exact hz.2.1 y b
        obtain ⟨b1, b2, b3, b4, b5, b6, b7, b8, b9, b10⟩ := a1
        refine ⟨PL_k b1 (fun y _ _ => k1 y (by omega) (by omega)), by rw [k1 7 (by decide) (by decide)]; exact b2, by rw [k1 7 (by decide) (by decide)]; exact b3, by rw [k1 1 (by decide) (by decide)]; exact b4, fun i hi => by rw [k1 2 (by decide) (by decide)]; exact b5 i hi, by rw [k1 1 (by decide) (by decide)]; exact b6, by rw [k1 1 (by decide) (by decide)]; exact b7, hs.1.1, hs.1.2, ?_⟩
        rw [k1 0 (by decide) (by decide)]
        rcases b10 with b10 | ⟨b10, b11⟩
        · exact Or.inl b10
        · exact Or.inr ⟨b10, Now_mono (q := q) (WF_m hw) hw.1 b11 (k1 6 (by decide) (by decide)) (k1 10 (by decide) (by decide)) (k1 11 (by decide) (by decide)) (k2 6 (by decide)) (fun y _ y2 => k2 y (by omega))⟩
      · refine KC_tr a3 (fun y hy => ⟨by rw [hs.2.1 y (by omega) (by omega), hz.1], by rw [hs.2.2]; exact hz.2.1 y (by omega)⟩)
    · unfold f_Mo_tell
      refine ok_binde (mo_elem hw hg.2.1) (ok_grd rfl (fun n => absurd c1 n) (fun _ => ok_bindm (mo_canNow hw hg) (fun r hr => ?_)))
      obtain ⟨b1, b2, b3, b4, b5⟩ := hr
      rw [b1]
      refine ok_grd rfl (fun n => absurd h n) (fun _ => ok_bd (ok_pos i5 ?_))
      obtain ⟨h1, h2, h3, h4, h5, _⟩ := q_on hw h
      have hQ : Mqr r.2 q := ⟨b3, b4.1, b4.2.2.2.2.2 ⟨h3, h2⟩, b5⟩
      have hO : MB (uI r.2 157 38 0) [] := ⟨uI_s _ _ _ _, fun i hi => absurd hi (by simp)⟩
      have e166 : ∀ z : M2, FQ (uI r.2 157 38 0) z → z.1 166 = r.2.1 166 := fun z hz => by rw [hz.1 166 (by decide) (by decide), uI_o _ _ _ (by decide)]
      have done : ∀ z p : M2, (∀ y, y ≠ 157 → y ≠ 171 → z.1 y = r.2.1 y) → (∀ j, j ≠ 38 → z.1 157 j = r.2.1 157 j) → (∀ y, y ≠ 157 → y ≠ 158 → y ≠ 159 → z.2 y = r.2.2 y) → MB p (txt (tT q x.toNatClampNeg)) → FQ z p → IM p (sn q, sp q, sb q, sl q, sd q, ss q, sL q, st q, sf q, sP q, txt (tT q x.toNatClampNeg)) ∧ KM g p := by
        intro z p z1 z2 z3 p1 p2
        have k1 : ∀ y, y ≠ 157 → y ≠ 171 → p.1 y = r.2.1 y := fun y a b => by rw [p2.1 y a b, z1 y a b]
        have k2 : ∀ j, j ≠ 38 → p.1 157 j = r.2.1 157 j := fun j a => by rw [p2.2.1 j a, z2 j a]
        obtain ⟨d1, d2, d3, d4, d5, d6, d7, d8⟩ := b3
        refine ⟨⟨fun j hj => by rw [k1 _ (by decide) (by decide)]; exact d1 j hj, WD_f d2 (k1 160 (by decide) (by decide)), by rw [k2 21 (by decide)]; exact d3, fun i hi => by rw [k1 167 (by decide) (by decide)]; exact d4 i hi, by rw [k2 28 (by decide)]; exact d5, by rw [k2 29 (by decide)]; exact d6, p1.1, p1.2⟩, fun y hy => ?_⟩
        have hk := FM_K b2 y hy
        exact ⟨by rw [k1 y (by omega) (by omega)]; exact hk.1, by rw [p2.2.2, z3 y (by omega) (by omega) (by omega)]; exact hk.2⟩
      by_cases hb : (sb q).testBit x.toNatClampNeg = true
      · have eb : (uI r.2 157 38 0).1 166 x.toNatClampNeg = -1 := by rw [uI_o _ _ _ (by decide)]; exact q_br hQ c1.2 hb
        refine ok_pos eb ?_
        unfold j_Mo_tell_29
        refine ok_pos i5 (ok_pos eb ?_)
        unfold j_Mo_tell_40
        refine ok_pos i5 (ok_pos eb (ok_bindm (mn_clears (MN_rf (uI r.2 157 38 0)) (a := 81) (by decide)) (fun z hz => ?_)))
        have hOz : MB z [] := ⟨by rw [hz.1]; exact hO.1, fun i hi => absurd hi (by simp)⟩
        refine ok_mono (mo_49 hT (fun w hw2 j hj => ?_) hOz) (fun p hp => ⟨hp.1, done z p.2 (fun y a b => by rw [hz.1, uI_o _ _ _ a]) (fun j a => by rw [hz.1, uI_k _ _ _ a]) (fun y _ b c => by rw [hz.2.1 y b c]; rfl) hp.2.1 hp.2.2⟩)
        have hr0 : rM w 81 = q64 (0, 0, 0, 0) := by
          have : rM w 81 = rM z 81 := by unfold rM; rw [hw2]
          rw [this, hz.2.2 81 (by decide), up_s]; rfl
        have ht := mo_told (a := 81) (by decide) hr0 bz_0 (L := 1) ⟨by decide, by decide⟩ (by decide) (x := cI j) (inb_cI hj (by decide))
        rw [cI_nat (by omega), tld_0 ⟨by decide, by decide⟩ (by decide) hj] at ht
        have e2 : tT q x.toNatClampNeg j = if j = 4 then 1 else 0 := by unfold tT; rw [if_pos hb]
        rw [e2]
        refine ht.trans ?_
        split <;> rfl
      · obtain ⟨i1, i2, i3⟩ := q_wk hQ c1.2 hb
        have hlen := q5 hw
        have eb : (uI r.2 157 38 0).1 166 x.toNatClampNeg = cI (wkl (sp q) (sb q) x.toNatClampNeg).length := by rw [uI_o _ _ _ (by decide)]; exact i1
        have nb : ¬ (uI r.2 157 38 0).1 166 x.toNatClampNeg = -1 := by rw [eb]; exact cI_m1 (by omega)
        refine ok_neg nb (ok_pos i5 ?_)
        unfold j_Mo_tell_29
        refine ok_pos i5 (ok_neg nb ?_)
        unfold j_Mo_tell_40
        refine ok_pos i5 (ok_neg nb ?_)
        rw [eb, show (62 : Int32) = cI 62 from rfl, cI_add, show (uI r.2 157 38 0).2 157 16 = Int64.ofInt (qL q) from hQ.2.2.1.1]
        refine ok_mono (mo_49 hT (fun w hw2 j hj => ?_) hO) (fun p hp => ⟨hp.1, done (uI r.2 157 38 0) p.2 (fun y a b => by rw [uI_o _ _ _ a]) (fun j a => by rw [uI_k _ _ _ a]) (fun y _ _ _ => rfl) hp.2.1 hp.2.2⟩)
        have hr0 : rM w (62 + (wkl (sp q) (sb q) x.toNatClampNeg).length) = q64 (qv q x.toNatClampNeg) := by
          have : rM w (62 + (wkl (sp q) (sb q) x.toNatClampNeg).length) = rM r.2 (62 + (wkl (sp q) (sb q) x.toNatClampNeg).length) := by unfold rM; rw [hw2]; rfl
          rw [this]; exact i3
        have ht := mo_told (a := 62 + (wkl (sp q) (sb q) x.toNatClampNeg).length) (by omega) hr0 (bz_c (qv_b hw h c1.2)) (qL_1 hw).1 (qL_1 hw).2 (x := cI j) (inb_cI hj (by decide))
        rw [cI_nat (by omega), tld_T hw h c1.2 hj] at ht
        exact ht
  · refine ⟨-2, q, hw, cs_ref hw (fun g => rfl) (fun n => rfl) (fun h r hC hN => ?_), fun g hg => ?_⟩
    · exact ok_grd (da_has hw hC) (fun _ => ok_some ⟨rfl, hC, KC_rf r⟩) (fun c => absurd ⟨h, c⟩ hc)
    · unfold f_Mo_tell
      exact ok_binde (mo_elem hw hg.2.1) (ok_grd rfl (fun _ => ok_some ⟨rfl, hg, KM_rf g⟩) (fun c => ms_no hw hg (fun h => hc ⟨h, c⟩)))
