/-! tokens of the tape -/
def nx (p : Nat → Bool) (T : List Nat) : Nat → Nat → Nat
  | 0, a => a
  | k + 1, a => if a < T.length then (if p (T.getD a 0) then nx p T k (a + 1) else a) else a
theorem nx_le (p : Nat → Bool) (T : List Nat) : ∀ k a, a ≤ nx p T k a ∧ (a ≤ T.length → nx p T k a ≤ T.length) := by
  intro k
  induction k with
  | zero => intro a; exact ⟨Nat.le_refl _, id⟩
  | succ k ih =>
    intro a
    unfold nx
    by_cases h : a < T.length
    · rw [if_pos h]
      split
      · have := ih (a + 1)
        exact ⟨by omega, fun _ => this.2 (by omega)⟩
      · exact ⟨Nat.le_refl _, id⟩
    · rw [if_neg h]; exact ⟨Nat.le_refl _, id⟩
theorem nx_lt {p : Nat → Bool} {T : List Nat} {k a : Nat} (h : a < T.length) (hp : p (T.getD a 0) = true) : a < nx p T (k + 1) a := by
  unfold nx
  rw [if_pos h, if_pos hp]
  have := (nx_le p T k (a + 1)).1
  omega
theorem lp_nx (p : Nat → Bool) (T : List Nat) (body : M2 → Option (M2 ⊕ M2)) (I : Nat → M2 → Prop) (hend : ∀ a z, I a z → T.length ≤ a → body z = some (.inr z)) (hno : ∀ a z, I a z → a < T.length → ¬ p (T.getD a 0) = true → body z = some (.inr z)) (hyes : ∀ a z, I a z → a < T.length → p (T.getD a 0) = true → ∃ z2, body z = some (.inl z2) ∧ I (a + 1) z2) : ∀ k n a z, I a z → T.length - a ≤ k → k < n → Ok (lp body n z) (fun r => I (nx p T k a) r) := by
  intro k
  induction k with
  | zero =>
    intro n a z hI hk hn
    obtain ⟨m, rfl⟩ : ∃ m, n = m + 1 := ⟨n - 1, by omega⟩
    exact ok_lpO ⟨_, hend a z hI (by omega), hI⟩
  | succ k ih =>
    intro n a z hI hk hn
    obtain ⟨m, rfl⟩ : ∃ m, n = m + 1 := ⟨n - 1, by omega⟩
    by_cases h : a < T.length
    · by_cases hp : p (T.getD a 0) = true
      · obtain ⟨z2, e, h2⟩ := hyes a z hI h hp
        refine ok_lpO ⟨_, e, ?_⟩
        show Ok (lp body m z2) (fun r => I (nx p T (k + 1) a) r)
        have e2 : nx p T (k + 1) a = nx p T k (a + 1) := by unfold nx; rw [if_pos h, if_pos hp]; cases k <;> rfl
        rw [e2]
        exact ih m (a + 1) z2 h2 (by omega) (by omega)
      · have e2 : nx p T (k + 1) a = a := by unfold nx; rw [if_pos h, if_neg hp]
        rw [e2]
        exact ok_lpO ⟨_, hno a z hI h hp, hI⟩
    · have e2 : nx p T (k + 1) a = a := by unfold nx; rw [if_neg h]
      rw [e2]
      exact ok_lpO ⟨_, hend a z hI (by omega), hI⟩
def wsp (c : Nat) : Bool := decide (c = 32 ∨ c = 10)
def ltr (c : Nat) : Bool := decide (97 ≤ c ∧ c ≤ 122)
def dgt (c : Nat) : Bool := decide (48 ≤ c ∧ c ≤ 57)
/-- the number that digits write -/
def vs (T : List Nat) (s : Nat) : Nat → Nat
  | 0 => 0
  | j + 1 => 10 * vs T s j + (T.getD (s + j) 0 - 48)
/-- a token: where it starts, where it ends, kind, number -/
def tk (T : List Nat) (a : Nat) : Nat × Nat × Nat × Nat :=
  if T.length ≤ nx wsp T 300 a then (nx wsp T 300 a, nx wsp T 300 a, 0, 0)
  else if ltr (T.getD (nx wsp T 300 a) 0) then (nx wsp T 300 a, nx ltr T 300 (nx wsp T 300 a), 1, 0)
  else if dgt (T.getD (nx wsp T 300 a) 0) then (nx wsp T 300 a, nx dgt T 300 (nx wsp T 300 a), 2, vs T (nx wsp T 300 a) (nx dgt T 300 (nx wsp T 300 a) - nx wsp T 300 a))
  else if T.getD (nx wsp T 300 a) 0 = 59 then (nx wsp T 300 a, nx wsp T 300 a + 1, 3, 0)
  else (nx wsp T 300 a, nx wsp T 300 a + 1, 4, 0)
theorem mincap {C V c : Nat} (hC : C ≤ 99999) (h1 : 48 ≤ c) (h2 : c ≤ 57) (hC2 : 0 < C) (g : M2) : f_Ma_min (cI C) (cI (min C V) * (10 : Int32) + cI c - (48 : Int32)) g = cI (min C (10 * V + (c - 48))) := by
  rw [show (10 : Int32) = cI 10 from rfl, show (48 : Int32) = cI 48 from rfl, cI_mul, cI_add, cI_sub (by omega)]
  unfold f_Ma_min
  by_cases h : min C V * 10 + c - 48 < C
  · rw [if_pos ((cI_lt (by omega) (by omega)).mpr h)]
    congr 1
    omega
  · rw [if_neg (fun e => h ((cI_lt (by omega) (by omega)).mp e))]
    congr 1
    omega
theorem byt {T : List Nat} (hb : ∀ x ∈ T, x < 256) {i : Nat} (hi : i < T.length) : T.getD i 0 < 256 := hb _ (getD_mem hi)
theorem re_ltr {c : Nat} (h : c < 256) (g : M2) : f_Re_isLetter (cI c) g = if ltr c = true then 1 else 0 := by
  unfold f_Re_isLetter ltr
  rw [show (97 : Int32) = cI 97 from rfl, show (122 : Int32) = cI 122 from rfl]
  simp only [cI_lt (show c < 2 ^ 31 by omega) (show 97 < 2 ^ 31 by decide), cI_lt (show 122 < 2 ^ 31 by decide) (show c < 2 ^ 31 by omega), decide_eq_true_eq]
  by_cases h1 : c < 97
  · rw [if_pos h1, if_neg (by omega)]
  · rw [if_neg h1]
    by_cases h2 : 122 < c
    · rw [if_pos h2, if_neg (by omega)]
    · rw [if_neg h2, if_pos (by omega)]
theorem re_dgt {c : Nat} (h : c < 256) (g : M2) : f_Re_isDigit (cI c) g = if dgt c = true then 1 else 0 := by
  unfold f_Re_isDigit dgt
  rw [show (48 : Int32) = cI 48 from rfl, show (57 : Int32) = cI 57 from rfl]
  simp only [cI_lt (show c < 2 ^ 31 by omega) (show 48 < 2 ^ 31 by decide), cI_lt (show 57 < 2 ^ 31 by decide) (show c < 2 ^ 31 by omega), decide_eq_true_eq]
  by_cases h1 : c < 48
  · rw [if_pos h1, if_neg (by omega)]
  · rw [if_neg h1]
    by_cases h2 : 57 < c
    · rw [if_pos h2, if_neg (by omega)]
    · rw [if_neg h2, if_pos (by omega)]
/-- the class's reader has a token -/
def TkC (g : M2) (t : Nat × Nat × Nat × Nat) : Prop := g.1 1 4 = cI t.1 ∧ g.1 1 3 = cI t.2.1 ∧ g.1 1 5 = cI t.2.2.1 ∧ g.1 1 6 = cI (min 1000 t.2.2.2)
/-- only what the reader has of a token has changed -/
def FRd (g r : M2) : Prop := (∀ y, y ≠ 1 → r.1 y = g.1 y) ∧ (∀ j, j ≠ 3 → j ≠ 4 → j ≠ 5 → j ≠ 6 → r.1 1 j = g.1 1 j) ∧ r.2 = g.2
theorem FRd_tr {g r z : M2} (h : FRd g r) (k : FRd r z) : FRd g z := ⟨fun y hy => (k.1 y hy).trans (h.1 y hy), fun j a b c e => (k.2.1 j a b c e).trans (h.2.1 j a b c e), k.2.2.trans h.2.2⟩
theorem FRd_rf (g : M2) : FRd g g := ⟨fun _ _ => rfl, fun _ _ _ _ _ => rfl, rfl⟩
theorem FRd_u (g : M2) {j : Nat} (h : j = 3 ∨ j = 4 ∨ j = 5 ∨ j = 6) (x : Int32) : FRd g (uI g 1 j x) := ⟨fun y hy => uI_o _ _ _ hy, fun i a b c e => uI_k _ _ _ (by omega), rfl⟩
theorem FRd_T {g r : M2} {T : List Nat} (h : TP g T) (k : FRd g r) : TP r T := ⟨by rw [k.2.1 2 (by decide) (by decide) (by decide) (by decide)]; exact h.1, fun i hi => by rw [k.1 2 (by decide)]; exact h.2 i hi⟩
theorem tpn {g : M2} {T : List Nat} (h : TP g T) (h3 : T.length ≤ 300) {b : Nat} (hl : b < T.length) : g.1 2 (cI b).toNatClampNeg = cI (T.getD b 0) := by rw [cI_nat (by omega)]; exact h.2 b hl
theorem re_next {g : M2} {T : List Nat} {a : Nat} (hT : TP g T) (h3 : T.length ≤ 300) (hb : ∀ x ∈ T, x < 256) (ha : a ≤ T.length) (e3 : g.1 1 3 = cI a) : Ok (f_Re_nextToken g) (fun r => TkC r (tk T a) ∧ FRd g r) := by
  unfold f_Re_nextToken
  refine ok_bindm (lp_nx wsp T (fun s => b_Re_nextToken_0 s) (fun b z => b ≤ 300 ∧ z.1 1 3 = cI b ∧ FRd g z) ?_ ?_ ?_ 300 5000 a g ⟨by omega, e3, FRd_rf g⟩ (by omega) (by decide)) (fun z hz => ?_)
  · rintro b z ⟨hb3, z1, z2⟩ hl
    show b_Re_nextToken_0 z = _
    unfold b_Re_nextToken_0
    rw [(FRd_T hT z2).1, z1, if_pos (le_yes hl (by omega))]
  · rintro b z ⟨hb3, z1, z2⟩ hl hp
    show b_Re_nextToken_0 z = _
    unfold b_Re_nextToken_0
    have hc := byt hb hl
    unfold wsp at hp
    rw [decide_eq_true_eq] at hp
    rw [(FRd_T hT z2).1, z1, if_neg (le_no hl (by omega)), if_pos (inb_cI (by omega) (by decide)), tpn (FRd_T hT z2) h3 hl, if_neg (show ¬ cI (T.getD b 0) = (32 : Int32) from ne_no (b := 32) (fun e => hp (Or.inl e)) (by omega) (by decide)), if_pos (inb_cI (by omega) (by decide)), if_neg (show ¬ cI (T.getD b 0) = (10 : Int32) from ne_no (b := 10) (fun e => hp (Or.inr e)) (by omega) (by decide))]
  · rintro b z ⟨hb3, z1, z2⟩ hl hp
    have hc := byt hb hl
    unfold wsp at hp
    rw [decide_eq_true_eq] at hp
    refine ⟨uI z 1 3 (cI (b + 1)), ?_, by omega, uI_s _ _ _ _, FRd_tr z2 (FRd_u z (by omega) _)⟩
    show b_Re_nextToken_0 z = _
    unfold b_Re_nextToken_0
    rw [(FRd_T hT z2).1, z1, if_neg (le_no hl (by omega)), if_pos (inb_cI (by omega) (by decide)), tpn (FRd_T hT z2) h3 hl, if_pos (inb_cI (by omega) (by decide)), c_succ]
    rcases hp with hp | hp
    · rw [hp, if_pos (show cI 32 = (32 : Int32) from rfl)]; rfl
    · rw [hp, if_neg (by decide), if_pos (show cI 10 = (10 : Int32) from rfl)]; rfl
  · obtain ⟨s3, z1, z2⟩ := hz
    have hTz := FRd_T hT z2
    have hsle := (nx_le wsp T 300 a).2 ha
    unfold tk
    generalize nx wsp T 300 a = s at *
    unfold j_Re_nextToken_26
    refine ok_bd (ok_bd ?_)
    rw [z1]
    have f0 : FRd g (uI (uI z 1 4 (cI s)) 1 6 0) := FRd_tr z2 (FRd_tr (FRd_u z (by omega) _) (FRd_u _ (by omega) _))
    generalize hw0 : uI (uI z 1 4 (cI s)) 1 6 0 = w at *
    have w3 : w.1 1 3 = cI s := by rw [← hw0, uI_k _ _ _ (by decide), uI_k _ _ _ (by decide)]; exact z1
    have w4 : w.1 1 4 = cI s := by rw [← hw0, uI_k _ _ _ (by decide), uI_s]
    have w6 : w.1 1 6 = cI 0 := by rw [← hw0, uI_s]; rfl
    have hTw := FRd_T hT f0
    rw [w3, hTw.1]
    by_cases hl : T.length ≤ s
    · refine ok_neg (lt_no hl (by omega)) (ok_bd (ok_some ?_))
      rw [if_pos hl]
      exact ⟨⟨by rw [uI_k _ _ _ (by decide)]; exact w4, by rw [uI_k _ _ _ (by decide)]; exact w3, uI_s _ _ _ _, by rw [uI_k _ _ _ (by decide)]; exact w6⟩, FRd_tr f0 (FRd_u w (by omega) _)⟩
    · have hl' : s < T.length := by omega
      have hc := byt hb hl'
      rw [if_neg hl, tpn hTw h3 hl']
      refine ok_pos (lt_yes hl' (by omega)) (ok_pos (inb_cI (by omega) (by decide)) (ok_grd (re_ltr hc w) (fun c1 => ?_) (fun c1 => ?_)))
      · rw [if_neg c1]
        refine ok_pos (inb_cI (by omega) (by decide)) (ok_grd (re_dgt hc w) (fun c2 => ?_) (fun c2 => ?_))
        · rw [if_neg c2]
          refine ok_pos (inb_cI (by omega) (by decide)) (ok_if (fun c3 => ?_) (fun c3 => ?_))
          · have c4 : T.getD s 0 = 59 := (cI_inj (b := 59) (by omega) (by decide)).mp c3
            rw [if_pos c4]
            refine ok_bd (ok_bd (ok_some ?_))
            rw [uI_k _ _ _ (show 3 ≠ 5 by decide), w3, c_succ]
            exact ⟨⟨by rw [uI_k _ _ _ (by decide), uI_k _ _ _ (by decide)]; exact w4, uI_s _ _ _ _, by rw [uI_k _ _ _ (by decide), uI_s]; rfl, by rw [uI_k _ _ _ (by decide), uI_k _ _ _ (by decide)]; exact w6⟩, FRd_tr f0 (FRd_tr (FRd_u w (by omega) _) (FRd_u _ (by omega) _))⟩
          · have c4 : ¬ T.getD s 0 = 59 := fun e => c3 (by rw [e]; rfl)
            rw [if_neg c4]
            refine ok_bd (ok_bd (ok_some ?_))
            rw [uI_k _ _ _ (show 3 ≠ 5 by decide), w3, c_succ]
            exact ⟨⟨by rw [uI_k _ _ _ (by decide), uI_k _ _ _ (by decide)]; exact w4, uI_s _ _ _ _, by rw [uI_k _ _ _ (by decide), uI_s]; rfl, by rw [uI_k _ _ _ (by decide), uI_k _ _ _ (by decide)]; exact w6⟩, FRd_tr f0 (FRd_tr (FRd_u w (by omega) _) (FRd_u _ (by omega) _))⟩
        · rw [if_pos c2]
          have f1 : FRd g (uI w 1 5 2) := FRd_tr f0 (FRd_u w (by omega) _)
          refine ok_bd (ok_bindm (lp_nx dgt T (fun s => b_Re_nextToken_81 s) (fun b z => s ≤ b ∧ b ≤ 300 ∧ z.1 1 3 = cI b ∧ z.1 1 4 = cI s ∧ z.1 1 5 = cI 2 ∧ z.1 1 6 = cI (min 1000 (vs T s (b - s))) ∧ FRd g z) ?_ ?_ ?_ 300 5000 s (uI w 1 5 2) ⟨Nat.le_refl _, by omega, by rw [uI_k _ _ _ (by decide)]; exact w3, by rw [uI_k _ _ _ (by decide)]; exact w4, uI_s _ _ _ _, by rw [uI_k _ _ _ (by decide), Nat.sub_self]; exact w6, f1⟩ (by omega) (by decide)) (fun v hv => ok_some ⟨⟨hv.2.2.2.1, hv.2.2.1, hv.2.2.2.2.1, hv.2.2.2.2.2.1⟩, hv.2.2.2.2.2.2⟩))
          · rintro b v ⟨v1, v2, v3, v4, v5, v6, v7⟩ hl2
            show b_Re_nextToken_81 v = _
            unfold b_Re_nextToken_81
            rw [(FRd_T hT v7).1, v3, if_pos (le_yes hl2 (by omega))]
          · rintro b v ⟨v1, v2, v3, v4, v5, v6, v7⟩ hl2 hp
            show b_Re_nextToken_81 v = _
            unfold b_Re_nextToken_81
            rw [(FRd_T hT v7).1, v3, if_neg (le_no hl2 (by omega)), if_pos (inb_cI (by omega) (by decide)), tpn (FRd_T hT v7) h3 hl2, re_dgt (byt hb hl2), if_neg hp, if_pos rfl]
          · rintro b v ⟨v1, v2, v3, v4, v5, v6, v7⟩ hl2 hp
            have hd2 := hp
            unfold dgt at hd2
            rw [decide_eq_true_eq] at hd2
            refine ⟨uI (uI v 1 6 (cI (min 1000 (vs T s (b + 1 - s))))) 1 3 (cI (b + 1)), ?_, by omega, by omega, uI_s _ _ _ _, by rw [uI_k _ _ _ (by decide), uI_k _ _ _ (by decide)]; exact v4, by rw [uI_k _ _ _ (by decide), uI_k _ _ _ (by decide)]; exact v5, by rw [uI_k _ _ _ (by decide), uI_s], FRd_tr v7 (FRd_tr (FRd_u v (by omega) _) (FRd_u _ (by omega) _))⟩
            show b_Re_nextToken_81 v = _
            unfold b_Re_nextToken_81
            have ev : vs T s (b + 1 - s) = 10 * vs T s (b - s) + (T.getD b 0 - 48) := by
              rw [show b + 1 - s = (b - s) + 1 by omega]
              show 10 * vs T s (b - s) + (T.getD (s + (b - s)) 0 - 48) = _
              rw [show s + (b - s) = b by omega]
            rw [(FRd_T hT v7).1, v3, if_neg (le_no hl2 (by omega)), if_pos (inb_cI (by omega) (by decide)), tpn (FRd_T hT v7) h3 hl2, re_dgt (byt hb hl2), if_pos hp, if_neg (by decide), if_pos (inb_cI (by omega) (by decide)), v6, show (1000 : Int32) = cI 1000 from rfl, mincap (C := 1000) (by decide) hd2.1 hd2.2 (by decide), ← ev]
            show some (Sum.inl (uI (uI v 1 6 _) 1 3 ((uI v 1 6 _).1 1 3 + 1))) = _
            rw [uI_k _ _ _ (show 3 ≠ 6 by decide), v3, c_succ]
      · rw [if_pos c1]
        have f1 : FRd g (uI w 1 5 1) := FRd_tr f0 (FRd_u w (by omega) _)
        refine ok_bd (ok_bindm (lp_nx ltr T (fun s => b_Re_nextToken_52 s) (fun b z => b ≤ 300 ∧ z.1 1 3 = cI b ∧ z.1 1 4 = cI s ∧ z.1 1 5 = cI 1 ∧ z.1 1 6 = cI 0 ∧ FRd g z) ?_ ?_ ?_ 300 5000 s (uI w 1 5 1) ⟨by omega, by rw [uI_k _ _ _ (by decide)]; exact w3, by rw [uI_k _ _ _ (by decide)]; exact w4, uI_s _ _ _ _, by rw [uI_k _ _ _ (by decide)]; exact w6, f1⟩ (by omega) (by decide)) (fun v hv => ok_some ⟨⟨hv.2.2.1, hv.2.1, hv.2.2.2.1, hv.2.2.2.2.1⟩, hv.2.2.2.2.2⟩))
        · rintro b v ⟨v2, v3, v4, v5, v6, v7⟩ hl2
          show b_Re_nextToken_52 v = _
          unfold b_Re_nextToken_52
          rw [(FRd_T hT v7).1, v3, if_pos (le_yes hl2 (by omega))]
        · rintro b v ⟨v2, v3, v4, v5, v6, v7⟩ hl2 hp
          show b_Re_nextToken_52 v = _
          unfold b_Re_nextToken_52
          rw [(FRd_T hT v7).1, v3, if_neg (le_no hl2 (by omega)), if_pos (inb_cI (by omega) (by decide)), tpn (FRd_T hT v7) h3 hl2, re_ltr (byt hb hl2), if_neg hp, if_pos rfl]
        · rintro b v ⟨v2, v3, v4, v5, v6, v7⟩ hl2 hp
          refine ⟨uI v 1 3 (cI (b + 1)), ?_, by omega, uI_s _ _ _ _, by rw [uI_k _ _ _ (by decide)]; exact v4, by rw [uI_k _ _ _ (by decide)]; exact v5, by rw [uI_k _ _ _ (by decide)]; exact v6, FRd_tr v7 (FRd_u v (by omega) _)⟩
          show b_Re_nextToken_52 v = _
          unfold b_Re_nextToken_52
          rw [(FRd_T hT v7).1, v3, if_neg (le_no hl2 (by omega)), if_pos (inb_cI (by omega) (by decide)), tpn (FRd_T hT v7) h3 hl2, re_ltr (byt hb hl2), if_pos hp, if_neg (by decide), c_succ]
          rfl
