/-! the reference's products -/
def s7 (g : M2) (c : Nat → Int64) : M2 := (g.1, fun y k => if y = 159 ∧ k < 7 then c k else g.2 y k)
theorem s7_o (g : M2) (c : Nat → Int64) {y : Nat} (h : y ≠ 159) : (s7 g c).2 y = g.2 y := by
  funext k; show (if _ then _ else _) = _; rw [if_neg (by omega)]
theorem rM_s7 (g : M2) (c : Nat → Int64) (a : Nat) : rM (s7 g c) a = rM g a := by
  unfold rM; rw [s7_o g c (by decide)]
theorem sM_s7 (g : M2) (c : Nat → Int64) (a : Nat) (v : Q6) : sM (s7 g c) a v = s7 (sM g a v) c := by
  unfold sM s7
  apply Prod.ext
  · rfl
  · funext y k
    simp only
    by_cases hy : y = 158
    · subst hy; simp
    · by_cases hy2 : y = 159
      · subst hy2; simp
      · simp [hy, hy2]
theorem s7_rd (g : M2) (c : Nat → Int64) {k : Nat} (h : k < 7) : (s7 g c).2 159 k = c k := by
  show (if 159 = 159 ∧ k < 7 then c k else g.2 159 k) = c k; rw [if_pos ⟨rfl, h⟩]
theorem s7_up (g : M2) (c : Nat → Int64) {k : Nat} (h : k < 7) (x : Int64) : uJ (s7 g c) 159 k x = s7 g (fun j => if j = k then x else c j) := by
  apply Prod.ext
  · rfl
  · funext y j
    show (mm_uJ (s7 g c).2 159 k x) y j = (s7 g (fun j => if j = k then x else c j)).2 y j
    unfold mm_uJ vp_updL s7
    by_cases hy : y = 159
    · subst hy
      simp only [if_true, true_and]
      by_cases hj : j = k
      · subst hj; rw [if_pos rfl, if_pos h, if_pos rfl]
      · rw [if_neg hj]
        by_cases h7 : j < 7
        · rw [if_pos h7, if_pos h7, if_neg hj]
        · rw [if_neg h7, if_neg h7]
    · simp only [hy, if_false, false_and]
theorem s7_id (g : M2) : g = s7 g (g.2 159) := by
  unfold s7
  apply Prod.ext
  · rfl
  · funext y k
    simp only
    by_cases h : y = 159 ∧ k < 7
    · rw [if_pos h, h.1]
    · rw [if_neg h]
def cw (A B : Q6) : Nat → Nat → Int64
  | 0, _ => 0
  | n + 1, k => if k = n / 4 + n % 4 then cw A B n k + cmp A (n / 4) * cmp B (n % 4) else cw A B n k
theorem cw_16 (A B : Q6) : cw A B 16 0 = A.1 * B.1 ∧ cw A B 16 1 = A.1 * B.2.1 + A.2.1 * B.1 ∧ cw A B 16 2 = A.1 * B.2.2.1 + A.2.1 * B.2.1 + A.2.2.1 * B.1 ∧ cw A B 16 3 = A.1 * B.2.2.2 + A.2.1 * B.2.2.1 + A.2.2.1 * B.2.1 + A.2.2.2 * B.1 ∧ cw A B 16 4 = A.2.1 * B.2.2.2 + A.2.2.1 * B.2.2.1 + A.2.2.2 * B.2.1 ∧ cw A B 16 5 = A.2.2.1 * B.2.2.2 + A.2.2.2 * B.2.2.1 ∧ cw A B 16 6 = A.2.2.2 * B.2.2.2 := by
  simp [cw, cmp]
def pac (A B : Q6) (x : Int64) (r : Q6) : Nat → Q6
  | 0 => r
  | k + 1 => qadd (pac A B x r k) (qsc (cw A B 16 k * x) (rz k))
theorem pac_7 (A B : Q6) (x : Int64) (r : Q6) : pac A B x r 7 = qadd r (qsc x (qmul A B)) := by
  obtain ⟨h0, h1, h2, h3, h4, h5, h6⟩ := cw_16 A B
  simp only [pac, h0, h1, h2, h3, h4, h5, h6, rz_nat]
  rw [show rt6 0 = (1, 0, 0, 0) from rfl, show rt6 1 = (0, 1, 0, 0) from rfl, show rt6 2 = (0, 0, 1, 0) from rfl, show rt6 3 = (0, 0, 0, 1) from rfl, show rt6 4 = (-1, 0, 1, 0) from rfl, show rt6 5 = (0, -1, 0, 1) from rfl, show rt6 6 = (-1, 0, 0, 0) from rfl]
  apply q_ext <;> simp only [qadd, qsc, qmul] <;> grind
theorem c_add2 (i j : Nat) : cI i + cI j = cI (i + j) := cI_add i j
theorem mo_addsProduct {t a b : Nat} (ht : t < 88) (ha : a < 88) (hb : b < 88) (x : Int64) (g : M2) (hp : PW g) : ∃ c, f_Mo_addsProduct (cI t) (cI a) (cI b) x g = some (s7 (sM g t (qadd (rM g t) (qsc x (qmul (rM g a) (rM g b))))) c) := by
  have h : Ok (f_Mo_addsProduct (cI t) (cI a) (cI b) x g) (fun r => ∃ c, r = s7 (sM g t (qadd (rM g t) (qsc x (qmul (rM g a) (rM g b))))) c) := by
    unfold f_Mo_addsProduct
    refine ok_bindm (Q := fun r => ∃ c, r = s7 g c ∧ ∀ j, j < 7 → c j = 0) ?_ ?_
    · refine ok_for 7 (by decide) (fun k s => ∃ c, s = s7 g c ∧ ∀ j, j < k → c j = 0) ⟨_, s7_id g, fun j hj => absurd hj (by omega)⟩ ?_ ?_
      · rintro k s hk ⟨c, rfl, hc⟩
        show Ok (b_Mo_addsProduct_2 (cI t) (cI a) (cI b) x (cI k) _) _
        unfold b_Mo_addsProduct_2
        refine ok_neg (le_no (a := 7) hk (by decide)) (ok_pos (inb_cI (by omega) (by decide)) (ok_bd (ok_some ?_)))
        rw [cI_nat (by omega), c_succ]
        refine ⟨rfl, _, s7_up g c hk _, fun j hj => ?_⟩
        by_cases hjk : j = k
        · rw [if_pos hjk]
        · rw [if_neg hjk]; exact hc j (by omega)
      · rintro s ⟨c, rfl, hc⟩
        show Ok (b_Mo_addsProduct_2 (cI t) (cI a) (cI b) x (cI 7) _) _
        unfold b_Mo_addsProduct_2
        exact ok_pos (le_yes (a := 7) (Nat.le_refl _) (by decide)) (ok_some ⟨c, rfl, hc⟩)
    rintro e4 ⟨c0, rfl, hc0⟩
    refine ok_bindm (Q := fun r => ∃ c, r = s7 g c ∧ ∀ k, k < 7 → c k = cw (rM g a) (rM g b) 16 k) ?_ ?_
    · refine ok_for 4 (by decide) (fun i s => ∃ c, s = s7 g c ∧ ∀ k, k < 7 → c k = cw (rM g a) (rM g b) (4 * i) k) ⟨c0, rfl, hc0⟩ ?_ ?_
      · rintro i s hi ⟨c, rfl, hc⟩
        show Ok (b_Mo_addsProduct_14 (cI t) (cI a) (cI b) x (cI i) _) _
        unfold b_Mo_addsProduct_14
        refine ok_neg (le_no (a := 4) hi (by decide)) ?_
        refine ok_bindm (Q := fun r => ∃ c, r = s7 g c ∧ ∀ k, k < 7 → c k = cw (rM g a) (rM g b) (4 * i + 4) k) ?_ (fun r hr => ok_some ⟨c_succ i, by rw [show 4 * (i + 1) = 4 * i + 4 by omega]; exact hr⟩)
        refine ok_for 4 (by decide) (fun j s => ∃ c, s = s7 g c ∧ ∀ k, k < 7 → c k = cw (rM g a) (rM g b) (4 * i + j) k) ⟨c, rfl, hc⟩ ?_ ?_
        · rintro j s hj ⟨c, rfl, hc⟩
          show Ok (b_Mo_addsProduct_19 (cI t) (cI a) (cI b) x (cI i) (cI j) _) _
          unfold b_Mo_addsProduct_19
          rw [ix4, ix4, c_add2]
          refine ok_neg (le_no (a := 4) hj (by decide)) (ok_pos (inb_cI (by omega) (by decide)) (ok_pos (inb_cI (by omega) (by decide)) (ok_pos (inb_cI (by omega) (by decide)) (ok_pos (inb_cI (by omega) (by decide)) (ok_bd (ok_some ?_))))))
          rw [cI_nat (by omega), cI_nat (by omega), cI_nat (by omega), c_succ, s7_rd _ _ (by omega), s7_o _ _ (by decide), rM_cmp _ _ hi, rM_cmp _ _ hj]
          refine ⟨rfl, _, s7_up g c (by omega) _, fun k hk => ?_⟩
          rw [show 4 * i + (j + 1) = (4 * i + j) + 1 by omega, cw, show (4 * i + j) / 4 = i by omega, show (4 * i + j) % 4 = j by omega]
          by_cases hkk : k = i + j
          · rw [if_pos hkk, if_pos hkk, hc (i + j) (by omega), hkk]
          · rw [if_neg hkk, if_neg hkk, hc k hk]
        · rintro s ⟨c, rfl, hc⟩
          show Ok (b_Mo_addsProduct_19 (cI t) (cI a) (cI b) x (cI i) (cI 4) _) _
          unfold b_Mo_addsProduct_19
          exact ok_pos (le_yes (a := 4) (Nat.le_refl _) (by decide)) (ok_some ⟨c, rfl, hc⟩)
      · rintro s ⟨c, rfl, hc⟩
        show Ok (b_Mo_addsProduct_14 (cI t) (cI a) (cI b) x (cI 4) _) _
        unfold b_Mo_addsProduct_14
        exact ok_pos (le_yes (a := 4) (Nat.le_refl _) (by decide)) (ok_some ⟨c, rfl, hc⟩)
    rintro e14 ⟨c1, rfl, hc1⟩
    refine ok_bindm (Q := fun r => ∃ c, r = s7 (sM g t (qadd (rM g t) (qsc x (qmul (rM g a) (rM g b))))) c) ?_ (fun r hr => ok_some hr)
    refine ok_for 7 (by decide) (fun k s => ∃ c, s = s7 (sM g t (pac (rM g a) (rM g b) x (rM g t) k)) c ∧ ∀ k, k < 7 → c k = cw (rM g a) (rM g b) 16 k) ⟨c1, by rw [pac, sM_id], hc1⟩ ?_ ?_
    · rintro k s hk ⟨c, rfl, hc⟩
      show Ok (b_Mo_addsProduct_54 (cI t) x (cI k) _) _
      unfold b_Mo_addsProduct_54
      refine ok_neg (le_no (a := 7) hk (by decide)) (ok_pos (inb_cI (by omega) (by decide)) ?_)
      rw [cI_nat (by omega), s7_rd _ _ hk, hc k hk, c_succ, show cI k = Int32.ofInt k from Int32.ofInt_eq_ofNat.symm]
      refine ok_binde (mo_addsPower ht (by omega) (by omega) _ _ (show PW _ from hp)) (ok_some ⟨rfl, c, ?_, hc⟩)
      show sM (s7 _ _) _ _ = _
      rw [sM_s7, rM_s7, sM_sM, rM_sM]
      rfl
    · rintro s ⟨c, rfl, hc⟩
      show Ok (b_Mo_addsProduct_54 (cI t) x (cI 7) _) _
      unfold b_Mo_addsProduct_54
      exact ok_pos (le_yes (a := 7) (Nat.le_refl _) (by decide)) (ok_some ⟨c, by rw [← pac_7]⟩)
  obtain ⟨r, e, c, rfl⟩ := h
  exact ⟨c, e⟩
theorem mo_part {a i : Nat} (ha : a < 88) (hi : i < 4) (g : M2) : f_Mo_part (cI a) (cI i) g = some (cmp (rM g a) i) := by
  unfold f_Mo_part
  rw [ix4, if_pos (inb_cI (by omega) (by decide)), cI_nat (by omega), rM_cmp _ _ hi]
theorem mo_isNought {a : Nat} (ha : a < 88) (g : M2) : f_Mo_isNought (cI a) g = some (if rM g a = (0, 0, 0, 0) then (1 : Int32) else 0) := by
  unfold f_Mo_isNought
  rw [show (0 : Int32) = cI 0 from rfl, show (1 : Int32) = cI 1 from rfl, show (2 : Int32) = cI 2 from rfl, show (3 : Int32) = cI 3 from rfl, mo_part ha (by decide), mo_part ha (by decide), mo_part ha (by decide), mo_part ha (by decide)]
  generalize rM g a = v
  obtain ⟨x, y, z, w⟩ := v
  simp only [Option.bind_some, cmp, if_true, Nat.one_ne_zero, if_false]
  by_cases h1 : x = 0
  · by_cases h2 : y = 0
    · by_cases h3 : z = 0
      · by_cases h4 : w = 0
        · simp [h1, h2, h3, h4]
        · simp [h1, h2, h3, h4]
      · simp [h1, h2, h3]
    · simp [h1, h2]
  · simp [h1]
