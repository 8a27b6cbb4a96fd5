/-! the reference's sums of powers, products, turns -/
theorem sM_sM (g : M2) (a : Nat) (v w : Q6) : sM (sM g a v) a w = sM g a w := by
  unfold sM
  apply Prod.ext
  · rfl
  · funext y k
    simp only
    by_cases hy : y = 158
    · subst hy
      simp only [if_true]
      by_cases h0 : k = 4 * a
      · simp only [h0, if_true]
      · simp only [h0, if_false]
        by_cases h1 : k = 4 * a + 1
        · simp only [h1, if_true]
        · simp only [h1, if_false]
          by_cases h2 : k = 4 * a + 2
          · simp only [h2, if_true]
          · simp only [h2, if_false]
            by_cases h3 : k = 4 * a + 3
            · simp only [h3, if_true]
            · simp only [h3, if_false]
    · simp only [hy, if_false]
theorem sM_id (g : M2) (a : Nat) : sM g a (rM g a) = g := by
  unfold sM rM
  apply Prod.ext
  · rfl
  · funext y k
    simp only
    by_cases hy : y = 158
    · subst hy
      simp only [if_true]
      by_cases h0 : k = 4 * a
      · subst h0; rw [if_pos rfl]
      · rw [if_neg h0]
        by_cases h1 : k = 4 * a + 1
        · subst h1; rw [if_pos rfl]
        · rw [if_neg h1]
          by_cases h2 : k = 4 * a + 2
          · subst h2; rw [if_pos rfl]
          · rw [if_neg h2]
            by_cases h3 : k = 4 * a + 3
            · subst h3; rw [if_pos rfl]
            · rw [if_neg h3]
    · simp only [hy, if_false]
theorem rem6 : ∀ e : Nat, e < 12 → cI e - cI e / (6 : Int32) * (6 : Int32) = cI (e % 6) := by decide +kernel
theorem mo_pow6 {t e : Nat} (ht : t < 88) (he : e < 12) (x : Int64) (g : M2) (hp : PW g) : j_Mo_addsPower_12 (cI t) (cI e) x g = some (sM g t (qadd (rM g t) (qsc x (rt6 (e % 6))))) := by
  have h6 : e % 6 < 6 := Nat.mod_lt _ (by decide)
  have h : Ok (j_Mo_addsPower_12 (cI t) (cI e) x g) (fun r => r = sM g t (qadd (rM g t) (qsc x (rt6 (e % 6))))) := by
    unfold j_Mo_addsPower_12
    refine ok_bindm (Q := fun r => r = sM g t (qadd (rM g t) (qsc x (rt6 (e % 6))))) ?_ (fun r hr => ok_some hr)
    refine ok_for 4 (by decide) (fun k s => s = pM g t (fun i => g.2 158 (4 * t + i) + x * (mm_pw (4 * (e % 6) + i)).toInt64) k) (pM_0 _ _ _).symm ?_ ?_
    · rintro k s hk rfl
      show Ok (b_Mo_addsPower_14 (cI t) (cI e) x (cI k) _) _
      unfold b_Mo_addsPower_14
      rw [rem6 e he, ix4, ix4]
      refine ok_neg (le_no (a := 4) hk (by decide)) (ok_pos (inb_cI (by omega) (by decide)) (ok_pos (inb_cI (by omega) (by decide)) (ok_pos (inb_cI (by omega) (by decide)) (ok_bd (ok_some ?_)))))
      rw [cI_nat (by omega), cI_nat (by omega), c_succ, pM_rd _ _ _ hk, pM_1, hp _ (by omega)]
      exact ⟨rfl, pM_st g t (fun i => g.2 158 (4 * t + i) + x * (mm_pw (4 * (e % 6) + i)).toInt64) k⟩
    · rintro s rfl
      show Ok (b_Mo_addsPower_14 (cI t) (cI e) x (cI 4) _) _
      unfold b_Mo_addsPower_14
      refine ok_pos (le_yes (a := 4) (Nat.le_refl _) (by decide)) (ok_some ?_)
      refine (pM_4 g t (fun i => g.2 158 (4 * t + i) + x * (mm_pw (4 * (e % 6) + i)).toInt64)).trans ?_
      have e0 := pw_tab (e % 6) h6 0 (by decide)
      have e1 := pw_tab (e % 6) h6 1 (by decide)
      have e2 := pw_tab (e % 6) h6 2 (by decide)
      have e3 := pw_tab (e % 6) h6 3 (by decide)
      congr 1
      simp only [e0, e1, e2, e3]
      apply q_ext <;> simp only [rM, qadd, qsc, List.getD_cons_zero, List.getD_cons_succ, Nat.add_zero] <;> grind
  obtain ⟨r, e, rfl⟩ := h
  exact e
/-- z to a whole power, also below 0 -/
def rz (z : Int) : Q6 := rt6 (z % 12).toNat
theorem mo_addsPower {t : Nat} (ht : t < 88) {z : Int} (h1 : -512 ≤ z) (h2 : z < 512) (x : Int64) (g : M2) (hp : PW g) : f_Mo_addsPower (cI t) (Int32.ofInt z) x g = some (sM g t (qadd (rM g t) (qsc x (rz z)))) := by
  unfold f_Mo_addsPower
  have hf := fm12 g (z + 512).toNat (by omega)
  rw [show (((z + 512).toNat : Nat) : Int) - 512 = z by omega] at hf
  rw [hf]
  have he : (z % 12).toNat < 12 := by omega
  show (if (6 : Int32) ≤ cI (z % 12).toNat then _ else _) = _
  generalize hz : (z % 12).toNat = e at he
  unfold rz
  rw [hz]
  by_cases h6 : 6 ≤ e
  · rw [if_pos (show (6 : Int32) ≤ cI e from le_yes (a := 6) h6 (by omega)), mo_pow6 ht he _ g hp]
    congr 2
    have hm : e % 6 = e - 6 := by omega
    have hr := rt6_neg (e - 6) (by omega)
    rw [show e - 6 + 6 = e by omega] at hr
    rw [hm, hr]
    apply q_ext <;> simp only [qadd, qsc, qneg] <;> grind
  · rw [if_neg (show ¬ (6 : Int32) ≤ cI e from le_no (a := 6) (by omega) (by decide)), mo_pow6 ht he _ g hp, show e % 6 = e by omega]
theorem rt6_eq {i j : Nat} (h : i % 12 = j % 12) : rt6 i = rt6 j := by unfold rt6; rw [rt_eq h]
theorem rt6_mul (i j : Nat) : qmul (rt6 i) (rt6 j) = rt6 (i + j) := by unfold rt6; rw [← q64_mul, rt_mul]
theorem rz_add (z : Int) (i : Nat) : rz (z + i) = qmul (rt6 i) (rz z) := by
  unfold rz; rw [rt6_mul]; exact rt6_eq (by omega)
theorem rz_nat (k : Nat) : rz k = rt6 k := by unfold rz; exact rt6_eq (by omega)
theorem rz_sum (v : Q6) (z : Int) : qadd (qadd (qadd (qsc v.1 (rz z)) (qsc v.2.1 (rz (z + 1)))) (qsc v.2.2.1 (rz (z + 2)))) (qsc v.2.2.2 (rz (z + 3))) = qmul v (rz z) := by
  have e1 : rz (z + 1) = qmul (rt6 1) (rz z) := rz_add z 1
  have e2 : rz (z + 2) = qmul (rt6 2) (rz z) := rz_add z 2
  have e3 : rz (z + 3) = qmul (rt6 3) (rz z) := rz_add z 3
  rw [e1, e2, e3, show rt6 1 = (0, 1, 0, 0) from rfl, show rt6 2 = (0, 0, 1, 0) from rfl, show rt6 3 = (0, 0, 0, 1) from rfl]
  generalize rz z = r
  apply q_ext <;> simp only [qadd, qsc, qmul] <;> grind
def cmp (v : Q6) (i : Nat) : Int64 := if i = 0 then v.1 else if i = 1 then v.2.1 else if i = 2 then v.2.2.1 else v.2.2.2
theorem rM_cmp (g : M2) (a : Nat) {i : Nat} (hi : i < 4) : g.2 158 (4 * a + i) = cmp (rM g a) i := by
  have h : i = 0 ∨ i = 1 ∨ i = 2 ∨ i = 3 := by omega
  rcases h with rfl | rfl | rfl | rfl <;> rfl
/-- so much of a number turned -/
def tsum (v : Q6) (x : Int64) (z : Int) : Nat → Q6
  | 0 => (0, 0, 0, 0)
  | i + 1 => qadd (tsum v x z i) (qsc (cmp v i * x) (rz (z + i)))
theorem tsum_4 (v : Q6) (x : Int64) (z : Int) : tsum v x z 4 = qsc x (qmul v (rz z)) := by
  have h := rz_sum v z
  simp only [tsum, cmp, if_true, Nat.one_ne_zero, if_false]
  rw [← h]
  have e0 : z + ((0 : Nat) : Int) = z := by omega
  have e1 : z + ((1 : Nat) : Int) = z + 1 := by omega
  have e2 : z + ((2 : Nat) : Int) = z + 2 := by omega
  have e3 : z + ((3 : Nat) : Int) = z + 3 := by omega
  rw [e0, e1, e2, e3]
  generalize rz z = r0
  generalize rz (z + 1) = r1
  generalize rz (z + 2) = r2
  generalize rz (z + 3) = r3
  apply q_ext <;> simp [qadd, qsc] <;> grind
theorem mo_addsTurned {t a : Nat} (ht : t < 88) (ha : a < 88) (hta : t ≠ a) {z : Int} (h1 : -500 ≤ z) (h2 : z < 500) (x : Int64) (g : M2) (hp : PW g) : f_Mo_addsTurned (cI t) (cI a) (Int32.ofInt z) x g = some (sM g t (qadd (rM g t) (qsc x (qmul (rM g a) (rz z))))) := by
  have h : Ok (f_Mo_addsTurned (cI t) (cI a) (Int32.ofInt z) x g) (fun r => r = sM g t (qadd (rM g t) (qsc x (qmul (rM g a) (rz z))))) := by
    unfold f_Mo_addsTurned
    refine ok_bindm (Q := fun r => r = sM g t (qadd (rM g t) (qsc x (qmul (rM g a) (rz z))))) ?_ (fun r hr => ok_some hr)
    refine ok_for 4 (by decide) (fun k s => s = sM g t (qadd (rM g t) (tsum (rM g a) x z k))) ?_ ?_ ?_
    · have e : qadd (rM g t) (tsum (rM g a) x z 0) = rM g t := by apply q_ext <;> simp only [tsum, qadd] <;> grind
      show g = _
      rw [e, sM_id]
    · rintro k s hk rfl
      show Ok (b_Mo_addsTurned_2 (cI t) (cI a) (Int32.ofInt z) x (cI k) _) _
      unfold b_Mo_addsTurned_2
      rw [ix4]
      refine ok_neg (le_no (a := 4) hk (by decide)) (ok_pos (inb_cI (by omega) (by decide)) ?_)
      rw [cI_nat (by omega), rM_cmp _ _ hk, rM_sMo _ _ (Ne.symm hta), show cI k = Int32.ofInt k from Int32.ofInt_eq_ofNat.symm, ← Int32.ofInt_add, show Int32.ofInt (k : Int) + (1 : Int32) = cI (k + 1) by rw [Int32.ofInt_eq_ofNat]; exact c_succ k]
      refine ok_binde (mo_addsPower ht (by omega) (by omega) _ _ (show PW _ from hp)) (ok_some ⟨rfl, ?_⟩)
      show sM (sM _ _ _) _ _ = _
      rw [sM_sM, rM_sM]
      congr 1
      simp only [tsum]
      apply q_ext <;> simp only [qadd] <;> grind
    · rintro s rfl
      show Ok (b_Mo_addsTurned_2 (cI t) (cI a) (Int32.ofInt z) x (cI 4) _) _
      unfold b_Mo_addsTurned_2
      refine ok_pos (le_yes (a := 4) (Nat.le_refl _) (by decide)) (ok_some ?_)
      show sM _ _ _ = sM _ _ _
      rw [tsum_4]
  obtain ⟨r, e, rfl⟩ := h
  exact e
