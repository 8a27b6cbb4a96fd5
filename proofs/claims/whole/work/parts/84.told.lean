/-! numbers told in lowest terms -/
def cmz (v : Z4) (L : Int) (k : Nat) : Int := if k = 0 then v.1 else if k = 1 then v.2.1 else if k = 2 then v.2.2.1 else if k = 3 then v.2.2.2 else L
def gc (L : Int) (v : Z4) : Nat → Int
  | 0 => L
  | k + 1 => ((Int.gcd (gc L v k) (cmz v L k) : Nat) : Int)
/-- bounded -/
def b61 (x : Int) : Prop := -2 ^ 61 ≤ x ∧ x ≤ 2 ^ 61
def bz (v : Z4) : Prop := b61 v.1 ∧ b61 v.2.1 ∧ b61 v.2.2.1 ∧ b61 v.2.2.2
theorem cmz_b {v : Z4} {L : Int} (hv : bz v) (hL : b61 L) (k : Nat) : b61 (cmz v L k) := by
  unfold cmz
  obtain ⟨h1, h2, h3, h4⟩ := hv
  repeat' split
  all_goals assumption
theorem gcd_b {a b : Int} (ha : b61 a) (h : a ≠ 0) : 0 < ((Int.gcd a b : Nat) : Int) ∧ b61 ((Int.gcd a b : Nat) : Int) := by
  have h1 : Int.gcd a b ≤ a.natAbs := Nat.gcd_le_left _ (by omega)
  have h2 : 0 < Int.gcd a b := Nat.gcd_pos_of_pos_left _ (by omega)
  unfold b61 at *
  omega
theorem gc_b {L : Int} {v : Z4} (hL : b61 L) (h0 : L ≠ 0) (k : Nat) : gc L v k ≠ 0 ∧ b61 (gc L v k) := by
  induction k with
  | zero => exact ⟨h0, hL⟩
  | succ k ih =>
    have := gcd_b (b := cmz v L k) ih.2 ih.1
    exact ⟨by show ((Int.gcd (gc L v k) (cmz v L k) : Nat) : Int) ≠ 0; omega, this.2⟩
/-- part k of v over L in lowest terms -/
def tld (L : Int) (v : Z4) (k : Nat) : Int64 := Int64.ofInt (cmz v L k) / Int64.ofInt (gc L v 4)
theorem gc_e {L : Int} {v : Z4} (hL : b61 L) (h0 : L ≠ 0) (k : Nat) : ¬ Int64.ofInt (gc L v k) = 0 := by
  have h := gc_b (v := v) hL h0 k
  obtain ⟨h1, h2, h3⟩ := h
  rw [z64, eq64 (by omega) (by omega) (by omega) (by omega)]
  exact h1
theorem nu_part {g : M2} {a : Nat} {v : Z4} (h : rN g a = q64 v) {L : Int} {k : Nat} (hk : k < 4) : f_Nu_part a (cI k) g = Int64.ofInt (cmz v L k) := by
  have h0 : g.2 a 0 = Int64.ofInt v.1 := congrArg (fun z : Q6 => z.1) h
  have h1 : g.2 a 1 = Int64.ofInt v.2.1 := congrArg (fun z : Q6 => z.2.1) h
  have h2 : g.2 a 2 = Int64.ofInt v.2.2.1 := congrArg (fun z : Q6 => z.2.2.1) h
  have h3 : g.2 a 3 = Int64.ofInt v.2.2.2 := congrArg (fun z : Q6 => z.2.2.2) h
  unfold f_Nu_part
  rw [h0, h1, h2, h3]
  have : k = 0 ∨ k = 1 ∨ k = 2 ∨ k = 3 := by omega
  rcases this with rfl | rfl | rfl | rfl <;> rfl
theorem da_low {g : M2} {a : Nat} {v : Z4} {L : Int} (hv : rN g a = q64 v) (ha : a ≠ 156) (hb : bz v) (hL : b61 L) (h0 : L ≠ 0) : Ok (f_Da_bringToLowest a (Int64.ofInt L) g) (fun r => r.1 = g.1 ∧ (∀ y, y ≠ 156 → r.2 y = g.2 y) ∧ ∀ j, j < 5 → r.2 156 j = tld L v j) := by
  unfold f_Da_bringToLowest
  refine ok_bindm (Q := fun r => r.1 = Int64.ofInt (gc L v 4) ∧ r.2.1 = g.1 ∧ (∀ y, y ≠ 156 → r.2.2 y = g.2 y) ∧ ∀ j, j < 4 → r.2.2 156 j = Int64.ofInt (cmz v L j)) ?_ (fun e6 he6 => ok_bd ?_)
  · refine ok_lp (fun k s => s.2.1 = cI k ∧ s.1 = Int64.ofInt (gc L v k) ∧ s.2.2.1 = g.1 ∧ (∀ y, y ≠ 156 → s.2.2.2 y = g.2 y) ∧ ∀ j, j < k → s.2.2.2 156 j = Int64.ofInt (cmz v L j)) 4 5000 0 _ (by omega) (by omega) ⟨rfl, rfl, rfl, fun _ _ => rfl, fun j hj => absurd hj (by omega)⟩ ?_
    rintro k ⟨s1, s2, s3⟩ hk ⟨h1, h2, h3, h4, h5⟩
    show Ok (b_Da_bringToLowest_4 a (Int64.ofInt L) s1 s2 s3) _
    dsimp only at h1 h2 h3 h4 h5
    subst h1 h2
    unfold b_Da_bringToLowest_4
    by_cases hk4 : k = 4
    · subst hk4
      exact ok_pos (le_yes (a := 4) (Nat.le_refl _) (by decide)) (ok_some ⟨rfl, h3, h4, h5⟩)
    · have hk' : k < 4 := by omega
      refine ok_neg (le_no (a := 4) hk' (by decide)) (ok_pos (inb_cI (by omega) (by decide)) (ok_bd ?_))
      have hv3 : rN s3 a = q64 v := by unfold rN at hv ⊢; rw [h4 a ha]; exact hv
      rw [nu_part hv3 (L := L) hk']
      refine ok_pos (inb_cI (by omega) (by decide)) ?_
      simp only [cI_nat (show k < 2 ^ 31 by omega), uJ_s]
      have c1 := (gc_b (v := v) hL h0 k).2
      have c2 := cmz_b hb hL k
      refine ok_binde (da_gcd c1.1 c1.2 c2.1 c2.2 _) (ok_some ⟨by omega, c_succ k, rfl, h3, fun y hy => by rw [uJ_o _ _ _ hy]; exact h4 y hy, fun j hj => ?_⟩)
      by_cases hjk : j = k
      · rw [hjk, uJ_s]
      · rw [uJ_k _ _ _ hjk]; exact h5 j (by omega)
  · obtain ⟨e1, e2, e3, e4⟩ := he6
    have hne := gc_e (v := v) hL h0 4
    rw [e1]
    refine ok_bindm (Q := fun r => r.1 = g.1 ∧ (∀ y, y ≠ 156 → r.2 y = g.2 y) ∧ ∀ j, j < 5 → r.2 156 j = tld L v j) ?_ (fun r hr => ok_some hr)
    refine ok_for 5 (by decide) (fun k z => z.1 = g.1 ∧ (∀ y, y ≠ 156 → z.2 y = g.2 y) ∧ (∀ j, j < k → z.2 156 j = tld L v j) ∧ ∀ j, k ≤ j → j < 5 → z.2 156 j = Int64.ofInt (cmz v L j)) ⟨e2, fun y hy => by rw [uJ_o _ _ _ hy]; exact e3 y hy, fun j hj => absurd hj (by omega), fun j _ hj => ?_⟩ ?_ ?_
    · by_cases hj4 : j = 4
      · subst hj4; rw [uJ_s]; rfl
      · rw [uJ_k _ _ _ hj4]; exact e4 j (by omega)
    · rintro k z hk ⟨z1, z2, z3, z4⟩
      show Ok (b_Da_bringToLowest_30 (Int64.ofInt (gc L v 4)) (cI k) z) _
      unfold b_Da_bringToLowest_30
      refine ok_neg (lt_no (a := 4) (by omega) (by decide)) (ok_neg hne (ok_pos (inb_cI (by omega) (by decide)) (ok_neg hne (ok_pos (inb_cI (by omega) (by decide)) (ok_bd (ok_some ⟨c_succ k, ?_⟩))))))
      rw [cI_nat (show k < 2 ^ 31 by omega), z4 k (Nat.le_refl _) hk]
      refine ⟨z1, fun y hy => by rw [uJ_o _ _ _ hy]; exact z2 y hy, fun j hj => ?_, fun j hj1 hj2 => ?_⟩
      · by_cases hjk : j = k
        · rw [hjk, uJ_s]; rfl
        · rw [uJ_k _ _ _ hjk]; exact z3 j (by omega)
      · rw [uJ_k _ _ _ (by omega)]; exact z4 j (by omega) hj2
    · rintro z ⟨z1, z2, z3, _⟩
      show Ok (b_Da_bringToLowest_30 (Int64.ofInt (gc L v 4)) (cI 5) z) _
      unfold b_Da_bringToLowest_30
      exact ok_pos (lt_yes (a := 4) (by omega) (by decide)) (ok_some ⟨z1, z2, z3⟩)
abbrev MN64 : Int64 := -9223372036854775808
theorem da_part {g : M2} {a : Nat} {v : Z4} {L : Int} (hv : rN g a = q64 v) (ha : a ≠ 156) (hb : bz v) (hL : b61 L) (h0 : L ≠ 0) (x : Int32) : Ok (f_Da_partOf a (Int64.ofInt L) x g) (fun p => p.1 = (if inb x 5 then tld L v x.toNatClampNeg else MN64) ∧ p.2.1 = g.1 ∧ ∀ y, y ≠ 156 → p.2.2 y = g.2 y) := by
  unfold f_Da_partOf
  rw [show (5 : Int32) = cI 5 from rfl]
  simp only [da_among (show 5 < 2 ^ 31 by decide), if10e]
  by_cases c : inb x 5
  · rw [if_pos c]
    refine ok_neg (fun e => e c) (ok_bindm (da_low hv ha hb hL h0) (fun r hr => ok_pos c (ok_some ⟨hr.2.2 _ c.2, hr.1, hr.2.1⟩)))
  · rw [if_neg c]
    exact ok_pos c (ok_some ⟨rfl, rfl, fun _ _ => rfl⟩)
theorem cmp_z {v : Z4} {L : Int} {k : Nat} (hk : k < 4) : cmp (q64 v) k = Int64.ofInt (cmz v L k) := by
  have : k = 0 ∨ k = 1 ∨ k = 2 ∨ k = 3 := by omega
  rcases this with rfl | rfl | rfl | rfl <;> rfl
theorem mo_told {g : M2} {a : Nat} {v : Z4} {L : Int} (ha : a < 88) (hv : rM g a = q64 v) (hb : bz v) (hL : b61 L) (h0 : L ≠ 0) {x : Int32} (hx : inb x 5) : f_Mo_told (cI a) (Int64.ofInt L) x g = some (tld L v x.toNatClampNeg) := by
  refine ok_to ?_
  have hne := gc_e (v := v) hL h0 4
  unfold f_Mo_told
  refine ok_bindm (Q := fun r => r = Int64.ofInt (gc L v 4)) ?_ (fun r hr => ?_)
  · refine ok_lp (fun k s => s.2 = cI k ∧ s.1 = Int64.ofInt (gc L v k)) 4 5000 0 _ (by omega) (by omega) ⟨rfl, rfl⟩ ?_
    rintro k ⟨s1, s2⟩ hk ⟨h1, h2⟩
    show Ok (b_Mo_told_4 (cI a) (Int64.ofInt L) x s1 s2 g) _
    dsimp only at h1 h2
    subst h1 h2
    unfold b_Mo_told_4
    by_cases hk4 : k = 4
    · subst hk4
      exact ok_pos (le_yes (a := 4) (Nat.le_refl _) (by decide)) (ok_some rfl)
    · have hk' : k < 4 := by omega
      refine ok_neg (le_no (a := 4) hk' (by decide)) (ok_binde (mo_part ha hk' g) ?_)
      rw [hv, cmp_z (L := L) hk']
      have c1 := (gc_b (v := v) hL h0 k).2
      have c2 := cmz_b hb hL k
      exact ok_binde (mo_gcd c1.1 c1.2 c2.1 c2.2 _) (ok_some ⟨by omega, c_succ k, rfl⟩)
  · subst hr
    have hxe := inb_to hx
    have hx5 := hx.2
    generalize x.toNatClampNeg = e at hxe hx5
    subst hxe
    by_cases he : e = 4
    · subst he
      exact ok_pos rfl (ok_neg hne (ok_some rfl))
    · refine ok_neg (ne_no (b := 4) he (by omega) (by decide)) (ok_binde (mo_part ha (by omega) g) (ok_neg hne (ok_some ?_)))
      rw [hv, cmp_z (L := L) (by omega)]; rfl
