/-! the reference solves: the proof -/
theorem qadd_0 (v : Q6) : qadd (0, 0, 0, 0) v = v := by apply q_ext <;> simp only [qadd] <;> grind
theorem qsc_1 (v : Q6) : qsc 1 v = v := by apply q_ext <;> simp only [qsc] <;> grind
theorem qsc_n1 (v : Q6) : qsc (-1) v = qneg v := by apply q_ext <;> simp only [qsc, qneg] <;> grind
theorem q64_z : q64 (0, 0, 0, 0) = (0, 0, 0, 0) := rfl
section
variable {b g2 : M2} {D : Nat → Q6} {ps : List Nat} {ws : Nat → Nat} {m : Nat}
/-- cofactors -/
theorem ms_cof (h : MN b g2 D) (hI : MIn b ps ws m) (h1 : 0 < m) (h0 : ¬ Lo ws ps 0) (hr : b.1 157 14 = cI (fl (Gz ws ps) m).length) (hD : ∀ j, j < (fl (Gz ws ps) m).length → D (25 + (2 ^ (fl (Gz ws ps) m).length - 1 - 2 ^ j)) = q64 (zdx (fun x y => Gz ws ps (frz (Gz ws ps) m x) (frz (Gz ws ps) m y)) (rwl 1 ((fl (Gz ws ps) m).length - 1)) (bl (2 ^ (fl (Gz ws ps) m).length - 1 - 2 ^ j)))) : Ok (lp (fun s => b_Mo_solves_83 (cI (2 ^ (fl (Gz ws ps) m).length - 1)) s.1 s.2) 5000 ((0 : Int32), g2)) (fun r => ∃ E, MN b r E ∧ (∀ j, j < (fl (Gz ws ps) m).length → E (57 + j) = q64 (Cz ws ps m (frz (Gz ws ps) m j))) ∧ ∀ a, a < 57 ∨ 62 ≤ a → E a = D a) := by
  have hle := fl_le (Gz ws ps) m
  have hm5 := hI.2.2.2.2.2.1
  have hcof : ∀ j, j < (fl (Gz ws ps) m).length → _ := fun j hj => cof_z (ws := ws) (ps := ps) hm5 h1 h0 (fr := frz (Gz ws ps) m) (fun _ _ => rfl) hj
  generalize hrr : (fl (Gz ws ps) m).length = r at *
  have hp32 : 2 ^ r ≤ 32 := show 2 ^ r ≤ 2 ^ 5 from Nat.pow_le_pow_right (by decide) (by omega)
  have hpj : ∀ j, j < r → 2 ^ j < 2 ^ r := fun j hj => Nat.pow_lt_pow_right (by decide) hj
  have hand : ∀ j, j < r → cI (2 ^ r - 1) &&& (((1 : Int32) <<< (cI j &&& 31)) ^^^ (-1 : Int32)) = cI (2 ^ r - 1 - 2 ^ j) := by
    intro j hj
    have hr6 : r < 6 := by omega
    have key : ∀ r, r < 6 → ∀ j, j < r → cI (2 ^ r - 1) &&& (((1 : Int32) <<< (cI j &&& 31)) ^^^ (-1 : Int32)) = cI (2 ^ r - 1 - 2 ^ j) := by decide +kernel
    exact key r hr6 j hj
  refine ok_for r (by omega) (fun k s => ∃ E, MN b s E ∧ (∀ j, j < k → E (57 + j) = q64 (Cz ws ps m (frz (Gz ws ps) m j))) ∧ ∀ a, a < 57 ∨ 62 ≤ a → E a = D a) ⟨D, h, fun j hj => absurd hj (by omega), fun _ _ => rfl⟩ ?_ ?_
  · rintro k s hk ⟨E, hE, hE1, hE2⟩
    show Ok (b_Mo_solves_83 (cI (2 ^ r - 1)) (cI k) s) _
    unfold b_Mo_solves_83
    rw [hE.1, hr, hand k hk, par2 k (by omega)]
    have e57 : (57 : Int32) + cI k = cI (57 + k) := by rw [show (57 : Int32) = cI 57 from rfl, cI_add]
    rw [e57, ix25]
    refine ok_neg (le_no hk (by omega)) ?_
    refine ok_bindm (mn_clears hE (a := 57 + k) (by omega)) (fun q hq => ?_)
    have hc := hcof k hk
    have hlt := hpj k hk
    have hDk0 := hD k hk
    have hx32 : 2 ^ r - 1 - 2 ^ k < 32 := by have := Nat.one_le_two_pow (n := k); omega
    generalize 2 ^ r - 1 - 2 ^ k = x at *
    have hfin : ∀ (z : M2) (v : Q6), MN b z (up (up E (57 + k) (0, 0, 0, 0)) (57 + k) v) → v = q64 (Cz ws ps m (frz (Gz ws ps) m k)) → ∃ E, MN b z E ∧ (∀ j, j < k + 1 → E (57 + j) = q64 (Cz ws ps m (frz (Gz ws ps) m j))) ∧ ∀ a, a < 57 ∨ 62 ≤ a → E a = D a := by
      intro z v hz hv
      refine ⟨_, hz, fun j hj => ?_, fun a ha => ?_⟩
      · by_cases hjk : j = k
        · rw [hjk, up_s, hv]
        · rw [up_o _ _ (by omega), up_o _ _ (by omega)]; exact hE1 j (by omega)
      · rw [up_o _ _ (by omega), up_o _ _ (by omega)]; exact hE2 a ha
    have hDk : up E (57 + k) (0, 0, 0, 0) (25 + x) = D (25 + x) := by
      rw [up_o _ _ (by omega)]; exact hE2 _ (by omega)
    have h2 : k % 2 = 0 ∨ k % 2 = 1 := by omega
    rcases h2 with h2 | h2
    · refine ok_pos (by rw [h2]; rfl) (ok_bindm (mn_adds hq (t := 57 + k) (a := 25 + x) (by omega) (by omega) 1) (fun z hz => ok_some ⟨c_succ k, hfin z _ hz ?_⟩))
      rw [up_s, hDk, hDk0, qadd_0, qsc_1, ← hc, h2]; rfl
    · refine ok_neg (by rw [h2]; decide) (ok_bindm (mn_adds hq (t := 57 + k) (a := 25 + x) (by omega) (by omega) (-1)) (fun z hz => ok_some ⟨c_succ k, hfin z _ hz ?_⟩))
      rw [up_s, hDk, hDk0, qadd_0, qsc_n1, ← q64_neg, ← hc, h2]; rfl
  · rintro s ⟨E, hE, hE1, hE2⟩
    show Ok (b_Mo_solves_83 (cI (2 ^ r - 1)) (cI r) s) _
    unfold b_Mo_solves_83
    rw [hE.1, hr]
    exact ok_pos (le_yes (Nat.le_refl _) (by omega)) (ok_some ⟨E, hE, hE1, hE2⟩)
/-- one weight's sum -/
theorem ms_two (h : MN b g2 D) (hI : MIn b ps ws m) (h1 : 0 < m) (h0 : ¬ Lo ws ps 0) (hr : b.1 157 14 = cI (fl (Gz ws ps) m).length) (hfr : ∀ i, i < (fl (Gz ws ps) m).length → b.1 165 i = cI (frz (Gz ws ps) m i)) (hC : ∀ j, j < (fl (Gz ws ps) m).length → D (57 + j) = q64 (Cz ws ps m (frz (Gz ws ps) m j))) (hz0 : D 81 = (0, 0, 0, 0)) {e : Nat} (he : e < ps.length) : Ok (lp (fun s => b_Mo_solves_148 (cI e) s.1 s.2) 5000 ((0 : Int32), g2)) (fun r => MN b r (up D 81 (q64 (@uh Z4 (qR Int) cj (Clz ws ps m) (hz ws (ps.getD e 0)))))) := by
  have hle := fl_le (Gz ws ps) m
  obtain ⟨hp, hn, hn5, hps, hm, hm5, hws⟩ := hI
  have hsum := fr_sum (ws := ws) (ps := ps) h1 h0 (fr := frz (Gz ws ps) m) (fun _ _ => rfl) (fun i => rt (11 * (ws i * ps.getD e 0)))
  have huh : @uh Z4 (qR Int) cj (Clz ws ps m) (hz ws (ps.getD e 0)) = @sm Z4 (qR Int) ((Clz ws ps m).map (fun q => qmul (rt (11 * (ws q.1 * ps.getD e 0))) q.2)) := by
    unfold uh
    congr 1
    refine List.map_congr_left (fun q _ => ?_)
    show qmul (cj (rt (ws q.1 * ps.getD e 0))) q.2 = _
    rw [cj_rt]
  have hlt : ∀ i, i < (fl (Gz ws ps) m).length → frz (Gz ws ps) m i < m := fun i hi => frz_lt _ _ _ hi
  generalize hrr : (fl (Gz ws ps) m).length = r at *
  refine ok_for r (by omega) (fun k s => MN b s (up D 81 (q64 (zsum ((List.range k).map (fun j => qmul (Cz ws ps m (frz (Gz ws ps) m j)) (rt (11 * (ws (frz (Gz ws ps) m j) * ps.getD e 0))))))))) ?_ ?_ ?_
  · have e0 : q64 (zsum ((List.range 0).map (fun j => qmul (Cz ws ps m (frz (Gz ws ps) m j)) (rt (11 * (ws (frz (Gz ws ps) m j) * ps.getD e 0)))))) = D 81 := by rw [hz0]; rfl
    rw [e0, up_id]; exact h
  · intro k s hk hs
    show Ok (b_Mo_solves_148 (cI e) (cI k) s) _
    unfold b_Mo_solves_148
    rw [hs.1, hr]
    refine ok_neg (le_no hk (by omega)) (ok_pos (inb_cI (by omega) (by decide)) ?_)
    rw [cI_nat (a := k) (by omega), hfr k hk]
    have hfk := hlt k hk
    refine ok_pos (inb_cI (by omega) (by decide)) (ok_pos (inb_cI (by omega) (by decide)) ?_)
    rw [cI_nat (a := frz (Gz ws ps) m k) (by omega), cI_nat (a := e) (by omega), (hws _ hfk).1, (hps e he).1, c_ngm]
    have e57 : (57 : Int32) + cI k = cI (57 + k) := by rw [show (57 : Int32) = cI 57 from rfl, cI_add]
    rw [e57]
    have hb := prod12 (hws _ hfk).2 (hps e he).2
    refine ok_bindm (mn_addsTurned hs hp (t := 81) (a := 57 + k) (by decide) (by omega) (by omega) (by omega) (by omega) 1) (fun z hz2 => ok_some ⟨c_succ k, ?_⟩)
    rw [up_up, up_s, up_o _ _ (by omega), hC k hk, rz_neg, qsc_1] at hz2
    rw [List.range_succ, List.map_append, List.map_cons, List.map_nil, zsum_app, q64_add, q64_mul]
    exact hz2
  · intro s hs
    show Ok (b_Mo_solves_148 (cI e) (cI r) s) _
    unfold b_Mo_solves_148
    rw [hs.1, hr]
    refine ok_pos (le_yes (Nat.le_refl _) (by omega)) (ok_some ?_)
    rw [hsum, ← huh] at hs
    exact hs
end
