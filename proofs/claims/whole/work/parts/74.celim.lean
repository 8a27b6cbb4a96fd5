/-! the class's solver: the elimination -/
theorem dv64 {x L : Int} (hL : 0 < L) (hL2 : L < 2 ^ 62) (h1 : -2 ^ 62 < x * L) (h2 : x * L < 2 ^ 62) : Int64.ofInt (x * L) / Int64.ofInt L = Int64.ofInt x := by
  have h := Int64.ofInt_tdiv (a := x * L) (b := L) (by show (-2 ^ 63 : Int) ≤ _; omega) (by show _ ≤ (2 ^ 63 - 1 : Int); omega) (by show (-2 ^ 63 : Int) ≤ _; omega) (by show _ ≤ (2 ^ 63 - 1 : Int); omega)
  rw [← h, Int.mul_tdiv_cancel x (by omega)]
theorem qdv_ok {a : Z4} {m : Nat} {L : Int} (ha : len m a) (hm : m ≤ 375000) (hL : 0 < L) (hL2 : L ≤ 9765625) : qdv (q64 (qmul a (L, 0, 0, 0))) (Int64.ofInt L) = q64 a := by
  obtain ⟨h1, h2, h3, h4⟩ := len_comp ha
  have e : qmul a (L, 0, 0, 0) = (a.1 * L, a.2.1 * L, a.2.2.1 * L, a.2.2.2 * L) := by
    apply q_ext <;> simp only [qmul] <;> grind
  have key : ∀ x : Int, x.natAbs ≤ m → -2 ^ 62 < x * L ∧ x * L < 2 ^ 62 := by
    intro x hx
    have b1 : x * L ≤ 375000 * 9765625 := by
      rcases Int.le_total 0 x with h | h
      · exact Int.mul_le_mul (by omega) hL2 (by omega) (by omega)
      · have : x * L ≤ 0 := Int.mul_nonpos_of_nonpos_of_nonneg h (by omega)
        omega
    have b2 : (-x) * L ≤ 375000 * 9765625 := by
      rcases Int.le_total 0 (-x) with h | h
      · exact Int.mul_le_mul (by omega) hL2 (by omega) (by omega)
      · have : (-x) * L ≤ 0 := Int.mul_nonpos_of_nonpos_of_nonneg h (by omega)
        omega
    rw [Int.neg_mul] at b2
    omega
  rw [e]
  unfold qdv q64
  simp only
  rw [dv64 hL (by omega) (key _ h1).1 (key _ h1).2, dv64 hL (by omega) (key _ h2).1 (key _ h2).2, dv64 hL (by omega) (key _ h3).1 (key _ h3).2, dv64 hL (by omega) (key _ h4).1 (key _ h4).2]
theorem o64_ne {L : Int} (hL : 0 < L) (hL2 : L ≤ 9765625) : Int64.ofInt L ≠ 0 := fun e => by
  have := o64_0 (by omega) e
  omega
theorem norm64 (x y : Int) (g : M2) : f_So_normOf (Int64.ofInt x) (Int64.ofInt y) g = Int64.ofInt (x * x - 3 * (y * y)) := by
  unfold f_So_normOf
  rw [Int64.ofInt_sub, Int64.ofInt_mul, Int64.ofInt_mul, Int64.ofInt_mul, Int64.mul_assoc]; rfl
section
variable {ws : Nat → Nat} {ps : List Nat}
/-- one cell's step, in longs -/
theorem cell64 (hp : ps.length ≤ 5) {i a c : Nat} (hi : i ≤ 3) (hf : ¬ Lo ws ps i) : qsub (qmul (q64 (mi ws ps i a c)) (q64 (mi ws ps i i i))) (qmul (q64 (mi ws ps i a i)) (q64 (mi ws ps i i c))) = q64 (qmul (mi ws ps (i + 1) a c) (rm ws ps i)) := by
  rw [mi_step hi hf, q64_sub, q64_mul, q64_mul]
  congr 1
  apply q_ext <;> simp only [qmul] <;> grind
theorem cell64b (hp : ps.length ≤ 5) {i a c : Nat} (hi : i ≤ 3) : qdv (qmul (q64 (qmul (mi ws ps (i + 1) a c) (rm ws ps i))) (q64 (re (rX ws ps i) (-(rY ws ps i))))) (Int64.ofInt (lowz ws ps i)) = q64 (mi ws ps (i + 1) a c) := by
  rw [← q64_mul]
  have e : qmul (qmul (mi ws ps (i + 1) a c) (rm ws ps i)) (re (rX ws ps i) (-(rY ws ps i))) = qmul (mi ws ps (i + 1) a c) (lowz ws ps i, 0, 0, 0) := by
    rw [← rm_dd (ws := ws) (ps := ps) (m := i) (by omega)]
    generalize mi ws ps (i + 1) a c = u
    generalize rm ws ps i = v
    generalize re (rX ws ps i) (-(rY ws ps i)) = w
    apply q_ext <;> simp only [qmul] <;> grind
  rw [e]
  exact qdv_ok (mi_len hp (i + 1) a c) (dlen_5 _ (by have := fl_le (Gz ws ps) (i + 1); omega)) (low_pos (by omega)) (low_le (by omega) hp).2
theorem rm_1 {i : Nat} (h : (fl (Gz ws ps) i).length = 0) : rm ws ps i = (1, 0, 0, 0) := by
  have : fl (Gz ws ps) i = [] := List.eq_nil_of_length_eq_zero h
  unfold rm; rw [this]; rfl
/-- a row loses what the pivot's row has of it -/
theorem so_lower {b g2 : M2} {D : Nat → Q6} {s : Nat} (h : CN (As s) b g2 D) (hp : ps.length ≤ 5) {m : Nat} (hm5 : m ≤ 5) {lk : Bool} (h11 : b.1 s 11 = cI m) {i a : Nat} (hi : i < a) (ha : a < m) (hf : ¬ Lo ws ps i) (h12 : b.1 s 12 = cI (fl (Gz ws ps) i).length) (h14 : b.2 s 14 = Int64.ofInt (rX ws ps i)) (h15 : b.2 s 15 = Int64.ofInt (rY ws ps i)) (hDi : ∀ c, i ≤ c → c < m → D (s + 6 + 1 + (i * 6 + c)) = q64 (mi ws ps i i c)) (hDi5 : lk = true → D (s + 6 + 1 + (i * 6 + 5)) = q64 (mi ws ps i i 5)) (hDa : ∀ c, a ≤ c → c < m → D (s + 6 + 1 + (a * 6 + c)) = q64 (mi ws ps i a c)) (hDa5 : lk = true → D (s + 6 + 1 + (a * 6 + 5)) = q64 (mi ws ps i a 5)) : Ok (f_So_lowerRow s (cI i) (cI a) g2) (fun r => ∃ E, CN (As s) b r E ∧ (∀ c, a ≤ c → c < m → E (s + 6 + 1 + (a * 6 + c)) = q64 (mi ws ps (i + 1) a c)) ∧ (lk = true → E (s + 6 + 1 + (a * 6 + 5)) = q64 (mi ws ps (i + 1) a 5)) ∧ ∀ y, y ≠ s + 64 → y ≠ s + 65 → ¬ (s + 6 + 1 + a * 6 ≤ y ∧ y ≤ s + 6 + 1 + (a * 6 + 5)) → E y = D y) := by
  have hi3 : i ≤ 3 := by omega
  have hfl := fl_le (Gz ws ps) i
  unfold f_So_lowerRow
  rw [ix6, ix6]
  refine ok_pos (inb_cI (by omega) (by decide)) (ok_pos (inb_cI (by omega) (by decide)) ?_)
  rw [cI_nat (by omega), cI_nat (by omega)]
  refine ok_binde (nu_mirror (by omega) g2) ?_
  have hL : cj (rN g2 (s + 6 + 1 + (i * 6 + a))) = q64 (mi ws ps i a i) := by
    rw [h.2.2.2, hDi a (by omega) ha, ← q64_cj, mi_cj (by omega) (by omega) (by omega)]
  rw [hL]
  have hs14 : g2.2 s 14 = Int64.ofInt (rX ws ps i) := by rw [h.2.1 s (by show ¬ (_ ∧ _); omega)]; exact h14
  have hs15 : g2.2 s 15 = Int64.ofInt (rY ws ps i) := by rw [h.2.1 s (by show ¬ (_ ∧ _); omega)]; exact h15
  rw [hs14, hs15, norm64]
  have hq3 : CN (As s) b (sN g2 (s + 64) (q64 (mi ws ps i a i))) (up D (s + 64) (q64 (mi ws ps i a i))) := CN_sN h (by show _ ∧ _; omega) _
  refine ok_bindm (Q := fun r => ∃ E, CN (As s) b r E ∧ (∀ c, a ≤ c → c < m → E (s + 6 + 1 + (a * 6 + c)) = q64 (mi ws ps (i + 1) a c)) ∧ (lk = true → E (s + 6 + 1 + (a * 6 + 5)) = q64 (mi ws ps (i + 1) a 5)) ∧ ∀ y, y ≠ s + 64 → y ≠ s + 65 → ¬ (s + 6 + 1 + a * 6 ≤ y ∧ y ≤ s + 6 + 1 + (a * 6 + 5)) → E y = D y) ?_ (fun r hr => ok_some hr)
  refine ok_forA a 6 (by omega) (by decide) (fun c z => ∃ E, CN (As s) b z E ∧ E (s + 64) = q64 (mi ws ps i a i) ∧ (∀ c2, a ≤ c2 → c2 < c → c2 < m → E (s + 6 + 1 + (a * 6 + c2)) = q64 (mi ws ps (i + 1) a c2)) ∧ (lk = true → 5 < c → E (s + 6 + 1 + (a * 6 + 5)) = q64 (mi ws ps (i + 1) a 5)) ∧ (∀ c2, c ≤ c2 → E (s + 6 + 1 + (a * 6 + c2)) = D (s + 6 + 1 + (a * 6 + c2)) ∨ 5 < c2) ∧ ∀ y, y ≠ s + 64 → y ≠ s + 65 → ¬ (s + 6 + 1 + a * 6 ≤ y ∧ y ≤ s + 6 + 1 + (a * 6 + 5)) → E y = D y) ⟨_, hq3, up_s _ _ _, fun c2 _ _ => absurd ‹c2 < a› (by omega), fun _ h5 => absurd h5 (by omega), fun c2 hc2 => ?_, fun y y1 y2 y3 => up_o _ _ y1⟩ ?_ ?_
  · by_cases h5 : 5 < c2
    · exact Or.inr h5
    · exact Or.inl (up_o _ _ (by omega))
  · rintro c z hc1 hc ⟨E, hE, hE64, hEd, hE5, hEr, hEo⟩
    show Ok (b_So_lowerRow_28 s (cI i) (cI a) (s + 6 + 1 + (i * 6 + i)) (Int64.ofInt (lowz ws ps i)) (cI c) z) _
    unfold b_So_lowerRow_28
    rw [hE.1, h11]
    refine ok_neg (le_no (a := 6) hc (by decide)) ?_
    have hEc : E (s + 6 + 1 + (a * 6 + c)) = D (s + 6 + 1 + (a * 6 + c)) := by
      rcases hEr c (Nat.le_refl _) with h | h
      · exact h
      · omega
    have work : (c < m ∨ c = 5) → Ok (j_So_lowerRow_38 s (cI i) (cI a) (s + 6 + 1 + (i * 6 + i)) (Int64.ofInt (lowz ws ps i)) (cI c) z) (fun r => Sum.elim (fun s2 => s2.1 = cI (c + 1) ∧ ∃ E, CN (As s) b s2.2 E ∧ E (s + 64) = q64 (mi ws ps i a i) ∧ (∀ c2, a ≤ c2 → c2 < c + 1 → c2 < m → E (s + 6 + 1 + (a * 6 + c2)) = q64 (mi ws ps (i + 1) a c2)) ∧ (lk = true → 5 < c + 1 → E (s + 6 + 1 + (a * 6 + 5)) = q64 (mi ws ps (i + 1) a 5)) ∧ (∀ c2, c + 1 ≤ c2 → E (s + 6 + 1 + (a * 6 + c2)) = D (s + 6 + 1 + (a * 6 + c2)) ∨ 5 < c2) ∧ ∀ y, y ≠ s + 64 → y ≠ s + 65 → ¬ (s + 6 + 1 + a * 6 ≤ y ∧ y ≤ s + 6 + 1 + (a * 6 + 5)) → E y = D y) (fun r => ∃ E, CN (As s) b r E ∧ (∀ c, a ≤ c → c < m → E (s + 6 + 1 + (a * 6 + c)) = q64 (mi ws ps (i + 1) a c)) ∧ (lk = true → E (s + 6 + 1 + (a * 6 + 5)) = q64 (mi ws ps (i + 1) a 5)) ∧ ∀ y, y ≠ s + 64 → y ≠ s + 65 → ¬ (s + 6 + 1 + a * 6 ≤ y ∧ y ≤ s + 6 + 1 + (a * 6 + 5)) → E y = D y) r) := by
      intro hcm
      unfold j_So_lowerRow_38
      rw [ix6, ix6]
      refine ok_pos (inb_cI (by omega) (by decide)) (ok_pos (inb_cI (by omega) (by decide)) ?_)
      rw [cI_nat (by omega), cI_nat (by omega)]
      refine ok_binde (nu_multiply (by omega) (by omega) z) ?_
      have h8 := CN_sN hE (a := s + 65) (by show _ ∧ _; omega) (qmul (rN z (s + 64)) (rN z (s + 6 + 1 + (i * 6 + c))))
      generalize hz8 : sN z (s + 65) (qmul (rN z (s + 64)) (rN z (s + 6 + 1 + (i * 6 + c)))) = z8 at h8
      refine ok_binde (nu_timesReal _ _ _ z8) ?_
      have hpv : rN z8 (s + 6 + 1 + (i * 6 + i)) = q64 (mi ws ps i i i) := by
        rw [h8.2.2.2, up_o _ _ (by omega), hEo _ (by omega) (by omega) (by omega)]
        exact hDi i (Nat.le_refl _) (by omega)
      have hre : re (f_Nu_realX (s + 6 + 1 + (i * 6 + i)) z8) (f_Nu_realY (s + 6 + 1 + (i * 6 + i)) z8) = q64 (mi ws ps i i i) := by
        have e1 : f_Nu_realX (s + 6 + 1 + (i * 6 + i)) z8 = Int64.ofInt (mi ws ps i i i).1 := by
          show (rN z8 (s + 6 + 1 + (i * 6 + i))).1 = _
          rw [hpv]; rfl
        have e2 : f_Nu_realY (s + 6 + 1 + (i * 6 + i)) z8 = Int64.ofInt (-(mi ws ps i i i).2.2.2) := by
          show -(rN z8 (s + 6 + 1 + (i * 6 + i))).2.2.2 = _
          rw [hpv, Int64.ofInt_neg]; rfl
        rw [e1, e2]
        conv => rhs; rw [mi_re (ws := ws) (ps := ps) (i := i) (r := i) (by omega) (by omega), q64_re]
        rfl
      rw [hre]
      have h9 := CN_sN h8 (a := s + 6 + 1 + (a * 6 + c)) (by show _ ∧ _; omega) (qmul (rN z8 (s + 6 + 1 + (a * 6 + c))) (q64 (mi ws ps i i i)))
      generalize hz9 : sN z8 (s + 6 + 1 + (a * 6 + c)) (qmul (rN z8 (s + 6 + 1 + (a * 6 + c))) (q64 (mi ws ps i i i))) = z9 at h9
      refine ok_binde (nu_takeAway (by omega) z9) ?_
      have h10 := CN_sN h9 (a := s + 6 + 1 + (a * 6 + c)) (by show _ ∧ _; omega) (qsub (rN z9 (s + 6 + 1 + (a * 6 + c))) (rN z9 (s + 65)))
      generalize hz10 : sN z9 (s + 6 + 1 + (a * 6 + c)) (qsub (rN z9 (s + 6 + 1 + (a * 6 + c))) (rN z9 (s + 65))) = z10 at h10
      rw [up_up, h9.2.2.2, up_s, h9.2.2.2, up_o _ _ (show s + 65 ≠ s + 6 + 1 + (a * 6 + c) by omega), up_s, h8.2.2.2, up_o _ _ (show s + 6 + 1 + (a * 6 + c) ≠ s + 65 by omega), hE.2.2.2, hE.2.2.2, hE64, hEc, hEo (s + 6 + 1 + (i * 6 + c)) (by omega) (by omega) (by omega)] at h10
      have fin : ∀ (w : M2) (v : Q6), CN (As s) b w (up (up E (s + 65) (qmul (q64 (mi ws ps i a i)) (D (s + 6 + 1 + (i * 6 + c))))) (s + 6 + 1 + (a * 6 + c)) v) → ((c < m ∨ lk = true) → v = q64 (mi ws ps (i + 1) a c)) → ∃ E, CN (As s) b w E ∧ E (s + 64) = q64 (mi ws ps i a i) ∧ (∀ c2, a ≤ c2 → c2 < c + 1 → c2 < m → E (s + 6 + 1 + (a * 6 + c2)) = q64 (mi ws ps (i + 1) a c2)) ∧ (lk = true → 5 < c + 1 → E (s + 6 + 1 + (a * 6 + 5)) = q64 (mi ws ps (i + 1) a 5)) ∧ (∀ c2, c + 1 ≤ c2 → E (s + 6 + 1 + (a * 6 + c2)) = D (s + 6 + 1 + (a * 6 + c2)) ∨ 5 < c2) ∧ ∀ y, y ≠ s + 64 → y ≠ s + 65 → ¬ (s + 6 + 1 + a * 6 ≤ y ∧ y ≤ s + 6 + 1 + (a * 6 + 5)) → E y = D y := by
        intro w v hw hv
        refine ⟨_, hw, ?_, fun c2 k1 k2 k3 => ?_, fun k1 k2 => ?_, fun c2 k1 => ?_, fun y y1 y2 y3 => ?_⟩
        · rw [up_o _ _ (by omega), up_o _ _ (by omega)]; exact hE64
        · by_cases hcc : c2 = c
          · subst hcc; rw [up_s]; exact hv (Or.inl k3)
          · rw [up_o _ _ (by omega), up_o _ _ (by omega)]; exact hEd c2 k1 (by omega) k3
        · have : c = 5 := by omega
          subst this
          rw [up_s]; exact hv (Or.inr k1)
        · by_cases k5 : 5 < c2
          · exact Or.inr k5
          · rw [up_o _ _ (by omega), up_o _ _ (by omega)]
            exact hEr c2 (by omega)
        · rw [up_o _ _ (by omega), up_o _ _ (by omega)]; exact hEo y y1 y2 y3
      have hval : (c < m ∨ lk = true) → qsub (qmul (D (s + 6 + 1 + (a * 6 + c))) (q64 (mi ws ps i i i))) (qmul (q64 (mi ws ps i a i)) (D (s + 6 + 1 + (i * 6 + c)))) = q64 (qmul (mi ws ps (i + 1) a c) (rm ws ps i)) := by
        intro hv
        by_cases hcm2 : c < m
        · rw [hDa c hc1 hcm2, hDi c (by omega) hcm2]; exact cell64 hp hi3 hf
        · have hc5 : c = 5 := by omega
          rcases hv with hv | hv
          · exact absurd hv hcm2
          · subst hc5; rw [hDa5 hv, hDi5 hv]; exact cell64 hp hi3 hf
      rw [h10.1, h12]
      by_cases hr0 : (fl (Gz ws ps) i).length = 0
      · refine ok_pos (by rw [hr0]; decide) (ok_some ⟨c_succ c, fin z10 _ h10 (fun hv => ?_)⟩)
        rw [hval hv, rm_1 hr0]
        congr 1
        apply q_ext <;> simp only [qmul] <;> grind
      · refine ok_neg (fun e => le_no (a := (fl (Gz ws ps) i).length) (b := 0) (by omega) (by omega) e) ?_
        refine ok_binde (nu_timesReal _ _ _ z10) ?_
        have hz14 : z10.2 s 14 = Int64.ofInt (rX ws ps i) := by rw [h10.2.1 s (by show ¬ (_ ∧ _); omega)]; exact h14
        have hz15 : z10.2 s 15 = Int64.ofInt (rY ws ps i) := by rw [h10.2.1 s (by show ¬ (_ ∧ _); omega)]; exact h15
        have hre2 : re (z10.2 s 14) (-(z10.2 s 15)) = q64 (re (rX ws ps i) (-(rY ws ps i))) := by
          rw [hz14, hz15, q64_re, ← Int64.ofInt_neg]; rfl
        rw [hre2]
        have h11' := CN_sN h10 (a := s + 6 + 1 + (a * 6 + c)) (by show _ ∧ _; omega) (qmul (rN z10 (s + 6 + 1 + (a * 6 + c))) (q64 (re (rX ws ps i) (-(rY ws ps i)))))
        generalize hz11 : sN z10 (s + 6 + 1 + (a * 6 + c)) (qmul (rN z10 (s + 6 + 1 + (a * 6 + c))) (q64 (re (rX ws ps i) (-(rY ws ps i))))) = z11 at h11'
        refine ok_binde (nu_divide (o64_ne (low_pos (by omega)) (low_le (by omega) hp).2) _ z11) (ok_some ⟨c_succ c, ?_⟩)
        have h12' := CN_sN h11' (a := s + 6 + 1 + (a * 6 + c)) (by show _ ∧ _; omega) (qdv (rN z11 (s + 6 + 1 + (a * 6 + c))) (Int64.ofInt (lowz ws ps i)))
        rw [up_up, up_up, h11'.2.2.2, up_s, h10.2.2.2, up_s] at h12'
        rw [h11'.2.2.2, up_s, h10.2.2.2, up_s]
        refine fin _ _ h12' (fun hv => ?_)
        rw [hval hv]
        exact cell64b hp hi3
    by_cases hcm : c < m
    · exact ok_pos (lt_yes hcm (by omega)) (work (Or.inl hcm))
    · refine ok_neg (lt_no (by omega) (by omega)) ?_
      by_cases hc5 : c = 5
      · exact ok_pos (by rw [hc5]; rfl) (work (Or.inr hc5))
      · refine ok_neg (ne_no (b := 5) hc5 (by omega) (by decide)) (ok_some ⟨c_succ c, E, hE, hE64, fun c2 k1 k2 k3 => hEd c2 k1 (by omega) k3, fun k1 k2 => absurd k2 (by omega), fun c2 k1 => hEr c2 (by omega), hEo⟩)
  · rintro z ⟨E, hE, hE64, hEd, hE5, hEr, hEo⟩
    show Ok (b_So_lowerRow_28 s (cI i) (cI a) (s + 6 + 1 + (i * 6 + i)) _ (cI 6) z) _
    unfold b_So_lowerRow_28
    exact ok_pos (le_yes (a := 6) (Nat.le_refl _) (by decide)) (ok_some ⟨E, hE, fun c k1 k2 => hEd c k1 (by omega) k2, fun k => hE5 k (by decide), hEo⟩)
end
