/-! the class's solver: shares and weights -/
section
variable {ws : Nat → Nat} {ps : List Nat} {m : Nat}
theorem Cz_len (hm : m ≤ 5) (hp : ps.length ≤ 5) (h1 : 0 < m) (h0 : ¬ Lo ws ps 0) (i : Nat) : len 375000 (Cz ws ps m i) := by
  by_cases hi : i ∈ fl (Gz ws ps) m
  · have hle := fl_le (Gz ws ps) m
    obtain ⟨j, hj, hji⟩ : ∃ j, j < (fl (Gz ws ps) m).length ∧ frz (Gz ws ps) m j = i := by
      obtain ⟨j, hj, e⟩ := List.getElem_of_mem (List.mem_reverse.mpr hi)
      rw [List.length_reverse] at hj
      refine ⟨j, hj, ?_⟩
      unfold frz
      rw [List.getD_eq_getElem?_getD, List.getElem?_eq_getElem (by rw [List.length_reverse]; exact hj)]
      exact e
    have h := cof_z (ws := ws) (ps := ps) hm h1 h0 (fr := frz (Gz ws ps) m) (fun _ _ => rfl) hj
    rw [hji] at h
    rw [← h]
    have hb := bl_drop (fl (Gz ws ps) m).length (by omega) j hj
    have hl : len 375000 (zdx (fun a b => Gz ws ps (frz (Gz ws ps) m a) (frz (Gz ws ps) m b)) (rwl 1 ((fl (Gz ws ps) m).length - 1)) (bl (2 ^ (fl (Gz ws ps) m).length - 1 - 2 ^ j))) := by
      have hrl : ∀ n : Nat, (rwl 1 n).length = n := by
        intro n
        induction n with
        | zero => rfl
        | succ n ih => rw [rwl, List.length_cons, ih]
      exact len_mono (dx_len (fun r c => Gz_len ws ps hp _ _) _ _ (by rw [hrl]; exact hb.2)) (dlen_5 _ (by rw [hrl]; omega))
    unfold sgz
    split
    · exact hl
    · exact len_neg hl
  · rw [Cz_none h1 h0 hi]; exact len_mono len_0 (by decide)
theorem zsum_hd (f : Nat → Z4) (n : Nat) : zsum ((List.range (n + 1)).map f) = qadd (f 0) (zsum ((List.range n).map (fun t => f (t + 1)))) := by
  rw [List.range_succ_eq_map, List.map_cons, List.map_map]; rfl
/-- one share, in whole numbers -/
theorem share_z (hm : m ≤ 5) (h1 : 0 < m) (h0 : ¬ Lo ws ps 0) {i : Nat} (hi : i < m) (hf : ¬ Lo ws ps i) : qsub (qmul (mi ws ps i i 5) (rm ws ps m)) (zsum ((List.range (m - 1 - i)).map (fun t => qmul (mi ws ps i i (i + 1 + t)) (Cz ws ps m (i + 1 + t))))) = qmul (mi ws ps i i i) (Cz ws ps m i) := by
  have h := sub_z hm h1 h0 hi hf
  rw [show m - i = (m - 1 - i) + 1 by omega, zsum_hd] at h
  have e : (fun t => qmul (mi ws ps i i (i + (t + 1))) (Cz ws ps m (i + (t + 1)))) = (fun t => qmul (mi ws ps i i (i + 1 + t)) (Cz ws ps m (i + 1 + t))) := by
    funext t; rw [show i + (t + 1) = i + 1 + t by omega]
  simp only [Nat.add_zero] at h
  rw [e] at h
  rw [← h]
  generalize zsum _ = u
  generalize qmul (mi ws ps i i i) (Cz ws ps m i) = v
  apply q_ext <;> simp only [qadd, qsub] <;> grind
/-- shares and the lower number -/
theorem so_subst {b : M2} {s : Nat} (hp : ps.length ≤ 5) (hm5 : m ≤ 5) (hm0 : 0 < m) (h0 : ¬ Lo ws ps 0) (h11 : b.1 s 11 = cI m) (hlo : ∀ i, i < m → b.1 (s + 5) i = loI ws ps i) (h14 : b.2 s 14 = Int64.ofInt (rX ws ps m)) (h15 : b.2 s 15 = Int64.ofInt (rY ws ps m)) (hc : ∀ a c, a ≤ c → c < m → rN b (s + 6 + 1 + (a * 6 + c)) = q64 (mi ws ps a a c)) (hc5 : ∀ a, a < m → rN b (s + 6 + 1 + (a * 6 + 5)) = q64 (mi ws ps a a 5)) : Ok (f_So_substitute s b) (fun r => ∃ E, CN (As s) (uJ b s 16 (Int64.ofInt (lowz ws ps m))) r E ∧ ∀ i, i < m → E (s + 37 + 1 + i) = q64 (shz ws ps m i)) := by
  have frm : ∀ y, y = s ∨ y = s + 5 → ¬ As s y := fun y hy => by show ¬ (_ ∧ _); omega
  unfold f_So_substitute
  refine ok_bindm (Q := fun r => ∃ E, CN (As s) b r E ∧ ∀ i, i < m → E (s + 37 + 1 + i) = q64 (Cz ws ps m i)) ?_ (fun e19 he19 => ?_)
  · refine ok_lp (fun k q => q.1 = Int32.ofInt ((m : Int) - 1 - k) ∧ ∃ E, CN (As s) b q.2 E ∧ (∀ i, i < m → m ≤ i + k → E (s + 37 + 1 + i) = q64 (Cz ws ps m i)) ∧ ∀ y, y < s + 37 → E y = rN b y) m 5000 0 _ (by omega) (Nat.zero_le _) ⟨?_, _, CN_rf _ b, fun i h1 h2 => absurd h2 (by omega), fun _ _ => rfl⟩ ?_
    · show b.1 s 11 - 1 = _
      rw [h11, c_pred hm0, c_int]; congr 1; omega
    · rintro k ⟨v, z⟩ hk ⟨hv, E, hE, hE1, hE2⟩
      simp only at hv hE
      subst hv
      show Ok (b_So_substitute_5 s (Int32.ofInt ((m : Int) - 1 - k)) z) _
      unfold b_So_substitute_5
      by_cases hkm : k = m
      · have e1 : (m : Int) - 1 - k = -1 := by omega
        rw [e1]
        exact ok_pos (by decide) (ok_some ⟨E, hE, fun i hi => hE1 i hi (by omega)⟩)
      · obtain ⟨i, hi⟩ : ∃ i, i + 1 + k = m := ⟨m - 1 - k, by omega⟩
        have e1 : Int32.ofInt ((m : Int) - 1 - k) = cI i := by rw [c_int]; congr 1; omega
        have e2 : cI i + (-1 : Int32) = Int32.ofInt ((m : Int) - 1 - (k + 1 : Nat)) := by
          rw [c_int, show (-1 : Int32) = Int32.ofInt (-1) from rfl, ← Int32.ofInt_add]; congr 1; omega
        rw [e1, e2]
        have him : i < m := by omega
        refine ok_neg (nn_no (by omega)) (ok_pos (inb_cI (by omega) (by decide)) ?_)
        simp only [cI_nat (show i < 2 ^ 31 by omega)]
        refine ok_binde (nu_clear _ z) ?_
        have h3 := CN_sN hE (a := s + 37 + 1 + i) (by show _ ∧ _; omega) (0, 0, 0, 0)
        generalize hz3 : sN z (s + 37 + 1 + i) (0, 0, 0, 0) = z3 at h3
        refine ok_pos (inb_cI (by omega) (by decide)) ?_
        rw [h3.1, hlo i him]
        have fin : ∀ (w : M2) (F : Nat → Q6), CN (As s) b w F → F (s + 37 + 1 + i) = q64 (Cz ws ps m i) → (∀ y, y ≠ s + 37 + 1 + i → y ≠ s + 65 → F y = E y) → ∃ E, CN (As s) b w E ∧ (∀ i, i < m → m ≤ i + (k + 1) → E (s + 37 + 1 + i) = q64 (Cz ws ps m i)) ∧ ∀ y, y < s + 37 → E y = rN b y := by
          intro w F hF hF1 hF2
          refine ⟨F, hF, fun j hj1 hj2 => ?_, fun y hy => ?_⟩
          · by_cases hji : j = i
            · rw [hji]; exact hF1
            · rw [hF2 _ (by omega) (by omega)]; exact hE1 j hj1 (by omega)
          · rw [hF2 _ (by omega) (by omega)]; exact hE2 y hy
        by_cases hL : Lo ws ps i
        · rw [loI_1 hL]
          refine ok_neg (by decide) (ok_some ⟨by omega, rfl, fin z3 _ h3 ?_ (fun y y1 _ => up_o _ _ y1)⟩)
          rw [up_s, Cz_none hm0 h0 (fun h => by
            have := ((mem_fl _ _ _).mp h).2
            exact this ((Lo_dx (by omega)).mp hL))]
          rfl
        · rw [loI_0 hL]
          have e5 : cI i * (6 : Int32) + (5 : Int32) = cI (i * 6 + 5) := ix6 i 5
          refine ok_pos rfl ?_
          rw [e5, ix6]
          refine ok_pos (inb_cI (by omega) (by decide)) ?_
          rw [cI_nat (a := i * 6 + 5) (by omega)]
          refine ok_binde (nu_copy (by omega) z3) ?_
          have h7 := CN_sN h3 (a := s + 37 + 1 + i) (by show _ ∧ _; omega) (rN z3 (s + 6 + 1 + (i * 6 + 5)))
          generalize hz7 : sN z3 (s + 37 + 1 + i) (rN z3 (s + 6 + 1 + (i * 6 + 5))) = z7 at h7
          rw [up_up, h3.2.2.2, up_o _ _ (by omega), hE2 _ (by omega), hc5 i him] at h7
          refine ok_binde (nu_timesReal _ _ _ z7) ?_
          have hre : re (z7.2 s 14) (z7.2 s 15) = q64 (rm ws ps m) := by
            rw [h7.2.1 s (frm s (Or.inl rfl)), h14, h15, (rm_re (ws := ws) (ps := ps) hm5).1, q64_re]; rfl
          rw [hre]
          have h8 := CN_sN h7 (a := s + 37 + 1 + i) (by show _ ∧ _; omega) (qmul (rN z7 (s + 37 + 1 + i)) (q64 (rm ws ps m)))
          generalize hz8 : sN z7 (s + 37 + 1 + i) (qmul (rN z7 (s + 37 + 1 + i)) (q64 (rm ws ps m))) = z8 at h8
          rw [up_up, h7.2.2.2, up_s, ← q64_mul] at h8
          rw [c_succ]
          refine ok_bindm (Q := fun r => ∃ F, CN (As s) b r F ∧ F (s + 37 + 1 + i) = q64 (qmul (mi ws ps i i i) (Cz ws ps m i)) ∧ ∀ y, y ≠ s + 37 + 1 + i → y ≠ s + 65 → F y = E y) ?_ (fun e14 he14 => ?_)
          · refine ok_forA (i + 1) m (by omega) (by omega) (fun j w => ∃ F, CN (As s) b w F ∧ F (s + 37 + 1 + i) = q64 (qsub (qmul (mi ws ps i i 5) (rm ws ps m)) (zsum ((List.range (j - 1 - i)).map (fun t => qmul (mi ws ps i i (i + 1 + t)) (Cz ws ps m (i + 1 + t)))))) ∧ ∀ y, y ≠ s + 37 + 1 + i → y ≠ s + 65 → F y = E y) ⟨_, h8, ?_, fun y y1 _ => up_o _ _ y1⟩ ?_ ?_
            · rw [up_s, show i + 1 - 1 - i = 0 by omega]
              congr 1
              simp only [List.range_zero, List.map_nil, zsum]
              apply q_ext <;> simp only [qsub] <;> grind
            · rintro j w hj1 hj ⟨F, hF, hF1, hF2⟩
              show Ok (b_So_substitute_39 s (cI i) (s + 37 + 1 + i) (cI j) w) _
              unfold b_So_substitute_39
              rw [hF.1, h11, ix6]
              refine ok_neg (le_no hj (by omega)) (ok_pos (inb_cI (by omega) (by decide)) (ok_pos (inb_cI (by omega) (by decide)) ?_))
              rw [cI_nat (by omega), cI_nat (by omega)]
              refine ok_binde (nu_multiply (by omega) (by omega) w) ?_
              have k12 := CN_sN hF (a := s + 65) (by show _ ∧ _; omega) (qmul (rN w (s + 6 + 1 + (i * 6 + j))) (rN w (s + 37 + 1 + j)))
              generalize hw12 : sN w (s + 65) (qmul (rN w (s + 6 + 1 + (i * 6 + j))) (rN w (s + 37 + 1 + j))) = w12 at k12
              refine ok_binde (nu_takeAway (by omega) w12) (ok_some ⟨c_succ j, ?_⟩)
              have k13 := CN_sN k12 (a := s + 37 + 1 + i) (by show _ ∧ _; omega) (qsub (rN w12 (s + 37 + 1 + i)) (rN w12 (s + 65)))
              refine ⟨_, k13, ?_, fun y y1 y2 => ?_⟩
              · rw [up_s, k12.2.2.2, up_o _ _ (by omega), hF1, k12.2.2.2, up_s, hF.2.2.2, hF.2.2.2, hF2 _ (by omega) (by omega), hF2 _ (by omega) (by omega), hE2 _ (by omega), hc i j (by omega) hj, hE1 j hj (by omega), ← q64_mul, ← q64_sub]
                congr 1
                rw [show j + 1 - 1 - i = (j - 1 - i) + 1 by omega, List.range_succ, List.map_append, List.map_cons, List.map_nil, zsum_app, show i + 1 + (j - 1 - i) = j by omega]
                generalize qmul (mi ws ps i i 5) (rm ws ps m) = u
                generalize zsum _ = v
                generalize qmul (mi ws ps i i j) (Cz ws ps m j) = x
                apply q_ext <;> simp only [qsub, qadd] <;> grind
              · rw [up_o _ _ y1, up_o _ _ y2]; exact hF2 y y1 y2
            · rintro w ⟨F, hF, hF1, hF2⟩
              show Ok (b_So_substitute_39 s (cI i) (s + 37 + 1 + i) (cI m) w) _
              unfold b_So_substitute_39
              rw [hF.1, h11]
              refine ok_pos (le_yes (Nat.le_refl _) (by omega)) (ok_some ⟨F, hF, ?_, hF2⟩)
              rw [hF1, share_z hm5 hm0 h0 him hL]
          · obtain ⟨F, hF, hF1, hF2⟩ := he14
            refine ok_pos (inb_cI (by omega) (by decide)) ?_
            rw [cI_nat (a := i * 6 + i) (by omega)]
            have hpv : ∀ w : M2, ∀ F2 : Nat → Q6, CN (As s) b w F2 → F2 (s + 6 + 1 + (i * 6 + i)) = F (s + 6 + 1 + (i * 6 + i)) → f_Nu_realX (s + 6 + 1 + (i * 6 + i)) w = Int64.ofInt (rX ws ps (i + 1)) ∧ f_Nu_realY (s + 6 + 1 + (i * 6 + i)) w = Int64.ofInt (rY ws ps (i + 1)) := by
              intro w F2 hw hw2
              have e : rN w (s + 6 + 1 + (i * 6 + i)) = q64 (rm ws ps (i + 1)) := by
                rw [hw.2.2.2, hw2, hF2 _ (by omega) (by omega), hE2 _ (by omega), hc i i (Nat.le_refl _) him, rm_free (by omega) hL]
              constructor
              · show (rN w (s + 6 + 1 + (i * 6 + i))).1 = _
                rw [e]; rfl
              · show -(rN w (s + 6 + 1 + (i * 6 + i))).2.2.2 = _
                rw [e]; unfold rY; rw [Int64.ofInt_neg]; rfl
            obtain ⟨p1, p2⟩ := hpv e14 F hF rfl
            refine ok_binde (nu_timesReal _ _ _ e14) ?_
            rw [p1, p2]
            have hre2 : re (Int64.ofInt (rX ws ps (i + 1))) (-(Int64.ofInt (rY ws ps (i + 1)))) = q64 (re (rX ws ps (i + 1)) (-(rY ws ps (i + 1)))) := by
              rw [q64_re, ← Int64.ofInt_neg]; rfl
            rw [hre2]
            have h16 := CN_sN hF (a := s + 37 + 1 + i) (by show _ ∧ _; omega) (qmul (rN e14 (s + 37 + 1 + i)) (q64 (re (rX ws ps (i + 1)) (-(rY ws ps (i + 1))))))
            generalize hz16 : sN e14 (s + 37 + 1 + i) (qmul (rN e14 (s + 37 + 1 + i)) (q64 (re (rX ws ps (i + 1)) (-(rY ws ps (i + 1)))))) = z16 at h16
            obtain ⟨p3, p4⟩ := hpv z16 _ h16 (up_o _ _ (by omega))
            rw [p3, p4, norm64]
            have hlw : rX ws ps (i + 1) * rX ws ps (i + 1) - 3 * (rY ws ps (i + 1) * rY ws ps (i + 1)) = lowz ws ps (i + 1) := rfl
            rw [hlw]
            refine ok_binde (nu_divide (o64_ne (low_pos (by omega)) (low_le (by omega) hp).2) _ z16) (ok_some ⟨by omega, rfl, ?_⟩)
            have h17 := CN_sN h16 (a := s + 37 + 1 + i) (by show _ ∧ _; omega) (qdv (rN z16 (s + 37 + 1 + i)) (Int64.ofInt (lowz ws ps (i + 1))))
            refine fin _ _ h17 ?_ (fun y y1 y2 => by rw [up_o _ _ y1, up_o _ _ y1]; exact hF2 y y1 y2)
            rw [up_s, h16.2.2.2, up_s, hF.2.2.2, hF1, ← q64_mul]
            have e3 : qmul (qmul (mi ws ps i i i) (Cz ws ps m i)) (re (rX ws ps (i + 1)) (-(rY ws ps (i + 1)))) = qmul (Cz ws ps m i) (lowz ws ps (i + 1), 0, 0, 0) := by
              rw [← rm_dd (ws := ws) (ps := ps) (m := i + 1) (by omega), rm_free (by omega) hL]
              generalize mi ws ps i i i = u
              generalize Cz ws ps m i = v
              generalize re (rX ws ps (i + 1)) (-(rY ws ps (i + 1))) = x
              apply q_ext <;> simp only [qmul] <;> grind
            rw [e3]
            exact qdv_ok (Cz_len hm5 hp hm0 h0 i) (Nat.le_refl _) (low_pos (by omega)) (low_le (by omega) hp).2
  · obtain ⟨E, hE, hE1⟩ := he19
    refine ok_bindm (Q := fun r => ∃ E, CN (As s) b r E ∧ ∀ i, i < m → E (s + 37 + 1 + i) = q64 (shz ws ps m i)) ?_ (fun e23 he23 => ?_)
    · refine ok_for m (by omega) (fun k w => ∃ F, CN (As s) b w F ∧ (∀ i, i < k → F (s + 37 + 1 + i) = q64 (shz ws ps m i)) ∧ ∀ i, k ≤ i → i < m → F (s + 37 + 1 + i) = q64 (Cz ws ps m i)) ⟨E, hE, fun i hi => absurd hi (by omega), fun i _ hi => hE1 i hi⟩ ?_ ?_
      · rintro k w hk ⟨F, hF, hF1, hF2⟩
        show Ok (b_So_substitute_91 s (cI k) w) _
        unfold b_So_substitute_91
        rw [hF.1, h11]
        refine ok_neg (le_no hk (by omega)) (ok_pos (inb_cI (by omega) (by decide)) ?_)
        rw [cI_nat (by omega)]
        refine ok_binde (nu_timesReal _ _ _ w) ?_
        have hre : re (w.2 s 14) (-(w.2 s 15)) = q64 (re (rX ws ps m) (-(rY ws ps m))) := by
          rw [hF.2.1 s (frm s (Or.inl rfl)), h14, h15, q64_re, ← Int64.ofInt_neg]; rfl
        rw [hre]
        refine ok_some ⟨c_succ k, _, CN_sN hF (a := s + 37 + 1 + k) (by show _ ∧ _; omega) _, fun i hi => ?_, fun i h1 h2 => ?_⟩
        · by_cases hik : i = k
          · rw [hik, up_s, hF.2.2.2, hF2 k (Nat.le_refl _) hk, ← q64_mul]; rfl
          · rw [up_o _ _ (by omega)]; exact hF1 i (by omega)
        · rw [up_o _ _ (by omega)]; exact hF2 i (by omega) h2
      · rintro w ⟨F, hF, hF1, hF2⟩
        show Ok (b_So_substitute_91 s (cI m) w) _
        unfold b_So_substitute_91
        rw [hF.1, h11]
        exact ok_pos (le_yes (Nat.le_refl _) (by omega)) (ok_some ⟨F, hF, hF1⟩)
    · obtain ⟨F, hF, hF1⟩ := he23
      refine ok_bd (ok_some ?_)
      rw [hF.2.1 s (frm s (Or.inl rfl)), h14, h15, norm64]
      exact ⟨F, CN_uJ hF s (by decide) _, hF1⟩
end
