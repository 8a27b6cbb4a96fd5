/-! the class's solver: wishes, the form -/
abbrev As (s : Nat) : Nat → Prop := fun y => s + 7 ≤ y ∧ y ≤ s + 65
theorem lkI_no {lk : Option Nat} (h : ∀ k, lk = some k → k < 12) : lkI lk = (-1 : Int32) ↔ lk = none := by
  cases lk with
  | none => exact ⟨fun _ => rfl, fun _ => rfl⟩
  | some k =>
    have hk := h k rfl
    have key : ∀ k : Nat, k < 12 → ¬ (cI k = (-1 : Int32)) := by decide +kernel
    exact ⟨fun e => absurd e (key k hk), fun e => by cases e⟩
/-- wishes are listed -/
theorem so_list {g : M2} {s n : Nat} {pos : Nat → Nat} {br : Nat} {lk : Option Nat} {ds : List Nat} (hP : PL g (s + 1) n pos br lk ds) : Ok (f_So_listWishes s g) (fun r => r.2 = g.2 ∧ (∀ y, y ≠ s → y ≠ s + 4 → r.1 y = g.1 y) ∧ (∀ j, j ≠ 11 → r.1 s j = g.1 s j) ∧ r.1 s 11 = cI (wll lk ds).length ∧ ∀ i, i < (wll lk ds).length → r.1 (s + 4) i = cI (wsl lk ds i)) := by
  obtain ⟨-, -, -, -, -, h6, h7, h8, h9, h10⟩ := hP
  have key : ∀ (g1 : M2) (k0 : Nat), k0 ≤ 1 → (∀ y, y ≠ s → y ≠ s + 4 → g1.1 y = g.1 y) → (∀ j, j ≠ 11 → g1.1 s j = g.1 s j) → g1.2 = g.2 → g1.1 s 11 = cI k0 → (∀ i, i < k0 → g1.1 (s + 4) i = cI (wsl lk ds i)) → (wll lk ds).length = k0 + ds.length → (∀ i, i < ds.length → wsl lk ds (k0 + i) = ds.getD i 0) → Ok (j_So_listWishes_18 s g1) (fun r => r.2 = g.2 ∧ (∀ y, y ≠ s → y ≠ s + 4 → r.1 y = g.1 y) ∧ (∀ j, j ≠ 11 → r.1 s j = g.1 s j) ∧ r.1 s 11 = cI (wll lk ds).length ∧ ∀ i, i < (wll lk ds).length → r.1 (s + 4) i = cI (wsl lk ds i)) := by
    intro g1 k0 hk0 f1 f2 f3 f4 f5 hl hw
    unfold j_So_listWishes_18
    refine ok_bindm (Q := fun r => r.2 = g.2 ∧ (∀ y, y ≠ s → y ≠ s + 4 → r.1 y = g.1 y) ∧ (∀ j, j ≠ 11 → r.1 s j = g.1 s j) ∧ r.1 s 11 = cI (wll lk ds).length ∧ ∀ i, i < (wll lk ds).length → r.1 (s + 4) i = cI (wsl lk ds i)) ?_ (fun r hr => ok_some hr)
    refine ok_for ds.length (by omega) (fun i z => z.2 = g.2 ∧ (∀ y, y ≠ s → y ≠ s + 4 → z.1 y = g.1 y) ∧ (∀ j, j ≠ 11 → z.1 s j = g.1 s j) ∧ z.1 s 11 = cI (k0 + i) ∧ ∀ j, j < k0 + i → z.1 (s + 4) j = cI (wsl lk ds j)) ⟨f3, f1, f2, f4, f5⟩ ?_ ?_
    · rintro i z hi ⟨z2, z1, z3, z4, z5⟩
      show Ok (b_So_listWishes_20 s (cI i) z) _
      unfold b_So_listWishes_20
      rw [z1 (s + 1) (by omega) (by omega), h8, z4]
      refine ok_neg (le_no hi (by omega)) (ok_neg (le_no (a := 5) (by omega) (by decide)) (ok_pos (inb_cI (by omega) (by decide)) (ok_pos (inb_cI (by omega) (by decide)) (ok_bd (ok_bd (ok_some ?_))))))
      rw [cI_nat (by omega), cI_nat (by omega), z1 (s + 1 + 2) (by omega) (by omega), (h10 i hi).1]
      refine ⟨c_succ i, ?_, fun y y1 y2 => ?_, fun j hj => ?_, ?_, fun j hj => ?_⟩
      · exact z2
      · rw [uI_o _ _ _ y1, uI_o _ _ _ y2]; exact z1 y y1 y2
      · rw [uI_k _ _ _ hj, uI_o _ _ _ (by omega)]; exact z3 j hj
      · rw [uI_s, uI_o _ _ _ (by omega), z4, c_succ, Nat.add_assoc]
      · rw [uI_o _ _ _ (by omega)]
        by_cases hjk : j = k0 + i
        · rw [hjk, uI_s, hw i hi]
        · rw [uI_k _ _ _ hjk]; exact z5 j (by omega)
    · rintro z ⟨z2, z1, z3, z4, z5⟩
      show Ok (b_So_listWishes_20 s (cI ds.length) z) _
      unfold b_So_listWishes_20
      rw [z1 (s + 1) (by omega) (by omega), h8]
      refine ok_pos (le_yes (Nat.le_refl _) (by omega)) (ok_some ⟨z2, z1, z3, by rw [hl]; exact z4, fun i hi => z5 i (by omega)⟩)
  unfold f_So_listWishes
  refine ok_bd ?_
  rw [uI_o _ _ _ (show s + 1 ≠ s by omega), h6]
  cases lk with
  | none =>
    refine ok_pos rfl (key _ 0 (by decide) (fun y y1 _ => uI_o _ _ _ y1) (fun j hj => uI_k _ _ _ hj) rfl (uI_s _ _ _ _) (fun i hi => absurd hi (by omega)) (by simp [wll]) (fun i _ => by simp [wsl, wll]))
  | some k =>
    have hk := h7 k rfl
    refine ok_neg (fun e => by have := (lkI_no h7).mp e; cases this) (ok_bd (ok_bd ?_))
    refine key _ 1 (by decide) (fun y y1 y2 => by rw [uI_o _ _ _ y1, uI_o _ _ _ y2, uI_o _ _ _ y1]) (fun j hj => by rw [uI_k _ _ _ hj, uI_o _ _ _ (by omega), uI_k _ _ _ hj]) rfl (uI_s _ _ _ _) (fun i hi => ?_) (by simp [wll]; omega) (fun i _ => by simp [wsl, wll, Nat.add_comm])
    have : i = 0 := by omega
    subst this
    rw [uI_o _ _ _ (by omega), uI_s]; rfl
theorem ix6 (a c : Nat) : cI a * (6 : Int32) + cI c = cI (a * 6 + c) := by
  rw [show (6 : Int32) = cI 6 from rfl, cI_mul, cI_add]
/-- the form is filled -/
theorem so_fill {g : M2} {s n : Nat} {pos : Nat → Nat} {br : Nat} {lk : Option Nat} {ds : List Nat} (hP : PL g (s + 1) n pos br lk ds) (hm : g.1 s 11 = cI (wll lk ds).length) (hw : ∀ i, i < (wll lk ds).length → g.1 (s + 4) i = cI (wsl lk ds i)) : Ok (f_So_fillForm s g) (fun r => ∃ D, CN (As s) g r D ∧ (∀ i j, i ≤ j → j < (wll lk ds).length → D (s + 6 + 1 + (i * 6 + j)) = q64 (Gz (wsl lk ds) (wkl pos br n) i j)) ∧ (lk ≠ none → ∀ i, i < (wll lk ds).length → D (s + 6 + 1 + (i * 6 + 5)) = q64 (Gx (wsl lk ds) (wkl pos br n) i 5))) := by
  have hm5 : (wll lk ds).length ≤ 5 := wll_len hP.2.2.2.2.2.2.2.2.1
  have hw12 := wsl_lt hP.2.2.2.2.2.2.1 (fun i hi => (hP.2.2.2.2.2.2.2.2.2 i hi).2)
  generalize hmm : (wll lk ds).length = m at *
  unfold f_So_fillForm
  refine ok_bindm (Q := fun r => ∃ D, CN (As s) g r D ∧ (∀ i j, i < m → i ≤ j → j < m → D (s + 6 + 1 + (i * 6 + j)) = q64 (Gz (wsl lk ds) (wkl pos br n) i j)) ∧ ∀ i, i < m → D (s + 6 + 1 + (i * 6 + 5)) = (0, 0, 0, 0)) ?_ (fun e11 he11 => ?_)
  · refine ok_for m (by omega) (fun k z => ∃ D, CN (As s) g z D ∧ (∀ i j, i < k → i ≤ j → j < m → D (s + 6 + 1 + (i * 6 + j)) = q64 (Gz (wsl lk ds) (wkl pos br n) i j)) ∧ ∀ i, i < k → D (s + 6 + 1 + (i * 6 + 5)) = (0, 0, 0, 0)) ⟨_, CN_rf _ g, fun i j hi => absurd hi (by omega), fun i hi => absurd hi (by omega)⟩ ?_ ?_
    · rintro k z hk ⟨D, hD, hD1, hD2⟩
      show Ok (b_So_fillForm_2 s (cI k) z) _
      unfold b_So_fillForm_2
      rw [hD.1, hm]
      refine ok_neg (le_no hk (by omega)) ?_
      refine ok_bindm (Q := fun r => ∃ D, CN (As s) g r D ∧ (∀ i j, i < k + 1 → i ≤ j → j < m → D (s + 6 + 1 + (i * 6 + j)) = q64 (Gz (wsl lk ds) (wkl pos br n) i j)) ∧ ∀ i, i < k → D (s + 6 + 1 + (i * 6 + 5)) = (0, 0, 0, 0)) ?_ (fun e7 he7 => ?_)
      · refine ok_forA k m (by omega) (by omega) (fun c z => ∃ D, CN (As s) g z D ∧ (∀ i j, (i < k ∧ i ≤ j ∧ j < m) ∨ (i = k ∧ k ≤ j ∧ j < c) → D (s + 6 + 1 + (i * 6 + j)) = q64 (Gz (wsl lk ds) (wkl pos br n) i j)) ∧ ∀ i, i < k → D (s + 6 + 1 + (i * 6 + 5)) = (0, 0, 0, 0)) ⟨D, hD, fun i j h => hD1 i j (by omega) (by omega) (by omega), hD2⟩ ?_ ?_
        · rintro c z hc1 hc ⟨D, hD, hD1, hD2⟩
          show Ok (b_So_fillForm_8 s (cI k) (cI c) z) _
          unfold b_So_fillForm_8
          rw [hD.1, hm, ix6]
          refine ok_neg (le_no hc (by omega)) (ok_pos (inb_cI (by omega) (by decide)) (ok_pos (inb_cI (by omega) (by decide)) (ok_pos (inb_cI (by omega) (by decide)) ?_)))
          rw [cI_nat (by omega), cI_nat (by omega), cI_nat (by omega), hw k hk, hw c hc]
          refine ok_bindm (pl_meet hD hP (hw12 k hk) (hw12 c hc) (t := s + 6 + 1 + (k * 6 + c)) (by show _ ∧ _; omega)) (fun r hr => ok_some ⟨c_succ c, _, hr, fun i j h => ?_, fun i hi => ?_⟩)
          · by_cases hkc : i = k ∧ j = c
            · rw [hkc.1, hkc.2, up_s, Gz_eq]
            · rw [up_o _ _ (by omega)]; exact hD1 i j (by omega)
          · rw [up_o _ _ (by omega)]; exact hD2 i hi
        · rintro z ⟨D, hD, hD1, hD2⟩
          show Ok (b_So_fillForm_8 s (cI k) (cI m) z) _
          unfold b_So_fillForm_8
          rw [hD.1, hm]
          exact ok_pos (le_yes (Nat.le_refl _) (by omega)) (ok_some ⟨D, hD, fun i j h1 h2 h3 => hD1 i j (by omega), hD2⟩)
      · obtain ⟨D, hD, hD1, hD2⟩ := he7
        have e5 : cI k * (6 : Int32) + (5 : Int32) = cI (k * 6 + 5) := ix6 k 5
        rw [e5]
        refine ok_pos (inb_cI (by omega) (by decide)) ?_
        rw [cI_nat (by omega)]
        refine ok_binde (nu_clear _ _) (ok_some ⟨c_succ k, _, CN_sN hD (a := s + 6 + 1 + (k * 6 + 5)) (by show _ ∧ _; omega) _, fun i j h1 h2 h3 => ?_, fun i hi => ?_⟩)
        · rw [up_o _ _ (by omega)]; exact hD1 i j h1 h2 h3
        · by_cases hik : i = k
          · rw [hik, up_s]
          · rw [up_o _ _ (by omega)]; exact hD2 i (by omega)
    · rintro z ⟨D, hD, hD1, hD2⟩
      show Ok (b_So_fillForm_2 s (cI m) z) _
      unfold b_So_fillForm_2
      rw [hD.1, hm]
      exact ok_pos (le_yes (Nat.le_refl _) (by omega)) (ok_some ⟨D, hD, hD1, hD2⟩)
  · obtain ⟨D, hD, hD1, hD2⟩ := he11
    rw [hD.1, hP.2.2.2.2.2.1]
    cases hlk : lk with
    | none => exact ok_pos rfl (ok_some ⟨D, hD, fun i j h1 h2 => by rw [← hlk]; exact hD1 i j (by omega) h1 h2, fun h => absurd rfl h⟩)
    | some k =>
      refine ok_neg (fun e => by have := (lkI_no (lk := some k) (fun k2 hk2 => hP.2.2.2.2.2.2.1 k2 (hlk.trans hk2))).mp e; cases this) ?_
      refine ok_binde (nu_addRoot (k := 0) (by decide) (s + 6 + 1 + 5) e11) (ok_some ⟨_, CN_sN hD (a := s + 6 + 1 + 5) (by show _ ∧ _; omega) _, fun i j h1 h2 => ?_, fun _ i hi => ?_⟩)
      · rw [up_o _ _ (by omega), ← hlk]; exact hD1 i j (by omega) h1 h2
      · by_cases hi0 : i = 0
        · subst hi0
          rw [show s + 6 + 1 + (0 * 6 + 5) = s + 6 + 1 + 5 by omega, up_s, hD.2.2.2]
          have := hD2 0 (by omega)
          rw [show s + 6 + 1 + (0 * 6 + 5) = s + 6 + 1 + 5 by omega] at this
          rw [this]; rfl
        · rw [up_o _ _ (by omega), hD2 i hi]
          unfold Gx gx
          rw [if_pos rfl, if_neg hi0]; rfl
