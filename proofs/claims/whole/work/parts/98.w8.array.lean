/-! array: the class -/
def d0 (o : List Nat) : Sg := (0, fun _ => 0, 0, none, [], 0, 0, [], 0, -1, o)
theorem d0_I {q : Sg} (hw : WF q) : DI (d0 (so q)) (so q) := by
  obtain ⟨_, _, _, _, _, _, _, _, _, _, _, _, _, _, _, w16, w17⟩ := hw
  exact ⟨⟨by show 0 ≤ 5; omega, fun e he => absurd (show e < 0 from he) (by omega), fun e f he => absurd (show e < 0 from he) (by omega), by show 0 < 2 ^ 0; decide, fun k hk => by (cases hk), by show 0 ≤ 4; omega, fun k hk => by (cases hk), List.nodup_nil, by show 0 ≤ 99; omega, ⟨fun _ => rfl, fun _ => rfl⟩, by show 0 ≤ 300; omega, fun _ => ⟨rfl, rfl, rfl⟩, by show 0 ≤ 300; omega, fun x hx => by (cases hx), by show 0 ≤ 3; omega, w16, w17⟩, rfl, rfl, rfl, rfl⟩
theorem q_TT {q : Sg} (hw : WF q) : TT (st q) := ⟨hw.2.2.2.2.2.2.2.2.2.2.2.2.1, hw.2.2.2.2.2.2.2.2.2.2.2.2.2.1⟩
abbrev qE (q : Sg) (e : Nat × Nat) : Sg := (sn q, sp q, sb q, sl q, sd q, ss q, sL q, [], e.1, cI e.2, so q)
theorem pl_clr (g : M2) : Ok (f_Pl_clear 3 g) (fun r => PL r 3 0 (fun _ => 0) 0 none [] ∧ r.1 3 6 = 0 ∧ r.1 3 7 = 0 ∧ (∀ y, y ≠ 3 → r.1 y = g.1 y) ∧ r.2 = g.2) := by
  unfold f_Pl_clear
  refine ok_bd (ok_bd (ok_bd (ok_bd (ok_bd (ok_bd (ok_some ?_))))))
  refine ⟨⟨?_, by omega, fun e he => absurd he (by omega), ?_, by decide, ?_, fun k hk => by (cases hk), ?_, by show 0 ≤ 4; omega, fun i hi => absurd (show i < 0 from hi) (by omega)⟩, ?_, uI_s _ _ _ _, fun y hy => ?_, rfl⟩
  · rw [uI_k _ _ _ (by decide), uI_k _ _ _ (by decide), uI_k _ _ _ (by decide), uI_k _ _ _ (by decide), uI_k _ _ _ (by decide), uI_s]; rfl
  · rw [uI_k _ _ _ (by decide), uI_k _ _ _ (by decide), uI_k _ _ _ (by decide), uI_k _ _ _ (by decide), uI_s]; rfl
  · rw [uI_k _ _ _ (by decide), uI_k _ _ _ (by decide), uI_k _ _ _ (by decide), uI_s]; rfl
  · rw [uI_k _ _ _ (by decide), uI_k _ _ _ (by decide), uI_s]; rfl
  · rw [uI_k _ _ _ (by decide), uI_s]
  · rw [uI_o _ _ _ hy, uI_o _ _ _ hy, uI_o _ _ _ hy, uI_o _ _ _ hy, uI_o _ _ _ hy, uI_o _ _ _ hy]
theorem re_text {g : M2} {q : Sg} (hw : WF q) (hg : IC g q) : Ok (f_Re_readText g) (fun r => OT r (rd (st q) 301 (d0 (so q)) 0) (so q) ∧ FR3 g r) := by
  have hT := q_TT hw
  unfold f_Re_readText
  refine ok_bindm (pl_clr g) (fun r hr => ok_bd (ok_bd (ok_bd ?_)))
  obtain ⟨r1, r2, r3, r4, r5⟩ := hr
  have f0 : FR3 g (uI (uI (uI r 1 7 0) 1 8 (-1)) 1 3 0) := FR3_tr ⟨fun y _ y2 _ _ => r4 y y2, r5⟩ (FR3_tr (FR3_u r (by omega) _ _) (FR3_tr (FR3_u _ (by omega) _ _) (FR3_u _ (by omega) _ _)))
  have ho : ∀ y, y ≠ 1 → (uI (uI (uI r 1 7 0) 1 8 (-1)) 1 3 0).1 y = r.1 y := fun y hy => by rw [uI_o _ _ _ hy, uI_o _ _ _ hy, uI_o _ _ _ hy]
  have w7 : (uI (uI (uI r 1 7 0) 1 8 (-1)) 1 3 0).1 1 7 = 0 := by rw [uI_k _ _ _ (by decide), uI_k _ _ _ (by decide), uI_s]
  have w8 : (uI (uI (uI r 1 7 0) 1 8 (-1)) 1 3 0).1 1 8 = -1 := by rw [uI_k _ _ _ (by decide), uI_s]
  have w3 : (uI (uI (uI r 1 7 0) 1 8 (-1)) 1 3 0).1 1 3 = cI 0 := by rw [uI_s]; rfl
  have hTP : TP (uI (uI (uI r 1 7 0) 1 8 (-1)) 1 3 0) (st q) := ⟨by rw [uI_k _ _ _ (by decide), uI_k _ _ _ (by decide), uI_k _ _ _ (by decide), r4 1 (by decide)]; exact hg.2.2.2.1, fun i hi => by rw [ho 2 (by decide), r4 2 (by decide)]; exact hg.2.2.2.2.1 i hi⟩
  generalize uI (uI (uI r 1 7 0) 1 8 (-1)) 1 3 0 = w at *
  refine ok_bindm (re_next hTP hT.1 hT.2 (a := 0) (by omega) w3) (fun z hz => ?_)
  have hk : ∀ y, y ≠ 1 → z.1 y = r.1 y := fun y hy => by rw [hz.2.1 y hy, ho y hy]
  have hG : GC z (st q) (d0 (so q)) 0 := ⟨FRd_T hTP hz.2, hz.1, by omega, ⟨PL_k r1 (fun y y1 y2 => hk y (by omega)), by rw [hk 3 (by decide), r2]; rfl, by rw [hk 3 (by decide), r3]; rfl⟩, by rw [hz.2.2.1 7 (by decide) (by decide) (by decide) (by decide)]; exact w7, by rw [hz.2.2.1 8 (by decide) (by decide) (by decide) (by decide)]; exact w8⟩
  have h300 := hT.1
  exact ok_bindm (re_loop hT 301 5000 0 (d0 (so q)) 0 z hG (d0_I hw) (by show 0 ≤ 0; omega) (by omega) (by omega) (by omega)) (fun v hv => ok_some ⟨hv.1, FR3_tr f0 (FR3_tr (FR3_d hz.2) hv.2)⟩)
theorem da_arr {g : M2} {q : Sg} (hw : WF q) (hg : IC g q) : Ok (f_Da_array g) (fun p => Sum.elim (fun d => p.1 = cI (sL d) ∧ IC p.2 d ∧ WF d) (fun e => p.1 = -4 ∧ IC p.2 (qE q e) ∧ e.1 ≤ 3) (rd (st q) 301 (d0 (so q)) 0) ∧ KC g p.2) := by
  unfold f_Da_array
  refine ok_bindm (re_text hw hg) (fun z hz => ok_bd ?_)
  obtain ⟨z1, z2⟩ := hz
  obtain ⟨a1, a2, a3, a4, a5, a6, a7, a8, a9, a10⟩ := hg
  have k : ∀ y, y ≠ 1 → y ≠ 3 → y ≠ 4 → y ≠ 5 → (uI z 1 2 0).1 y = g.1 y := fun y y1 y3 y4 y5 => by rw [uI_o _ _ _ y1]; exact z2.1 y y1 y3 y4 y5
  rw [uI_k _ _ _ (show 7 ≠ 2 by decide)]
  cases hR : rd (st q) 301 (d0 (so q)) 0 with
  | inl d =>
    rw [hR] at z1
    obtain ⟨b1, b2, b3, b4⟩ := z1
    have e1 : ∀ y, y ≠ 1 → (uI z 1 2 0).1 y = z.1 y := fun y hy => uI_o _ _ _ hy
    have hP : PL (uI z 1 2 0) 3 (sn d) (sp d) (sb d) (sl d) (sd d) := PL_k b1.1 (fun y y1 y2 => e1 y (by omega))
    refine ok_pos b2 (ok_bindm (pl_copy (a := 7) hP (by omega)) (fun w hw2 => ok_bd (ok_some ?_)))
    obtain ⟨c1, c2, c3, c4, c5⟩ := hw2
    have kw : ∀ y, y ≠ 0 → (uI w 0 9 1).1 y = w.1 y := fun y hy => uI_o _ _ _ hy
    have k2 : ∀ y, y ≠ 0 → y ≠ 1 → y ≠ 3 → y ≠ 4 → y ≠ 5 → y ≠ 7 → y ≠ 8 → y ≠ 9 → (uI w 0 9 1).1 y = g.1 y := fun y y0 y1 y3 y4 y5 y7 y8 y9 => by rw [kw y y0, c4 y y7 y8 y9]; exact k y y1 y3 y4 y5
    have k1 : ∀ j, j ≠ 2 → (uI w 0 9 1).1 1 j = z.1 1 j := fun j hj => by rw [kw 1 (by decide), c4 1 (by decide) (by decide) (by decide), uI_k _ _ _ hj]
    refine ⟨⟨?_, ⟨PL_k c1 (fun y y1 y2 => kw y (by omega)), ?_, ?_, ?_, fun i hi => ?_, ?_, ?_, ?_, fun i hi => ?_, Or.inl (uI_s _ _ _ _)⟩, b4.1⟩, fun y hy => ⟨k2 y (by omega) (by omega) (by omega) (by omega) (by omega) (by omega) (by omega) (by omega), by rw [uI_2, c5, uI_2, z2.2]⟩⟩
    · rw [kw 7 (by decide), c3, e1 3 (by decide)]; exact b1.2.2
    · rw [kw 7 (by decide), c2, e1 3 (by decide)]; exact b1.2.1
    · rw [kw 7 (by decide), c3, e1 3 (by decide)]; exact b1.2.2
    · rw [kw 1 (by decide), c4 1 (by decide) (by decide) (by decide), uI_s, b4.2.1]; rfl
    · rw [b4.2.1] at hi; exact absurd (show i < 0 from hi) (by omega)
    · rw [k1 7 (by decide), b2, b4.2.2.1]; rfl
    · rw [k1 8 (by decide), b3, b4.2.2.2.1]
    · rw [k2 153 (by decide) (by decide) (by decide) (by decide) (by decide) (by decide) (by decide) (by decide), b4.2.2.2.2]; exact a8
    · rw [b4.2.2.2.2] at hi ⊢
      rw [k2 154 (by decide) (by decide) (by decide) (by decide) (by decide) (by decide) (by decide) (by decide)]; exact a9 i hi
  | inr e =>
    rw [hR] at z1
    obtain ⟨b1, b2, b3, b4⟩ := z1
    refine ok_neg (by rw [b1]; exact ne_no (b := 0) (by omega) (by omega) (by decide)) (ok_some ⟨⟨rfl, ⟨PL_k a1 (fun y y1 y2 => k y (by omega) (by omega) (by omega) (by omega)), ?_, ?_, ?_, fun i hi => absurd (show i < 0 from hi) (by omega), ?_, ?_, ?_, fun i hi => ?_, ?_⟩, b4⟩, fun y hy => ⟨k y (by omega) (by omega) (by omega) (by omega), by rw [uI_2, z2.2]⟩⟩)
    · rw [k 7 (by decide) (by decide) (by decide) (by decide)]; exact a2
    · rw [k 7 (by decide) (by decide) (by decide) (by decide)]; exact a3
    · rw [uI_s]; rfl
    · rw [uI_k _ _ _ (by decide)]; exact b1
    · rw [uI_k _ _ _ (by decide)]; exact b2
    · rw [k 153 (by decide) (by decide) (by decide) (by decide)]; exact a8
    · rw [k 154 (by decide) (by decide) (by decide) (by decide)]; exact a9 i hi
    · rw [k 0 (by decide) (by decide) (by decide) (by decide)]
      rcases a10 with a10 | ⟨a10, a11⟩
      · exact Or.inl a10
      · refine Or.inr ⟨a10, ?_⟩
        have h2 : ∀ y, (uI z 1 2 0).2 y = g.2 y := fun y => by rw [uI_2, z2.2]
        exact Now_mono (q := q) (WF_m hw) hw.1 a11 (k 6 (by decide) (by decide) (by decide) (by decide)) (k 10 (by decide) (by decide) (by decide) (by decide)) (k 11 (by decide) (by decide) (by decide) (by decide)) (h2 6) (fun y _ _ => h2 y)
