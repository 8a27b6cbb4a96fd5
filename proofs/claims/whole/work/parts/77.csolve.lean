/-! the class's solver: weights; all of it -/
def wte (ws : Nat → Nat) (ps : List Nat) (m : Nat) (pos : Nat → Nat) (br e : Nat) : Z4 := if br.testBit e then (0, 0, 0, 0) else wtz ws ps m (pos e)
theorem c12_sub {w : Nat} (h : w < 12) : (12 : Int32) - cI w = cI (12 - w) := by
  rw [show (12 : Int32) = cI 12 from rfl, cI_sub (by omega)]
theorem so_weigh {b : M2} {s n : Nat} {pos : Nat → Nat} {br : Nat} {lk : Option Nat} {ds : List Nat} {ws : Nat → Nat} {ps : List Nat} {m : Nat} (hP : PL b (s + 1) n pos br lk ds) (hm5 : m ≤ 5) (h11 : b.1 s 11 = cI m) (hw : ∀ i, i < m → b.1 (s + 4) i = cI (ws i) ∧ ws i < 12) (hsh : ∀ i, i < m → rN b (s + 37 + 1 + i) = q64 (shz ws ps m i)) : Ok (f_So_weigh s b) (fun r => ∃ E, CN (As s) b r E ∧ (∀ e, e < n → E (s + 43 + 1 + e) = q64 (wte ws ps m pos br e)) ∧ ∀ y, ¬ (s + 44 ≤ y ∧ y ≤ s + 48) → E y = rN b y) := by
  obtain ⟨h1, h2, h3, h4, h5, -, -, -, -, -⟩ := hP
  unfold f_So_weigh
  refine ok_bindm (Q := fun r => ∃ E, CN (As s) b r E ∧ (∀ e, e < n → E (s + 43 + 1 + e) = q64 (wte ws ps m pos br e)) ∧ ∀ y, ¬ (s + 44 ≤ y ∧ y ≤ s + 48) → E y = rN b y) ?_ (fun r hr => ok_some hr)
  refine ok_for n (by omega) (fun k z => ∃ E, CN (As s) b z E ∧ (∀ e, e < k → E (s + 43 + 1 + e) = q64 (wte ws ps m pos br e)) ∧ ∀ y, ¬ (s + 44 ≤ y ∧ y ≤ s + 48) → E y = rN b y) ⟨_, CN_rf _ b, fun e he => absurd he (by omega), fun _ _ => rfl⟩ ?_ ?_
  · rintro k z hk ⟨E, hE, hE1, hE2⟩
    show Ok (b_So_weigh_2 s (cI k) z) _
    unfold b_So_weigh_2
    rw [hE.1, h1]
    refine ok_neg (le_no hk (by omega)) (ok_pos (inb_cI (by omega) (by decide)) ?_)
    simp only [cI_nat (show k < 2 ^ 31 by omega)]
    refine ok_binde (nu_clear _ z) ?_
    have k3 := CN_sN hE (a := s + 43 + 1 + k) (by show _ ∧ _; omega) (0, 0, 0, 0)
    generalize hz3 : sN z (s + 43 + 1 + k) (0, 0, 0, 0) = z3 at k3
    rw [pl_works (show z3.1 (s + 1) 3 = cI br by rw [k3.1]; exact h4) h5 (by omega)]
    have fin : ∀ (w : M2) (v : Q6), CN (As s) b w (up (up E (s + 43 + 1 + k) (0, 0, 0, 0)) (s + 43 + 1 + k) v) → v = q64 (wte ws ps m pos br k) → ∃ E, CN (As s) b w E ∧ (∀ e, e < k + 1 → E (s + 43 + 1 + e) = q64 (wte ws ps m pos br e)) ∧ ∀ y, ¬ (s + 44 ≤ y ∧ y ≤ s + 48) → E y = rN b y := by
      intro w v hw hv
      refine ⟨_, hw, fun e he => ?_, fun y hy => ?_⟩
      · by_cases hek : e = k
        · rw [hek, up_s, hv]
        · rw [up_o _ _ (by omega), up_o _ _ (by omega)]; exact hE1 e (by omega)
      · rw [up_o _ _ (by omega), up_o _ _ (by omega)]; exact hE2 y hy
    by_cases hbit : br.testBit k = true
    · rw [if_pos hbit]
      refine ok_pos rfl (ok_some ⟨c_succ k, fin z3 (0, 0, 0, 0) (by rw [up_up]; exact k3) ?_⟩)
      unfold wte; rw [if_pos hbit]; rfl
    · rw [if_neg hbit]
      refine ok_neg (by decide) ?_
      refine ok_bindm (Q := fun r => CN (As s) b r (up (up E (s + 43 + 1 + k) (0, 0, 0, 0)) (s + 43 + 1 + k) (q64 (wtz ws ps m (pos k))))) ?_ (fun r hr => ok_some ⟨c_succ k, fin r _ hr (by unfold wte; rw [if_neg hbit])⟩)
      refine ok_for m (by omega) (fun i w => CN (As s) b w (up (up E (s + 43 + 1 + k) (0, 0, 0, 0)) (s + 43 + 1 + k) (q64 (zsum ((List.range i).map (fun i => qmul (shz ws ps m i) (rt ((12 - ws i) * pos k)))))))) (by
        have e0 : q64 (zsum ((List.range 0).map (fun i => qmul (shz ws ps m i) (rt ((12 - ws i) * pos k))))) = (0, 0, 0, 0) := rfl
        rw [e0, up_up]; exact k3) ?_ ?_
      · intro i w hi hw2
        show Ok (b_So_weigh_21 s (cI k) (s + 43 + 1 + k) (cI i) w) _
        unfold b_So_weigh_21
        rw [hw2.1, h11]
        refine ok_neg (le_no hi (by omega)) (ok_pos (inb_cI (by omega) (by decide)) (ok_pos (inb_cI (by omega) (by decide)) (ok_pos (inb_cI (by omega) (by decide)) ?_)))
        rw [cI_nat (by omega), cI_nat (by omega), (hw i hi).1, (h3 k hk).1, c12_sub (hw i hi).2, cI_mul]
        have hb : (12 - ws i) * pos k ≤ 132 := Nat.le_trans (Nat.mul_le_mul (show 12 - ws i ≤ 12 by omega) (show pos k ≤ 11 by have := (h3 k hk).2; omega)) (by decide)
        refine ok_binde (nu_addTurned (by omega) (by omega) w) (ok_some ⟨c_succ i, ?_⟩)
        have := CN_sN hw2 (a := s + 43 + 1 + k) (by show _ ∧ _; omega) (qadd (rN w (s + 43 + 1 + k)) (qmul (rN w (s + 37 + 1 + i)) (rt6 ((12 - ws i) * pos k))))
        rw [hw2.2.2.2, up_s, hw2.2.2.2, up_o _ _ (by omega), up_o _ _ (by omega), hE2 _ (by omega), hsh i hi, up_up] at this
        rw [hw2.2.2.2, up_s, hw2.2.2.2, up_o _ _ (by omega), up_o _ _ (by omega), hE2 _ (by omega), hsh i hi, List.range_succ, List.map_append, List.map_cons, List.map_nil, zsum_app, q64_add, q64_mul]
        exact this
      · intro w hw2
        show Ok (b_So_weigh_21 s (cI k) (s + 43 + 1 + k) (cI m) w) _
        unfold b_So_weigh_21
        rw [hw2.1, h11]
        exact ok_pos (le_yes (Nat.le_refl _) (by omega)) (ok_some hw2)
  · rintro z ⟨E, hE, hE1, hE2⟩
    show Ok (b_So_weigh_2 s (cI n) z) _
    unfold b_So_weigh_2
    rw [hE.1, h1]
    exact ok_pos (le_yes (Nat.le_refl _) (by omega)) (ok_some ⟨E, hE, hE1, hE2⟩)
/-- what the class has found -/
def CV (s : Nat) (r : M2) (ws : Nat → Nat) (ps : List Nat) (m n : Nat) (pos : Nat → Nat) (br : Nat) : Prop := r.2 s 16 = Int64.ofInt (lowz ws ps m) ∧ (∀ i, i < m → rN r (s + 37 + 1 + i) = q64 (shz ws ps m i)) ∧ ∀ e, e < n → rN r (s + 43 + 1 + e) = q64 (wte ws ps m pos br e)
def CS (s : Nat) (g r : M2) (n : Nat) (pos : Nat → Nat) (br : Nat) (lk : Option Nat) (ds : List Nat) : Prop := (∀ y, y ≠ s → y ≠ s + 4 → y ≠ s + 5 → r.1 y = g.1 y) ∧ (∀ j, j ≠ 11 → j ≠ 12 → j ≠ 13 → r.1 s j = g.1 s j) ∧ (∀ y, ¬ As s y → y ≠ s → r.2 y = g.2 y) ∧ r.1 s 11 = cI (wll lk ds).length ∧ (∀ i, i < (wll lk ds).length → r.1 (s + 4) i = cI (wsl lk ds i)) ∧ r.1 s 12 = cI (fl (Gz (wsl lk ds) (wkl pos br n)) (wll lk ds).length).length ∧ (∀ i, i < (wll lk ds).length → r.1 (s + 5) i = loI (wsl lk ds) (wkl pos br n) i) ∧ r.1 s 13 = (if lk.isSome && hdb (wsl lk ds) (wkl pos br n) (wll lk ds).length then 1 else 0) ∧ r.2 s 14 = Int64.ofInt (rX (wsl lk ds) (wkl pos br n) (wll lk ds).length) ∧ r.2 s 15 = Int64.ofInt (rY (wsl lk ds) (wkl pos br n) (wll lk ds).length) ∧ ((lk.isSome && hdb (wsl lk ds) (wkl pos br n) (wll lk ds).length) = true → CV s r (wsl lk ds) (wkl pos br n) (wll lk ds).length n pos br)
theorem PL_mono {g r : M2} {p n : Nat} {pos : Nat → Nat} {br : Nat} {lk : Option Nat} {ds : List Nat} (hP : PL g p n pos br lk ds) (h0 : r.1 p = g.1 p) (h1 : r.1 (p + 1) = g.1 (p + 1)) (h2 : r.1 (p + 2) = g.1 (p + 2)) : PL r p n pos br lk ds := by
  obtain ⟨a1, a2, a3, a4, a5, a6, a7, a8, a9, a10⟩ := hP
  exact ⟨by rw [h0]; exact a1, a2, fun e he => by rw [h1]; exact a3 e he, by rw [h0]; exact a4, a5, by rw [h0]; exact a6, a7, by rw [h0]; exact a8, a9, fun i hi => by rw [h2]; exact a10 i hi⟩
theorem so_solve {g : M2} {s n : Nat} {pos : Nat → Nat} {br : Nat} {lk : Option Nat} {ds : List Nat} (hP : PL g (s + 1) n pos br lk ds) : Ok (f_So_solve s g) (fun r => CS s g r n pos br lk ds) := by
  have hm5 : (wll lk ds).length ≤ 5 := wll_len hP.2.2.2.2.2.2.2.2.1
  have hw12 := wsl_lt hP.2.2.2.2.2.2.1 (fun i hi => (hP.2.2.2.2.2.2.2.2.2 i hi).2)
  have hn5 : (wkl pos br n).length ≤ 5 := Nat.le_trans (wkl_len pos br n) hP.2.1
  unfold f_So_solve
  refine ok_bindm (so_list hP) (fun q1 hq1 => ?_)
  obtain ⟨a2, a1, a3, a4, a5⟩ := hq1
  have hP1 : PL q1 (s + 1) n pos br lk ds := PL_mono hP (a1 _ (by omega) (by omega)) (a1 _ (by omega) (by omega)) (a1 _ (by omega) (by omega))
  refine ok_bindm (so_fill hP1 a4 a5) (fun q2 hq2 => ?_)
  obtain ⟨D, hD, hD1, hD2⟩ := hq2
  have e4 : q2.1 (s + 1) 4 = lkI lk := by rw [hD.1]; exact hP1.2.2.2.2.2.1
  rw [e4]
  have main : ∀ (x : Int32) (lkb : Bool), lkb = lk.isSome → x = (if lkb then 1 else 0) → Ok ((f_So_eliminate s (uI q2 s 13 x)).bind fun q5 => if q5.1 s 13 = 0 then some q5 else (f_So_substitute s q5).bind fun q7 => (f_So_weigh s q7).bind fun q8 => some q8) (fun r => CS s g r n pos br lk ds) := by
    intro x lkb hlkb hx
    have hI : ∀ y, y ≠ s → (uI q2 s 13 x).1 y = q1.1 y := fun y hy => by rw [uI_o _ _ _ hy, hD.1]
    refine ok_bindm (so_elim (ws := wsl lk ds) (ps := wkl pos br n) (g := uI q2 s 13 x) (s := s) (m := (wll lk ds).length) (lk := lkb) hn5 hm5 (by rw [uI_k _ _ _ (by decide), hD.1]; exact a4) (by rw [uI_s, hx]) (fun a c h1 h2 => by show rN q2 _ = _; rw [hD.2.2.2]; exact hD1 a c h1 h2) (fun hl a ha => by
      show rN q2 _ = _
      rw [hD.2.2.2]
      refine hD2 (fun e => ?_) a ha
      rw [hlkb, e] at hl; cases hl)) (fun q5 hq5 => ?_)
    obtain ⟨z1, z2, z3, z4, z5, z6, z7, z8, z9, z10, z11⟩ := hq5
    have f1 : ∀ y, y ≠ s → y ≠ s + 4 → y ≠ s + 5 → q5.1 y = g.1 y := fun y y1 y2 y3 => by rw [z1 y y1 y3, hI y y1]; exact a1 y y1 y2
    have f2 : ∀ j, j ≠ 11 → j ≠ 12 → j ≠ 13 → q5.1 s j = g.1 s j := fun j j1 j2 j3 => by rw [z2 j j2 j3, uI_k _ _ _ j3, hD.1]; exact a3 j j1
    have f3 : ∀ y, ¬ As s y → y ≠ s → q5.2 y = g.2 y := fun y y1 y2 => by rw [z6 y y1 y2, uI_2, hD.2.1 y y1, a2]
    have f4 : q5.1 s 11 = cI (wll lk ds).length := by rw [z2 11 (by decide) (by decide), uI_k _ _ _ (by decide), hD.1]; exact a4
    have f5 : ∀ i, i < (wll lk ds).length → q5.1 (s + 4) i = cI (wsl lk ds i) := fun i hi => by rw [z1 _ (by omega) (by omega), hI _ (by omega)]; exact a5 i hi
    rw [hlkb] at z5
    rw [z5]
    by_cases hh : (lk.isSome && hdb (wsl lk ds) (wkl pos br n) (wll lk ds).length) = true
    · rw [if_pos hh]
      refine ok_neg (by decide) ?_
      have hh2 := hh
      rw [Bool.and_eq_true] at hh2
      have hm0 : 0 < (wll lk ds).length := by
        unfold wll
        cases lk with
        | none => cases hh2.1
        | some k => simp
      have h0 := look_free ((hdb_iff _ _ _).mp hh2.2) hm0
      refine ok_bindm (so_subst (ws := wsl lk ds) (ps := wkl pos br n) hn5 hm5 hm0 h0 f4 z4 z8 z9 (fun a c h1 h2 => by have := z10 a c h1 h2; rw [Nat.min_eq_right (by omega)] at this; exact this) (fun a ha => by have := z11 (hlkb.trans hh2.1) a ha; rw [Nat.min_eq_right (by omega)] at this; exact this)) (fun q7 hq7 => ?_)
      obtain ⟨E, hE, hE1⟩ := hq7
      have hq7I : q7.1 = q5.1 := hE.1
      refine ok_bindm (so_weigh (ws := wsl lk ds) (ps := wkl pos br n) (m := (wll lk ds).length) (PL_mono hP (r := q7) (by rw [hq7I]; exact f1 _ (by omega) (by omega) (by omega)) (by rw [hq7I]; exact f1 _ (by omega) (by omega) (by omega)) (by rw [hq7I]; exact f1 _ (by omega) (by omega) (by omega))) hm5 (by rw [hq7I]; exact f4) (fun i hi => ⟨by rw [hq7I]; exact f5 i hi, hw12 i hi⟩) (fun i hi => by rw [hE.2.2.2]; exact hE1 i hi)) (fun q8 hq8 => ?_)
      obtain ⟨F, hF, hF1, hF2⟩ := hq8
      have hI8 : q8.1 = q5.1 := hF.1.trans hq7I
      have hJs : ∀ j, j ≠ 16 → q8.2 s j = q5.2 s j := fun j hj => by
        rw [hF.2.1 s (by show ¬ (_ ∧ _); omega), hE.2.1 s (by show ¬ (_ ∧ _); omega), uJ_k _ _ _ hj]
      refine ok_some ⟨fun y y1 y2 y3 => by rw [hI8]; exact f1 y y1 y2 y3, fun j j1 j2 j3 => by rw [hI8]; exact f2 j j1 j2 j3, fun y y1 y2 => by rw [hF.2.1 y y1, hE.2.1 y y1, uJ_o _ _ _ y2]; exact f3 y y1 y2, by rw [hI8]; exact f4, fun i hi => by rw [hI8]; exact f5 i hi, by rw [hI8]; exact z3, fun i hi => by rw [hI8]; exact z4 i hi, by rw [hI8, z5], by rw [hJs _ (by decide)]; exact z8, by rw [hJs _ (by decide)]; exact z9, fun _ => ⟨?_, fun i hi => ?_, fun e he => ?_⟩⟩
      · rw [hF.2.1 s (by show ¬ (_ ∧ _); omega), hE.2.1 s (by show ¬ (_ ∧ _); omega), uJ_s]
      · rw [hF.2.2.2, hF2 _ (by omega), hE.2.2.2]; exact hE1 i hi
      · rw [hF.2.2.2]; exact hF1 e he
    · rw [if_neg hh]
      exact ok_pos rfl (ok_some ⟨f1, f2, f3, f4, f5, z3, z4, by rw [z5], z8, z9, fun h => absurd h hh⟩)
  cases hlk : lk with
  | none =>
    refine ok_pos rfl (ok_bd ?_)
    have := main 0 false (by rw [hlk]; rfl) rfl
    rw [hlk] at this
    exact this
  | some k =>
    refine ok_neg (fun e => by have := (lkI_no (lk := some k) (fun k2 hk2 => hP.2.2.2.2.2.2.1 k2 (hlk.trans hk2))).mp e; cases this) (ok_bd ?_)
    have := main 1 true (by rw [hlk]; rfl) rfl
    rw [hlk] at this
    exact this
