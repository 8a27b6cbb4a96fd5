/-! the class's plans; its numbers as one function -/
def lkI : Option Nat → Int32
  | none => -1
  | some k => cI k
/-- a plan: elements, broken ones as bits, the look, deaf ones -/
def PL (g : M2) (p n : Nat) (pos : Nat → Nat) (br : Nat) (lk : Option Nat) (ds : List Nat) : Prop := g.1 p 2 = cI n ∧ n ≤ 5 ∧ (∀ e, e < n → g.1 (p + 1) e = cI (pos e) ∧ pos e < 12) ∧ g.1 p 3 = cI br ∧ br < 32 ∧ g.1 p 4 = lkI lk ∧ (∀ k, lk = some k → k < 12) ∧ g.1 p 5 = cI ds.length ∧ ds.length ≤ 4 ∧ ∀ i, i < ds.length → g.1 (p + 2) i = cI (ds.getD i 0) ∧ ds.getD i 0 < 12
/-- positions of those that work -/
def wkl (pos : Nat → Nat) (br e : Nat) : List Nat := ((List.range e).filter (fun i => !br.testBit i)).map pos
theorem wkl_s (pos : Nat → Nat) (br e : Nat) : wkl pos br (e + 1) = if br.testBit e then wkl pos br e else wkl pos br e ++ [pos e] := by
  unfold wkl
  rw [List.range_succ, List.filter_append, List.map_append]
  by_cases h : br.testBit e = true
  · rw [if_pos h]; simp [h]
  · rw [if_neg h]; simp [h]
theorem wkl_len (pos : Nat → Nat) (br e : Nat) : (wkl pos br e).length ≤ e := by
  unfold wkl
  rw [List.length_map]
  exact Nat.le_trans (List.length_filter_le _ _) (by rw [List.length_range]; exact Nat.le_refl _)
theorem wkl_lt (pos : Nat → Nat) (br : Nat) {e : Nat} (h : ∀ i, i < e → pos i < 12) : ∀ p ∈ wkl pos br e, p < 12 := by
  intro p hp
  unfold wkl at hp
  obtain ⟨i, hi, rfl⟩ := List.mem_map.mp hp
  exact h i (List.mem_range.mp (List.mem_filter.mp hi).1)
/-- wishes in their order -/
def wll (lk : Option Nat) (ds : List Nat) : List Nat := lk.toList ++ ds
def wsl (lk : Option Nat) (ds : List Nat) (i : Nat) : Nat := (wll lk ds).getD i 0
theorem wll_len {lk : Option Nat} {ds : List Nat} (h : ds.length ≤ 4) : (wll lk ds).length ≤ 5 := by
  unfold wll
  cases lk <;> simp <;> omega
theorem wsl_lt {lk : Option Nat} {ds : List Nat} (h1 : ∀ k, lk = some k → k < 12) (h2 : ∀ i, i < ds.length → ds.getD i 0 < 12) : ∀ i, i < (wll lk ds).length → wsl lk ds i < 12 := by
  intro i hi
  unfold wsl wll at *
  cases lk with
  | none => exact h2 i (by simpa using hi)
  | some k =>
    cases i with
    | zero => exact h1 k rfl
    | succ i => exact h2 i (by simpa using hi)
theorem pl_works {g : M2} {p br e : Nat} (h : g.1 p 3 = cI br) (hb : br < 32) (he : e < 5) : f_Pl_works p (cI e) g = if br.testBit e then 0 else 1 := by
  unfold f_Pl_works
  rw [h, tb5 br hb e he]
  by_cases hb : br.testBit e = true
  · rw [if_pos hb, if_pos hb, if_neg (by decide)]
  · rw [if_neg hb, if_neg hb, if_pos rfl]
/-- only numbers of the cells A have changed -/
def CN (A : Nat → Prop) (g g2 : M2) (D : Nat → Q6) : Prop := g2.1 = g.1 ∧ (∀ y, ¬ A y → g2.2 y = g.2 y) ∧ (∀ y k, 4 ≤ k → g2.2 y k = g.2 y k) ∧ ∀ y, rN g2 y = D y
theorem CN_rf (A : Nat → Prop) (g : M2) : CN A g g (rN g) := ⟨rfl, fun _ _ => rfl, fun _ _ _ => rfl, fun _ => rfl⟩
theorem CN_sN {A : Nat → Prop} {g g2 : M2} {D : Nat → Q6} (h : CN A g g2 D) {a : Nat} (ha : A a) (v : Q6) : CN A g (sN g2 a v) (up D a v) := by
  refine ⟨h.1, fun y hy => ?_, fun y k hk => ?_, fun y => ?_⟩
  · have : y ≠ a := fun e => hy (e ▸ ha)
    rw [sN_o _ _ this]; exact h.2.1 y hy
  · by_cases hy : y = a
    · subst hy
      show (if y = y then (if k = 0 then v.1 else if k = 1 then v.2.1 else if k = 2 then v.2.2.1 else if k = 3 then v.2.2.2 else g2.2 y k) else g2.2 y k) = _
      rw [if_pos rfl, if_neg (by omega), if_neg (by omega), if_neg (by omega), if_neg (by omega)]; exact h.2.2.1 y k hk
    · rw [sN_o _ _ hy]; exact h.2.2.1 y k hk
  · by_cases hy : y = a
    · subst hy; rw [rN_sN, up_s]
    · rw [rN_sNo _ _ hy, up_o _ _ hy]; exact h.2.2.2 y
theorem CN_w {A B : Nat → Prop} {g g2 : M2} {D : Nat → Q6} (h : CN A g g2 D) (hAB : ∀ y, A y → B y) : CN B g g2 D := ⟨h.1, fun y hy => h.2.1 y (fun ha => hy (hAB y ha)), h.2.2⟩
theorem CN_uJ {A : Nat → Prop} {g g2 : M2} {D : Nat → Q6} (h : CN A g g2 D) (a : Nat) {k : Nat} (hk : 4 ≤ k) (x : Int64) : CN A (uJ g a k x) (uJ g2 a k x) D := by
  have hr : ∀ (z : M2) (y : Nat), rN (uJ z a k x) y = rN z y := fun z y => by
    unfold rN
    by_cases hy : y = a
    · subst hy
      rw [uJ_k _ _ _ (by omega), uJ_k _ _ _ (by omega), uJ_k _ _ _ (by omega), uJ_k _ _ _ (by omega)]
    · rw [uJ_o _ _ _ hy]
  refine ⟨h.1, fun y hy => ?_, fun y j hj => ?_, fun y => by rw [hr]; exact h.2.2.2 y⟩
  · by_cases hya : y = a
    · subst hya
      funext j
      by_cases hj : j = k
      · subst hj; rw [uJ_s, uJ_s]
      · rw [uJ_k _ _ _ hj, uJ_k _ _ _ hj, h.2.1 y hy]
    · rw [uJ_o _ _ _ hya, uJ_o _ _ _ hya]; exact h.2.1 y hy
  · by_cases hya : y = a
    · subst hya
      by_cases hjk : j = k
      · subst hjk; rw [uJ_s, uJ_s]
      · rw [uJ_k _ _ _ hjk, uJ_k _ _ _ hjk]; exact h.2.2.1 y j hj
    · rw [uJ_o _ _ _ hya, uJ_o _ _ _ hya]; exact h.2.2.1 y j hj
theorem CN_uI {A : Nat → Prop} {g g2 : M2} {D : Nat → Q6} (h : CN A g g2 D) (a k : Nat) (x : Int32) : CN A (uI g a k x) (uI g2 a k x) D := by
  refine ⟨?_, h.2.1, h.2.2.1, fun y => h.2.2.2 y⟩
  show mm_uI g2.1 a k x = mm_uI g.1 a k x
  rw [h.1]
theorem turn12 : ∀ a : Nat, a < 12 → ∀ b : Nat, b < 12 → ((cI a - cI b) + (12 : Int32)) - ((cI a - cI b) + (12 : Int32)) / (12 : Int32) * (12 : Int32) = cI ((a + 12 - b) % 12) := by decide +kernel
theorem turn_rt (a b p : Nat) (hb : b < 12) : rt6 ((a + 12 - b) % 12 * p) = rt6 (a * p + 11 * (b * p)) := by
  refine rt6_eq ?_
  rw [Nat.mul_mod, Nat.mod_mod, ← Nat.mul_mod]
  obtain ⟨c, hc⟩ : ∃ c, a + 12 - b = c := ⟨_, rfl⟩
  have e : (a + 12 - b) * p + b * p = a * p + 12 * p := by rw [← Nat.add_mul, ← Nat.add_mul]; congr 1; omega
  omega
/-- what two directions make with one another -/
theorem pl_meet {A : Nat → Prop} {g g2 : M2} {D : Nat → Q6} (h : CN A g g2 D) {p n : Nat} {pos : Nat → Nat} {br : Nat} {lk : Option Nat} {ds : List Nat} (hP : PL g p n pos br lk ds) {a b t : Nat} (ha : a < 12) (hb : b < 12) (hA : A t) : Ok (f_Pl_meet p (cI a) (cI b) t g2) (fun r => CN A g r (up D t (q64 (zsum ((wkl pos br n).map (fun p => rt (a * p + 11 * (b * p)))))))) := by
  obtain ⟨h1, h2, h3, h4, h5, -, -, -, -, -⟩ := hP
  unfold f_Pl_meet
  refine ok_binde (nu_clear t g2) ?_
  rw [turn12 a ha b hb]
  refine ok_bindm (Q := fun r => CN A g r (up D t (q64 (zsum ((wkl pos br n).map (fun p => rt (a * p + 11 * (b * p)))))))) ?_ (fun r hr => ok_some hr)
  refine ok_for n (by omega) (fun e s => CN A g s (up D t (q64 (zsum ((wkl pos br e).map (fun p => rt (a * p + 11 * (b * p)))))))) (CN_sN h hA _) ?_ ?_
  · intro e s he hs
    show Ok (b_Pl_meet_12 p t (cI ((a + 12 - b) % 12)) (cI e) s) _
    unfold b_Pl_meet_12
    have hs1 : ∀ y, s.1 y = g.1 y := fun y => by rw [hs.1]
    rw [hs1 p, h1]
    refine ok_neg (le_no he (by omega)) ?_
    rw [pl_works (show s.1 p 3 = cI br by rw [hs1]; exact h4) h5 (by omega), wkl_s]
    by_cases hbit : br.testBit e = true
    · rw [if_pos hbit, if_pos hbit]
      exact ok_pos rfl (ok_some ⟨c_succ e, hs⟩)
    · rw [if_neg hbit, if_neg hbit]
      refine ok_neg (by decide) (ok_pos (inb_cI (by omega) (by decide)) ?_)
      rw [cI_nat (by omega), hs1, (h3 e he).1, cI_mul]
      have hpe := (h3 e he).2
      have hb2 : (a + 12 - b) % 12 * pos e ≤ 121 := prod12 (Nat.mod_lt _ (by decide)) hpe
      refine ok_binde (nu_addRoot (by omega) t s) (ok_some ⟨c_succ e, ?_⟩)
      have := CN_sN hs hA (qadd (rN s t) (rt6 ((a + 12 - b) % 12 * pos e)))
      rw [hs.2.2.2 t, up_s, up_up, turn_rt a b _ hb] at this
      rw [hs.2.2.2 t, up_s, turn_rt a b _ hb, List.map_append, List.map_cons, List.map_nil, zsum_app, q64_add]
      exact this
  · intro s hs
    show Ok (b_Pl_meet_12 p t (cI ((a + 12 - b) % 12)) (cI n) s) _
    unfold b_Pl_meet_12
    rw [hs.1, h1]
    exact ok_pos (le_yes (Nat.le_refl _) (by omega)) (ok_some hs)
/-- the gain of a direction by weights at the row w -/
theorem pl_hearBy {A : Nat → Prop} {g g2 : M2} {D : Nat → Q6} (h : CN A g g2 D) {p n : Nat} {pos : Nat → Nat} {br : Nat} {lk : Option Nat} {ds : List Nat} (hP : PL g p n pos br lk ds) {w k t : Nat} (hk : k < 12) (hA : A t) (ht : ∀ e, e < 5 → w + 1 + e ≠ t) (W : Nat → Z4) (hW : ∀ e, e < n → D (w + 1 + e) = q64 (W e)) : Ok (f_Pl_hearBy p w (cI k) t g2) (fun r => CN A g r (up D t (q64 (zsum (((List.range n).filter (fun i => !br.testBit i)).map (fun e => qmul (W e) (rt (k * pos e)))))))) := by
  obtain ⟨h1, h2, h3, h4, h5, -, -, -, -, -⟩ := hP
  unfold f_Pl_hearBy
  refine ok_binde (nu_clear t g2) ?_
  refine ok_bindm (Q := fun r => CN A g r (up D t (q64 (zsum (((List.range n).filter (fun i => !br.testBit i)).map (fun e => qmul (W e) (rt (k * pos e)))))))) ?_ (fun r hr => ok_some hr)
  refine ok_for n (by omega) (fun e s => CN A g s (up D t (q64 (zsum (((List.range e).filter (fun i => !br.testBit i)).map (fun e => qmul (W e) (rt (k * pos e)))))))) (CN_sN h hA _) ?_ ?_
  · intro e s he hs
    show Ok (b_Pl_hearBy_4 p w (cI k) t (cI e) s) _
    unfold b_Pl_hearBy_4
    have hs1 : ∀ y, s.1 y = g.1 y := fun y => by rw [hs.1]
    rw [hs1 p, h1]
    refine ok_neg (le_no he (by omega)) (ok_neg (le_no (a := 5) (by omega) (by decide)) ?_)
    rw [pl_works (show s.1 p 3 = cI br by rw [hs1]; exact h4) h5 (by omega), List.range_succ, List.filter_append, List.map_append]
    by_cases hbit : br.testBit e = true
    · rw [if_pos hbit]
      refine ok_pos rfl (ok_some ⟨c_succ e, ?_⟩)
      simp only [List.filter_cons, hbit, Bool.not_true, Bool.false_eq_true, if_false, List.filter_nil, List.map_nil, List.append_nil]
      exact hs
    · rw [if_neg hbit]
      refine ok_neg (by decide) (ok_pos (inb_cI (by omega) (by decide)) (ok_pos (inb_cI (by omega) (by decide)) ?_))
      rw [cI_nat (by omega), hs1, (h3 e he).1, cI_mul]
      have hb2 := prod12 hk (h3 e he).2
      refine ok_binde (nu_addTurned (by omega) (ht e (by omega)) s) (ok_some ⟨c_succ e, ?_⟩)
      have := CN_sN hs hA (qadd (rN s t) (qmul (rN s (w + 1 + e)) (rt6 (k * pos e))))
      rw [hs.2.2.2 t, up_s, up_up, hs.2.2.2 (w + 1 + e), up_o _ _ (ht e (by omega)), hW e he] at this
      have hbf : br.testBit e = false := Bool.eq_false_iff.mpr hbit
      simp only [List.filter_cons, hbf, Bool.not_false, if_true, List.filter_nil, List.map_cons, List.map_nil]
      rw [hs.2.2.2 t, up_s, hs.2.2.2 (w + 1 + e), up_o _ _ (ht e (by omega)), hW e he, zsum_app, q64_add, q64_mul]
      exact this
  · intro s hs
    show Ok (b_Pl_hearBy_4 p w (cI k) t (cI n) s) _
    unfold b_Pl_hearBy_4
    rw [hs.1, h1]
    exact ok_pos (le_yes (Nat.le_refl _) (by omega)) (ok_some hs)
