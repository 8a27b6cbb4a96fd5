/-! the least set: frail, fewest -/
def pc (s : Nat) : Nat := cnf (fun j => s.testBit j) 12
theorem pc_k : ∀ a : Nat, a < 64 → ∀ b : Nat, b < 64 → f_In_bitCount (cI (64 * a + b)) z2 = cI (pc (64 * a + b)) := by decide +kernel
theorem pc_e {s : Nat} (h : s < 4096) (g : M2) : f_In_bitCount (cI s) g = cI (pc s) := by
  have := pc_k (s / 64) (by omega) (s % 64) (by omega)
  rw [show 64 * (s / 64) + s % 64 = s by omega] at this
  exact this
theorem pc_le (s : Nat) : pc s ≤ 12 := by
  have := cf_le (f := fun j => s.testBit j) (g := fun _ => true) (fun _ _ => rfl) 12
  rw [cf_t] at this
  exact this
theorem pc_5 : ∀ s : Nat, s < 32 → pc s ≤ 5 := by decide +kernel
/-- the least by count, then by number -/
def LM (V : Nat → Prop) (N : Nat) (o : Option Nat) : Prop := match o with
  | none => ∀ t, t < N → ¬ V t
  | some s => s < N ∧ V s ∧ ∀ t, t < N → V t → pc s < pc t ∨ pc s = pc t ∧ s ≤ t
theorem LM_uq {V : Nat → Prop} {N : Nat} {o p : Option Nat} (h : LM V N o) (k : LM V N p) : o = p := by
  cases o with
  | none =>
    cases p with
    | none => rfl
    | some t => exact absurd k.2.1 (h t k.1)
  | some s =>
    cases p with
    | none => exact absurd h.2.1 (k s h.1)
    | some t =>
      have h1 := h.2.2 t k.1 k.2.1
      have h2 := k.2.2 s h.1 h.2.1
      have : s = t := by omega
      rw [this]
theorem LM_ex (V : Nat → Prop) (N : Nat) : ∃ o, LM V N o := by
  induction N with
  | zero => exact ⟨none, fun t ht => absurd ht (by omega)⟩
  | succ N ih =>
    obtain ⟨o, ho⟩ := ih
    by_cases hV : V N
    · cases o with
      | none =>
        refine ⟨some N, Nat.lt_succ_self N, hV, fun t ht hVt => ?_⟩
        by_cases htN : t = N
        · subst htN; exact Or.inr ⟨rfl, Nat.le_refl _⟩
        · exact absurd hVt (ho t (by omega))
      | some s =>
        by_cases hlt : pc N < pc s
        · refine ⟨some N, Nat.lt_succ_self N, hV, fun t ht hVt => ?_⟩
          by_cases htN : t = N
          · subst htN; exact Or.inr ⟨rfl, Nat.le_refl _⟩
          · have := ho.2.2 t (by omega) hVt; omega
        · refine ⟨some s, by have := ho.1; omega, ho.2.1, fun t ht hVt => ?_⟩
          by_cases htN : t = N
          · subst htN; have := ho.1; omega
          · exact ho.2.2 t (by omega) hVt
    · cases o with
      | none =>
        refine ⟨none, fun t ht hVt => ?_⟩
        by_cases htN : t = N
        · subst htN; exact hV hVt
        · exact ho t (by omega) hVt
      | some s =>
        refine ⟨some s, by have := ho.1; omega, ho.2.1, fun t ht hVt => ?_⟩
        by_cases htN : t = N
        · subst htN; exact absurd hVt hV
        · exact ho.2.2 t (by omega) hVt
theorem LM_s {V : Nat → Prop} {N : Nat} {o : Option Nat} (h : LM V N o) : (¬ V N → LM V (N + 1) o) ∧ (V N → o = none → LM V (N + 1) (some N)) ∧ (V N → ∀ s, o = some s → pc N < pc s → LM V (N + 1) (some N)) ∧ (∀ s, o = some s → ¬ pc N < pc s → LM V (N + 1) (some s)) := by
  refine ⟨fun hV => ?_, fun hV e => ?_, fun hV s e hlt => ?_, fun s e hlt => ?_⟩
  · cases o with
    | none =>
      intro t ht hVt
      by_cases htN : t = N
      · subst htN; exact hV hVt
      · exact h t (by omega) hVt
    | some s =>
      refine ⟨by have := h.1; omega, h.2.1, fun t ht hVt => ?_⟩
      by_cases htN : t = N
      · subst htN; exact absurd hVt hV
      · exact h.2.2 t (by omega) hVt
  · subst e
    refine ⟨Nat.lt_succ_self N, hV, fun t ht hVt => ?_⟩
    by_cases htN : t = N
    · subst htN; exact Or.inr ⟨rfl, Nat.le_refl _⟩
    · exact absurd hVt (h t (by omega))
  · subst e
    refine ⟨Nat.lt_succ_self N, hV, fun t ht hVt => ?_⟩
    by_cases htN : t = N
    · subst htN; exact Or.inr ⟨rfl, Nat.le_refl _⟩
    · have := h.2.2 t (by omega) hVt; omega
  · subst e
    refine ⟨by have := h.1; omega, h.2.1, fun t ht hVt => ?_⟩
    by_cases htN : t = N
    · subst htN; have := h.1; omega
    · exact h.2.2 t (by omega) hVt
/-- sets of those that work -/
abbrev wbt (n b : Nat) : Nat := (2 ^ n - 1) &&& (31 ^^^ b)
theorem sub_k : ∀ s : Nat, s < 32 → ∀ w : Nat, w < 32 → (cI s &&& (cI w ^^^ (-1 : Int32)) = 0 ↔ s &&& (31 ^^^ w) = 0) := by decide +kernel
theorem wb_n : ∀ n : Nat, n < 6 → ∀ b : Nat, b < 2 ^ n → ∀ s : Nat, s < 32 → (s &&& (31 ^^^ wbt n b) = 0 ↔ s < 2 ^ n ∧ s &&& b = 0) := by decide +kernel
theorem nt5 : ∀ s : Nat, s < 32 → (31 : Int32) &&& (cI s ^^^ (-1 : Int32)) = cI (31 ^^^ s) ∧ 31 ^^^ s < 32 := by decide +kernel
theorem or_nt5 : ∀ s : Nat, s < 32 → ∀ b : Nat, b < 32 → s &&& b = 0 → b ||| (31 ^^^ s) = 31 ^^^ s := by decide +kernel
theorem or_lt5 : ∀ s : Nat, s < 32 → ∀ b : Nat, b < 32 → b ||| s < 32 := by decide +kernel
theorem and_k : ∀ n : Nat, n < 6 → ∀ s : Nat, s < 2 ^ n → ∀ b : Nat, b < 2 ^ n → (s &&& b = 0 ↔ ∀ e : Nat, e < n → ¬ (b.testBit e = true ∧ s.testBit e = true)) := by decide +kernel
/-- broken ones of a try -/
def kbr (q : Sg) (kept : Bool) (s : Nat) : Nat := if kept then 31 ^^^ s else sb q ||| s
/-- a set that does -/
def VS (q : Sg) (kept : Bool) (s : Nat) : Prop := s < 2 ^ sn q ∧ s &&& sb q = 0 ∧ hdq (sn q) (sp q) (kbr q kept s) (sl q) (sd q) = kept
abbrev kI (kept : Bool) : Int32 := if kept then 1 else 0
theorem kI_e (b kept : Bool) : (if b then (1 : Int32) else 0) = kI kept ↔ b = kept := by
  cases b <;> cases kept <;> decide
theorem da_least {g : M2} {q : Sg} (hw : WF q) (hg : IC g q) (kept : Bool) {o : Option Nat} (ho : LM (VS q kept) 32 o) : Ok (f_Da_leastSet (kI kept) g) (fun p => p.1 = lkI o ∧ FT g p.2) := by
  have hn := hw.1
  have hb := b32 hw
  have hb2 := hw.2.2.2.1
  have ew : f_Pl_workingBits 7 g = cI (wbt (sn q) (sb q)) := by
    unfold f_Pl_workingBits
    rw [hg.1.1, hg.1.2.2.2.1]
    exact (wkb (sn q) (by omega) (sb q) hb).1
  have hwb : wbt (sn q) (sb q) < 32 := (wkb (sn q) (by omega) (sb q) hb).2.2
  unfold f_Da_leastSet
  rw [ew]
  refine ok_bindm (Q := fun u => Sum.elim (fun z => o = none ∧ FT g z) (fun p => p.1 = lkI o ∧ FT g p.2) u) ?_ (fun u hu => ?_)
  · refine ok_for 6 (by decide) (fun j z => FT g z ∧ ∀ t, t < 32 → VS q kept t → j ≤ pc t) ⟨FT_rf g, fun _ _ _ => Nat.zero_le _⟩ ?_ ?_
    · rintro j z hj ⟨z1, z2⟩
      show Ok (b_Da_leastSet_7 (kI kept) (cI (wbt (sn q) (sb q))) (cI j) z) _
      unfold b_Da_leastSet_7
      refine ok_neg (lt_no (b := j) (a := 5) (by omega) (by decide)) ?_
      refine ok_bindm (Q := fun u => Sum.elim (fun w => FT g w ∧ ∀ t, t < 32 → VS q kept t → pc t ≠ j) (fun p => p.1 = lkI o ∧ FT g p.2) u) ?_ (fun u hu => ?_)
      · refine ok_for 32 (by decide) (fun s w => FT g w ∧ ∀ t, t < s → VS q kept t → pc t ≠ j) ⟨z1, fun t ht => absurd ht (by omega)⟩ ?_ ?_
        · rintro s w hs ⟨w1, w2⟩
          show Ok (b_Da_leastSet_12 (kI kept) (cI (wbt (sn q) (sb q))) (cI j) (cI s) w) _
          unfold b_Da_leastSet_12
          have hI := (FT_I hw hg w1).1
          have hps := pc_5 s hs
          have skip : ¬ (VS q kept s ∧ pc s = j) → ∀ t, t < s + 1 → VS q kept t → pc t ≠ j := fun hn t ht hV e => by
            by_cases hts : t = s
            · subst hts; exact hn ⟨hV, e⟩
            · exact w2 t (by omega) hV e
          refine ok_neg (lt_no (b := s) (a := 31) (by omega) (by decide)) ?_
          rw [pc_e (by omega) w]
          refine ok_if (fun c1 => ?_) (fun c1 => ok_some ⟨c_succ s, w1, skip (fun e => c1 (by rw [e.2]))⟩)
          rw [cI_inj (by omega) (by omega)] at c1
          refine ok_if (fun c2 => ?_) (fun c2 => ok_some ⟨c_succ s, w1, skip (fun e => c2 ?_)⟩)
          · rw [sub_k s hs _ hwb, wb_n (sn q) (by omega) (sb q) hb2 s hs] at c2
            have done : ∀ (x : Int32) (b : Nat), x = cI b → b < 32 → b = kbr q kept s → Ok ((f_Da_holdsBroken x w).bind fun q6 => if q6.1 = kI kept then some (Sum.inr (Sum.inr (cI s, q6.2))) else some (Sum.inl (cI s + (1 : Int32), q6.2))) (fun r => Sum.elim (fun s2 => s2.1 = cI (s + 1) ∧ FT g s2.2 ∧ ∀ t, t < s + 1 → VS q kept t → pc t ≠ j) (fun u => Sum.elim (fun w => FT g w ∧ ∀ t, t < 32 → VS q kept t → pc t ≠ j) (fun p => p.1 = lkI o ∧ FT g p.2) u) r) := by
              intro x b hx hb3 hbk
              subst hx
              refine ok_bindm (da_hB hI hb3) (fun p hp => ?_)
              rw [hp.1]
              refine ok_if (fun c3 => ok_some ⟨?_, FT_tr w1 hp.2.2⟩) (fun c3 => ok_some ⟨c_succ s, FT_tr w1 hp.2.2, skip (fun e => c3 ?_)⟩)
              · rw [kI_e] at c3
                have hV : VS q kept s := ⟨c2.1, c2.2, by rw [← hbk]; exact c3⟩
                have : o = some s := LM_uq ho (show LM (VS q kept) 32 (some s) from ⟨hs, hV, fun t ht hVt => by
                  have h1 := z2 t ht hVt
                  by_cases hpt : pc t = j
                  · have h2 : ¬ t < s := fun hts => w2 t hts hVt hpt
                    omega
                  · omega⟩)
                rw [this]; rfl
              · rw [kI_e, hbk]; exact e.1.2.2
            cases kept with
            | false =>
              refine ok_pos rfl ?_
              rw [hI.1.2.2.2.1, cI_or]
              exact done _ _ rfl (or_lt5 s hs _ hb) rfl
            | true =>
              refine ok_neg (by decide) ?_
              exact done _ _ (nt5 s hs).1 (nt5 s hs).2 rfl
          · rw [sub_k s hs _ hwb, wb_n (sn q) (by omega) (sb q) hb2 s hs]
            exact ⟨e.1.1, e.1.2.1⟩
        · rintro w ⟨w1, w2⟩
          show Ok (b_Da_leastSet_12 (kI kept) (cI (wbt (sn q) (sb q))) (cI j) (cI 32) w) _
          unfold b_Da_leastSet_12
          exact ok_pos (lt_yes (a := 31) (b := 32) (by decide) (by decide)) (ok_some ⟨w1, w2⟩)
      · cases u with
        | inl w => exact ok_some ⟨c_succ j, hu.1, fun t ht hV => by have := z2 t ht hV; have := hu.2 t ht hV; omega⟩
        | inr p => exact ok_some hu
    · rintro z ⟨z1, z2⟩
      show Ok (b_Da_leastSet_7 (kI kept) (cI (wbt (sn q) (sb q))) (cI 6) z) _
      unfold b_Da_leastSet_7
      refine ok_pos (lt_yes (a := 5) (b := 6) (by decide) (by decide)) (ok_some ⟨?_, z1⟩)
      refine LM_uq ho (show LM (VS q kept) 32 none from fun t ht hV => ?_)
      have := z2 t ht hV
      have := pc_5 t ht
      omega
  · cases u with
    | inl z => exact ok_some ⟨by rw [hu.1]; rfl, hu.2⟩
    | inr p => exact ok_some hu
theorem VS_32 {q : Sg} (hw : WF q) {kept : Bool} {o : Option Nat} (h : LM (VS q kept) (2 ^ sn q) o) : LM (VS q kept) 32 o := by
  have hn := hw.1
  have hp : 2 ^ sn q ≤ 2 ^ 5 := Nat.pow_le_pow_right (by decide) hn
  cases o with
  | none => exact fun t ht hV => h t hV.1 hV
  | some s => exact ⟨by have := h.1; omega, h.2.1, fun t ht hV => h.2.2 t hV.1 hV⟩
theorem mo_isF {g : M2} {q : Sg} (hw : WF q) (h : WD g q) (v1 : Int32) {s : Nat} (hs : s < 2 ^ sn q) (b0 : Bool) : lp (fun st => b_Mo_frailSet_26 v1 (cI s) st.1 st.2 g) 5000 ((if b0 then (1 : Int32) else 0), (0 : Int32)) = some (if b0 = true ∧ s &&& sb q = 0 then 1 else 0) := by
  have hn := hw.1
  have hb2 := hw.2.2.2.1
  have hp : 2 ^ sn q ≤ 2 ^ 5 := Nat.pow_le_pow_right (by decide) hn
  have key := and_k (sn q) (by omega) s hs (sb q) hb2
  refine ok_to ?_
  refine ok_lp (fun j st => ∃ b : Bool, st = ((if b then (1 : Int32) else 0), cI j) ∧ (b = true ↔ b0 = true ∧ ∀ e, e < j → ¬ ((sb q).testBit e = true ∧ s.testBit e = true))) (sn q) 5000 0 _ (by omega) (by omega) ⟨b0, rfl, ⟨fun e => ⟨e, fun k hk => absurd hk (by omega)⟩, fun e => e.1⟩⟩ ?_
  rintro j st hj ⟨b, rfl, hI⟩
  show Ok (b_Mo_frailSet_26 v1 (cI s) (if b then (1 : Int32) else 0) (cI j) g) _
  unfold b_Mo_frailSet_26
  rw [h.2.1]
  by_cases hj2 : j = sn q
  · refine ok_pos (le_yes (by omega) (by omega)) (ok_some ?_)
    show (if b then (1 : Int32) else 0) = _
    have : b = true ↔ (b0 = true ∧ s &&& sb q = 0) := by rw [hI, key, hj2]
    by_cases hbt : b = true
    · rw [if_pos hbt, if_pos (this.mp hbt)]
    · rw [if_neg hbt, if_neg (fun e => hbt (this.mpr e))]
  · have hj' : j < sn q := by omega
    refine ok_neg (le_no hj' (by omega)) (ok_grd rfl (fun c => ok_some ⟨hj', false, by rw [c_succ]; rfl, ?_⟩) (fun c => ok_binde (mo_isBroken h hj' hn) ?_))
    · refine ⟨fun e => (by cases e), fun e => absurd (hI.mpr ⟨e.1, fun k hk => e.2 k (by omega)⟩) c⟩
    · have ext : ∀ P : Prop, ((P → ¬ ((sb q).testBit j = true ∧ s.testBit j = true))) → (P ↔ b0 = true ∧ ∀ e, e < j → ¬ ((sb q).testBit e = true ∧ s.testBit e = true)) → P → (b0 = true ∧ ∀ e, e < j + 1 → ¬ ((sb q).testBit e = true ∧ s.testBit e = true)) := by
        intro P h1 h2 hP
        refine ⟨(h2.mp hP).1, fun e he => ?_⟩
        by_cases hej : e = j
        · subst hej; exact h1 hP
        · exact (h2.mp hP).2 e (by omega)
      by_cases hbit : (sb q).testBit j = true
      · rw [if_pos hbit]
        refine ok_neg (by decide) ?_
        rw [tb5 s (by omega) j (by omega)]
        by_cases hsb : s.testBit j = true
        · rw [if_pos hsb]
          refine ok_pos rfl (ok_some ⟨hj', false, by rw [c_succ]; rfl, ⟨fun e => (by cases e), fun e => absurd ⟨hbit, hsb⟩ (e.2 j (by omega))⟩⟩)
        · rw [if_neg hsb]
          refine ok_neg (by decide) (ok_some ⟨hj', true, by rw [c_succ]; rfl, ⟨fun _ => ext (b = true) (fun _ e => hsb e.2) hI c, fun _ => rfl⟩⟩)
      · rw [if_neg hbit]
        exact ok_pos rfl (ok_some ⟨hj', true, by rw [c_succ]; rfl, ⟨fun _ => ext (b = true) (fun _ e => hbit e.1) hI c, fun _ => rfl⟩⟩)
theorem mo_isW {g : M2} {q : Sg} (hw : WF q) (h : WD g q) (v1 v2 : Int32) {s : Nat} (hs : s < 2 ^ sn q) (b0 : Bool) : lp (fun st => b_Mo_fewest_34 v1 v2 (cI s) st.1 st.2 g) 5000 ((if b0 then (1 : Int32) else 0), (0 : Int32)) = some (if b0 = true ∧ s &&& sb q = 0 then 1 else 0) := mo_isF hw h v2 hs b0
theorem mo_frailSet {g : M2} {q : Sg} (hw : WF q) (hg : IM g q) {o : Option Nat} (ho : LM (VS q false) 32 o) : Ok (f_Mo_frailSet g) (fun p => p.1 = lkI o ∧ FM g p.2) := by
  have hn := hw.1
  have hp : 2 ^ sn q ≤ 2 ^ 5 := Nat.pow_le_pow_right (by decide) hn
  unfold f_Mo_frailSet
  refine ok_bindm (Q := fun e => e.1 = lkI o ∧ FM g e.2) ?_ (fun e he => ok_some he)
  refine ok_lp (fun s st => ∃ o z, st = (lkI o, cI s, z) ∧ LM (VS q false) s o ∧ FM g z) (2 ^ sn q) 5000 0 _ (by omega) (Nat.zero_le _) ⟨none, g, rfl, fun t ht => absurd ht (by omega), FM_rf g⟩ ?_
  rintro s st hs ⟨o2, z, rfl, hL, hz⟩
  show Ok (b_Mo_frailSet_4 (lkI o2) (cI s) z) _
  unfold b_Mo_frailSet_4
  have hI := IM_f hg hz
  rw [hI.2.1.2.1, pow5 (sn q) (by omega)]
  by_cases hs2 : s = 2 ^ sn q
  · refine ok_pos (le_yes (by omega) (by omega)) (ok_some ⟨?_, hz⟩)
    rw [hs2] at hL
    show lkI o2 = lkI o
    rw [LM_uq (VS_32 hw hL) ho]
  · have hs' : s < 2 ^ sn q := by omega
    obtain ⟨L1, L2, L3, L4⟩ := LM_s hL
    refine ok_neg (le_no hs' (by omega)) ?_
    have run : ∀ b0 : Bool, (b0 = true → o2 = none ∨ ∃ t, o2 = some t ∧ pc s < pc t) → (¬ b0 = true → ∃ t, o2 = some t ∧ ¬ pc s < pc t) → Ok (j_Mo_frailSet_24 (lkI o2) (cI s) (if b0 then (1 : Int32) else 0) z) (fun r => Sum.elim (fun s2 => s < 2 ^ sn q ∧ ∃ o z, s2 = (lkI o, cI (s + 1), z) ∧ LM (VS q false) (s + 1) o ∧ FM g z) (fun e => e.1 = lkI o ∧ FM g e.2) r) := by
      intro b0 hb1 hb0
      unfold j_Mo_frailSet_24
      refine ok_binde (mo_isF hw hI.2.1 (lkI o2) hs' b0) (ok_grd rfl (fun c => ok_some ⟨hs', o2, z, by rw [c_succ], ?_, hz⟩) (fun c => ok_binde (look_now hI.2.1) (ok_bindm (mo_wB hw hI (b := s) (by omega)) (fun r hr => ?_))))
      · by_cases hb : b0 = true
        · exact L1 (fun hV => c ⟨hb, hV.2.1⟩)
        · obtain ⟨t, ht, hlt⟩ := hb0 hb
          rw [ht]; exact L4 t ht hlt
      · refine ok_grd hr.2.2.2.1 (fun d => ok_some ⟨hs', some s, r, by rw [c_succ]; rfl, ?_, FM_tr hz hr.1⟩) (fun d => ok_some ⟨hs', o2, r, by rw [c_succ], ?_, FM_tr hz hr.1⟩)
        · have hV : VS q false s := ⟨hs', c.2, Bool.eq_false_iff.mpr d⟩
          rcases hb1 c.1 with e | ⟨t, ht, hlt⟩
          · exact L2 hV e
          · exact L3 hV t ht hlt
        · refine L1 (fun hV => ?_)
          have h3 := hV.2.2
          have d2 : hdq (sn q) (sp q) (kbr q false s) (sl q) (sd q) = true := d
          rw [h3] at d2
          cases d2
    cases ho2 : o2 with
    | none =>
      refine ok_pos rfl ?_
      have := run true (fun _ => Or.inl ho2) (fun e => absurd rfl e)
      rw [ho2] at this
      exact this
    | some t =>
      have ht : t < s := by rw [ho2] at hL; exact hL.1
      have hpt := pc_5 t (by omega)
      have hps := pc_5 s (by omega)
      refine ok_neg (cI_m1 (b := t) (by omega)) ?_
      rw [show lkI (some t) = cI t from rfl, pc_e (by omega), pc_e (by omega)]
      refine ok_if (fun c => ?_) (fun c => ?_)
      · rw [cI_le (by omega) (by omega)] at c
        have := run false (fun e => (by cases e)) (fun _ => ⟨t, ho2, by omega⟩)
        rw [ho2] at this
        exact this
      · rw [cI_le (by omega) (by omega)] at c
        have := run true (fun _ => Or.inr ⟨t, ho2, by omega⟩) (fun e => absurd rfl e)
        rw [ho2] at this
        exact this
theorem pr_frail {q : Sg} (hw : WF q) (x : Int32) : Pr (f_Da_frail x) (f_Mo_frail x) q := by
  obtain ⟨o, ho⟩ := LM_ex (VS q false) 32
  refine ⟨if inb x 2 then (if x = 0 then f_In_bitCount (lkI o) z2 else lkI o) else -2, q, hw, fun g hg => ?_, fun g hg => ?_⟩
  · unfold f_Da_frail
    rw [show (2 : Int32) = cI 2 from rfl]
    refine ok_grd (da_among (by decide) g) (fun n => ok_some ⟨(if_neg n).symm, hg, KC_rf g⟩) (fun c => ?_)
    rw [if_pos c]
    refine ok_bindm (da_least hw hg false ho) (fun p hp => ?_)
    rw [hp.1]
    refine ok_if (fun d => ok_some ⟨by rw [if_pos d]; rfl, FT_I hw hg hp.2⟩) (fun d => ok_some ⟨by rw [if_neg d], FT_I hw hg hp.2⟩)
  · unfold f_Mo_frail
    rw [show (1 : Int64) = Int64.ofInt (((2 : Nat) : Int) - 1) from rfl]
    refine ok_grd (mo_in0 (by decide) g) (fun n => ok_some ⟨(if_neg n).symm, hg, KM_rf g⟩) (fun c => ?_)
    rw [if_pos c]
    refine ok_bindm (mo_frailSet hw hg ho) (fun p hp => ?_)
    rw [hp.1]
    refine ok_if (fun d => ok_some ⟨by rw [if_pos d]; rfl, IM_f hg hp.2, FM_K hp.2⟩) (fun d => ok_some ⟨by rw [if_neg d], IM_f hg hp.2, FM_K hp.2⟩)
theorem mo_fewestSet {g : M2} {q : Sg} (hw : WF q) (hg : IM g q) (x : Int32) {o : Option Nat} (ho : LM (VS q true) 32 o) : Ok (lp (fun s => b_Mo_fewest_12 x s.1 s.2.1 s.2.2) 5000 ((-1 : Int32), (0 : Int32), g)) (fun p => p.1 = lkI o ∧ FM g p.2) := by
  have hn := hw.1
  have hp : 2 ^ sn q ≤ 2 ^ 5 := Nat.pow_le_pow_right (by decide) hn
  refine ok_lp (fun s st => ∃ o z, st = (lkI o, cI s, z) ∧ LM (VS q true) s o ∧ FM g z) (2 ^ sn q) 5000 0 _ (by omega) (Nat.zero_le _) ⟨none, g, rfl, fun t ht => absurd ht (by omega), FM_rf g⟩ ?_
  rintro s st hs ⟨o2, z, rfl, hL, hz⟩
  show Ok (b_Mo_fewest_12 x (lkI o2) (cI s) z) _
  unfold b_Mo_fewest_12
  have hI := IM_f hg hz
  rw [hI.2.1.2.1, pow5 (sn q) (by omega)]
  by_cases hs2 : s = 2 ^ sn q
  · refine ok_pos (le_yes (by omega) (by omega)) (ok_some ⟨?_, hz⟩)
    rw [hs2] at hL
    show lkI o2 = lkI o
    rw [LM_uq (VS_32 hw hL) ho]
  · have hs' : s < 2 ^ sn q := by omega
    obtain ⟨L1, L2, L3, L4⟩ := LM_s hL
    refine ok_neg (le_no hs' (by omega)) ?_
    have run : ∀ b0 : Bool, (b0 = true → o2 = none ∨ ∃ t, o2 = some t ∧ pc s < pc t) → (¬ b0 = true → ∃ t, o2 = some t ∧ ¬ pc s < pc t) → Ok (j_Mo_fewest_32 x (lkI o2) (cI s) (if b0 then (1 : Int32) else 0) z) (fun r => Sum.elim (fun s2 => s < 2 ^ sn q ∧ ∃ o z, s2 = (lkI o, cI (s + 1), z) ∧ LM (VS q true) (s + 1) o ∧ FM g z) (fun e => e.1 = lkI o ∧ FM g e.2) r) := by
      intro b0 hb1 hb0
      unfold j_Mo_fewest_32
      refine ok_binde (mo_isW hw hI.2.1 x (lkI o2) hs' b0) (ok_grd rfl (fun c => ok_some ⟨hs', o2, z, by rw [c_succ], ?_, hz⟩) (fun c => ok_binde (look_now hI.2.1) ?_))
      · by_cases hb : b0 = true
        · exact L1 (fun hV => c ⟨hb, hV.2.1⟩)
        · obtain ⟨t, ht, hlt⟩ := hb0 hb
          rw [ht]; exact L4 t ht hlt
      · rw [(nt5 s (by omega)).1]
        refine ok_bindm (mo_wB hw hI (b := 31 ^^^ s) (nt5 s (by omega)).2) (fun r hr => ?_)
        have ek : sb q ||| (31 ^^^ s) = kbr q true s := or_nt5 s (by omega) (sb q) (b32 hw) c.2
        have h15 := hr.2.2.2.1
        rw [ek] at h15
        refine ok_grd h15 (fun d => ok_some ⟨hs', o2, r, by rw [c_succ], ?_, FM_tr hz hr.1⟩) (fun d => ok_some ⟨hs', some s, r, by rw [c_succ]; rfl, ?_, FM_tr hz hr.1⟩)
        · exact L1 (fun hV => d hV.2.2)
        · have hV : VS q true s := ⟨hs', c.2, d⟩
          rcases hb1 c.1 with e | ⟨t, ht, hlt⟩
          · exact L2 hV e
          · exact L3 hV t ht hlt
    cases ho2 : o2 with
    | none =>
      refine ok_pos rfl ?_
      have := run true (fun _ => Or.inl ho2) (fun e => absurd rfl e)
      rw [ho2] at this
      exact this
    | some t =>
      have ht : t < s := by rw [ho2] at hL; exact hL.1
      have hpt := pc_5 t (by omega)
      have hps := pc_5 s (by omega)
      refine ok_neg (cI_m1 (b := t) (by omega)) ?_
      rw [show lkI (some t) = cI t from rfl, pc_e (by omega), pc_e (by omega)]
      refine ok_if (fun c => ?_) (fun c => ?_)
      · rw [cI_le (by omega) (by omega)] at c
        have := run false (fun e => (by cases e)) (fun _ => ⟨t, ho2, by omega⟩)
        rw [ho2] at this
        exact this
      · rw [cI_le (by omega) (by omega)] at c
        have := run true (fun _ => Or.inr ⟨t, ho2, by omega⟩) (fun e => absurd rfl e)
        rw [ho2] at this
        exact this
theorem pr_fewest {q : Sg} (hw : WF q) (x : Int32) : Pr (f_Da_fewest x) (f_Mo_fewest x) q := by
  obtain ⟨o, ho⟩ := LM_ex (VS q true) 32
  have hx01 : inb x 2 → x = 0 ∨ x = 1 := fun c2 => by
    have h2 := inb_int.mp c2
    have : x.toInt = 0 ∨ x.toInt = 1 := by omega
    rcases this with e | e
    · exact Or.inl (Int32.toInt_inj.mp e)
    · exact Or.inr (Int32.toInt_inj.mp e)
  refine ⟨if inb x 2 then (if x = 1 then lkI o else if lkI o = -1 then lkI o else f_In_bitCount (lkI o) z2) else -2, q, hw, fun g hg => ?_, fun g hg => ?_⟩
  · unfold f_Da_fewest
    rw [show (2 : Int32) = cI 2 from rfl]
    refine ok_grd (da_among (by decide) g) (fun n => ok_some ⟨(if_neg n).symm, hg, KC_rf g⟩) (fun c => ?_)
    rw [if_pos c]
    refine ok_bindm (da_least hw hg true ho) (fun p hp => ?_)
    rw [hp.1]
    have hI := FT_I hw hg hp.2
    refine ok_if (fun d => ok_some ⟨by rw [if_pos d], hI⟩) (fun d => ok_if (fun d2 => ok_some ⟨by rw [if_neg d, if_pos d2], hI⟩) (fun d2 => ok_some ⟨by rw [if_neg d, if_neg d2]; rfl, hI⟩))
  · unfold f_Mo_fewest
    rw [show (1 : Int64) = Int64.ofInt (((2 : Nat) : Int) - 1) from rfl]
    refine ok_grd (mo_in0 (by decide) g) (fun n => ok_some ⟨(if_neg n).symm, hg, KM_rf g⟩) (fun c => ?_)
    rw [if_pos c]
    refine ok_bindm (mo_fewestSet hw hg x ho) (fun p hp => ?_)
    rw [hp.1]
    have hI : IM p.2 q ∧ KM g p.2 := ⟨IM_f hg hp.2, FM_K hp.2⟩
    refine ok_if (fun d => ok_some ⟨?_, hI⟩) (fun d => ok_if (fun d2 => ok_some ⟨?_, hI⟩) (fun d2 => ok_some ⟨?_, hI⟩))
    · rw [if_pos d, ite_self]; exact d.symm
    · rw [if_neg (show ¬ x = 1 by rw [d2]; decide), if_neg d]; rfl
    · have : x = 1 := (hx01 c).resolve_left d2
      rw [if_pos this]
