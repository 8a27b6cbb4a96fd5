/-! sealed -/
theorem bls_pc (s : Nat) : ∀ n, (bls s n).length = cnf (fun j => s.testBit j) n := by
  intro n
  induction n with
  | zero => rfl
  | succ n ih =>
    rw [bls_s]
    by_cases h : s.testBit n = true
    · rw [if_pos h, List.length_append, ih, cf_s (f := fun j => s.testBit j) h]; rfl
    · rw [if_neg h, ih, cf_n (f := fun j => s.testBit j) h]
theorem bls_mem {s k : Nat} (hk : k < 12) : k ∈ bls s 12 ↔ s.testBit k = true := by
  unfold bls
  rw [List.mem_filter, List.mem_range]
  exact ⟨fun e => e.2, fun e => ⟨hk, e⟩⟩
/-- no wish is in a set -/
def NWs (q : Sg) (s : Nat) : Prop := ∀ j, (j ∈ sd q ∨ sl q = some j) → ¬ s.testBit j = true
theorem nws_and {q : Sg} {s : Nat} : s &&& wb (sl q) (sd q) = 0 ↔ NWs q s := by
  constructor
  · intro h j hj hb
    have h1 : (s &&& wb (sl q) (sd q)).testBit j = true := by
      rw [Nat.testBit_and, hb, wb_bit, decide_eq_true hj]; rfl
    rw [h] at h1
    simp at h1
  · intro h
    refine Nat.eq_of_testBit_eq (fun i => ?_)
    rw [Nat.testBit_and, wb_bit, Nat.zero_testBit]
    by_cases hi : i ∈ sd q ∨ sl q = some i
    · rw [Bool.eq_false_iff.mpr (h i hi)]; rfl
    · rw [decide_eq_false hi, Bool.and_false]
/-- gains and lower number with further deaf ones -/
abbrev sG (q : Sg) (s : Nat) : Nat → Z4 := gnz (wsl (sl q) (sd q ++ bls s 12)) (qp q) (wll (sl q) (sd q ++ bls s 12)).length
abbrev sW (q : Sg) (s : Nat) : Int := lowz (wsl (sl q) (sd q ++ bls s 12)) (qp q) (wll (sl q) (sd q ++ bls s 12)).length
def cmS (q : Sg) (x y : Int32) (s k : Nat) : Int := cmL (pXz (sG q s k)) (pYz (sG q s k)) (sW q s) x y
/-- a set that seals -/
def VZ (q : Sg) (x y : Int32) (l s : Nat) : Prop := pc s + (sd q).length ≤ 4 ∧ NWs q s ∧ hdq (sn q) (sp q) (sb q) (sl q) (sd q ++ bls s 12) = true ∧ amB (asq (qp q) l (sd q ++ bls s 12)) (cmS q x y s)
theorem s_gB {q : Sg} (hw : WF q) {s : Nat} (hl : pc s + (sd q).length ≤ 4) (h : hdq (sn q) (sp q) (sb q) (sl q) (sd q ++ bls s 12) = true) : gB (sG q s) ∧ 0 ≤ sW q s ∧ sW q s ≤ 9765625 := by
  obtain ⟨h1, h2, _⟩ := hdq_on h
  have hp : (bls s 12).length = pc s := bls_pc s 12
  have hl4 : (sd q ++ bls s 12).length ≤ 4 := by rw [List.length_append]; omega
  have hlk : ∀ k, sl q = some k → k < 12 := fun k hk => (hw.2.2.2.2.1 k hk).1
  have hm := wll_len (lk := sl q) hl4
  refine ⟨gB_gn hm (q5 hw) h1 h2 (fun i hi => Nat.le_of_lt (wsl_lt hlk (fun j hj => ?_) i hi)), Int.le_of_lt (low_pos hm), (low_le hm (q5 hw)).2⟩
  rcases List.mem_append.mp (getD_mem hj) with h | h
  · exact hw.2.2.2.2.2.2.1 _ h
  · exact bls_lt s 12 _ h
theorem sd_12 {q : Sg} (hw : WF q) (s : Nat) : ∀ d ∈ sd q ++ bls s 12, d < 12 := fun d hd => by
  rcases List.mem_append.mp hd with h | h
  · exact hw.2.2.2.2.2.2.1 _ h
  · exact bls_lt s 12 _ h
theorem da_seal {g : M2} {q : Sg} (hw : WF q) (hg : IC g q) {l : Nat} (hlk : sl q = some l) {x y : Int32} (hf : fr x y) {o : Option Nat} (ho : LM (VZ q x y l) 4096 o) : Ok (f_Da_leastSeal x y g) (fun p => p.1 = lkI o ∧ FT g p.2) := by
  have hn := hw.1
  have hd4 := hw.2.2.2.2.2.1
  have hds := hw.2.2.2.2.2.2.1
  have hlk2 : ∀ k, sl q = some k → k < 12 := fun k hk => (hw.2.2.2.2.1 k hk).1
  have hwb := wb_lt hds hlk2
  unfold f_Da_leastSeal
  refine ok_binde (pl_wishBits hg.1) (ok_bindm (Q := fun u => Sum.elim (fun z => o = none ∧ FT g z) (fun p => p.1 = lkI o ∧ FT g p.2) u) ?_ (fun u hu => ?_))
  · have e4 : ∀ z : M2, FT g z → (4 : Int32) - z.1 7 5 = cI (4 - (sd q).length) := fun z hz => by
      rw [(hz 7 (by omega)).1, show g.1 7 5 = cI (sd q).length from hg.1.2.2.2.2.2.2.2.1, show (4 : Int32) = cI 4 from rfl, cI_sub hd4]
    refine ok_for (4 - (sd q).length + 1) (by omega) (fun j z => FT g z ∧ ∀ t, t < 4096 → VZ q x y l t → j ≤ pc t) ⟨FT_rf g, fun _ _ _ => Nat.zero_le _⟩ ?_ ?_
    · rintro j z hj ⟨z1, z2⟩
      show Ok (b_Da_leastSeal_7 x y (cI (wb (sl q) (sd q))) (cI j) z) _
      unfold b_Da_leastSeal_7
      rw [e4 z z1]
      refine ok_neg (lt_no (b := j) (by omega) (by omega)) ?_
      refine ok_bindm (Q := fun u => Sum.elim (fun w => FT g w ∧ ∀ t, t < 4096 → VZ q x y l t → pc t ≠ j) (fun p => p.1 = lkI o ∧ FT g p.2) u) ?_ (fun u hu => ?_)
      · refine ok_for 4096 (by decide) (fun s w => FT g w ∧ ∀ t, t < s → VZ q x y l t → pc t ≠ j) ⟨z1, fun t ht => absurd ht (by omega)⟩ ?_ ?_
        · rintro s w hs ⟨w1, w2⟩
          show Ok (b_Da_leastSeal_17 x y (cI (wb (sl q) (sd q))) (cI j) (cI s) w) _
          unfold b_Da_leastSeal_17
          have hI := (FT_I hw hg w1).1
          have hps := pc_le s
          have skip : ¬ (VZ q x y l s ∧ pc s = j) → ∀ t, t < s + 1 → VZ q x y l t → pc t ≠ j := fun hn t ht hV e => by
            by_cases hts : t = s
            · subst hts; exact hn ⟨hV, e⟩
            · exact w2 t (by omega) hV e
          refine ok_neg (lt_no (b := s) (a := 4095) (by omega) (by decide)) ?_
          rw [pc_e hs w]
          refine ok_if (fun c1 => ?_) (fun c1 => ok_some ⟨c_succ s, w1, skip (fun e => c1 (by rw [e.2]))⟩)
          rw [cI_inj (by omega) (by omega)] at c1
          have hle : s &&& wb (sl q) (sd q) ≤ s := Nat.and_le_left
          rw [cI_and s _ (by omega) (by omega)]
          have e0 : cI (s &&& wb (sl q) (sd q)) = 0 ↔ s &&& wb (sl q) (sd q) = 0 := cI_inj (b := 0) (by omega) (by decide)
          refine ok_if (fun c2 => ?_) (fun c2 => ok_some ⟨c_succ s, w1, skip (fun e => c2 (e0.mpr (nws_and.mpr e.1.2.1)))⟩)
          have hnw := nws_and.mp (e0.mp c2)
          have hbl : (bls s 12).length = pc s := bls_pc s 12
          refine ok_bindm (da_hD hI hs (by omega)) (fun p hp => ?_)
          have fp := FT_tr w1 hp.2.2
          refine ok_grd hp.1 (fun c3 => ok_some ⟨c_succ s, fp, skip (fun e => c3 e.1.2.2.1)⟩) (fun c3 => ?_)
          have hPL := hp.2.1.1
          rw [hlk] at hPL
          have hCV := hp.2.1.2.2 c3
          obtain ⟨hB, l0, l1⟩ := s_gB hw (s := s) (by omega) c3
          refine ok_bindm (so_atMost (s := 72) hPL (sd_12 hw s) hCV hB l0 l1 hf) (fun p2 hp2 => ?_)
          have fp2 : FT g p2.2 := FT_tr fp (fun y hy => ⟨by rw [hp2.2.1], hp2.2.2 y (by omega)⟩)
          rcases hp2.1 with ⟨e1, ha⟩ | ⟨e1, ha⟩
          · refine ok_neg (by rw [e1]; decide) (ok_some ⟨?_, fp2⟩)
            have hV : VZ q x y l s := ⟨by omega, hnw, c3, ha⟩
            have : o = some s := LM_uq ho (show LM (VZ q x y l) 4096 (some s) from ⟨hs, hV, fun t ht hVt => by
              have h1 := z2 t ht hVt
              by_cases hpt : pc t = j
              · have h2 : ¬ t < s := fun hts => w2 t hts hVt hpt
                omega
              · omega⟩)
            rw [this]; rfl
          · exact ok_pos e1 (ok_some ⟨c_succ s, fp2, skip (fun e => ha e.1.2.2.2)⟩)
        · rintro w ⟨w1, w2⟩
          show Ok (b_Da_leastSeal_17 x y (cI (wb (sl q) (sd q))) (cI j) (cI 4096) w) _
          unfold b_Da_leastSeal_17
          exact ok_pos (lt_yes (a := 4095) (b := 4096) (by decide) (by decide)) (ok_some ⟨w1, w2⟩)
      · cases u with
        | inl w => exact ok_some ⟨c_succ j, hu.1, fun t ht hV => by have := z2 t ht hV; have := hu.2 t ht hV; omega⟩
        | inr p => exact ok_some hu
    · rintro z ⟨z1, z2⟩
      show Ok (b_Da_leastSeal_7 x y (cI (wb (sl q) (sd q))) (cI (4 - (sd q).length + 1)) z) _
      unfold b_Da_leastSeal_7
      rw [e4 z z1]
      refine ok_pos (lt_yes (by omega) (by omega)) (ok_some ⟨?_, z1⟩)
      refine LM_uq ho (show LM (VZ q x y l) 4096 none from fun t ht hV => ?_)
      have := z2 t ht hV
      have := hV.1
      omega
  · cases u with
    | inl z => exact ok_some ⟨by rw [hu.1]; rfl, hu.2⟩
    | inr p => exact ok_some hu
/-- the reference: a power against a bound, whatever was solved -/
theorem mo_cmpL {r : M2} {X Y L : Int} {k : Nat} (hk : k < 12) (h1 : r.2 169 k = Int64.ofInt X) (h2 : r.2 170 k = Int64.ofInt Y) (hL : r.2 157 16 = Int64.ofInt L) {x y : Int32} (hf : fr x y) (x0 : 0 ≤ X) (x1 : X ≤ 2 ^ 48) (y0 : -2 ^ 48 ≤ Y) (y1 : Y ≤ 2 ^ 48) (l0 : 0 ≤ L) (l1 : L ≤ 9765625) : f_Mo_byBound (cI k) x y r = some (Int32.ofInt (cmL X Y L x y)) := by
  have ia : inb (cI k) 12 := inb_cI hk (by decide)
  obtain ⟨b1, b2, b3, b4⟩ := cmL_b hf x0 x1 y0 y1 l0 l1
  unfold f_Mo_byBound
  rw [if_pos ia, if_pos ia, cI_nat (by omega), hL, h1, h2, ← Int64.ofInt_int32ToInt, ← Int64.ofInt_int32ToInt, ← Int64.ofInt_mul, ← Int64.ofInt_mul, ← Int64.ofInt_mul, ← Int64.ofInt_mul, ← Int64.ofInt_sub, Int.mul_comm X, Int.mul_comm Y, Int.mul_comm (L * L), mo_sign b1 b2 b3 b4]
  rfl
theorem asq_ext {q : Sg} {l s k : Nat} (hk : k < 12) : asq (qp q) l (sd q ++ bls s 12) k = (!s.testBit k && asq (qp q) l (sd q) k) := by
  unfold asq
  have e : (k ∈ sd q ++ bls s 12 ∨ some l = some k) ↔ (s.testBit k = true ∨ (k ∈ sd q ∨ some l = some k)) := by
    rw [List.mem_append, bls_mem hk]
    constructor
    · rintro ((h | h) | h)
      · exact Or.inr (Or.inl h)
      · exact Or.inl h
      · exact Or.inr (Or.inr h)
    · rintro (h | h | h)
      · exact Or.inl (Or.inr h)
      · exact Or.inl (Or.inl h)
      · exact Or.inr h
  have e2 : decide (k ∈ sd q ++ bls s 12 ∨ some l = some k) = (s.testBit k || decide (k ∈ sd q ∨ some l = some k)) := by
    by_cases h : s.testBit k = true
    · rw [decide_eq_true (e.mpr (Or.inl h)), h]; rfl
    · by_cases h2 : (k ∈ sd q ∨ some l = some k)
      · rw [decide_eq_true (e.mpr (Or.inr h2)), decide_eq_true h2, Bool.or_true]
      · rw [decide_eq_false (fun e3 => (e.mp e3).elim h h2), decide_eq_false h2, Bool.eq_false_iff.mpr h]; rfl
  rw [e2]
  generalize s.testBit k = a
  generalize decide (k ∈ sd q ∨ some l = some k) = b
  generalize twl (qp q) l k = c
  cases a <;> cases b <;> cases c <;> rfl
theorem mo_isSealed {g : M2} {q : Sg} (hw : WF q) (hI : IM g q) {l : Nat} (hlk : sl q = some l) {x y : Int32} (hf : fr x y) {s : Nat} (hs : s < 4096) (hl : pc s + (sd q).length ≤ 4) (hB : WB g (sn q) (sp q) (sb q) (sl q) (sd q ++ bls s 12)) : Ok (f_Mo_isSealed (cI s) x y g) (fun p => (p.1 = 1 ∧ (hdq (sn q) (sp q) (sb q) (sl q) (sd q ++ bls s 12) = true ∧ amB (asq (qp q) l (sd q ++ bls s 12)) (cmS q x y s)) ∨ p.1 = 0 ∧ ¬ (hdq (sn q) (sp q) (sb q) (sl q) (sd q ++ bls s 12) = true ∧ amB (asq (qp q) l (sd q ++ bls s 12)) (cmS q x y s))) ∧ FM g p.2) := by
  unfold f_Mo_isSealed
  refine ok_grd hB.2.2.1 (fun c => ok_some ⟨Or.inr ⟨rfl, fun e => c e.1⟩, FM_rf g⟩) (fun c => ?_)
  obtain ⟨hgB, l0, l1⟩ := s_gB hw hl c
  have hV := hB.2.2.2 c
  refine ok_bindm (mo_laysPowers hI.1 (G := sG q s) hV.2.2.2.2.2.2) (fun z hz => ?_)
  have h16 : z.2 157 16 = Int64.ofInt (sW q s) := by rw [hz.2.2.1 16 (by decide) (by decide)]; exact hV.1
  have hf2 := FM_L hz
  have hIz := IM_f hI hf2
  refine ok_bindm (Q := fun u => Sum.elim (fun _ => amB (asq (qp q) l (sd q ++ bls s 12)) (cmS q x y s)) (fun p => p = ((0 : Int32), z) ∧ ¬ amB (asq (qp q) l (sd q ++ bls s 12)) (cmS q x y s)) u) ?_ (fun u hu => ?_)
  · refine ok_lp (fun j st => st = cI j ∧ ∀ k, k < j → asq (qp q) l (sd q ++ bls s 12) k = true → cmS q x y s k ≤ 0) 12 5000 0 _ (by omega) (by omega) ⟨rfl, fun k hk => absurd hk (by omega)⟩ ?_
    rintro j st hj ⟨rfl, hJ⟩
    show Ok (b_Mo_isSealed_9 (cI s) x y (cI j) z) _
    unfold b_Mo_isSealed_9
    by_cases hj2 : j = 12
    · subst hj2
      exact ok_pos (le_yes (a := 12) (Nat.le_refl _) (by decide)) (ok_some hJ)
    · have hj' : j < 12 := by omega
      have keep : ¬ (asq (qp q) l (sd q ++ bls s 12) j = true ∧ ¬ cmS q x y s j ≤ 0) → ∀ k, k < j + 1 → asq (qp q) l (sd q ++ bls s 12) k = true → cmS q x y s k ≤ 0 := fun hn k hk hk2 => by
        by_cases hkj : k = j
        · subst hkj
          exact Classical.byContradiction (fun e => hn ⟨hk2, e⟩)
        · exact hJ k (by omega) hk2
      rw [tb12 hs hj']
      refine ok_neg (le_no (a := 12) hj' (by decide)) (ok_grd rfl (fun c2 => ok_binde (mo_isAside hw hIz.2.1 hlk hj') (ok_grd rfl (fun c3 => ok_some ⟨hj', c_succ j, keep (fun e => ?_)⟩) (fun c3 => ?_))) (fun c2 => ok_some ⟨hj', c_succ j, keep (fun e => ?_)⟩))
      · have h1 := e.1
        rw [asq_ext hj', Bool.and_eq_true] at h1
        exact c3 h1.2
      · obtain ⟨b1, b2, b3, b4⟩ := hgB j
        refine ok_binde (mo_cmpL hj' (hz.2.2.2.2.2 j hj').1 (hz.2.2.2.2.2 j hj').2 h16 hf b1 b2 b3 b4 l0 l1) ?_
        simp only [s_le (cmL_r _ _ _ _ _)]
        refine ok_if (fun d => ok_some ⟨hj', c_succ j, keep (fun e => e.2 d)⟩) (fun d => ok_some ⟨rfl, fun ha => d (ha j hj' ?_)⟩)
        rw [asq_ext hj', Bool.and_eq_true]
        exact ⟨by rw [Bool.not_eq_true']; exact Bool.eq_false_iff.mpr c2, c3⟩
      · have h1 := e.1
        rw [asq_ext hj', c2] at h1
        cases h1
  · cases u with
    | inl e => exact ok_some ⟨Or.inl ⟨rfl, c, hu⟩, hf2⟩
    | inr p => rw [hu.1]; exact ok_some ⟨Or.inr ⟨rfl, fun e => hu.2 e.2⟩, hf2⟩
theorem mo_isN {g : M2} {q : Sg} (hw : WF q) (h : WD g q) (v1 v2 v3 v4 : Int32) {s : Nat} (hs : s < 4096) (b0 : Bool) : lp (fun st => b_Mo_sealed_54 v1 v2 v3 v4 (cI s) st.1 st.2 g) 5000 ((if b0 then (1 : Int32) else 0), (0 : Int32)) = some (if b0 = true ∧ ∀ i, i < (sd q).length → ¬ s.testBit ((sd q).getD i 0) = true then 1 else 0) := by
  have hd4 := hw.2.2.2.2.2.1
  refine ok_to ?_
  refine ok_lp (fun j st => ∃ b : Bool, st = ((if b then (1 : Int32) else 0), cI j) ∧ (b = true ↔ b0 = true ∧ ∀ i, i < j → ¬ s.testBit ((sd q).getD i 0) = true)) (sd q).length 5000 0 _ (by omega) (by omega) ⟨b0, rfl, ⟨fun e => ⟨e, fun k hk => absurd hk (by omega)⟩, fun e => e.1⟩⟩ ?_
  rintro j st hj ⟨b, rfl, hI⟩
  show Ok (b_Mo_sealed_54 v1 v2 v3 v4 (cI s) (if b then (1 : Int32) else 0) (cI j) g) _
  unfold b_Mo_sealed_54
  rw [h.2.2.2.2.2.1]
  by_cases hj2 : j = (sd q).length
  · refine ok_pos (le_yes (by omega) (by omega)) (ok_some ?_)
    show (if b then (1 : Int32) else 0) = _
    rw [hj2] at hI
    by_cases hbt : b = true
    · rw [if_pos hbt, if_pos (hI.mp hbt)]
    · rw [if_neg hbt, if_neg (fun e => hbt (hI.mpr e))]
  · have hj' : j < (sd q).length := by omega
    refine ok_neg (le_no hj' (by omega)) (ok_grd rfl (fun c => ok_some ⟨hj', false, by rw [c_succ]; rfl, ?_⟩) (fun c => ?_))
    · exact ⟨fun e => (by cases e), fun e => absurd (hI.mpr ⟨e.1, fun k hk => e.2 k (by omega)⟩) c⟩
    · rw [show (14 : Int32) = cI 14 from rfl, cI_add]
      refine ok_pos (inb_cI (by omega) (by decide)) ?_
      rw [cI_nat (by omega), h.2.2.2.2.2.2.1 j hj', tb12 hs (d12 hw hj')]
      refine ok_grd rfl (fun c2 => ok_some ⟨hj', true, by rw [c_succ]; rfl, ⟨fun _ => ⟨(hI.mp c).1, fun i hi => ?_⟩, fun _ => rfl⟩⟩) (fun c2 => ok_some ⟨hj', false, by rw [c_succ]; rfl, ⟨fun e => (by cases e), fun e => absurd c2 (e.2 j (by omega))⟩⟩)
      by_cases hij : i = j
      · rw [hij]; exact c2
      · exact (hI.mp c).2 i (by omega)
theorem mo_bits {g z : M2} {q : Sg} (hw : WF q) (hz : WX g z q []) (v1 v2 v3 v4 : Int32) {s : Nat} (hs : s < 4096) (hl : pc s + (sd q).length ≤ 4) : Ok (lp (fun st => b_Mo_sealed_91 v1 v2 v3 v4 (cI s) st.1 st.2) 5000 ((0 : Int32), z)) (fun w => WX g w q (bls s 12)) := by
  have hbl : (bls s 12).length = pc s := bls_pc s 12
  refine ok_for 12 (by decide) (fun j w => WX g w q (bls s j)) hz ?_ ?_
  · rintro j w hj hw2
    show Ok (b_Mo_sealed_91 v1 v2 v3 v4 (cI s) (cI j) w) _
    unfold b_Mo_sealed_91
    rw [tb12 hs hj]
    refine ok_neg (le_no (a := 12) hj (by decide)) (ok_grd rfl (fun c => ok_some ⟨c_succ j, by rw [bls_s, if_neg c]; exact hw2⟩) (fun c => ?_))
    have hlen := bls_le s (show j + 1 ≤ 12 by omega)
    rw [bls_s, if_pos c, List.length_append] at hlen
    have hl1 : (bls s j).length + 1 ≤ (bls s 12).length := by simpa using hlen
    have hl2 : (wll (sl q) (sd q ++ bls s j)).length ≤ 4 := by
      unfold wll
      rw [List.length_append, List.length_append]
      cases sl q with
      | none => show 0 + _ ≤ 4; omega
      | some k => show 1 + _ ≤ 4; omega
    rw [hw2.2.2.2.2.2.1]
    refine ok_pos (inb_cI (by omega) (by decide)) (ok_bd (ok_bd (ok_some ⟨c_succ j, ?_⟩)))
    rw [cI_nat (by omega), uI_o _ _ _ (show 157 ≠ 163 by decide), hw2.2.2.2.2.2.1, c_succ, c_succ, bls_s, if_pos c]
    exact wx_add hw2 j
  · rintro w hw2
    show Ok (b_Mo_sealed_91 v1 v2 v3 v4 (cI s) (cI 12) w) _
    unfold b_Mo_sealed_91
    exact ok_pos (le_yes (a := 12) (Nat.le_refl _) (by decide)) (ok_some hw2)
theorem pr_sealed {q : Sg} (hw : WF q) (x y w : Int32) : Pr (f_Da_sealed x y w) (f_Mo_sealed x y w) q := by
  have hd4 := hw.2.2.2.2.2.1
  have hx01 : inb w 2 → w = 0 ∨ w = 1 := fun c2 => by
    have h2 := inb_int.mp c2
    have : w.toInt = 0 ∨ w.toInt = 1 := by omega
    rcases this with e | e
    · exact Or.inl (Int32.toInt_inj.mp e)
    · exact Or.inr (Int32.toInt_inj.mp e)
  by_cases hc : qh q = true ∧ fr x y ∧ inb w 2
  · obtain ⟨h, c1, c2⟩ := hc
    obtain ⟨l, hl, hl12, hld⟩ := look_some hw h
    obtain ⟨o, ho⟩ := LM_ex (VZ q x y l) 4096
    refine ⟨if w = 1 then lkI o else if lkI o = -1 then lkI o else f_In_bitCount (lkI o) z2, q, hw, cs_ref hw (fun g => rfl) (fun n => absurd h n) (fun _ r hC hN => ?_), fun g hg => ?_⟩
    · rw [show (2 : Int32) = cI 2 from rfl]
      refine ok_grd (da_frac x y r) (fun n => absurd c1 n) (fun _ => ok_grd (da_among (by decide) r) (fun n => absurd c2 n) (fun _ => ok_bindm (da_seal hw hC hl c1 ho) (fun p hp => ?_)))
      rw [hp.1]
      have hI := FT_I hw hC hp.2
      refine ok_if (fun d => ok_some ⟨by rw [if_pos d], hI⟩) (fun d => ok_if (fun d2 => ok_some ⟨by rw [if_neg d, if_pos d2], hI⟩) (fun d2 => ok_some ⟨by rw [if_neg d, if_neg d2]; rfl, hI⟩))
    · unfold f_Mo_sealed
      rw [show (1 : Int64) = Int64.ofInt (((2 : Nat) : Int) - 1) from rfl]
      refine ok_grd (mo_in0 (by decide) g) (fun n => absurd c2 n) (fun _ => ok_grd (mo_frac x y g) (fun n => absurd c1 n) (fun _ => ms_cq hw hg (fun n => absurd h n) (fun _ _ r hQ => ?_)))
      have hM := hQ.1
      refine ok_bindm (Q := fun e => e.1 = lkI o ∧ FM r e.2) ?_ (fun e he => ?_)
      · refine ok_lp (fun s st => ∃ o2 z, st = (lkI o2, cI s, z) ∧ LM (VZ q x y l) s o2 ∧ FM r z) 4096 5000 0 _ (by omega) (by omega) ⟨none, r, rfl, fun t ht => absurd ht (by omega), FM_rf r⟩ ?_
        rintro s st hs ⟨o2, z, rfl, hL, hz⟩
        show Ok (b_Mo_sealed_19 x y w (lkI o2) (cI s) z) _
        unfold b_Mo_sealed_19
        have hI := IM_f hM hz
        rw [hI.2.1.2.2.2.2.2.1]
        by_cases hs2 : s = 4096
        · subst hs2
          refine ok_pos (le_yes (a := 4096) (Nat.le_refl _) (by decide)) (ok_some ⟨?_, hz⟩)
          show lkI o2 = lkI o
          rw [LM_uq hL ho]
        · have hs' : s < 4096 := by omega
          obtain ⟨L1, L2, L3, L4⟩ := LM_s hL
          have hps := pc_le s
          refine ok_neg (le_no (a := 4096) hs' (by decide)) ?_
          rw [pc_e hs' z, cI_add]
          refine ok_if (fun d => ok_some ⟨by omega, o2, z, by rw [c_succ], L1 (fun hV => ?_), hz⟩) (fun d => ?_)
          · have := (cI_lt (a := 4) (by decide) (by omega)).mp d
            have := hV.1
            omega
          · have hle : pc s + (sd q).length ≤ 4 := by
              have : ¬ 4 < pc s + (sd q).length := fun e => d ((cI_lt (a := 4) (by decide) (by omega)).mpr e)
              omega
            have run : (o2 = none ∨ ∃ t, o2 = some t ∧ pc s < pc t) → Ok (j_Mo_sealed_41 x y w (lkI o2) (cI s) z) (fun r2 => Sum.elim (fun s2 => s < 4096 ∧ ∃ o2 z, s2 = (lkI o2, cI (s + 1), z) ∧ LM (VZ q x y l) (s + 1) o2 ∧ FM r z) (fun e => e.1 = lkI o ∧ FM r e.2) r2) := by
              intro hb1
              have elk : f_Mo_lookNow z = some (cI l) := by rw [look_now hI.2.1, hl]; rfl
              have go : ∀ b0 : Bool, (b0 = true ↔ ¬ s.testBit l = true) → Ok (j_Mo_sealed_52 x y w (lkI o2) (cI s) (if b0 then (1 : Int32) else 0) z) (fun r2 => Sum.elim (fun s2 => s < 4096 ∧ ∃ o2 z, s2 = (lkI o2, cI (s + 1), z) ∧ LM (VZ q x y l) (s + 1) o2 ∧ FM r z) (fun e => e.1 = lkI o ∧ FM r e.2) r2) := by
                intro b0 hb0
                unfold j_Mo_sealed_52
                refine ok_binde (mo_isN hw hI.2.1 x y w (lkI o2) hs' b0) (ok_grd rfl (fun c => ok_some ⟨hs', o2, z, by rw [c_succ], L1 (fun hV => c ⟨hb0.mpr (hV.2.1 l (Or.inr hl)), fun i hi => hV.2.1 _ (Or.inl (getD_mem hi))⟩), hz⟩) (fun c => mo_base hw hI (fun u hu => ok_bindm (mo_bits hw hu x y w (lkI o2) hs' hle) (fun v hv => ?_))))
                have hnw : NWs q s := fun j hj => by
                  rcases hj with hj | hj
                  · obtain ⟨i, hi, hi2⟩ := mem_getD.mp hj
                    rw [← hi2]; exact c.2 i hi
                  · rw [hl] at hj; cases hj; exact hb0.mp c.1
                have hbl : (bls s 12).length = pc s := bls_pc s 12
                refine ok_bindm (wx_solve hw hI hv (by omega) (bls_lt s 12)) (fun t ht => ?_)
                refine ok_bindm (mo_isSealed hw (IM_f hI ht.1) hl c1 hs' hle ht.2.1) (fun p hp => ?_)
                have fz := FM_tr hz (FM_tr ht.1 hp.2)
                rcases hp.1 with ⟨e1, hV⟩ | ⟨e1, hV⟩
                · refine ok_neg (by rw [e1]; decide) (ok_some ⟨hs', some s, p.2, by rw [c_succ]; rfl, ?_, fz⟩)
                  have hVZ : VZ q x y l s := ⟨hle, hnw, hV.1, hV.2⟩
                  rcases hb1 with e | ⟨t2, ht2, hlt⟩
                  · exact L2 hVZ e
                  · exact L3 hVZ t2 ht2 hlt
                · exact ok_pos e1 (ok_some ⟨hs', o2, p.2, by rw [c_succ], L1 (fun hVZ => hV ⟨hVZ.2.2.1, hVZ.2.2.2⟩), fz⟩)
              unfold j_Mo_sealed_41
              refine ok_binde elk ?_
              rw [tb12 hs' hl12]
              refine ok_grd rfl (fun c => ?_) (fun c => ?_)
              · exact go true ⟨fun _ => c, fun _ => rfl⟩
              · exact go false ⟨fun e => (by cases e), fun e => absurd c e⟩
            cases ho2 : o2 with
            | none =>
              refine ok_pos rfl ?_
              have := run (Or.inl ho2)
              rw [ho2] at this
              exact this
            | some t =>
              have ht : t < s := by rw [ho2] at hL; exact hL.1
              have hpt := pc_le t
              refine ok_neg (cI_m1 (b := t) (by omega)) ?_
              rw [show lkI (some t) = cI t from rfl, pc_e (s := t) (by omega)]
              refine ok_if (fun c => ?_) (fun c => ok_some ⟨hs', some t, z, by rw [c_succ]; rfl, L4 t ho2 (fun e => c ((cI_lt (by omega) (by omega)).mpr e)), hz⟩)
              have := run (Or.inr ⟨t, ho2, (cI_lt (by omega) (by omega)).mp c⟩)
              rw [ho2] at this
              exact this
      · rw [he.1]
        refine ok_if (fun d => ok_some ⟨?_, he.2⟩) (fun d => ok_if (fun d2 => ok_some ⟨?_, he.2⟩) (fun d2 => ok_some ⟨?_, he.2⟩))
        · rw [if_pos d, ite_self]; exact d.symm
        · rw [if_neg (show ¬ w = 1 by rw [d2]; decide), if_neg d]; rfl
        · have : w = 1 := (hx01 c2).resolve_left d2
          rw [if_pos this]
  · refine ⟨-2, q, hw, cs_ref hw (fun g => rfl) (fun n => rfl) (fun h r hC hN => ?_), fun g hg => ?_⟩
    · rw [show (2 : Int32) = cI 2 from rfl]
      exact ok_grd (da_frac x y r) (fun _ => ok_some ⟨rfl, hC, KC_rf r⟩) (fun c => ok_grd (da_among (by decide) r) (fun _ => ok_some ⟨rfl, hC, KC_rf r⟩) (fun c2 => absurd ⟨h, c, c2⟩ hc))
    · unfold f_Mo_sealed
      rw [show (1 : Int64) = Int64.ofInt (((2 : Nat) : Int) - 1) from rfl]
      exact ok_grd (mo_in0 (by decide) g) (fun _ => ok_some ⟨rfl, hg, KM_rf g⟩) (fun c2 => ok_grd (mo_frac x y g) (fun _ => ok_some ⟨rfl, hg, KM_rf g⟩) (fun c => ms_no hw hg (fun h => hc ⟨h, c, c2⟩)))
