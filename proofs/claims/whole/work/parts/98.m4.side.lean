/-! aside; the greatest; bounded, side, nearest -/
theorem nt12 : ∀ a : Nat, a < 64 → ∀ b : Nat, b < 64 → (4095 : Int32) &&& (cI (64 * a + b) ^^^ (-1 : Int32)) = cI (4095 ^^^ (64 * a + b)) := by decide +kernel
theorem nt12e {M : Nat} (h : M < 4096) : (4095 : Int32) &&& (cI M ^^^ (-1 : Int32)) = cI (4095 ^^^ M) := by
  have := nt12 (M / 64) (by omega) (M % 64) (by omega)
  rw [show 64 * (M / 64) + M % 64 = M by omega] at this
  exact this
theorem x12_lt {M : Nat} (h : M < 4096) : 4095 ^^^ M < 4096 := Nat.xor_lt_two_pow (n := 12) (by decide) h
theorem x12_bit {M k : Nat} (hk : k < 12) : (4095 ^^^ M).testBit k = !M.testBit k := by
  rw [Nat.testBit_xor, show (4095 : Nat) = 2 ^ 12 - 1 from rfl, Nat.testBit_two_pow_sub_one, decide_eq_true hk]
  cases M.testBit k <;> rfl
/-- aside: by the positions, the look, the deaf ones -/
def asq (ps : List Nat) (l : Nat) (ds : List Nat) (k : Nat) : Bool := !(decide (k ∈ ds ∨ some l = some k) || twl ps l k)
abbrev asM (ps : List Nat) (l : Nat) (ds : List Nat) : Nat := 4095 ^^^ (wb (some l) ds ||| bm (twl ps l) 12)
theorem asM_b {ps : List Nat} {l : Nat} {ds : List Nat} (hl : l < 12) (hd : ∀ d ∈ ds, d < 12) : asM ps l ds < 4096 ∧ ∀ k, k < 12 → (asM ps l ds).testBit k = asq ps l ds k := by
  have h1 : wb (some l) ds < 4096 := wb_lt hd (fun k hk => by cases hk; exact hl)
  refine ⟨x12_lt (Nat.or_lt_two_pow (n := 12) h1 (bm_12 _ (Nat.le_refl _))), fun k hk => ?_⟩
  show (4095 ^^^ (wb (some l) ds ||| bm (twl ps l) 12)).testBit k = _
  rw [x12_bit hk, Nat.testBit_or, wb_bit, bm_bit, decide_eq_true hk, Bool.true_and]
  rfl
theorem pl_aside {g : M2} {p n : Nat} {pos : Nat → Nat} {br l : Nat} {ds : List Nat} (hP : PL g p n pos br (some l) ds) (hd : ∀ d ∈ ds, d < 12) : f_Pl_asideBits p g = some (cI (asM (wkl pos br n) l ds)) := by
  have hl : l < 12 := hP.2.2.2.2.2.2.1 l rfl
  have h1 : wb (some l) ds < 4096 := wb_lt hd (fun k hk => by cases hk; exact hl)
  refine ok_to ?_
  unfold f_Pl_asideBits
  refine ok_binde (pl_wishBits hP) ?_
  rw [show g.1 p 4 = cI l from hP.2.2.2.2.2.1]
  refine ok_neg (fs_no l hl) (ok_binde (pl_twinBits hP hl) (ok_some ?_))
  rw [cI_or, nt12e (Nat.or_lt_two_pow (n := 12) h1 (bm_12 _ (Nat.le_refl _)))]
theorem mo_isAside {g : M2} {q : Sg} (hw : WF q) (h : WD g q) {l : Nat} (hl : sl q = some l) {k : Nat} (hk : k < 12) : f_Mo_isAside (cI k) g = some (if asq (qp q) l (sd q) k = true then 1 else 0) := by
  have hl12 : l < 12 := (hw.2.2.2.2.1 l hl).1
  have elk : f_Mo_lookNow g = some (cI l) := by rw [look_now h, hl]; rfl
  refine ok_to ?_
  unfold f_Mo_isAside
  refine ok_binde elk (ok_if (fun c => ok_some ?_) (fun c => ?_))
  · rw [cI_inj (by omega) (by omega)] at c
    rw [if_neg]
    unfold asq
    simp [c]
  · refine ok_bindm (mo_deafAt hw h hk) (fun r hr => ?_)
    rw [cI_inj (by omega) (by omega)] at c
    rcases hr with ⟨r1, r2⟩ | ⟨r1, i, hi, hi2, _⟩
    · refine ok_pos r1 (ok_binde elk (ok_binde (mo_twinsOf hw h hl12) ?_))
      rw [tb12 (bm_12 _ (Nat.le_refl _)) hk, bm_bit, decide_eq_true hk, Bool.true_and]
      refine ok_grd rfl (fun d => ok_some ?_) (fun d => ok_some ?_)
      · rw [if_pos]
        unfold asq
        have c2 : ¬ l = k := fun e => c e.symm
        simp [r2, c2, d]
      · rw [if_neg]
        unfold asq
        simp [d]
    · refine ok_neg r1 (ok_some ?_)
      rw [if_neg]
      have : k ∈ sd q := by rw [← hi2]; exact getD_mem hi
      unfold asq
      simp [this]
/-- bounds of powers of gains -/
def gB (G : Nat → Z4) : Prop := ∀ k, 0 ≤ pXz (G k) ∧ pXz (G k) ≤ 2 ^ 48 ∧ -2 ^ 48 ≤ pYz (G k) ∧ pYz (G k) ≤ 2 ^ 48
theorem pY_le (v : Z4) : -(pXz v) ≤ pYz v ∧ pYz v ≤ pXz v := by
  have hz : tn (pXz v) (pYz v) := p_tn _ _ _ _
  have hx : 0 ≤ pXz v := pXz_nn v
  unfold tn at hz
  have hy := abs_le (a := pYz v) (N := pXz v) hx (by have := sq_nn (pYz v); have := hz.2; omega)
  omega
theorem gB_gn {ws : Nat → Nat} {ps : List Nat} {m : Nat} (hm : m ≤ 5) (hp : ps.length ≤ 5) (h1 : 0 < m) (h0 : ¬ Lo ws ps 0) (hw : ∀ i, i < m → ws i ≤ 12) : gB (gnz ws ps m) := by
  intro k
  have hb := gn_c hm hp h1 h0 hw k
  have hx : 0 ≤ pXz (gnz ws ps m k) := pXz_nn _
  have hy := pY_le (gnz ws ps m k)
  omega
/-- all that are told are at most the bound -/
def amB (f : Nat → Bool) (c : Nat → Int) : Prop := ∀ k, k < 12 → f k = true → c k ≤ 0
theorem so_atMost {g : M2} {s n : Nat} {pos : Nat → Nat} {br l : Nat} {ds : List Nat} {ws : Nat → Nat} {m : Nat} (hP : PL g (s + 1) n pos br (some l) ds) (hd : ∀ d ∈ ds, d < 12) (hV : CV s g ws (wkl pos br n) m n pos br) (hB : gB (gnz ws (wkl pos br n) m)) (l0 : 0 ≤ lowz ws (wkl pos br n) m) (l1 : lowz ws (wkl pos br n) m ≤ 9765625) {x y : Int32} (hf : fr x y) : Ok (f_So_asideAtMost s x y g) (fun p => (p.1 = 1 ∧ amB (asq (wkl pos br n) l ds) (fun k => cmL (pXz (gnz ws (wkl pos br n) m k)) (pYz (gnz ws (wkl pos br n) m k)) (lowz ws (wkl pos br n) m) x y) ∨ p.1 = 0 ∧ ¬ amB (asq (wkl pos br n) l ds) (fun k => cmL (pXz (gnz ws (wkl pos br n) m k)) (pYz (gnz ws (wkl pos br n) m k)) (lowz ws (wkl pos br n) m) x y)) ∧ p.2.1 = g.1 ∧ ∀ y, y ≠ s + 64 → p.2.2 y = g.2 y) := by
  have hl : l < 12 := hP.2.2.2.2.2.2.1 l rfl
  obtain ⟨hM, hbit⟩ := asM_b (ps := wkl pos br n) hl hd
  unfold f_So_asideAtMost
  refine ok_binde (pl_aside hP hd) ?_
  refine ok_bindm (Q := fun u => Sum.elim (fun z => (z.1 = g.1 ∧ ∀ y, y ≠ s + 64 → z.2 y = g.2 y) ∧ amB (asq (wkl pos br n) l ds) (fun k => cmL (pXz (gnz ws (wkl pos br n) m k)) (pYz (gnz ws (wkl pos br n) m k)) (lowz ws (wkl pos br n) m) x y)) (fun p => (p.1 = 0 ∧ ¬ amB (asq (wkl pos br n) l ds) (fun k => cmL (pXz (gnz ws (wkl pos br n) m k)) (pYz (gnz ws (wkl pos br n) m k)) (lowz ws (wkl pos br n) m) x y)) ∧ p.2.1 = g.1 ∧ ∀ y, y ≠ s + 64 → p.2.2 y = g.2 y) u) ?_ (fun u hu => ?_)
  · refine ok_for 12 (by decide) (fun j z => (z.1 = g.1 ∧ ∀ y, y ≠ s + 64 → z.2 y = g.2 y) ∧ ∀ k, k < j → asq (wkl pos br n) l ds k = true → cmL (pXz (gnz ws (wkl pos br n) m k)) (pYz (gnz ws (wkl pos br n) m k)) (lowz ws (wkl pos br n) m) x y ≤ 0) ⟨⟨rfl, fun _ _ => rfl⟩, fun k hk => absurd hk (by omega)⟩ ?_ ?_
    · rintro j z hj ⟨⟨z1, z2⟩, z3⟩
      show Ok (b_So_asideAtMost_6 s x y (cI (asM (wkl pos br n) l ds)) (cI j) z) _
      unfold b_So_asideAtMost_6
      rw [tb12 hM hj, hbit j hj]
      refine ok_neg (le_no (a := 12) hj (by decide)) (ok_grd rfl (fun c => ok_some ⟨c_succ j, ⟨z1, z2⟩, fun k hk hk2 => ?_⟩) (fun c => ?_))
      · by_cases hkj : k = j
        · rw [hkj] at hk2; exact absurd hk2 c
        · exact z3 k (by omega) hk2
      · have hPz : PL z (s + 1) n pos br (some l) ds := PL_k hP (fun y _ _ => by rw [z1])
        refine ok_bindm (pl_hearBy (A := fun y => y = s + 64) (CN_rf _ z) hPz (w := s + 43) (k := j) (t := s + 64) hj rfl (fun e he => by omega) (wte ws (wkl pos br n) m pos br) (fun e he => by
          show rN z (s + 43 + 1 + e) = _
          unfold rN
          rw [z2 _ (by have := hP.2.1; omega)]; exact hV.2.2 e he)) (fun q3 hq3 => ?_)
        rw [hear_gn ws (wkl pos br n) m n pos br j rfl] at hq3
        have hg : rN q3 (s + 64) = q64 (gnz ws (wkl pos br n) m j) := by rw [hq3.2.2.2, up_s]
        have hL : q3.2 s 16 = Int64.ofInt (lowz ws (wkl pos br n) m) := by
          rw [hq3.2.1 s (by show ¬ s = s + 64; omega), z2 s (by omega)]; exact hV.1
        obtain ⟨b1, b2, b3, b4⟩ := hB j
        rw [pX64 hg, pY64 hg]
        refine ok_binde (so_cmpL hL hf b1 b2 b3 b4 l0 l1) ?_
        have fr3 : q3.1 = g.1 ∧ ∀ y, y ≠ s + 64 → q3.2 y = g.2 y := ⟨hq3.1.trans z1, fun y hy => (hq3.2.1 y hy).trans (z2 y hy)⟩
        simp only [s_le (cmL_r _ _ _ _ _)]
        refine ok_if (fun d => ok_some ⟨c_succ j, fr3, fun k hk hk2 => ?_⟩) (fun d => ok_some ⟨⟨rfl, fun ha => d (ha j hj c)⟩, fr3⟩)
        by_cases hkj : k = j
        · rw [hkj]; exact d
        · exact z3 k (by omega) hk2
    · rintro z ⟨z1, z3⟩
      show Ok (b_So_asideAtMost_6 s x y (cI (asM (wkl pos br n) l ds)) (cI 12) z) _
      unfold b_So_asideAtMost_6
      exact ok_pos (le_yes (a := 12) (Nat.le_refl _) (by decide)) (ok_some ⟨z1, z3⟩)
  · cases u with
    | inl z => exact ok_some ⟨Or.inl ⟨rfl, hu.2⟩, hu.1⟩
    | inr p => exact ok_some ⟨Or.inr hu.1, hu.2⟩
theorem IC_7 {g r : M2} {q : Sg} (hw : WF q) (h : IC g q) (h1 : r.1 = g.1) (h2 : ∀ y, ¬ qc y → y < 157 → r.2 y = g.2 y) (h3 : ∀ y, 157 ≤ y → r.2 y = g.2 y) : IC r q ∧ KC g r :=
  ⟨IC_q hw h (fun y hy hq => ⟨by rw [h1], h2 y hq hy⟩), fun y hy => ⟨by rw [h1], h3 y hy⟩⟩
theorem pr_bounded {q : Sg} (hw : WF q) (x y : Int32) : Pr (f_Da_bounded x y) (f_Mo_bounded x y) q := by
  by_cases hc : qh q = true ∧ fr x y
  · obtain ⟨h, c1⟩ := hc
    obtain ⟨l, hl, hl12, _⟩ := look_some hw h
    obtain ⟨h1, h2, h3, h4, h5, _⟩ := q_on hw h
    obtain ⟨l0, l1⟩ := qL_b hw
    have hds := hw.2.2.2.2.2.2.1
    have hB : gB (qg q) := fun k => pw_c hw h k
    have main : ∀ (v : Int32), (amB (asq (qp q) l (sd q)) (cmB q x y) → v = 1) → (¬ amB (asq (qp q) l (sd q)) (cmB q x y) → v = 0) → Pr (f_Da_bounded x y) (f_Mo_bounded x y) q := by
      intro v v1 v0
      refine ⟨v, q, hw, cs_ref hw (fun g => rfl) (fun n => absurd h n) (fun _ r hC hN => ?_), fun g hg => ?_⟩
      · refine ok_grd (da_frac x y r) (fun n => absurd c1 n) (fun _ => ?_)
        have hP := hC.1
        rw [hl] at hP
        refine ok_bindm (so_atMost (s := 6) hP hds (hN.2.2.2.2.2.2.2 h).1 hB (Int.le_of_lt l0) l1 c1) (fun p hp => ?_)
        have hI := IC_7 hw hC hp.2.1 (fun z hz _ => hp.2.2 z (fun e => hz (by unfold qc; omega))) (fun z hz => hp.2.2 z (by omega))
        rcases hp.1 with ⟨e, ha⟩ | ⟨e, ha⟩
        · exact ok_neg (by rw [e]; decide) (ok_some ⟨(v1 ha).symm, hI⟩)
        · exact ok_pos e (ok_some ⟨(v0 ha).symm, hI⟩)
      · unfold f_Mo_bounded
        refine ok_grd (mo_frac x y g) (fun n => absurd c1 n) (fun _ => ms_can hw hg (fun n => absurd h n) (fun _ r hQ => mo_pows hQ (fun z hz h16 hM => ?_)))
        refine ok_bindm (Q := fun u => Sum.elim (fun _ => amB (asq (qp q) l (sd q)) (cmB q x y)) (fun p => p = ((0 : Int32), z) ∧ ¬ amB (asq (qp q) l (sd q)) (cmB q x y)) u) ?_ (fun u hu => ?_)
        · refine ok_lp (fun j st => st = cI j ∧ ∀ k, k < j → asq (qp q) l (sd q) k = true → cmB q x y k ≤ 0) 12 5000 0 _ (by omega) (by omega) ⟨rfl, fun k hk => absurd hk (by omega)⟩ ?_
          rintro j st hj ⟨rfl, hI⟩
          show Ok (b_Mo_bounded_13 x y (cI j) z) _
          unfold b_Mo_bounded_13
          by_cases hj2 : j = 12
          · subst hj2
            exact ok_pos (le_yes (a := 12) (Nat.le_refl _) (by decide)) (ok_some hI)
          · have hj' : j < 12 := by omega
            have ia : inb (cI j) 12 := inb_cI hj' (by decide)
            refine ok_neg (le_no (a := 12) hj' (by decide)) (ok_binde (mo_isAside hw hM.2.1 hl hj') (ok_grd rfl (fun c => ok_some ⟨hj', c_succ j, fun k hk hk2 => ?_⟩) (fun c => ok_pos ia (ok_pos ia ?_))))
            · by_cases hkj : k = j
              · rw [hkj] at hk2; exact absurd hk2 c
              · exact hI k (by omega) hk2
            · rw [cI_nat (by omega)]
              refine ok_binde (mo_bnd hw h hz h16 c1 hj') ?_
              simp only [s_le (cmB_r _ _ _ _)]
              refine ok_if (fun d => ok_some ⟨hj', c_succ j, fun k hk hk2 => ?_⟩) (fun d => ok_some ⟨rfl, fun ha => d (ha j hj' c)⟩)
              by_cases hkj : k = j
              · rw [hkj]; exact d
              · exact hI k (by omega) hk2
        · cases u with
          | inl e => exact ok_some ⟨(v1 hu).symm, FM_rf z⟩
          | inr p => rw [hu.1]; exact ok_some ⟨(v0 hu.2).symm, FM_rf z⟩
    by_cases ha : amB (asq (qp q) l (sd q)) (cmB q x y)
    · exact main 1 (fun _ => rfl) (fun n => absurd ha n)
    · exact main 0 (fun n => absurd n ha) (fun _ => rfl)
  · refine ⟨-2, q, hw, cs_ref hw (fun g => rfl) (fun n => rfl) (fun h r hC hN => ?_), fun g hg => ?_⟩
    · exact ok_grd (da_frac x y r) (fun _ => ok_some ⟨rfl, hC, KC_rf r⟩) (fun c => absurd ⟨h, c⟩ hc)
    · unfold f_Mo_bounded
      exact ok_grd (mo_frac x y g) (fun _ => ok_some ⟨rfl, hg, KM_rf g⟩) (fun c => ms_no hw hg (fun h => hc ⟨h, c⟩))
