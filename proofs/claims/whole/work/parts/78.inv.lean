/-! the state behind a run of calls; the class brings its solver up to date -/
/-- elements, positions, broken bits, look, deaf ones, steps, lines; tape, fault, its place, out -/
abbrev Sg : Type := Nat × (Nat → Nat) × Nat × Option Nat × List Nat × Nat × Nat × List Nat × Nat × Int32 × List Nat
def sn (q : Sg) : Nat := q.1
def sp (q : Sg) : Nat → Nat := q.2.1
def sb (q : Sg) : Nat := q.2.2.1
def sl (q : Sg) : Option Nat := q.2.2.2.1
def sd (q : Sg) : List Nat := q.2.2.2.2.1
def ss (q : Sg) : Nat := q.2.2.2.2.2.1
def sL (q : Sg) : Nat := q.2.2.2.2.2.2.1
def st (q : Sg) : List Nat := q.2.2.2.2.2.2.2.1
def sf (q : Sg) : Nat := q.2.2.2.2.2.2.2.2.1
def sP (q : Sg) : Int32 := q.2.2.2.2.2.2.2.2.2.1
def so (q : Sg) : List Nat := q.2.2.2.2.2.2.2.2.2.2
def WF (q : Sg) : Prop := sn q ≤ 5 ∧ (∀ e, e < sn q → sp q e < 12) ∧ (∀ e f, e < sn q → f < sn q → sp q e = sp q f → e = f) ∧ sb q < 2 ^ sn q ∧ (∀ k, sl q = some k → k < 12 ∧ k ∉ sd q) ∧ (sd q).length ≤ 4 ∧ (∀ k ∈ sd q, k < 12) ∧ (sd q).Nodup ∧ ss q ≤ 99 ∧ (ss q = 0 ↔ sL q = 0) ∧ sL q ≤ 300 ∧ (sL q = 0 → sn q = 0 ∧ sl q = none ∧ sd q = []) ∧ (st q).length ≤ 300 ∧ (∀ x ∈ st q, x < 256) ∧ sf q ≤ 3 ∧ (so q).length ≤ 160 ∧ ∀ x ∈ so q, x < 128
/-- wishes, working positions, how many wishes -/
abbrev qw (q : Sg) : Nat → Nat := wsl (sl q) (sd q)
abbrev qp (q : Sg) : List Nat := wkl (sp q) (sb q) (sn q)
abbrev qm (q : Sg) : Nat := (wll (sl q) (sd q)).length
/-- there are true weights -/
def qh (q : Sg) : Bool := (sl q).isSome && hdb (qw q) (qp q) (qm q)
/-- the class's solver is up to date -/
def Now (g : M2) (q : Sg) : Prop := g.1 6 11 = cI (qm q) ∧ (∀ i, i < qm q → g.1 10 i = cI (qw q i)) ∧ g.1 6 12 = cI (fl (Gz (qw q) (qp q)) (qm q)).length ∧ (∀ i, i < qm q → g.1 11 i = loI (qw q) (qp q) i) ∧ g.1 6 13 = (if qh q then 1 else 0) ∧ g.2 6 14 = Int64.ofInt (rX (qw q) (qp q) (qm q)) ∧ g.2 6 15 = Int64.ofInt (rY (qw q) (qp q) (qm q)) ∧ (qh q = true → CV 6 g (qw q) (qp q) (qm q) (sn q) (sp q) (sb q) ∧ (∀ k, k < 12 → rN g (56 + k) = q64 (gnz (qw q) (qp q) (qm q) k)) ∧ ∀ k, k < 12 → g.2 68 k = Int64.ofInt (pXz (gnz (qw q) (qp q) (qm q) k)) ∧ g.2 69 k = Int64.ofInt (pYz (gnz (qw q) (qp q) (qm q) k)))
def IC (g : M2) (q : Sg) : Prop := PL g 7 (sn q) (sp q) (sb q) (sl q) (sd q) ∧ g.1 7 6 = cI (ss q) ∧ g.1 7 7 = cI (sL q) ∧ g.1 1 2 = cI (st q).length ∧ (∀ i, i < (st q).length → g.1 2 i = cI ((st q).getD i 0)) ∧ g.1 1 7 = cI (sf q) ∧ g.1 1 8 = sP q ∧ g.1 153 1 = cI (so q).length ∧ (∀ i, i < (so q).length → g.1 154 i = cI ((so q).getD i 0)) ∧ (g.1 0 9 = 1 ∨ g.1 0 9 = 0 ∧ Now g q)
def lkM : Option Nat → Nat
  | none => 0
  | some k => k + 1
def WD (g : M2) (q : Sg) : Prop := g.1 160 0 = cI (ss q) ∧ g.1 160 1 = cI (sn q) ∧ (∀ e, e < sn q → g.1 160 (2 + e) = cI (sp q e)) ∧ (∀ e, e < sn q → g.1 160 (7 + e) = if (sb q).testBit e then 1 else 0) ∧ g.1 160 12 = cI (lkM (sl q)) ∧ g.1 160 13 = cI (sd q).length ∧ (∀ i, i < (sd q).length → g.1 160 (14 + i) = cI ((sd q).getD i 0)) ∧ g.1 160 18 = cI (sL q)
def IM (g : M2) (q : Sg) : Prop := PW g ∧ WD g q ∧ g.1 157 21 = cI (st q).length ∧ (∀ i, i < (st q).length → g.1 167 i = (cI ((st q).getD i 0)).toInt8.toInt32) ∧ g.1 157 28 = cI (sf q) ∧ g.1 157 29 = sP q ∧ g.1 157 38 = cI (so q).length ∧ ∀ i, i < (so q).length → g.1 171 i = cI ((so q).getD i 0)
/-- the class's cells, the reference's cells have changed alone -/
def KC (g r : M2) : Prop := ∀ y, 157 ≤ y → r.1 y = g.1 y ∧ r.2 y = g.2 y
def KM (g r : M2) : Prop := ∀ y, y < 157 ∨ 1000 < y → r.1 y = g.1 y ∧ r.2 y = g.2 y
theorem KC_rf (g : M2) : KC g g := fun _ _ => ⟨rfl, rfl⟩
theorem KM_rf (g : M2) : KM g g := fun _ _ => ⟨rfl, rfl⟩
theorem KC_tr {g r z : M2} (h : KC g r) (k : KC r z) : KC g z := fun y hy => ⟨(k y hy).1.trans (h y hy).1, (k y hy).2.trans (h y hy).2⟩
theorem KM_tr {g r z : M2} (h : KM g r) (k : KM r z) : KM g z := fun y hy => ⟨(k y hy).1.trans (h y hy).1, (k y hy).2.trans (h y hy).2⟩
theorem CV_mono {g r : M2} {ws : Nat → Nat} {ps : List Nat} {m n : Nat} {pos : Nat → Nat} {br : Nat} (h : CV 6 g ws ps m n pos br) (hm : m ≤ 5) (hn : n ≤ 5) (h6 : r.2 6 = g.2 6) (hy : ∀ y, 44 ≤ y → y ≤ 54 → r.2 y = g.2 y) : CV 6 r ws ps m n pos br := by
  obtain ⟨a1, a2, a3⟩ := h
  refine ⟨by rw [h6]; exact a1, fun i hi => ?_, fun e he => ?_⟩
  · unfold rN; rw [hy _ (by omega) (by omega)]; exact a2 i hi
  · unfold rN; rw [hy _ (by omega) (by omega)]; exact a3 e he
/-- Now stands on a few cells -/
theorem Now_mono {g r : M2} {q : Sg} (hm : qm q ≤ 5) (hn : sn q ≤ 5) (h : Now g q) (h1 : r.1 6 = g.1 6) (h2 : r.1 10 = g.1 10) (h3 : r.1 11 = g.1 11) (h4 : r.2 6 = g.2 6) (h5 : ∀ y, 44 ≤ y → y ≤ 69 → r.2 y = g.2 y) : Now r q := by
  obtain ⟨a1, a2, a3, a4, a5, a6, a7, a8⟩ := h
  refine ⟨by rw [h1]; exact a1, fun i hi => by rw [h2]; exact a2 i hi, by rw [h1]; exact a3, fun i hi => by rw [h3]; exact a4 i hi, by rw [h1]; exact a5, by rw [h4]; exact a6, by rw [h4]; exact a7, fun hh => ?_⟩
  obtain ⟨b1, b2, b3⟩ := a8 hh
  refine ⟨CV_mono b1 hm hn h4 (fun y y1 y2 => h5 y y1 (by omega)), fun k hk => ?_, fun k hk => ?_⟩
  · unfold rN; rw [h5 _ (by omega) (by omega)]; exact b2 k hk
  · rw [h5 68 (by decide) (by decide), h5 69 (by decide) (by decide)]; exact b3 k hk
theorem WF_m {q : Sg} (h : WF q) : qm q ≤ 5 := wll_len h.2.2.2.2.2.1
theorem PL_k {g r : M2} {p n : Nat} {pos : Nat → Nat} {br : Nat} {lk : Option Nat} {ds : List Nat} (hP : PL g p n pos br lk ds) (h : ∀ y, p ≤ y → y ≤ p + 2 → r.1 y = g.1 y) : PL r p n pos br lk ds := PL_mono hP (h _ (by omega) (by omega)) (h _ (by omega) (by omega)) (h _ (by omega) (by omega))
/-- what a query may change of the class's cells -/
def qc (y : Nat) : Prop := 72 ≤ y ∧ y ≤ 152 ∨ y = 155 ∨ y = 156 ∨ 70 ≤ y ∧ y ≤ 71
theorem IC_q {g r : M2} {q : Sg} (hw : WF q) (h : IC g q) (hk : ∀ y, y < 157 → ¬ qc y → r.1 y = g.1 y ∧ r.2 y = g.2 y) : IC r q := by
  obtain ⟨a1, a2, a3, a4, a5, a6, a7, a8, a9, a10⟩ := h
  have k1 : ∀ y, y < 70 → r.1 y = g.1 y ∧ r.2 y = g.2 y := fun y hy => hk y (by omega) (by unfold qc; omega)
  have k2 : r.1 153 = g.1 153 := (hk 153 (by decide) (by unfold qc; omega)).1
  have k3 : r.1 154 = g.1 154 := (hk 154 (by decide) (by unfold qc; omega)).1
  refine ⟨PL_k a1 (fun y _ y2 => (k1 y (by omega)).1), by rw [(k1 7 (by decide)).1]; exact a2, by rw [(k1 7 (by decide)).1]; exact a3, by rw [(k1 1 (by decide)).1]; exact a4, fun i hi => by rw [(k1 2 (by decide)).1]; exact a5 i hi, by rw [(k1 1 (by decide)).1]; exact a6, by rw [(k1 1 (by decide)).1]; exact a7, by rw [k2]; exact a8, fun i hi => by rw [k3]; exact a9 i hi, ?_⟩
  rw [(k1 0 (by decide)).1]
  rcases a10 with a10 | ⟨a10, a11⟩
  · exact Or.inl a10
  · exact Or.inr ⟨a10, Now_mono (WF_m hw) hw.1 a11 (k1 6 (by decide)).1 (k1 10 (by decide)).1 (k1 11 (by decide)).1 (k1 6 (by decide)).2 (fun y _ y2 => (k1 y (by omega)).2)⟩
theorem IC_k {g r : M2} {q : Sg} (hw : WF q) (h : IC g q) (hk : ∀ y, y < 157 → r.1 y = g.1 y ∧ r.2 y = g.2 y) : IC r q := IC_q hw h (fun y hy _ => hk y hy)
theorem IM_k {g r : M2} {q : Sg} (h : IM g q) (hk : KC g r) : IM r q := by
  obtain ⟨a1, ⟨b1, b2, b3, b4, b5, b6, b7, b8⟩, a3, a4, a5, a6, a7, a8⟩ := h
  have k : ∀ y, 157 ≤ y → r.1 y = g.1 y := fun y hy => (hk y hy).1
  exact ⟨fun j hj => by rw [k _ (by decide)]; exact a1 j hj, ⟨by rw [k _ (by decide)]; exact b1, by rw [k _ (by decide)]; exact b2, fun e he => by rw [k _ (by decide)]; exact b3 e he, fun e he => by rw [k _ (by decide)]; exact b4 e he, by rw [k _ (by decide)]; exact b5, by rw [k _ (by decide)]; exact b6, fun i hi => by rw [k _ (by decide)]; exact b7 i hi, by rw [k _ (by decide)]; exact b8⟩, by rw [k _ (by decide)]; exact a3, fun i hi => by rw [k _ (by decide)]; exact a4 i hi, by rw [k _ (by decide)]; exact a5, by rw [k _ (by decide)]; exact a6, by rw [k _ (by decide)]; exact a7, fun i hi => by rw [k _ (by decide)]; exact a8 i hi⟩
theorem pX64 {g : M2} {a : Nat} {v : Z4} (h : rN g a = q64 v) : f_Nu_powerX a g = Int64.ofInt (pXz v) := by
  have h0 : g.2 a 0 = Int64.ofInt v.1 := congrArg (fun z : Q6 => z.1) h
  have h1 : g.2 a 1 = Int64.ofInt v.2.1 := congrArg (fun z : Q6 => z.2.1) h
  have h2 : g.2 a 2 = Int64.ofInt v.2.2.1 := congrArg (fun z : Q6 => z.2.2.1) h
  have h3 : g.2 a 3 = Int64.ofInt v.2.2.2 := congrArg (fun z : Q6 => z.2.2.2) h
  unfold f_Nu_powerX pXz pX
  rw [h0, h1, h2, h3]
  simp only [Int64.ofInt_add, Int64.ofInt_mul]
theorem pY64 {g : M2} {a : Nat} {v : Z4} (h : rN g a = q64 v) : f_Nu_powerY a g = Int64.ofInt (pYz v) := by
  have h0 : g.2 a 0 = Int64.ofInt v.1 := congrArg (fun z : Q6 => z.1) h
  have h1 : g.2 a 1 = Int64.ofInt v.2.1 := congrArg (fun z : Q6 => z.2.1) h
  have h2 : g.2 a 2 = Int64.ofInt v.2.2.1 := congrArg (fun z : Q6 => z.2.2.1) h
  have h3 : g.2 a 3 = Int64.ofInt v.2.2.2 := congrArg (fun z : Q6 => z.2.2.2) h
  unfold f_Nu_powerY pYz pY
  rw [h0, h1, h2, h3]
  simp only [Int64.ofInt_add, Int64.ofInt_mul]
theorem hear_gn (ws : Nat → Nat) (ps : List Nat) (m n : Nat) (pos : Nat → Nat) (br k : Nat) (hps : ps = wkl pos br n) : zsum (((List.range n).filter (fun i => !br.testBit i)).map (fun e => qmul (wte ws ps m pos br e) (rt (k * pos e)))) = gnz ws ps m k := by
  unfold gnz
  conv => rhs; rw [show ps.map (fun p => qmul (wtz ws ps m p) (rt (k * p))) = (wkl pos br n).map (fun p => qmul (wtz ws ps m p) (rt (k * p))) by rw [← hps]]
  unfold wkl
  rw [List.map_map]
  congr 1
  refine List.map_congr_left (fun e he => ?_)
  have hb := (List.mem_filter.mp he).2
  have hb2 : br.testBit e = false := by simpa using hb
  show qmul (wte ws ps m pos br e) (rt (k * pos e)) = qmul (wtz ws ps m (pos e)) (rt (k * pos e))
  unfold wte
  rw [if_neg (by rw [hb2]; decide)]
/-- gains and powers -/
theorem so_listen {g : M2} {s n : Nat} {pos : Nat → Nat} {br : Nat} {lk : Option Nat} {ds : List Nat} {ws : Nat → Nat} {m : Nat} (hP : PL g (s + 1) n pos br lk ds) (hW : ∀ e, e < n → rN g (s + 43 + 1 + e) = q64 (wte ws (wkl pos br n) m pos br e)) : Ok (f_So_listen s g) (fun r => r.1 = g.1 ∧ (∀ y, ¬ (s + 50 ≤ y ∧ y ≤ s + 63) → r.2 y = g.2 y) ∧ (∀ k, k < 12 → rN r (s + 49 + 1 + k) = q64 (gnz ws (wkl pos br n) m k)) ∧ ∀ k, k < 12 → r.2 (s + 62) k = Int64.ofInt (pXz (gnz ws (wkl pos br n) m k)) ∧ r.2 (s + 63) k = Int64.ofInt (pYz (gnz ws (wkl pos br n) m k))) := by
  have hn5 := hP.2.1
  unfold f_So_listen
  refine ok_bindm (Q := fun r => r.1 = g.1 ∧ (∀ y, ¬ (s + 50 ≤ y ∧ y ≤ s + 63) → r.2 y = g.2 y) ∧ (∀ k, k < 12 → rN r (s + 49 + 1 + k) = q64 (gnz ws (wkl pos br n) m k)) ∧ ∀ k, k < 12 → r.2 (s + 62) k = Int64.ofInt (pXz (gnz ws (wkl pos br n) m k)) ∧ r.2 (s + 63) k = Int64.ofInt (pYz (gnz ws (wkl pos br n) m k))) ?_ (fun r hr => ok_some hr)
  refine ok_for 12 (by decide) (fun j z => z.1 = g.1 ∧ (∀ y, ¬ (s + 50 ≤ y ∧ y ≤ s + 63) → z.2 y = g.2 y) ∧ (∀ k, k < j → rN z (s + 49 + 1 + k) = q64 (gnz ws (wkl pos br n) m k)) ∧ ∀ k, k < j → z.2 (s + 62) k = Int64.ofInt (pXz (gnz ws (wkl pos br n) m k)) ∧ z.2 (s + 63) k = Int64.ofInt (pYz (gnz ws (wkl pos br n) m k))) ⟨rfl, fun _ _ => rfl, fun k hk => absurd hk (by omega), fun k hk => absurd hk (by omega)⟩ ?_ ?_
  · rintro j z hj ⟨z1, z2, z3, z4⟩
    show Ok (b_So_listen_2 s (cI j) z) _
    unfold b_So_listen_2
    refine ok_neg (le_no (a := 12) hj (by decide)) (ok_pos (inb_cI (by omega) (by decide)) ?_)
    simp only [cI_nat (show j < 2 ^ 31 by omega)]
    have hPz : PL z (s + 1) n pos br lk ds := PL_k hP (fun y _ _ => by rw [z1])
    refine ok_bindm (pl_hearBy (A := fun y => y = s + 49 + 1 + j) (CN_rf _ z) hPz (w := s + 43) (k := j) (t := s + 49 + 1 + j) hj rfl (fun e he => by omega) (wte ws (wkl pos br n) m pos br) (fun e he => by
      show rN z (s + 43 + 1 + e) = _
      unfold rN
      rw [z2 _ (by omega)]; exact hW e he)) (fun q3 hq3 => ?_)
    rw [hear_gn ws (wkl pos br n) m n pos br j rfl] at hq3
    have hg : rN q3 (s + 49 + 1 + j) = q64 (gnz ws (wkl pos br n) m j) := by rw [hq3.2.2.2, up_s]
    refine ok_pos (inb_cI (by omega) (by decide)) (ok_pos (inb_cI (by omega) (by decide)) (ok_bd ?_))
    refine ok_pos (inb_cI (by omega) (by decide)) (ok_pos (inb_cI (by omega) (by decide)) (ok_bd (ok_some ⟨c_succ j, ?_⟩)))
    rw [pX64 hg]
    have hg5 : rN (uJ q3 (s + 62) j (Int64.ofInt (pXz (gnz ws (wkl pos br n) m j)))) (s + 49 + 1 + j) = q64 (gnz ws (wkl pos br n) m j) := by
      unfold rN; rw [uJ_o _ _ _ (by omega)]; exact hg
    rw [pY64 hg5]
    have hq3o : ∀ y, y ≠ s + 49 + 1 + j → q3.2 y = z.2 y := fun y hy => hq3.2.1 y hy
    refine ⟨hq3.1.trans z1, fun y hy => ?_, fun k hk => ?_, fun k hk => ?_⟩
    · rw [uJ_o _ _ _ (by omega), uJ_o _ _ _ (by omega), hq3o _ (by omega)]; exact z2 y hy
    · have e1 : rN (uJ (uJ q3 (s + 62) j (Int64.ofInt (pXz (gnz ws (wkl pos br n) m j)))) (s + 63) j (Int64.ofInt (pYz (gnz ws (wkl pos br n) m j)))) (s + 49 + 1 + k) = rN q3 (s + 49 + 1 + k) := by
        unfold rN; rw [uJ_o _ _ _ (by omega), uJ_o _ _ _ (by omega)]
      rw [e1]
      by_cases hkj : k = j
      · rw [hkj]; exact hg
      · unfold rN; rw [hq3o _ (by omega)]; exact z3 k (by omega)
    · rw [uJ_o (uJ q3 (s + 62) j _) _ _ (show s + 62 ≠ s + 63 by omega)]
      by_cases hkj : k = j
      · rw [hkj, uJ_s, uJ_s]; exact ⟨rfl, rfl⟩
      · rw [uJ_k _ _ _ hkj, uJ_k _ _ _ hkj, uJ_o _ _ _ (show s + 63 ≠ s + 62 by omega), hq3o _ (by omega), hq3o _ (by omega)]; exact z4 k (by omega)
  · rintro z hz
    show Ok (b_So_listen_2 s (cI 12) z) _
    unfold b_So_listen_2
    exact ok_pos (le_yes (a := 12) (Nat.le_refl _) (by decide)) (ok_some hz)
/-- the class is brought up to date -/
theorem da_refresh {g : M2} {q : Sg} (hw : WF q) (h : IC g q) : Ok (f_Da_refresh g) (fun r => IC r q ∧ Now r q ∧ KC g r) := by
  obtain ⟨a1, a2, a3, a4, a5, a6, a7, a8, a9, a10⟩ := id h
  unfold f_Da_refresh
  rcases a10 with hs | ⟨hs, hN⟩
  · rw [hs]
    refine ok_neg (by decide) ?_
    refine ok_bindm (so_solve (s := 6) a1) (fun q2 hq2 => ?_)
    obtain ⟨c1, c2, c3, c4, c5, c6, c7, c8, c9, c10, c11⟩ := hq2
    have fin : ∀ z : M2, (∀ y, y ≠ 6 → y ≠ 10 → y ≠ 11 → z.1 y = g.1 y) → (∀ y, ¬ (13 ≤ y ∧ y ≤ 71) → y ≠ 6 → z.2 y = g.2 y) → Now z q → IC (uI z 0 9 0) q ∧ Now (uI z 0 9 0) q ∧ KC g (uI z 0 9 0) := by
      intro z z1 z2 hz
      have hNow : Now (uI z 0 9 0) q := Now_mono (WF_m hw) hw.1 hz (uI_o _ _ _ (by decide)) (uI_o _ _ _ (by decide)) (uI_o _ _ _ (by decide)) rfl (fun _ _ _ => rfl)
      have k : ∀ y, y ≠ 0 → y ≠ 6 → y ≠ 10 → y ≠ 11 → (uI z 0 9 0).1 y = g.1 y := fun y y0 y1 y2 y3 => by rw [uI_o _ _ _ y0]; exact z1 y y1 y2 y3
      refine ⟨⟨PL_k a1 (fun y y1 y2 => k y (by omega) (by omega) (by omega) (by omega)), by rw [k 7 (by decide) (by decide) (by decide) (by decide)]; exact a2, by rw [k 7 (by decide) (by decide) (by decide) (by decide)]; exact a3, by rw [k 1 (by decide) (by decide) (by decide) (by decide)]; exact a4, fun i hi => by rw [k 2 (by decide) (by decide) (by decide) (by decide)]; exact a5 i hi, by rw [k 1 (by decide) (by decide) (by decide) (by decide)]; exact a6, by rw [k 1 (by decide) (by decide) (by decide) (by decide)]; exact a7, by rw [k 153 (by decide) (by decide) (by decide) (by decide)]; exact a8, fun i hi => by rw [k 154 (by decide) (by decide) (by decide) (by decide)]; exact a9 i hi, Or.inr ⟨uI_s _ _ _ _, hNow⟩⟩, hNow, fun y hy => ⟨k y (by omega) (by omega) (by omega) (by omega), z2 y (by omega) (by omega)⟩⟩
    have hAs : ∀ y, ¬ (13 ≤ y ∧ y ≤ 71) → ¬ As 6 y := fun y hy hA => hy hA
    have c8' : q2.1 6 13 = (if qh q then 1 else 0) := c8
    rw [c8']
    by_cases hh : qh q = true
    · rw [if_pos hh]
      refine ok_neg (by decide) ?_
      have hcv := c11 hh
      refine ok_bindm (so_listen (s := 6) (ws := qw q) (m := qm q) (PL_k a1 (r := q2) (fun y y1 y2 => c1 y (by omega) (by omega) (by omega))) hcv.2.2) (fun q5 hq5 => ok_bd (ok_some ?_))
      obtain ⟨l1, l2, l3, l4⟩ := hq5
      refine fin q5 (fun y y1 y2 y3 => by rw [l1]; exact c1 y y1 y2 y3) (fun y y1 y2 => by rw [l2 y (by omega)]; exact c3 y (hAs y y1) y2) ?_
      refine ⟨by rw [l1]; exact c4, fun i hi => by rw [l1]; exact c5 i hi, by rw [l1]; exact c6, fun i hi => by rw [l1]; exact c7 i hi, by rw [l1]; exact c8', by rw [l2 6 (by omega)]; exact c9, by rw [l2 6 (by omega)]; exact c10, fun _ => ⟨CV_mono hcv (WF_m hw) hw.1 (l2 6 (by omega)) (fun y y1 y2 => l2 y (by omega)), l3, l4⟩⟩
    · rw [if_neg hh]
      refine ok_pos rfl (ok_bd (ok_some ?_))
      refine fin q2 c1 (fun y y1 y2 => c3 y (hAs y y1) y2) ?_
      exact ⟨c4, c5, c6, c7, c8', c9, c10, fun h => absurd h hh⟩
  · rw [hs]
    exact ok_pos rfl (ok_some ⟨h, hN, KC_rf g⟩)
