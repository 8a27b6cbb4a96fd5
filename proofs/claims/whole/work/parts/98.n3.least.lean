/-! the least total; easiest -/
def lst (X Y L : Nat → Int) (o : Option Nat) (k : Nat) : Option Nat := match o with
  | none => some k
  | some b => if sgn (X k * L b - X b * L k) (Y k * L b - Y b * L k) < 0 then some k else some b
def lmn (c : Nat → Bool) (X Y L : Nat → Int) : Nat → Option Nat
  | 0 => none
  | k + 1 => if c k then lst X Y L (lmn c X Y L k) k else lmn c X Y L k
theorem lmn_y {c : Nat → Bool} {X Y L : Nat → Int} {k : Nat} (h : c k = true) : lmn c X Y L (k + 1) = lst X Y L (lmn c X Y L k) k := by
  conv => lhs; unfold lmn
  rw [if_pos h]
theorem lmn_n {c : Nat → Bool} {X Y L : Nat → Int} {k : Nat} (h : ¬ c k = true) : lmn c X Y L (k + 1) = lmn c X Y L k := by
  conv => lhs; unfold lmn
  rw [if_neg h]
theorem lst_in {X Y L : Nat → Int} {o : Option Nat} {k b : Nat} (h : lst X Y L o k = some b) : b = k ∨ o = some b := by
  unfold lst at h
  cases o with
  | none => cases h; exact Or.inl rfl
  | some d =>
    simp only at h
    split at h
    · cases h; exact Or.inl rfl
    · cases h; exact Or.inr rfl
theorem lmn_in (c : Nat → Bool) (X Y L : Nat → Int) : ∀ n b, lmn c X Y L n = some b → b < n ∧ c b = true := by
  intro n
  induction n with
  | zero => intro b hb; cases hb
  | succ n ih =>
    intro b hb
    by_cases hc : c n = true
    · rw [lmn_y hc] at hb
      rcases lst_in hb with e | e
      · rw [e]; exact ⟨Nat.lt_succ_self n, hc⟩
      · have := ih b e; exact ⟨by omega, this.2⟩
    · rw [lmn_n hc] at hb
      have := ih b hb; exact ⟨by omega, this.2⟩
/-- bounds of a total -/
def tB (X Y L : Int) : Prop := 0 ≤ X ∧ X ≤ 1953125 ∧ -1953125 ≤ Y ∧ Y ≤ 1953125 ∧ 0 < L ∧ L ≤ 9765625
theorem tB_s {X Y L U V M : Int} (h : tB X Y L) (k : tB U V M) : -2 ^ 57 ≤ X * M - U * L ∧ X * M - U * L ≤ 2 ^ 57 ∧ -2 ^ 57 ≤ Y * M - V * L ∧ Y * M - V * L ≤ 2 ^ 57 := by
  obtain ⟨h1, h2, h3, h4, h5, h6⟩ := h
  obtain ⟨k1, k2, k3, k4, k5, k6⟩ := k
  have a1 := mul_b (a := X) (b := M) (A := 1953125) (B := 9765625) h1 h2 (by omega) k6
  have a2 := mul_b (a := U) (b := L) (A := 1953125) (B := 9765625) k1 k2 (by omega) h6
  have a3 := mul_b (a := M) (b := Y) (A := 9765625) (B := 1953125) (by omega) k6 h3 h4
  have a4 := mul_b (a := L) (b := V) (A := 9765625) (B := 1953125) (by omega) h6 k3 k4
  rw [Int.mul_comm M Y] at a3
  rw [Int.mul_comm L V] at a4
  omega
def LSt (g : M2) (X Y L : Nat → Int) (o : Option Nat) : Prop := g.1 151 0 = lkI o ∧ ∀ b, o = some b → g.2 151 1 = Int64.ofInt (X b) ∧ g.2 151 2 = Int64.ofInt (Y b) ∧ g.2 151 3 = Int64.ofInt (L b)
theorem le_clear (g : M2) (X Y L : Nat → Int) : Ok (f_Le_clear g) (fun r => LSt r X Y L none ∧ F1 151 g r) := by
  unfold f_Le_clear
  exact ok_bd (ok_some ⟨⟨uI_s _ _ _ _, fun b hb => absurd hb (by simp)⟩, fun y hy => ⟨uI_o _ _ _ hy, rfl⟩⟩)
theorem le_28 {g : M2} {k : Nat} {X Y L : Nat → Int} (hx : g.2 110 0 = Int64.ofInt (X k)) (hy : -(g.2 110 3) = Int64.ofInt (Y k)) (hl : g.2 72 16 = Int64.ofInt (L k)) : Ok (j_Le_offer_28 72 (cI k) g) (fun r => LSt r X Y L (some k) ∧ F1 151 g r) := by
  unfold j_Le_offer_28 f_So_totalX f_So_totalY f_Nu_realX f_Nu_realY
  refine ok_bd (ok_binde rfl (ok_bd (ok_binde rfl (ok_bd (ok_bd (ok_some ⟨⟨?_, fun b hb => ?_⟩, fun y hy2 => ⟨?_, ?_⟩⟩))))))
  · show (uI g 151 0 (cI k)).1 151 0 = _
    rw [uI_s]; rfl
  · cases hb
    refine ⟨?_, ?_, ?_⟩
    · rw [uJ_k _ _ _ (by decide), uJ_k _ _ _ (by decide), uJ_s]; exact hx
    · rw [uJ_k _ _ _ (by decide), uJ_s, uJ_o _ _ _ (by decide)]; exact hy
    · rw [uJ_s, uJ_o _ _ _ (by decide), uJ_o _ _ _ (by decide)]; exact hl
  · show (uI g 151 0 (cI k)).1 y = _
    rw [uI_o _ _ _ hy2]
  · rw [uJ_o _ _ _ hy2, uJ_o _ _ _ hy2, uJ_o _ _ _ hy2]; rfl
theorem le_offer {g : M2} {k : Nat} {X Y L : Nat → Int} {o : Option Nat} (hS : LSt g X Y L o) (ho : ∀ b, o = some b → b < 4096 ∧ tB (X b) (Y b) (L b)) (hk : tB (X k) (Y k) (L k)) (hx : g.2 110 0 = Int64.ofInt (X k)) (hy : -(g.2 110 3) = Int64.ofInt (Y k)) (hl : g.2 72 16 = Int64.ofInt (L k)) : Ok (f_Le_offer 72 (cI k) g) (fun r => LSt r X Y L (lst X Y L o k) ∧ F1 151 g r) := by
  unfold f_Le_offer
  rw [hS.1]
  cases o with
  | none => exact ok_pos rfl (le_28 hx hy hl)
  | some b =>
    obtain ⟨hb, hbt⟩ := ho b rfl
    obtain ⟨s1, s2, s3, s4⟩ := tB_s hk hbt
    refine ok_neg (cI_m1 (b := b) (by omega)) (ok_binde (show f_So_totalX 72 g = some (Int64.ofInt (X k)) from congrArg some hx) (ok_binde (show f_So_totalY 72 g = some (Int64.ofInt (Y k)) from congrArg some hy) ?_))
    rw [(hS.2 b rfl).1, (hS.2 b rfl).2.1, (hS.2 b rfl).2.2, hl, ← Int64.ofInt_mul, ← Int64.ofInt_mul, ← Int64.ofInt_mul, ← Int64.ofInt_mul, ← Int64.ofInt_sub, ← Int64.ofInt_sub]
    refine ok_binde (da_sign s1 s2 s3 s4 g) ?_
    simp only [s_ge (sgn_r _ _)]
    refine ok_if (fun c => ok_some ⟨?_, fun y _ => ⟨rfl, rfl⟩⟩) (fun c => ?_)
    · show LSt g X Y L (if sgn (X k * L b - X b * L k) (Y k * L b - Y b * L k) < 0 then some k else some b)
      rw [if_neg (by omega)]; exact hS
    · show Ok _ (fun r => LSt r X Y L (if sgn (X k * L b - X b * L k) (Y k * L b - Y b * L k) < 0 then some k else some b) ∧ F1 151 g r)
      rw [if_pos (by omega)]; exact le_28 hx hy hl
/-- what the reference keeps of the least -/
def ML (g : M2) (X Y L : Nat → Int) (o : Option Nat) : Prop := ∀ b, o = some b → g.2 157 34 = Int64.ofInt (X b) ∧ g.2 157 35 = Int64.ofInt (Y b) ∧ g.2 157 36 = Int64.ofInt (L b)
def lsc (c : Bool) (X Y L : Nat → Int) (o : Option Nat) (k : Nat) : Option Nat := if c then lst X Y L o k else o
theorem mo_isLess {g : M2} {k : Nat} {X Y L : Nat → Int} {o : Option Nat} {c : Bool} (h15 : g.1 157 15 = if c then 1 else 0) (hV : c = true → tB (X k) (Y k) (L k) ∧ g.2 157 17 = Int64.ofInt (X k) ∧ g.2 157 18 = Int64.ofInt (Y k) ∧ g.2 157 16 = Int64.ofInt (L k)) (hS : ML g X Y L o) (ho : ∀ b, o = some b → tB (X b) (Y b) (L b)) {p0 : Int32} (hp : p0 = 0 ↔ o ≠ none) : Ok (f_Mo_isLess p0 g) (fun p => (p.1 = 0 ∧ lsc c X Y L o k = o ∨ ¬ p.1 = 0 ∧ lsc c X Y L o k = some k) ∧ ML p.2 X Y L (lsc c X Y L o k) ∧ FM g p.2 ∧ p.2.1 = g.1) := by
  have yes : c = true → Ok (j_Mo_isLess_33 g) (fun p => p.1 = 1 ∧ ML p.2 X Y L (some k) ∧ FM g p.2 ∧ p.2.1 = g.1) := fun hc => by
    obtain ⟨h0, h1, h2, h3⟩ := hV hc
    unfold j_Mo_isLess_33
    refine ok_bd (ok_bd (ok_bd (ok_some ⟨rfl, fun b hb => ?_, ⟨fun y hy => ⟨rfl, ?_⟩, fun j _ => rfl⟩, rfl⟩)))
    · cases hb
      refine ⟨?_, ?_, ?_⟩
      · rw [uJ_k _ _ _ (by decide), uJ_k _ _ _ (by decide), uJ_s]; exact h1
      · rw [uJ_k _ _ _ (by decide), uJ_s, uJ_k _ _ _ (by decide)]; exact h2
      · rw [uJ_s, uJ_k _ _ _ (by decide), uJ_k _ _ _ (by decide)]; exact h3
    · rw [uJ_o _ _ _ (by omega), uJ_o _ _ _ (by omega), uJ_o _ _ _ (by omega)]
  unfold f_Mo_isLess
  refine ok_grd h15 (fun hc => ok_some ⟨Or.inl ⟨rfl, if_neg hc⟩, by unfold lsc; rw [if_neg hc]; exact hS, FM_rf g, rfl⟩) (fun hc => ?_)
  have el : lsc c X Y L o k = lst X Y L o k := if_pos hc
  rw [el]
  cases ho2 : o with
  | none =>
    refine ok_neg (fun e => (hp.mp e) ho2) (ok_mono (yes hc) (fun p hp2 => ⟨Or.inr ⟨by rw [hp2.1]; decide, rfl⟩, hp2.2.1, hp2.2.2⟩))
  | some b =>
    obtain ⟨h0, h1, h2, h3⟩ := hV hc
    obtain ⟨s1, s2, s3, s4⟩ := tB_s h0 (ho b ho2)
    obtain ⟨t1, t2, t3⟩ := hS b ho2
    refine ok_pos (hp.mpr (by rw [ho2]; simp)) ?_
    rw [h1, h2, h3, t1, t2, t3, ← Int64.ofInt_mul, ← Int64.ofInt_mul, ← Int64.ofInt_mul, ← Int64.ofInt_mul, ← Int64.ofInt_sub, ← Int64.ofInt_sub]
    refine ok_binde (mo_sign s1 s2 s3 s4 g) ?_
    simp only [s_lt (sgn_r _ _)]
    refine ok_if (fun d => ?_) (fun d => ok_some ?_)
    · have e2 : lst X Y L (some b) k = some k := if_pos d
      rw [e2]
      exact ok_mono (yes hc) (fun p hp2 => ⟨Or.inr ⟨by rw [hp2.1]; decide, rfl⟩, hp2.2.1, hp2.2.2⟩)
    · have e2 : lst X Y L (some b) k = some b := if_neg d
      rw [e2]
      exact ⟨Or.inl ⟨rfl, rfl⟩, by rw [← ho2]; exact hS, FM_rf g, rfl⟩
/-- totals of a plan -/
theorem hdq_on {n : Nat} {pos : Nat → Nat} {br : Nat} {lk : Option Nat} {ds : List Nat} (h : hdq n pos br lk ds = true) : 0 < (wll lk ds).length ∧ ¬ Lo (wsl lk ds) (wkl pos br n) 0 ∧ Hd (wsl lk ds) (wkl pos br n) (wll lk ds).length := by
  unfold hdq at h
  rw [Bool.and_eq_true] at h
  have h1 : 0 < (wll lk ds).length := by
    unfold wll
    cases lk with
    | none => cases h.1
    | some k => simp
  have h2 := (hdb_iff _ _ _).mp h.2
  exact ⟨h1, look_free h2 h1, h2⟩
theorem tot_b {ws : Nat → Nat} {ps : List Nat} {m : Nat} (hm : m ≤ 5) (hp : ps.length ≤ 5) (h1 : 0 < m) (h0 : ¬ Lo ws ps 0) : tB (tX ws ps m) (tY ws ps m) (lowz ws ps m) := by
  obtain ⟨s1, s2, s3⟩ := sh_re hm hp h1 h0
  unfold tn at s2
  have h6 := sq_nn (tY ws ps m)
  have h7 := abs_le (a := tY ws ps m) s2.1 (by omega)
  have h8 := low_pos (ws := ws) (ps := ps) hm
  have h9 := (low_le (ws := ws) hm hp).2
  unfold tB
  omega
theorem cv_tot {r : M2} {ws : Nat → Nat} {ps : List Nat} {m n : Nat} {pos : Nat → Nat} {br : Nat} (hV : CV 72 r ws ps m n pos br) (h1 : 0 < m) : r.2 110 0 = Int64.ofInt (tX ws ps m) ∧ -(r.2 110 3) = Int64.ofInt (tY ws ps m) ∧ r.2 72 16 = Int64.ofInt (lowz ws ps m) := by
  have hsh := hV.2.1 0 h1
  refine ⟨congrArg (fun z : Q6 => z.1) hsh, ?_, hV.1⟩
  have : r.2 110 3 = Int64.ofInt (shz ws ps m 0).2.2.2 := congrArg (fun z : Q6 => z.2.2.2) hsh
  unfold tY
  rw [this, Int64.ofInt_neg]
/-- totals by a plan -/
abbrev qX (n : Nat) (pos : Nat → Nat) (br : Nat) (lk : Option Nat) (ds : List Nat) : Int := tX (wsl lk ds) (wkl pos br n) (wll lk ds).length
abbrev qY (n : Nat) (pos : Nat → Nat) (br : Nat) (lk : Option Nat) (ds : List Nat) : Int := tY (wsl lk ds) (wkl pos br n) (wll lk ds).length
abbrev qW (n : Nat) (pos : Nat → Nat) (br : Nat) (lk : Option Nat) (ds : List Nat) : Int := lowz (wsl lk ds) (wkl pos br n) (wll lk ds).length
theorem q_tB {n : Nat} {pos : Nat → Nat} {br : Nat} {lk : Option Nat} {ds : List Nat} (hn : n ≤ 5) (hd : ds.length ≤ 4) (h : hdq n pos br lk ds = true) : tB (qX n pos br lk ds) (qY n pos br lk ds) (qW n pos br lk ds) := by
  obtain ⟨h1, h2, _⟩ := hdq_on h
  exact tot_b (wll_len hd) (Nat.le_trans (wkl_len _ _ _) hn) h1 h2
/-- the class offers what its other solver has found -/
theorem tr_offer {g : M2} {n : Nat} {pos : Nat → Nat} {br : Nat} {lk : Option Nat} {ds : List Nat} {k : Nat} {X Y L : Nat → Int} {o : Option Nat} (hT : TS g n pos br lk ds) (hd : hdq n pos br lk ds = true) (eX : X k = qX n pos br lk ds) (eY : Y k = qY n pos br lk ds) (eL : L k = qW n pos br lk ds) (hS : LSt g X Y L o) (ho : ∀ b, o = some b → b < 4096 ∧ tB (X b) (Y b) (L b)) : Ok (f_Le_offer 72 (cI k) g) (fun r => LSt r X Y L (lst X Y L o k) ∧ F1 151 g r) := by
  obtain ⟨h1, _, _⟩ := hdq_on hd
  obtain ⟨c1, c2, c3⟩ := cv_tot (hT.2.2 hd) h1
  refine le_offer hS ho ?_ (by rw [eX]; exact c1) (by rw [eY]; exact c2) (by rw [eL]; exact c3)
  rw [eX, eY, eL]
  exact q_tB hT.1.2.1 hT.1.2.2.2.2.2.2.2.2.1 hd
theorem wb_tot {g : M2} {n : Nat} {pos : Nat → Nat} {br : Nat} {lk : Option Nat} {ds : List Nat} {k : Nat} {X Y L : Nat → Int} (hn : n ≤ 5) (hd : ds.length ≤ 4) (hB : WB g n pos br lk ds) (eX : X k = qX n pos br lk ds) (eY : Y k = qY n pos br lk ds) (eL : L k = qW n pos br lk ds) : hdq n pos br lk ds = true → tB (X k) (Y k) (L k) ∧ g.2 157 17 = Int64.ofInt (X k) ∧ g.2 157 18 = Int64.ofInt (Y k) ∧ g.2 157 16 = Int64.ofInt (L k) := fun h => by
  have hV := hB.2.2.2 h
  rw [eX, eY, eL]
  exact ⟨q_tB hn hd h, hV.2.1, hV.2.2.1, hV.1⟩
theorem mo_with2 {g : M2} {q : Sg} (hw : WF q) (hM : IM g q) {b : Nat} (hb : b < 32) {lk : Option Nat} (hlk : ∀ k, lk = some k → k < 12) : Ok (f_Mo_solvesWith (cI b) (lkI lk) g) (fun r => FM g r ∧ SM r (wkl (sp q) (sb q ||| b) (sn q)) (wsl lk (dsx lk (sd q))) (wll lk (dsx lk (sd q))).length lk.isSome ∧ WA r q b ∧ ∀ j, j ≠ 16 → j ≠ 17 → j ≠ 18 → r.2 157 j = g.2 157 j) := by
  have hl5 : (wll lk (dsx lk (sd q))).length ≤ 5 := wll_len (Nat.le_trans (dsx_len _ _) hw.2.2.2.2.2.1)
  unfold f_Mo_solvesWith
  refine ok_bindm (mo_elements hw hM.2.1 hb) (fun q1 hq1 => ?_)
  obtain ⟨a1, a2, a3, a4, a5, a6⟩ := hq1
  refine ok_bindm (mo_wishes hw (WD_f hM.2.1 (a2 160 (by decide) (by decide) (by decide))) hlk hl5) (fun q2 hq2 => ?_)
  obtain ⟨b1, b2, b3, b4, b5, b6⟩ := hq2
  have hin : MIn q2 (wkl (sp q) (sb q ||| b) (sn q)) (wsl lk (dsx lk (sd q))) (wll lk (dsx lk (sd q))).length := by
    refine ⟨fun j hj => by rw [b2 _ (by decide) (by decide), a2 _ (by decide) (by decide) (by decide)]; exact hM.1 j hj, by rw [b3 _ (by decide) (by decide)]; exact a4, Nat.le_trans (wkl_len _ _ _) hw.1, fun e he => ⟨by rw [b2 _ (by decide) (by decide)]; exact a5 e he, wkl_lt _ _ hw.2.1 _ (getD_mem he)⟩, b4, hl5, fun i hi => ⟨b5 i hi, ?_⟩⟩
    refine wsl_lt hlk (fun i hi => ?_) i hi
    exact hw.2.2.2.2.2.2.1 _ (List.mem_filter.mp (getD_mem hi)).1
  refine ok_bindm (mo_solves hin b6 (fun h => ?_)) (fun q3 hq3 => ok_some ?_)
  · unfold wll
    cases lk with
    | none => cases h
    | some k => simp
  · obtain ⟨c1, c2, c3, c4, c5, c6, c7, c8, c9⟩ := hq3
    have i1 : ∀ y, y ≠ 157 → y ≠ 162 → y ≠ 163 → y ≠ 164 → y ≠ 165 → y ≠ 166 → q3.1 y = g.1 y := fun y y1 y2 y3 y4 y5 y6 => by rw [c1 y y1 y4 y5, b2 y y1 y3, a2 y y1 y2 y6]
    have i2 : ∀ j, j ≠ 8 → j ≠ 10 → j ≠ 11 → j ≠ 14 → j ≠ 15 → q3.1 157 j = g.1 157 j := fun j j1 j2 j3 j4 j5 => by rw [c2 j j4 j5, b3 j j2 j3, a3 j j1]
    have i3 : ∀ y, y ≠ 157 → y ≠ 158 → y ≠ 159 → q3.2 y = g.2 y := fun y y1 y2 y3 => by rw [c3 y y1 y2 y3, b1, a1]
    refine ⟨⟨fun y hy => ⟨i1 y (by omega) (by omega) (by omega) (by omega) (by omega) (by omega), i3 y (by omega) (by omega) (by omega)⟩, fun j hj => i2 j (by omega) (by omega) (by omega) (by omega) (by omega)⟩, ⟨?_, c5, c6, c7, c8, c9⟩, fun e he => by rw [c1 _ (by decide) (by decide) (by decide), b2 _ (by decide) (by decide)]; exact a6 e he, fun j j1 j2 j3 => by rw [c4 j j1 j2 j3, b1, a1]⟩
    obtain ⟨d1, d2, d3, d4, d5, d6, d7⟩ := hin
    exact ⟨fun j hj => by rw [c1 _ (by decide) (by decide) (by decide)]; exact d1 j hj, by rw [c2 _ (by decide) (by decide)]; exact d2, d3, fun e he => by rw [c1 _ (by decide) (by decide) (by decide)]; exact d4 e he, by rw [c2 _ (by decide) (by decide)]; exact d5, d6, fun i hi => by rw [c1 _ (by decide) (by decide) (by decide)]; exact d7 i hi⟩
theorem mo_wL2 {g : M2} {q : Sg} (hw : WF q) (hM : IM g q) {k : Nat} (hk : k < 12) : Ok (f_Mo_solvesWith (0 : Int32) (cI k) g) (fun r => FM g r ∧ WB r (sn q) (sp q) (sb q) (some k) (fd k (sd q)) ∧ ∀ j, j ≠ 16 → j ≠ 17 → j ≠ 18 → r.2 157 j = g.2 157 j) := by
  refine ok_mono (mo_with2 hw hM (b := 0) (by decide) (lk := some k) (fun j hj => by cases hj; exact hk)) (fun r hr => ⟨hr.1, ?_, hr.2.2.2⟩)
  have h := hr.2.1
  rw [dsx_fd, Nat.or_zero] at h
  exact SM_WB h
theorem ML_f {g r : M2} {X Y L : Nat → Int} {o : Option Nat} (h : ML g X Y L o) (k : ∀ j, j ≠ 16 → j ≠ 17 → j ≠ 18 → r.2 157 j = g.2 157 j) : ML r X Y L o := fun b hb => by
  rw [k 34 (by decide) (by decide) (by decide), k 35 (by decide) (by decide) (by decide), k 36 (by decide) (by decide) (by decide)]
  exact h b hb
/-- the reference's two ways to ask -/
theorem mo_less {α : Type} {g : M2} {k : Nat} {X Y L : Nat → Int} {o : Option Nat} {c : Bool} (ho12 : ∀ b, o = some b → b < 4096) (h15 : g.1 157 15 = if c then 1 else 0) (hV : c = true → tB (X k) (Y k) (L k) ∧ g.2 157 17 = Int64.ofInt (X k) ∧ g.2 157 18 = Int64.ofInt (Y k) ∧ g.2 157 16 = Int64.ofInt (L k)) (hS : ML g X Y L o) (ho : ∀ b, o = some b → tB (X b) (Y b) (L b)) {A B : M2 → Option α} {P : α → Prop} (hA : ∀ r, lsc c X Y L o k = o → ML r X Y L o → FM g r → r.1 = g.1 → Ok (A r) P) (hB : ∀ r, lsc c X Y L o k = some k → ML r X Y L (some k) → FM g r → r.1 = g.1 → Ok (B r) P) : Ok (if lkI o = (-1 : Int32) then ((f_Mo_isLess (1 : Int32) g).bind fun q6 => (if q6.1 = 0 then A q6.2 else B q6.2)) else ((f_Mo_isLess (0 : Int32) g).bind fun q4 => (if q4.1 = 0 then A q4.2 else B q4.2))) P := by
  have fin : ∀ p : Int32 × M2, ((p.1 = 0 ∧ lsc c X Y L o k = o ∨ ¬ p.1 = 0 ∧ lsc c X Y L o k = some k) ∧ ML p.2 X Y L (lsc c X Y L o k) ∧ FM g p.2 ∧ p.2.1 = g.1) → Ok (if p.1 = 0 then A p.2 else B p.2) P := by
    rintro p ⟨h1 | h1, h2, h3, h4⟩
    · exact ok_pos h1.1 (hA p.2 h1.2 (by rw [h1.2] at h2; exact h2) h3 h4)
    · exact ok_neg h1.1 (hB p.2 h1.2 (by rw [h1.2] at h2; exact h2) h3 h4)
  cases ho2 : o with
  | none =>
    subst ho2
    exact ok_pos rfl (ok_bindm (mo_isLess h15 hV hS ho (p0 := 1) ⟨fun e => absurd e (by decide), fun e => absurd rfl e⟩) fin)
  | some b =>
    subst ho2
    exact ok_neg (cI_m1 (b := b) (by have := ho12 b rfl; omega)) (ok_bindm (mo_isLess h15 hV hS ho (p0 := 0) ⟨fun _ => by simp, fun _ => rfl⟩) fin)
theorem lsc_s (c : Nat → Bool) (X Y L : Nat → Int) (k : Nat) : lsc (c k) X Y L (lmn c X Y L k) k = lmn c X Y L (k + 1) := by
  unfold lsc
  by_cases h : c k = true
  · rw [if_pos h, lmn_y h]
  · rw [if_neg h, lmn_n h]
abbrev eaX (q : Sg) (k : Nat) : Int := qX (sn q) (sp q) (sb q) (some k) (fd k (sd q))
abbrev eaY (q : Sg) (k : Nat) : Int := qY (sn q) (sp q) (sb q) (some k) (fd k (sd q))
abbrev eaL (q : Sg) (k : Nat) : Int := qW (sn q) (sp q) (sb q) (some k) (fd k (sd q))
/-- only the other solver and the least have changed -/
def FL (g r : M2) : Prop := ∀ y, y < 72 ∨ 138 ≤ y → y ≠ 151 → r.1 y = g.1 y ∧ r.2 y = g.2 y
theorem FL_I {g r : M2} {q : Sg} (hw : WF q) (h : IC g q) (k : FL g r) : IC r q ∧ KC g r := ⟨IC_q hw h (fun y _ hy => k y (by unfold qc at hy; omega) (by unfold qc at hy; omega)), fun y hy => k y (by omega) (by omega)⟩
theorem LS_f {g r : M2} {X Y L : Nat → Int} {o : Option Nat} (h : LSt g X Y L o) (k : FT g r) : LSt r X Y L o := ⟨by rw [(k 151 (by omega)).1]; exact h.1, fun b hb => by rw [(k 151 (by omega)).2]; exact h.2 b hb⟩
theorem pr_easiest {q : Sg} (hw : WF q) : Pr f_Da_easiest f_Mo_easiest q := by
  have hn := hw.1
  have hd4 := hw.2.2.2.2.2.1
  have hfd : ∀ k, (fd k (sd q)).length ≤ 4 := fun k => Nat.le_trans (fd_len k _) hd4
  have hin := lmn_in (lof q) (eaX q) (eaY q) (eaL q)
  have hB : ∀ j b, lmn (lof q) (eaX q) (eaY q) (eaL q) j = some b → tB (eaX q b) (eaY q b) (eaL q b) := fun j b hb => q_tB hn (hfd b) (hin j b hb).2
  refine ⟨lkI (lmn (lof q) (eaX q) (eaY q) (eaL q) 12), q, hw, fun g hg => ?_, fun g hg => ?_⟩
  · unfold f_Da_easiest
    refine ok_bindm (le_clear g (eaX q) (eaY q) (eaL q)) (fun r hr => ?_)
    refine ok_bindm (Q := fun z => LSt z (eaX q) (eaY q) (eaL q) (lmn (lof q) (eaX q) (eaY q) (eaL q) 12) ∧ FL g z) ?_ (fun z hz => ok_some ⟨hz.1.1, FL_I hw hg hz.2⟩)
    refine ok_for 12 (by decide) (fun j z => LSt z (eaX q) (eaY q) (eaL q) (lmn (lof q) (eaX q) (eaY q) (eaL q) j) ∧ FL g z) ⟨hr.1, fun y _ y2 => hr.2 y y2⟩ ?_ ?_
    · rintro j z hj ⟨z1, z2⟩
      show Ok (b_Da_easiest_5 (cI j) z) _
      unfold b_Da_easiest_5
      refine ok_neg (le_no (a := 12) hj (by decide)) (ok_bindm (da_hL (FL_I hw hg z2).1 hj) (fun p hp => ?_))
      have f1 : FL g p.2 := fun y y1 y2 => by rw [(hp.2.2 y y1).1, (hp.2.2 y y1).2]; exact z2 y y1 y2
      refine ok_grd hp.1 (fun c => ok_some ⟨c_succ j, ?_, f1⟩) (fun c => ?_)
      · rw [lmn_n (c := lof q) (k := j) c]; exact LS_f z1 hp.2.2
      · refine ok_bindm (tr_offer (k := j) hp.2.1 c rfl rfl rfl (LS_f z1 hp.2.2) (fun b hb => ⟨by have := (hin j b hb).1; omega, hB j b hb⟩)) (fun r2 hr2 => ok_some ⟨c_succ j, ?_, fun y y1 y2 => ?_⟩)
        · rw [lmn_y (c := lof q) (k := j) c]; exact hr2.1
        · rw [(hr2.2 y y2).1, (hr2.2 y y2).2]; exact f1 y y1 y2
    · rintro z hz
      show Ok (b_Da_easiest_5 (cI 12) z) _
      unfold b_Da_easiest_5
      exact ok_pos (le_yes (a := 12) (Nat.le_refl _) (by decide)) (ok_some hz)
  · unfold f_Mo_easiest
    refine ok_bindm (Q := fun e => e.1 = lkI (lmn (lof q) (eaX q) (eaY q) (eaL q) 12) ∧ FM g e.2) ?_ (fun e he => ok_some ⟨he.1, IM_f hg he.2, FM_K he.2⟩)
    refine ok_lp (fun j st => ∃ z, st = (lkI (lmn (lof q) (eaX q) (eaY q) (eaL q) j), cI j, z) ∧ FM g z ∧ ML z (eaX q) (eaY q) (eaL q) (lmn (lof q) (eaX q) (eaY q) (eaL q) j)) 12 5000 0 _ (by omega) (by omega) ⟨g, rfl, FM_rf g, fun b hb => absurd hb (by simp [lmn])⟩ ?_
    rintro j st hj ⟨z, rfl, hz, hL⟩
    show Ok (b_Mo_easiest_4 (lkI (lmn (lof q) (eaX q) (eaY q) (eaL q) j)) (cI j) z) _
    unfold b_Mo_easiest_4
    by_cases hj2 : j = 12
    · subst hj2
      exact ok_pos (le_yes (a := 12) (Nat.le_refl _) (by decide)) (ok_some ⟨rfl, hz⟩)
    · have hj' : j < 12 := by omega
      have hs := lsc_s (lof q) (eaX q) (eaY q) (eaL q) j
      refine ok_neg (le_no (a := 12) hj' (by decide)) (ok_bindm (mo_wL2 hw (IM_f hg hz) hj') (fun r hr => ?_))
      refine mo_less (c := lof q j) (k := j) (X := eaX q) (Y := eaY q) (L := eaL q) (o := lmn (lof q) (eaX q) (eaY q) (eaL q) j) (A := fun r => some (Sum.inl (lkI (lmn (lof q) (eaX q) (eaY q) (eaL q) j), cI j + (1 : Int32), r))) (B := fun r => some (Sum.inl (cI j, cI j + (1 : Int32), r))) (fun b hb => by have := (hin j b hb).1; omega) hr.2.1.2.2.1 (wb_tot hn (hfd j) hr.2.1 rfl rfl rfl) (ML_f hL hr.2.2) (hB j) (fun r2 e1 e2 e3 e4 => ok_some ⟨hj', r2, ?_, FM_tr hz (FM_tr hr.1 e3), ?_⟩) (fun r2 e1 e2 e3 e4 => ok_some ⟨hj', r2, ?_, FM_tr hz (FM_tr hr.1 e3), ?_⟩)
      · rw [← hs, e1, c_succ]
      · rw [← hs, e1]; exact e2
      · rw [← hs, e1, c_succ]; rfl
      · rw [← hs, e1]; exact e2
