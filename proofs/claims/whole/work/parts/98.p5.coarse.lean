/-! the first that does; coarsest -/
def fsP (V : Nat → Prop) (a b : Nat) (o : Option Nat) : Prop := match o with
  | none => ∀ t, a ≤ t → t < b → ¬ V t
  | some s => a ≤ s ∧ s < b ∧ V s ∧ ∀ t, a ≤ t → t < s → ¬ V t
theorem fs_uq {V : Nat → Prop} {a b : Nat} {o p : Option Nat} (h : fsP V a b o) (k : fsP V a b p) : o = p := by
  cases o with
  | none =>
    cases p with
    | none => rfl
    | some t => exact absurd k.2.2.1 (h t k.1 k.2.1)
  | some s =>
    cases p with
    | none => exact absurd h.2.2.1 (k s h.1 h.2.1)
    | some t =>
      have h1 : ¬ t < s := fun e => h.2.2.2 t k.1 e k.2.2.1
      have h2 : ¬ s < t := fun e => k.2.2.2 s h.1 e h.2.2.1
      have : s = t := by omega
      rw [this]
theorem fs_ex (V : Nat → Prop) (a : Nat) : ∀ n, ∃ o, fsP V a (a + n) o := by
  intro n
  induction n with
  | zero => exact ⟨none, fun t h1 h2 => by omega⟩
  | succ n ih =>
    obtain ⟨o, ho⟩ := ih
    cases o with
    | none =>
      by_cases hV : V (a + n)
      · exact ⟨some (a + n), by omega, by omega, hV, fun t h1 h2 => ho t h1 h2⟩
      · refine ⟨none, fun t h1 h2 hVt => ?_⟩
        by_cases htn : t = a + n
        · subst htn; exact hV hVt
        · exact ho t h1 (by omega) hVt
    | some s => exact ⟨some s, ho.1, by have := ho.2.1; omega, ho.2.2⟩
/-! how large cut gains are -/
theorem qv_l {q : Sg} (hw : WF q) (h : qh q = true) {e : Nat} (he : e < sn q) : (-(1614 * qL q) ≤ (qv q e).1 ∧ (qv q e).1 ≤ 1614 * qL q) ∧ (-(1614 * qL q) ≤ (qv q e).2.1 ∧ (qv q e).2.1 ≤ 1614 * qL q) ∧ (-(1614 * qL q) ≤ (qv q e).2.2.1 ∧ (qv q e).2.2.1 ≤ 1614 * qL q) ∧ (-(1614 * qL q) ≤ (qv q e).2.2.2 ∧ (qv q e).2.2.2 ≤ 1614 * qL q) := by
  obtain ⟨l0, l1⟩ := qL_b hw
  by_cases hb : (sb q).testBit e = true
  · rw [qv_0 hb]
    show (-(1614 * qL q) ≤ (0 : Int) ∧ (0 : Int) ≤ 1614 * qL q) ∧ (-(1614 * qL q) ≤ (0 : Int) ∧ (0 : Int) ≤ 1614 * qL q) ∧ (-(1614 * qL q) ≤ (0 : Int) ∧ (0 : Int) ≤ 1614 * qL q) ∧ (-(1614 * qL q) ≤ (0 : Int) ∧ (0 : Int) ≤ 1614 * qL q)
    omega
  · obtain ⟨h1, h2, h3, h4, h5, h6⟩ := q_on hw h
    have hp : pXz (qv q e) ≤ qL q * 1953125 := by
      have e1 : qv q e = wtz (qw q) (qp q) (qm q) (sp q e) := by
        show wte (qw q) (qp q) (qm q) (sp q) (sb q) e = _
        unfold wte; rw [if_neg hb]
      rw [e1]
      exact wt_le1 (WF_m hw) h4 h1 h2 (fun i hi => Nat.le_of_lt (h5 i hi)) (wk_mem he hb)
    have hLL : qL q ≤ qL q * qL q := by
      have := Int.mul_le_mul_of_nonneg_left (show 1 ≤ qL q by omega) (show 0 ≤ qL q by omega)
      omega
    have hNN : (1614 * qL q) * (1614 * qL q) = 2604996 * (qL q * qL q) := by grind
    have key : ∀ a : Int, 3 * (a * a) ≤ 4 * pXz (qv q e) → -(1614 * qL q) ≤ a ∧ a ≤ 1614 * qL q := fun a ha => by
      have := abs_le (a := a) (N := 1614 * qL q) (by omega) (by omega)
      exact ⟨this.2, this.1⟩
    obtain ⟨p1, p2, p3, p4⟩ := p3_le (qv q e).1 (qv q e).2.1 (qv q e).2.2.1 (qv q e).2.2.2
    exact ⟨key _ p1, key _ p2, key _ p3, key _ p4⟩
theorem ct_l {a L : Int} {s : Nat} (hL : 0 < L) (hs : s ≤ 99) (h1 : -(1614 * L) ≤ a) (h2 : a ≤ 1614 * L) : -159787 ≤ ct a s L ∧ ct a s L ≤ 159787 := by
  have hb := ct_b (a := a) (s := (s : Int)) hL
  have hsa := mul_b (a := (s : Int)) (b := a) (A := 99) (B := 1614 * L) (by omega) (by omega) h1 h2
  rw [Int.neg_mul] at hb
  generalize ct a s L = c at *
  constructor
  · refine Int.le_of_mul_le_mul_left (a := L) ?_ hL
    generalize (s : Int) * a = m at *
    generalize hk : L * c = k at *
    have : L * -159787 = -(159787 * L) := by grind
    omega
  · refine Int.le_of_mul_le_mul_left (a := L) ?_ hL
    generalize (s : Int) * a = m at *
    generalize hk : L * c = k at *
    have : L * 159787 = 159787 * L := by grind
    omega
/-- cut weights of a bounded size -/
def bW (W : Nat → Z4) (n : Nat) (N : Int) : Prop := ∀ e, e < n → (-N ≤ (W e).1 ∧ (W e).1 ≤ N) ∧ (-N ≤ (W e).2.1 ∧ (W e).2.1 ≤ N) ∧ (-N ≤ (W e).2.2.1 ∧ (W e).2.2.1 ≤ N) ∧ (-N ≤ (W e).2.2.2 ∧ (W e).2.2.2 ≤ N)
theorem cz_b {q : Sg} (hw : WF q) (h : qh q = true) {s : Nat} (hs : s ≤ 99) : bW (cz q s) (sn q) 159787 := by
  intro e he
  obtain ⟨l0, l1⟩ := qL_b hw
  obtain ⟨a, b, c, d⟩ := qv_l hw h he
  exact ⟨ct_l l0 hs a.1 a.2, ct_l l0 hs b.1 b.2, ct_l l0 hs c.1 c.2, ct_l l0 hs d.1 d.2⟩
theorem cg_l {q : Sg} (hw : WF q) {W : Nat → Z4} (h : bW W (sn q) 200000) (k : Nat) : 0 ≤ pXz (cg q W k (sn q)) ∧ pXz (cg q W k (sn q)) ≤ 2 ^ 43 ∧ -2 ^ 43 ≤ pYz (cg q W k (sn q)) ∧ pYz (cg q W k (sn q)) ≤ 2 ^ 43 := by
  have h1 := cg_b hw (W := W) (B := 6 * (200000 * 200000)) (by decide) (fun e he => pX_c (h e he).1 (h e he).2.1 (h e he).2.2.1 (h e he).2.2.2) k
  have h2 := pXz_nn (cg q W k (sn q))
  have h3 := pY_le (cg q W k (sn q))
  omega
theorem bW_m {W : Nat → Z4} {n : Nat} {N M : Int} (h : bW W n N) (hNM : N ≤ M) : bW W n M := fun e he => by
  have := h e he
  omega
/-- cut powers against a bound -/
def cmC (q : Sg) (x y : Int32) (s k : Nat) : Int := sgn (y.toInt * pXz (cg q (cz q s) k (sn q)) - (x.toInt * s) * s) (y.toInt * pYz (cg q (cz q s) k (sn q)))
theorem cmC_r (q : Sg) (x y : Int32) (s k : Nat) : cmC q x y s k = -1 ∨ cmC q x y s k = 0 ∨ cmC q x y s k = 1 := sgn_r _ _
theorem cmC_b {q : Sg} (hw : WF q) (h : qh q = true) {x y : Int32} (hf : fr x y) {s : Nat} (hs : s ≤ 99) (k : Nat) : -2 ^ 57 ≤ y.toInt * pXz (cg q (cz q s) k (sn q)) - (x.toInt * s) * s ∧ y.toInt * pXz (cg q (cz q s) k (sn q)) - (x.toInt * s) * s ≤ 2 ^ 57 ∧ -2 ^ 57 ≤ y.toInt * pYz (cg q (cz q s) k (sn q)) ∧ y.toInt * pYz (cg q (cz q s) k (sn q)) ≤ 2 ^ 57 := by
  obtain ⟨⟨f1, f2⟩, f3, f4⟩ := hf
  obtain ⟨c1, c2, c3, c4⟩ := cg_l hw (bW_m (cz_b hw h hs) (by decide)) k
  have a1 := mul_b (a := y.toInt) (b := pXz (cg q (cz q s) k (sn q))) (A := 99) (B := 2 ^ 43) (by omega) f4 (by omega) c2
  have a2 := mul_b (a := y.toInt) (b := pYz (cg q (cz q s) k (sn q))) (A := 99) (B := 2 ^ 43) (by omega) f4 c3 c4
  have a3 := mul_b (a := x.toInt) (b := (s : Int)) (A := 99) (B := 99) f1 f2 (by omega) (by omega)
  have a30 : 0 ≤ x.toInt * s := Int.mul_nonneg f1 (by omega)
  have a4 := mul_b (a := x.toInt * s) (b := (s : Int)) (A := 9801) (B := 99) a30 (by omega) (by omega) (by omega)
  omega
/-- all deaf ones are at most the bound -/
def cob (q : Sg) (x y : Int32) (s : Nat) : Prop := ∀ i, i < (sd q).length → cmC q x y s ((sd q).getD i 0) ≤ 0
/-- only the cutter has changed -/
def FC (g r : M2) : Prop := ∀ y, ¬ (138 ≤ y ∧ y ≤ 150) → r.1 y = g.1 y ∧ r.2 y = g.2 y
theorem FC_rf (g : M2) : FC g g := fun _ _ => ⟨rfl, rfl⟩
theorem FC_tr {g r z : M2} (h : FC g r) (k : FC r z) : FC g z := fun y hy => ⟨(k y hy).1.trans (h y hy).1, (k y hy).2.trans (h y hy).2⟩
theorem FC_I {g r : M2} {q : Sg} (hw : WF q) (h : IC g q) (k : FC g r) : IC r q ∧ KC g r := ⟨IC_q hw h (fun y _ hy => k y (by unfold qc at hy; omega)), fun y hy => k y (by omega)⟩
theorem FC_N {g r : M2} {q : Sg} (hw : WF q) (h : Now g q) (k : FC g r) : Now r q := Now_mono (WF_m hw) hw.1 h (k 6 (by omega)).1 (k 10 (by omega)).1 (k 11 (by omega)).1 (k 6 (by omega)).2 (fun y y1 y2 => (k y (by omega)).2)
theorem cu_deaf {g : M2} {q : Sg} (hw : WF q) (h : qh q = true) (hC : IC g q) {s : Nat} (hs : s ≤ 99) (hc : CC g q s) {x y : Int32} (hf : fr x y) : Ok (f_Cu_deafAtMost 6 (cI s) x y g) (fun p => (p.1 = 1 ∧ cob q x y s ∨ p.1 = 0 ∧ ¬ cob q x y s) ∧ FC g p.2) := by
  have hd4 := hw.2.2.2.2.2.1
  have hn := hw.1
  unfold f_Cu_deafAtMost
  refine ok_bindm (Q := fun u => Sum.elim (fun z => cob q x y s ∧ FC g z) (fun p => (p.1 = 0 ∧ ¬ cob q x y s) ∧ FC g p.2) u) ?_ (fun u hu => ?_)
  · refine ok_for (sd q).length (by omega) (fun j z => (z.1 = g.1 ∧ ∀ y, y ≠ 150 → z.2 y = g.2 y) ∧ ∀ i, i < j → cmC q x y s ((sd q).getD i 0) ≤ 0) ⟨⟨rfl, fun _ _ => rfl⟩, fun i hi => absurd hi (by omega)⟩ ?_ ?_
    · rintro j z hj ⟨⟨z1, z2⟩, z3⟩
      show Ok (b_Cu_deafAtMost_5 (cI s) x y 7 (cI j) z) _
      unfold b_Cu_deafAtMost_5
      rw [z1, show g.1 7 5 = cI (sd q).length from hC.1.2.2.2.2.2.2.2.1]
      refine ok_neg (le_no hj (by omega)) (ok_pos (inb_cI (by omega) (by decide)) ?_)
      rw [cI_nat (by omega), (hC.1.2.2.2.2.2.2.2.2.2 j hj).1]
      have hCz : IC z q := (FC_I hw hC (fun y hy => ⟨by rw [z1], z2 y (by omega)⟩)).1
      have hcz : CC z q s := fun e he => by rw [rN_f (z2 _ (by omega))]; exact hc e he
      refine ok_bindm (da_cutGain hCz hcz (d12 hw hj) (t := 150) (fun e he => by omega)) (fun w hw2 => ?_)
      obtain ⟨b1, b2, b3, b4⟩ := cmC_b hw h hf hs ((sd q).getD j 0)
      rw [pX64 hw2.2.2.1, pY64 hw2.2.2.1, ← Int64.ofInt_int32ToInt, ← Int64.ofInt_int32ToInt, ← Int64.ofInt_int32ToInt, cI_toInt (by omega), ← Int64.ofInt_mul, ← Int64.ofInt_mul, ← Int64.ofInt_mul, ← Int64.ofInt_mul, ← Int64.ofInt_sub]
      refine ok_binde (da_sign b1 b2 b3 b4 w) ?_
      have fr2 : w.1 = g.1 ∧ ∀ y, y ≠ 150 → w.2 y = g.2 y := ⟨hw2.1.trans z1, fun y hy => (hw2.2.1 y hy).trans (z2 y hy)⟩
      simp only [s_le (sgn_r _ _)]
      refine ok_if (fun d => ok_some ⟨c_succ j, fr2, fun i hi => ?_⟩) (fun d => ok_some ⟨⟨rfl, fun ha => d (ha j hj)⟩, fun y hy => ⟨by rw [fr2.1], fr2.2 y (by omega)⟩⟩)
      by_cases hij : i = j
      · rw [hij]; exact d
      · exact z3 i (by omega)
    · rintro z ⟨⟨z1, z2⟩, z3⟩
      show Ok (b_Cu_deafAtMost_5 (cI s) x y 7 (cI (sd q).length) z) _
      unfold b_Cu_deafAtMost_5
      rw [z1, show g.1 7 5 = cI (sd q).length from hC.1.2.2.2.2.2.2.2.1]
      exact ok_pos (le_yes (Nat.le_refl _) (by omega)) (ok_some ⟨z3, fun y hy => ⟨by rw [z1], z2 y (by omega)⟩⟩)
  · cases u with
    | inl z => exact ok_some ⟨Or.inl ⟨rfl, hu.1⟩, hu.2⟩
    | inr p => exact ok_some ⟨Or.inr hu.1, hu.2⟩
/-- reference states that hold what was solved -/
def MF (r z : M2) : Prop := z.1 = r.1 ∧ (∀ y, y ≠ 157 → y ≠ 158 → y ≠ 159 → z.2 y = r.2 y) ∧ (∀ j, j ≠ 3 → j ≠ 4 → j ≠ 32 → j ≠ 33 → z.2 157 j = r.2 157 j) ∧ ∀ a, a < 80 → rM z a = rM r a
theorem MF_rf (r : M2) : MF r r := ⟨rfl, fun _ _ _ _ => rfl, fun _ _ _ _ _ => rfl, fun _ _ => rfl⟩
theorem MF_tr {r z w : M2} (h : MF r z) (k : MF z w) : MF r w := ⟨k.1.trans h.1, fun y a b c => (k.2.1 y a b c).trans (h.2.1 y a b c), fun j a b c d => (k.2.2.1 j a b c d).trans (h.2.2.1 j a b c d), fun a ha => (k.2.2.2 a ha).trans (h.2.2.2 a ha)⟩
theorem MF_F {r z : M2} (h : MF r z) : FM r z := ⟨fun y hy => ⟨by rw [h.1], h.2.1 y (by omega) (by omega) (by omega)⟩, fun j _ => by rw [h.1]⟩
theorem MF_Q {r z : M2} {q : Sg} (hQ : Mqr r q) (h : MF r z) : Mqr z q := by
  obtain ⟨h1, h2, h157, h4⟩ := h
  have hf := MF_F (r := r) (z := z) ⟨h1, h2, h157, h4⟩
  obtain ⟨a1, ⟨d1, d2, d3, d4, d5, d6, d7⟩, ⟨v1, v2, v3, v4, v5, v6, v7⟩, a4⟩ := hQ
  have hfl : (fl (Gz (qw q) (qp q)) (qm q)).length ≤ 5 := Nat.le_trans (fl_le _ _) d6
  exact ⟨IM_f a1 hf, ⟨fun j hj => by rw [h1]; exact d1 j hj, by rw [h1]; exact d2, d3, fun e he => by rw [h1]; exact d4 e he, by rw [h1]; exact d5, d6, fun i hi => by rw [h1]; exact d7 i hi⟩, ⟨by rw [h157 16 (by decide) (by decide) (by decide) (by decide)]; exact v1, by rw [h157 17 (by decide) (by decide) (by decide) (by decide)]; exact v2, by rw [h157 18 (by decide) (by decide) (by decide) (by decide)]; exact v3, fun j hj => by rw [h4 _ (by omega)]; exact v4 j hj, by rw [h4 _ (by omega)]; exact v5, fun e he => by rw [h4 _ (by omega)]; exact v6 e he, fun k hk => by rw [h4 _ (by omega)]; exact v7 k hk⟩, fun e he => by rw [h1]; exact a4 e he⟩
/-- weights cut, in the reference -/
def CW (z : M2) (q : Sg) (W : Nat → Z4) : Prop := ∀ e, e < sn q → rM z (82 + e) = q64 (W e)
theorem mo_cp {A : Type} {z : M2} {q : Sg} (hw : WF q) (hI : IM z q) {W : Nat → Z4} (hW : CW z q W) (h0 : ∀ e, e < sn q → (sb q).testBit e = true → W e = (0, 0, 0, 0)) {k : Nat} (hk : k < 12) {K : M2 → Option A} {P : A → Prop} (hK : ∀ u, MF z u → CW u q W → u.2 157 3 = Int64.ofInt (pXz (cg q W k (sn q))) → u.2 157 4 = Int64.ofInt (pYz (cg q W k (sn q))) → (∀ j, j ≠ 3 → j ≠ 4 → u.2 157 j = z.2 157 j) → Ok (K u) P) : Ok ((f_Mo_laysCutGain (cI k) z).bind fun q5 => (f_Mo_laysPower (87 : Int32) q5).bind K) P := by
  have hn := hw.1
  refine ok_bindm (mo_cutGain hw hI (MN_rf z) hW h0 hk) (fun w hw2 => ok_bindm (mo_laysPowr (a := 87) (PW_N hI.1 hw2) (by decide) (by decide) (by decide) ((hw2.2.2 87 (by decide)).trans (up_s _ _ _))) (fun p hp => ?_))
  refine hK p ⟨by rw [hp.1, hw2.1], fun y a b c => by rw [hp.2.1 y a b c, hw2.2.1 y b c], fun j a b _ _ => by rw [hp.2.2.1 j a b, hw2.2.1 157 (by decide) (by decide)], fun a ha => by rw [hp.2.2.2.1 a ha, hw2.2.2 a (by omega), up_o _ _ (by omega)]⟩ (fun e he => ?_) hp.2.2.2.2.2.1 hp.2.2.2.2.2.2 (fun j a b => by rw [hp.2.2.1 j a b, hw2.2.1 157 (by decide) (by decide)])
  rw [hp.2.2.2.2.1 _ (by omega) (by omega), hw2.2.2 _ (by omega), up_o _ _ (by omega)]; exact hW e he
theorem mo_cuts2 {g : M2} {q : Sg} (hw : WF q) (h : qh q = true) (hQ : Mqr g q) {s : Nat} (hs : s ≤ 99) : Ok (f_Mo_laysCuts (cI s) g) (fun r => MF g r ∧ CW r q (cz q s)) := by
  have hn := hw.1
  refine ok_mono (mo_cuts hw h hQ hs) (fun r hr => ?_)
  obtain ⟨D, hD, hD1, hD2⟩ := hr
  exact ⟨⟨hD.1, fun y _ b c => hD.2.1 y b c, fun j _ _ _ _ => by rw [hD.2.1 157 (by decide) (by decide)], fun a ha => by rw [hD.2.2 a (by omega), hD2 a (by omega)]⟩, fun e he => by rw [hD.2.2 _ (by omega)]; exact hD1 e he⟩
theorem pr_coarsest {q : Sg} (hw : WF q) (x y : Int32) : Pr (f_Da_coarsest x y) (f_Mo_coarsest x y) q := by
  have hd4 := hw.2.2.2.2.2.1
  by_cases hc : qh q = true ∧ fr x y
  · obtain ⟨h, c1⟩ := hc
    obtain ⟨o, ho⟩ := fs_ex (cob q x y) 1 99
    refine ⟨lkI o, q, hw, cs_ref hw (fun g => rfl) (fun n => absurd h n) (fun _ r hC hN => ?_), fun g hg => ?_⟩
    · refine ok_grd (da_frac x y r) (fun n => absurd c1 n) (fun _ => ?_)
      refine ok_bindm (Q := fun u => Sum.elim (fun z => o = none ∧ FC r z) (fun p => p.1 = lkI o ∧ FC r p.2) u) ?_ (fun u hu => ?_)
      · refine ok_lp (fun j st => ∃ z, st = (cI (1 + j), z) ∧ FC r z ∧ ∀ t, 1 ≤ t → t < 1 + j → ¬ cob q x y t) 99 5000 0 _ (by omega) (by omega) ⟨r, rfl, FC_rf r, fun t h1 h2 => by omega⟩ ?_
        rintro j st hj ⟨z, rfl, hz, hV⟩
        show Ok (b_Da_coarsest_14 x y (cI (1 + j)) z) _
        unfold b_Da_coarsest_14
        by_cases hj2 : j = 99
        · subst hj2
          refine ok_pos (lt_yes (a := 99) (b := 1 + 99) (by decide) (by decide)) (ok_some ⟨?_, hz⟩)
          exact fs_uq ho (show fsP (cob q x y) 1 (1 + 99) none from hV)
        · refine ok_neg (lt_no (b := 1 + j) (a := 99) (by omega) (by decide)) ?_
          have hIz := (FC_I hw hC hz).1
          refine ok_bindm (cu_round hw h hIz (FC_N hw hN hz) (s := 1 + j) (by omega)) (fun w hw2 => ?_)
          have fw : FC z w := fun y hy => ⟨by rw [hw2.1], hw2.2.1 y (by omega)⟩
          refine ok_bindm (cu_deaf hw h (FC_I hw hIz fw).1 (s := 1 + j) (by omega) hw2.2.2 c1) (fun p hp => ?_)
          have fp := FC_tr hz (FC_tr fw hp.2)
          rcases hp.1 with ⟨e, hV2⟩ | ⟨e, hV2⟩
          · refine ok_neg (by rw [e]; decide) (ok_some ⟨?_, fp⟩)
            have : o = some (1 + j) := fs_uq ho (show fsP (cob q x y) 1 (1 + 99) (some (1 + j)) from ⟨by omega, by omega, hV2, hV⟩)
            rw [this]; rfl
          · refine ok_pos e (ok_some ⟨by omega, p.2, by rw [c_succ]; rfl, fp, fun t h1 h2 => ?_⟩)
            by_cases ht : t = 1 + j
            · rw [ht]; exact hV2
            · exact hV t h1 (by omega)
      · cases u with
        | inl z => exact ok_some ⟨by rw [hu.1]; rfl, FC_I hw hC hu.2⟩
        | inr p => exact ok_some ⟨hu.1, FC_I hw hC hu.2⟩
    · unfold f_Mo_coarsest
      refine ok_grd (mo_frac x y g) (fun n => absurd c1 n) (fun _ => ms_cq hw hg (fun n => absurd h n) (fun _ _ r hQ => ?_))
      refine ok_bindm (Q := fun u => Sum.elim (fun z => o = none ∧ FM r z) (fun p => p.1 = lkI o ∧ FM r p.2) u) ?_ (fun u hu => ?_)
      · refine ok_lp (fun j st => ∃ z, st = (cI (1 + j), z) ∧ MF r z ∧ ∀ t, 1 ≤ t → t < 1 + j → ¬ cob q x y t) 99 5000 0 _ (by omega) (by omega) ⟨r, rfl, MF_rf r, fun t h1 h2 => by omega⟩ ?_
        rintro j st hj ⟨z, rfl, hz, hV⟩
        show Ok (b_Mo_coarsest_11 x y (cI (1 + j)) z) _
        unfold b_Mo_coarsest_11
        by_cases hj2 : j = 99
        · subst hj2
          refine ok_pos (lt_yes (a := 99) (b := 1 + 99) (by decide) (by decide)) (ok_some ⟨?_, MF_F hz⟩)
          exact fs_uq ho (show fsP (cob q x y) 1 (1 + 99) none from hV)
        · refine ok_neg (lt_no (b := 1 + j) (a := 99) (by omega) (by decide)) (ok_bindm (mo_cuts2 hw h (MF_Q hQ hz) (s := 1 + j) (by omega)) (fun w hw2 => ?_))
          refine ok_bindm (Q := fun e => (e.1 = 1 ∧ cob q x y (1 + j) ∨ e.1 = 0 ∧ ¬ cob q x y (1 + j)) ∧ MF z e.2) ?_ (fun e he => ?_)
          · refine ok_lp (fun i st => ∃ v u, st = (v, cI i, u) ∧ MF z u ∧ CW u q (cz q (1 + j)) ∧ (v = 1 ∧ (∀ t, t < i → cmC q x y (1 + j) ((sd q).getD t 0) ≤ 0) ∨ v = 0 ∧ ¬ cob q x y (1 + j))) (sd q).length 5000 0 _ (by omega) (by omega) ⟨1, w, rfl, hw2.1, hw2.2, Or.inl ⟨rfl, fun t ht => absurd ht (by omega)⟩⟩ ?_
            rintro i st hi ⟨v, u, rfl, hu1, hu2, hv⟩
            show Ok (b_Mo_coarsest_21 x y (cI (1 + j)) v (cI i) u) _
            unfold b_Mo_coarsest_21
            have hQu := MF_Q (MF_Q hQ hz) hu1
            rw [hQu.1.2.1.2.2.2.2.2.1]
            by_cases hi2 : i = (sd q).length
            · refine ok_pos (le_yes (by omega) (by omega)) (ok_some ⟨?_, hu1⟩)
              rcases hv with ⟨e, hv2⟩ | hv2
              · exact Or.inl ⟨e, by rw [hi2] at hv2; exact hv2⟩
              · exact Or.inr hv2
            · have hi' : i < (sd q).length := by omega
              refine ok_neg (le_no hi' (by omega)) ?_
              rcases hv with ⟨e, hv2⟩ | hv2
              · refine ok_neg (by rw [e]; decide) ?_
                rw [show (14 : Int32) = cI 14 from rfl, cI_add]
                refine ok_pos (inb_cI (by omega) (by decide)) ?_
                rw [cI_nat (by omega), hQu.1.2.1.2.2.2.2.2.2.1 i hi']
                refine mo_cp hw hQu.1 hu2 (fun e _ hb => cz_0 hw hb _) (d12 hw hi') (fun p p1 p2 p3 p4 _ => ?_)
                obtain ⟨b1, b2, b3, b4⟩ := cmC_b hw h c1 (s := 1 + j) (by omega) ((sd q).getD i 0)
                rw [p3, p4, ← Int64.ofInt_int32ToInt, ← Int64.ofInt_int32ToInt, ← Int64.ofInt_int32ToInt, cI_toInt (by omega), ← Int64.ofInt_mul, ← Int64.ofInt_mul, ← Int64.ofInt_mul, ← Int64.ofInt_mul, ← Int64.ofInt_sub, Int.mul_comm (pXz (cg q (cz q (1 + j)) ((sd q).getD i 0) (sn q))), Int.mul_comm (pYz (cg q (cz q (1 + j)) ((sd q).getD i 0) (sn q)))]
                refine ok_binde (mo_sign b1 b2 b3 b4 p) ?_
                simp only [s_gt (sgn_r _ _)]
                refine ok_if (fun d => ok_some ⟨hi', 0, p, by rw [c_succ], MF_tr hu1 p1, p2, Or.inr ⟨rfl, fun ha => ?_⟩⟩) (fun d => ok_some ⟨hi', 1, p, by rw [c_succ], MF_tr hu1 p1, p2, Or.inl ⟨rfl, fun t ht => ?_⟩⟩)
                · have h3 : sgn _ _ ≤ 0 := ha i hi'
                  omega
                · by_cases hti : t = i
                  · rw [hti]
                    show sgn _ _ ≤ 0
                    omega
                  · exact hv2 t (by omega)
              · exact ok_pos hv2.1 (ok_some ⟨Or.inr hv2, hu1⟩)
          · have fe := MF_tr hz he.2
            rcases he.1 with ⟨e1, hV2⟩ | ⟨e1, hV2⟩
            · refine ok_neg (by rw [e1]; decide) (ok_some ⟨?_, MF_F fe⟩)
              have : o = some (1 + j) := fs_uq ho (show fsP (cob q x y) 1 (1 + 99) (some (1 + j)) from ⟨by omega, by omega, hV2, hV⟩)
              rw [this]; rfl
            · refine ok_pos e1 (ok_some ⟨by omega, e.2, by rw [c_succ]; rfl, fe, fun t h1 h2 => ?_⟩)
              by_cases ht : t = 1 + j
              · rw [ht]; exact hV2
              · exact hV t h1 (by omega)
      · cases u with
        | inl z => exact ok_some ⟨by rw [hu.1]; rfl, hu.2⟩
        | inr p => exact ok_some hu
  · refine ⟨-2, q, hw, cs_ref hw (fun g => rfl) (fun n => rfl) (fun h r hC hN => ?_), fun g hg => ?_⟩
    · exact ok_grd (da_frac x y r) (fun _ => ok_some ⟨rfl, hC, KC_rf r⟩) (fun c => absurd ⟨h, c⟩ hc)
    · unfold f_Mo_coarsest
      exact ok_grd (mo_frac x y g) (fun _ => ok_some ⟨rfl, hg, KM_rf g⟩) (fun c => ms_no hw hg (fun h => hc ⟨h, c⟩))
