/-! bounds -/
def bd5 (N : Int) (a : Z4) : Prop := isT (qsub (N, 0, 0, 0) a)
theorem T_add {a b : Z4} (h : isT a) (k : isT b) : isT (qadd a b) := z_pos.2.1.2.2.1 a b h k
theorem T_mul {a b : Z4} (h : isT a) (k : isT b) : isT (qmul a b) := z_pos.2.1.2.2.2.1 a b h k
theorem T_int {n : Int} (h : 0 ≤ n) : isT (n, 0, 0, 0) := ⟨n, 0, rfl, tn_int h⟩
theorem bd_mul {N M : Int} {a b : Z4} (hN : 0 ≤ N) (ha : bd5 N a) (hb : bd5 M b) (tb : isT b) : bd5 (N * M) (qmul a b) := by
  have h := T_add (T_mul (T_int hN) hb) (T_mul tb ha)
  unfold bd5
  have e : qsub (N * M, 0, 0, 0) (qmul a b) = qadd (qmul (N, 0, 0, 0) (qsub (M, 0, 0, 0) b)) (qmul b (qsub (N, 0, 0, 0) a)) := by
    apply q_ext <;> simp only [qadd, qmul, qsub] <;> grind
  rw [e]; exact h
theorem bd_x {N : Int} {x y : Int} (h : bd5 N (re x y)) : x ≤ N := by
  obtain ⟨u, v, e, k⟩ := h
  have := congrArg (fun q : Z4 => q.1) e
  simp only [qsub, re] at this
  have := k.1
  omega
theorem T_x {x y : Int} (h : isT (re x y)) : tn x y := by
  obtain ⟨u, v, e, k⟩ := h
  have e1 := congrArg (fun q : Z4 => q.1) e
  have e2 := congrArg (fun q : Z4 => q.2.2.2) e
  simp only [re] at e1 e2
  have : y = v := by omega
  rw [e1, this]; exact k
def p5 : Nat → Int
  | 0 => 1
  | n + 1 => 5 * p5 n
theorem p5_nn (n : Nat) : 0 ≤ p5 n := by
  induction n with
  | zero => decide
  | succ n ih => simp only [p5]; omega
theorem p5_le {n m : Nat} (h : n ≤ m) : p5 n ≤ p5 m := by
  induction m with
  | zero => rw [Nat.le_zero.mp h]; exact Int.le_refl _
  | succ m ih =>
    rcases Nat.le_succ_iff.mp h with h | h
    · have := ih h; have := p5_nn m; simp only [p5]; omega
    · rw [h]; exact Int.le_refl _
theorem gd_bd (ws : Nat → Nat) (ps : List Nat) (hp : ps.length ≤ 5) : ∀ (f : List Nat), @gd Z4 (qR Int) (Gz ws ps) f → f.length ≤ 5 → bd5 (p5 f.length) (zdx (Gz ws ps) f f) := by
  intro f
  induction f with
  | nil => intro _ _; exact ⟨0, 0, rfl, tn_int (Int.le_refl 0)⟩
  | cons a f ih =>
    intro hg hl
    have h1 := ih hg.1 (by simp at hl; omega)
    have h2 := (@gd_T Z4 (qR Int) cj isT z_pos (ps.map (hz ws)) z_10 f hg.1 (by simp at hl; omega)).1
    have h3 := @up_T Z4 (qR Int) cj isT z_pos (ps.map (hz ws)) z_10 (((ps.length : Nat) : Int), 0, 0, 0) (fun i => Gz_ii ws ps i) rfl f hg.1 (by simp at hl; omega) a
    have h4 := T_add (T_add (T_mul (T_int (n := 5) (by decide)) h1) (T_mul (T_int (n := 5 - (ps.length : Int)) (by omega)) h2)) h3
    have e : qsub (p5 (a :: f).length, 0, 0, 0) (zdx (Gz ws ps) (a :: f) (a :: f)) = qadd (qadd (qmul (5, 0, 0, 0) (qsub (p5 f.length, 0, 0, 0) (zdx (Gz ws ps) f f))) (qmul (5 - (ps.length : Int), 0, 0, 0) (zdx (Gz ws ps) f f))) (qsub (qmul (((ps.length : Nat) : Int), 0, 0, 0) (zdx (Gz ws ps) f f)) (zdx (Gz ws ps) (a :: f) (a :: f))) := by
      simp only [List.length_cons, p5]
      generalize zdx (Gz ws ps) f f = x
      generalize zdx (Gz ws ps) (a :: f) (a :: f) = y
      apply q_ext <;> simp only [qadd, qmul, qsub] <;> grind
    unfold bd5
    rw [e]
    exact h4
theorem bd_mono {N M : Int} {a : Z4} (h : bd5 N a) (hl : N ≤ M) : bd5 M a := by
  have h2 := T_add h (T_int (n := M - N) (by omega))
  unfold bd5
  have e : qsub (M, 0, 0, 0) a = qadd (qsub (N, 0, 0, 0) a) (M - N, 0, 0, 0) := by
    apply q_ext <;> simp only [qadd, qsub] <;> grind
  rw [e]; exact h2
def pXz (a : Z4) : Int := pX a.1 a.2.1 a.2.2.1 a.2.2.2
def pYz (a : Z4) : Int := pY a.1 a.2.1 a.2.2.1 a.2.2.2
theorem pXz_nn (a : Z4) : 0 ≤ pXz a := (p_tn _ _ _ _).1
theorem pXz_rt (a : Z4) (k : Nat) : pXz (qmul a (rt k)) = pXz a ∧ pYz (qmul a (rt k)) = pYz a := by
  have h1 := pw_eq (qmul a (rt k))
  have h2 := pw_eq a
  have h3 : qmul (qmul a (rt k)) (cj (qmul a (rt k))) = qmul a (cj a) := by
    have e : qmul (rt k) (cj (rt k)) = (1, 0, 0, 0) := by
      rw [cj_rt, rt_mul, rt_eq (j := 0) (by omega)]; rfl
    rw [cj_mul]
    have e2 : qmul (qmul a (rt k)) (qmul (cj a) (cj (rt k))) = qmul (qmul a (cj a)) (qmul (rt k) (cj (rt k))) := by
      apply q_ext <;> simp only [qmul] <;> grind
    rw [e2, e]
    apply q_ext <;> simp only [qmul] <;> grind
  rw [h3, h2] at h1
  have e1 := congrArg (fun q : Z4 => q.1) h1
  have e2 := congrArg (fun q : Z4 => q.2.2.2) h1
  simp only [re] at e1 e2
  exact ⟨e1.symm, by unfold pYz; omega⟩
def isum : List Int → Int
  | [] => 0
  | a :: l => a + isum l
def pB (a b : Z4) : Int := pXz (qadd a b) - pXz a - pXz b
theorem pB_add (a b d : Z4) : pB a (qadd b d) = pB a b + pB a d := by
  unfold pB pXz pX qadd; grind
theorem pB_le (a b : Z4) : pB a b ≤ pXz a + pXz b := by
  have h := pXz_nn (qsub a b)
  have e : pXz (qsub a b) = pXz a + pXz b - pB a b := by
    unfold pB pXz pX qadd qsub; grind
  omega
theorem pX_sum : ∀ (l : List Z4), pXz (zsum l) ≤ l.length * isum (l.map pXz) ∧ 0 ≤ isum (l.map pXz) ∧ ∀ a, pB a (zsum l) ≤ l.length * pXz a + isum (l.map pXz) := by
  intro l
  induction l with
  | nil =>
    refine ⟨by decide, by decide, fun a => ?_⟩
    have : pB a (zsum []) = 0 := by unfold pB pXz pX qadd zsum; grind
    rw [this]; simp [isum]
  | cons b l ih =>
    obtain ⟨h1, h2, h3⟩ := ih
    have hb := pXz_nn b
    refine ⟨?_, ?_, fun a => ?_⟩
    · have e : pXz (zsum (b :: l)) = pXz b + pB b (zsum l) + pXz (zsum l) := by
        show pXz (qadd b (zsum l)) = _
        unfold pB; omega
      have h4 := h3 b
      rw [e]
      simp only [List.length_cons, List.map_cons, isum]
      have e2 : ((l.length + 1 : Nat) : Int) * (pXz b + isum (l.map pXz)) = pXz b + l.length * pXz b + isum (l.map pXz) + l.length * isum (l.map pXz) := by
        have : ((l.length + 1 : Nat) : Int) = l.length + 1 := by omega
        rw [this]; grind
      omega
    · simp only [List.map_cons, isum]; omega
    · have h4 := h3 a
      have h5 := pB_le a b
      show pB a (qadd b (zsum l)) ≤ _
      rw [pB_add]
      simp only [List.length_cons, List.map_cons, isum]
      have e2 : ((l.length + 1 : Nat) : Int) * pXz a = pXz a + l.length * pXz a := by
        have : ((l.length + 1 : Nat) : Int) = l.length + 1 := by omega
        rw [this]; grind
      omega
theorem isum_mem : ∀ (l : List Int), (∀ a ∈ l, 0 ≤ a) → 0 ≤ isum l ∧ ∀ a ∈ l, a ≤ isum l := by
  intro l
  induction l with
  | nil => intro _; exact ⟨by decide, fun a h => by cases h⟩
  | cons b l ih =>
    intro h
    obtain ⟨h1, h2⟩ := ih (fun a ha => h a (List.mem_cons_of_mem _ ha))
    have hb := h b List.mem_cons_self
    refine ⟨by simp only [isum]; omega, fun a ha => ?_⟩
    simp only [isum]
    rcases List.mem_cons.mp ha with h | h
    · omega
    · have := h2 a h; omega
theorem zsum_pw (f : Nat → Z4) (l : List Nat) : (zsum (l.map (fun p => qmul (f p) (cj (f p))))).1 = isum ((l.map f).map pXz) := by
  induction l with
  | nil => rfl
  | cons p l ih =>
    simp only [List.map_cons, zsum, isum, qadd, ih]
    rw [pw_eq]; rfl
section
variable {ws : Nat → Nat} {ps : List Nat} {m : Nat}
theorem low_le (hm : m ≤ 5) (hp : ps.length ≤ 5) : rX ws ps m ≤ 3125 ∧ lowz ws ps m ≤ 9765625 := by
  have h1 := gd_bd ws ps hp (fl (Gz ws ps) m) (fl_gd _ m) (by have := fl_le (Gz ws ps) m; omega)
  have h2 : bd5 3125 (rm ws ps m) := bd_mono h1 (p5_le (m := 5) (by have := fl_le (Gz ws ps) m; omega))
  obtain ⟨e, k⟩ := rm_re (ws := ws) (ps := ps) hm
  rw [e] at h2
  have hx := bd_x h2
  refine ⟨hx, ?_⟩
  unfold lowz
  have h3 : rX ws ps m * rX ws ps m ≤ 3125 * 3125 := Int.mul_le_mul hx hx (Int.le_of_lt k.1) (by decide)
  have := sq_nn (rY ws ps m)
  omega
theorem Cz_0 (hm : m ≤ 5) (h1 : 0 < m) (h0 : ¬ Lo ws ps 0) : ∃ f : List Nat, fl (Gz ws ps) m = f ++ [0] ∧ (fl (Gz ws ps) m).dropLast = f ∧ f.length ≤ 4 ∧ Cz ws ps m 0 = zdx (Gz ws ps) f f := by
  obtain ⟨f, e1, e2, e3⟩ := fl_look h1 h0
  have hl : f.length ≤ 4 := by
    have := fl_le (Gz ws ps) m
    rw [e1, List.length_append] at this
    simp at this; omega
  refine ⟨f, e1, e3, hl, ?_⟩
  obtain ⟨l, k1, k2⟩ := @Cl_last Z4 (qR Int) (Gz ws ps) f 0
  unfold Cz Clz
  rw [e3, k1]
  exact @cv_at Z4 (qR Int) l [] 0 _ (fun q hq => by
    have : q.1 ∈ f := by rw [← k2]; exact List.mem_map_of_mem (f := fun q : Nat × Z4 => q.1) hq
    exact (e2 _ this).1) (fun q hq => by cases hq)
/-- the share of the look -/
theorem sh_0 (hm : m ≤ 5) (hp : ps.length ≤ 5) (h1 : 0 < m) (h0 : ¬ Lo ws ps 0) : isT (shz ws ps m 0) ∧ bd5 1953125 (shz ws ps m 0) := by
  obtain ⟨f, e1, e3, hl, ec⟩ := Cz_0 hm h1 h0
  have hg : @gd Z4 (qR Int) (Gz ws ps) f := @gd_dl Z4 (qR Int) cj isT z_pos (ps.map (hz ws)) 0 f hl (e1 ▸ fl_gd (Gz ws ps) m)
  have hT := (@gd_T Z4 (qR Int) cj isT z_pos (ps.map (hz ws)) z_10 f hg (by omega)).1
  have hB : bd5 625 (zdx (Gz ws ps) f f) := bd_mono (gd_bd ws ps hp f hg (by omega)) (p5_le (m := 4) hl)
  obtain ⟨e, k⟩ := rm_re (ws := ws) (ps := ps) hm
  have hD : isT (re (rX ws ps m) (-(rY ws ps m))) := ⟨_, _, rfl, tn_neg (tp_tn k)⟩
  have hD2 : bd5 3125 (re (rX ws ps m) (-(rY ws ps m))) := by
    have h2 : bd5 3125 (rm ws ps m) := bd_mono (gd_bd ws ps hp (fl (Gz ws ps) m) (fl_gd _ m) (by have := fl_le (Gz ws ps) m; omega)) (p5_le (m := 5) (by have := fl_le (Gz ws ps) m; omega))
    rw [e] at h2
    unfold bd5 at h2 ⊢
    have e4 : ∀ x y : Int, qsub (3125, 0, 0, 0) (re x y) = re (3125 - x) (-y) := fun x y => by
      apply q_ext <;> simp only [qsub, re] <;> grind
    rw [e4] at h2 ⊢
    exact ⟨_, _, rfl, tn_neg (T_x h2)⟩
  unfold shz
  rw [ec]
  exact ⟨T_mul hT hD, bd_mul (by decide) hB hD2 hD⟩
def tX (ws : Nat → Nat) (ps : List Nat) (m : Nat) : Int := (shz ws ps m 0).1
def tY (ws : Nat → Nat) (ps : List Nat) (m : Nat) : Int := -(shz ws ps m 0).2.2.2
theorem sh_re (hm : m ≤ 5) (hp : ps.length ≤ 5) (h1 : 0 < m) (h0 : ¬ Lo ws ps 0) : shz ws ps m 0 = re (tX ws ps m) (tY ws ps m) ∧ tn (tX ws ps m) (tY ws ps m) ∧ tX ws ps m ≤ 1953125 := by
  obtain ⟨⟨x, y, e, k⟩, hb⟩ := sh_0 (ws := ws) (ps := ps) hm hp h1 h0
  have ex : tX ws ps m = x := by unfold tX; rw [e]; rfl
  have ey : tY ws ps m = y := by unfold tY; rw [e]; simp [re]
  rw [ex, ey]
  refine ⟨e, k, ?_⟩
  rw [e] at hb
  exact bd_x hb
/-- powers of weights, together -/
theorem wt_pw (hm : m ≤ 5) (hp : ps.length ≤ 5) (h1 : 0 < m) (h0 : ¬ Lo ws ps 0) (hw : ∀ i, i < m → ws i ≤ 12) : isum ((ps.map (wtz ws ps m)).map pXz) = lowz ws ps m * tX ws ps m := by
  obtain ⟨f, e1, e3, hl, ec⟩ := Cz_0 hm h1 h0
  have hs := @psd2 Z4 (qR Int) cj isT z_pos (ps.map (hz ws)) 0 f hl
  rw [← zsum_pw]
  have hmul := @sm_mul Z4 (Nat → Z4) (qR Int) (qmul (re (rX ws ps m) (-(rY ws ps m))) (re (rX ws ps m) (-(rY ws ps m)))) (fun h => qmul (@uh Z4 (qR Int) cj (@Cl Z4 (qR Int) (Gz ws ps) f 0) h) (cj (@uh Z4 (qR Int) cj (@Cl Z4 (qR Int) (Gz ws ps) f 0) h))) (ps.map (hz ws))
  have e5 : zsum (ps.map (fun p => qmul (wtz ws ps m p) (cj (wtz ws ps m p)))) = qmul (qmul (re (rX ws ps m) (-(rY ws ps m))) (re (rX ws ps m) (-(rY ws ps m)))) (qmul (zdx (Gz ws ps) f f) (rm ws ps m)) := by
    have e6 : rm ws ps m = zdx (Gz ws ps) (f ++ [0]) (f ++ [0]) := by unfold rm; rw [e1]
    rw [e6]
    refine Eq.trans ?_ (congrArg (fun x => qmul (qmul (re (rX ws ps m) (-(rY ws ps m))) (re (rX ws ps m) (-(rY ws ps m)))) x) hs)
    refine Eq.trans ?_ hmul.symm
    rw [zsum_sm, List.map_map]
    congr 1
    refine List.map_congr_left (fun p _ => ?_)
    rw [wt_uh h1 h0 hw]
    have e7 : Clz ws ps m = @Cl Z4 (qR Int) (Gz ws ps) f 0 := by unfold Clz; rw [e3]
    rw [e7, cj_mul, re_cj]
    show _ = qmul _ (qmul (@uh Z4 (qR Int) cj (@Cl Z4 (qR Int) (Gz ws ps) f 0) (hz ws p)) (cj (@uh Z4 (qR Int) cj (@Cl Z4 (qR Int) (Gz ws ps) f 0) (hz ws p))))
    generalize @uh Z4 (qR Int) cj (@Cl Z4 (qR Int) (Gz ws ps) f 0) (hz ws p) = u
    generalize re (rX ws ps m) (-(rY ws ps m)) = d
    generalize cj u = v
    apply q_ext <;> simp only [qmul] <;> grind
  rw [e5]
  have e8 : qmul (qmul (re (rX ws ps m) (-(rY ws ps m))) (re (rX ws ps m) (-(rY ws ps m)))) (qmul (zdx (Gz ws ps) f f) (rm ws ps m)) = qmul (shz ws ps m 0) (qmul (rm ws ps m) (re (rX ws ps m) (-(rY ws ps m)))) := by
    unfold shz
    rw [ec]
    generalize re (rX ws ps m) (-(rY ws ps m)) = d
    generalize zdx (Gz ws ps) f f = u
    generalize rm ws ps m = v
    apply q_ext <;> simp only [qmul] <;> grind
  rw [e8, rm_dd hm]
  unfold tX
  simp only [qmul]
  grind
theorem wt_le (hm : m ≤ 5) (hp : ps.length ≤ 5) (h1 : 0 < m) (h0 : ¬ Lo ws ps 0) (hw : ∀ i, i < m → ws i ≤ 12) : isum ((ps.map (wtz ws ps m)).map pXz) ≤ lowz ws ps m * 1953125 := by
  rw [wt_pw hm hp h1 h0 hw]
  exact Int.mul_le_mul_of_nonneg_left (sh_re hm hp h1 h0).2.2 (Int.le_of_lt (low_pos hm))
theorem wt_le1 (hm : m ≤ 5) (hp : ps.length ≤ 5) (h1 : 0 < m) (h0 : ¬ Lo ws ps 0) (hw : ∀ i, i < m → ws i ≤ 12) {p : Nat} (hpp : p ∈ ps) : pXz (wtz ws ps m p) ≤ lowz ws ps m * 1953125 := by
  have h := (isum_mem ((ps.map (wtz ws ps m)).map pXz) (fun a ha => by
    obtain ⟨b, _, rfl⟩ := List.mem_map.mp ha
    exact pXz_nn b)).2 (pXz (wtz ws ps m p)) (List.mem_map_of_mem (List.mem_map_of_mem hpp))
  have := wt_le hm hp h1 h0 hw
  omega
theorem gn_le (hm : m ≤ 5) (hp : ps.length ≤ 5) (h1 : 0 < m) (h0 : ¬ Lo ws ps 0) (hw : ∀ i, i < m → ws i ≤ 12) (k : Nat) : pXz (gnz ws ps m k) ≤ lowz ws ps m * 9765625 := by
  have h2 := pX_sum (ps.map (fun p => qmul (wtz ws ps m p) (rt (k * p))))
  have e : (ps.map (fun p => qmul (wtz ws ps m p) (rt (k * p)))).map pXz = (ps.map (wtz ws ps m)).map pXz := by
    rw [List.map_map, List.map_map]
    exact List.map_congr_left (fun p _ => (pXz_rt _ _).1)
  rw [e] at h2
  have h3 := wt_le hm hp h1 h0 hw
  obtain ⟨h4, h5, _⟩ := h2
  unfold gnz
  rw [List.length_map] at h4
  have h6 : (ps.length : Int) * isum ((ps.map (wtz ws ps m)).map pXz) ≤ 5 * isum ((ps.map (wtz ws ps m)).map pXz) := Int.mul_le_mul_of_nonneg_right (by omega) h5
  omega
end
theorem p3_le (a b c d : Int) : 3 * (a * a) ≤ 4 * pX a b c d ∧ 3 * (b * b) ≤ 4 * pX a b c d ∧ 3 * (c * c) ≤ 4 * pX a b c d ∧ 3 * (d * d) ≤ 4 * pX a b c d := by
  have s1 := sq_nn (a + 2 * c)
  have s2 := sq_nn (c + 2 * a)
  have s3 := sq_nn (b + 2 * d)
  have s4 := sq_nn (d + 2 * b)
  have t1 : 0 ≤ 4 * (a * a + a * c + c * c) := by
    have := sq_nn a
    have e : 4 * (a * a + a * c + c * c) = 3 * (a * a) + (a + 2 * c) * (a + 2 * c) := by grind
    omega
  have t2 : 0 ≤ 4 * (b * b + b * d + d * d) := by
    have := sq_nn b
    have e : 4 * (b * b + b * d + d * d) = 3 * (b * b) + (b + 2 * d) * (b + 2 * d) := by grind
    omega
  have e1 : 4 * pX a b c d = 3 * (a * a) + (a + 2 * c) * (a + 2 * c) + 4 * (b * b + b * d + d * d) := by unfold pX; grind
  have e2 : 4 * pX a b c d = 3 * (c * c) + (c + 2 * a) * (c + 2 * a) + 4 * (b * b + b * d + d * d) := by unfold pX; grind
  have e3 : 4 * pX a b c d = 3 * (b * b) + (b + 2 * d) * (b + 2 * d) + 4 * (a * a + a * c + c * c) := by unfold pX; grind
  have e4 : 4 * pX a b c d = 3 * (d * d) + (d + 2 * b) * (d + 2 * b) + 4 * (a * a + a * c + c * c) := by unfold pX; grind
  omega
