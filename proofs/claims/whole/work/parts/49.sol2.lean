/-! what weights make of wishes -/
theorem z_m0 (a : Z4) : qmul a (0, 0, 0, 0) = (0, 0, 0, 0) := by apply q_ext <;> simp only [qmul] <;> grind
theorem z_0m (a : Z4) : qmul (0, 0, 0, 0) a = (0, 0, 0, 0) := by apply q_ext <;> simp only [qmul] <;> grind
theorem mem_fl (G : Nat → Nat → Z4) (j : Nat) : ∀ i, j ∈ fl G i ↔ j < i ∧ zdx G (j :: fl G j) (j :: fl G j) ≠ (0, 0, 0, 0) := by
  intro i
  induction i with
  | zero => simp [fl]
  | succ i ih =>
    rw [fl]
    split
    · rename_i h
      rw [ih]
      constructor
      · rintro ⟨h1, h2⟩; exact ⟨by omega, h2⟩
      · rintro ⟨h1, h2⟩
        refine ⟨?_, h2⟩
        rcases Nat.lt_succ_iff_lt_or_eq.mp h1 with h3 | h3
        · exact h3
        · subst h3; exact absurd h h2
    · rename_i h
      rw [List.mem_cons, ih]
      constructor
      · rintro (rfl | ⟨h1, h2⟩)
        · exact ⟨by omega, h⟩
        · exact ⟨by omega, h2⟩
      · rintro ⟨h1, h2⟩
        rcases Nat.lt_succ_iff_lt_or_eq.mp h1 with h3 | h3
        · exact Or.inr ⟨h3, h2⟩
        · exact Or.inl h3
theorem fl_sub (G : Nat → Nat → Z4) {i m j : Nat} (h : i ≤ m) (hj : j ∈ fl G i) : j ∈ fl G m := by
  rw [mem_fl] at hj ⊢
  exact ⟨by omega, hj.2⟩
theorem fl_look {ws : Nat → Nat} {ps : List Nat} {m : Nat} (hm : 0 < m) (h0 : ¬ Lo ws ps 0) : ∃ f, fl (Gz ws ps) m = f ++ [0] ∧ (∀ j ∈ f, j ≠ 0 ∧ j < m) ∧ (fl (Gz ws ps) m).dropLast = f := by
  obtain ⟨k, rfl⟩ : ∃ k, m = k + 1 := ⟨m - 1, by omega⟩
  obtain ⟨f, h1, h2⟩ := fl_0 (Gz ws ps) (fun e => h0 ((Lo_dx (by decide)).mpr e)) k
  exact ⟨f, h1, h2, by rw [h1, List.dropLast_concat]⟩
section
variable {ws : Nat → Nat} {ps : List Nat} {m : Nat} (hm : m ≤ 5) (h1 : 0 < m) (h0 : ¬ Lo ws ps 0)
theorem Cl_key (h1 : 0 < m) (h0 : ¬ Lo ws ps 0) : (Clz ws ps m).map (fun q => q.1) = fl (Gz ws ps) m := by
  obtain ⟨f, e1, e2, e3⟩ := fl_look h1 h0
  unfold Clz
  rw [@cf_fst Z4 (qR Int), e3, e1]
theorem Cl_mem (h1 : 0 < m) (h0 : ¬ Lo ws ps 0) {q : Nat × Z4} (hq : q ∈ Clz ws ps m) : q.1 ∈ fl (Gz ws ps) m := by
  rw [← Cl_key h1 h0]
  exact List.mem_map_of_mem (f := fun q : Nat × Z4 => q.1) hq
/-- rows that are not told by others ask what they ask -/
theorem Cl_ask (hm : m ≤ 5) (h1 : 0 < m) (h0 : ¬ Lo ws ps 0) {r : Nat} (hr : r ∈ fl (Gz ws ps) m) : @sm Z4 (qR Int) ((Clz ws ps m).map (fun q => qmul (Gz ws ps r q.1) q.2)) = qmul (Gx ws ps r 5) (rm ws ps m) := by
  obtain ⟨f, e1, e2, e3⟩ := fl_look h1 h0
  have hl : f.length ≤ 4 := by
    have := fl_le (Gz ws ps) m
    rw [e1, List.length_append] at this
    simp at this; omega
  unfold Clz rm Gx
  rw [e3, e1]
  rw [e1] at hr
  rcases List.mem_append.mp hr with h | h
  · have := @Cl_0 Z4 (qR Int) (Gz ws ps) f 0 r hl h
    refine Eq.trans this ?_
    unfold gx
    rw [if_pos rfl, if_neg (e2 r h).1]
    exact (z_0m _).symm
  · simp only [List.mem_singleton] at h
    subst h
    have := @Cl_D Z4 (qR Int) (Gz ws ps) f 0 hl
    refine Eq.trans this ?_
    unfold gx
    rw [if_pos rfl, if_pos rfl]
    letI : Lean.Grind.CommRing Z4 := qR Int
    exact (Lean.Grind.Semiring.one_mul _).symm
theorem Cz_none (h1 : 0 < m) (h0 : ¬ Lo ws ps 0) {j : Nat} (hj : j ∉ fl (Gz ws ps) m) : Cz ws ps m j = (0, 0, 0, 0) :=
  @cv_none Z4 (qR Int) _ _ (fun q hq e => hj (e ▸ Cl_mem h1 h0 hq))
/-- what each share is found by -/
theorem sub_z (hm : m ≤ 5) (h1 : 0 < m) (h0 : ¬ Lo ws ps 0) {i : Nat} (hi : i < m) (hf : ¬ Lo ws ps i) : zsum ((List.range (m - i)).map (fun t => qmul (mi ws ps i i (i + t)) (Cz ws ps m (i + t)))) = qmul (mi ws ps i i 5) (rm ws ps m) := by
  have him : i ∈ fl (Gz ws ps) m := (mem_fl _ _ _).mpr ⟨hi, fun e => hf ((Lo_dx (by omega)).mpr e)⟩
  have hs := @sub_eq Z4 (qR Int) (Gz ws ps) (Clz ws ps m) (rm ws ps m) i (fl (Gz ws ps) i) (by have := fl_le (Gz ws ps) i; omega)
    (fun j hj => by
      rcases List.mem_cons.mp hj with h | h
      · omega
      · have := fl_lt _ i j h; omega)
    (fun r hr => by
      have : r ∈ fl (Gz ws ps) m := by
        rcases List.mem_cons.mp hr with h | h
        · rw [h]; exact him
        · exact fl_sub _ (by omega) h
      exact Cl_ask hm h1 h0 this)
    (fun q hq => by have := fl_lt _ m _ (Cl_mem h1 h0 hq); omega)
  have hc := @cv_sum Z4 (qR Int) (Clz ws ps m) m (fun q hq => fl_lt _ m _ (Cl_mem h1 h0 hq)) (fun j => zdx (Gz ws ps) (i :: fl (Gz ws ps) i) (j :: fl (Gz ws ps) i))
  have hc2 := hc.trans hs
  rw [show (List.range m) = List.range (i + (m - i)) by rw [show i + (m - i) = m by omega]] at hc2
  rw [@sm_from Z4 (qR Int) _ i (m - i)] at hc2
  · refine Eq.trans ?_ hc2
    rw [zsum_sm]
    congr 1
    refine List.map_congr_left (fun t ht => ?_)
    have : i + t < m := by have := List.mem_range.mp ht; omega
    rw [mi_dx (by omega) (by omega)]
    rfl
  · intro j hj
    by_cases hjf : j ∈ fl (Gz ws ps) i
    · have : zdx (Gz ws ps) (i :: fl (Gz ws ps) i) (j :: fl (Gz ws ps) i) = (0, 0, 0, 0) := by
        have e := @dx_tr Z4 (qR Int) (Gz ws ps) (i :: fl (Gz ws ps) i) (j :: fl (Gz ws ps) i) rfl (by have := fl_le (Gz ws ps) i; simp only [List.length_cons]; omega)
        refine Eq.trans e ?_
        exact @dx_rep Z4 (qR Int) _ j (fl (Gz ws ps) i) _ hjf (by have := fl_le (Gz ws ps) i; simp only [List.length_cons]; omega)
      show qmul (zdx (Gz ws ps) (i :: fl (Gz ws ps) i) (j :: fl (Gz ws ps) i)) _ = _
      rw [this]
      exact z_0m _
    · have : j ∉ fl (Gz ws ps) m := fun h => hjf ((mem_fl _ _ _).mpr ⟨hj, ((mem_fl _ _ _).mp h).2⟩)
      show qmul _ (Cz ws ps m j) = _
      rw [Cz_none h1 h0 this]
      exact z_m0 _
/-- weights: what stands beside each wish, by what is heard, turned -/
theorem wt_uh (h1 : 0 < m) (h0 : ¬ Lo ws ps 0) (hw : ∀ i, i < m → ws i ≤ 12) (p : Nat) : wtz ws ps m p = qmul (@uh Z4 (qR Int) cj (Clz ws ps m) (hz ws p)) (re (rX ws ps m) (-(rY ws ps m))) := by
  have hc := @cv_sum Z4 (qR Int) (Clz ws ps m) m (fun q hq => fl_lt _ m _ (Cl_mem h1 h0 hq)) (fun j => cj (hz ws p j))
  unfold uh
  refine Eq.trans ?_ (congrArg (fun x => qmul x (re (rX ws ps m) (-(rY ws ps m)))) hc)
  have hcm : ∀ x y : Z4, qmul x y = qmul y x := fun x y => by apply q_ext <;> simp only [qmul] <;> grind
  show _ = qmul _ _
  rw [hcm]
  have hmul := @sm_mul Z4 Nat (qR Int) (re (rX ws ps m) (-(rY ws ps m))) (fun j => qmul (cj (hz ws p j)) (Cz ws ps m j)) (List.range m)
  refine Eq.trans ?_ hmul.symm
  unfold wtz
  rw [zsum_sm]
  congr 1
  refine List.map_congr_left (fun i hi => ?_)
  have hi' := hw i (List.mem_range.mp hi)
  show qmul (qmul (Cz ws ps m i) (re (rX ws ps m) (-(rY ws ps m)))) (rt ((12 - ws i) * p)) = qmul (re (rX ws ps m) (-(rY ws ps m))) (qmul (cj (rt (ws i * p))) (Cz ws ps m i))
  rw [cj_rt, rt_eq (i := (12 - ws i) * p) (j := 11 * (ws i * p)) (by
    have e : (12 - ws i) * p + ws i * p = 12 * p := by rw [← Nat.add_mul]; congr 1; omega
    omega)]
  apply q_ext <;> simp only [qmul] <;> grind
theorem rm_dd (hm : m ≤ 5) : qmul (rm ws ps m) (re (rX ws ps m) (-(rY ws ps m))) = (lowz ws ps m, 0, 0, 0) := by
  rw [(rm_re (ws := ws) (ps := ps) hm).1, re_mul]
  unfold lowz re
  apply q_ext <;> grind
/-- gains of wishes -/
theorem gn_free (hm : m ≤ 5) (h1 : 0 < m) (h0 : ¬ Lo ws ps 0) (hw : ∀ i, i < m → ws i ≤ 12) {r : Nat} (hr : r ∈ fl (Gz ws ps) m) : gnz ws ps m (ws r) = if r = 0 then (lowz ws ps m, 0, 0, 0) else (0, 0, 0, 0) := by
  have hs := @su1 Z4 (qR Int) cj (Clz ws ps m) (ps.map (hz ws)) r
  have ha := Cl_ask hm h1 h0 hr
  have h2 := hs.trans ha
  have hmul := @sm_mul Z4 (Nat → Z4) (qR Int) (re (rX ws ps m) (-(rY ws ps m))) (fun h => qmul (h r) (@uh Z4 (qR Int) cj (Clz ws ps m) h)) (ps.map (hz ws))
  have h3 : gnz ws ps m (ws r) = qmul (re (rX ws ps m) (-(rY ws ps m))) (qmul (Gx ws ps r 5) (rm ws ps m)) := by
    rw [← h2]
    refine Eq.trans ?_ hmul.symm
    unfold gnz
    rw [zsum_sm, List.map_map]
    congr 1
    refine List.map_congr_left (fun p _ => ?_)
    show qmul (wtz ws ps m p) (rt (ws r * p)) = qmul (re (rX ws ps m) (-(rY ws ps m))) (qmul (rt (ws r * p)) (@uh Z4 (qR Int) cj (Clz ws ps m) (hz ws p)))
    rw [wt_uh h1 h0 hw]
    apply q_ext <;> simp only [qmul] <;> grind
  rw [h3]
  have h4 : qmul (re (rX ws ps m) (-(rY ws ps m))) (qmul (Gx ws ps r 5) (rm ws ps m)) = qmul (Gx ws ps r 5) (qmul (rm ws ps m) (re (rX ws ps m) (-(rY ws ps m)))) := by
    apply q_ext <;> simp only [qmul] <;> grind
  rw [h4, rm_dd hm]
  unfold Gx gx
  rw [if_pos rfl]
  split
  · show qmul (1, 0, 0, 0) _ = _
    apply q_ext <;> simp only [qmul] <;> grind
  · show qmul (0, 0, 0, 0) _ = _
    apply q_ext <;> simp only [qmul] <;> grind
theorem gn_lost (hm : m ≤ 5) (h1 : 0 < m) (h0 : ¬ Lo ws ps 0) (hw : ∀ i, i < m → ws i ≤ 12) {r : Nat} (hr : r < m) (hl : Lo ws ps r) : qmul (rm ws ps r) (gnz ws ps m (ws r)) = qneg (qmul (mi ws ps r r 5) (lowz ws ps m, 0, 0, 0)) := by
  have hr0 : 0 < r := Nat.pos_of_ne_zero (fun e => h0 (e ▸ hl))
  obtain ⟨f, e1, e2, e3⟩ := fl_look hr0 h0
  have hlen : f.length ≤ 3 := by
    have := fl_le (Gz ws ps) r
    rw [e1, List.length_append] at this
    simp at this; omega
  have hg := @lost_gain Z4 (qR Int) cj isT z_pos (ps.map (hz ws)) r f hlen (fun j hj => ⟨by have := (e2 j hj).2; omega, (e2 j hj).1⟩) ⟨by omega, by omega⟩
    (by have := (Lo_dx (by omega)).mp hl; rw [e1] at this; exact this)
    (fun h => qmul (@uh Z4 (qR Int) cj (Clz ws ps m) h) (re (rX ws ps m) (-(rY ws ps m)))) (lowz ws ps m, 0, 0, 0)
  have key : ∀ j, @sm Z4 (qR Int) ((ps.map (hz ws)).map (fun h => qmul (h j) (qmul (@uh Z4 (qR Int) cj (Clz ws ps m) h) (re (rX ws ps m) (-(rY ws ps m)))))) = gnz ws ps m (ws j) := by
    intro j
    unfold gnz
    rw [zsum_sm, List.map_map]
    congr 1
    refine List.map_congr_left (fun p _ => ?_)
    rw [wt_uh h1 h0 hw]
    show qmul (rt (ws j * p)) _ = qmul _ (rt (ws j * p))
    apply q_ext <;> simp only [qmul] <;> grind
  have hg2 := hg (fun j hj => by
      refine (key j).trans ?_
      rw [gn_free hm h1 h0 hw (fl_sub _ (Nat.le_of_lt hr) (by rw [e1]; exact List.mem_append_left _ hj)), if_neg (e2 j hj).1]
      rfl)
    (by
      refine (key 0).trans ?_
      rw [gn_free hm h1 h0 hw (fl_sub _ (Nat.le_of_lt hr) (by rw [e1]; simp)), if_pos rfl])
  unfold rm mi
  rw [e1]
  rw [← key r]
  exact hg2
theorem z_mul0 {a b : Z4} (h : b = (0, 0, 0, 0)) : qmul a b = (0, 0, 0, 0) := by
  rw [h]; apply q_ext <;> simp only [qmul] <;> grind
/-- a wish that is told by others is so just where nothing is left to ask -/
theorem lost_iff (hm : m ≤ 5) (h1 : 0 < m) (h0 : ¬ Lo ws ps 0) (hw : ∀ i, i < m → ws i ≤ 12) {r : Nat} (hr : r < m) (hl : Lo ws ps r) : gnz ws ps m (ws r) = (0, 0, 0, 0) ↔ mi ws ps r r 5 = (0, 0, 0, 0) := by
  have hg := gn_lost hm h1 h0 hw hr hl
  have hL := low_pos (ws := ws) (ps := ps) hm
  constructor
  · intro h
    rw [z_mul0 h] at hg
    have h2 : qmul (mi ws ps r r 5) (lowz ws ps m, 0, 0, 0) = (0, 0, 0, 0) := by
      have : ∀ a : Z4, (0, 0, 0, 0) = qneg a → a = (0, 0, 0, 0) := fun a e => by
        obtain ⟨x, y, u, v⟩ := a
        simp only [qneg, Prod.mk.injEq] at e ⊢
        omega
      exact this _ hg
    rcases z_dom h2 with h | h
    · exact h
    · simp only [Prod.mk.injEq] at h; omega
  · intro h
    rw [h] at hg
    have h2 : qmul (rm ws ps r) (gnz ws ps m (ws r)) = (0, 0, 0, 0) := by
      rw [hg]; apply q_ext <;> simp only [qmul, qneg] <;> grind
    rcases z_dom h2 with h | h
    · exact absurd h (rm_T (by omega)).2
    · exact h
theorem look_free (h : Hd ws ps m) (h1 : 0 < m) : ¬ Lo ws ps 0 := by
  intro hl
  have := h 0 h1 hl
  have e : mi ws ps 0 0 5 = (1, 0, 0, 0) := rfl
  rw [e] at this
  exact absurd this (by decide)
/-- all that is asked is so -/
theorem gn_wish (hm : m ≤ 5) (h1 : 0 < m) (h : Hd ws ps m) (hw : ∀ i, i < m → ws i ≤ 12) {r : Nat} (hr : r < m) (hr0 : r ≠ 0) : gnz ws ps m (ws r) = (0, 0, 0, 0) := by
  have h0 := look_free h h1
  by_cases hl : Lo ws ps r
  · exact (lost_iff hm h1 h0 hw hr hl).mpr (h r hr hl)
  · rw [gn_free hm h1 h0 hw ((mem_fl _ _ _).mpr ⟨hr, fun e => hl ((Lo_dx (by omega)).mpr e)⟩), if_neg hr0]
end
