/-! the reference finds the rank -/
theorem uI_o (g : M2) {a y : Nat} (k : Nat) (x : Int32) (h : y ≠ a) : (uI g a k x).1 y = g.1 y := by
  show (mm_uI g.1 a k x) y = _; unfold mm_uI; rw [if_neg h]
theorem uI_s (g : M2) (a k : Nat) (x : Int32) : (uI g a k x).1 a k = x := by
  show (mm_uI g.1 a k x) a k = _; unfold mm_uI; rw [if_pos rfl]; unfold upd; rw [if_pos rfl]
theorem uI_k (g : M2) (a : Nat) {k j : Nat} (x : Int32) (h : j ≠ k) : (uI g a k x).1 a j = g.1 a j := by
  show (mm_uI g.1 a k x) a j = _; unfold mm_uI; rw [if_pos rfl]; unfold upd; rw [if_neg h]
theorem uI_2 (g : M2) (a k : Nat) (x : Int32) : (uI g a k x).2 = g.2 := rfl
theorem uJ_o (g : M2) {a y : Nat} (k : Nat) (x : Int64) (h : y ≠ a) : (uJ g a k x).2 y = g.2 y := by
  show (mm_uJ g.2 a k x) y = _; unfold mm_uJ; rw [if_neg h]
theorem uJ_s (g : M2) (a k : Nat) (x : Int64) : (uJ g a k x).2 a k = x := by
  show (mm_uJ g.2 a k x) a k = _; unfold mm_uJ; rw [if_pos rfl]; unfold vp_updL; rw [if_pos rfl]
theorem uJ_k (g : M2) (a : Nat) {k j : Nat} (x : Int64) (h : j ≠ k) : (uJ g a k x).2 a j = g.2 a j := by
  show (mm_uJ g.2 a k x) a j = _; unfold mm_uJ; rw [if_pos rfl]; unfold vp_updL; rw [if_neg h]
theorem uJ_1 (g : M2) (a k : Nat) (x : Int64) : (uJ g a k x).1 = g.1 := rfl
theorem dy_map {R : Type} [Lean.Grind.CommRing R] (f : Nat → Nat) (row : Nat → R) (F : List Nat → R) : ∀ (cs pre : List Nat), dy (fun c => row (f c)) (fun l => F (l.map f)) pre cs = dy row F (pre.map f) (cs.map f) := by
  intro cs
  induction cs with
  | nil => intro pre; rfl
  | cons c cs ih => intro pre; simp only [dy, List.map_cons, ih, List.map_append, List.map_nil]
theorem dx_map {R : Type} [Lean.Grind.CommRing R] (f : Nat → Nat) (G : Nat → Nat → R) : ∀ (rs cs : List Nat), dx (fun i j => G (f i) (f j)) rs cs = dx G (rs.map f) (cs.map f) := by
  intro rs
  induction rs with
  | nil => intro cs; rfl
  | cons r rs ih =>
    intro cs
    simp only [dx, List.map_cons]
    have e : dx (fun i j => G (f i) (f j)) rs = fun l => dx G (rs.map f) (l.map f) := funext ih
    rw [e]
    exact dy_map f (G (f r)) (dx G (rs.map f)) cs []
theorem zdx_map (f : Nat → Nat) (G : Nat → Nat → Z4) (rs cs : List Nat) : zdx (fun i j => G (f i) (f j)) rs cs = zdx G (rs.map f) (cs.map f) := @dx_map Z4 (qR Int) f G rs cs
theorem o64_0 {z : Int} (h1 : z.natAbs < 2 ^ 63) (h : Int64.ofInt z = 0) : z = 0 := by
  have := congrArg Int64.toInt h
  rw [Int64.toInt_ofInt_of_le (by omega) (by omega)] at this
  simpa using this
theorem q64_0 {m : Nat} {a : Z4} (h : len m a) (hm : m < 2 ^ 63) : q64 a = (0, 0, 0, 0) ↔ a = (0, 0, 0, 0) := by
  obtain ⟨h1, h2, h3, h4⟩ := len_comp h
  constructor
  · intro e
    simp only [q64, Prod.mk.injEq] at e
    exact q_ext (o64_0 (by omega) e.1) (o64_0 (by omega) e.2.1) (o64_0 (by omega) e.2.2.1) (o64_0 (by omega) e.2.2.2)
  · intro e; rw [e]; rfl
/-- the free wishes, the oldest first -/
def frz (G : Nat → Nat → Z4) (k i : Nat) : Nat := (fl G k).reverse.getD i 0
theorem frz_lt (G : Nat → Nat → Z4) (k i : Nat) (h : i < (fl G k).length) : frz G k i < k := by
  unfold frz
  have : (fl G k).reverse.getD i 0 ∈ (fl G k).reverse := by
    rw [List.getD_eq_getElem?_getD, List.getElem?_eq_getElem (by rw [List.length_reverse]; exact h)]
    exact List.getElem_mem _
  exact fl_lt G k _ (List.mem_reverse.mp this)
theorem rwl_map (f : Nat → Nat) : ∀ n : Nat, (rwl 0 n).map f = ((List.range n).map f).reverse := by
  intro n
  induction n with
  | zero => rfl
  | succ n ih => rw [rwl, List.map_cons, ih, List.range_succ, List.map_append, List.reverse_append, Nat.zero_add]; rfl
theorem bl_full : ∀ n : Nat, n < 6 → bl (2 ^ n - 1) = rwl 0 n ∧ bn (2 ^ n - 1) = n := by decide +kernel
theorem getD_map (l : List Nat) : ∀ n : Nat, n = l.length → (List.range n).map (fun i => l.getD i 0) = l := by
  intro n h
  subst h
  apply List.ext_getElem
  · simp
  · intro i h1 h2
    simp at h1
    simp [h1]
/-- free wishes and a new one -/
theorem fr_new (G : Nat → Nat → Z4) (k : Nat) (f : Nat → Nat) (h1 : ∀ i, i < (fl G k).length → f i = frz G k i) (h2 : f (fl G k).length = k) : (rwl 0 ((fl G k).length + 1)).map f = k :: fl G k := by
  rw [rwl, List.map_cons, Nat.zero_add, h2, rwl_map]
  congr 1
  have e : (List.range (fl G k).length).map f = (List.range (fl G k).length).map (fun i => (fl G k).reverse.getD i 0) := List.map_congr_left (fun i hi => h1 i (List.mem_range.mp hi))
  rw [e, getD_map _ _ (by rw [List.length_reverse]), List.reverse_reverse]
theorem fr_all (G : Nat → Nat → Z4) (k : Nat) (f : Nat → Nat) (h1 : ∀ i, i < (fl G k).length → f i = frz G k i) : (rwl 0 (fl G k).length).map f = fl G k := by
  rw [rwl_map]
  have e : (List.range (fl G k).length).map f = (List.range (fl G k).length).map (fun i => (fl G k).reverse.getD i 0) := List.map_congr_left (fun i hi => h1 i (List.mem_range.mp hi))
  rw [e, getD_map _ _ (by rw [List.length_reverse]), List.reverse_reverse]
theorem c_pred {a : Nat} (h : 1 ≤ a) : cI a - (1 : Int32) = cI (a - 1) := by rw [show (1 : Int32) = cI 1 from rfl, cI_sub h]
theorem dlen_5 : ∀ n : Nat, n < 6 → dlen n ≤ 375000 := by decide +kernel
def loI (ws : Nat → Nat) (ps : List Nat) (i : Nat) : Int32 := if mi ws ps i i i = (0, 0, 0, 0) then 1 else 0
theorem loI_1 {ws : Nat → Nat} {ps : List Nat} {i : Nat} (h : Lo ws ps i) : loI ws ps i = 1 := by unfold loI; rw [if_pos (show mi ws ps i i i = (0, 0, 0, 0) from h)]
theorem loI_0 {ws : Nat → Nat} {ps : List Nat} {i : Nat} (h : ¬ Lo ws ps i) : loI ws ps i = 0 := by unfold loI; rw [if_neg (show ¬ mi ws ps i i i = (0, 0, 0, 0) from h)]
/-- behind k wishes -/
def FR (g s : M2) (ps : List Nat) (ws : Nat → Nat) (k : Nat) : Prop := (∀ y, y ≠ 157 → y ≠ 164 → y ≠ 165 → s.1 y = g.1 y) ∧ (∀ j, j ≠ 14 → s.1 157 j = g.1 157 j) ∧ s.1 157 14 = cI (fl (Gz ws ps) k).length ∧ (∀ i, i < (fl (Gz ws ps) k).length → s.1 165 i = cI (frz (Gz ws ps) k i)) ∧ (∀ i, i < k → s.1 164 i = loI ws ps i) ∧ ∀ y, y ≠ 158 → y ≠ 159 → s.2 y = g.2 y
theorem FR_in {g s : M2} {ps : List Nat} {ws : Nat → Nat} {m k : Nat} (h : FR g s ps ws k) (hI : MIn g ps ws m) : MIn s ps ws m := by
  obtain ⟨h1, h2, h3, h4, h5, h6⟩ := h
  obtain ⟨i1, i2, i3, i4, i5, i6, i7⟩ := hI
  exact ⟨fun j hj => by rw [h1 _ (by decide) (by decide) (by decide)]; exact i1 j hj, by rw [h2 _ (by decide)]; exact i2, i3, fun e he => by rw [h1 _ (by decide) (by decide) (by decide)]; exact i4 e he, by rw [h2 _ (by decide)]; exact i5, i6, fun i hi => by rw [h1 _ (by decide) (by decide) (by decide)]; exact i7 i hi⟩
theorem mo_findsRank {g : M2} {ps : List Nat} {ws : Nat → Nat} {m : Nat} (hI : MIn g ps ws m) : Ok (f_Mo_findsRank g) (fun r => FR g r ps ws m) := by
  have hI' := hI
  obtain ⟨hp, hn, hn5, hps, hm, hm5, hws⟩ := hI'
  unfold f_Mo_findsRank
  refine ok_bd (ok_bindm (Q := fun r => FR g r ps ws m) ?_ (fun r hr => ok_some hr))
  refine ok_for m (by omega) (fun k s => FR g s ps ws k) ⟨fun y h1 _ _ => uI_o g _ _ h1, fun j hj => uI_k g _ _ hj, uI_s g _ _ _, fun i hi => absurd hi (by simp [fl]), fun i hi => absurd hi (by omega), fun y _ _ => rfl⟩ ?_ ?_
  · intro k s hk hs
    have hIs := FR_in hs hI
    obtain ⟨h1, h2, h3, h4, h5, h6⟩ := hs
    show Ok (b_Mo_findsRank_5 (cI k) s) _
    unfold b_Mo_findsRank_5
    have hlk := fl_le (Gz ws ps) k
    generalize hr : (fl (Gz ws ps) k).length = r at *
    rw [h2 10 (by decide), hm, h3]
    refine ok_neg (le_no hk (by omega)) (ok_pos (inb_cI (by omega) (by decide)) (ok_bd ?_))
    rw [cI_nat (by omega)]
    generalize hs1 : uI s 165 r (cI k) = s1
    have f1 : ∀ y, y ≠ 165 → s1.1 y = s.1 y := fun y hy => by rw [← hs1]; exact uI_o s _ _ hy
    have f2 : s1.1 165 r = cI k := by rw [← hs1]; exact uI_s s _ _ _
    have f3 : ∀ i, i ≠ r → s1.1 165 i = s.1 165 i := fun i hi => by rw [← hs1]; exact uI_k s _ _ hi
    have f4 : s1.2 = s.2 := by rw [← hs1]; rfl
    have hI1 : MIn s1 ps ws m := by
      obtain ⟨i1, i2, i3, i4, i5, i6, i7⟩ := hIs
      exact ⟨fun j hj => by rw [f1 _ (by decide)]; exact i1 j hj, by rw [f1 _ (by decide)]; exact i2, i3, fun e he => by rw [f1 _ (by decide)]; exact i4 e he, by rw [f1 _ (by decide)]; exact i5, i6, fun i hi => by rw [f1 _ (by decide)]; exact i7 i hi⟩
    let fr : Nat → Nat := fun i => if i = r then k else frz (Gz ws ps) k i
    have hfr : ∀ i, i < r + 1 → s1.1 165 i = cI (fr i) ∧ fr i < m := fun i hi => by
      show s1.1 165 i = cI (if i = r then k else frz (Gz ws ps) k i) ∧ (if i = r then k else frz (Gz ws ps) k i) < m
      by_cases hir : i = r
      · rw [if_pos hir, hir]; exact ⟨f2, hk⟩
      · rw [if_neg hir, f3 i hir]
        exact ⟨h4 i (by omega), by have := frz_lt (Gz ws ps) k i (by omega); omega⟩
    have e14 : s1.1 157 14 = cI r := by rw [f1 _ (by decide)]; exact h3
    rw [e14, c_succ]
    refine ok_bindm (mo_laysGram (MN_rf s1) hI1 (many := r + 1) (by omega) hfr) (fun q4 hq4 => ?_)
    rw [hq4.1, e14, c_succ]
    refine ok_bindm (mo_laysDet hq4 hI1.1 (G := fun i j => Gz ws ps (fr i) (fr j)) (fm := 0) (many := r + 1) (by omega) (by decide) (fun i j hi hj => by rw [if_pos (by omega), show (5 * i + j) / 5 = i by omega, show (5 * i + j) % 5 = j by omega])) (fun q5 hq5 => ?_)
    obtain ⟨E, hE1, hE2, hE3⟩ := hq5
    rw [hE1.1, e14, c_succ, pow5 _ (by omega)]
    have hp32 : 2 ^ (r + 1) ≤ 32 := show 2 ^ (r + 1) ≤ 2 ^ 5 from Nat.pow_le_pow_right (by decide) (by omega)
    have hp1 : 1 ≤ 2 ^ (r + 1) := Nat.one_le_two_pow
    rw [ix25, c_pred (by omega)]
    refine ok_binde (mo_isNought (by omega) q5) ?_
    have hdet : rM q5 (25 + 2 ^ (r + 1) - 1) = q64 (zdx (Gz ws ps) (k :: fl (Gz ws ps) k) (k :: fl (Gz ws ps) k)) := by
      rw [hE1.2.2 _ (by omega), show 25 + 2 ^ (r + 1) - 1 = 25 + (2 ^ (r + 1) - 1) by omega, hE2 _ (by omega) (by rw [(bl_full (r + 1) (by omega)).2]; omega), (bl_full (r + 1) (by omega)).1, (bl_full (r + 1) (by omega)).2, zdx_map fr (Gz ws ps)]
      have hm2 : (rwl 0 (r + 1)).map fr = k :: fl (Gz ws ps) k := by
        rw [← hr]
        exact fr_new (Gz ws ps) k fr (fun i hi => if_neg (by omega)) (by show (if _ then _ else _) = _; rw [if_pos hr])
      rw [hm2]
    have hz : rM q5 (25 + 2 ^ (r + 1) - 1) = (0, 0, 0, 0) ↔ Lo ws ps k := by
      rw [hdet, q64_0 (dx_len (Gz_len ws ps hn5) _ _ rfl) (Nat.lt_of_le_of_lt (dlen_5 _ (by simp only [List.length_cons]; omega)) (by decide)), Lo_dx (by omega)]
    have hlo : ((if rM q5 (25 + 2 ^ (r + 1) - 1) = (0, 0, 0, 0) then (1 : Int32) else 0) &&& 1) = loI ws ps k := by
      by_cases hL : Lo ws ps k
      · rw [if_pos (hz.mpr hL), loI_1 hL]; decide
      · rw [if_neg (fun e => hL (hz.mp e)), loI_0 hL]; decide
    refine ok_pos (inb_cI (by omega) (by decide)) (ok_bd ?_)
    show Ok (if inb (cI k) 5 then _ else _) _
    refine ok_pos (inb_cI (by omega) (by decide)) ?_
    rw [cI_nat (by omega), hlo, uI_s]
    have base : ∀ z : M2, (∀ y, y ≠ 157 → y ≠ 164 → z.1 y = q5.1 y) → z.2 = q5.2 → (∀ y, y ≠ 157 → y ≠ 164 → y ≠ 165 → z.1 y = g.1 y) ∧ ∀ y, y ≠ 158 → y ≠ 159 → z.2 y = g.2 y := by
      intro z hz1 hz2
      refine ⟨fun y y1 y2 y3 => ?_, fun y y1 y2 => ?_⟩
      · rw [hz1 y y1 y2, hE1.1, f1 y y3]; exact h1 y y1 y2 y3
      · rw [hz2, hE1.2.1 y y1 y2, f4]; exact h6 y y1 y2
    by_cases hL : Lo ws ps k
    · rw [loI_1 hL]
      refine ok_neg (by decide) (ok_some ⟨c_succ k, ?_⟩)
      have hfl : fl (Gz ws ps) (k + 1) = fl (Gz ws ps) k := fl_lost (by omega) hL
      obtain ⟨b1, b2⟩ := base (uI q5 164 k 1) (fun y _ y2 => uI_o q5 _ _ y2) rfl
      refine ⟨b1, fun j hj => ?_, ?_, fun i hi => ?_, fun i hi => ?_, b2⟩
      · rw [uI_o q5 _ _ (by decide), hE1.1, f1 _ (by decide)]; exact h2 j hj
      · rw [hfl, hr, uI_o q5 _ _ (by decide), hE1.1]; exact e14
      · rw [hfl, hr] at hi
        rw [uI_o q5 _ _ (by decide), hE1.1]
        have e : frz (Gz ws ps) (k + 1) i = frz (Gz ws ps) k i := by unfold frz; rw [hfl]
        rw [e, f3 i (by omega)]; exact h4 i hi
      · by_cases hik : i = k
        · rw [hik, uI_s, loI_1 hL]
        · rw [uI_k q5 _ _ hik, hE1.1, f1 _ (by decide)]; exact h5 i (by omega)
    · rw [loI_0 hL]
      refine ok_pos rfl (ok_bd ?_)
      refine ok_some ⟨c_succ k, ?_⟩
      have hfl : fl (Gz ws ps) (k + 1) = k :: fl (Gz ws ps) k := fl_free (by omega) hL
      obtain ⟨b1, b2⟩ := base (uI (uI q5 164 k 0) 157 14 ((uI q5 164 k 0).1 157 14 + 1)) (fun y y1 y2 => by rw [uI_o _ _ _ y1, uI_o _ _ _ y2]) rfl
      refine ⟨b1, fun j hj => ?_, ?_, fun i hi => ?_, fun i hi => ?_, b2⟩
      · rw [uI_k _ _ _ hj, uI_o q5 _ _ (by decide), hE1.1, f1 _ (by decide)]; exact h2 j hj
      · rw [hfl, List.length_cons, hr, uI_s, uI_o q5 _ _ (by decide), hE1.1, e14]; exact c_succ r
      · rw [hfl, List.length_cons, hr] at hi
        rw [uI_o _ _ _ (by decide), uI_o q5 _ _ (by decide), hE1.1, (hfr i hi).1]
        congr 1
        show (if i = r then k else frz (Gz ws ps) k i) = frz (Gz ws ps) (k + 1) i
        unfold frz
        rw [hfl, List.reverse_cons]
        by_cases hir : i = r
        · rw [if_pos hir, List.getD_eq_getElem?_getD, List.getElem?_append_right (by rw [List.length_reverse]; omega), List.length_reverse, show i - (fl (Gz ws ps) k).length = 0 by omega]; rfl
        · rw [if_neg hir, List.getD_eq_getElem?_getD, List.getD_eq_getElem?_getD, List.getElem?_append_left (by rw [List.length_reverse]; omega)]
      · rw [uI_o _ _ _ (by decide)]
        by_cases hik : i = k
        · rw [hik, uI_s, loI_0 hL]
        · rw [uI_k q5 _ _ hik, hE1.1, f1 _ (by decide)]; exact h5 i (by omega)
  · intro s hs
    show Ok (b_Mo_findsRank_5 (cI m) s) _
    unfold b_Mo_findsRank_5
    rw [hs.2.1 10 (by decide), hm]
    exact ok_pos (le_yes (Nat.le_refl _) (by omega)) (ok_some hs)
