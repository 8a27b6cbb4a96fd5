/-! the class's numbers -/
def rN (g : M2) (a : Nat) : Q6 := (g.2 a 0, g.2 a 1, g.2 a 2, g.2 a 3)
def sN (g : M2) (a : Nat) (v : Q6) : M2 := (g.1, fun y k => if y = a then (if k = 0 then v.1 else if k = 1 then v.2.1 else if k = 2 then v.2.2.1 else if k = 3 then v.2.2.2 else g.2 a k) else g.2 y k)
theorem sN_1 (g : M2) (a : Nat) (v : Q6) : (sN g a v).1 = g.1 := rfl
theorem sN_o (g : M2) {a y : Nat} (v : Q6) (h : y ≠ a) : (sN g a v).2 y = g.2 y := by
  funext k; show (if y = a then _ else _) = _; rw [if_neg h]
theorem rN_sN (g : M2) (a : Nat) (v : Q6) : rN (sN g a v) a = v := by
  apply q_ext <;> simp [rN, sN]
theorem rN_sNo (g : M2) {a b : Nat} (v : Q6) (h : b ≠ a) : rN (sN g a v) b = rN g b := by
  unfold rN; rw [sN_o g v h]
theorem sN_sN (g : M2) (a : Nat) (v w : Q6) : sN (sN g a v) a w = sN g a w := by
  unfold sN
  apply Prod.ext
  · rfl
  · funext y k
    simp only
    by_cases hy : y = a
    · subst hy
      simp only [if_true]
      by_cases h0 : k = 0
      · simp only [h0, if_true]
      · by_cases h1 : k = 1
        · simp only [h1, if_true]
        · by_cases h2 : k = 2
          · simp only [h2, if_true]
          · by_cases h3 : k = 3
            · simp only [h3, if_true]
            · simp only [h0, h1, h2, h3, if_false]
    · simp only [hy, if_false]
theorem sN_ext {g h : M2} {a : Nat} {v : Q6} (h1 : h.1 = g.1) (h2 : ∀ y, y ≠ a → h.2 y = g.2 y) (h3 : ∀ k, 4 ≤ k → h.2 a k = g.2 a k) (e0 : h.2 a 0 = v.1) (e1 : h.2 a 1 = v.2.1) (e2 : h.2 a 2 = v.2.2.1) (e3 : h.2 a 3 = v.2.2.2) : h = sN g a v := by
  apply Prod.ext
  · exact h1
  · funext y k
    show h.2 y k = (if y = a then (if k = 0 then v.1 else if k = 1 then v.2.1 else if k = 2 then v.2.2.1 else if k = 3 then v.2.2.2 else g.2 a k) else g.2 y k)
    by_cases hy : y = a
    · subst hy
      rw [if_pos rfl]
      by_cases k0 : k = 0
      · rw [if_pos k0, k0]; exact e0
      · rw [if_neg k0]
        by_cases k1 : k = 1
        · rw [if_pos k1, k1]; exact e1
        · rw [if_neg k1]
          by_cases k2 : k = 2
          · rw [if_pos k2, k2]; exact e2
          · rw [if_neg k2]
            by_cases k3 : k = 3
            · rw [if_pos k3, k3]; exact e3
            · rw [if_neg k3]; exact h3 k (by omega)
    · rw [if_neg hy, h2 y hy]
theorem sN_id (g : M2) (a : Nat) : sN g a (rN g a) = g := (sN_ext rfl (fun _ _ => rfl) (fun _ _ => rfl) rfl rfl rfl rfl).symm
theorem uu (g : M2) (a k : Nat) (x : Int64) (y j : Nat) : (uJ g a k x).2 y j = if y = a then (if j = k then x else g.2 a j) else g.2 y j := by
  show (mm_uJ g.2 a k x) y j = _
  unfold mm_uJ vp_updL
  by_cases hy : y = a
  · subst hy; rw [if_pos rfl, if_pos rfl]
  · rw [if_neg hy, if_neg hy]
theorem u_o4 {g : M2} {a : Nat} {x0 x1 x2 x3 : Int64} {k0 k1 k2 k3 : Nat} : ∀ y, y ≠ a → (uJ (uJ (uJ (uJ g a k0 x0) a k1 x1) a k2 x2) a k3 x3).2 y = g.2 y := fun y hy => by rw [uJ_o _ _ _ hy, uJ_o _ _ _ hy, uJ_o _ _ _ hy, uJ_o _ _ _ hy]
theorem u_k4 {g : M2} {a : Nat} {x0 x1 x2 x3 : Int64} {k0 k1 k2 k3 : Nat} (h0 : k0 < 4) (h1 : k1 < 4) (h2 : k2 < 4) (h3 : k3 < 4) : ∀ k, 4 ≤ k → (uJ (uJ (uJ (uJ g a k0 x0) a k1 x1) a k2 x2) a k3 x3).2 a k = g.2 a k := fun k hk => by rw [uJ_k _ _ _ (by omega), uJ_k _ _ _ (by omega), uJ_k _ _ _ (by omega), uJ_k _ _ _ (by omega)]
theorem sN_4 (g : M2) (a : Nat) (v : Q6) : uJ (uJ (uJ (uJ g a 0 v.1) a 1 v.2.1) a 2 v.2.2.1) a 3 v.2.2.2 = sN g a v :=
  sN_ext rfl u_o4 (u_k4 (by decide) (by decide) (by decide) (by decide)) (by simp [uu]) (by simp [uu]) (by simp [uu]) (by simp [uu])
theorem nu_clear (a : Nat) (g : M2) : f_Nu_clear a g = some (sN g a (0, 0, 0, 0)) := congrArg some (sN_4 g a (0, 0, 0, 0))
theorem nu_setParts (a : Nat) (x y z w : Int64) (g : M2) : f_Nu_setParts a x y z w g = some (sN g a (x, y, z, w)) := congrArg some (sN_4 g a (x, y, z, w))
theorem nu_copy {a p : Nat} (h : p ≠ a) (g : M2) : f_Nu_copy a p g = some (sN g a (rN g p)) := by
  refine Eq.trans ?_ (congrArg some (sN_4 g a (rN g p)))
  simp only [f_Nu_copy, bd, uu, h, if_false, rN]
theorem nu_mirror {a p : Nat} (h : p ≠ a) (g : M2) : f_Nu_mirror a p g = some (sN g a (cj (rN g p))) := by
  refine Eq.trans ?_ (congrArg some (sN_4 g a (cj (rN g p))))
  simp only [f_Nu_mirror, bd, uu, h, if_false, rN, cj]
theorem nu_multiply {a p q : Nat} (hp : p ≠ a) (hq : q ≠ a) (g : M2) : f_Nu_multiply a p q g = some (sN g a (qmul (rN g p) (rN g q))) := by
  refine Eq.trans ?_ (congrArg some (sN_4 g a (qmul (rN g p) (rN g q))))
  simp only [f_Nu_multiply, bd, uu, hp, hq, if_false, rN, qmul]
theorem nu_takeAway {a p : Nat} (h : p ≠ a) (g : M2) : f_Nu_takeAway a p g = some (sN g a (qsub (rN g a) (rN g p))) := by
  refine Eq.trans ?_ (congrArg some (sN_4 g a (qsub (rN g a) (rN g p))))
  simp only [f_Nu_takeAway, bd, uu, h, if_false, rN, qsub, if_true]
  simp
theorem nu_scale (a : Nat) (x : Int64) (g : M2) : f_Nu_scale a x g = some (sN g a (qsc x (rN g a))) := by
  refine Eq.trans ?_ (congrArg some (sN_4 g a (qsc x (rN g a))))
  simp only [f_Nu_scale, bd, uu, rN, qsc, if_true]
  simp
theorem nu_addScaled {a p : Nat} (h : p ≠ a) (x : Int64) (g : M2) : f_Nu_addScaled a p x g = some (sN g a (qadd (rN g a) (qsc x (rN g p)))) := by
  refine Eq.trans ?_ (congrArg some (sN_4 g a (qadd (rN g a) (qsc x (rN g p)))))
  simp only [f_Nu_addScaled, bd, uu, h, if_false, rN, qadd, qsc, if_true]
  simp
theorem nu_timesReal (a : Nat) (x y : Int64) (g : M2) : f_Nu_timesReal a x y g = some (sN g a (qmul (rN g a) (re x y))) := by
  show some (uJ (uJ (uJ (uJ g a 3 _) a 0 _) a 1 _) a 2 _) = _
  refine congrArg some (sN_ext rfl u_o4 (u_k4 (by decide) (by decide) (by decide) (by decide)) ?_ ?_ ?_ ?_) <;> simp only [uu, if_true, qmul, re, rN] <;> simp <;> grind
def qdv (v : Q6) (x : Int64) : Q6 := (v.1 / x, v.2.1 / x, v.2.2.1 / x, v.2.2.2 / x)
theorem nu_divide {x : Int64} (hx : x ≠ 0) (a : Nat) (g : M2) : f_Nu_divide a x g = some (sN g a (qdv (rN g a) x)) := by
  refine Eq.trans ?_ (congrArg some (sN_4 g a (qdv (rN g a) x)))
  unfold f_Nu_divide
  rw [if_neg hx, if_neg hx]
  simp only [bd, uu, rN, qdv, if_true]
  rw [if_neg hx, if_neg hx, if_neg hx]
  simp
theorem nu_isZero (a : Nat) (g : M2) : f_Nu_isZero a g = if rN g a = (0, 0, 0, 0) then (1 : Int32) else 0 := by
  unfold f_Nu_isZero rN
  by_cases h1 : g.2 a 0 = 0
  · by_cases h2 : g.2 a 1 = 0
    · by_cases h3 : g.2 a 2 = 0
      · by_cases h4 : g.2 a 3 = 0
        · simp [h1, h2, h3, h4]
        · simp [h1, h2, h3, h4]
      · simp [h1, h2, h3]
    · simp [h1, h2]
  · simp [h1]
theorem rm12 : ∀ k : Nat, k < 256 → cI k - cI k / (12 : Int32) * (12 : Int32) = cI (k % 12) := by decide +kernel
theorem rm6 : ∀ k : Nat, k < 256 → cI k - cI k / (6 : Int32) * (6 : Int32) = cI (k % 6) := by decide +kernel
theorem u_o1 {g : M2} {a : Nat} {x0 : Int64} {k0 : Nat} : ∀ y, y ≠ a → (uJ g a k0 x0).2 y = g.2 y := fun y hy => uJ_o _ _ _ hy
theorem u_o2 {g : M2} {a : Nat} {x0 x1 : Int64} {k0 k1 : Nat} : ∀ y, y ≠ a → (uJ (uJ g a k0 x0) a k1 x1).2 y = g.2 y := fun y hy => by rw [uJ_o _ _ _ hy, uJ_o _ _ _ hy]
theorem u_k1 {g : M2} {a : Nat} {x0 : Int64} {k0 : Nat} (h0 : k0 < 4) : ∀ k, 4 ≤ k → (uJ g a k0 x0).2 a k = g.2 a k := fun k hk => uJ_k _ _ _ (by omega)
theorem u_k2 {g : M2} {a : Nat} {x0 x1 : Int64} {k0 k1 : Nat} (h0 : k0 < 4) (h1 : k1 < 4) : ∀ k, 4 ≤ k → (uJ (uJ g a k0 x0) a k1 x1).2 a k = g.2 a k := fun k hk => by rw [uJ_k _ _ _ (by omega), uJ_k _ _ _ (by omega)]
theorem i64_1 : (1 : Int32).toInt64 = 1 := rfl
theorem i64_n1 : (-1 : Int32).toInt64 = -1 := rfl
theorem nu_addRoot {k : Nat} (hk : k < 256) (a : Nat) (g : M2) : f_Nu_addRoot a (cI k) g = some (sN g a (qadd (rN g a) (rt6 k))) := by
  unfold f_Nu_addRoot j_Nu_addRoot_9
  rw [rm12 k hk, rm6 k hk]
  have h12 : k % 12 = 0 ∨ k % 12 = 1 ∨ k % 12 = 2 ∨ k % 12 = 3 ∨ k % 12 = 4 ∨ k % 12 = 5 ∨ k % 12 = 6 ∨ k % 12 = 7 ∨ k % 12 = 8 ∨ k % 12 = 9 ∨ k % 12 = 10 ∨ k % 12 = 11 := by omega
  rcases h12 with h | h | h | h | h | h | h | h | h | h | h | h
  · rw [h, show k % 6 = 0 by omega, if_neg (show ¬ (6 : Int32) ≤ cI 0 by decide), if_pos (by decide), rt6_eq (show k % 12 = 0 % 12 by omega), show rt6 0 = (1, 0, 0, 0) from rfl]
    refine congrArg some (sN_ext rfl u_o1 (u_k1 (by decide)) ?_ ?_ ?_ ?_) <;> simp only [uu, if_true, qadd, rN, i64_1, i64_n1] <;> simp <;> grind
  · rw [h, show k % 6 = 1 by omega, if_neg (show ¬ (6 : Int32) ≤ cI 1 by decide), if_neg (by decide), if_pos (by decide), rt6_eq (show k % 12 = 1 % 12 by omega), show rt6 1 = (0, 1, 0, 0) from rfl]
    refine congrArg some (sN_ext rfl u_o1 (u_k1 (by decide)) ?_ ?_ ?_ ?_) <;> simp only [uu, if_true, qadd, rN, i64_1, i64_n1] <;> simp <;> grind
  · rw [h, show k % 6 = 2 by omega, if_neg (show ¬ (6 : Int32) ≤ cI 2 by decide), if_neg (by decide), if_neg (by decide), if_pos (by decide), rt6_eq (show k % 12 = 2 % 12 by omega), show rt6 2 = (0, 0, 1, 0) from rfl]
    refine congrArg some (sN_ext rfl u_o1 (u_k1 (by decide)) ?_ ?_ ?_ ?_) <;> simp only [uu, if_true, qadd, rN, i64_1, i64_n1] <;> simp <;> grind
  · rw [h, show k % 6 = 3 by omega, if_neg (show ¬ (6 : Int32) ≤ cI 3 by decide), if_neg (by decide), if_neg (by decide), if_neg (by decide), if_pos (by decide), rt6_eq (show k % 12 = 3 % 12 by omega), show rt6 3 = (0, 0, 0, 1) from rfl]
    refine congrArg some (sN_ext rfl u_o1 (u_k1 (by decide)) ?_ ?_ ?_ ?_) <;> simp only [uu, if_true, qadd, rN, i64_1, i64_n1] <;> simp <;> grind
  · rw [h, show k % 6 = 4 by omega, if_neg (show ¬ (6 : Int32) ≤ cI 4 by decide), if_neg (by decide), if_neg (by decide), if_neg (by decide), if_neg (by decide), if_pos (by decide), rt6_eq (show k % 12 = 4 % 12 by omega), show rt6 4 = (-1, 0, 1, 0) from rfl]
    refine congrArg some (sN_ext rfl u_o2 (u_k2 (by decide) (by decide)) ?_ ?_ ?_ ?_) <;> simp only [uu, if_true, qadd, rN, i64_1, i64_n1] <;> simp <;> grind
  · rw [h, show k % 6 = 5 by omega, if_neg (show ¬ (6 : Int32) ≤ cI 5 by decide), if_neg (by decide), if_neg (by decide), if_neg (by decide), if_neg (by decide), if_neg (by decide), rt6_eq (show k % 12 = 5 % 12 by omega), show rt6 5 = (0, -1, 0, 1) from rfl]
    refine congrArg some (sN_ext rfl u_o2 (u_k2 (by decide) (by decide)) ?_ ?_ ?_ ?_) <;> simp only [uu, if_true, qadd, rN, i64_1, i64_n1] <;> simp <;> grind
  · rw [h, show k % 6 = 0 by omega, if_pos (show (6 : Int32) ≤ cI 6 by decide), if_pos (by decide), rt6_eq (show k % 12 = 6 % 12 by omega), show rt6 6 = (-1, 0, 0, 0) from rfl]
    refine congrArg some (sN_ext rfl u_o1 (u_k1 (by decide)) ?_ ?_ ?_ ?_) <;> simp only [uu, if_true, qadd, rN, i64_1, i64_n1] <;> simp <;> grind
  · rw [h, show k % 6 = 1 by omega, if_pos (show (6 : Int32) ≤ cI 7 by decide), if_neg (by decide), if_pos (by decide), rt6_eq (show k % 12 = 7 % 12 by omega), show rt6 7 = (0, -1, 0, 0) from rfl]
    refine congrArg some (sN_ext rfl u_o1 (u_k1 (by decide)) ?_ ?_ ?_ ?_) <;> simp only [uu, if_true, qadd, rN, i64_1, i64_n1] <;> simp <;> grind
  · rw [h, show k % 6 = 2 by omega, if_pos (show (6 : Int32) ≤ cI 8 by decide), if_neg (by decide), if_neg (by decide), if_pos (by decide), rt6_eq (show k % 12 = 8 % 12 by omega), show rt6 8 = (0, 0, -1, 0) from rfl]
    refine congrArg some (sN_ext rfl u_o1 (u_k1 (by decide)) ?_ ?_ ?_ ?_) <;> simp only [uu, if_true, qadd, rN, i64_1, i64_n1] <;> simp <;> grind
  · rw [h, show k % 6 = 3 by omega, if_pos (show (6 : Int32) ≤ cI 9 by decide), if_neg (by decide), if_neg (by decide), if_neg (by decide), if_pos (by decide), rt6_eq (show k % 12 = 9 % 12 by omega), show rt6 9 = (0, 0, 0, -1) from rfl]
    refine congrArg some (sN_ext rfl u_o1 (u_k1 (by decide)) ?_ ?_ ?_ ?_) <;> simp only [uu, if_true, qadd, rN, i64_1, i64_n1] <;> simp <;> grind
  · rw [h, show k % 6 = 4 by omega, if_pos (show (6 : Int32) ≤ cI 10 by decide), if_neg (by decide), if_neg (by decide), if_neg (by decide), if_neg (by decide), if_pos (by decide), rt6_eq (show k % 12 = 10 % 12 by omega), show rt6 10 = (1, 0, -1, 0) from rfl]
    refine congrArg some (sN_ext rfl u_o2 (u_k2 (by decide) (by decide)) ?_ ?_ ?_ ?_) <;> simp only [uu, if_true, qadd, rN, i64_1, i64_n1] <;> simp <;> grind
  · rw [h, show k % 6 = 5 by omega, if_pos (show (6 : Int32) ≤ cI 11 by decide), if_neg (by decide), if_neg (by decide), if_neg (by decide), if_neg (by decide), if_neg (by decide), rt6_eq (show k % 12 = 11 % 12 by omega), show rt6 11 = (0, 1, 0, -1) from rfl]
    refine congrArg some (sN_ext rfl u_o2 (u_k2 (by decide) (by decide)) ?_ ?_ ?_ ?_) <;> simp only [uu, if_true, qadd, rN, i64_1, i64_n1] <;> simp <;> grind
theorem nu_addTurned {k a p : Nat} (hk : k < 256) (hp : p ≠ a) (g : M2) : f_Nu_addTurned a p (cI k) g = some (sN g a (qadd (rN g a) (qmul (rN g p) (rt6 k)))) := by
  unfold f_Nu_addTurned j_Nu_addTurned_9
  rw [rm12 k hk, rm6 k hk]
  have h12 : k % 12 = 0 ∨ k % 12 = 1 ∨ k % 12 = 2 ∨ k % 12 = 3 ∨ k % 12 = 4 ∨ k % 12 = 5 ∨ k % 12 = 6 ∨ k % 12 = 7 ∨ k % 12 = 8 ∨ k % 12 = 9 ∨ k % 12 = 10 ∨ k % 12 = 11 := by omega
  rcases h12 with h | h | h | h | h | h | h | h | h | h | h | h
  · rw [h, show k % 6 = 0 by omega, if_neg (show ¬ (6 : Int32) ≤ cI 0 by decide), if_pos (by decide), rt6_eq (show k % 12 = 0 % 12 by omega), show rt6 0 = (1, 0, 0, 0) from rfl]
    refine congrArg some (sN_ext rfl u_o4 (u_k4 (by decide) (by decide) (by decide) (by decide)) ?_ ?_ ?_ ?_) <;> simp only [uu, if_true, qadd, qmul, rN, i64_1, i64_n1] <;> simp <;> grind
  · rw [h, show k % 6 = 1 by omega, if_neg (show ¬ (6 : Int32) ≤ cI 1 by decide), if_neg (by decide), if_pos (by decide), rt6_eq (show k % 12 = 1 % 12 by omega), show rt6 1 = (0, 1, 0, 0) from rfl]
    refine congrArg some (sN_ext rfl u_o4 (u_k4 (by decide) (by decide) (by decide) (by decide)) ?_ ?_ ?_ ?_) <;> simp only [uu, if_true, qadd, qmul, rN, i64_1, i64_n1] <;> simp <;> grind
  · rw [h, show k % 6 = 2 by omega, if_neg (show ¬ (6 : Int32) ≤ cI 2 by decide), if_neg (by decide), if_neg (by decide), if_pos (by decide), rt6_eq (show k % 12 = 2 % 12 by omega), show rt6 2 = (0, 0, 1, 0) from rfl]
    refine congrArg some (sN_ext rfl u_o4 (u_k4 (by decide) (by decide) (by decide) (by decide)) ?_ ?_ ?_ ?_) <;> simp only [uu, if_true, qadd, qmul, rN, i64_1, i64_n1] <;> simp <;> grind
  · rw [h, show k % 6 = 3 by omega, if_neg (show ¬ (6 : Int32) ≤ cI 3 by decide), if_neg (by decide), if_neg (by decide), if_neg (by decide), if_pos (by decide), rt6_eq (show k % 12 = 3 % 12 by omega), show rt6 3 = (0, 0, 0, 1) from rfl]
    refine congrArg some (sN_ext rfl u_o4 (u_k4 (by decide) (by decide) (by decide) (by decide)) ?_ ?_ ?_ ?_) <;> simp only [uu, if_true, qadd, qmul, rN, i64_1, i64_n1] <;> simp <;> grind
  · rw [h, show k % 6 = 4 by omega, if_neg (show ¬ (6 : Int32) ≤ cI 4 by decide), if_neg (by decide), if_neg (by decide), if_neg (by decide), if_neg (by decide), if_pos (by decide), rt6_eq (show k % 12 = 4 % 12 by omega), show rt6 4 = (-1, 0, 1, 0) from rfl]
    refine congrArg some (sN_ext rfl u_o4 (u_k4 (by decide) (by decide) (by decide) (by decide)) ?_ ?_ ?_ ?_) <;> simp only [uu, if_true, qadd, qmul, rN, i64_1, i64_n1] <;> simp <;> grind
  · rw [h, show k % 6 = 5 by omega, if_neg (show ¬ (6 : Int32) ≤ cI 5 by decide), if_neg (by decide), if_neg (by decide), if_neg (by decide), if_neg (by decide), if_neg (by decide), rt6_eq (show k % 12 = 5 % 12 by omega), show rt6 5 = (0, -1, 0, 1) from rfl]
    refine congrArg some (sN_ext rfl u_o4 (u_k4 (by decide) (by decide) (by decide) (by decide)) ?_ ?_ ?_ ?_) <;> simp only [uu, if_true, qadd, qmul, rN, i64_1, i64_n1] <;> simp <;> grind
  · rw [h, show k % 6 = 0 by omega, if_pos (show (6 : Int32) ≤ cI 6 by decide), if_pos (by decide), rt6_eq (show k % 12 = 6 % 12 by omega), show rt6 6 = (-1, 0, 0, 0) from rfl]
    refine congrArg some (sN_ext rfl u_o4 (u_k4 (by decide) (by decide) (by decide) (by decide)) ?_ ?_ ?_ ?_) <;> simp only [uu, if_true, qadd, qmul, rN, i64_1, i64_n1] <;> simp <;> grind
  · rw [h, show k % 6 = 1 by omega, if_pos (show (6 : Int32) ≤ cI 7 by decide), if_neg (by decide), if_pos (by decide), rt6_eq (show k % 12 = 7 % 12 by omega), show rt6 7 = (0, -1, 0, 0) from rfl]
    refine congrArg some (sN_ext rfl u_o4 (u_k4 (by decide) (by decide) (by decide) (by decide)) ?_ ?_ ?_ ?_) <;> simp only [uu, if_true, qadd, qmul, rN, i64_1, i64_n1] <;> simp <;> grind
  · rw [h, show k % 6 = 2 by omega, if_pos (show (6 : Int32) ≤ cI 8 by decide), if_neg (by decide), if_neg (by decide), if_pos (by decide), rt6_eq (show k % 12 = 8 % 12 by omega), show rt6 8 = (0, 0, -1, 0) from rfl]
    refine congrArg some (sN_ext rfl u_o4 (u_k4 (by decide) (by decide) (by decide) (by decide)) ?_ ?_ ?_ ?_) <;> simp only [uu, if_true, qadd, qmul, rN, i64_1, i64_n1] <;> simp <;> grind
  · rw [h, show k % 6 = 3 by omega, if_pos (show (6 : Int32) ≤ cI 9 by decide), if_neg (by decide), if_neg (by decide), if_neg (by decide), if_pos (by decide), rt6_eq (show k % 12 = 9 % 12 by omega), show rt6 9 = (0, 0, 0, -1) from rfl]
    refine congrArg some (sN_ext rfl u_o4 (u_k4 (by decide) (by decide) (by decide) (by decide)) ?_ ?_ ?_ ?_) <;> simp only [uu, if_true, qadd, qmul, rN, i64_1, i64_n1] <;> simp <;> grind
  · rw [h, show k % 6 = 4 by omega, if_pos (show (6 : Int32) ≤ cI 10 by decide), if_neg (by decide), if_neg (by decide), if_neg (by decide), if_neg (by decide), if_pos (by decide), rt6_eq (show k % 12 = 10 % 12 by omega), show rt6 10 = (1, 0, -1, 0) from rfl]
    refine congrArg some (sN_ext rfl u_o4 (u_k4 (by decide) (by decide) (by decide) (by decide)) ?_ ?_ ?_ ?_) <;> simp only [uu, if_true, qadd, qmul, rN, i64_1, i64_n1] <;> simp <;> grind
  · rw [h, show k % 6 = 5 by omega, if_pos (show (6 : Int32) ≤ cI 11 by decide), if_neg (by decide), if_neg (by decide), if_neg (by decide), if_neg (by decide), if_neg (by decide), rt6_eq (show k % 12 = 11 % 12 by omega), show rt6 11 = (0, 1, 0, -1) from rfl]
    refine congrArg some (sN_ext rfl u_o4 (u_k4 (by decide) (by decide) (by decide) (by decide)) ?_ ?_ ?_ ?_) <;> simp only [uu, if_true, qadd, qmul, rN, i64_1, i64_n1] <;> simp <;> grind
