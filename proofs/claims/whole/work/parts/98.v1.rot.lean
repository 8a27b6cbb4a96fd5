/-! positions moved by one: what stays -/
def plR {R : Type} [Lean.Grind.CommRing R] (b : Nat → R) : List Nat → R
  | [] => 1
  | c :: cs => b c * plR b cs
theorem plR_app {R : Type} [Lean.Grind.CommRing R] (b : Nat → R) (l m : List Nat) : plR b (l ++ m) = plR b l * plR b m := by
  induction l with
  | nil => show plR b m = 1 * plR b m; grind
  | cons a l ih => show b a * plR b (l ++ m) = b a * plR b l * plR b m; rw [ih]; grind
theorem plR_one {R : Type} [Lean.Grind.CommRing R] {a b : Nat → R} (h : ∀ r, a r * b r = 1) : ∀ l, plR a l * plR b l = 1 := by
  intro l
  induction l with
  | nil => show (1 : R) * 1 = 1; grind
  | cons c l ih =>
    show a c * plR a l * (b c * plR b l) = 1
    have e : a c * plR a l * (b c * plR b l) = (a c * b c) * (plR a l * plR b l) := by grind
    rw [e, h c, ih]; grind
theorem dy_sc {R : Type} [Lean.Grind.CommRing R] {row row2 : Nat → R} {F E : List Nat → R} {a x : R} {b : Nat → R} (hr : ∀ c, row2 c = a * b c * row c) : ∀ (cs pre : List Nat), (∀ l : List Nat, l.length + 1 = pre.length + cs.length → E l = x * plR b l * F l) → dy row2 E pre cs = a * x * plR b (pre ++ cs) * dy row F pre cs := by
  intro cs
  induction cs with
  | nil => intro pre _; show (0 : R) = _ * 0; grind
  | cons c cs ih =>
    intro pre hE
    show row2 c * E (pre ++ cs) - dy row2 E (pre ++ [c]) cs = a * x * plR b (pre ++ c :: cs) * (row c * F (pre ++ cs) - dy row F (pre ++ [c]) cs)
    rw [hE (pre ++ cs) (by simp; omega), ih (pre ++ [c]) (fun l hl => hE l (by rw [hl]; simp; omega)), hr c, plR_app, plR_app, plR_app, plR_app]
    show a * b c * row c * (x * (plR b pre * plR b cs) * F (pre ++ cs)) - a * x * (plR b pre * (b c * 1) * plR b cs) * dy row F (pre ++ [c]) cs = a * x * (plR b pre * (b c * plR b cs)) * (row c * F (pre ++ cs) - dy row F (pre ++ [c]) cs)
    grind
theorem dx_sc {R : Type} [Lean.Grind.CommRing R] {G H : Nat → Nat → R} {a b : Nat → R} (hG : ∀ r c, H r c = a r * b c * G r c) : ∀ (rs cs : List Nat), cs.length = rs.length → dx H rs cs = plR a rs * plR b cs * dx G rs cs := by
  intro rs
  induction rs with
  | nil =>
    intro cs hl
    have : cs = [] := List.eq_nil_of_length_eq_zero hl
    subst this
    show (1 : R) = 1 * 1 * 1
    grind
  | cons r rs ih =>
    intro cs hl
    show dy (H r) (dx H rs) [] cs = a r * plR a rs * plR b cs * dy (G r) (dx G rs) [] cs
    rw [dy_sc (row := G r) (F := dx G rs) (a := a r) (x := plR a rs) (b := b) (hG r) cs [] (fun l hl2 => ih l (by simp at hl2; simp at hl; omega))]
    rfl
/-- what the positions make is turned alike -/
def RS (ws : Nat → Nat) (ps ps2 : List Nat) : Prop := ∀ i j, Gz ws ps2 i j = qmul (qmul (rt (ws i)) (rt (11 * ws j))) (Gz ws ps i j)
theorem rt_12k (k : Nat) : rt (12 * k) = (1, 0, 0, 0) := by
  rw [rt_eq (j := 0) (by omega)]; rfl
theorem rt_inv (w : Nat) : qmul (rt w) (rt (11 * w)) = (1, 0, 0, 0) := by
  rw [rt_mul, show w + 11 * w = 12 * w by omega, rt_12k]
theorem z_1m (a : Z4) : qmul (1, 0, 0, 0) a = a := by apply q_ext <;> simp only [qmul] <;> grind
theorem z_mc (a b : Z4) : qmul a b = qmul b a := by apply q_ext <;> simp only [qmul] <;> grind
theorem z_ma (a b c : Z4) : qmul (qmul a b) c = qmul a (qmul b c) := by apply q_ext <;> simp only [qmul] <;> grind
theorem zdx_sc {G H : Nat → Nat → Z4} {a b : Nat → Z4} (hG : ∀ r c, H r c = qmul (qmul (a r) (b c)) (G r c)) (rs cs : List Nat) (hl : cs.length = rs.length) : zdx H rs cs = qmul (qmul (@plR Z4 (qR Int) a rs) (@plR Z4 (qR Int) b cs)) (zdx G rs cs) := @dx_sc Z4 (qR Int) G H a b hG rs cs hl
theorem rs_dx {ws : Nat → Nat} {ps ps2 : List Nat} (h : RS ws ps ps2) (f : List Nat) : zdx (Gz ws ps2) f f = zdx (Gz ws ps) f f := by
  rw [zdx_sc (a := fun r => rt (ws r)) (b := fun c => rt (11 * ws c)) h f f rfl]
  have e : qmul (@plR Z4 (qR Int) (fun r => rt (ws r)) f) (@plR Z4 (qR Int) (fun c => rt (11 * ws c)) f) = (1, 0, 0, 0) := @plR_one Z4 (qR Int) (fun r => rt (ws r)) (fun c => rt (11 * ws c)) (fun r => rt_inv (ws r)) f
  rw [e, z_1m]
theorem rs_fl {ws : Nat → Nat} {ps ps2 : List Nat} (h : RS ws ps ps2) : ∀ i, fl (Gz ws ps2) i = fl (Gz ws ps) i := by
  intro i
  induction i with
  | zero => rfl
  | succ i ih =>
    unfold fl
    rw [ih, rs_dx h]
theorem rs_rm {ws : Nat → Nat} {ps ps2 : List Nat} (h : RS ws ps ps2) (i : Nat) : rm ws ps2 i = rm ws ps i := by
  unfold rm
  rw [rs_fl h, rs_dx h]
theorem rs_low {ws : Nat → Nat} {ps ps2 : List Nat} (h : RS ws ps ps2) (m : Nat) : rX ws ps2 m = rX ws ps m ∧ rY ws ps2 m = rY ws ps m ∧ lowz ws ps2 m = lowz ws ps m := by
  unfold lowz rX rY
  rw [rs_rm h]
  exact ⟨rfl, rfl, rfl⟩
theorem rs_Lo {ws : Nat → Nat} {ps ps2 : List Nat} (h : RS ws ps ps2) {i : Nat} (hi : i < 5) : Lo ws ps2 i ↔ Lo ws ps i := by
  rw [Lo_dx hi, Lo_dx hi, rs_fl h, rs_dx h]
theorem rs_ask {ws : Nat → Nat} {ps ps2 : List Nat} (h : RS ws ps ps2) (i : Nat) : mi ws ps i i 5 = (0, 0, 0, 0) → mi ws ps2 i i 5 = (0, 0, 0, 0) := by
  intro h0
  unfold mi at h0 ⊢
  rw [rs_fl h, zdx_sc (G := Gx ws ps) (a := fun r => rt (ws r)) (b := fun c => if c = 5 then rt (11 * ws 0) else rt (11 * ws c)) (fun r c => ?_) _ _ (by simp), h0, z_m0]
  unfold Gx gx
  by_cases hc : c = 5
  · rw [if_pos hc, if_pos hc, if_pos hc]
    by_cases hr : r = 0
    · rw [if_pos hr, hr]
      show ((1, 0, 0, 0) : Z4) = qmul (qmul (rt (ws 0)) (rt (11 * ws 0))) (1, 0, 0, 0)
      rw [rt_inv, z_1m]
    · rw [if_neg hr]
      show ((0, 0, 0, 0) : Z4) = qmul _ (0, 0, 0, 0)
      rw [z_m0]
  · rw [if_neg hc, if_neg hc, if_neg hc]
    exact h r c
theorem RS_back {ws : Nat → Nat} {ps ps2 : List Nat} (h : RS ws ps ps2) : ∀ i j, Gz ws ps i j = qmul (qmul (rt (11 * ws i)) (rt (ws j))) (Gz ws ps2 i j) := by
  intro i j
  rw [h i j, ← z_ma, rt_mul, rt_mul, rt_mul, rt_eq (j := 0) (by omega)]
  show _ = qmul (1, 0, 0, 0) _
  rw [z_1m]
theorem rs_ask2 {ws : Nat → Nat} {ps ps2 : List Nat} (h : RS ws ps ps2) (i : Nat) : mi ws ps2 i i 5 = (0, 0, 0, 0) → mi ws ps i i 5 = (0, 0, 0, 0) := by
  intro h0
  unfold mi at h0 ⊢
  rw [← rs_fl h, zdx_sc (G := Gx ws ps2) (a := fun r => rt (11 * ws r)) (b := fun c => if c = 5 then rt (ws 0) else rt (ws c)) (fun r c => ?_) _ _ (by simp), h0, z_m0]
  unfold Gx gx
  by_cases hc : c = 5
  · rw [if_pos hc, if_pos hc, if_pos hc]
    by_cases hr : r = 0
    · rw [if_pos hr, hr]
      show ((1, 0, 0, 0) : Z4) = qmul (qmul (rt (11 * ws 0)) (rt (ws 0))) (1, 0, 0, 0)
      rw [z_mc (rt (11 * ws 0)), rt_inv, z_1m]
    · rw [if_neg hr]
      show ((0, 0, 0, 0) : Z4) = qmul _ (0, 0, 0, 0)
      rw [z_m0]
  · rw [if_neg hc, if_neg hc, if_neg hc]
    exact RS_back h r c
theorem rs_hd {ws : Nat → Nat} {ps ps2 : List Nat} (h : RS ws ps ps2) {m : Nat} (hm : m ≤ 5) : hdb ws ps2 m = hdb ws ps m := by
  have e : Hd ws ps2 m ↔ Hd ws ps m := ⟨fun k i hi hL => rs_ask2 h i (k i hi ((rs_Lo h (by omega)).mpr hL)), fun k i hi hL => rs_ask h i (k i hi ((rs_Lo h (by omega)).mp hL))⟩
  by_cases hh : hdb ws ps m = true
  · rw [hh]; exact (hdb_iff _ _ _).mpr (e.mpr ((hdb_iff _ _ _).mp hh))
  · rw [Bool.eq_false_iff.mpr hh]
    refine Bool.eq_false_iff.mpr (fun h2 => hh ?_)
    exact (hdb_iff _ _ _).mpr (e.mp ((hdb_iff _ _ _).mp h2))
theorem rs_tot {ws : Nat → Nat} {ps ps2 : List Nat} (h : RS ws ps ps2) {m : Nat} (hm : m ≤ 5) (h1 : 0 < m) (h0 : ¬ Lo ws ps 0) : tX ws ps2 m = tX ws ps m ∧ tY ws ps2 m = tY ws ps m := by
  obtain ⟨f, a1, a2, a3, a4⟩ := Cz_0 (ws := ws) (ps := ps) hm h1 h0
  obtain ⟨f2, b1, b2, b3, b4⟩ := Cz_0 (ws := ws) (ps := ps2) hm h1 (fun e => h0 ((rs_Lo h (by decide)).mp e))
  have ef : f2 = f := by rw [← a2, ← b2, rs_fl h]
  obtain ⟨r1, r2, _⟩ := rs_low h m
  have es : shz ws ps2 m 0 = shz ws ps m 0 := by
    unfold shz
    rw [a4, b4, ef, rs_dx h, r1, r2]
  unfold tX tY
  rw [es]
  exact ⟨rfl, rfl⟩
/-! sets moved by one -/
def rot1 (s : Nat) : Nat := 2 * s % 4096 + s / 2048
theorem rb_k : ∀ a : Nat, a < 64 → ∀ b : Nat, b < 64 → rot1 (64 * a + b) < 4096 ∧ pc (rot1 (64 * a + b)) = pc (64 * a + b) ∧ ∀ j : Nat, j < 12 → (rot1 (64 * a + b)).testBit j = (64 * a + b).testBit ((j + 11) % 12) := by decide +kernel
theorem rb {s : Nat} (h : s < 4096) : rot1 s < 4096 ∧ pc (rot1 s) = pc s ∧ ∀ j : Nat, j < 12 → (rot1 s).testBit j = s.testBit ((j + 11) % 12) := by
  have := rb_k (s / 64) (by omega) (s % 64) (by omega)
  rw [show 64 * (s / 64) + s % 64 = s by omega] at this
  exact this
theorem zs_bls (f : Nat → Z4) (s n : Nat) : zsum ((bls s (n + 1)).map f) = if s.testBit n then qadd (zsum ((bls s n).map f)) (f n) else zsum ((bls s n).map f) := by
  rw [bls_s]
  by_cases h : s.testBit n = true
  · rw [if_pos h, if_pos h, List.map_append, List.map_cons, List.map_nil, zsum_app]
  · rw [if_neg h, if_neg h]
theorem rot_sum {s : Nat} (hs : s < 4096) {f : Nat → Z4} {u : Z4} (h1 : ∀ j, j < 11 → f (j + 1) = qmul u (f j)) (h2 : f 0 = qmul u (f 11)) : zsum ((bls (rot1 s) 12).map f) = qmul u (zsum ((bls s 12).map f)) := by
  obtain ⟨_, _, hb⟩ := rb hs
  have key : ∀ n, n ≤ 11 → zsum ((bls (rot1 s) (n + 1)).map f) = qadd (if s.testBit 11 then f 0 else (0, 0, 0, 0)) (qmul u (zsum ((bls s n).map f))) := by
    intro n
    induction n with
    | zero =>
      intro _
      rw [zs_bls, hb 0 (by decide)]
      show (if s.testBit 11 = true then qadd (0, 0, 0, 0) (f 0) else (0, 0, 0, 0)) = qadd (if s.testBit 11 then f 0 else (0, 0, 0, 0)) (qmul u (0, 0, 0, 0))
      rw [z_m0]
      split
      · generalize f 0 = v; apply q_ext <;> simp [qadd]
      · rfl
    | succ n ih =>
      intro hn
      rw [zs_bls, hb (n + 1) (by omega), show (n + 1 + 11) % 12 = n by omega, ih (by omega), zs_bls f s n]
      by_cases hbit : s.testBit n = true
      · rw [if_pos hbit, if_pos hbit, h1 n (by omega)]
        generalize (if s.testBit 11 = true then f 0 else (0, 0, 0, 0)) = a
        generalize zsum ((bls s n).map f) = b
        generalize f n = c
        apply q_ext <;> simp only [qadd, qmul] <;> grind
      · rw [if_neg hbit, if_neg hbit]
  rw [key 11 (by decide), zs_bls f s 11]
  by_cases hbit : s.testBit 11 = true
  · rw [if_pos hbit, if_pos hbit, h2]
    generalize zsum ((bls s 11).map f) = b
    generalize f 11 = c
    apply q_ext <;> simp only [qadd, qmul] <;> grind
  · rw [if_neg hbit, if_neg hbit]
    generalize qmul u (zsum ((bls s 11).map f)) = b
    apply q_ext <;> simp [qadd]
theorem rot_RS {s : Nat} (hs : s < 4096) (ws : Nat → Nat) : RS ws (bls s 12) (bls (rot1 s) 12) := by
  intro i j
  rw [Gz_eq, Gz_eq, rt_mul]
  refine rot_sum hs (f := fun p => rt (ws i * p + 11 * (ws j * p))) (fun p _ => ?_) ?_
  · show rt (ws i * (p + 1) + 11 * (ws j * (p + 1))) = qmul (rt (ws i + 11 * ws j)) (rt (ws i * p + 11 * (ws j * p)))
    rw [rt_mul]
    refine rt_eq ?_
    rw [Nat.mul_add, Nat.mul_add]
    congr 1
    omega
  · show rt (ws i * 0 + 11 * (ws j * 0)) = qmul (rt (ws i + 11 * ws j)) (rt (ws i * 11 + 11 * (ws j * 11)))
    rw [rt_mul]
    refine rt_eq ?_
    omega
