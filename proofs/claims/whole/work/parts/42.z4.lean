/-! whole numbers of roots -/
abbrev Z4 : Type := Q4 Int
def rt (k : Nat) : Z4 := match k % 12 with
  | 0 => (1, 0, 0, 0)
  | 1 => (0, 1, 0, 0)
  | 2 => (0, 0, 1, 0)
  | 3 => (0, 0, 0, 1)
  | 4 => (-1, 0, 1, 0)
  | 5 => (0, -1, 0, 1)
  | 6 => (-1, 0, 0, 0)
  | 7 => (0, -1, 0, 0)
  | 8 => (0, 0, -1, 0)
  | 9 => (0, 0, 0, -1)
  | 10 => (1, 0, -1, 0)
  | _ => (0, 1, 0, -1)
theorem rt_mod (k : Nat) : rt (k % 12) = rt k := by unfold rt; rw [Nat.mod_mod]
theorem rt_eq {i j : Nat} (h : i % 12 = j % 12) : rt i = rt j := by rw [← rt_mod i, h, rt_mod]
theorem rt_mul (i j : Nat) : qmul (rt i) (rt j) = rt (i + j) := by
  have key : ∀ i, i < 12 → ∀ j, j < 12 → qmul (rt i) (rt j) = rt (i + j) := by decide +kernel
  rw [← rt_mod i, ← rt_mod j, key _ (Nat.mod_lt _ (by decide)) _ (Nat.mod_lt _ (by decide))]
  exact rt_eq (by omega)
def cj {K : Type} [Lean.Grind.CommRing K] (a : Q4 K) : Q4 K := (a.1 + a.2.2.1, a.2.1, -a.2.2.1, -a.2.1 - a.2.2.2)
theorem cj_mul {K : Type} [Lean.Grind.CommRing K] (a b : Q4 K) : cj (qmul a b) = qmul (cj a) (cj b) := by
  apply q_ext <;> simp only [cj, qmul] <;> grind
theorem cj_add {K : Type} [Lean.Grind.CommRing K] (a b : Q4 K) : cj (qadd a b) = qadd (cj a) (cj b) := by
  apply q_ext <;> simp only [cj, qadd] <;> grind
theorem cj_neg {K : Type} [Lean.Grind.CommRing K] (a : Q4 K) : cj (qneg a) = qneg (cj a) := by
  apply q_ext <;> simp only [cj, qneg] <;> grind
theorem cj_sub {K : Type} [Lean.Grind.CommRing K] (a b : Q4 K) : cj (qsub a b) = qsub (cj a) (cj b) := by
  apply q_ext <;> simp only [cj, qsub] <;> grind
theorem cj_cj {K : Type} [Lean.Grind.CommRing K] (a : Q4 K) : cj (cj a) = a := by
  apply q_ext <;> simp only [cj] <;> grind
theorem cj_rt (k : Nat) : cj (rt k) = rt (11 * k) := by
  have key : ∀ i, i < 12 → cj (rt i) = rt (11 * i) := by decide +kernel
  rw [← rt_mod k, key _ (Nat.mod_lt _ (by decide))]
  exact rt_eq (by omega)
def re {K : Type} [Lean.Grind.CommRing K] (x y : K) : Q4 K := (x, y + y, 0, -y)
theorem re_mul {K : Type} [Lean.Grind.CommRing K] (x y u v : K) : qmul (re x y) (re u v) = re (x * u + 3 * (y * v)) (x * v + y * u) := by
  apply q_ext <;> simp only [re, qmul] <;> grind
theorem re_add {K : Type} [Lean.Grind.CommRing K] (x y u v : K) : qadd (re x y) (re u v) = re (x + u) (y + v) := by
  apply q_ext <;> simp only [re, qadd] <;> grind
theorem re_sub {K : Type} [Lean.Grind.CommRing K] (x y u v : K) : qsub (re x y) (re u v) = re (x - u) (y - v) := by
  apply q_ext <;> simp only [re, qsub] <;> grind
theorem re_cj {K : Type} [Lean.Grind.CommRing K] (x y : K) : cj (re x y) = re x y := by
  apply q_ext <;> simp only [re, cj] <;> grind
theorem pw_eq (a : Z4) : qmul a (cj a) = re (pX a.1 a.2.1 a.2.2.1 a.2.2.2) (pY a.1 a.2.1 a.2.2.1 a.2.2.2) := by
  apply q_ext <;> simp only [re, cj, qmul, pX, pY] <;> grind
/-- what is its own turned is x + y r -/
theorem re_of_cj {a : Z4} (h : cj a = a) : a = re a.1 (-a.2.2.2) := by
  obtain ⟨x, y, u, v⟩ := a
  simp only [cj, Prod.mk.injEq] at h
  simp only [re, Prod.mk.injEq]
  refine ⟨trivial, by omega, by omega, by omega⟩
def rs : List Nat → Z4
  | [] => (0, 0, 0, 0)
  | k :: l => qadd (rt k) (rs l)
theorem rs_app (l m : List Nat) : rs (l ++ m) = qadd (rs l) (rs m) := by
  induction l with
  | nil => apply q_ext <;> simp [rs, qadd]
  | cons k l ih =>
    simp only [List.cons_append, rs, ih]
    apply q_ext <;> simp only [qadd] <;> grind
theorem rs_mul1 (k : Nat) (m : List Nat) : qmul (rt k) (rs m) = rs (m.map (fun j => k + j)) := by
  induction m with
  | nil => apply q_ext <;> simp [rs, qmul]
  | cons j m ih =>
    simp only [List.map_cons, rs, ← ih, ← rt_mul]
    apply q_ext <;> simp only [qadd, qmul] <;> grind
theorem rs_mul (l m : List Nat) : qmul (rs l) (rs m) = rs (l.flatMap (fun k => m.map (fun j => k + j))) := by
  induction l with
  | nil => apply q_ext <;> simp [rs, qmul]
  | cons k l ih =>
    simp only [List.flatMap_cons, rs, rs_app, ← ih, ← rs_mul1]
    apply q_ext <;> simp only [qadd, qmul] <;> grind
theorem rs_neg (l : List Nat) : qneg (rs l) = rs (l.map (fun j => 6 + j)) := by
  rw [← rs_mul1]
  apply q_ext <;> simp only [qneg, qmul, rt] <;> grind
/-- a sum of so many roots at most -/
def len (m : Nat) (a : Z4) : Prop := ∃ l : List Nat, l.length ≤ m ∧ a = rs l
theorem len_mono {m n : Nat} {a : Z4} (h : len m a) (hm : m ≤ n) : len n a := by
  obtain ⟨l, h1, h2⟩ := h
  exact ⟨l, by omega, h2⟩
theorem len_add {m n : Nat} {a b : Z4} (h : len m a) (k : len n b) : len (m + n) (qadd a b) := by
  obtain ⟨l, h1, rfl⟩ := h
  obtain ⟨j, k1, rfl⟩ := k
  exact ⟨l ++ j, by simp; omega, (rs_app l j).symm⟩
theorem len_neg {m : Nat} {a : Z4} (h : len m a) : len m (qneg a) := by
  obtain ⟨l, h1, rfl⟩ := h
  exact ⟨_, by rw [List.length_map]; exact h1, rs_neg l⟩
theorem len_sub {m n : Nat} {a b : Z4} (h : len m a) (k : len n b) : len (m + n) (qsub a b) := by
  have : qsub a b = qadd a (qneg b) := by apply q_ext <;> simp only [qadd, qneg, qsub] <;> grind
  rw [this]; exact len_add h (len_neg k)
theorem fm_len (l m : List Nat) : (l.flatMap (fun k => m.map (fun j => k + j))).length = l.length * m.length := by
  induction l with
  | nil => simp
  | cons k l ih => simp only [List.flatMap_cons, List.length_append, List.length_map, ih, List.length_cons]; grind
theorem len_mul {m n : Nat} {a b : Z4} (h : len m a) (k : len n b) : len (m * n) (qmul a b) := by
  obtain ⟨l, h1, rfl⟩ := h
  obtain ⟨j, k1, rfl⟩ := k
  exact ⟨_, by rw [fm_len]; exact Nat.mul_le_mul h1 k1, rs_mul l j⟩
theorem len_rt (k : Nat) : len 1 (rt k) := ⟨[k], by simp, by apply q_ext <;> simp [rs, qadd]⟩
theorem len_0 : len 0 (0, 0, 0, 0) := ⟨[], by simp, rfl⟩
theorem len_1 : len 1 (1, 0, 0, 0) := len_rt 0
theorem rs_comp (l : List Nat) : (rs l).1.natAbs ≤ l.length ∧ (rs l).2.1.natAbs ≤ l.length ∧ (rs l).2.2.1.natAbs ≤ l.length ∧ (rs l).2.2.2.natAbs ≤ l.length := by
  have key : ∀ i, i < 12 → (rt i).1.natAbs ≤ 1 ∧ (rt i).2.1.natAbs ≤ 1 ∧ (rt i).2.2.1.natAbs ≤ 1 ∧ (rt i).2.2.2.natAbs ≤ 1 := by decide +kernel
  induction l with
  | nil => simp [rs]
  | cons k l ih =>
    have h := key (k % 12) (Nat.mod_lt _ (by decide))
    rw [rt_mod] at h
    simp only [rs, qadd, List.length_cons]
    omega
theorem len_comp {m : Nat} {a : Z4} (h : len m a) : a.1.natAbs ≤ m ∧ a.2.1.natAbs ≤ m ∧ a.2.2.1.natAbs ≤ m ∧ a.2.2.2.natAbs ≤ m := by
  obtain ⟨l, h1, rfl⟩ := h
  have := rs_comp l
  omega
theorem len_natn (n : Nat) : len n ((n : Int), 0, 0, 0) := by
  induction n with
  | zero => exact len_0
  | succ n ih =>
    have := len_add ih len_1
    have e : qadd ((n : Int), (0 : Int), (0 : Int), (0 : Int)) (1, 0, 0, 0) = (((n + 1 : Nat) : Int), 0, 0, 0) := by apply q_ext <;> simp [qadd]
    rw [e] at this; exact this
theorem len_int (n : Int) : len n.natAbs (n, 0, 0, 0) := by
  rcases Int.le_total 0 n with h | h
  · have := len_natn n.natAbs
    rw [show ((n.natAbs : Nat) : Int) = n by omega] at this; exact this
  · have := len_neg (len_natn n.natAbs)
    rw [show qneg (((n.natAbs : Nat) : Int), (0 : Int), (0 : Int), (0 : Int)) = (n, 0, 0, 0) by apply q_ext <;> simp [qneg]; omega] at this
    exact this
theorem len_re {m : Nat} {x y : Int} (hx : x.natAbs ≤ m) (hy : y.natAbs ≤ m) : len (3 * m) (re x y) := by
  have h1 := len_int x
  have h2 := len_mul (len_int y) (len_add (len_rt 1) (len_rt 11))
  have e : qadd (x, 0, 0, 0) (qmul (y, 0, 0, 0) (qadd (rt 1) (rt 11))) = re x y := by
    apply q_ext <;> simp only [qadd, qmul, re, rt] <;> grind
  have h3 := len_add h1 h2
  rw [e] at h3
  exact len_mono h3 (by omega)
abbrev zdx (G : Nat → Nat → Z4) (r c : List Nat) : Z4 := @dx Z4 (qR Int) G r c
def dlen : Nat → Nat
  | 0 => 1
  | k + 1 => (k + 1) * (5 * dlen k)
theorem dy_len {row : Nat → Z4} {F : List Nat → Z4} {L : Nat} (hr : ∀ c, len 5 (row c)) : ∀ (cs pre : List Nat), (∀ l : List Nat, l.length + 1 = pre.length + cs.length → len L (F l)) → len (cs.length * (5 * L)) (@dy Z4 (qR Int) row F pre cs) := by
  intro cs
  induction cs with
  | nil => intro pre _; exact ⟨[], by simp, rfl⟩
  | cons c cs ih =>
    intro pre hF
    have h1 := len_mul (hr c) (hF (pre ++ cs) (by simp; omega))
    have h2 := ih (pre ++ [c]) (fun l hl => hF l (by simp at hl ⊢; omega))
    have h3 := len_sub h1 h2
    rw [List.length_cons, Nat.succ_mul]
    exact len_mono (show len _ (@dy Z4 (qR Int) row F pre (c :: cs)) from h3) (by omega)
theorem dx_len {G : Nat → Nat → Z4} (hG : ∀ r c, len 5 (G r c)) : ∀ (rw cl : List Nat), cl.length = rw.length → len (dlen rw.length) (zdx G rw cl) := by
  intro rw
  induction rw with
  | nil => intro cl _; exact len_1
  | cons r rw ih =>
    intro cl hl
    have := dy_len (F := @dx Z4 (qR Int) G rw) (hG r) cl [] (L := dlen rw.length) (fun l hl2 => ih l (by simp at hl hl2; omega))
    rw [hl] at this
    exact this
