/-! numbers a + b z + c zz + d zzz over any ring; determinants by lists of rows and columns, the newest first -/
abbrev Q4 (K : Type) : Type := K × K × K × K
def qadd {K : Type} [Lean.Grind.CommRing K] (n m : Q4 K) : Q4 K := (n.1 + m.1, n.2.1 + m.2.1, n.2.2.1 + m.2.2.1, n.2.2.2 + m.2.2.2)
def qneg {K : Type} [Lean.Grind.CommRing K] (n : Q4 K) : Q4 K := (-n.1, -n.2.1, -n.2.2.1, -n.2.2.2)
def qsub {K : Type} [Lean.Grind.CommRing K] (n m : Q4 K) : Q4 K := (n.1 - m.1, n.2.1 - m.2.1, n.2.2.1 - m.2.2.1, n.2.2.2 - m.2.2.2)
def qmul {K : Type} [Lean.Grind.CommRing K] (n m : Q4 K) : Q4 K :=
  (n.1 * m.1 - (n.2.1 * m.2.2.2 + n.2.2.1 * m.2.2.1 + n.2.2.2 * m.2.1) - n.2.2.2 * m.2.2.2,
   n.1 * m.2.1 + n.2.1 * m.1 - (n.2.2.1 * m.2.2.2 + n.2.2.2 * m.2.2.1),
   n.1 * m.2.2.1 + n.2.1 * m.2.1 + n.2.2.1 * m.1 + (n.2.1 * m.2.2.2 + n.2.2.1 * m.2.2.1 + n.2.2.2 * m.2.1),
   n.1 * m.2.2.2 + n.2.1 * m.2.2.1 + n.2.2.1 * m.2.1 + n.2.2.2 * m.1 + (n.2.2.1 * m.2.2.2 + n.2.2.2 * m.2.2.1))
def qnat {K : Type} [Lean.Grind.CommRing K] (n : Nat) : Q4 K := (@OfNat.ofNat K n (Lean.Grind.Semiring.ofNat n), 0, 0, 0)
def qint {K : Type} [Lean.Grind.CommRing K] (n : Int) : Q4 K := (Lean.Grind.Ring.intCast.intCast n, 0, 0, 0)
theorem q_ext {K : Type} {n m : Q4 K} (h1 : n.1 = m.1) (h2 : n.2.1 = m.2.1) (h3 : n.2.2.1 = m.2.2.1) (h4 : n.2.2.2 = m.2.2.2) : n = m := by
  obtain ⟨a, b, c, d⟩ := n
  obtain ⟨a', b', c', d'⟩ := m
  simp only at h1 h2 h3 h4
  subst h1; subst h2; subst h3; subst h4; rfl
def qR (K : Type) [Lean.Grind.CommRing K] : Lean.Grind.CommRing (Q4 K) where
  add := qadd
  mul := qmul
  neg := qneg
  sub := qsub
  natCast := ⟨qnat⟩
  ofNat := fun n => ⟨qnat n⟩
  nsmul := ⟨fun n a => qmul (qnat n) a⟩
  npow := ⟨fun a n => Nat.rec (qnat 1) (fun _ r => qmul r a) n⟩
  intCast := ⟨qint⟩
  zsmul := ⟨fun n a => qmul (qint n) a⟩
  add_zero a := by show qadd a (qnat 0) = a; apply q_ext <;> simp only [qadd, qnat] <;> grind
  add_comm a b := by apply q_ext <;> show _ + _ = _ + _ <;> grind
  add_assoc a b c := by apply q_ext <;> show _ + _ + _ = _ + (_ + _) <;> grind
  mul_assoc a b c := by show qmul (qmul a b) c = qmul a (qmul b c); apply q_ext <;> simp only [qmul] <;> grind
  mul_comm a b := by show qmul a b = qmul b a; apply q_ext <;> simp only [qmul] <;> grind
  mul_one a := by show qmul a (qnat 1) = a; apply q_ext <;> simp only [qmul, qnat] <;> grind
  one_mul a := by show qmul (qnat 1) a = a; apply q_ext <;> simp only [qmul, qnat] <;> grind
  left_distrib a b c := by show qmul a (qadd b c) = qadd (qmul a b) (qmul a c); apply q_ext <;> simp only [qmul, qadd] <;> grind
  right_distrib a b c := by show qmul (qadd a b) c = qadd (qmul a c) (qmul b c); apply q_ext <;> simp only [qmul, qadd] <;> grind
  zero_mul a := by show qmul (qnat 0) a = qnat 0; apply q_ext <;> simp only [qmul, qnat] <;> grind
  mul_zero a := by show qmul a (qnat 0) = qnat 0; apply q_ext <;> simp only [qmul, qnat] <;> grind
  pow_zero a := rfl
  pow_succ a n := rfl
  ofNat_succ n := by
    show qnat (n + 1) = qadd (qnat n) (qnat 1)
    apply q_ext <;> simp only [qnat, qadd]
    · exact Lean.Grind.Semiring.ofNat_succ n
    all_goals grind
  neg_add_cancel a := by show qadd (qneg a) a = qnat 0; apply q_ext <;> simp only [qadd, qneg, qnat] <;> grind
  sub_eq_add_neg a b := by show qsub a b = qadd a (qneg b); apply q_ext <;> simp only [qadd, qneg, qsub] <;> grind
  neg_zsmul i a := by
    show qmul (qint (-i)) a = qneg (qmul (qint i) a)
    have h : (Lean.Grind.Ring.intCast.intCast (-i) : K) = -(Lean.Grind.Ring.intCast.intCast i) := Lean.Grind.Ring.intCast_neg i
    apply q_ext <;> simp only [qmul, qneg, qint, h] <;> grind
  zsmul_natCast_eq_nsmul n a := by
    show qmul (qint (n : Int)) a = qmul (qnat n) a
    have h : (Lean.Grind.Ring.intCast.intCast (n : Int) : K) = @OfNat.ofNat K n (Lean.Grind.Semiring.ofNat n) := Lean.Grind.Ring.intCast_ofNat n
    simp only [qint, qnat, h]
  intCast_ofNat n := by
    show qint (n : Int) = qnat n
    have h : (Lean.Grind.Ring.intCast.intCast (n : Int) : K) = @OfNat.ofNat K n (Lean.Grind.Semiring.ofNat n) := Lean.Grind.Ring.intCast_ofNat n
    simp only [qint, qnat, h]
  intCast_neg i := by
    show qint (-i) = qneg (qint i)
    have h : (Lean.Grind.Ring.intCast.intCast (-i) : K) = -(Lean.Grind.Ring.intCast.intCast i) := Lean.Grind.Ring.intCast_neg i
    apply q_ext <;> simp only [qneg, qint, h] <;> grind
def dy {R : Type} [Lean.Grind.CommRing R] (row : Nat → R) (F : List Nat → R) : List Nat → List Nat → R
  | _, [] => 0
  | pre, c :: cs => row c * F (pre ++ cs) - dy row F (pre ++ [c]) cs
def dx {R : Type} [Lean.Grind.CommRing R] (G : Nat → Nat → R) : List Nat → List Nat → R
  | [], _ => 1
  | r :: rs, cs => dy (G r) (dx G rs) [] cs
theorem dj0 {R : Type} [Lean.Grind.CommRing R] (G : Nat → Nat → R) (a i j : Nat) : dx G [i, a] [j, a] * dx G [] [] = dx G [a] [a] * dx G [i] [j] - dx G [i] [a] * dx G [a] [j] := by
  simp only [dx, dy, List.nil_append, List.cons_append, List.append_nil]; grind
theorem dj1 {R : Type} [Lean.Grind.CommRing R] (G : Nat → Nat → R) (a i j f : Nat) : dx G [i, a, f] [j, a, f] * dx G [f] [f] = dx G [a, f] [a, f] * dx G [i, f] [j, f] - dx G [i, f] [a, f] * dx G [a, f] [j, f] := by
  simp only [dx, dy, List.nil_append, List.cons_append, List.append_nil]; grind
theorem dj2 {R : Type} [Lean.Grind.CommRing R] (G : Nat → Nat → R) (a i j f e : Nat) : dx G [i, a, f, e] [j, a, f, e] * dx G [f, e] [f, e] = dx G [a, f, e] [a, f, e] * dx G [i, f, e] [j, f, e] - dx G [i, f, e] [a, f, e] * dx G [a, f, e] [j, f, e] := by
  simp only [dx, dy, List.nil_append, List.cons_append, List.append_nil]; grind
