/-! the reference: what it can now; signs and common divisors -/
def SM (r : M2) (ps : List Nat) (ws : Nat → Nat) (m : Nat) (lk : Bool) : Prop := MIn r ps ws m ∧ r.1 157 14 = cI (fl (Gz ws ps) m).length ∧ (∀ i, i < (fl (Gz ws ps) m).length → r.1 165 i = cI (frz (Gz ws ps) m i)) ∧ (∀ i, i < m → r.1 164 i = loI ws ps i) ∧ r.1 157 15 = (if lk && hdb ws ps m then 1 else 0) ∧ ((lk = true ∧ ¬ Lo ws ps 0) → MV r ps ws m)
theorem getD_mem {l : List Nat} {i : Nat} (h : i < l.length) : l.getD i 0 ∈ l := by
  rw [List.getD_eq_getElem?_getD, List.getElem?_eq_getElem h]; exact List.getElem_mem _
theorem mo_with {g : M2} {q : Sg} (hw : WF q) (hM : IM g q) {b : Nat} (hb : b < 32) {lk : Option Nat} (hlk : ∀ k, lk = some k → k < 12) : Ok (f_Mo_solvesWith (cI b) (lkI lk) g) (fun r => FM g r ∧ SM r (wkl (sp q) (sb q ||| b) (sn q)) (wsl lk (dsx lk (sd q))) (wll lk (dsx lk (sd q))).length lk.isSome ∧ WA r q b) := by
  have hl5 : (wll lk (dsx lk (sd q))).length ≤ 5 := wll_len (Nat.le_trans (dsx_len _ _) hw.2.2.2.2.2.1)
  unfold f_Mo_solvesWith
  refine ok_bindm (mo_elements hw hM.2.1 hb) (fun q1 hq1 => ?_)
  obtain ⟨a1, a2, a3, a4, a5, a6⟩ := hq1
  refine ok_bindm (mo_wishes hw (WD_f hM.2.1 (a2 160 (by decide) (by decide) (by decide))) hlk hl5) (fun q2 hq2 => ?_)
  obtain ⟨b1, b2, b3, b4, b5, b6⟩ := hq2
  have hin : MIn q2 (wkl (sp q) (sb q ||| b) (sn q)) (wsl lk (dsx lk (sd q))) (wll lk (dsx lk (sd q))).length := by
    refine ⟨fun j hj => by rw [b2 _ (by decide) (by decide), a2 _ (by decide) (by decide) (by decide)]; exact hM.1 j hj, by rw [b3 _ (by decide) (by decide)]; exact a4, Nat.le_trans (wkl_len _ _ _) hw.1, fun e he => ⟨by rw [b2 _ (by decide) (by decide)]; exact a5 e he, wkl_lt _ _ hw.2.1 _ (getD_mem he)⟩, b4, hl5, fun i hi => ⟨b5 i hi, ?_⟩⟩
    refine wsl_lt hlk (fun i hi => ?_) i hi
    exact hw.2.2.2.2.2.2.1 _ (List.mem_filter.mp (getD_mem hi)).1
  refine ok_bindm (mo_solves hin b6 (fun h => ?_)) (fun q3 hq3 => ok_some ?_)
  · unfold wll
    cases lk with
    | none => cases h
    | some k => simp
  · obtain ⟨c1, c2, c3, c4, c5, c6, c7, c8, c9⟩ := hq3
    have i1 : ∀ y, y ≠ 157 → y ≠ 162 → y ≠ 163 → y ≠ 164 → y ≠ 165 → y ≠ 166 → q3.1 y = g.1 y := fun y y1 y2 y3 y4 y5 y6 => by rw [c1 y y1 y4 y5, b2 y y1 y3, a2 y y1 y2 y6]
    have i2 : ∀ j, j ≠ 8 → j ≠ 10 → j ≠ 11 → j ≠ 14 → j ≠ 15 → q3.1 157 j = g.1 157 j := fun j j1 j2 j3 j4 j5 => by rw [c2 j j4 j5, b3 j j2 j3, a3 j j1]
    have i3 : ∀ y, y ≠ 157 → y ≠ 158 → y ≠ 159 → q3.2 y = g.2 y := fun y y1 y2 y3 => by rw [c3 y y1 y2 y3, b1, a1]
    refine ⟨⟨fun y hy => ⟨i1 y (by omega) (by omega) (by omega) (by omega) (by omega) (by omega), i3 y (by omega) (by omega) (by omega)⟩, fun j hj => i2 j (by omega) (by omega) (by omega) (by omega) (by omega)⟩, ⟨?_, c5, c6, c7, c8, c9⟩, fun e he => by rw [c1 _ (by decide) (by decide) (by decide), b2 _ (by decide) (by decide)]; exact a6 e he⟩
    obtain ⟨d1, d2, d3, d4, d5, d6, d7⟩ := hin
    exact ⟨fun j hj => by rw [c1 _ (by decide) (by decide) (by decide)]; exact d1 j hj, by rw [c2 _ (by decide) (by decide)]; exact d2, d3, fun e he => by rw [c1 _ (by decide) (by decide) (by decide)]; exact d4 e he, by rw [c2 _ (by decide) (by decide)]; exact d5, d6, fun i hi => by rw [c1 _ (by decide) (by decide) (by decide)]; exact d7 i hi⟩
theorem look_now {g : M2} {q : Sg} (h : WD g q) : f_Mo_lookNow g = some (lkI (sl q)) := by
  unfold f_Mo_lookNow
  rw [h.2.2.2.2.1]
  cases sl q with
  | none => rfl
  | some k =>
    show some (cI (k + 1) - 1) = some (cI k)
    rw [c_pred (by omega)]; rfl
theorem dsx_self {q : Sg} (hw : WF q) : dsx (sl q) (sd q) = sd q := by
  unfold dsx
  refine List.filter_eq_self.mpr (fun d hd => decide_eq_true (fun e => ?_))
  exact (hw.2.2.2.2.1 d e).2 hd
theorem mo_canNow {g : M2} {q : Sg} (hw : WF q) (hM : IM g q) : Ok (f_Mo_canNow g) (fun p => p.1 = (if qh q then 1 else 0) ∧ FM g p.2 ∧ IM p.2 q ∧ SM p.2 (qp q) (qw q) (qm q) (sl q).isSome ∧ WA p.2 q 0) := by
  unfold f_Mo_canNow
  refine ok_binde (look_now hM.2.1) ?_
  refine ok_bindm (mo_with hw hM (b := 0) (by decide) (lk := sl q) (fun k hk => (hw.2.2.2.2.1 k hk).1)) (fun r hr => ok_some ?_)
  obtain ⟨h1, h2, h3⟩ := hr
  rw [dsx_self hw, Nat.or_zero] at h2
  refine ⟨?_, h1, IM_f hM h1, h2, h3⟩
  show (r.1 157 15 &&& 1) = _
  rw [h2.2.2.2.2.1]
  show ((if qh q then (1 : Int32) else 0) &&& 1) = _
  by_cases hh : qh q = true
  · rw [if_pos hh]; decide
  · rw [if_neg hh]; decide
/-- the sign of x + y r -/
def sgn (x y : Int) : Int := if x = 0 ∧ y = 0 then 0 else if 0 ≤ x ∧ 0 ≤ y then 1 else if x ≤ 0 ∧ y ≤ 0 then -1 else if 0 < x then (if 3 * (y * y) < x * x then 1 else -1) else (if 3 * (y * y) < x * x then -1 else 1)
/-- the sign by p and q above 0, of p - q r -/
def sgp (p q : Int) : Int := if 3 * (q * q) < p * p then 1 else -1
theorem sgp_1 {p q : Int} (hq : 0 < q) (h : 2 * q ≤ p) : sgp p q = 1 := by
  unfold sgp
  have : (2 * q) * (2 * q) ≤ p * p := Int.mul_le_mul h h (by omega) (by omega)
  have h2 : 0 < q * q := Int.mul_pos hq hq
  have e : (2 * q) * (2 * q) = 4 * (q * q) := by grind
  rw [if_pos (by omega)]
theorem sgp_2 {p q : Int} (hp : 0 < p) (h : p ≤ q) : sgp p q = -1 := by
  unfold sgp
  have : p * p ≤ q * q := Int.mul_le_mul h h (by omega) (by omega)
  have h2 : 0 < p * p := Int.mul_pos hp hp
  rw [if_neg (by omega)]
theorem sgp_3 {p q : Int} (hq : 0 < q) (hp : 0 < p) : sgp (3 * q - p) (p - q) = -sgp p q := by
  unfold sgp
  have hne : p * p ≠ 3 * (q * q) := fun e => by have := no_root _ p q (Nat.le_refl _) e; omega
  have e : (3 * q - p) * (3 * q - p) - 3 * ((p - q) * (p - q)) = -2 * (p * p - 3 * (q * q)) := by grind
  by_cases h : 3 * (q * q) < p * p
  · rw [if_pos h, if_neg (by omega)]
  · rw [if_neg h, if_pos (by omega)]; rfl
theorem to64 {z : Int} (h1 : -2 ^ 62 ≤ z) (h2 : z ≤ 2 ^ 62) : (Int64.ofInt z).toInt = z := Int64.toInt_ofInt_of_le (by omega) (by omega)
theorem le64 {a b : Int} (a1 : -2 ^ 62 ≤ a) (a2 : a ≤ 2 ^ 62) (b1 : -2 ^ 62 ≤ b) (b2 : b ≤ 2 ^ 62) : Int64.ofInt a ≤ Int64.ofInt b ↔ a ≤ b := by
  rw [Int64.le_iff_toInt_le, to64 a1 a2, to64 b1 b2]
theorem lt64 {a b : Int} (a1 : -2 ^ 62 ≤ a) (a2 : a ≤ 2 ^ 62) (b1 : -2 ^ 62 ≤ b) (b2 : b ≤ 2 ^ 62) : Int64.ofInt a < Int64.ofInt b ↔ a < b := by
  rw [Int64.lt_iff_toInt_lt, to64 a1 a2, to64 b1 b2]
theorem eq64 {a b : Int} (a1 : -2 ^ 62 ≤ a) (a2 : a ≤ 2 ^ 62) (b1 : -2 ^ 62 ≤ b) (b2 : b ≤ 2 ^ 62) : Int64.ofInt a = Int64.ofInt b ↔ a = b := by
  rw [← Int64.toInt_inj, to64 a1 a2, to64 b1 b2]
theorem ok_lpS {S R : Type} {body : S → Option (S ⊕ R)} {n : Nat} {s : S} {r : S ⊕ R} {P : R → Prop} (e : body s = some r) (h : Sum.elim (fun s2 => Ok (lp body n s2) P) P r) : Ok (lp body (n + 1) s) P := by
  unfold lp
  rw [e]
  cases r with
  | inl s2 => exact h
  | inr q => exact ok_some h
/-- two rounds of the class's loop make q less than two thirds -/
theorem da_sg_lp (g : M2) : ∀ (n m k : Nat) (s p q : Int), (s = 1 ∨ s = -1) → 0 < p → 0 < q → p ≤ 2 ^ 60 → q ≤ 2 ^ 58 → q * 2 ^ m < 3 ^ m → 2 * m + k ≤ 199 → 2 * m < n → Ok (lp (fun s => b_Da_signOf_46 s.1 s.2.1 s.2.2.1 s.2.2.2 g) n (Int32.ofInt s, Int64.ofInt p, Int64.ofInt q, cI k)) (fun r => Sum.elim (fun a => a) (fun a => a) r = Int32.ofInt (s * sgp p q)) := by
  intro n m
  induction m generalizing n with
  | zero =>
    intro k s p q hs hp hq hp2 hq2 hqm
    simp at hqm
    omega
  | succ m ih =>
    intro k s p q hs hp hq hp2 hq2 hqm hk hn
    -- one round
    have round : ∀ (n k : Nat) (s p q : Int) (P : Int32 ⊕ Int32 → Prop), (s = 1 ∨ s = -1) → 0 < p → 0 < q → p ≤ 2 ^ 60 → q ≤ 2 ^ 58 → k < 199 → (2 * q ≤ p → P (.inr (Int32.ofInt s))) → (p ≤ q → P (.inr (Int32.ofInt (-s)))) → (q < p → p < 2 * q → Ok (lp (fun s => b_Da_signOf_46 s.1 s.2.1 s.2.2.1 s.2.2.2 g) n (Int32.ofInt (-s), Int64.ofInt (3 * q - p), Int64.ofInt (p - q), cI (k + 1))) P) → Ok (lp (fun s => b_Da_signOf_46 s.1 s.2.1 s.2.2.1 s.2.2.2 g) (n + 1) (Int32.ofInt s, Int64.ofInt p, Int64.ofInt q, cI k)) P := by
      intro n k s p q P hs hp hq hp2 hq2 hk h1 h2 h3
      have e2 : (2 : Int64) * Int64.ofInt q = Int64.ofInt (2 * q) := by rw [Int64.ofInt_mul]; rfl
      have eb : b_Da_signOf_46 (Int32.ofInt s) (Int64.ofInt p) (Int64.ofInt q) (cI k) g = if p < 2 * q then (if q < p then some (.inl (Int32.ofInt (-s), Int64.ofInt (3 * q - p), Int64.ofInt (p - q), cI (k + 1))) else some (.inr (.inr (Int32.ofInt (-s))))) else some (.inr (.inr (Int32.ofInt s))) := by
        unfold b_Da_signOf_46
        rw [if_neg (show ¬ (200 : Int32) ≤ cI k from le_no (a := 200) (by omega) (by decide)), e2]
        have c1 := lt64 (a := p) (b := 2 * q) (by omega) (by omega) (by omega) (by omega)
        have c2 := lt64 (a := q) (b := p) (by omega) (by omega) (by omega) (by omega)
        by_cases d1 : p < 2 * q
        · rw [if_pos (c1.mpr d1), if_pos d1]
          by_cases d2 : q < p
          · rw [if_pos (c2.mpr d2), if_pos d2, ← Int64.ofInt_sub, ← Int64.ofInt_sub, ← Int32.ofInt_neg, c_succ, show 2 * q - (p - q) = 3 * q - p by omega]
          · rw [if_neg (fun e => d2 (c2.mp e)), if_neg d2, ← Int32.ofInt_neg]
        · rw [if_neg (fun e => d1 (c1.mp e)), if_neg d1]
      by_cases d1 : p < 2 * q
      · rw [if_pos d1] at eb
        by_cases d2 : q < p
        · rw [if_pos d2] at eb; exact ok_lpS (body := fun s => b_Da_signOf_46 s.1 s.2.1 s.2.2.1 s.2.2.2 g) eb (h3 d2 d1)
        · rw [if_neg d2] at eb; exact ok_lpS (body := fun s => b_Da_signOf_46 s.1 s.2.1 s.2.2.1 s.2.2.2 g) eb (h2 (by omega))
      · rw [if_neg d1] at eb; exact ok_lpS (body := fun s => b_Da_signOf_46 s.1 s.2.1 s.2.2.1 s.2.2.2 g) eb (h1 (by omega))
    obtain ⟨n', hn'⟩ : ∃ n', n = n' + 1 + 1 := ⟨n - 2, by omega⟩
    subst hn'
    have fin : ∀ (s p q : Int), s = 1 ∨ s = -1 → 0 < p → 0 < q → (2 * q ≤ p → Int32.ofInt s = Int32.ofInt (s * sgp p q)) ∧ (p ≤ q → Int32.ofInt (-s) = Int32.ofInt (s * sgp p q)) := by
      intro s p q _ hp hq
      exact ⟨fun h => by rw [sgp_1 hq h, Int.mul_one], fun h => by rw [sgp_2 hp h]; congr 1; omega⟩
    refine round (n' + 1) k s p q _ hs hp hq hp2 hq2 (by omega) (fin s p q hs hp hq).1 (fin s p q hs hp hq).2 (fun d1 d2 => ?_)
    have e1 : s * sgp p q = (-s) * sgp (3 * q - p) (p - q) := by rw [sgp_3 hq hp]; grind
    rw [e1]
    refine round n' (k + 1) (-s) (3 * q - p) (p - q) _ (by omega) (by omega) (by omega) (by omega) (by omega) (by omega) (fin (-s) _ _ (by omega) (by omega) (by omega)).1 (fin (-s) _ _ (by omega) (by omega) (by omega)).2 (fun d3 d4 => ?_)
    have e2 : (-s) * sgp (3 * q - p) (p - q) = (- -s) * sgp (3 * (p - q) - (3 * q - p)) ((3 * q - p) - (p - q)) := by rw [sgp_3 (p := 3 * q - p) (q := p - q) (by omega) (by omega)]; grind
    rw [e2]
    refine ih n' (k + 1 + 1) (- -s) _ _ (by omega) (by omega) (by omega) (by omega) (by omega) ?_ (by omega) (by omega)
    have e3 : (3 * q - p) - (p - q) = 4 * q - 2 * p := by omega
    rw [e3]
    have h6 : 3 * (4 * q - 2 * p) ≤ 2 * q := by omega
    have h7 : (3 * (4 * q - 2 * p)) * 2 ^ m ≤ (2 * q) * 2 ^ m := Int.mul_le_mul_of_nonneg_right h6 (Int.le_of_lt (Int.pow_pos (by decide)))
    have e4 : q * 2 ^ (m + 1) = (2 * q) * 2 ^ m := by rw [Int.pow_succ]; grind
    have e5 : (3 : Int) ^ (m + 1) = 3 * 3 ^ m := by rw [Int.pow_succ]; grind
    have e6 : (3 * (4 * q - 2 * p)) * 2 ^ m = 3 * ((4 * q - 2 * p) * 2 ^ m) := by grind
    omega
