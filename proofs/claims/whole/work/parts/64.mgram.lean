/-! the reference's numbers as one function; what wishes make with one another -/
def up (D : Nat → Q6) (a : Nat) (v : Q6) : Nat → Q6 := fun b => if b = a then v else D b
theorem up_s (D : Nat → Q6) (a : Nat) (v : Q6) : up D a v a = v := by unfold up; rw [if_pos rfl]
theorem up_o (D : Nat → Q6) {a b : Nat} (v : Q6) (h : b ≠ a) : up D a v b = D b := by unfold up; rw [if_neg h]
theorem up_up (D : Nat → Q6) (a : Nat) (v w : Q6) : up (up D a v) a w = up D a w := by
  funext b; unfold up; by_cases h : b = a
  · rw [if_pos h, if_pos h]
  · rw [if_neg h, if_neg h, if_neg h]
theorem up_id (D : Nat → Q6) (a : Nat) : up D a (D a) = D := by
  funext b; unfold up; by_cases h : b = a
  · rw [if_pos h, h]
  · rw [if_neg h]
/-- behind g only numbers have changed: they are D -/
def MN (g g2 : M2) (D : Nat → Q6) : Prop := g2.1 = g.1 ∧ (∀ y, y ≠ 158 → y ≠ 159 → g2.2 y = g.2 y) ∧ ∀ a, a < 88 → rM g2 a = D a
theorem MN_rf (g : M2) : MN g g (rM g) := ⟨rfl, fun _ _ _ => rfl, fun _ _ => rfl⟩
theorem MN_D {g g2 : M2} {D E : Nat → Q6} (h : MN g g2 D) (e : ∀ a, a < 88 → D a = E a) : MN g g2 E := ⟨h.1, h.2.1, fun a ha => (h.2.2 a ha).trans (e a ha)⟩
theorem MN_tr {g g1 g2 : M2} {D E : Nat → Q6} (h : MN g g1 D) (k : MN g1 g2 E) : MN g g2 E := ⟨k.1.trans h.1, fun y h1 h2 => (k.2.1 y h1 h2).trans (h.2.1 y h1 h2), k.2.2⟩
theorem MN_sM {g g2 : M2} {D : Nat → Q6} (h : MN g g2 D) {a : Nat} (v : Q6) : MN g (sM g2 a v) (up D a v) := by
  refine ⟨h.1, fun y h1 h2 => by rw [sM_o _ _ _ h1]; exact h.2.1 y h1 h2, fun b hb => ?_⟩
  by_cases hab : b = a
  · subst hab; rw [rM_sM, up_s]
  · rw [rM_sMo _ _ hab, up_o _ _ hab]; exact h.2.2 b hb
theorem MN_s7 {g g2 : M2} {D : Nat → Q6} (h : MN g g2 D) (c : Nat → Int64) : MN g (s7 g2 c) D :=
  ⟨h.1, fun y h1 h2 => by rw [s7_o _ _ h2]; exact h.2.1 y h1 h2, fun b hb => by rw [rM_s7]; exact h.2.2 b hb⟩
theorem MN_pw {g g2 : M2} {D : Nat → Q6} (h : MN g g2 D) (hp : PW g) : PW g2 := fun j hj => by rw [h.1]; exact hp j hj
theorem mn_clears {g g2 : M2} {D : Nat → Q6} (h : MN g g2 D) {a : Nat} (ha : a < 88) : Ok (f_Mo_clears (cI a) g2) (fun r => MN g r (up D a (0, 0, 0, 0))) :=
  ok_eq (mo_clears ha g2) (MN_sM h _)
theorem mn_adds {g g2 : M2} {D : Nat → Q6} (h : MN g g2 D) {t a : Nat} (ht : t < 88) (ha : a < 88) (x : Int64) : Ok (f_Mo_adds (cI t) (cI a) x g2) (fun r => MN g r (up D t (qadd (D t) (qsc x (D a))))) :=
  ok_eq (mo_adds ht ha x g2) (by rw [h.2.2 t ht, h.2.2 a ha]; exact MN_sM h _)
theorem mn_addsPower {g g2 : M2} {D : Nat → Q6} (h : MN g g2 D) (hp : PW g) {t : Nat} (ht : t < 88) {z : Int} (h1 : -512 ≤ z) (h2 : z < 512) (x : Int64) : Ok (f_Mo_addsPower (cI t) (Int32.ofInt z) x g2) (fun r => MN g r (up D t (qadd (D t) (qsc x (rz z))))) :=
  ok_eq (mo_addsPower ht h1 h2 x g2 (MN_pw h hp)) (by rw [h.2.2 t ht]; exact MN_sM h _)
theorem mn_addsTurned {g g2 : M2} {D : Nat → Q6} (h : MN g g2 D) (hp : PW g) {t a : Nat} (ht : t < 88) (ha : a < 88) (hta : t ≠ a) {z : Int} (h1 : -500 ≤ z) (h2 : z < 500) (x : Int64) : Ok (f_Mo_addsTurned (cI t) (cI a) (Int32.ofInt z) x g2) (fun r => MN g r (up D t (qadd (D t) (qsc x (qmul (D a) (rz z)))))) :=
  ok_eq (mo_addsTurned ht ha hta h1 h2 x g2 (MN_pw h hp)) (by rw [h.2.2 t ht, h.2.2 a ha]; exact MN_sM h _)
theorem mn_addsProduct {g g2 : M2} {D : Nat → Q6} (h : MN g g2 D) (hp : PW g) {t a b : Nat} (ht : t < 88) (ha : a < 88) (hb : b < 88) (x : Int64) : Ok (f_Mo_addsProduct (cI t) (cI a) (cI b) x g2) (fun r => MN g r (up D t (qadd (D t) (qsc x (qmul (D a) (D b)))))) := by
  obtain ⟨c, e⟩ := mo_addsProduct ht ha hb x g2 (MN_pw h hp)
  exact ok_eq e (by rw [h.2.2 t ht, h.2.2 a ha, h.2.2 b hb]; exact MN_s7 (MN_sM h _) c)
theorem zsum_app (l : List Z4) (a : Z4) : zsum (l ++ [a]) = qadd (zsum l) a := by
  induction l with
  | nil => apply q_ext <;> simp [zsum, qadd]
  | cons b l ih =>
    simp only [List.cons_append, zsum, ih]
    apply q_ext <;> simp only [qadd] <;> grind
theorem take_app (l : List Nat) {e : Nat} (h : e < l.length) : l.take (e + 1) = l.take e ++ [l.getD e 0] := by
  rw [List.take_succ]
  simp [h]
/-- what the reference is asked for: elements, wishes -/
def MIn (g : M2) (ps : List Nat) (ws : Nat → Nat) (m : Nat) : Prop := PW g ∧ g.1 157 8 = cI ps.length ∧ ps.length ≤ 5 ∧ (∀ e, e < ps.length → g.1 162 e = cI (ps.getD e 0) ∧ ps.getD e 0 < 12) ∧ g.1 157 10 = cI m ∧ m ≤ 5 ∧ ∀ i, i < m → g.1 163 i = cI (ws i) ∧ ws i < 12
theorem c_sub (a b : Nat) : cI a - cI b = Int32.ofInt ((a : Int) - b) := by
  rw [Int32.ofInt_sub, Int32.ofInt_eq_ofNat, Int32.ofInt_eq_ofNat]
theorem c_mulI (z : Int) (b : Nat) : Int32.ofInt z * cI b = Int32.ofInt (z * b) := by
  rw [Int32.ofInt_mul, Int32.ofInt_eq_ofNat]
theorem c_int (a : Nat) : cI a = Int32.ofInt (a : Int) := Int32.ofInt_eq_ofNat.symm
theorem rz_gram (a b p : Nat) : rz (((a : Int) - b) * p) = rt6 (a * p + 11 * (b * p)) := by
  unfold rz
  refine rt6_eq ?_
  have e : ((a : Int) - b) * p = (a * p : Nat) - (b * p : Nat) := by
    rw [Int.sub_mul]; simp
  rw [e]
  generalize a * p = u
  generalize b * p = v
  omega
theorem prod12 {a b : Nat} (ha : a < 12) (hb : b < 12) : a * b ≤ 121 := Nat.le_trans (Nat.mul_le_mul (Nat.le_of_lt_succ ha) (Nat.le_of_lt_succ hb)) (by decide)
theorem bnd12 {a b p : Nat} (ha : a < 12) (hb : b < 12) (hp : p < 12) : -500 ≤ ((a : Int) - b) * p ∧ ((a : Int) - b) * p < 500 := by
  have e : ((a : Int) - b) * p = (a * p : Nat) - (b * p : Nat) := by
    rw [Int.sub_mul]; simp
  have h1 := prod12 ha hp
  have h2 := prod12 hb hp
  omega
/-- the cell of two wishes -/
theorem gram_cell {g g2 : M2} {D : Nat → Q6} (h : MN g g2 D) {ps : List Nat} {ws : Nat → Nat} {m : Nat} (hI : MIn g ps ws m) {fr : Nat → Nat} {many i j : Nat} (hi : i < many) (hj : j < many) (hm5 : many ≤ 5) (hf : ∀ i, i < many → g.1 165 i = cI (fr i) ∧ fr i < m) : Ok (lp (fun s => b_Mo_laysGram_23 (cI many) (cI i) (cI j) (cI (5 * i + j)) s.1 s.2) 5000 ((0 : Int32), g2)) (fun r => MN g r (up D (5 * i + j) (qadd (D (5 * i + j)) (q64 (Gz ws ps (fr i) (fr j)))))) := by
  obtain ⟨hp, hn, hn5, hps, hm, hm5', hws⟩ := hI
  refine ok_for ps.length (by omega) (fun e s => MN g s (up D (5 * i + j) (qadd (D (5 * i + j)) (q64 (zsum ((ps.take e).map (fun p => rt (ws (fr i) * p + 11 * (ws (fr j) * p)))))))) ) ?_ ?_ ?_
  · have e : qadd (D (5 * i + j)) (q64 (zsum ((ps.take 0).map (fun p => rt (ws (fr i) * p + 11 * (ws (fr j) * p)))))) = D (5 * i + j) := by
      simp only [List.take_zero, List.map_nil, zsum]
      apply q_ext <;> simp only [qadd, q64] <;> exact Int64.add_zero _
    rw [e, up_id]; exact h
  · intro e s he hs
    show Ok (b_Mo_laysGram_23 (cI many) (cI i) (cI j) (cI (5 * i + j)) (cI e) s) _
    unfold b_Mo_laysGram_23
    rw [hs.1, hn]
    obtain ⟨hfi, hfi2⟩ := hf i hi
    obtain ⟨hfj, hfj2⟩ := hf j hj
    refine ok_neg (le_no he (by omega)) (ok_pos (inb_cI (by omega) (by decide)) ?_)
    rw [cI_nat (a := i) (by omega), hfi]
    refine ok_pos (inb_cI (by omega) (by decide)) (ok_pos (inb_cI (by omega) (by decide)) ?_)
    rw [cI_nat (a := j) (by omega), hfj]
    refine ok_pos (inb_cI (by omega) (by decide)) (ok_pos (inb_cI (by omega) (by decide)) ?_)
    rw [cI_nat (a := e) (by omega), cI_nat (a := fr i) (by omega), cI_nat (a := fr j) (by omega), (hws _ hfi2).1, (hws _ hfj2).1, (hps e he).1, c_sub, c_mulI]
    have hb := bnd12 (hws _ hfi2).2 (hws _ hfj2).2 (hps e he).2
    refine ok_bindm (mn_addsPower hs hp (by omega) (by omega) (by omega) 1) (fun r hr => ok_some ⟨c_succ e, ?_⟩)
    rw [up_up, up_s] at hr
    rw [take_app ps he, List.map_append, List.map_cons, List.map_nil, zsum_app, q64_add]
    rw [rz_gram] at hr
    have e3 : ∀ (a b c : Q6), qadd (qadd a b) (qsc 1 c) = qadd a (qadd b c) := fun a b c => by apply q_ext <;> simp only [qadd, qsc] <;> grind
    rw [e3] at hr
    exact hr
  · intro s hs
    show Ok (b_Mo_laysGram_23 (cI many) (cI i) (cI j) (cI (5 * i + j)) (cI ps.length) s) _
    unfold b_Mo_laysGram_23
    rw [hs.1, hn]
    refine ok_pos (le_yes (Nat.le_refl _) (by omega)) (ok_some ?_)
    rw [List.take_length] at hs
    rw [Gz_eq]
    exact hs
theorem ix5 (i j : Nat) : ((0 : Int32) + (5 : Int32) * cI i) + cI j = cI (5 * i + j) := by
  rw [show (0 : Int32) = cI 0 from rfl, show (5 : Int32) = cI 5 from rfl, cI_mul, cI_add, cI_add]; congr 1; omega
/-- all cells -/
def gD (D : Nat → Q6) (G : Nat → Nat → Z4) (fr : Nat → Nat) (many n : Nat) : Nat → Q6 := fun a => if a / 5 * many + a % 5 < n ∧ a % 5 < many then q64 (G (fr (a / 5)) (fr (a % 5))) else D a
theorem mo_laysGram {g g2 : M2} {D : Nat → Q6} (h : MN g g2 D) {ps : List Nat} {ws : Nat → Nat} {m : Nat} (hI : MIn g ps ws m) {fr : Nat → Nat} {many : Nat} (hm5 : many ≤ 5) (hf : ∀ i, i < many → g.1 165 i = cI (fr i) ∧ fr i < m) : Ok (f_Mo_laysGram (cI many) g2) (fun r => MN g r (fun a => if a / 5 < many ∧ a % 5 < many then q64 (Gz ws ps (fr (a / 5)) (fr (a % 5))) else D a)) := by
  unfold f_Mo_laysGram
  refine ok_bindm (Q := fun r => MN g r (fun a => if a / 5 < many ∧ a % 5 < many then q64 (Gz ws ps (fr (a / 5)) (fr (a % 5))) else D a)) ?_ (fun r hr => ok_some hr)
  refine ok_for many (by omega) (fun i s => MN g s (fun a => if a / 5 < i ∧ a % 5 < many then q64 (Gz ws ps (fr (a / 5)) (fr (a % 5))) else D a)) (MN_D h (fun a _ => by rw [if_neg (by omega)])) ?_ ?_
  · intro i s hi hs
    show Ok (b_Mo_laysGram_2 (cI many) (cI i) s) _
    unfold b_Mo_laysGram_2
    refine ok_neg (le_no hi (by omega)) ?_
    refine ok_bindm (Q := fun r => MN g r (fun a => if (a / 5 < i ∧ a % 5 < many) ∨ (a / 5 = i ∧ a % 5 < many) then q64 (Gz ws ps (fr (a / 5)) (fr (a % 5))) else D a)) ?_ (fun r hr => ok_some ⟨c_succ i, MN_D hr (fun a _ => by
      by_cases hc : a / 5 < i + 1 ∧ a % 5 < many
      · rw [if_pos hc, if_pos (by omega)]
      · rw [if_neg hc, if_neg (by omega)])⟩)
    refine ok_for many (by omega) (fun j s => MN g s (fun a => if (a / 5 < i ∧ a % 5 < many) ∨ (a / 5 = i ∧ a % 5 < j) then q64 (Gz ws ps (fr (a / 5)) (fr (a % 5))) else D a)) (MN_D hs (fun a _ => by
      by_cases hc : a / 5 < i ∧ a % 5 < many
      · rw [if_pos hc, if_pos (by omega)]
      · rw [if_neg hc, if_neg (by omega)])) ?_ ?_
    · intro j s hj hs
      show Ok (b_Mo_laysGram_7 (cI many) (cI i) (cI j) s) _
      unfold b_Mo_laysGram_7
      rw [ix5]
      refine ok_neg (le_no hj (by omega)) ?_
      refine ok_bindm (mn_clears hs (by omega)) (fun q3 hq3 => ?_)
      refine ok_bindm (gram_cell hq3 hI hi hj hm5 hf) (fun r hr => ok_some ⟨c_succ j, ?_⟩)
      rw [up_up, up_s] at hr
      refine MN_D hr (fun a ha => ?_)
      have e0 : ∀ v : Q6, qadd (0, 0, 0, 0) v = v := fun v => by apply q_ext <;> simp only [qadd] <;> grind
      rw [e0]
      by_cases hc : a = 5 * i + j
      · subst hc
        rw [up_s, if_pos (by omega), show (5 * i + j) / 5 = i by omega, show (5 * i + j) % 5 = j by omega]
      · rw [up_o _ _ hc]
        by_cases hc2 : (a / 5 < i ∧ a % 5 < many) ∨ (a / 5 = i ∧ a % 5 < j)
        · rw [if_pos hc2, if_pos (by omega)]
        · rw [if_neg hc2, if_neg (by omega)]
    · intro s hs
      show Ok (b_Mo_laysGram_7 (cI many) (cI i) (cI many) s) _
      unfold b_Mo_laysGram_7
      exact ok_pos (le_yes (Nat.le_refl _) (by omega)) (ok_some hs)
  · intro s hs
    show Ok (b_Mo_laysGram_2 (cI many) (cI many) s) _
    unfold b_Mo_laysGram_2
    exact ok_pos (le_yes (Nat.le_refl _) (by omega)) (ok_some hs)
