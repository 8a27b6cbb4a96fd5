/-! calls that only read; steps, end -/
def Pp (F G : M2 → Option Int32) (q : Sg) : Prop := ∃ v, (∀ g, IC g q → F g = some v) ∧ ∀ g, IM g q → G g = some v
theorem lwp {F G : M2 → Option Int32} {q : Sg} {g : M2} {v3 : Int32} {K : Int32 → Option Lo3} (hw : WF q) (h : Pp F G q) (hC : IC g q) (hM : IM g q) (hK : ∀ a, K a = ((G g).bind fun b => (if a = b then some (.inl ((v3 + (6 : Int32)), g)) else some (.inr (.inr ((0 : Int32), g)))))) : Ok ((F g).bind K) (Lp v3 g) := by
  obtain ⟨v, h1, h2⟩ := h
  refine ok_binde (h1 g hC) ?_
  rw [hK v]
  exact ok_binde (h2 g hM) (ok_pos rfl (ok_some ⟨g, rfl, ⟨q, hw, hC, hM⟩, rfl⟩))
theorem lwp1 {F G : Int32 → M2 → Option Int32} {q : Sg} {g : M2} {v3 : Int32} {Lx : Nat} (hw : WF q) (i1 : inb (v3 + 1) Lx) (h : ∀ x, Pp (F x) (G x) q) (hC : IC g q) (hM : IM g q) : Ok (if inb (v3 + (1 : Int32)) Lx then ((F (g.1 1001 (v3 + (1 : Int32)).toNatClampNeg) g).bind fun a => (if inb (v3 + (1 : Int32)) Lx then ((G (g.1 1001 (v3 + (1 : Int32)).toNatClampNeg) g).bind fun b => (if a = b then some (.inl ((v3 + (6 : Int32)), g)) else some (.inr (.inr ((0 : Int32), g))))) else none)) else none) (Lp v3 g) :=
  ok_pos i1 (lwp hw (h _) hC hM (fun a => by rw [if_pos i1]))
theorem lwp2 {F G : Int32 → Int32 → M2 → Option Int32} {q : Sg} {g : M2} {v3 : Int32} {Lx : Nat} (hw : WF q) (i1 : inb (v3 + 1) Lx) (i2 : inb (v3 + 2) Lx) (h : ∀ x y, Pp (F x y) (G x y) q) (hC : IC g q) (hM : IM g q) : Ok (if inb (v3 + (1 : Int32)) Lx then (if inb (v3 + (2 : Int32)) Lx then ((F (g.1 1001 (v3 + (1 : Int32)).toNatClampNeg) (g.1 1001 (v3 + (2 : Int32)).toNatClampNeg) g).bind fun a => (if inb (v3 + (1 : Int32)) Lx then (if inb (v3 + (2 : Int32)) Lx then ((G (g.1 1001 (v3 + (1 : Int32)).toNatClampNeg) (g.1 1001 (v3 + (2 : Int32)).toNatClampNeg) g).bind fun b => (if a = b then some (.inl ((v3 + (6 : Int32)), g)) else some (.inr (.inr ((0 : Int32), g))))) else none) else none)) else none) else none) (Lp v3 g) :=
  ok_pos i1 (ok_pos i2 (lwp hw (h _ _) hC hM (fun a => by rw [if_pos i1, if_pos i2])))
theorem pp_octet {q : Sg} (hw : WF q) (x : Int32) : Pp (f_Da_octet x) (f_Mo_octet x) q := by
  have hl : (so q).length ≤ 160 := hw.2.2.2.2.2.2.2.2.2.2.2.2.2.2.2.1
  refine ⟨if inb x (so q).length then cI ((so q).getD x.toNatClampNeg 0) else -1, fun g hg => ?_, fun g hg => ?_⟩
  · obtain ⟨a1, a2, a3, a4, a5, a6, a7, a8, a9, a10⟩ := hg
    unfold f_Da_octet
    rw [a8]
    simp only [da_among (show (so q).length < 2 ^ 31 by omega), if10e]
    by_cases c : inb x (so q).length
    · have hx := c.2
      rw [if_neg (fun e => e c), if_pos c, if_pos ⟨c.1, by omega⟩, a9 _ hx]
    · rw [if_pos c, if_neg c]
  · obtain ⟨a1, a2, a3, a4, a5, a6, a7, a8⟩ := hg
    unfold f_Mo_octet
    rw [a7]
    simp only [mo_inN (show (so q).length < 2 ^ 31 by omega), if10e]
    by_cases c : inb x (so q).length
    · have hx := c.2
      rw [if_neg (fun e => e c), if_pos c, if_pos ⟨c.1, by omega⟩, a8 _ hx]
    · rw [if_pos c, if_neg c]
theorem fault_eq {q : Sg} {g : M2} (hC : IC g q) (hM : IM g q) (x : Int32) : f_Da_fault x g = f_Mo_fault x g := by
  obtain ⟨a1, a2, a3, a4, a5, a6, a7, a8, a9, a10⟩ := hC
  obtain ⟨b1, b2, b3, b4, b5, b6, b7, b8⟩ := hM
  unfold f_Da_fault f_Mo_fault
  rw [a6, a7, b5, b6]
theorem pp_hears {q : Sg} (hw : WF q) (x y : Int32) : Pp (f_Da_hears x y) (f_Mo_hears x y) q := by
  have hn5 := hw.1
  refine ⟨if inb x (sn q) then (if inb y 12 then (y * cI (sp q x.toNatClampNeg)) - (y * cI (sp q x.toNatClampNeg)) / 12 * 12 else -2) else -2, fun g hg => ?_, fun g hg => ?_⟩
  · unfold f_Da_hears
    simp only [da_has hw hg, da_dir, if10e]
    by_cases c : inb x (sn q)
    · rw [if_neg (fun e => e c), if_pos c]
      by_cases c2 : inb y 12
      · have hx := c.2
        rw [if_neg (fun e => e c2), if_pos c2, if_pos ⟨c.1, by omega⟩, (hg.1.2.2.1 _ hx).1]
      · rw [if_pos c2, if_neg c2]
    · rw [if_pos c, if_neg c]
  · unfold f_Mo_hears
    rw [mo_elem hw hg.2.1]
    simp only [Option.bind_some, mo_dir, if10e]
    by_cases c : inb x (sn q)
    · rw [if_neg (fun e => e c), if_pos c]
      by_cases c2 : inb y 12
      · have hx := c.2
        rw [if_neg (fun e => e c2), if_pos c2, show (2 : Int32) = Int32.ofNat 2 from rfl, e_add 2 c, if_pos (inb_cI (by omega) (by decide)), cI_nat (by omega), hg.2.1.2.2.1 _ hx]
      · rw [if_pos c2, if_neg c2]
    · rw [if_pos c, if_neg c]
theorem b32 {q : Sg} (hw : WF q) : sb q < 32 := by
  have h1 := hw.2.2.2.1
  have h2 : 2 ^ sn q ≤ 2 ^ 5 := Nat.pow_le_pow_right (by decide) hw.1
  omega
theorem pp_element {q : Sg} (hw : WF q) (x y : Int32) : Pp (f_Da_element x y) (f_Mo_element x y) q := by
  have hn5 := hw.1
  refine ⟨if inb x (sn q) then (if inb y 2 then (if y = 0 then cI (sp q x.toNatClampNeg) else if (sb q).testBit x.toNatClampNeg then 1 else 0) else -2) else -2, fun g hg => ?_, fun g hg => ?_⟩
  · unfold f_Da_element
    rw [show (2 : Int32) = cI 2 from rfl]
    simp only [da_has hw hg, da_among (show 2 < 2 ^ 31 by decide), if10e]
    by_cases c : inb x (sn q)
    · rw [if_neg (fun e => e c), if_pos c]
      by_cases c2 : inb y 2
      · have hx := c.2
        rw [if_neg (fun e => e c2), if_pos c2]
        by_cases c3 : y = 0
        · simp only [if_pos c3]
          rw [if_pos ⟨c.1, by omega⟩, (hg.1.2.2.1 _ hx).1]
        · simp only [if_neg c3]
          have hwk : f_Pl_works 7 x g = if (sb q).testBit x.toNatClampNeg then 0 else 1 := by
            conv => lhs; rw [inb_to c]
            exact pl_works hg.1.2.2.2.1 (b32 hw) (by omega)
          rw [hwk]
          by_cases hb : (sb q).testBit x.toNatClampNeg = true
          · rw [if_pos hb, if_pos hb, if_pos rfl]
          · rw [if_neg hb, if_neg hb, if_neg (by decide)]
      · rw [if_pos c2, if_neg c2]
    · rw [if_pos c, if_neg c]
  · unfold f_Mo_element
    rw [mo_elem hw hg.2.1]
    simp only [Option.bind_some, show (1 : Int64) = Int64.ofInt (((2 : Nat) : Int) - 1) from rfl, mo_in0 (show 2 < 2 ^ 31 by decide), if10e]
    by_cases c : inb x (sn q)
    · rw [if_neg (fun e => e c), if_pos c]
      by_cases c2 : inb y 2
      · have hx := c.2
        rw [if_neg (fun e => e c2), if_pos c2]
        by_cases c3 : y = 0
        · simp only [if_pos c3]
          rw [show (2 : Int32) = Int32.ofNat 2 from rfl, e_add 2 c, if_pos (inb_cI (by omega) (by decide)), cI_nat (by omega), hg.2.1.2.2.1 _ hx]
        · simp only [if_neg c3]
          rw [show (7 : Int32) = Int32.ofNat 7 from rfl, e_add 7 c, if_pos (inb_cI (by omega) (by decide)), cI_nat (by omega), hg.2.1.2.2.2.1 _ hx]
      · rw [if_pos c2, if_neg c2]
    · rw [if_pos c, if_neg c]
theorem mo_arr {g : M2} {q : Sg} (hw : WF q) (h : WD g q) : f_Mo_isArray g = some (if sL q = 0 then 0 else 1) := by
  have hL : sL q ≤ 300 := hw.2.2.2.2.2.2.2.2.2.2.1
  unfold f_Mo_isArray
  rw [h.2.2.2.2.2.2.2]
  by_cases c : sL q = 0
  · rw [c]; rfl
  · rw [if_neg (show ¬ cI (sL q) ≤ (0 : Int32) from le_no (b := 0) (by omega) (by omega)), if_neg c]
theorem da_none {g : M2} {q : Sg} (hw : WF q) (h : IC g q) : f_Pl_isNone 7 g = if sL q = 0 then 1 else 0 := by
  have h1 : ss q ≤ 99 := hw.2.2.2.2.2.2.2.2.1
  have h2 : ss q = 0 ↔ sL q = 0 := hw.2.2.2.2.2.2.2.2.2.1
  unfold f_Pl_isNone
  rw [h.2.1]
  by_cases c : sL q = 0
  · rw [if_pos c, h2.mpr c]; rfl
  · rw [if_neg c, if_neg (show ¬ cI (ss q) = 0 from ne_no (b := 0) (fun e => c (h2.mp e)) (by omega) (by decide))]
theorem pr_steps {q : Sg} (hw : WF q) (x : Int32) : Pr (f_Da_steps x) (f_Mo_steps x) q := by
  by_cases c : (1 ≤ x.toInt ∧ x.toInt ≤ 99) ∧ sL q ≠ 0
  · have ci : inb x 100 := inb_int.mpr ⟨by omega, by omega⟩
    have hx : x = cI x.toNatClampNeg := inb_to ci
    have hxe : (x.toNatClampNeg : Int) = x.toInt := by
      have : x.toNatClampNeg = x.toInt.toNat := rfl
      omega
    refine ⟨cI (ss q), (sn q, sp q, sb q, sl q, sd q, x.toNatClampNeg, sL q, st q, sf q, sP q, so q), ?_, fun g hg => ?_, fun g hg => ?_⟩
    · obtain ⟨w1, w2, w3, w4, w5, w6, w7, w8, w9, w10, w11, w12, w13⟩ := hw
      refine ⟨w1, w2, w3, w4, w5, w6, w7, w8, ?_, ?_, w11, w12, w13⟩
      · show x.toNatClampNeg ≤ 99
        omega
      · show x.toNatClampNeg = 0 ↔ sL q = 0
        omega
    · unfold f_Da_steps
      simp only [Int32.lt_iff_toInt_lt, da_none hw hg]
      refine ok_neg (show ¬ x.toInt < 1 by omega) (ok_neg (show ¬ 99 < x.toInt by omega) ?_)
      rw [if_neg c.2]
      refine ok_pos rfl (ok_bd (ok_some ⟨hg.2.1, ?_, fun y hy => ⟨uI_o _ _ _ (by omega), rfl⟩⟩))
      obtain ⟨a1, a2, a3, a4, a5, a6, a7, a8, a9, a10⟩ := hg
      have k : ∀ y, y ≠ 7 → (uI g 7 6 x).1 y = g.1 y := fun y hy => uI_o _ _ _ hy
      obtain ⟨p1, p2, p3, p4, p5, p6, p7, p8, p9, p10⟩ := a1
      refine ⟨⟨?_, p2, fun e he => ?_, ?_, p5, ?_, p7, ?_, p9, fun i hi => ?_⟩, ?_, ?_, ?_, fun i hi => ?_, ?_, ?_, ?_, fun i hi => ?_, ?_⟩
      · rw [uI_k _ _ _ (by decide)]; exact p1
      · rw [k _ (by decide)]; exact p3 e he
      · rw [uI_k _ _ _ (by decide)]; exact p4
      · rw [uI_k _ _ _ (by decide)]; exact p6
      · rw [uI_k _ _ _ (by decide)]; exact p8
      · rw [k _ (by decide)]; exact p10 i hi
      · rw [uI_s]; exact hx
      · rw [uI_k _ _ _ (by decide)]; exact a3
      · rw [k _ (by decide)]; exact a4
      · rw [k _ (by decide)]; exact a5 i hi
      · rw [k _ (by decide)]; exact a6
      · rw [k _ (by decide)]; exact a7
      · rw [k _ (by decide)]; exact a8
      · rw [k _ (by decide)]; exact a9 i hi
      · rw [k _ (by decide)]
        rcases a10 with a10 | ⟨a10, a11⟩
        · exact Or.inl a10
        · exact Or.inr ⟨a10, Now_mono (q := q) (WF_m hw) hw.1 a11 (k 6 (by decide)) (k 10 (by decide)) (k 11 (by decide)) rfl (fun _ _ _ => rfl)⟩
    · unfold f_Mo_steps
      refine ok_binde (mo_arr hw hg.2.1) ?_
      rw [if_neg c.2, show (1 : Int64) = Int64.ofInt 1 from rfl, show (99 : Int64) = Int64.ofInt 99 from rfl, mo_inI (by decide) (by decide) (by decide) (by decide), if_pos c.1]
      refine ok_neg (by decide) (ok_neg (by decide) (ok_bd (ok_some ⟨hg.2.1.1, ?_, fun y hy => ⟨uI_o _ _ _ (by omega), rfl⟩⟩)))
      obtain ⟨a1, ⟨b1, b2, b3, b4, b5, b6, b7, b8⟩, a3, a4, a5, a6, a7, a8⟩ := hg
      have k : ∀ y, y ≠ 160 → (uI g 160 0 x).1 y = g.1 y := fun y hy => uI_o _ _ _ hy
      refine ⟨fun j hj => by rw [k _ (by decide)]; exact a1 j hj, ⟨by rw [uI_s]; exact hx, by rw [uI_k _ _ _ (by decide)]; exact b2, fun e he => by rw [uI_k _ _ _ (by omega)]; exact b3 e he, fun e he => by rw [uI_k _ _ _ (by omega)]; exact b4 e he, by rw [uI_k _ _ _ (by decide)]; exact b5, by rw [uI_k _ _ _ (by decide)]; exact b6, fun i hi => by rw [uI_k _ _ _ (by omega)]; exact b7 i hi, by rw [uI_k _ _ _ (by decide)]; exact b8⟩, by rw [k _ (by decide)]; exact a3, fun i hi => by rw [k _ (by decide)]; exact a4 i hi, by rw [k _ (by decide)]; exact a5, by rw [k _ (by decide)]; exact a6, by rw [k _ (by decide)]; exact a7, fun i hi => by rw [k _ (by decide)]; exact a8 i hi⟩
  · refine ⟨-2, q, hw, fun g hg => ?_, fun g hg => ?_⟩
    · unfold f_Da_steps
      simp only [Int32.lt_iff_toInt_lt, da_none hw hg]
      refine ok_if (fun _ => ok_some ⟨rfl, hg, KC_rf g⟩) (fun d1 => ok_if (fun _ => ok_some ⟨rfl, hg, KC_rf g⟩) (fun d2 => ?_))
      have d1' : ¬ x.toInt < 1 := d1
      have d2' : ¬ 99 < x.toInt := d2
      rw [if_pos (show sL q = 0 by omega)]
      exact ok_neg (by decide) (ok_some ⟨rfl, hg, KC_rf g⟩)
    · unfold f_Mo_steps
      refine ok_binde (mo_arr hw hg.2.1) ?_
      by_cases d : sL q = 0
      · rw [if_pos d]; exact ok_pos rfl (ok_some ⟨rfl, hg, KM_rf g⟩)
      · rw [if_neg d, show (1 : Int64) = Int64.ofInt 1 from rfl, show (99 : Int64) = Int64.ofInt 99 from rfl, mo_inI (by decide) (by decide) (by decide) (by decide), if_neg (fun e => c ⟨e, d⟩)]
        exact ok_neg (by decide) (ok_pos rfl (ok_some ⟨rfl, hg, KM_rf g⟩))
