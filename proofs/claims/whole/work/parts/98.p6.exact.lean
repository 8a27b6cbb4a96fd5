/-! exactly -/
theorem dvd_gc {L : Int} {v : Z4} {s : Nat} : ∀ k, (L ∣ (s : Int) * gc L v k ↔ ∀ i, i < k → L ∣ (s : Int) * cmz v L i) := by
  intro k
  induction k with
  | zero => exact ⟨fun _ i hi => absurd hi (by omega), fun _ => ⟨(s : Int), Int.mul_comm _ _⟩⟩
  | succ k ih =>
    have e : (L ∣ (s : Int) * gc L v (k + 1)) ↔ (L ∣ (s : Int) * gc L v k ∧ L ∣ (s : Int) * cmz v L k) := by
      show (L ∣ (s : Int) * ((Int.gcd (gc L v k) (cmz v L k) : Nat) : Int)) ↔ _
      constructor
      · intro h
        exact ⟨Int.dvd_trans h (Int.mul_dvd_mul_left _ (Int.gcd_dvd_left ..)), Int.dvd_trans h (Int.mul_dvd_mul_left _ (Int.gcd_dvd_right ..))⟩
      · rintro ⟨h1, h2⟩
        have h3 := Int.dvd_coe_gcd h1 h2
        rw [Int.gcd_mul_left] at h3
        simpa using h3
    rw [e, ih]
    constructor
    · rintro ⟨h1, h2⟩ i hi
      by_cases hik : i = k
      · subst hik; exact h2
      · exact h1 i (by omega)
    · intro h
      exact ⟨fun i hi => h i (by omega), h k (by omega)⟩
theorem gc_dvd {L : Int} {v : Z4} : ∀ k, gc L v k ∣ L := by
  intro k
  induction k with
  | zero => exact Int.dvd_refl _
  | succ k ih => exact Int.dvd_trans (Int.gcd_dvd_left ..) ih
theorem gc_pos {L : Int} {v : Z4} (hL : 0 < L) (k : Nat) : 0 < gc L v k := by
  cases k with
  | zero => exact hL
  | succ k =>
    show (0 : Int) < ((Int.gcd (gc L v k) (cmz v L k) : Nat) : Int)
    have h0 : gc L v k ≠ 0 := fun e => by
      have := gc_dvd (L := L) (v := v) k
      rw [e] at this
      have := Int.zero_dvd.mp this
      omega
    have : 0 < Int.gcd (gc L v k) (cmz v L k) := Nat.gcd_pos_of_pos_left _ (by omega)
    omega
theorem low_dvd {L g : Int} {s : Nat} (hL : 0 < L) (hg : 0 < g) (h : g ∣ L) : (L / g ∣ (s : Int) ↔ L ∣ (s : Int) * g) := by
  obtain ⟨c, hc⟩ := h
  rw [hc, Int.mul_ediv_cancel_left _ (by omega)]
  constructor
  · rintro ⟨k, hk⟩
    exact ⟨k, by rw [hk]; grind⟩
  · rintro ⟨k, hk⟩
    refine ⟨k, Int.eq_of_mul_eq_mul_left (a := g) (by omega) ?_⟩
    rw [Int.mul_comm g, hk, Int.mul_assoc]
/-- weights are whole by so many steps -/
def exV (q : Sg) (s : Nat) : Prop := ∀ e, e < sn q → ∀ i, i < 4 → qL q ∣ (s : Int) * cmz (qv q e) (qL q) i
theorem exV_m {q : Sg} (hw : WF q) {s : Nat} : exV q s ↔ ∀ j, j < (qp q).length → qL q / gc (qL q) (wtz (qw q) (qp q) (qm q) ((qp q).getD j 0)) 4 ∣ (s : Int) := by
  obtain ⟨l0, l1⟩ := qL_b hw
  have key : ∀ v : Z4, (qL q / gc (qL q) v 4 ∣ (s : Int)) ↔ ∀ i, i < 4 → qL q ∣ (s : Int) * cmz v (qL q) i := fun v => by
    rw [low_dvd l0 (gc_pos l0 4) (gc_dvd 4), dvd_gc]
  constructor
  · intro h j hj
    rw [key]
    have hm : (qp q).getD j 0 ∈ qp q := getD_mem hj
    obtain ⟨e, he, hpe⟩ := List.mem_map.mp hm
    have he2 := List.mem_filter.mp he
    have hb : ¬ (sb q).testBit e = true := by
      have := he2.2
      intro hb
      rw [hb] at this
      cases this
    have hev : qv q e = wtz (qw q) (qp q) (qm q) ((qp q).getD j 0) := by
      show wte (qw q) (qp q) (qm q) (sp q) (sb q) e = _
      unfold wte
      rw [if_neg hb, hpe]
    rw [← hev]
    exact h e (List.mem_range.mp he2.1)
  · intro h e he
    by_cases hb : (sb q).testBit e = true
    · intro i hi
      rw [qv_0 hb]
      have h4 : i = 0 ∨ i = 1 ∨ i = 2 ∨ i = 3 := by omega
      rcases h4 with e1 | e1 | e1 | e1 <;> subst e1 <;> exact ⟨0, by simp [cmz]⟩
    · obtain ⟨i1, i2⟩ := wk_idx (sp q) (sb q) (sn q) e he hb
      have h1 := (key _).mp (h _ i1)
      have hev : qv q e = wtz (qw q) (qp q) (qm q) ((qp q).getD (wkl (sp q) (sb q) e).length 0) := by
        show wte (qw q) (qp q) (qm q) (sp q) (sb q) e = wtz (qw q) (qp q) (qm q) ((wkl (sp q) (sb q) (sn q)).getD (wkl (sp q) (sb q) e).length 0)
        unfold wte
        rw [if_neg hb, i2]
      rw [hev]
      exact h1
theorem cu_loses {g : M2} {q : Sg} (hw : WF q) (h : qh q = true) (hC : IC g q) (hN : Now g q) {s : Nat} (hs : s ≤ 99) : Ok (f_Cu_losesNothing 6 (cI s) g) (fun r => r = 1 ∧ exV q s ∨ r = 0 ∧ ¬ exV q s) := by
  have hn := hw.1
  obtain ⟨l0, l1⟩ := qL_b hw
  have hv := (hN.2.2.2.2.2.2.2 h).1
  have hL : g.2 6 16 = Int64.ofInt (qL q) := hv.1
  have hL0 : ¬ Int64.ofInt (qL q) = 0 := by rw [z64, eq64 (by omega) (by omega) (by omega) (by omega)]; omega
  unfold f_Cu_losesNothing
  rw [hL]
  refine ok_neg hL0 (ok_bindm (Q := fun u => Sum.elim (fun _ => exV q s) (fun r => r = 0 ∧ ¬ exV q s) u) ?_ (fun u hu => ?_))
  · refine ok_lp (fun e st => st = cI e ∧ ∀ t, t < e → ∀ i, i < 4 → qL q ∣ (s : Int) * cmz (qv q t) (qL q) i) (sn q) 5000 0 _ (by omega) (by omega) ⟨rfl, fun t ht => absurd ht (by omega)⟩ ?_
    rintro e st he ⟨rfl, hI⟩
    show Ok (b_Cu_losesNothing_9 6 (cI s) (cI e) g) _
    unfold b_Cu_losesNothing_9
    rw [show g.1 (6 + 1) 2 = cI (sn q) from hC.1.1]
    by_cases he2 : e = sn q
    · refine ok_pos (le_yes (by omega) (by omega)) (ok_some ?_)
      rw [he2] at hI; exact hI
    · have he' : e < sn q := by omega
      refine ok_neg (le_no he' (by omega)) (ok_bindm (Q := fun u => Sum.elim (fun _ => ∀ i, i < 4 → qL q ∣ (s : Int) * cmz (qv q e) (qL q) i) (fun r => r = 0 ∧ ¬ exV q s) u) ?_ (fun u hu => ?_))
      · refine ok_lp (fun i st => st = cI i ∧ ∀ t, t < i → qL q ∣ (s : Int) * cmz (qv q e) (qL q) t) 4 5000 0 _ (by omega) (by omega) ⟨rfl, fun t ht => absurd ht (by omega)⟩ ?_
        rintro i st hi ⟨rfl, hI2⟩
        show Ok (b_Cu_losesNothing_16 6 (cI s) (cI e) (cI i) g) _
        unfold b_Cu_losesNothing_16
        by_cases hi2 : i = 4
        · subst hi2
          exact ok_pos (le_yes (a := 4) (Nat.le_refl _) (by decide)) (ok_some hI2)
        · have hi' : i < 4 := by omega
          refine ok_neg (le_no (a := 4) hi' (by decide)) (ok_pos (inb_cI (by omega) (by decide)) ?_)
          rw [hL]
          refine ok_neg hL0 ?_
          have hw1 : rN g (6 + 43 + 1 + e) = q64 (qv q e) := hv.2.2 e he'
          rw [cI_nat (by omega), nu_part hw1 (L := qL q) hi']
          have hbd : -16777216 ≤ cmz (qv q e) (qL q) i ∧ cmz (qv q e) (qL q) i ≤ 16777216 := by
            obtain ⟨a, b, c, d⟩ := qv_c hw h he'
            have h4 : i = 0 ∨ i = 1 ∨ i = 2 ∨ i = 3 := by omega
            rcases h4 with e1 | e1 | e1 | e1 <;> subst e1
            · exact a
            · exact b
            · exact c
            · exact d
          have hab := as_b hbd.1 hbd.2 hs
          have hcr : cmz (qv q e) (qL q) i * (s : Int) = (s : Int) * cmz (qv q e) (qL q) i := Int.mul_comm _ _
          have hrem : (Int64.ofInt (cmz (qv q e) (qL q) i) * (cI s).toInt64) - (Int64.ofInt (cmz (qv q e) (qL q) i) * (cI s).toInt64) / Int64.ofInt (qL q) * Int64.ofInt (qL q) = (0 : Int64) ↔ qL q ∣ (s : Int) * cmz (qv q e) (qL q) i := by
            rw [← Int64.ofInt_int32ToInt, cI_toInt (by omega), ← Int64.ofInt_mul, hcr]
            rw [hcr] at hab
            generalize (s : Int) * cmz (qv q e) (qL q) i = x at hab
            rw [div64 (by omega) (by omega) (by omega) (by omega), ← Int64.ofInt_mul, ← Int64.ofInt_sub]
            have hm := Int.mul_tdiv_add_tmod x (qL q)
            have hm2 : x - x.tdiv (qL q) * qL q = x.tmod (qL q) := by rw [Int.mul_comm (x.tdiv (qL q))]; omega
            have hm3 : (x.tmod (qL q)).natAbs ≤ x.natAbs := by
              rw [Int.natAbs_tmod]; exact Nat.mod_le _ _
            rw [hm2, z64, eq64 (by omega) (by omega) (by omega) (by omega)]
            exact Int.dvd_iff_tmod_eq_zero.symm
          refine ok_if (fun c => ok_some ⟨hi', c_succ i, fun t ht => ?_⟩) (fun c => ok_some ⟨rfl, fun hV => c (hrem.mpr (hV e he' i hi'))⟩)
          by_cases hti : t = i
          · rw [hti]; exact hrem.mp c
          · exact hI2 t (by omega)
      · cases u with
        | inl _ =>
          refine ok_some ⟨he', c_succ e, fun t ht => ?_⟩
          by_cases hte : t = e
          · rw [hte]; exact hu
          · exact hI t (by omega)
        | inr r => exact ok_some hu
  · cases u with
    | inl _ => exact ok_some (Or.inl ⟨rfl, hu⟩)
    | inr r => exact ok_some (Or.inr hu)
theorem mo_exact {g : M2} {q : Sg} (hw : WF q) (h : qh q = true) (hQ : Mqr g q) {s : Nat} (hs : s ≤ 99) : Ok (lp (fun st => b_Mo_exactly_14 (cI s) st.1 st.2 g) 5000 ((1 : Int32), (0 : Int32))) (fun r => r = 1 ∧ exV q s ∨ r = 0 ∧ ¬ exV q s) := by
  obtain ⟨l0, l1⟩ := qL_b hw
  have hlen := q5 hw
  rw [exV_m hw]
  refine ok_lp (fun j st => ∃ v, st = (v, cI j) ∧ (v = 1 ∧ (∀ t, t < j → qL q / gc (qL q) (wtz (qw q) (qp q) (qm q) ((qp q).getD t 0)) 4 ∣ (s : Int)) ∨ v = 0 ∧ ¬ ∀ t, t < (qp q).length → qL q / gc (qL q) (wtz (qw q) (qp q) (qm q) ((qp q).getD t 0)) 4 ∣ (s : Int))) (qp q).length 5000 0 _ (by omega) (by omega) ⟨1, rfl, Or.inl ⟨rfl, fun t ht => absurd ht (by omega)⟩⟩ ?_
  rintro j st hj ⟨v, rfl, hI⟩
  show Ok (b_Mo_exactly_14 (cI s) v (cI j) g) _
  unfold b_Mo_exactly_14
  rw [hQ.2.1.2.1]
  by_cases hj2 : j = (qp q).length
  · refine ok_pos (le_yes (by omega) (by omega)) (ok_some ?_)
    rcases hI with ⟨e, hI2⟩ | hI2
    · exact Or.inl ⟨e, by rw [hj2] at hI2; exact hI2⟩
    · exact Or.inr hI2
  · have hj' : j < (qp q).length := by omega
    refine ok_neg (le_no hj' (by omega)) ?_
    rcases hI with ⟨e, hI2⟩ | hI2
    · refine ok_neg (by rw [e]; decide) ?_
      rw [hQ.2.2.1.1, show (62 : Int32) = cI 62 from rfl, cI_add]
      have hv := hQ.2.2.1.2.2.2.2.2.1 j hj'
      have hbz : bz (wtz (qw q) (qp q) (qm q) ((qp q).getD j 0)) := by
        obtain ⟨h1, h2, h3, h4, h5, h6⟩ := q_on hw h
        refine bz_c ?_
        have := wt_le1 (WF_m hw) h4 h1 h2 (fun i hi => Nat.le_of_lt (h5 i hi)) (getD_mem hj')
        have h7 := mul_b (a := qL q) (b := (1953125 : Int)) (A := 9765625) (B := 1953125) (by omega) l1 (by decide) (by decide)
        have h8 : lowz (qw q) (qp q) (qm q) * 1953125 ≤ 9765625 * 1953125 := h7.2
        omega
      have ht := mo_told (a := 62 + j) (by omega) hv hbz (qL_1 hw).1 (qL_1 hw).2 (x := 4) (g := g) ⟨by decide, by decide⟩
      refine ok_binde ht ?_
      have hgp := gc_pos (v := wtz (qw q) (qp q) (qm q) ((qp q).getD j 0)) l0 4
      have hgd := gc_dvd (L := qL q) (v := wtz (qw q) (qp q) (qm q) ((qp q).getD j 0)) 4
      have hgl : gc (qL q) (wtz (qw q) (qp q) (qm q) ((qp q).getD j 0)) 4 ≤ qL q := Int.le_of_dvd l0 hgd
      have et : tld (qL q) (wtz (qw q) (qp q) (qm q) ((qp q).getD j 0)) (4 : Int32).toNatClampNeg = Int64.ofInt (qL q / gc (qL q) (wtz (qw q) (qp q) (qm q) ((qp q).getD j 0)) 4) := by
        show Int64.ofInt (qL q) / Int64.ofInt (gc (qL q) (wtz (qw q) (qp q) (qm q) ((qp q).getD j 0)) 4) = _
        rw [div64 (by omega) (by omega) (by omega) (by omega), Int.tdiv_eq_ediv_of_nonneg (by omega)]
      rw [et]
      have hd0 : 0 < qL q / gc (qL q) (wtz (qw q) (qp q) (qm q) ((qp q).getD j 0)) 4 := by
        generalize gc (qL q) (wtz (qw q) (qp q) (qm q) ((qp q).getD j 0)) 4 = m at hgp hgd hgl ⊢
        obtain ⟨c, hc⟩ := hgd
        rw [hc, Int.mul_ediv_cancel_left _ (by omega)]
        rw [hc] at l0
        refine Int.lt_of_not_ge (fun hn => ?_)
        have h9 := Int.mul_le_mul_of_nonneg_left hn (Int.le_of_lt hgp)
        rw [Int.mul_zero] at h9
        omega
      have hd1 : qL q / gc (qL q) (wtz (qw q) (qp q) (qm q) ((qp q).getD j 0)) 4 ≤ qL q := Int.ediv_le_self _ (by omega)
      have next : ∀ x : Int, 0 < x → x ≤ 9765625 → ((cI s).toInt64 - (cI s).toInt64 / Int64.ofInt x * Int64.ofInt x = (0 : Int64) ↔ x ∣ (s : Int)) := fun x x0 x1 => by
        have e1 : (cI s).toInt64 = nJ s := by rw [← Int64.ofInt_int32ToInt, cI_toInt (by omega)]
        have e2 : Int64.ofInt x = nJ x.toNat := by show _ = Int64.ofInt ((x.toNat : Nat) : Int); rw [Int.toNat_of_nonneg (by omega)]
        rw [e1, e2, rem64 (by omega) (by omega), nJ_0 (by have := Nat.mod_le s x.toNat; omega)]
        constructor
        · intro h0
          have := Nat.dvd_of_mod_eq_zero h0
          have h9 := Int.ofNat_dvd.mpr this
          rw [Int.toNat_of_nonneg (by omega)] at h9
          exact h9
        · intro h0
          rw [← Int.toNat_of_nonneg (show 0 ≤ x by omega)] at h0
          exact Nat.mod_eq_zero_of_dvd (Int.ofNat_dvd.mp h0)
      refine ok_neg (by rw [z64, eq64 (by omega) (by omega) (by omega) (by omega)]; omega) ?_
      have nx := next _ hd0 (by omega)
      refine ok_if (fun c => ok_some ⟨hj', 1, by rw [c_succ], Or.inl ⟨rfl, fun t ht => ?_⟩⟩) (fun c => ok_some ⟨hj', 0, by rw [c_succ], Or.inr ⟨rfl, fun hV => c (nx.mpr (hV j hj'))⟩⟩)
      by_cases htj : t = j
      · rw [htj]; exact nx.mp c
      · exact hI2 t (by omega)
    · exact ok_pos hI2.1 (ok_some ⟨hj', 0, by rw [c_succ], Or.inr ⟨rfl, hI2.2⟩⟩)
theorem pr_exactly {q : Sg} (hw : WF q) : Pr f_Da_exactly f_Mo_exactly q := by
  by_cases h : qh q = true
  · obtain ⟨o, ho⟩ := fs_ex (exV q) 1 99
    refine ⟨lkI o, q, hw, cs_ref hw (fun g => rfl) (fun n => absurd h n) (fun _ r hC hN => ?_), fun g hg => ?_⟩
    · refine ok_bindm (Q := fun u => Sum.elim (fun _ => o = none) (fun p => p = (lkI o, r)) u) ?_ (fun u hu => ?_)
      · refine ok_lp (fun j st => st = cI (1 + j) ∧ ∀ t, 1 ≤ t → t < 1 + j → ¬ exV q t) 99 5000 0 _ (by omega) (by omega) ⟨rfl, fun t h1 h2 => by omega⟩ ?_
        rintro j st hj ⟨rfl, hV⟩
        show Ok (b_Da_exactly_10 (cI (1 + j)) r) _
        unfold b_Da_exactly_10
        by_cases hj2 : j = 99
        · subst hj2
          exact ok_pos (lt_yes (a := 99) (b := 1 + 99) (by decide) (by decide)) (ok_some (fs_uq ho (show fsP (exV q) 1 (1 + 99) none from hV)))
        · refine ok_neg (lt_no (b := 1 + j) (a := 99) (by omega) (by decide)) (ok_bindm (cu_loses hw h hC hN (s := 1 + j) (by omega)) (fun p hp => ?_))
          rcases hp with ⟨e, hV2⟩ | ⟨e, hV2⟩
          · refine ok_neg (by rw [e]; decide) (ok_some ?_)
            have : o = some (1 + j) := fs_uq ho (show fsP (exV q) 1 (1 + 99) (some (1 + j)) from ⟨by omega, by omega, hV2, hV⟩)
            show (cI (1 + j), r) = (lkI o, r)
            rw [this]; rfl
          · refine ok_pos e (ok_some ⟨by omega, by rw [c_succ]; rfl, fun t h1 h2 => ?_⟩)
            by_cases ht : t = 1 + j
            · rw [ht]; exact hV2
            · exact hV t h1 (by omega)
      · cases u with
        | inl z => exact ok_some ⟨by show (-1 : Int32) = lkI o; rw [show o = none from hu]; rfl, hC, KC_rf r⟩
        | inr p => rw [show p = (lkI o, r) from hu]; exact ok_some ⟨rfl, hC, KC_rf r⟩
    · unfold f_Mo_exactly
      refine ms_cq hw hg (fun n => absurd h n) (fun _ _ r hQ => ?_)
      refine ok_bindm (Q := fun u => Sum.elim (fun _ => o = none) (fun p => p = (lkI o, r)) u) ?_ (fun u hu => ?_)
      · refine ok_lp (fun j st => st = cI (1 + j) ∧ ∀ t, 1 ≤ t → t < 1 + j → ¬ exV q t) 99 5000 0 _ (by omega) (by omega) ⟨rfl, fun t h1 h2 => by omega⟩ ?_
        rintro j st hj ⟨rfl, hV⟩
        show Ok (b_Mo_exactly_7 (cI (1 + j)) r) _
        unfold b_Mo_exactly_7
        by_cases hj2 : j = 99
        · subst hj2
          exact ok_pos (lt_yes (a := 99) (b := 1 + 99) (by decide) (by decide)) (ok_some (fs_uq ho (show fsP (exV q) 1 (1 + 99) none from hV)))
        · refine ok_neg (lt_no (b := 1 + j) (a := 99) (by omega) (by decide)) (ok_bindm (mo_exact hw h hQ (s := 1 + j) (by omega)) (fun p hp => ?_))
          rcases hp with ⟨e, hV2⟩ | ⟨e, hV2⟩
          · refine ok_neg (by rw [e]; decide) (ok_some ?_)
            have : o = some (1 + j) := fs_uq ho (show fsP (exV q) 1 (1 + 99) (some (1 + j)) from ⟨by omega, by omega, hV2, hV⟩)
            show (cI (1 + j), r) = (lkI o, r)
            rw [this]; rfl
          · refine ok_pos e (ok_some ⟨by omega, by rw [c_succ]; rfl, fun t h1 h2 => ?_⟩)
            by_cases ht : t = 1 + j
            · rw [ht]; exact hV2
            · exact hV t h1 (by omega)
      · cases u with
        | inl z => exact ok_some ⟨by show (-1 : Int32) = lkI o; rw [show o = none from hu]; rfl, FM_rf r⟩
        | inr p => rw [show p = (lkI o, r) from hu]; exact ok_some ⟨rfl, FM_rf r⟩
  · refine ⟨-2, q, hw, cs_ref hw (fun g => rfl) (fun n => rfl) (fun h2 => absurd h2 h), fun g hg => ?_⟩
    unfold f_Mo_exactly
    exact ms_no hw hg h
