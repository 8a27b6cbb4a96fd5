/-! all powers laid; louder, quiet -/
abbrev qg (q : Sg) (k : Nat) : Z4 := gnz (qw q) (qp q) (qm q) k
theorem rM_o {g r : M2} (h : r.2 158 = g.2 158) (a : Nat) : rM r a = rM g a := by unfold rM; rw [h]
/-- what laying all powers does -/
def LPs (g r : M2) (G : Nat → Z4) (n : Nat) : Prop := r.1 = g.1 ∧ (∀ y, y ≠ 157 → y ≠ 158 → y ≠ 159 → y ≠ 169 → y ≠ 170 → r.2 y = g.2 y) ∧ (∀ j, j ≠ 3 → j ≠ 4 → r.2 157 j = g.2 157 j) ∧ (∀ b, b < 80 → rM r b = rM g b) ∧ (∀ b, 81 < b → b < 88 → rM r b = rM g b) ∧ ∀ k, k < n → r.2 169 k = Int64.ofInt (pXz (G k)) ∧ r.2 170 k = Int64.ofInt (pYz (G k))
theorem mo_laysPowers {g : M2} (hp : PW g) {G : Nat → Z4} (hG : ∀ k, k < 12 → rM g (67 + k) = q64 (G k)) : Ok (f_Mo_laysPowers g) (fun r => LPs g r G 12) := by
  unfold f_Mo_laysPowers
  refine ok_bindm (Q := fun r => LPs g r G 12) ?_ (fun r hr => ok_some hr)
  refine ok_for 12 (by decide) (fun k z => LPs g z G k) ⟨rfl, fun _ _ _ _ _ _ => rfl, fun _ _ _ => rfl, fun _ _ => rfl, fun _ _ _ => rfl, fun k hk => absurd hk (by omega)⟩ ?_ ?_
  · rintro k z hk ⟨z1, z2, z3, z4, z5, z6⟩
    show Ok (b_Mo_laysPowers_2 (cI k) z) _
    unfold b_Mo_laysPowers_2
    rw [show (67 : Int32) = cI 67 from rfl, cI_add]
    have i12 : inb (cI k) 12 := inb_cI hk (by decide)
    refine ok_neg (le_no (a := 12) hk (by decide)) (ok_bindm (mo_laysPower (a := 67 + k) (v := G k) (fun j hj => by rw [z1]; exact hp j hj) (by omega) (by rw [z4 _ (by omega)]; exact hG k hk)) (fun r hr => ok_pos i12 (ok_bd (ok_pos i12 (ok_bd (ok_some ⟨c_succ k, ?_⟩))))))
    obtain ⟨l1, l2, l3, l4, l5, l6, l7⟩ := hr
    rw [cI_nat (by omega), uJ_o _ _ _ (show 157 ≠ 169 by decide), l6, l7]
    refine ⟨l1.trans z1, fun y y1 y2 y3 y4 y5 => by rw [uJ_o _ _ _ y5, uJ_o _ _ _ y4, l2 y y1 y2 y3]; exact z2 y y1 y2 y3 y4 y5, fun j j1 j2 => by rw [uJ_o _ _ _ (by decide), uJ_o _ _ _ (by decide), l3 j j1 j2]; exact z3 j j1 j2, fun b hb => ?_, fun b hb hb2 => ?_, fun j hj => ?_⟩
    · rw [rM_o (r := uJ (uJ r 169 k (Int64.ofInt (pXz (G k)))) 170 k (Int64.ofInt (pYz (G k)))) (g := r) (by rw [uJ_o _ _ _ (by decide), uJ_o _ _ _ (by decide)]), l4 b hb]; exact z4 b hb
    · rw [rM_o (r := uJ (uJ r 169 k (Int64.ofInt (pXz (G k)))) 170 k (Int64.ofInt (pYz (G k)))) (g := r) (by rw [uJ_o _ _ _ (by decide), uJ_o _ _ _ (by decide)]), l5 b hb hb2]; exact z5 b hb hb2
    · rw [uJ_o _ _ _ (show 169 ≠ 170 by decide)]
      by_cases hjk : j = k
      · rw [hjk, uJ_s, uJ_s]; exact ⟨rfl, rfl⟩
      · rw [uJ_k _ _ _ hjk, uJ_k _ _ _ hjk, uJ_o _ _ _ (show 170 ≠ 169 by decide), l2 169 (by decide) (by decide) (by decide), l2 170 (by decide) (by decide) (by decide)]; exact z6 j (by omega)
  · intro z hz
    show Ok (b_Mo_laysPowers_2 (cI 12) z) _
    unfold b_Mo_laysPowers_2
    exact ok_pos (le_yes (a := 12) (Nat.le_refl _) (by decide)) (ok_some hz)
theorem FM_L {g r : M2} {G : Nat → Z4} {n : Nat} (h : LPs g r G n) : FM g r :=
  ⟨fun y hy => ⟨by rw [h.1], h.2.1 y (by omega) (by omega) (by omega) (by omega) (by omega)⟩, fun j _ => by rw [h.1]⟩
/-- how two powers compare -/
def cmpP (q : Sg) (a b : Nat) : Int := sgn (pXz (qg q a) - pXz (qg q b)) (pYz (qg q a) - pYz (qg q b))
theorem pw_b {q : Sg} (hw : WF q) (h : qh q = true) (k : Nat) : 0 ≤ pXz (qg q k) ∧ pXz (qg q k) ≤ 2 ^ 56 ∧ -2 ^ 56 ≤ pYz (qg q k) ∧ pYz (qg q k) ≤ 2 ^ 56 := by
  obtain ⟨h1, h2, h3, h4, h5, _⟩ := q_on hw h
  have hb := gn_c (WF_m hw) h4 h1 h2 (fun i hi => Nat.le_of_lt (h5 i hi)) k
  have hx : 0 ≤ pXz (qg q k) := (pX_b hw h k).1
  have hz : tn (pXz (qg q k)) (pYz (qg q k)) := p_tn _ _ _ _
  unfold tn at hz
  have hb' : 4 * pXz (qg q k) ≤ 3 * (16777216 * 16777216) := hb
  have hy := abs_le (a := pYz (qg q k)) (N := pXz (qg q k)) hx (by have := sq_nn (pYz (qg q k)); have := hz.2; omega)
  omega
theorem so_compare {g : M2} {q : Sg} (hw : WF q) (h : qh q = true) (hN : Now g q) {a b : Nat} (ha : a < 12) (hb : b < 12) : f_So_comparePowers 6 (cI a) (cI b) g = some (Int32.ofInt (cmpP q a b)) := by
  have hv := hN.2.2.2.2.2.2.2 h
  have ia : inb (cI a) 12 := inb_cI ha (by decide)
  have ib : inb (cI b) 12 := inb_cI hb (by decide)
  refine ok_to ?_
  unfold f_So_comparePowers
  refine ok_pos ia (ok_pos ib (ok_pos ia (ok_pos ib ?_)))
  rw [cI_nat (by omega), cI_nat (by omega), (hv.2.2 a ha).1, (hv.2.2 a ha).2, (hv.2.2 b hb).1, (hv.2.2 b hb).2, ← Int64.ofInt_sub, ← Int64.ofInt_sub]
  obtain ⟨x1, x2, x3, x4⟩ := pw_b hw h a
  obtain ⟨y1, y2, y3, y4⟩ := pw_b hw h b
  show Ok ((f_Da_signOf (Int64.ofInt (pXz (qg q a) - pXz (qg q b))) (Int64.ofInt (pYz (qg q a) - pYz (qg q b))) g).bind fun q5 => some q5) _
  exact ok_binde (da_sign (by omega) (by omega) (by omega) (by omega) g) (ok_some rfl)
theorem mo_compared {g r : M2} {q : Sg} (hw : WF q) (h : qh q = true) (hL : LPs g r (qg q) 12) {a b : Nat} (ha : a < 12) (hb : b < 12) : f_Mo_compared (cI a) (cI b) r = some (Int32.ofInt (cmpP q a b)) := by
  have hv := hL.2.2.2.2.2
  have ia : inb (cI a) 12 := inb_cI ha (by decide)
  have ib : inb (cI b) 12 := inb_cI hb (by decide)
  refine ok_to ?_
  unfold f_Mo_compared
  refine ok_pos ia (ok_pos ib (ok_pos ia (ok_pos ib ?_)))
  rw [cI_nat (by omega), cI_nat (by omega), (hv a ha).1, (hv a ha).2, (hv b hb).1, (hv b hb).2, ← Int64.ofInt_sub, ← Int64.ofInt_sub]
  obtain ⟨x1, x2, x3, x4⟩ := pw_b hw h a
  obtain ⟨y1, y2, y3, y4⟩ := pw_b hw h b
  show Ok ((f_Mo_signOf (Int64.ofInt (pXz (qg q a) - pXz (qg q b))) (Int64.ofInt (pYz (qg q a) - pYz (qg q b))) r).bind fun q5 => some q5) _
  exact ok_binde (mo_sign (by omega) (by omega) (by omega) (by omega) r) (ok_some rfl)
