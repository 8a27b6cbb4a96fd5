/-! the class's solver: the elimination, whole -/
section
variable {ws : Nat → Nat} {ps : List Nat}
theorem mi_0 (a c : Nat) : mi ws ps 0 a c = Gx ws ps a c := by
  show qsub (qmul (Gx ws ps a c) (1, 0, 0, 0)) (0, 0, 0, 0) = _
  apply q_ext <;> simp only [qmul, qsub] <;> grind
theorem rXY_0 : rX ws ps 0 = 1 ∧ rY ws ps 0 = 0 := ⟨rfl, rfl⟩
theorem hdb_0 : hdb ws ps 0 = true := by rw [hdb_iff]; intro i hi; omega
theorem hdb_s (i : Nat) : hdb ws ps (i + 1) = true ↔ hdb ws ps i = true ∧ (Lo ws ps i → mi ws ps i i 5 = (0, 0, 0, 0)) := by
  rw [hdb_iff, hdb_iff]
  constructor
  · intro h; exact ⟨fun j hj => h j (by omega), h i (by omega)⟩
  · rintro ⟨h1, h2⟩ j hj
    rcases Nat.lt_succ_iff_lt_or_eq.mp hj with h | h
    · exact h1 j h
    · subst h; exact h2
/-- behind i wishes -/
def EI (s : Nat) (g r : M2) (ws : Nat → Nat) (ps : List Nat) (m : Nat) (lk : Bool) (i : Nat) : Prop := (∀ y, y ≠ s → y ≠ s + 5 → r.1 y = g.1 y) ∧ (∀ j, j ≠ 12 → j ≠ 13 → r.1 s j = g.1 s j) ∧ r.1 s 12 = cI (fl (Gz ws ps) i).length ∧ (∀ j, j < i → r.1 (s + 5) j = loI ws ps j) ∧ r.1 s 13 = (if lk && hdb ws ps i then 1 else 0) ∧ (∀ y, ¬ As s y → y ≠ s → r.2 y = g.2 y) ∧ (∀ j, j ≠ 14 → j ≠ 15 → r.2 s j = g.2 s j) ∧ r.2 s 14 = Int64.ofInt (rX ws ps i) ∧ r.2 s 15 = Int64.ofInt (rY ws ps i) ∧ (∀ a c, a ≤ c → c < m → rN r (s + 6 + 1 + (a * 6 + c)) = q64 (mi ws ps (min i a) a c)) ∧ (lk = true → ∀ a, a < m → rN r (s + 6 + 1 + (a * 6 + 5)) = q64 (mi ws ps (min i a) a 5))
theorem rN_uJ (g : M2) (a : Nat) {k : Nat} (hk : 4 ≤ k) (x : Int64) (y : Nat) : rN (uJ g a k x) y = rN g y := by
  unfold rN
  by_cases hy : y = a
  · subst hy
    rw [uJ_k _ _ _ (by omega), uJ_k _ _ _ (by omega), uJ_k _ _ _ (by omega), uJ_k _ _ _ (by omega)]
  · rw [uJ_o _ _ _ hy]
theorem so_elim {g : M2} {s m : Nat} {lk : Bool} (hp : ps.length ≤ 5) (hm5 : m ≤ 5) (h11 : g.1 s 11 = cI m) (h13 : g.1 s 13 = (if lk then 1 else 0)) (hc : ∀ a c, a ≤ c → c < m → rN g (s + 6 + 1 + (a * 6 + c)) = q64 (Gz ws ps a c)) (hc5 : lk = true → ∀ a, a < m → rN g (s + 6 + 1 + (a * 6 + 5)) = q64 (Gx ws ps a 5)) : Ok (f_So_eliminate s g) (fun r => EI s g r ws ps m lk m) := by
  unfold f_So_eliminate
  refine ok_bd (ok_bd (ok_bd ?_))
  refine ok_bindm (Q := fun r => EI s g r ws ps m lk m) ?_ (fun r hr => ok_some hr)
  refine ok_for m (by omega) (fun i z => EI s g z ws ps m lk i) ⟨fun y y1 _ => by rw [uJ_1, uJ_1]; exact uI_o _ _ _ y1, fun j j1 _ => by rw [uJ_1, uJ_1]; exact uI_k _ _ _ j1, by rw [uJ_1, uJ_1, uI_s]; rfl, fun j hj => absurd hj (by omega), by rw [uJ_1, uJ_1, uI_k _ _ _ (by decide), h13, hdb_0, Bool.and_true], fun y _ y2 => by rw [uJ_o _ _ _ y2, uJ_o _ _ _ y2]; rfl, fun j j1 j2 => by rw [uJ_k _ _ _ j2, uJ_k _ _ _ j1]; rfl, by rw [uJ_k _ _ _ (by decide), uJ_s, rXY_0.1]; rfl, by rw [uJ_s, rXY_0.2]; rfl, fun a c h1 h2 => ?_, fun h a ha => ?_⟩ ?_ ?_
  · rw [rN_uJ _ _ (by decide), rN_uJ _ _ (by decide), Nat.zero_min, mi_0, Gx_ne _ _ (by omega)]; exact hc a c h1 h2
  · rw [rN_uJ _ _ (by decide), rN_uJ _ _ (by decide), Nat.zero_min, mi_0]; exact hc5 h a ha
  · rintro i z hi ⟨z1, z2, z3, z4, z5, z6, z7, z8, z9, z10, z11⟩
    have hfl := fl_le (Gz ws ps) i
    show Ok (b_So_eliminate_11 s (cI i) z) _
    unfold b_So_eliminate_11
    rw [z2 11 (by decide) (by decide), h11, ix6]
    refine ok_neg (le_no hi (by omega)) (ok_pos (inb_cI (by omega) (by decide)) (ok_pos (inb_cI (by omega) (by decide)) (ok_bd ?_)))
    show Ok (if inb (cI i) 5 then _ else _) _
    refine ok_pos (inb_cI (by omega) (by decide)) ?_
    rw [cI_nat (a := i * 6 + i) (by omega), cI_nat (a := i) (by omega), nu_isZero]
    have hcell : rN z (s + 6 + 1 + (i * 6 + i)) = q64 (mi ws ps i i i) := by
      have := z10 i i (Nat.le_refl _) hi
      rw [Nat.min_self] at this; exact this
    have hz : rN z (s + 6 + 1 + (i * 6 + i)) = (0, 0, 0, 0) ↔ Lo ws ps i := by
      rw [hcell]
      exact q64_0 (mi_len hp i i i) (Nat.lt_of_le_of_lt (dlen_5 _ (by omega)) (by decide))
    have hlo : ((if rN z (s + 6 + 1 + (i * 6 + i)) = (0, 0, 0, 0) then (1 : Int32) else 0) &&& 1) = loI ws ps i := by
      by_cases hL : Lo ws ps i
      · rw [if_pos (hz.mpr hL), loI_1 hL]; decide
      · rw [if_neg (fun e => hL (hz.mp e)), loI_0 hL]; decide
    rw [hlo, uI_s]
    by_cases hL : Lo ws ps i
    · -- told by others
      rw [loI_1 hL]
      refine ok_neg (by decide) ?_
      rw [uI_o _ _ _ (show s ≠ s + 5 by omega), z5]
      have hfl1 := fl_lost (ws := ws) (ps := ps) (show i < 5 by omega) hL
      have hmin : ∀ a, (mi ws ps (min (i + 1) a)) = (mi ws ps (min i a)) := by
        intro a
        by_cases ha : i + 1 ≤ a
        · rw [Nat.min_eq_left ha, Nat.min_eq_left (by omega)]
          funext r c; exact mi_lost (by omega) hL r c
        · rw [Nat.min_eq_right (by omega), Nat.min_eq_right (by omega)]
      have hrm : rX ws ps (i + 1) = rX ws ps i ∧ rY ws ps (i + 1) = rY ws ps i := by
        unfold rX rY; rw [rm_lost (by omega) hL]; exact ⟨rfl, rfl⟩
      have fin : ∀ x : Int32, x = (if lk && hdb ws ps (i + 1) then 1 else 0) → EI s g (uI (uI z (s + 5) i 1) s 13 x) ws ps m lk (i + 1) := by
        intro x hx
        refine ⟨fun y y1 y2 => ?_, fun j j1 j2 => ?_, ?_, fun j hj => ?_, ?_, z6, z7, by rw [hrm.1]; exact z8, by rw [hrm.2]; exact z9, fun a c h1 h2 => ?_, fun h a ha => ?_⟩
        · rw [uI_o _ _ _ y1, uI_o _ _ _ y2]; exact z1 y y1 y2
        · rw [uI_k _ _ _ j2, uI_o _ _ _ (by omega)]; exact z2 j j1 j2
        · rw [uI_k _ _ _ (by decide), uI_o _ _ _ (by omega), z3, hfl1]
        · rw [uI_o _ _ _ (by omega)]
          by_cases hji : j = i
          · rw [hji, uI_s, loI_1 hL]
          · rw [uI_k _ _ _ hji]; exact z4 j (by omega)
        · rw [uI_s, hx]
        · rw [hmin]; exact z10 a c h1 h2
        · rw [hmin]; exact z11 h a ha
      by_cases hh : (lk && hdb ws ps i) = true
      · rw [if_pos hh]
        rw [Bool.and_eq_true] at hh
        have e5 : cI i * (6 : Int32) + (5 : Int32) = cI (i * 6 + 5) := ix6 i 5
        refine ok_neg (by decide) ?_
        rw [e5]
        refine ok_pos (inb_cI (by omega) (by decide)) ?_
        rw [cI_nat (by omega), nu_isZero]
        have hcell5 : rN (uI z (s + 5) i 1) (s + 6 + 1 + (i * 6 + 5)) = q64 (mi ws ps i i 5) := by
          have := z11 hh.1 i hi
          rw [Nat.min_self] at this; exact this
        have hz5 : rN (uI z (s + 5) i 1) (s + 6 + 1 + (i * 6 + 5)) = (0, 0, 0, 0) ↔ mi ws ps i i 5 = (0, 0, 0, 0) := by
          rw [hcell5]
          exact q64_0 (mi_len hp i i 5) (Nat.lt_of_le_of_lt (dlen_5 _ (by omega)) (by decide))
        by_cases h5 : mi ws ps i i 5 = (0, 0, 0, 0)
        · rw [if_pos (hz5.mpr h5)]
          refine ok_neg (by decide) (ok_bd (ok_some ⟨c_succ i, fin 1 ?_⟩))
          rw [if_pos (by rw [Bool.and_eq_true]; exact ⟨hh.1, (hdb_s i).mpr ⟨hh.2, fun _ => h5⟩⟩)]
        · rw [if_neg (fun e => h5 (hz5.mp e))]
          refine ok_pos rfl (ok_bd (ok_some ⟨c_succ i, fin 0 ?_⟩))
          rw [if_neg (by rw [Bool.and_eq_true]; exact fun e => h5 (((hdb_s i).mp e.2).2 hL))]
      · rw [if_neg hh]
        refine ok_pos rfl (ok_bd (ok_some ⟨c_succ i, fin 0 ?_⟩))
        rw [if_neg (by rw [Bool.and_eq_true]; exact fun e => hh (by rw [Bool.and_eq_true]; exact ⟨e.1, ((hdb_s i).mp e.2).1⟩))]
    · -- a pivot
      rw [loI_0 hL]
      refine ok_pos rfl ?_
      have hfl1 := fl_free (ws := ws) (ps := ps) (show i < 5 by omega) hL
      generalize hb : uI z (s + 5) i 0 = b
      have b1 : ∀ y, y ≠ s + 5 → b.1 y = z.1 y := fun y hy => by rw [← hb]; exact uI_o _ _ _ hy
      have b2 : b.2 = z.2 := by rw [← hb]; rfl
      have b3 : ∀ y, rN b y = rN z y := fun y => by unfold rN; rw [b2]
      rw [c_succ]
      refine ok_bindm (Q := fun r => ∃ E, CN (As s) b r E ∧ (∀ a c, i < a → a ≤ c → c < m → E (s + 6 + 1 + (a * 6 + c)) = q64 (mi ws ps (i + 1) a c)) ∧ (lk = true → ∀ a, i < a → a < m → E (s + 6 + 1 + (a * 6 + 5)) = q64 (mi ws ps (i + 1) a 5)) ∧ ∀ y, y ≤ s + 6 + 1 + (i * 6 + 5) → E y = rN b y) ?_ (fun e11 he11 => ?_)
      · refine ok_forA (i + 1) m (by omega) (by omega) (fun k w => ∃ E, CN (As s) b w E ∧ (∀ a c, i < a → a < k → a ≤ c → c < m → E (s + 6 + 1 + (a * 6 + c)) = q64 (mi ws ps (i + 1) a c)) ∧ (lk = true → ∀ a, i < a → a < k → E (s + 6 + 1 + (a * 6 + 5)) = q64 (mi ws ps (i + 1) a 5)) ∧ (∀ y, y < s + 64 → ¬ (s + 6 + 1 + (i + 1) * 6 ≤ y ∧ y < s + 6 + 1 + k * 6) → E y = rN b y)) ⟨_, CN_rf _ b, fun a c _ h2 => absurd h2 (by omega), fun _ a _ h2 => absurd h2 (by omega), fun _ _ _ => rfl⟩ ?_ ?_
        · rintro k w hk1 hk ⟨E, hE, hE1, hE2, hE3⟩
          show Ok (b_So_eliminate_58 s (cI i) _ (cI k) w) _
          unfold b_So_eliminate_58
          rw [hE.1, b1 s (by omega), z2 11 (by decide) (by decide), h11]
          refine ok_neg (le_no hk (by omega)) ?_
          have hrow : ∀ a c, a ≤ c → c < m → i ≤ a → rN b (s + 6 + 1 + (a * 6 + c)) = q64 (mi ws ps i a c) := fun a c h1 h2 h3 => by
            rw [b3, z10 a c h1 h2, Nat.min_eq_left h3]
          have hrow5 : lk = true → ∀ a, a < m → i ≤ a → rN b (s + 6 + 1 + (a * 6 + 5)) = q64 (mi ws ps i a 5) := fun hl a h2 h3 => by
            rw [b3, z11 hl a h2, Nat.min_eq_left h3]
          refine ok_bindm (so_lower hE hp hm5 (lk := lk) (by rw [b1 s (by omega), z2 11 (by decide) (by decide)]; exact h11) (i := i) (a := k) (by omega) hk hL (by rw [b1 s (by omega)]; exact z3) (by rw [b2]; exact z8) (by rw [b2]; exact z9) (fun c k1 k2 => by rw [hE3 _ (by omega) (by omega)]; exact hrow i c k1 k2 (Nat.le_refl _)) (fun hl => by rw [hE3 _ (by omega) (by omega)]; exact hrow5 hl i (by omega) (Nat.le_refl _)) (fun c k1 k2 => by rw [hE3 _ (by omega) (by omega)]; exact hrow k c k1 k2 (by omega)) (fun hl => by rw [hE3 _ (by omega) (by omega)]; exact hrow5 hl k hk (by omega))) (fun r hr => ?_)
          obtain ⟨E', hE', hEa, hEb, hEc⟩ := hr
          refine ok_some ⟨c_succ k, E', hE', fun a c k1 k2 k3 k4 => ?_, fun hl a k1 k2 => ?_, fun y y1 y2 => ?_⟩
          · by_cases hak : a = k
            · subst hak; exact hEa c k3 k4
            · rw [hEc _ (by omega) (by omega) (by omega)]; exact hE1 a c k1 (by omega) k3 k4
          · by_cases hak : a = k
            · subst hak; exact hEb hl
            · rw [hEc _ (by omega) (by omega) (by omega)]; exact hE2 hl a k1 (by omega)
          · rw [hEc _ (by omega) (by omega) (by omega)]; exact hE3 y y1 (by omega)
        · rintro w ⟨E, hE, hE1, hE2, hE3⟩
          show Ok (b_So_eliminate_58 s (cI i) _ (cI m) w) _
          unfold b_So_eliminate_58
          rw [hE.1, b1 s (by omega), z2 11 (by decide) (by decide), h11]
          exact ok_pos (le_yes (Nat.le_refl _) (by omega)) (ok_some ⟨E, hE, fun a c k1 k2 k3 => hE1 a c k1 (by omega) k2 k3, fun hl a k1 k2 => hE2 hl a k1 k2, fun y hy => hE3 y (by omega) (by omega)⟩)
      · obtain ⟨E, hE, hE1, hE2, hE3⟩ := he11
        refine ok_bd (ok_bd (ok_bd (ok_some ⟨rfl, ?_⟩)))
        have hpv : rN e11 (s + 6 + 1 + (i * 6 + i)) = q64 (mi ws ps i i i) := by rw [hE.2.2.2, hE3 _ (by omega), b3]; exact hcell
        have hx : f_Nu_realX (s + 6 + 1 + (i * 6 + i)) (uI e11 s 12 (e11.1 s 12 + 1)) = Int64.ofInt (rX ws ps (i + 1)) := by
          show (rN e11 (s + 6 + 1 + (i * 6 + i))).1 = _
          rw [hpv]
          unfold rX
          rw [rm_free (by omega) hL]; rfl
        have hy : f_Nu_realY (s + 6 + 1 + (i * 6 + i)) (uJ (uI e11 s 12 (e11.1 s 12 + 1)) s 14 (f_Nu_realX (s + 6 + 1 + (i * 6 + i)) (uI e11 s 12 (e11.1 s 12 + 1)))) = Int64.ofInt (rY ws ps (i + 1)) := by
          show -(rN (uJ (uI e11 s 12 (e11.1 s 12 + 1)) s 14 _) (s + 6 + 1 + (i * 6 + i))).2.2.2 = _
          rw [rN_uJ _ _ (by decide)]
          show -(rN e11 (s + 6 + 1 + (i * 6 + i))).2.2.2 = _
          rw [hpv]
          unfold rY
          rw [rm_free (by omega) hL, Int64.ofInt_neg]; rfl
        rw [hy, hx]
        refine ⟨fun y y1 y2 => ?_, fun j j1 j2 => ?_, ?_, fun j hj => ?_, ?_, fun y y1 y2 => ?_, fun j j1 j2 => ?_, ?_, ?_, fun a c h1 h2 => ?_, fun h a ha => ?_⟩
        · rw [uJ_1, uJ_1, uI_o _ _ _ y1, hE.1, b1 y y2]; exact z1 y y1 y2
        · rw [uJ_1, uJ_1, uI_k _ _ _ j1, hE.1, b1 s (by omega)]; exact z2 j j1 j2
        · rw [uJ_1, uJ_1, uI_s, hE.1, b1 s (by omega), z3, hfl1]; exact c_succ _
        · rw [uJ_1, uJ_1, uI_o _ _ _ (by omega), hE.1]
          by_cases hji : j = i
          · rw [hji, ← hb, uI_s, loI_0 hL]
          · rw [← hb, uI_k _ _ _ hji]; exact z4 j (by omega)
        · rw [uJ_1, uJ_1, uI_k _ _ _ (by decide), hE.1, b1 s (by omega), z5]
          have : hdb ws ps (i + 1) = hdb ws ps i := by
            have h1 := hdb_s (ws := ws) (ps := ps) i
            by_cases hh : hdb ws ps i = true
            · rw [hh]; exact h1.mpr ⟨hh, fun h => absurd h hL⟩
            · rw [Bool.eq_false_iff.mpr hh]
              exact Bool.eq_false_iff.mpr (fun e => hh (h1.mp e).1)
          rw [this]
        · rw [uJ_o _ _ _ y2, uJ_o _ _ _ y2, uI_2, hE.2.1 y y1, b2]; exact z6 y y1 y2
        · rw [uJ_k _ _ _ j2, uJ_k _ _ _ j1, uI_2, hE.2.1 s (by show ¬ (_ ∧ _); omega), b2]; exact z7 j j1 j2
        · rw [uJ_k _ _ _ (by decide), uJ_s]
        · rw [uJ_s]
        · rw [rN_uJ _ _ (by decide), rN_uJ _ _ (by decide)]
          show rN e11 _ = _
          rw [hE.2.2.2]
          by_cases hai : i < a
          · rw [hE1 a c hai h1 h2, Nat.min_eq_left (by omega)]
          · rw [hE3 _ (by omega), b3, z10 a c h1 h2, Nat.min_eq_right (by omega), Nat.min_eq_right (by omega)]
        · rw [rN_uJ _ _ (by decide), rN_uJ _ _ (by decide)]
          show rN e11 _ = _
          rw [hE.2.2.2]
          by_cases hai : i < a
          · rw [hE2 h a hai ha, Nat.min_eq_left (by omega)]
          · rw [hE3 _ (by omega), b3, z11 h a ha, Nat.min_eq_right (by omega), Nat.min_eq_right (by omega)]
  · rintro z hz
    show Ok (b_So_eliminate_11 s (cI m) z) _
    unfold b_So_eliminate_11
    rw [hz.2.1 11 (by decide) (by decide), h11]
    exact ok_pos (le_yes (Nat.le_refl _) (by omega)) (ok_some hz)
end
