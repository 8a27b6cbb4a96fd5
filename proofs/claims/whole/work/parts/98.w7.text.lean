/-! lines one after another -/
def rd (T : List Nat) : Nat → Sg → Nat → Sg ⊕ (Nat × Nat)
  | 0, d, _ => .inl d
  | k + 1, d, a => if (tk T a).2.2.1 = 0 then .inl d else Sum.elim (fun p => rd T k p.1 p.2) Sum.inr (lnX T d a)
theorem num_in {t : Nat × Nat × Nat × Nat} {lo hi : Nat} {K : Nat → Rs} {p : Sg × Nat} (h : numE t lo hi K = .inl p) : lo ≤ t.2.2.2 ∧ t.2.2.2 ≤ hi ∧ K t.2.2.2 = .inl p := by
  unfold numE at h
  by_cases c1 : t.2.2.1 = 2
  · rw [if_pos c1] at h
    by_cases c2 : lo ≤ t.2.2.2 ∧ t.2.2.2 ≤ hi
    · rw [if_pos c2] at h; exact ⟨c2.1, c2.2, h⟩
    · rw [if_neg c2] at h; cases h
  · rw [if_neg c1] at h; cases h
theorem sg_in {T : List Nat} {d : Sg} {b : Nat} {p : Sg × Nat} (hb : b ≤ T.length) (h : sgE T d b = .inl p) : p.1 = dl d ∧ b < p.2 ∧ p.2 ≤ T.length := by
  unfold sgE at h
  have ht := tk_in hb
  by_cases c1 : (tk T b).2.2.1 = 3
  · rw [if_pos c1] at h
    cases h
    exact ⟨rfl, Nat.lt_of_le_of_lt ht.1 (ht.2.2.2.2 (by omega)), ht.2.2.1⟩
  · rw [if_neg c1] at h; cases h
/-- a draft, and what stays beside it -/
def DI (d : Sg) (o : List Nat) : Prop := WF d ∧ st d = [] ∧ sf d = 0 ∧ sP d = -1 ∧ so d = o
theorem DI_set {d d2 : Sg} {o : List Nat} (h : DI d o) (h1 : sn d2 ≤ 5) (h2 : ∀ e, e < sn d2 → sp d2 e < 12) (h3 : ∀ e f, e < sn d2 → f < sn d2 → sp d2 e = sp d2 f → e = f) (h4 : sb d2 < 2 ^ sn d2) (h5 : ∀ k, sl d2 = some k → k < 12 ∧ k ∉ sd d2) (h6 : (sd d2).length ≤ 4) (h7 : ∀ k ∈ sd d2, k < 12) (h8 : (sd d2).Nodup) (h9 : ss d2 ≤ 99) (h10 : 0 < ss d2) (h11 : sL d2 = sL d + 1) (h12 : sL d + 1 ≤ 300) (e1 : st d2 = st d) (e2 : sf d2 = sf d) (e3 : sP d2 = sP d) (e4 : so d2 = so d) : DI d2 o := by
  obtain ⟨w, k1, k2, k3, k4⟩ := h
  refine ⟨⟨h1, h2, h3, h4, h5, h6, h7, h8, h9, ⟨fun e => by omega, fun e => by omega⟩, by omega, fun e => by omega, ?_⟩, e1.trans k1, e2.trans k2, e3.trans k3, e4.trans k4⟩
  rw [e1, e2, e4]
  exact w.2.2.2.2.2.2.2.2.2.2.2.2
theorem ln_in {T : List Nat} {d : Sg} {a : Nat} {p : Sg × Nat} {o : List Nat} (hT : TT T) (ha : a ≤ T.length) (hL : sL d ≤ a) (hI : DI d o) (h : lnX T d a = .inl p) : a < p.2 ∧ p.2 ≤ T.length ∧ sL p.1 ≤ p.2 ∧ DI p.1 o := by
  have ht := tk_in ha
  have hT3 := hT.1
  have ht2 := tk_in ht.2.2.1
  obtain ⟨w1, w2, w3, w4, w5, w6, w7, w8, w9, w10, w11, w12, _⟩ := hI.1
  have fin : ∀ d2 b, b ≤ T.length → a ≤ b → sgE T d2 b = .inl p → sL d2 = sL d → (sL d + 1 ≤ 300 → DI (dl d2) o) → a < p.2 ∧ p.2 ≤ T.length ∧ sL p.1 ≤ p.2 ∧ DI p.1 o := by
    intro d2 b hb hab hs e hD
    obtain ⟨s1, s2, s3⟩ := sg_in hb hs
    rw [s1]
    have e2 : sL (dl d2) = sL d + 1 := by show sL d2 + 1 = _; rw [e]
    exact ⟨by omega, s3, by omega, hD (by omega)⟩
  unfold lnX at h
  by_cases c0 : sL d = 0
  · rw [if_pos c0] at h
    unfold ln1 at h
    obtain ⟨z1, z2, z3⟩ := w12 c0
    by_cases c1 : Isw T (tk T a) (mm_tx 1003)
    · rw [if_pos c1] at h
      by_cases c2 : Isw T (tk T (tk T a).2.1) (mm_tx 1004)
      · rw [if_pos c2] at h
        have ht3 := tk_in ht2.2.2.1
        obtain ⟨n1, n2, n3⟩ := num_in h
        refine fin _ _ ht3.2.2.1 (by omega) n3 rfl (fun h12 => DI_set hI w1 w2 w3 w4 w5 w6 w7 w8 n2 n1 rfl h12 rfl rfl rfl rfl)
      · rw [if_neg c2] at h; cases h
    · rw [if_neg c1] at h; cases h
  · rw [if_neg c0] at h
    have s0 : 0 < ss d := by
      rcases Nat.eq_zero_or_pos (ss d) with e | e
      · exact absurd (w10.mp e) c0
      · exact e
    have hE : ∀ b, lnE T d a b = .inl p → a < p.2 ∧ p.2 ≤ T.length ∧ sL p.1 ≤ p.2 ∧ DI p.1 o := by
      intro b h
      unfold lnE at h
      by_cases c5 : sn d = 5
      · rw [if_pos c5] at h; cases h
      · rw [if_neg c5] at h
        obtain ⟨n1, n2, n3⟩ := num_in h
        by_cases c6 : hasp d (tk T (tk T a).2.1).2.2.2 = true
        · rw [if_pos c6] at n3; cases n3
        · rw [if_neg c6] at n3
          have hne : ∀ e, e < sn d → sp d e ≠ (tk T (tk T a).2.1).2.2.2 := fun e he hh => c6 ((hasp_iff _ _).mpr ⟨e, he, hh⟩)
          refine fin _ _ ht2.2.2.1 (by omega) n3 rfl (fun h12 => DI_set hI (show sn d + 1 ≤ 5 by omega) (fun e he => ?_) (fun e f he hf hef => ?_) ?_ w5 w6 w7 w8 w9 s0 rfl h12 rfl rfl rfl rfl)
          · have he2 : e < sn d + 1 := he
            show updN (sp d) (sn d) _ e < 12
            by_cases hen : e = sn d
            · rw [hen, updN_s]; omega
            · rw [updN_o _ _ hen]; exact w2 e (by omega)
          · have he2 : e < sn d + 1 := he
            have hf2 : f < sn d + 1 := hf
            have hef2 : updN (sp d) (sn d) (tk T (tk T a).2.1).2.2.2 e = updN (sp d) (sn d) (tk T (tk T a).2.1).2.2.2 f := hef
            by_cases hen : e = sn d
            · by_cases hfn : f = sn d
              · omega
              · rw [hen, updN_s, updN_o _ _ hfn] at hef2
                exact absurd hef2.symm (hne f (by omega))
            · by_cases hfn : f = sn d
              · rw [hfn, updN_s, updN_o _ _ hen] at hef2
                exact absurd hef2 (hne e (by omega))
              · rw [updN_o _ _ hen, updN_o _ _ hfn] at hef2
                exact w3 e f (by omega) (by omega) hef2
          · show (if b then sb d ||| 2 ^ sn d else sb d) < 2 ^ (sn d + 1)
            have hp : 2 ^ (sn d + 1) = 2 * 2 ^ sn d := by rw [Nat.pow_succ, Nat.mul_comm]
            cases b with
            | false => show sb d < _; omega
            | true => show sb d ||| 2 ^ sn d < _; exact Nat.or_lt_two_pow (by omega) (by omega)
    have hW : ∀ (hv : ¬ ((tk T (tk T a).2.1).2.2.2 ∈ sd d ∨ sl d = some (tk T (tk T a).2.1).2.2.2)), (tk T (tk T a).2.1).2.2.2 ∉ sd d ∧ sl d ≠ some (tk T (tk T a).2.1).2.2.2 := fun hv => ⟨fun e => hv (Or.inl e), fun e => hv (Or.inr e)⟩
    by_cases c5 : Isw T (tk T a) (mm_tx 1005)
    · rw [if_pos c5] at h; exact hE _ h
    · rw [if_neg c5] at h
      by_cases c6 : Isw T (tk T a) (mm_tx 1006)
      · rw [if_pos c6] at h; exact hE _ h
      · rw [if_neg c6] at h
        by_cases c7 : Isw T (tk T a) (mm_tx 1007)
        · rw [if_pos c7] at h
          unfold lnK at h
          by_cases c9 : (sl d).isSome = true
          · rw [if_pos c9] at h; cases h
          · rw [if_neg c9] at h
            obtain ⟨n1, n2, n3⟩ := num_in h
            by_cases c10 : (tk T (tk T a).2.1).2.2.2 ∈ sd d ∨ sl d = some (tk T (tk T a).2.1).2.2.2
            · rw [if_pos c10] at n3; cases n3
            · rw [if_neg c10] at n3
              refine fin _ _ ht2.2.2.1 (by omega) n3 rfl (fun h12 => DI_set hI w1 w2 w3 w4 (fun k hk => ?_) w6 w7 w8 w9 s0 rfl h12 rfl rfl rfl rfl)
              have hk2 : some (tk T (tk T a).2.1).2.2.2 = some k := hk
              cases hk2
              exact ⟨by omega, (hW c10).1⟩
        · rw [if_neg c7] at h
          by_cases c8 : Isw T (tk T a) (mm_tx 1008)
          · rw [if_pos c8] at h
            unfold lnD at h
            by_cases c9 : (sd d).length = 4
            · rw [if_pos c9] at h; cases h
            · rw [if_neg c9] at h
              obtain ⟨n1, n2, n3⟩ := num_in h
              by_cases c10 : (tk T (tk T a).2.1).2.2.2 ∈ sd d ∨ sl d = some (tk T (tk T a).2.1).2.2.2
              · rw [if_pos c10] at n3; cases n3
              · rw [if_neg c10] at n3
                refine fin _ _ ht2.2.2.1 (by omega) n3 rfl (fun h12 => DI_set hI w1 w2 w3 w4 (fun k hk => ?_) ?_ (fun k hk => ?_) ?_ w9 s0 rfl h12 rfl rfl rfl rfl)
                · refine ⟨(w5 k hk).1, fun hm => ?_⟩
                  rcases List.mem_append.mp hm with hm | hm
                  · exact (w5 k hk).2 hm
                  · rw [List.mem_singleton.mp hm] at hk; exact (hW c10).2 hk
                · show (sd d ++ [_]).length ≤ 4
                  rw [List.length_append]
                  show (sd d).length + 1 ≤ 4
                  omega
                · rcases List.mem_append.mp hk with hm | hm
                  · exact w7 k hm
                  · rw [List.mem_singleton.mp hm]; omega
                · show (sd d ++ [_]).Nodup
                  refine List.nodup_append.mpr ⟨w8, by simp, fun x hx y hy => ?_⟩
                  rw [List.mem_singleton.mp hy]
                  exact fun e => (hW c10).1 (e ▸ hx)
          · rw [if_neg c8] at h; cases h
/-- what the class has at the end of a text -/
def OT (r : M2) (R : Sg ⊕ (Nat × Nat)) (o : List Nat) : Prop := Sum.elim (fun d => DC r d ∧ r.1 1 7 = 0 ∧ r.1 1 8 = -1 ∧ DI d o) (fun e => r.1 1 7 = cI e.1 ∧ r.1 1 8 = cI e.2 ∧ 0 < e.1 ∧ e.1 ≤ 3) R
theorem re_loop {T : List Nat} {o : List Nat} (hT : TT T) : ∀ k n v d a g, GC g T d a → DI d o → sL d ≤ a → T.length - a < k → v + (T.length - a) ≤ 300 → k < n → Ok (lp (fun s : Int32 × M2 => b_Re_readText_16 s.1 s.2) n (cI v, g)) (fun r => OT r (rd T k d a) o ∧ FR3 g r) := by
  intro k
  induction k with
  | zero => intro n v d a g _ _ _ h; omega
  | succ k ih =>
    intro n v d a g hG hI hL hk hv hn
    obtain ⟨m, rfl⟩ : ∃ m, n = m + 1 := ⟨n - 1, by omega⟩
    have ha := hG.2.2.1
    have ht := tk_in ha
    have hT3 := hT.1
    refine ok_lpO ?_
    show Ok (b_Re_readText_16 (cI v) g) _
    unfold b_Re_readText_16
    rw [hG.2.1.2.2.1, hG.2.2.2.1.2.2]
    refine ok_neg (lt_no (a := 300) (b := v) (by omega) (by decide)) (ok_pos hG.2.2.2.2.1 (ok_if (fun c => ?_) (fun c => ?_)))
    · have c1 : (tk T a).2.2.1 = 0 := (cI_inj (b := 0) (by omega) (by decide)).mp c
      refine ok_some ?_
      show OT g (rd T (k + 1) d a) o ∧ FR3 g g
      unfold rd
      rw [if_pos c1]
      exact ⟨⟨hG.2.2.2.1, hG.2.2.2.2.1, hG.2.2.2.2.2, hI⟩, FR3_rf g⟩
    · have c1 : ¬ (tk T a).2.2.1 = 0 := fun e => c (by rw [e]; rfl)
      have er : rd T (k + 1) d a = Sum.elim (fun p => rd T k p.1 p.2) Sum.inr (lnX T d a) := by
        unfold rd
        rw [if_neg c1]
        cases k <;> rfl
      have go : ∀ z, OC z T (lnX T d a) ∧ FR3 g z → Ok (lp (fun s : Int32 × M2 => b_Re_readText_16 s.1 s.2) m (cI v + 1, z)) (fun r => OT r (rd T (k + 1) d a) o ∧ FR3 g r) := by
        rintro z ⟨z1, z2⟩
        rw [er, c_succ]
        cases hR : lnX T d a with
        | inl p =>
          rw [hR] at z1
          obtain ⟨q1, q2, q3, q4⟩ := ln_in hT ha hL hI hR
          exact ok_mono (ih m (v + 1) p.1 p.2 z z1 q4 q3 (by omega) (by omega) (by omega)) (fun r hr => ⟨hr.1, FR3_tr z2 hr.2⟩)
        | inr e =>
          rw [hR] at z1
          have hB : BC z T e.1 e.2 := z1
          obtain ⟨m2, rfl⟩ : ∃ m2, m = m2 + 1 := ⟨m - 1, by omega⟩
          refine ok_lpO ?_
          show Ok (b_Re_readText_16 (cI (v + 1)) z) _
          unfold b_Re_readText_16
          exact ok_if (fun _ => ok_some ⟨⟨hB.2.2.1, hB.2.2.2.1, hB.2.2.2.2⟩, z2⟩) (fun _ => ok_neg (bc_no hB) (ok_some ⟨⟨hB.2.2.1, hB.2.2.2.1, hB.2.2.2.2⟩, z2⟩))
      refine ok_if (fun c2 => ?_) (fun c2 => ?_)
      · have c3 : sL d = 0 := (cI_inj (b := 0) (by omega) (by decide)).mp c2
        have e1 : lnX T d a = ln1 T d a := by unfold lnX; rw [if_pos c3]
        refine ok_bindm (re_l1 hT hG) (fun r hr => ok_bindm (re_sX hT hr) (fun z hz => ok_some ?_))
        rw [← e1] at hz
        exact go z hz
      · have c3 : ¬ sL d = 0 := fun e => c2 (by rw [e]; rfl)
        exact ok_bindm (re_ln hT hG c3) (fun r hr => ok_bindm (re_sX hT hr) (fun z hz => ok_some (go z hz)))
