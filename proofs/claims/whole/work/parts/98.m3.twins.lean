/-! twins, sets -/
theorem rz12 : ∀ n : Nat, n < 243 → ((Int32.ofInt ((n : Int) - 121) - Int32.ofInt ((n : Int) - 121) / (12 : Int32) * (12 : Int32) = 0) ↔ ((n : Int) - 121) % 12 = 0) := by decide +kernel
def tz (k o p h : Nat) : Bool := decide ((((k : Int) - o) * ((p : Int) - h)) % 12 = 0)
theorem tz_I {k o p h : Nat} (hk : k < 12) (ho : o < 12) (hp : p < 12) (hh : h < 12) : ((cI k - cI o) * (cI p - cI h)) - ((cI k - cI o) * (cI p - cI h)) / (12 : Int32) * (12 : Int32) = 0 ↔ tz k o p h = true := by
  rw [c_sub, c_sub, ← Int32.ofInt_mul]
  have b1 := mul_b (a := (k : Int)) (b := (p : Int) - h) (A := 11) (B := 11) (by omega) (by omega) (by omega) (by omega)
  have b2 := mul_b (a := (o : Int)) (b := (p : Int) - h) (A := 11) (B := 11) (by omega) (by omega) (by omega) (by omega)
  have hz : -121 ≤ ((k : Int) - o) * ((p : Int) - h) ∧ ((k : Int) - o) * ((p : Int) - h) ≤ 121 := by
    by_cases hko : o ≤ k
    · have := mul_b (a := (k : Int) - o) (b := (p : Int) - h) (A := 11) (B := 11) (by omega) (by omega) (by omega) (by omega)
      omega
    · have := mul_b (a := (o : Int) - k) (b := (p : Int) - h) (A := 11) (B := 11) (by omega) (by omega) (by omega) (by omega)
      have e : ((k : Int) - o) * ((p : Int) - h) = -(((o : Int) - k) * ((p : Int) - h)) := by grind
      omega
  unfold tz
  rw [decide_eq_true_iff]
  generalize ((k : Int) - o) * ((p : Int) - h) = z at hz ⊢
  have := rz12 (z + 121).toNat (by omega)
  rw [show (((z + 121).toNat : Nat) : Int) - 121 = z by omega] at this
  exact this
theorem tz_sw (k o p h : Nat) : tz o k p h = tz k o p h := by
  unfold tz
  have e : ((o : Int) - k) * ((p : Int) - h) = -(((k : Int) - o) * ((p : Int) - h)) := by grind
  rw [e]
  congr 1
  generalize ((k : Int) - o) * ((p : Int) - h) = z
  apply propext
  omega
theorem tz_h (k o p : Nat) : tz k o p p = true := by
  unfold tz
  rw [Int.sub_self, Int.mul_zero]; rfl
/-- twins by the positions that work -/
def twl (ps : List Nat) (k o : Nat) : Bool := ps.all (fun p => tz k o p (ps.headD 0))
theorem wkl_pre (pos : Nat → Nat) (br : Nat) {e : Nat} : ∀ n, e ≤ n → ∃ t, wkl pos br n = wkl pos br e ++ t := by
  intro n
  induction n with
  | zero => intro h; exact ⟨[], by rw [show e = 0 by omega]; rfl⟩
  | succ n ih =>
    intro h
    by_cases he : e = n + 1
    · exact ⟨[], by rw [he, List.append_nil]⟩
    · obtain ⟨t, ht⟩ := ih (by omega)
      rw [wkl_s]
      by_cases hb : br.testBit n = true
      · rw [if_pos hb]; exact ⟨t, ht⟩
      · rw [if_neg hb]; exact ⟨t ++ [pos n], by rw [ht, List.append_assoc]⟩
def fsI : List Nat → Int32
  | [] => -1
  | p :: _ => cI p
theorem fs_no : ∀ k : Nat, k < 12 → ¬ (cI k = (-1 : Int32)) := by decide +kernel
theorem pl_areTwins {g : M2} {p n : Nat} {pos : Nat → Nat} {br : Nat} {lk : Option Nat} {ds : List Nat} (hP : PL g p n pos br lk ds) {k o : Nat} (hk : k < 12) (ho : o < 12) : f_Pl_areTwins p (cI k) (cI o) g = some (if twl (wkl pos br n) k o then 1 else 0) := by
  obtain ⟨h1, h2, h3, h4, h5, -, -, -, -, -⟩ := hP
  refine ok_to ?_
  unfold f_Pl_areTwins
  refine ok_bindm (Q := fun u => Sum.elim (fun _ => (1 : Int32)) (fun r => r) u = (if twl (wkl pos br n) k o then 1 else 0)) ?_ (fun u hu => ?_)
  · refine ok_lp (fun e st => st = (fsI (wkl pos br e), cI e) ∧ ∀ p ∈ wkl pos br e, tz k o p ((wkl pos br e).headD 0) = true) n 5000 0 _ (by omega) (by omega) ⟨rfl, fun p hp => absurd hp (by simp [wkl])⟩ ?_
    rintro e st he ⟨rfl, hall⟩
    show Ok (b_Pl_areTwins_4 p (cI k) (cI o) (fsI (wkl pos br e)) (cI e) g) _
    unfold b_Pl_areTwins_4
    rw [h1]
    by_cases hen : e = n
    · subst hen
      refine ok_pos (le_yes (Nat.le_refl _) (by omega)) (ok_some ?_)
      show (1 : Int32) = _
      rw [if_pos]
      exact List.all_eq_true.mpr (fun x hx => hall x hx)
    · have he' : e < n := by omega
      refine ok_neg (le_no he' (by omega)) ?_
      rw [pl_works h4 h5 (by omega)]
      by_cases hb : br.testBit e = true
      · rw [if_pos hb]
        refine ok_pos rfl (ok_some ⟨he', ?_, ?_⟩)
        · rw [wkl_s, if_pos hb, c_succ]
        · rw [wkl_s, if_pos hb]; exact hall
      · rw [if_neg hb]
        refine ok_neg (by decide) ?_
        have hpe := (h3 e he').2
        have ie : inb (cI e) 5 := inb_cI (by omega) (by decide)
        have hs : wkl pos br (e + 1) = wkl pos br e ++ [pos e] := by rw [wkl_s, if_neg hb]
        cases hw : wkl pos br e with
        | nil =>
          refine ok_pos rfl (ok_pos ie ?_)
          unfold j_Pl_areTwins_20
          refine ok_pos ie ?_
          rw [cI_nat (by omega), (h3 e he').1]
          refine (ok_pos ((tz_I hk ho hpe hpe).mpr (tz_h k o _)) (ok_some ⟨he', ?_, ?_⟩))
          · rw [hs, hw, c_succ]; rfl
          · rw [hs, hw]
            intro x hx
            have : x = pos e := by simpa using hx
            rw [this]
            exact tz_h k o _
        | cons a t =>
          have ha : a < 12 := wkl_lt pos br (e := e) (fun i hi => (h3 i (by omega)).2) a (by rw [hw]; exact List.mem_cons_self ..)
          refine ok_neg (fs_no a ha) ?_
          unfold j_Pl_areTwins_20
          refine ok_pos ie ?_
          rw [cI_nat (by omega), (h3 e he').1]
          refine (ok_if (fun c => ok_some ⟨he', ?_, ?_⟩) (fun c => ok_some ?_))
          · rw [hs, hw, c_succ]; rfl
          · rw [hs]
            intro x hx
            rw [hw] at hx ⊢
            show tz k o x a = true
            rcases List.mem_append.mp hx with hx | hx
            · have := hall x (by rw [hw]; exact hx)
              rw [hw] at this
              exact this
            · have : x = pos e := by simpa using hx
              rw [this]
              exact (tz_I hk ho hpe ha).mp c
          · show (0 : Int32) = _
            rw [if_neg]
            intro hall2
            refine c ((tz_I hk ho hpe ha).mpr ?_)
            have h6 := List.all_eq_true.mp hall2 (pos e) (wk_mem he' hb)
            obtain ⟨t2, ht2⟩ := wkl_pre pos br (e := e) n he
            rw [ht2, hw] at h6
            exact h6
  · cases u with
    | inl e => exact ok_some hu
    | inr e => exact ok_some hu
theorem pl_twinBits {g : M2} {p n : Nat} {pos : Nat → Nat} {br : Nat} {lk : Option Nat} {ds : List Nat} (hP : PL g p n pos br lk ds) {k : Nat} (hk : k < 12) : f_Pl_twinBits p (cI k) g = some (cI (bm (twl (wkl pos br n) k) 12)) := by
  refine ok_to ?_
  unfold f_Pl_twinBits
  refine ok_bindm (Q := fun r => r = cI (bm (twl (wkl pos br n) k) 12)) ?_ (fun r hr => ok_some hr)
  refine ok_ct (fun j => (cI (bm (twl (wkl pos br n) k) j), cI j)) 12 (by decide) rfl (fun j hj => ?_) ?_
  · show Ok (b_Pl_twinBits_4 p (cI k) (cI (bm (twl (wkl pos br n) k) j)) (cI j) g) _
    unfold b_Pl_twinBits_4
    refine ok_neg (le_no (a := 12) hj (by decide)) (ok_binde (pl_areTwins hP hk hj) (ok_grd rfl (fun c => ok_some ?_) (fun c => ok_some ?_)))
    · show _ = (cI (bm (twl (wkl pos br n) k) (j + 1)), cI (j + 1))
      rw [bm_n _ c, c_succ]
    · show _ = (cI (bm (twl (wkl pos br n) k) (j + 1)), cI (j + 1))
      rw [bm_s _ hj c, c_succ]
  · show Ok (b_Pl_twinBits_4 p (cI k) (cI (bm (twl (wkl pos br n) k) 12)) (cI 12) g) _
    unfold b_Pl_twinBits_4
    exact ok_pos (le_yes (a := 12) (Nat.le_refl _) (by decide)) (ok_some rfl)
theorem all_app1 (f : Nat → Bool) (l : List Nat) (a : Nat) : (l ++ [a]).all f = (l.all f && f a) := by
  rw [List.all_append]; simp
theorem mo_twinsOf {g : M2} {q : Sg} (hw : WF q) (h : WD g q) {k : Nat} (hk : k < 12) : f_Mo_twinsOf (cI k) g = some (cI (bm (twl (qp q) k) 12)) := by
  have hn := hw.1
  refine ok_to ?_
  unfold f_Mo_twinsOf
  refine ok_bindm (Q := fun v => (v = -1 ∧ qp q = []) ∨ ∃ e0, e0 < sn q ∧ v = cI e0 ∧ (qp q).headD 0 = sp q e0) ?_ (fun v hv => ?_)
  · refine ok_lp (fun e st => (st = ((-1 : Int32), cI e) ∧ wkl (sp q) (sb q) e = []) ∨ ∃ e0, e0 < sn q ∧ st = (cI e0, cI e) ∧ (qp q).headD 0 = sp q e0) (sn q) 5000 0 _ (by omega) (by omega) (Or.inl ⟨rfl, rfl⟩) ?_
    rintro e st he hI
    rcases hI with ⟨rfl, hwk⟩ | ⟨e0, he0, rfl, hh⟩
    · show Ok (b_Mo_twinsOf_6 (cI k) (0 : Int32) (-1 : Int32) (cI e) g) _
      unfold b_Mo_twinsOf_6
      rw [h.2.1]
      by_cases hen : e = sn q
      · subst hen
        exact ok_pos (le_yes (Nat.le_refl _) (by omega)) (ok_some (Or.inl ⟨rfl, hwk⟩))
      · have he' : e < sn q := by omega
        refine ok_neg (le_no he' (by omega)) (ok_pos rfl (ok_binde (mo_isBroken h he' hn) ?_))
        by_cases hb : (sb q).testBit e = true
        · rw [if_pos hb]
          refine ok_neg (by decide) (ok_some ⟨he', Or.inl ⟨by rw [c_succ], ?_⟩⟩)
          rw [wkl_s, if_pos hb]; exact hwk
        · rw [if_neg hb]
          refine ok_pos rfl (ok_some ⟨he', Or.inr ⟨e, he', by rw [c_succ], ?_⟩⟩)
          obtain ⟨t, ht⟩ := wkl_pre (sp q) (sb q) (e := e + 1) (sn q) (by omega)
          show (wkl (sp q) (sb q) (sn q)).headD 0 = sp q e
          rw [ht, wkl_s, if_neg hb, hwk]; rfl
    · show Ok (b_Mo_twinsOf_6 (cI k) (0 : Int32) (cI e0) (cI e) g) _
      unfold b_Mo_twinsOf_6
      rw [h.2.1]
      by_cases hen : e = sn q
      · subst hen
        exact ok_pos (le_yes (Nat.le_refl _) (by omega)) (ok_some (Or.inr ⟨e0, he0, rfl, hh⟩))
      · exact ok_neg (le_no (show e < sn q by omega) (by omega)) (ok_neg (fs_no e0 (by omega)) (ok_some (Or.inr ⟨e0, he0, rfl, hh⟩)))
  · unfold j_Mo_twinsOf_25
    refine ok_bindm (Q := fun r => r = cI (bm (twl (qp q) k) 12)) ?_ (fun r hr => ok_some hr)
    refine ok_ct (fun j => (cI (bm (twl (qp q) k) j), cI j)) 12 (by decide) rfl (fun j hj => ?_) ?_
    · show Ok (b_Mo_twinsOf_27 (cI k) v (cI (bm (twl (qp q) k) j)) (cI j) g) _
      unfold b_Mo_twinsOf_27
      refine ok_neg (le_no (a := 12) hj (by decide)) (ok_bindm (Q := fun r => r = if twl (qp q) k j = true then 1 else 0) ?_ (fun e14 he14 => ok_grd he14 (fun c => ok_some ?_) (fun c => ok_some ?_)))
      · refine ok_ct (fun e => ((if (wkl (sp q) (sb q) e).all (fun p => tz k j p ((qp q).headD 0)) = true then 1 else 0), cI e)) (sn q) (by omega) rfl (fun e he => ?_) ?_
        · show Ok (b_Mo_twinsOf_34 (cI k) (cI (bm (twl (qp q) k) j)) v (cI j) (if (wkl (sp q) (sb q) e).all (fun p => tz k j p ((qp q).headD 0)) = true then 1 else 0) (cI e) g) _
          unfold b_Mo_twinsOf_34
          rw [h.2.1]
          refine ok_neg (le_no he (by omega)) (ok_grd rfl (fun c => ok_some ?_) (fun c => ok_binde (mo_isBroken h he hn) ?_))
          · show _ = ((if (wkl (sp q) (sb q) (e + 1)).all (fun p => tz k j p ((qp q).headD 0)) = true then 1 else 0), cI (e + 1))
            rw [c_succ, if_neg]
            intro e2
            rw [wkl_s] at e2
            by_cases hb : (sb q).testBit e = true
            · rw [if_pos hb] at e2; exact c e2
            · rw [if_neg hb, all_app1, Bool.and_eq_true] at e2; exact c e2.1
          · by_cases hb : (sb q).testBit e = true
            · rw [if_pos hb]
              refine ok_neg (by decide) (ok_some ?_)
              show _ = ((if (wkl (sp q) (sb q) (e + 1)).all (fun p => tz k j p ((qp q).headD 0)) = true then 1 else 0), cI (e + 1))
              rw [c_succ, wkl_s, if_pos hb, if_pos c]
            · rw [if_neg hb]
              refine ok_pos rfl ?_
              rcases hv with ⟨_, hv2⟩ | ⟨e0, he0, hv1, hv2⟩
              · exact absurd (wk_mem (pos := sp q) he hb) (by show sp q e ∉ qp q; rw [hv2]; simp)
              · rw [hv1, show (2 : Int32) = cI 2 from rfl, cI_add, cI_add]
                have hpe := hw.2.1 e he
                have hp0 := hw.2.1 e0 he0
                refine ok_pos (inb_cI (by omega) (by decide)) (ok_pos (inb_cI (by omega) (by decide)) ?_)
                rw [cI_nat (by omega), cI_nat (by omega), h.2.2.1 e he, h.2.2.1 e0 he0]
                refine ok_if (fun d => ok_some ?_) (fun d => ok_some ?_)
                · show _ = ((if (wkl (sp q) (sb q) (e + 1)).all (fun p => tz k j p ((qp q).headD 0)) = true then 1 else 0), cI (e + 1))
                  rw [tz_I hj hk hpe hp0, tz_sw] at d
                  rw [c_succ, if_pos]
                  rw [wkl_s, if_neg hb, all_app1, Bool.and_eq_true, hv2]
                  rw [hv2] at c
                  exact ⟨c, d⟩
                · show _ = ((if (wkl (sp q) (sb q) (e + 1)).all (fun p => tz k j p ((qp q).headD 0)) = true then 1 else 0), cI (e + 1))
                  rw [tz_I hj hk hpe hp0, tz_sw] at d
                  rw [c_succ, if_neg]
                  rw [wkl_s, if_neg hb, all_app1, Bool.and_eq_true, hv2]
                  exact fun e2 => d e2.2
        · show Ok (b_Mo_twinsOf_34 (cI k) (cI (bm (twl (qp q) k) j)) v (cI j) (if (wkl (sp q) (sb q) (sn q)).all (fun p => tz k j p ((qp q).headD 0)) = true then 1 else 0) (cI (sn q)) g) _
          unfold b_Mo_twinsOf_34
          rw [h.2.1]
          exact ok_pos (le_yes (Nat.le_refl _) (by omega)) (ok_some rfl)
      · show _ = (cI (bm (twl (qp q) k) (j + 1)), cI (j + 1))
        rw [bm_n _ c, c_succ, show (0 : Int32) = cI 0 from rfl, cI_or, Nat.or_zero]
      · show _ = (cI (bm (twl (qp q) k) (j + 1)), cI (j + 1))
        rw [bm_s _ hj c, c_succ]
    · show Ok (b_Mo_twinsOf_27 (cI k) v (cI (bm (twl (qp q) k) 12)) (cI 12) g) _
      unfold b_Mo_twinsOf_27
      exact ok_pos (le_yes (a := 12) (Nat.le_refl _) (by decide)) (ok_some rfl)
theorem pp_twins {q : Sg} (hw : WF q) (x : Int32) : Pp (f_Da_twins x) (f_Mo_twins x) q := by
  refine ⟨if inb x 12 then cI (bm (twl (qp q) x.toNatClampNeg) 12) else -2, fun g hg => ok_to ?_, fun g hg => ok_to ?_⟩
  · unfold f_Da_twins
    refine ok_grd (da_dir g) (fun n => ok_some (if_neg n).symm) (fun c => ?_)
    have e := pl_twinBits hg.1 c.2
    rw [← inb_to c] at e
    exact ok_binde e (ok_some (if_pos c).symm)
  · unfold f_Mo_twins
    refine ok_grd (mo_dir g) (fun n => ok_some (if_neg n).symm) (fun c => ?_)
    have e := mo_twinsOf hw hg.2.1 c.2
    rw [← inb_to c] at e
    exact ok_binde e (ok_some (if_pos c).symm)
/-! sets -/
theorem cI_and (a b : Nat) (ha : a < 2 ^ 32) (hb : b < 2 ^ 32) : cI a &&& cI b = cI (a &&& b) := by
  apply Int32.toBitVec_inj.mp
  rw [Int32.toBitVec_and]
  show BitVec.ofNat 32 a &&& BitVec.ofNat 32 b = BitVec.ofNat 32 (a &&& b)
  apply BitVec.eq_of_toNat_eq
  rw [BitVec.toNat_and, BitVec.toNat_ofNat, BitVec.toNat_ofNat, BitVec.toNat_ofNat, Nat.mod_eq_of_lt ha, Nat.mod_eq_of_lt hb, Nat.mod_eq_of_lt (Nat.lt_of_le_of_lt Nat.and_le_left ha)]
def z2 : M2 := (fun _ _ => 0, fun _ _ => 0)
def tzn (m : Nat) : Nat := Nat.log2 (m ^^^ (m - 1))
theorem ntz_k : ∀ a : Nat, a < 64 → ∀ b : Nat, b < 64 → 0 < 64 * a + b → f_In_numberOfTrailingZeros (cI (64 * a + b)) z2 = cI (tzn (64 * a + b)) ∧ tzn (64 * a + b) < 12 := by decide +kernel
theorem ntz_n : ∀ a : Nat, a < 64 → ∀ b : Nat, b < 64 → ∀ k : Nat, k < 12 → (64 * a + b).testBit k = true → (decide ((64 * a + b) &&& (2 ^ k - 1) = 0) = decide (tzn (64 * a + b) = k)) := by decide +kernel
theorem ntz_e {M k : Nat} (hM : M < 4096) (hk : k < 12) (hb : M.testBit k = true) (g : M2) : (cI M &&& (((1 : Int32) <<< (cI k &&& 31)) - (1 : Int32)) = 0 ↔ f_In_numberOfTrailingZeros (cI M) g = cI k) := by
  have h0 : 0 < M := by
    rcases Nat.eq_zero_or_pos M with e | e
    · rw [e] at hb; simp at hb
    · exact e
  have e1 := ntz_k (M / 64) (by omega) (M % 64) (by omega) (by omega)
  have e2 := ntz_n (M / 64) (by omega) (M % 64) (by omega) k hk
  rw [show 64 * (M / 64) + M % 64 = M by omega] at e1 e2
  have e3 := e2 hb
  have hp : 2 ^ k ≤ 2 ^ 11 := Nat.pow_le_pow_right (by decide) (by omega)
  have hp0 : 0 < 2 ^ k := Nat.two_pow_pos k
  have e4 : f_In_numberOfTrailingZeros (cI M) g = cI (tzn M) := e1.1
  have hle : M &&& (2 ^ k - 1) ≤ M := Nat.and_le_left
  have hp2 : 2 ^ k - 1 < 2 ^ 32 := by omega
  have e5 : (cI (M &&& (2 ^ k - 1)) = 0 ↔ (M &&& (2 ^ k - 1)) = 0) := cI_inj (b := 0) (by omega) (by decide)
  have e6 : cI (tzn M) = cI k ↔ tzn M = k := cI_inj (by omega) (by omega)
  rw [sh12 k hk, c_pred (by omega), cI_and _ _ (by omega) hp2, e4, e5, e6]
  exact decide_eq_decide.mp e3
theorem twl_self (ps : List Nat) (k : Nat) : twl ps k k = true := by
  refine List.all_eq_true.mpr (fun p _ => ?_)
  show tz k k p _ = true
  unfold tz
  rw [Int.sub_self, Int.zero_mul]; rfl
def stq (q : Sg) (k : Nat) : Bool := decide (cI (bm (twl (qp q) k) 12) &&& (((1 : Int32) <<< (cI k &&& 31)) - (1 : Int32)) = 0)
theorem pp_sets {q : Sg} (hw : WF q) : Pp f_Da_sets f_Mo_sets q := by
  refine ⟨cI (cnf (stq q) 12), fun g hg => ok_to ?_, fun g hg => ok_to ?_⟩
  · unfold f_Da_sets
    refine ok_bindm (Q := fun r => r = cI (cnf (stq q) 12)) ?_ (fun r hr => ok_some hr)
    refine ok_ct (fun j => (cI (cnf (stq q) j), cI j)) 12 (by decide) rfl (fun j hj => ?_) ?_
    · show Ok (b_Da_sets_4 (cI (cnf (stq q) j)) (cI j) g) _
      unfold b_Da_sets_4
      refine ok_neg (le_no (a := 12) hj (by decide)) (ok_binde (pl_twinBits hg.1 hj) (ok_if (fun c => ok_some ?_) (fun c => ok_some ?_)))
      · show _ = (cI (cnf (stq q) (j + 1)), cI (j + 1))
        rw [cf_s (decide_eq_true c), c_succ, c_succ]
      · show _ = (cI (cnf (stq q) (j + 1)), cI (j + 1))
        rw [cf_n (fun e => c (of_decide_eq_true e)), c_succ]
    · show Ok (b_Da_sets_4 (cI (cnf (stq q) 12)) (cI 12) g) _
      unfold b_Da_sets_4
      exact ok_pos (le_yes (a := 12) (Nat.le_refl _) (by decide)) (ok_some rfl)
  · unfold f_Mo_sets
    refine ok_bindm (Q := fun r => r = cI (cnf (stq q) 12)) ?_ (fun r hr => ok_some hr)
    refine ok_ct (fun j => (cI (cnf (stq q) j), cI j)) 12 (by decide) rfl (fun j hj => ?_) ?_
    · show Ok (b_Mo_sets_4 (cI (cnf (stq q) j)) (cI j) g) _
      unfold b_Mo_sets_4
      have hb : (bm (twl (qp q) j) 12).testBit j = true := by rw [bm_bit, decide_eq_true hj, twl_self]; rfl
      have he := ntz_e (bm_12 (twl (qp q) j) (Nat.le_refl _)) hj hb g
      refine ok_neg (le_no (a := 12) hj (by decide)) (ok_binde (mo_twinsOf hw hg.2.1 hj) (ok_if (fun c => ok_some ?_) (fun c => ok_some ?_)))
      · show _ = (cI (cnf (stq q) (j + 1)), cI (j + 1))
        rw [cf_s (decide_eq_true (he.mpr c)), c_succ, c_succ]
      · show _ = (cI (cnf (stq q) (j + 1)), cI (j + 1))
        rw [cf_n (fun e => c (he.mp (of_decide_eq_true e))), c_succ, show (0 : Int32) = cI 0 from rfl, cI_add]; rfl
    · show Ok (b_Mo_sets_4 (cI (cnf (stq q) 12)) (cI 12) g) _
      unfold b_Mo_sets_4
      exact ok_pos (le_yes (a := 12) (Nat.le_refl _) (by decide)) (ok_some rfl)
