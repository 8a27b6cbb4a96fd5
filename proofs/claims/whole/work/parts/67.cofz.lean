/-! what stands beside the look, by places -/
theorem cf_at {R : Type} [Lean.Grind.CommRing R] (F : List Nat → R) : ∀ (cs pre : List Nat) (s : R) (t : Nat), t < cs.length → (cf F s pre cs)[t]? = some (cs.getD t 0, s * sg t * F (pre ++ cs.eraseIdx t)) := by
  intro cs
  induction cs with
  | nil => intro pre s t h; cases h
  | cons c cs ih =>
    intro pre s t h
    cases t with
    | zero =>
      simp only [cf, List.getElem?_cons_zero, List.getD_cons_zero, sg, List.eraseIdx_cons_zero]
      have : s * 1 = s := by grind
      rw [this]
    | succ t =>
      simp only [cf, List.getElem?_cons_succ, List.getD_cons_succ, sg, List.eraseIdx_cons_succ]
      rw [ih (pre ++ [c]) (-s) t (by simpa using h)]
      have : -s * sg t = s * -sg t := by grind
      rw [this, List.append_assoc]; rfl
theorem cv_nd {R : Type} [Lean.Grind.CommRing R] : ∀ (A : List (Nat × R)), (A.map (fun q => q.1)).Nodup → ∀ q ∈ A, cv A q.1 = q.2 := by
  intro A
  induction A with
  | nil => intro _ q h; cases h
  | cons a A ih =>
    intro hn q hq
    simp only [List.map_cons, List.nodup_cons] at hn
    have hne : ∀ p ∈ A, p.1 ≠ a.1 := fun p hp e => hn.1 (e ▸ List.mem_map_of_mem (f := fun q : Nat × R => q.1) hp)
    rcases List.mem_cons.mp hq with rfl | hq
    · have := cv_at [] A q.1 q.2 (fun p hp => by cases hp) hne
      exact this
    · have h1 := ih hn.2 q hq
      unfold cv at h1 ⊢
      simp only [List.map_cons, sm]
      rw [if_neg (fun e => hne q hq e.symm), h1]; grind
theorem fl_nd (G : Nat → Nat → Z4) : ∀ k, (fl G k).Nodup := by
  intro k
  induction k with
  | zero => exact List.nodup_nil
  | succ k ih =>
    rw [fl]
    split
    · exact ih
    · exact List.nodup_cons.mpr ⟨fun h => by have := fl_lt G k k h; omega, ih⟩
theorem sg_add {R : Type} [Lean.Grind.CommRing R] (a b : Nat) : (sg (a + b) : R) = sg a * sg b := by
  induction b with
  | zero => simp only [Nat.add_zero, sg]; grind
  | succ b ih => rw [← Nat.add_assoc]; simp only [sg, ih]; grind
theorem sg_par : ∀ (j : Nat) (a : Z4), qmul (@sg Z4 (qR Int) j) a = sgz (j % 2 == 0) a := by
  intro j
  induction j with
  | zero =>
    intro a
    show qmul (1, 0, 0, 0) a = a
    apply q_ext <;> simp only [qmul] <;> grind
  | succ j ih =>
    intro a
    have e : qmul (@sg Z4 (qR Int) (j + 1)) a = qneg (qmul (@sg Z4 (qR Int) j) a) := by
      show qmul (qneg (@sg Z4 (qR Int) j)) a = _
      apply q_ext <;> simp only [qmul, qneg] <;> grind
    rw [e, ih]
    have h2 : j % 2 = 0 ∨ j % 2 = 1 := by omega
    unfold sgz
    rcases h2 with h | h
    · rw [show ((j + 1) % 2 == 0) = false by rw [show (j + 1) % 2 = 1 by omega]; rfl, h]; rfl
    · rw [show ((j + 1) % 2 == 0) = true by rw [show (j + 1) % 2 = 0 by omega]; rfl, h]
      show qneg (qneg a) = a
      apply q_ext <;> simp only [qneg] <;> grind
theorem bl_drop : ∀ r : Nat, r < 6 → ∀ j : Nat, j < r → bl (2 ^ r - 1 - 2 ^ j) = (rwl 0 r).eraseIdx (r - 1 - j) ∧ bn (2 ^ r - 1 - 2 ^ j) = r - 1 := by decide +kernel
theorem rwl_1 : ∀ n : Nat, rwl 1 n = (rwl 0 (n + 1)).dropLast := by
  intro n
  induction n with
  | zero => rfl
  | succ n ih =>
    rw [rwl, ih, show rwl 0 (n + 1 + 1) = (0 + (n + 1)) :: rwl 0 (n + 1) from rfl, List.dropLast_cons_of_ne_nil (by simp [rwl]), Nat.zero_add, Nat.add_comm 1 n]
theorem map_dl (f : Nat → Nat) (l : List Nat) : l.dropLast.map f = (l.map f).dropLast := by
  rw [List.map_dropLast]
theorem map_ei (f : Nat → Nat) : ∀ (l : List Nat) (i : Nat), (l.eraseIdx i).map f = (l.map f).eraseIdx i := by
  intro l
  induction l with
  | nil => intro i; rfl
  | cons a l ih =>
    intro i
    cases i with
    | zero => rfl
    | succ i => simp only [List.eraseIdx_cons_succ, List.map_cons, ih]
section
variable {ws : Nat → Nat} {ps : List Nat} {m : Nat}
/-- the reference's cofactor of the j-th free wish -/
theorem cof_z (hm : m ≤ 5) (h1 : 0 < m) (h0 : ¬ Lo ws ps 0) {fr : Nat → Nat} (hfr : ∀ i, i < (fl (Gz ws ps) m).length → fr i = frz (Gz ws ps) m i) {j : Nat} (hj : j < (fl (Gz ws ps) m).length) : sgz (j % 2 == 0) (zdx (fun a b => Gz ws ps (fr a) (fr b)) (rwl 1 ((fl (Gz ws ps) m).length - 1)) (bl (2 ^ (fl (Gz ws ps) m).length - 1 - 2 ^ j))) = Cz ws ps m (fr j) := by
  have hle := fl_le (Gz ws ps) m
  have hall := fr_all (Gz ws ps) m fr hfr
  generalize hF : fl (Gz ws ps) m = F at *
  have hr : F.length < 6 := by omega
  rw [(bl_drop F.length hr j hj).1, zdx_map fr (Gz ws ps), map_ei, hall]
  have e1 : (rwl 1 (F.length - 1)).map fr = F.dropLast := by
    rw [rwl_1, show F.length - 1 + 1 = F.length by omega, map_dl, hall]
  rw [e1, ← sg_par]
  have hat := @cf_at Z4 (qR Int) (@dx Z4 (qR Int) (Gz ws ps) F.dropLast) F [] (@sg Z4 (qR Int) F.dropLast.length) (F.length - 1 - j) (by omega)
  obtain ⟨f, f1, f2, f3⟩ := fl_look (ws := ws) (ps := ps) h1 h0
  rw [hF] at f1 f3
  have hClz : Clz ws ps m = @cf Z4 (qR Int) (@dx Z4 (qR Int) (Gz ws ps) F.dropLast) (@sg Z4 (qR Int) F.dropLast.length) [] F := by
    unfold Clz
    show @cf Z4 (qR Int) _ _ [] _ = _
    rw [hF, f3, ← f1]
  have hkey : F.getD (F.length - 1 - j) 0 = fr j := by
    rw [hfr j hj]
    unfold frz
    rw [hF, List.getD_eq_getElem?_getD, List.getD_eq_getElem?_getD, List.getElem?_reverse hj]
  rw [hkey] at hat
  have hmem : (fr j, qmul (qmul (@sg Z4 (qR Int) F.dropLast.length) (@sg Z4 (qR Int) (F.length - 1 - j))) (zdx (Gz ws ps) F.dropLast (F.eraseIdx (F.length - 1 - j)))) ∈ Clz ws ps m := by
    rw [hClz]; exact List.mem_of_getElem? hat
  have hnd : ((Clz ws ps m).map (fun q => q.1)).Nodup := by
    rw [Cl_key h1 h0]; exact fl_nd _ _
  have hcv := @cv_nd Z4 (qR Int) (Clz ws ps m) hnd _ hmem
  have e2 : qmul (@sg Z4 (qR Int) F.dropLast.length) (@sg Z4 (qR Int) (F.length - 1 - j)) = @sg Z4 (qR Int) j := by
    have hd : F.dropLast.length = (F.length - 1 - j) + j := by rw [List.length_dropLast]; omega
    rw [hd]
    have h2 : @sg Z4 (qR Int) (F.length - 1 - j + j) = qmul (@sg Z4 (qR Int) (F.length - 1 - j)) (@sg Z4 (qR Int) j) := @sg_add Z4 (qR Int) _ _
    have h3 : qmul (@sg Z4 (qR Int) (F.length - 1 - j)) (@sg Z4 (qR Int) (F.length - 1 - j)) = (1, 0, 0, 0) := @sg_sq Z4 (qR Int) _
    rw [h2]
    generalize @sg Z4 (qR Int) (F.length - 1 - j) = u at h3 ⊢
    generalize @sg Z4 (qR Int) j = v
    have h4 : qmul (qmul u v) u = qmul (qmul u u) v := by apply q_ext <;> simp only [qmul] <;> grind
    rw [h4, h3]
    apply q_ext <;> simp only [qmul] <;> grind
  simp only at hcv
  rw [e2] at hcv
  exact hcv.symm
theorem zsum_ap (l k : List Z4) : zsum (l ++ k) = qadd (zsum l) (zsum k) := by
  induction l with
  | nil => apply q_ext <;> simp [zsum, qadd]
  | cons b l ih =>
    simp only [List.cons_append, zsum, ih]
    apply q_ext <;> simp only [qadd] <;> grind
theorem zsum_rev (l : List Z4) : zsum l.reverse = zsum l := by
  induction l with
  | nil => rfl
  | cons b l ih =>
    rw [List.reverse_cons, zsum_ap, ih]
    apply q_ext <;> simp only [zsum, qadd] <;> grind
/-- the sum over free wishes, the oldest first -/
theorem fr_sum (h1 : 0 < m) (h0 : ¬ Lo ws ps 0) {fr : Nat → Nat} (hfr : ∀ i, i < (fl (Gz ws ps) m).length → fr i = frz (Gz ws ps) m i) (X : Nat → Z4) : zsum ((List.range (fl (Gz ws ps) m).length).map (fun j => qmul (Cz ws ps m (fr j)) (X (fr j)))) = @sm Z4 (qR Int) ((Clz ws ps m).map (fun q => qmul (X q.1) q.2)) := by
  have hall := fr_all (Gz ws ps) m fr hfr
  rw [rwl_map] at hall
  have e1 : (List.range (fl (Gz ws ps) m).length).map (fun j => qmul (Cz ws ps m (fr j)) (X (fr j))) = ((List.range (fl (Gz ws ps) m).length).map fr).map (fun i => qmul (Cz ws ps m i) (X i)) := by
    rw [List.map_map]; rfl
  have e2 : (List.range (fl (Gz ws ps) m).length).map fr = (fl (Gz ws ps) m).reverse := by
    rw [← hall, List.reverse_reverse]
    rw [hall]
  rw [e1, e2, List.map_reverse, zsum_rev, zsum_sm, ← Cl_key h1 h0, List.map_map]
  congr 1
  refine List.map_congr_left (fun q hq => ?_)
  have hnd : ((Clz ws ps m).map (fun q => q.1)).Nodup := by
    rw [Cl_key h1 h0]; exact fl_nd _ _
  have hcv := @cv_nd Z4 (qR Int) (Clz ws ps m) hnd q hq
  show qmul (Cz ws ps m q.1) (X q.1) = qmul (X q.1) q.2
  have : Cz ws ps m q.1 = q.2 := hcv
  rw [this]
  apply q_ext <;> simp only [qmul] <;> grind
end
