/-! the cells behind the constructors; what a method does with the numbers in them -/
def S0 : List mm_C := [
  (8, 10, [some 1, some 6, some 72, some 138, some 151, some 152, some 153, some 155, some 156, none]), (6, 9, [some 2, some 3, none, none, none, none, none, none, none]), (100, 300, List.replicate 300 none), (5, 8, [some 4, some 5, none, none, none, none, none, none]), (100, 5, List.replicate 5 none), (100, 4, List.replicate 4 none),
  (7, 17, [some 7, some 10, some 11, some 12, some 43, some 49, some 55, some 68, some 69, some 70, some 71, none, none, none, none, none, none]), (5, 8, [some 8, some 9, none, none, none, none, none, none]), (100, 5, List.replicate 5 none), (100, 4, List.replicate 4 none), (100, 5, List.replicate 5 none), (103, 5, List.replicate 5 none),
  (104, 30, [some 13, some 14, some 15, some 16, some 17, some 18, some 19, some 20, some 21, some 22, some 23, some 24, some 25, some 26, some 27, some 28, some 29, some 30, some 31, some 32, some 33, some 34, some 35, some 36, some 37, some 38, some 39, some 40, some 41, some 42]), (3, 4, List.replicate 4 none), (3, 4, List.replicate 4 none), (3, 4, List.replicate 4 none), (3, 4, List.replicate 4 none), (3, 4, List.replicate 4 none),
  (3, 4, List.replicate 4 none), (3, 4, List.replicate 4 none), (3, 4, List.replicate 4 none), (3, 4, List.replicate 4 none), (3, 4, List.replicate 4 none), (3, 4, List.replicate 4 none),
  (3, 4, List.replicate 4 none), (3, 4, List.replicate 4 none), (3, 4, List.replicate 4 none), (3, 4, List.replicate 4 none), (3, 4, List.replicate 4 none), (3, 4, List.replicate 4 none),
  (3, 4, List.replicate 4 none), (3, 4, List.replicate 4 none), (3, 4, List.replicate 4 none), (3, 4, List.replicate 4 none), (3, 4, List.replicate 4 none), (3, 4, List.replicate 4 none),
  (3, 4, List.replicate 4 none), (3, 4, List.replicate 4 none), (3, 4, List.replicate 4 none), (3, 4, List.replicate 4 none), (3, 4, List.replicate 4 none), (3, 4, List.replicate 4 none),
  (3, 4, List.replicate 4 none), (104, 5, [some 44, some 45, some 46, some 47, some 48]), (3, 4, List.replicate 4 none), (3, 4, List.replicate 4 none), (3, 4, List.replicate 4 none), (3, 4, List.replicate 4 none),
  (3, 4, List.replicate 4 none), (104, 5, [some 50, some 51, some 52, some 53, some 54]), (3, 4, List.replicate 4 none), (3, 4, List.replicate 4 none), (3, 4, List.replicate 4 none), (3, 4, List.replicate 4 none),
  (3, 4, List.replicate 4 none), (104, 12, [some 56, some 57, some 58, some 59, some 60, some 61, some 62, some 63, some 64, some 65, some 66, some 67]), (3, 4, List.replicate 4 none), (3, 4, List.replicate 4 none), (3, 4, List.replicate 4 none), (3, 4, List.replicate 4 none),
  (3, 4, List.replicate 4 none), (3, 4, List.replicate 4 none), (3, 4, List.replicate 4 none), (3, 4, List.replicate 4 none), (3, 4, List.replicate 4 none), (3, 4, List.replicate 4 none),
  (3, 4, List.replicate 4 none), (3, 4, List.replicate 4 none), (101, 12, List.replicate 12 none), (101, 12, List.replicate 12 none), (3, 4, List.replicate 4 none), (3, 4, List.replicate 4 none),
  (7, 17, [some 73, some 76, some 77, some 78, some 109, some 115, some 121, some 134, some 135, some 136, some 137, none, none, none, none, none, none]), (5, 8, [some 74, some 75, none, none, none, none, none, none]), (100, 5, List.replicate 5 none), (100, 4, List.replicate 4 none), (100, 5, List.replicate 5 none), (103, 5, List.replicate 5 none),
  (104, 30, [some 79, some 80, some 81, some 82, some 83, some 84, some 85, some 86, some 87, some 88, some 89, some 90, some 91, some 92, some 93, some 94, some 95, some 96, some 97, some 98, some 99, some 100, some 101, some 102, some 103, some 104, some 105, some 106, some 107, some 108]), (3, 4, List.replicate 4 none), (3, 4, List.replicate 4 none), (3, 4, List.replicate 4 none), (3, 4, List.replicate 4 none), (3, 4, List.replicate 4 none),
  (3, 4, List.replicate 4 none), (3, 4, List.replicate 4 none), (3, 4, List.replicate 4 none), (3, 4, List.replicate 4 none), (3, 4, List.replicate 4 none), (3, 4, List.replicate 4 none),
  (3, 4, List.replicate 4 none), (3, 4, List.replicate 4 none), (3, 4, List.replicate 4 none), (3, 4, List.replicate 4 none), (3, 4, List.replicate 4 none), (3, 4, List.replicate 4 none),
  (3, 4, List.replicate 4 none), (3, 4, List.replicate 4 none), (3, 4, List.replicate 4 none), (3, 4, List.replicate 4 none), (3, 4, List.replicate 4 none), (3, 4, List.replicate 4 none),
  (3, 4, List.replicate 4 none), (3, 4, List.replicate 4 none), (3, 4, List.replicate 4 none), (3, 4, List.replicate 4 none), (3, 4, List.replicate 4 none), (3, 4, List.replicate 4 none),
  (3, 4, List.replicate 4 none), (104, 5, [some 110, some 111, some 112, some 113, some 114]), (3, 4, List.replicate 4 none), (3, 4, List.replicate 4 none), (3, 4, List.replicate 4 none), (3, 4, List.replicate 4 none),
  (3, 4, List.replicate 4 none), (104, 5, [some 116, some 117, some 118, some 119, some 120]), (3, 4, List.replicate 4 none), (3, 4, List.replicate 4 none), (3, 4, List.replicate 4 none), (3, 4, List.replicate 4 none),
  (3, 4, List.replicate 4 none), (104, 12, [some 122, some 123, some 124, some 125, some 126, some 127, some 128, some 129, some 130, some 131, some 132, some 133]), (3, 4, List.replicate 4 none), (3, 4, List.replicate 4 none), (3, 4, List.replicate 4 none), (3, 4, List.replicate 4 none),
  (3, 4, List.replicate 4 none), (3, 4, List.replicate 4 none), (3, 4, List.replicate 4 none), (3, 4, List.replicate 4 none), (3, 4, List.replicate 4 none), (3, 4, List.replicate 4 none),
  (3, 4, List.replicate 4 none), (3, 4, List.replicate 4 none), (101, 12, List.replicate 12 none), (101, 12, List.replicate 12 none), (3, 4, List.replicate 4 none), (3, 4, List.replicate 4 none),
  (0, 10, [some 139, some 145, some 150, none, none, none, none, none, none, none]), (104, 5, [some 140, some 141, some 142, some 143, some 144]), (3, 4, List.replicate 4 none), (3, 4, List.replicate 4 none), (3, 4, List.replicate 4 none), (3, 4, List.replicate 4 none),
  (3, 4, List.replicate 4 none), (104, 4, [some 146, some 147, some 148, some 149]), (3, 4, List.replicate 4 none), (3, 4, List.replicate 4 none), (3, 4, List.replicate 4 none), (3, 4, List.replicate 4 none),
  (3, 4, List.replicate 4 none), (2, 4, List.replicate 4 none), (1, 3, List.replicate 3 none), (4, 2, [some 154, none]), (100, 160, List.replicate 160 none), (3, 4, List.replicate 4 none),
  (101, 5, List.replicate 5 none), (9, 39, [none, some 158, some 159, none, none, some 160, some 161, some 162, none, some 163, none, none, some 164, some 165, none, none, none, none, none, some 166, some 167, none, some 168, none, none, none, none, none, none, none, some 169, some 170, none, none, none, none, none, some 171, none]), (101, 352, List.replicate 352 none), (101, 7, List.replicate 7 none), (100, 19, List.replicate 19 none), (100, 19, List.replicate 19 none),
  (100, 5, List.replicate 5 none), (100, 5, List.replicate 5 none), (103, 5, List.replicate 5 none), (100, 5, List.replicate 5 none), (100, 5, List.replicate 5 none), (102, 300, List.replicate 300 none),
  (100, 5, List.replicate 5 none), (101, 12, List.replicate 12 none), (101, 12, List.replicate 12 none), (102, 200, List.replicate 200 none)]
abbrev M2 : Type := (Nat → Nat → Int32) × (Nat → Nat → Int64)
abbrev hp (g : M2) : mm_H := (S0, g.1, g.2)
def uI (g : M2) (a k : Nat) (x : Int32) : M2 := (mm_uI g.1 a k x, g.2)
def uJ (g : M2) (a k : Nat) (x : Int64) : M2 := (g.1, mm_uJ g.2 a k x)
def Ev (Lx k : Nat) (es : List mm_E) (i : Nat) (L : mm_L) (st : List Value) (g : M2) (o : Option Value × M2) : Prop := ∃ n, mm_ex cd Lx n k (es.drop i) L st (hp g) = some (o.1, hp o.2)
theorem mm_ex_up {cd : Nat → List mm_E} {Lx : Nat} : ∀ (n k : Nat) (is : List mm_E) (L : mm_L) (st : List Value) (h : mm_H) (r : Option Value × mm_H), mm_ex cd Lx n k is L st h = some r → mm_ex cd Lx (n + 1) k is L st h = some r := by
  intro n
  induction n with
  | zero => intro k is L st h r he; cases he
  | succ n ih =>
    intro k is L st h r he
    unfold mm_ex at he ⊢
    split at he
    · cases he
    · split at he
      · split at he
        · rename_i hs; (try simp only); (try rw [hs]); exact ih _ _ _ _ _ _ he
        · rename_i hs; (try simp only); (try rw [hs]); exact ih _ _ _ _ _ _ he
        · cases he
      · split at he
        · rename_i hc
          split at he
          · rename_i hs
            try simp only
            rw [if_pos hc, ih _ _ _ _ _ _ hs]
            exact ih _ _ _ _ _ _ he
          · cases he
        · cases he
      · exact he
      · cases he
theorem mm_ex_le2 {cd : Nat → List mm_E} {Lx n m k : Nat} {is : List mm_E} {L : mm_L} {st : List Value} {h : mm_H} {r : Option Value × mm_H} (he : mm_ex cd Lx n k is L st h = some r) (hm : n ≤ m) : mm_ex cd Lx m k is L st h = some r := by
  obtain ⟨d, rfl⟩ : ∃ d, m = n + d := ⟨m - n, by omega⟩
  clear hm
  induction d with
  | zero => exact he
  | succ d ih => exact mm_ex_up _ _ _ _ _ _ _ ih
def lle (L L2 : mm_L) : Prop := ∀ (i : Nat) (v : Value), L[i]? = some (some v) → L2[i]? = some (some v)
def lleP : mm_L → mm_L → Prop
  | [], _ => True
  | none :: r, [] => lleP r []
  | none :: r, _ :: r2 => lleP r r2
  | some _ :: _, [] => False
  | some v :: r, w :: r2 => w = some v ∧ lleP r r2
theorem lle_of : ∀ (L L2 : mm_L), lleP L L2 → lle L L2 := by
  intro L
  induction L with
  | nil => intro L2 _ i v h; simp at h
  | cons a r ih =>
    intro L2 h i v hv
    cases L2 with
    | nil =>
      cases a with
      | none =>
        cases i with
        | zero => simp at hv
        | succ i => have := ih [] h i v (by simpa using hv); simp at this
      | some w => exact h.elim
    | cons b r2 =>
      cases a with
      | none =>
        cases i with
        | zero => simp at hv
        | succ i => have := ih r2 h i v (by simpa using hv); simpa using this
      | some w =>
        obtain ⟨h1, h2⟩ := h
        cases i with
        | zero => simp at hv; subst hv; simp [h1]
        | succ i => have := ih r2 h2 i v (by simpa using hv); simpa using this
theorem lle_get {L L2 : mm_L} {i : Nat} {v : Value} (h : lle L L2) (hv : mm_get L i = some v) : mm_get L2 i = some v := by
  have := h i v (mm_get_some hv)
  unfold mm_get; rw [this]; rfl
theorem lle_pad {L L2 : mm_L} {n : Nat} (h : lle L L2) : lle (mm_pad L n) (mm_pad L2 n) := by
  intro i v hv
  have h1 := h i v (mm_pad_get hv)
  unfold mm_pad
  rw [List.getElem?_append_left (List.getElem?_eq_some_iff.mp h1).1]; exact h1
theorem lle_clr {L L2 : mm_L} {i : Nat} (h : lle L L2) : lle (mm_clr L i) (mm_clr L2 i) := by
  intro j v hv
  obtain ⟨h1, h2⟩ := mm_clr_get hv
  have h3 := h j v h1
  cases i with
  | zero => exact h3
  | succ n =>
    simp only [mm_clr]
    split
    · rename_i x hx
      by_cases hj : j = n
      · subst hj
        rw [hx] at h3
        cases h3
        exact absurd ⟨rfl, rfl, x, rfl⟩ h2
      · rw [List.getElem?_set_ne (fun e => hj e.symm)]; exact h3
    · exact h3
theorem lle_set {L L2 : mm_L} {i : Nat} {w : Option Value} (h : lle L L2) (hi : w = none ∨ i < L2.length) : lle (L.set i w) (L2.set i w) := by
  intro j v hv
  by_cases hj : j = i
  · subst hj
    by_cases hl : j < L.length
    · rw [List.getElem?_set_self hl] at hv
      cases hv
      rcases hi with hi | hi
      · cases hi
      · rw [List.getElem?_set_self hi]
    · rw [List.getElem?_eq_none (by rw [List.length_set]; omega)] at hv
      cases hv
  · rw [List.getElem?_set_ne (fun e => hj e.symm)] at hv ⊢
    exact h j v hv
theorem lle_put {L L2 : mm_L} {i : Nat} {v : Value} (h : lle L L2) : lle (mm_put L i v) (mm_put L2 i v) := by
  unfold mm_put
  split
  · exact lle_set (lle_set (lle_pad (lle_clr h)) (Or.inr (by simp [mm_pad]; omega))) (Or.inl rfl)
  · exact lle_set (lle_pad (lle_clr h)) (Or.inr (by simp [mm_pad]; omega))
/-- locals pass through all but loads and stores -/
theorem mm_stp_lle {Lx : Nat} {ins : Instr} {ax : List Nat} {L L2 L1 : mm_L} {st st2 : List Value} {h h2 : mm_H} {j : Option Nat} (he : mm_stp Lx ins ax L st h = some (j, L2, st2, h2)) (hl : lle L L1) : ∃ L3, mm_stp Lx ins ax L1 st h = some (j, L3, st2, h2) ∧ lle L2 L3 := by
  cases ins with
  | iconst n => simp only [mm_stp] at he ⊢; (cases he; exact ⟨_, rfl, hl⟩)
  | bipush n => simp only [mm_stp] at he ⊢; (cases he; exact ⟨_, rfl, hl⟩)
  | sipush n => simp only [mm_stp] at he ⊢; (cases he; exact ⟨_, rfl, hl⟩)
  | lconst n => simp only [mm_stp] at he ⊢; (cases he; exact ⟨_, rfl, hl⟩)
  | ldc2_w n => simp only [mm_stp] at he ⊢; (cases he; exact ⟨_, rfl, hl⟩)
  | goto n => simp only [mm_stp] at he ⊢; (cases he; exact ⟨_, rfl, hl⟩)
  | getstatic n => simp only [mm_stp] at he ⊢; (cases he; exact ⟨_, rfl, hl⟩)
  | ldc n => simp only [mm_stp] at he ⊢; split at he <;> rename_i q <;> (cases he; (first | rw [if_pos q] | rw [if_neg q]); exact ⟨_, rfl, hl⟩)
  | ldc_w n => simp only [mm_stp] at he ⊢; split at he <;> rename_i q <;> (cases he; (first | rw [if_pos q] | rw [if_neg q]); exact ⟨_, rfl, hl⟩)
  | iload_n n => simp only [mm_stp] at he ⊢; (obtain ⟨v, q1, q2, rfl, rfl, rfl, rfl⟩ := mm_ld_inv he; exact ⟨L1, by unfold mm_ld; rw [lle_get hl q1]; (try simp only); rw [if_pos q2], hl⟩)
  | iload n => simp only [mm_stp] at he ⊢; (obtain ⟨v, q1, q2, rfl, rfl, rfl, rfl⟩ := mm_ld_inv he; exact ⟨L1, by unfold mm_ld; rw [lle_get hl q1]; (try simp only); rw [if_pos q2], hl⟩)
  | lload_n n => simp only [mm_stp] at he ⊢; (obtain ⟨v, q1, q2, rfl, rfl, rfl, rfl⟩ := mm_ld_inv he; exact ⟨L1, by unfold mm_ld; rw [lle_get hl q1]; (try simp only); rw [if_pos q2], hl⟩)
  | lload n => simp only [mm_stp] at he ⊢; (obtain ⟨v, q1, q2, rfl, rfl, rfl, rfl⟩ := mm_ld_inv he; exact ⟨L1, by unfold mm_ld; rw [lle_get hl q1]; (try simp only); rw [if_pos q2], hl⟩)
  | aload_n n => simp only [mm_stp] at he ⊢; (obtain ⟨v, q1, q2, rfl, rfl, rfl, rfl⟩ := mm_ld_inv he; exact ⟨L1, by unfold mm_ld; rw [lle_get hl q1]; (try simp only); rw [if_pos q2], hl⟩)
  | aload n => simp only [mm_stp] at he ⊢; (obtain ⟨v, q1, q2, rfl, rfl, rfl, rfl⟩ := mm_ld_inv he; exact ⟨L1, by unfold mm_ld; rw [lle_get hl q1]; (try simp only); rw [if_pos q2], hl⟩)
  | istore_n n => simp only [mm_stp] at he ⊢; (obtain ⟨v, rfl, q2, rfl, rfl, rfl⟩ := mm_sv_inv he; exact ⟨_, by unfold mm_sv; (try simp only); rw [if_pos q2], lle_put hl⟩)
  | istore n => simp only [mm_stp] at he ⊢; (obtain ⟨v, rfl, q2, rfl, rfl, rfl⟩ := mm_sv_inv he; exact ⟨_, by unfold mm_sv; (try simp only); rw [if_pos q2], lle_put hl⟩)
  | lstore_n n => simp only [mm_stp] at he ⊢; (obtain ⟨v, rfl, q2, rfl, rfl, rfl⟩ := mm_sv_inv he; exact ⟨_, by unfold mm_sv; (try simp only); rw [if_pos q2], lle_put hl⟩)
  | lstore n => simp only [mm_stp] at he ⊢; (obtain ⟨v, rfl, q2, rfl, rfl, rfl⟩ := mm_sv_inv he; exact ⟨_, by unfold mm_sv; (try simp only); rw [if_pos q2], lle_put hl⟩)
  | astore_n n => simp only [mm_stp] at he ⊢; (obtain ⟨v, rfl, q2, rfl, rfl, rfl⟩ := mm_sv_inv he; exact ⟨_, by unfold mm_sv; (try simp only); rw [if_pos q2], lle_put hl⟩)
  | astore n => simp only [mm_stp] at he ⊢; (obtain ⟨v, rfl, q2, rfl, rfl, rfl⟩ := mm_sv_inv he; exact ⟨_, by unfold mm_sv; (try simp only); rw [if_pos q2], lle_put hl⟩)
  | iinc i n => simp only [mm_stp] at he ⊢; (split at he <;> first | (cases he; done) | (rename_i x q; cases he; rw [lle_get hl q]; exact ⟨_, rfl, lle_put hl⟩))
  | iadd => simp only [mm_stp] at he ⊢; (obtain ⟨x, y, r, rfl, rfl, rfl, rfl, rfl⟩ := mm_i2_inv he; exact ⟨_, rfl, hl⟩)
  | isub => simp only [mm_stp] at he ⊢; (obtain ⟨x, y, r, rfl, rfl, rfl, rfl, rfl⟩ := mm_i2_inv he; exact ⟨_, rfl, hl⟩)
  | imul => simp only [mm_stp] at he ⊢; (obtain ⟨x, y, r, rfl, rfl, rfl, rfl, rfl⟩ := mm_i2_inv he; exact ⟨_, rfl, hl⟩)
  | iand => simp only [mm_stp] at he ⊢; (obtain ⟨x, y, r, rfl, rfl, rfl, rfl, rfl⟩ := mm_i2_inv he; exact ⟨_, rfl, hl⟩)
  | ior => simp only [mm_stp] at he ⊢; (obtain ⟨x, y, r, rfl, rfl, rfl, rfl, rfl⟩ := mm_i2_inv he; exact ⟨_, rfl, hl⟩)
  | ixor => simp only [mm_stp] at he ⊢; (obtain ⟨x, y, r, rfl, rfl, rfl, rfl, rfl⟩ := mm_i2_inv he; exact ⟨_, rfl, hl⟩)
  | ishl => simp only [mm_stp] at he ⊢; (obtain ⟨x, y, r, rfl, rfl, rfl, rfl, rfl⟩ := mm_i2_inv he; exact ⟨_, rfl, hl⟩)
  | ishr => simp only [mm_stp] at he ⊢; (obtain ⟨x, y, r, rfl, rfl, rfl, rfl, rfl⟩ := mm_i2_inv he; exact ⟨_, rfl, hl⟩)
  | iushr => simp only [mm_stp] at he ⊢; (obtain ⟨x, y, r, rfl, rfl, rfl, rfl, rfl⟩ := mm_i2_inv he; exact ⟨_, rfl, hl⟩)
  | idiv => simp only [mm_stp] at he ⊢; (obtain ⟨x, y, r, rfl, q, rfl, rfl, rfl, rfl⟩ := mm_i2d_inv he; exact ⟨L1, by unfold mm_i2d; (try simp only); rw [if_neg q], hl⟩)
  | irem => simp only [mm_stp] at he ⊢; (obtain ⟨x, y, r, rfl, q, rfl, rfl, rfl, rfl⟩ := mm_i2d_inv he; exact ⟨L1, by unfold mm_i2d; (try simp only); rw [if_neg q], hl⟩)
  | ineg => simp only [mm_stp] at he ⊢; (obtain ⟨x, r, rfl, rfl, rfl, rfl, rfl⟩ := mm_i1_inv he; exact ⟨_, rfl, hl⟩)
  | i2l => simp only [mm_stp] at he ⊢; (obtain ⟨x, r, rfl, rfl, rfl, rfl, rfl⟩ := mm_i1_inv he; exact ⟨_, rfl, hl⟩)
  | i2b => simp only [mm_stp] at he ⊢; (obtain ⟨x, r, rfl, rfl, rfl, rfl, rfl⟩ := mm_i1_inv he; exact ⟨_, rfl, hl⟩)
  | ladd => simp only [mm_stp] at he ⊢; (obtain ⟨x, y, r, rfl, rfl, rfl, rfl, rfl⟩ := mm_j2_inv he; exact ⟨_, rfl, hl⟩)
  | lsub => simp only [mm_stp] at he ⊢; (obtain ⟨x, y, r, rfl, rfl, rfl, rfl, rfl⟩ := mm_j2_inv he; exact ⟨_, rfl, hl⟩)
  | lmul => simp only [mm_stp] at he ⊢; (obtain ⟨x, y, r, rfl, rfl, rfl, rfl, rfl⟩ := mm_j2_inv he; exact ⟨_, rfl, hl⟩)
  | lxor => simp only [mm_stp] at he ⊢; (obtain ⟨x, y, r, rfl, rfl, rfl, rfl, rfl⟩ := mm_j2_inv he; exact ⟨_, rfl, hl⟩)
  | lcmp => simp only [mm_stp] at he ⊢; (obtain ⟨x, y, r, rfl, rfl, rfl, rfl, rfl⟩ := mm_j2_inv he; exact ⟨_, rfl, hl⟩)
  | ldiv => simp only [mm_stp] at he ⊢; (obtain ⟨x, y, r, rfl, q, rfl, rfl, rfl, rfl⟩ := mm_j2d_inv he; exact ⟨L1, by unfold mm_j2d; (try simp only); rw [if_neg q], hl⟩)
  | lrem => simp only [mm_stp] at he ⊢; (obtain ⟨x, y, r, rfl, q, rfl, rfl, rfl, rfl⟩ := mm_j2d_inv he; exact ⟨L1, by unfold mm_j2d; (try simp only); rw [if_neg q], hl⟩)
  | lneg => simp only [mm_stp] at he ⊢; (obtain ⟨x, r, rfl, rfl, rfl, rfl, rfl⟩ := mm_j1_inv he; exact ⟨_, rfl, hl⟩)
  | l2i => simp only [mm_stp] at he ⊢; (obtain ⟨x, r, rfl, rfl, rfl, rfl, rfl⟩ := mm_j1_inv he; exact ⟨_, rfl, hl⟩)
  | dup => simp only [mm_stp] at he ⊢; (split at he <;> first | (cases he; done) | (split at he <;> first | (cases he; done) | (rename_i q; cases he; (try simp only); rw [if_pos q]; exact ⟨_, rfl, hl⟩)))
  | pop => simp only [mm_stp] at he ⊢; (split at he <;> first | (cases he; done) | (split at he <;> first | (cases he; done) | (rename_i q; cases he; (try simp only); rw [if_pos q]; exact ⟨_, rfl, hl⟩)))
  | dup2 => simp only [mm_stp] at he ⊢; (split at he <;> first | (cases he; done) | (cases he; exact ⟨_, rfl, hl⟩))
  | ifCond a b => simp only [mm_stp] at he ⊢; (obtain ⟨v, rfl, rfl, rfl, rfl⟩ := mm_b1_inv he; exact ⟨_, rfl, hl⟩)
  | if_icmp a b => simp only [mm_stp] at he ⊢; (obtain ⟨v, w, rfl, rfl, rfl, rfl⟩ := mm_b2_inv he; exact ⟨_, rfl, hl⟩)
  | tableswitch a b c d => simp only [mm_stp] at he ⊢; (unfold mm_sw at he ⊢; split at he <;> first | (cases he; done) | (cases he; exact ⟨_, rfl, hl⟩))
  | getfield n => simp only [mm_stp] at he ⊢; (obtain ⟨a, r, c, rfl, q1, q2, q3, rfl, rfl, rfl, rfl⟩ := mm_gf_inv he; exact ⟨L1, by unfold mm_gf; (try simp only); rw [q1]; (try simp only); rw [if_pos ⟨q2, q3⟩], hl⟩)
  | putfield n => simp only [mm_stp] at he ⊢; (obtain ⟨v, a, c, rfl, q1, q2, q3, q4, rfl, rfl⟩ := mm_pf_inv he; exact ⟨L1, by unfold mm_pf; (try simp only); rw [q1]; (try simp only); rw [if_pos ⟨q2, q3⟩, q4], hl⟩)
  | iaload => simp only [mm_stp] at he ⊢; (obtain ⟨x, a, r, c, rfl, q1, q2, q3, q4, rfl, rfl, rfl, rfl⟩ := mm_al_inv he; exact ⟨L1, by unfold mm_al; (try simp only); rw [q1]; (try simp only); rw [if_pos ⟨q2, q3, q4⟩], hl⟩)
  | baload => simp only [mm_stp] at he ⊢; (obtain ⟨x, a, r, c, rfl, q1, q2, q3, q4, rfl, rfl, rfl, rfl⟩ := mm_al_inv he; exact ⟨L1, by unfold mm_al; (try simp only); rw [q1]; (try simp only); rw [if_pos ⟨q2, q3, q4⟩], hl⟩)
  | laload => simp only [mm_stp] at he ⊢; (obtain ⟨x, a, r, c, rfl, q1, q2, q3, q4, rfl, rfl, rfl, rfl⟩ := mm_al_inv he; exact ⟨L1, by unfold mm_al; (try simp only); rw [q1]; (try simp only); rw [if_pos ⟨q2, q3, q4⟩], hl⟩)
  | aaload => simp only [mm_stp] at he ⊢; (obtain ⟨x, a, r, c, rfl, q1, q2, q3, q4, rfl, rfl, rfl, rfl⟩ := mm_al_inv he; exact ⟨L1, by unfold mm_al; (try simp only); rw [q1]; (try simp only); rw [if_pos ⟨q2, q3, q4⟩], hl⟩)
  | iastore => simp only [mm_stp] at he ⊢; (obtain ⟨v, x, a, c, rfl, q1, q2, q3, q4, q5, rfl, rfl⟩ := mm_as_inv he; exact ⟨L1, by unfold mm_as; (try simp only); rw [q1]; (try simp only); rw [if_pos ⟨q2, q3, q4⟩]; (try simp only at q5); rw [q5], hl⟩)
  | bastore => simp only [mm_stp] at he ⊢; (obtain ⟨v, x, a, c, rfl, q1, q2, q3, q4, q5, rfl, rfl⟩ := mm_as_inv he; exact ⟨L1, by unfold mm_as; (try simp only); rw [q1]; (try simp only); rw [if_pos ⟨q2, q3, q4⟩]; (try simp only at q5); rw [q5], hl⟩)
  | lastore => simp only [mm_stp] at he ⊢; (obtain ⟨v, x, a, c, rfl, q1, q2, q3, q4, q5, rfl, rfl⟩ := mm_as_inv he; exact ⟨L1, by unfold mm_as; (try simp only); rw [q1]; (try simp only); rw [if_pos ⟨q2, q3, q4⟩]; (try simp only at q5); rw [q5], hl⟩)
  | aastore => simp only [mm_stp] at he ⊢; (obtain ⟨v, x, a, c, rfl, q1, q2, q3, q4, q5, rfl, rfl⟩ := mm_as_inv he; exact ⟨L1, by unfold mm_as; (try simp only); rw [q1]; (try simp only); rw [if_pos ⟨q2, q3, q4⟩]; (try simp only at q5); rw [q5], hl⟩)
  | arraylength => simp only [mm_stp] at he ⊢; (obtain ⟨a, r, c, rfl, q1, q2, rfl, rfl, rfl, rfl⟩ := mm_len_inv he; exact ⟨L1, by unfold mm_len; (try simp only); rw [q1]; (try simp only); rw [if_pos q2], hl⟩)
  | new n => simp only [mm_stp] at he ⊢; (obtain ⟨q, rfl, rfl, rfl, rfl⟩ := mm_nw_inv he; exact ⟨L1, by unfold mm_nw; rw [if_pos q], hl⟩)
  | newarray n => simp only [mm_stp] at he ⊢; (obtain ⟨n, r, rfl, q1, q2, q3, rfl, rfl, rfl, rfl⟩ := mm_na_inv he; exact ⟨L1, by unfold mm_na; (try simp only); rw [if_pos ⟨q1, q2, q3⟩], hl⟩)
  | anewarray n => simp only [mm_stp] at he ⊢; (obtain ⟨n, r, rfl, q1, q2, q3, rfl, rfl, rfl, rfl⟩ := mm_na_inv he; exact ⟨L1, by unfold mm_na; (try simp only); rw [if_pos ⟨q1, q2, q3⟩], hl⟩)
  | invokespecial n => simp only [mm_stp] at he ⊢; (split at he <;> first | (cases he; done) | (cases he; exact ⟨_, rfl, hl⟩))
  | invokevirtual n => simp only [mm_stp] at he ⊢; (unfold mm_str at he ⊢; split at he <;> first | (cases he; done) | (split at he <;> first | (cases he; done) | (split at he <;> first | (cases he; done) | (rename_i q; cases he; (try simp only); rw [if_pos q]; exact ⟨_, rfl, hl⟩))))
  | _ => cases he
theorem mm_ex_lle {cd : Nat → List mm_E} {Lx : Nat} : ∀ (n k : Nat) (is : List mm_E) (L L1 : mm_L) (st : List Value) (h : mm_H) (r : Option Value × mm_H), mm_ex cd Lx n k is L st h = some r → lle L L1 → mm_ex cd Lx n k is L1 st h = some r := by
  intro n
  induction n with
  | zero => intro k is L L1 st h r he; cases he
  | succ n ih =>
    intro k is L L1 st h r he hl
    unfold mm_ex at he ⊢
    split at he
    · cases he
    · split at he
      · split at he
        · rename_i hs
          obtain ⟨L3, q1, q2⟩ := mm_stp_lle hs hl
          (try simp only); rw [q1]; exact ih _ _ _ _ _ _ _ he q2
        · rename_i hs
          obtain ⟨L3, q1, q2⟩ := mm_stp_lle hs hl
          (try simp only); rw [q1]; exact ih _ _ _ _ _ _ _ he q2
        · cases he
      · split at he
        · rename_i hc
          split at he
          · rename_i hs
            try simp only
            (try rw [if_pos hc]); (try rw [hs])
            exact ih _ _ _ _ _ _ _ he hl
          · cases he
        · cases he
      · exact he
      · cases he
section EvS
variable {Lx k : Nat} {es : List mm_E} {i : Nat} {L L2 : mm_L} {st st2 : List Value} {g g2 : M2} {o : Option Value × M2}
theorem ev_wk (h : Ev Lx k es i L st g o) (hl : lleP L L2) : Ev Lx k es i L2 st g o := by
  obtain ⟨n, hn⟩ := h
  exact ⟨n, mm_ex_lle n k _ L L2 st _ _ hn (lle_of _ _ hl)⟩
theorem ev_dr {e : mm_E} (hf : es[i]? = some e) : es.drop i = e :: es.drop (i + 1) := by
  obtain ⟨hlt, hx⟩ := List.getElem?_eq_some_iff.mp hf
  rw [List.drop_eq_getElem_cons hlt, hx]
theorem ev_st {pc len : Nat} {ins : Instr} {ax : List Nat} (hf : es[i]? = some (pc, ins, len, 0, ax)) (hs : mm_stp Lx ins ax L st (hp g) = some (none, L2, st2, hp g2)) (h : Ev Lx k es (i + 1) L2 st2 g2 o) : Ev Lx k es i L st g o := by
  obtain ⟨n, hn⟩ := h
  refine ⟨n + 1, ?_⟩
  rw [ev_dr hf]
  unfold mm_ex
  try simp only
  rw [hs]
  exact hn
theorem ev_jp {pc len q t : Nat} {ins : Instr} {ax : List Nat} (hcd : cd k = es) (hf : es[i]? = some (pc, ins, len, 0, ax)) (hs : mm_stp Lx ins ax L st (hp g) = some (some q, L2, st2, hp g2)) (ht : ax.getD q 0 = t) (h : Ev Lx k es t L2 st2 g2 o) : Ev Lx k es i L st g o := by
  obtain ⟨n, hn⟩ := h
  refine ⟨n + 1, ?_⟩
  rw [ev_dr hf]
  unfold mm_ex
  try simp only
  rw [hs]
  try simp only
  rw [hcd, ht]
  exact hn
/-- several instructions at once -/
def rn (Lx : Nat) (es : List mm_E) : Nat → Nat → mm_L → List Value → mm_H → Option (Nat × mm_L × List Value × mm_H)
  | 0, i, L, st, h => some (i, L, st, h)
  | n + 1, i, L, st, h => match es[i]? with
    | some (_, ins, _, 0, ax) => (match mm_stp Lx ins ax L st h with
      | some (none, L2, st2, h2) => rn Lx es n (i + 1) L2 st2 h2
      | some (some q, L2, st2, h2) => rn Lx es n (ax.getD q 0) L2 st2 h2
      | none => none)
    | _ => none
theorem rn_ex (hcd : cd k = es) : ∀ (n i : Nat) (L : mm_L) (st : List Value) (h : mm_H) (i2 : Nat) (L2 : mm_L) (st2 : List Value) (h2 : mm_H) (m : Nat) (r : Option Value × mm_H), rn Lx es n i L st h = some (i2, L2, st2, h2) → mm_ex cd Lx m k (es.drop i2) L2 st2 h2 = some r → mm_ex cd Lx (m + n) k (es.drop i) L st h = some r := by
  intro n
  induction n with
  | zero => intro i L st h i2 L2 st2 h2 m r hr he; cases hr; exact he
  | succ n ih =>
    intro i L st h i2 L2 st2 h2 m r hr he
    unfold rn at hr
    split at hr
    · rename_i hf
      split at hr
      · rename_i hs
        have := ih _ _ _ _ _ _ _ _ _ _ hr he
        rw [ev_dr hf, show m + (n + 1) = (m + n) + 1 by omega]
        unfold mm_ex
        try simp only
        rw [hs]
        exact this
      · rename_i hs
        have := ih _ _ _ _ _ _ _ _ _ _ hr he
        rw [ev_dr hf, show m + (n + 1) = (m + n) + 1 by omega]
        unfold mm_ex
        try simp only
        rw [hs]
        try simp only
        rw [hcd]
        exact this
      · cases hr
    · cases hr
theorem ev_rn {n i2 : Nat} (hcd : cd k = es) (hr : rn Lx es n i L st (hp g) = some (i2, L2, st2, hp g2)) (h : Ev Lx k es i2 L2 st2 g2 o) : Ev Lx k es i L st g o := by
  obtain ⟨m, hm⟩ := h
  exact ⟨m + n, rn_ex hcd n i L st (hp g) i2 L2 st2 (hp g2) m _ hr hm⟩
theorem ev_call {pc len k2 n : Nat} {ins : Instr} {ax : List Nat} {es2 : List mm_E} {r : Option Value} {vs rest : List Value} (hf : es[i]? = some (pc, ins, len, 1, k2 :: n :: ax)) (hcd2 : cd k2 = es2) (hc : mm_cok n (ax.getD 0 0) (ax.getD 1 0) st (hp g) = true) (hvs : (st.take n).reverse = vs) (hrs : st.drop n = rest) (h1 : Ev Lx k2 es2 0 (mm_ar vs) [] g (r, g2)) (h : Ev Lx k es (i + 1) L (r.toList ++ rest) g2 o) : Ev Lx k es i L st g o := by
  obtain ⟨n1, hn1⟩ := h1
  obtain ⟨n2, hn2⟩ := h
  refine ⟨n1 + n2 + 1, ?_⟩
  rw [ev_dr hf]
  unfold mm_ex
  try simp only
  rw [if_pos (by exact hc)]
  have e1 : mm_ex cd Lx (n1 + n2) k2 (cd k2) (mm_ar (st.take n).reverse) [] (hp g) = some (r, hp g2) := by
    rw [hcd2, hvs]
    rw [List.drop_zero] at hn1
    exact mm_ex_le2 hn1 (by omega)
  show (match mm_ex cd Lx (n1 + n2) k2 (cd k2) (mm_ar (st.take n).reverse) [] (hp g) with
    | some (r, h2) => mm_ex cd Lx (n1 + n2) k (es.drop (i + 1)) L (r.toList ++ st.drop n) h2
    | none => none) = _
  rw [e1]
  show mm_ex cd Lx (n1 + n2) k (es.drop (i + 1)) L (r.toList ++ st.drop n) (hp g2) = _
  rw [hrs]
  exact mm_ex_le2 hn2 (by omega)
theorem ev_ret {pc len rk : Nat} {ins : Instr} {ax : List Nat} {r : Option Value} (hf : es[i]? = some (pc, ins, len, 2, rk :: ax)) (hr : mm_rt rk st (hp g) = some (r, hp g)) : Ev Lx k es i L st g (r, g) := by
  refine ⟨1, ?_⟩
  rw [ev_dr hf]
  unfold mm_ex
  exact hr
theorem ev_ift {pc len t : Nat} {cn : ClassFile.Cond} {off : Int} {ax : List Nat} {x y : Int32} (hcd : cd k = es) (hf : es[i]? = some (pc, .if_icmp cn off, len, 0, t :: ax)) (hc : mm_cnd cn x y = true) (h : Ev Lx k es t L st g o) : Ev Lx k es i L (.int y :: .int x :: st) g o :=
  ev_jp hcd hf (q := 0) (by simp only [mm_stp, mm_b2, hc, if_true]) rfl h
theorem ev_iff {pc len t : Nat} {cn : ClassFile.Cond} {off : Int} {ax : List Nat} {x y : Int32} (hf : es[i]? = some (pc, .if_icmp cn off, len, 0, t :: ax)) (hc : mm_cnd cn x y = false) (h : Ev Lx k es (i + 1) L st g o) : Ev Lx k es i L (.int y :: .int x :: st) g o :=
  ev_st hf (by simp only [mm_stp, mm_b2, hc, Bool.false_eq_true, if_false]) h
theorem ev_zft {pc len t : Nat} {cn : ClassFile.Cond} {off : Int} {ax : List Nat} {x : Int32} (hcd : cd k = es) (hf : es[i]? = some (pc, .ifCond cn off, len, 0, t :: ax)) (hc : mm_cnd cn x 0 = true) (h : Ev Lx k es t L st g o) : Ev Lx k es i L (.int x :: st) g o :=
  ev_jp hcd hf (q := 0) (by simp only [mm_stp, mm_b1, hc, if_true]) rfl h
theorem ev_zff {pc len t : Nat} {cn : ClassFile.Cond} {off : Int} {ax : List Nat} {x : Int32} (hf : es[i]? = some (pc, .ifCond cn off, len, 0, t :: ax)) (hc : mm_cnd cn x 0 = false) (h : Ev Lx k es (i + 1) L st g o) : Ev Lx k es i L (.int x :: st) g o :=
  ev_st hf (by simp only [mm_stp, mm_b1, hc, Bool.false_eq_true, if_false]) h
theorem ev_gf {pc len ci kf N : Nat} {x : Nat} {ax : List Nat} {a : Nat} {rf : List (Option Nat)} {v : Value} (hf : es[i]? = some (pc, .getfield x, len, 0, ci :: kf :: ax)) (ha : S0[a]? = some (ci, N, rf)) (hk : kf < N) (hv : mm_fv id (mm_ty ci kf) (g.1 a kf) (g.2 a kf) (rf[kf]?.join) = v) (h : Ev Lx k es (i + 1) L (v :: st) g o) : Ev Lx k es i L (.ref a :: st) g o := by
  refine ev_st hf ?_ h
  subst hv
  show mm_gf ci kf L (.ref a :: st) (hp g) = _
  unfold mm_gf
  simp only [ha]
  rw [if_pos ⟨trivial, hk⟩]
theorem ev_pf {pc len ci kf N : Nat} {x : Nat} {ax : List Nat} {a : Nat} {rf : List (Option Nat)} {v : Value} (hf : es[i]? = some (pc, .putfield x, len, 0, ci :: kf :: ax)) (ha : S0[a]? = some (ci, N, rf)) (hk : kf < N) (hw : mm_wr (mm_ty ci kf) v (ci, N, rf) a kf (hp g) = some (hp g2)) (h : Ev Lx k es (i + 1) L st g2 o) : Ev Lx k es i L (v :: .ref a :: st) g o := by
  refine ev_st hf ?_ h
  show mm_pf ci kf L (v :: .ref a :: st) (hp g) = _
  unfold mm_pf
  simp only [ha]
  rw [if_pos ⟨trivial, hk⟩, hw]
abbrev inb (j : Int32) (n : Nat) : Prop := 0 ≤ j ∧ j.toNatClampNeg < n
theorem ev_al {pc len N kd : Nat} {ins : Instr} {ax ks : List Nat} {a : Nat} {j : Int32} {rf : List (Option Nat)} {f : Nat → Nat → mm_C → Value} {v : Value} (hf : es[i]? = some (pc, ins, len, 0, ax)) (hi : ∀ L st, mm_stp Lx ins ax L st (hp g) = mm_al Lx ks f L st (hp g)) (ha : mm_kd Lx (hp g) a = some (kd, N, rf)) (hks : kd ∈ ks) (hj : inb j N) (hv : f a j.toNatClampNeg (kd, N, rf) = v) (h : Ev Lx k es (i + 1) L (v :: st) g o) : Ev Lx k es i L (.int j :: .ref a :: st) g o := by
  refine ev_st hf ?_ h
  subst hv
  rw [hi]
  unfold mm_al
  simp only [ha]
  rw [if_pos ⟨hks, hj.1, hj.2⟩]
theorem ev_as {pc len N kd : Nat} {ins : Instr} {ax ks : List Nat} {a : Nat} {j : Int32} {rf : List (Option Nat)} {f : Value → Nat → Nat → mm_C → Option mm_H} {v : Value} (hf : es[i]? = some (pc, ins, len, 0, ax)) (hi : ∀ L st, mm_stp Lx ins ax L st (hp g) = mm_as ks f L st (hp g)) (ha : S0[a]? = some (kd, N, rf)) (hks : kd ∈ ks) (hj : inb j N) (hv : f v a j.toNatClampNeg (kd, N, rf) = some (hp g2)) (h : Ev Lx k es (i + 1) L st g2 o) : Ev Lx k es i L (v :: .int j :: .ref a :: st) g o := by
  refine ev_st hf ?_ h
  rw [hi]
  unfold mm_as
  simp only [ha]
  rw [if_pos ⟨hks, hj.1, hj.2⟩, hv]
end EvS
/-- a value that gets a name -/
def bd {α β : Type} (x : α) (f : α → β) : β := f x
theorem bd_elim {α β : Type} {x : α} {f : α → β} {b : β} {P : Prop} (h : bd x f = b) (k : ∀ z, z = x → f z = b → P) : P := k x rfl h
/-- a loop: a body says how it goes on (inl), or with what it ends (inr) -/
def lp {S R : Type} (body : S → Option (S ⊕ R)) : Nat → S → Option R
  | 0, _ => none
  | n + 1, s => match body s with
    | some (.inl s2) => lp body n s2
    | some (.inr r) => some r
    | none => none
theorem lp_ind {S R : Type} {body : S → Option (S ⊕ R)} {P : S → Prop} {r : R} (h1 : ∀ s s2, body s = some (.inl s2) → P s2 → P s) (h2 : ∀ s, body s = some (.inr r) → P s) : ∀ (n : Nat) (s : S), lp body n s = some r → P s := by
  intro n
  induction n with
  | zero => intro s h; cases h
  | succ n ih =>
    intro s h
    unfold lp at h
    split at h
    · rename_i s2 hs; exact h1 s s2 hs (ih s2 h)
    · rename_i r2 hs; cases h; exact h2 s hs
    · cases h
def IsNum (a : Nat) : Prop := S0[a]? = some (3, 4, List.replicate 4 none)
theorem num_lit (a : Nat) (h : S0[a]? = some (3, 4, List.replicate 4 none)) : IsNum a := h
abbrev IsPlan (p : Nat) : Prop := p = 3 ∨ p = 7 ∨ p = 73
abbrev IsSol (s : Nat) : Prop := s = 6 ∨ s = 72
abbrev IsStr (q : Nat) : Prop := 1003 ≤ q ∧ q ≤ 1008
def naR (w n : Nat) : List (Option Nat) := (List.range n).map (fun j => some (w + 1 + j))
def IsNA (w n : Nat) : Prop := S0[w]? = some (104, n, naR w n) ∧ ∀ j, j < n → IsNum (w + 1 + j)
theorem na_at {w n : Nat} (h : IsNA w n) : S0[w]? = some (104, n, naR w n) := h.1
theorem na_el {w n j : Nat} (h : IsNA w n) (hj : j < n) : IsNum (w + 1 + j) := h.2 j hj
theorem na_rf {w n j : Nat} (hj : j < n) : va_rf ((naR w n)[j]?.join) = .ref (w + 1 + j) := by
  simp [naR, hj, va_rf]
theorem kd_of {Lx a : Nat} {g : M2} {c : mm_C} (h : S0[a]? = some c) : mm_kd Lx (hp g) a = some c := by
  have hl : a < 172 := (List.getElem?_eq_some_iff.mp h).1
  unfold mm_kd
  rw [if_pos (by omega)]; exact h
theorem pl_at {p : Nat} (h : IsPlan p) : S0[p]? = some (5, 8, [some (p + 1), some (p + 2), none, none, none, none, none, none]) := by rcases h with rfl | rfl | rfl <;> rfl
theorem pl_1 {p : Nat} (h : IsPlan p) : S0[p + 1]? = some (100, 5, List.replicate 5 none) := by rcases h with rfl | rfl | rfl <;> rfl
theorem pl_2 {p : Nat} (h : IsPlan p) : S0[p + 2]? = some (100, 4, List.replicate 4 none) := by rcases h with rfl | rfl | rfl <;> rfl
theorem so_at {s : Nat} (h : IsSol s) : S0[s]? = some (7, 17, [some (s + 1), some (s + 4), some (s + 5), some (s + 6), some (s + 37), some (s + 43), some (s + 49), some (s + 62), some (s + 63), some (s + 64), some (s + 65), none, none, none, none, none, none]) := by rcases h with rfl | rfl <;> rfl
theorem na_12 : IsNA 12 30 := ⟨rfl, by unfold IsNum; decide +kernel⟩
theorem na_43 : IsNA 43 5 := ⟨rfl, by unfold IsNum; decide +kernel⟩
theorem na_49 : IsNA 49 5 := ⟨rfl, by unfold IsNum; decide +kernel⟩
theorem na_55 : IsNA 55 12 := ⟨rfl, by unfold IsNum; decide +kernel⟩
theorem na_78 : IsNA 78 30 := ⟨rfl, by unfold IsNum; decide +kernel⟩
theorem na_109 : IsNA 109 5 := ⟨rfl, by unfold IsNum; decide +kernel⟩
theorem na_115 : IsNA 115 5 := ⟨rfl, by unfold IsNum; decide +kernel⟩
theorem na_121 : IsNA 121 12 := ⟨rfl, by unfold IsNum; decide +kernel⟩
theorem na_139 : IsNA 139 5 := ⟨rfl, by unfold IsNum; decide +kernel⟩
theorem na_145 : IsNA 145 4 := ⟨rfl, by unfold IsNum; decide +kernel⟩
theorem so_1 {s : Nat} (h : IsSol s) : IsPlan (s + 1) := by rcases h with rfl | rfl <;> decide
theorem so_4 {s : Nat} (h : IsSol s) : S0[s + 4]? = some (100, 5, List.replicate 5 none) := by rcases h with rfl | rfl <;> rfl
theorem so_5 {s : Nat} (h : IsSol s) : S0[s + 5]? = some (103, 5, List.replicate 5 none) := by rcases h with rfl | rfl <;> rfl
theorem so_6 {s : Nat} (h : IsSol s) : IsNA (s + 6) 30 := by
  rcases h with rfl | rfl
  · exact na_12
  · exact na_78
theorem so_37 {s : Nat} (h : IsSol s) : IsNA (s + 37) 5 := by
  rcases h with rfl | rfl
  · exact na_43
  · exact na_109
theorem so_43 {s : Nat} (h : IsSol s) : IsNA (s + 43) 5 := by
  rcases h with rfl | rfl
  · exact na_49
  · exact na_115
theorem so_49 {s : Nat} (h : IsSol s) : IsNA (s + 49) 12 := by
  rcases h with rfl | rfl
  · exact na_55
  · exact na_121
theorem so_62 {s : Nat} (h : IsSol s) : S0[s + 62]? = some (101, 12, List.replicate 12 none) := by rcases h with rfl | rfl <;> rfl
theorem so_63 {s : Nat} (h : IsSol s) : S0[s + 63]? = some (101, 12, List.replicate 12 none) := by rcases h with rfl | rfl <;> rfl
theorem so_64 {s : Nat} (h : IsSol s) : IsNum (s + 64) := by rcases h with rfl | rfl <;> rfl
theorem so_65 {s : Nat} (h : IsSol s) : IsNum (s + 65) := by rcases h with rfl | rfl <;> rfl
theorem rt_0 {h : mm_H} : mm_rt 2 [.int (0 : Int32)] h = some (some (.int (0 : Int32)), h) := rfl
theorem rt_1 {h : mm_H} : mm_rt 2 [.int (1 : Int32)] h = some (some (.int (1 : Int32)), h) := rfl
theorem cokV {n ci mx : Nat} {st : List Value} {h : mm_H} {a : Nat} {c : mm_C} (h1 : (decide (n ≤ st.length) && decide ((st.drop n).length ≤ 4) && (st.take n).all (fun v => decide (mm_tag v ≤ 2)) && decide ((mm_ar (st.take n).reverse).length ≤ mx)) = true) (h2 : st[n - 1]? = some (.ref a)) (h3 : h.1[a]? = some c) (h4 : c.1 = ci) : mm_cok n (ci + 1) mx st h = true := by
  unfold mm_cok
  rw [h1]
  simp only [h2, h3, h4, decide_true, Bool.and_self]
section EvT
variable {Lx k : Nat} {es : List mm_E} {i : Nat} {L : mm_L} {st : List Value} {g : M2} {o : Option Value × M2}
theorem ev_len {pc len N kd a : Nat} {ax : List Nat} {rf : List (Option Nat)} (hf : es[i]? = some (pc, .arraylength, len, 0, ax)) (ha : S0[a]? = some (kd, N, rf)) (hk : 100 ≤ kd ∧ kd ≤ 104) (h : Ev Lx k es (i + 1) L (.int (OfNat.ofNat N) :: st) g o) : Ev Lx k es i L (.ref a :: st) g o := by
  refine ev_st hf ?_ h
  show mm_len Lx L (.ref a :: st) (hp g) = _
  unfold mm_len
  simp only [kd_of ha]
  rw [if_pos hk]; rfl
theorem ev_sl {pc len x q w : Nat} (hf : es[i]? = some (pc, .invokevirtual x, len, 0, [0, w])) (hn : st.length ≤ 4) (hq : IsStr q) (h : Ev Lx k es (i + 1) L (.int (nI (mm_tx q).length) :: st) g o) : Ev Lx k es i L (.ref q :: st) g o := by
  refine ev_st hf ?_ h
  show mm_str [0, w] L (.ref q :: st) (hp g) = _
  unfold mm_str
  simp only
  rw [if_pos ⟨hn, hq⟩]
theorem ev_sc {pc len x q w : Nat} {j : Int32} (hf : es[i]? = some (pc, .invokevirtual x, len, 0, [1, w])) (hn : st.length ≤ 4) (hq : IsStr q) (hj : inb j (mm_tx q).length) (h : Ev Lx k es (i + 1) L (.int (nI ((mm_tx q).getD j.toNatClampNeg 0)) :: st) g o) : Ev Lx k es i L (.int j :: .ref q :: st) g o := by
  refine ev_st hf ?_ h
  show mm_str [1, w] L (.int j :: .ref q :: st) (hp g) = _
  unfold mm_str
  simp only
  rw [if_pos ⟨hn, hq.1, hq.2, hj.1, hj.2⟩]
theorem ev_swi {pc len q t : Nat} {d lo hi : Int} {offs : Array Int} {ax : List Nat} {x v : Int32} (hcd : cd k = es) (hf : es[i]? = some (pc, .tableswitch d lo hi offs, len, 0, ax)) (hx : x = v) (hs : mm_sw lo hi L (.int v :: st) (hp g) = some (some q, L, st, hp g)) (ht : ax.getD q 0 = t) (h : Ev Lx k es t L st g o) : Ev Lx k es i L (.int x :: st) g o := by
  subst hx
  exact ev_jp hcd hf hs ht h
theorem ev_swo {pc len t : Nat} {d lo hi : Int} {offs : Array Int} {ax : List Nat} {x : Int32} (hcd : cd k = es) (hf : es[i]? = some (pc, .tableswitch d lo hi offs, len, 0, t :: ax)) (hx : x.toInt < lo ∨ hi < x.toInt) (h : Ev Lx k es t L st g o) : Ev Lx k es i L (.int x :: st) g o := by
  refine ev_jp hcd hf (q := 0) ?_ rfl h
  show mm_sw lo hi L (.int x :: st) (hp g) = _
  simp only [mm_sw, if_pos hx]
theorem ev_idiv {pc len : Nat} {ax : List Nat} {x y : Int32} (hf : es[i]? = some (pc, .idiv, len, 0, ax)) (hne : ¬ y = 0) (h : Ev Lx k es (i + 1) L (.int (x / y) :: st) g o) : Ev Lx k es i L (.int y :: .int x :: st) g o := by
  refine ev_st hf ?_ h
  simp only [mm_stp, mm_i2d]
  rw [if_neg hne]
theorem ev_irem {pc len : Nat} {ax : List Nat} {x y : Int32} (hf : es[i]? = some (pc, .irem, len, 0, ax)) (hne : ¬ y = 0) (h : Ev Lx k es (i + 1) L (.int (x - x / y * y) :: st) g o) : Ev Lx k es i L (.int y :: .int x :: st) g o := by
  refine ev_st hf ?_ h
  simp only [mm_stp, mm_i2d]
  rw [if_neg hne]
theorem ev_ldiv {pc len : Nat} {ax : List Nat} {x y : Int64} (hf : es[i]? = some (pc, .ldiv, len, 0, ax)) (hne : ¬ y = 0) (h : Ev Lx k es (i + 1) L (.long (x / y) :: st) g o) : Ev Lx k es i L (.long y :: .long x :: st) g o := by
  refine ev_st hf ?_ h
  simp only [mm_stp, mm_j2d]
  rw [if_neg hne]
theorem ev_lrem {pc len : Nat} {ax : List Nat} {x y : Int64} (hf : es[i]? = some (pc, .lrem, len, 0, ax)) (hne : ¬ y = 0) (h : Ev Lx k es (i + 1) L (.long (x - x / y * y) :: st) g o) : Ev Lx k es i L (.long y :: .long x :: st) g o := by
  refine ev_st hf ?_ h
  simp only [mm_stp, mm_j2d]
  rw [if_neg hne]
theorem ev_iaload {pc len N kd a : Nat} {ax : List Nat} {j : Int32} {rf : List (Option Nat)} {v : Value} (hf : es[i]? = some (pc, .iaload, len, 0, ax)) (ha : mm_kd Lx (hp g) a = some (kd, N, rf)) (hks : kd ∈ [100]) (hj : inb j N) (hv : ((fun a j _ => .int (g.1 a j)) a j.toNatClampNeg (kd, N, rf) : Value) = v) (h : Ev Lx k es (i + 1) L (v :: st) g o) : Ev Lx k es i L (.int j :: .ref a :: st) g o :=
  ev_al (ks := [100]) (f := fun a j _ => .int (g.1 a j)) hf (fun _ _ => rfl) ha hks hj hv h
theorem ev_baload {pc len N kd a : Nat} {ax : List Nat} {j : Int32} {rf : List (Option Nat)} {v : Value} (hf : es[i]? = some (pc, .baload, len, 0, ax)) (ha : mm_kd Lx (hp g) a = some (kd, N, rf)) (hks : kd ∈ [102, 103]) (hj : inb j N) (hv : ((fun a j _ => .int (g.1 a j)) a j.toNatClampNeg (kd, N, rf) : Value) = v) (h : Ev Lx k es (i + 1) L (v :: st) g o) : Ev Lx k es i L (.int j :: .ref a :: st) g o :=
  ev_al (ks := [102, 103]) (f := fun a j _ => .int (g.1 a j)) hf (fun _ _ => rfl) ha hks hj hv h
theorem ev_laload {pc len N kd a : Nat} {ax : List Nat} {j : Int32} {rf : List (Option Nat)} {v : Value} (hf : es[i]? = some (pc, .laload, len, 0, ax)) (ha : mm_kd Lx (hp g) a = some (kd, N, rf)) (hks : kd ∈ [101]) (hj : inb j N) (hv : ((fun a j _ => .long (g.2 a j)) a j.toNatClampNeg (kd, N, rf) : Value) = v) (h : Ev Lx k es (i + 1) L (v :: st) g o) : Ev Lx k es i L (.int j :: .ref a :: st) g o :=
  ev_al (ks := [101]) (f := fun a j _ => .long (g.2 a j)) hf (fun _ _ => rfl) ha hks hj hv h
theorem ev_aaload {pc len N kd a : Nat} {ax : List Nat} {j : Int32} {rf : List (Option Nat)} {v : Value} (hf : es[i]? = some (pc, .aaload, len, 0, ax)) (ha : mm_kd Lx (hp g) a = some (kd, N, rf)) (hks : kd ∈ [104]) (hj : inb j N) (hv : ((fun _ j c => va_rf (c.2.2[j]?.join)) a j.toNatClampNeg (kd, N, rf) : Value) = v) (h : Ev Lx k es (i + 1) L (v :: st) g o) : Ev Lx k es i L (.int j :: .ref a :: st) g o :=
  ev_al (ks := [104]) (f := fun _ j c => va_rf (c.2.2[j]?.join)) hf (fun _ _ => rfl) ha hks hj hv h
theorem ev_iastore {pc len N kd a : Nat} {ax : List Nat} {j : Int32} {x : Int32} {g2 : M2} {rf : List (Option Nat)} (hf : es[i]? = some (pc, .iastore, len, 0, ax)) (ha : S0[a]? = some (kd, N, rf)) (hks : kd ∈ [100]) (hj : inb j N) (hv : uI g a j.toNatClampNeg x = g2) (h : Ev Lx k es (i + 1) L st g2 o) : Ev Lx k es i L (.int x :: .int j :: .ref a :: st) g o := by
  subst hv
  refine ev_st hf ?_ h
  simp only [mm_stp, mm_as, ha]
  rw [if_pos ⟨hks, hj.1, hj.2⟩]
  rfl
theorem ev_lastore {pc len N kd a : Nat} {ax : List Nat} {j : Int32} {x : Int64} {g2 : M2} {rf : List (Option Nat)} (hf : es[i]? = some (pc, .lastore, len, 0, ax)) (ha : S0[a]? = some (kd, N, rf)) (hks : kd ∈ [101]) (hj : inb j N) (hv : uJ g a j.toNatClampNeg x = g2) (h : Ev Lx k es (i + 1) L st g2 o) : Ev Lx k es i L (.long x :: .int j :: .ref a :: st) g o := by
  subst hv
  refine ev_st hf ?_ h
  simp only [mm_stp, mm_as, ha]
  rw [if_pos ⟨hks, hj.1, hj.2⟩]
  rfl
theorem ev_bastore {pc len N kd a : Nat} {ax : List Nat} {j : Int32} {x : Int32} {g2 : M2} {rf : List (Option Nat)} (hf : es[i]? = some (pc, .bastore, len, 0, ax)) (ha : S0[a]? = some (kd, N, rf)) (hks : kd ∈ [102, 103]) (hj : inb j N) (hv : uI g a j.toNatClampNeg (if kd = 102 then x.toInt8.toInt32 else x &&& 1) = g2) (h : Ev Lx k es (i + 1) L st g2 o) : Ev Lx k es i L (.int x :: .int j :: .ref a :: st) g o := by
  subst hv
  refine ev_st hf ?_ h
  simp only [mm_stp, mm_as, ha]
  rw [if_pos ⟨hks, hj.1, hj.2⟩]
  rfl
theorem ev_pfz {pc len ci kf N : Nat} {x : Nat} {ax : List Nat} {a : Nat} {rf : List (Option Nat)} {v : Int32} (hf : es[i]? = some (pc, .putfield x, len, 0, ci :: kf :: ax)) (ha : S0[a]? = some (ci, N, rf)) (hk : kf < N) (ht : mm_ty ci kf = .boolean) (hv : v = 0 ∨ v = 1) (h : Ev Lx k es (i + 1) L st (uI g a kf v) o) : Ev Lx k es i L (.int v :: .ref a :: st) g o := by
  refine ev_pf hf ha hk ?_ h
  rw [ht]
  exact if_pos hv
end EvT
theorem lc_ieq {x y : Int64} : lg_cmp x y = 0 ↔ x = y := lg_cmp_eq x y
theorem lc_ilt {x y : Int64} : lg_cmp x y < 0 ↔ x < y := lg_cmp_lt x y
theorem lc_igt {x y : Int64} : 0 < lg_cmp x y ↔ y < x := lg_cmp_gt x y
theorem lc_ile {x y : Int64} : lg_cmp x y ≤ 0 ↔ x ≤ y := lg_cmp_le x y
theorem lc_ige {x y : Int64} : 0 ≤ lg_cmp x y ↔ y ≤ x := lg_cmp_ge x y
theorem lc_eq_t {x y : Int64} (h : x = y) : mm_cnd .eq (lg_cmp x y) 0 = true := decide_eq_true (lc_ieq.mpr h)
theorem lc_eq_f {x y : Int64} (h : ¬ x = y) : mm_cnd .eq (lg_cmp x y) 0 = false := decide_eq_false (fun q => h (lc_ieq.mp q))
theorem lc_lt_t {x y : Int64} (h : x < y) : mm_cnd .lt (lg_cmp x y) 0 = true := decide_eq_true (lc_ilt.mpr h)
theorem lc_lt_f {x y : Int64} (h : ¬ x < y) : mm_cnd .lt (lg_cmp x y) 0 = false := decide_eq_false (fun q => h (lc_ilt.mp q))
theorem lc_gt_t {x y : Int64} (h : y < x) : mm_cnd .gt (lg_cmp x y) 0 = true := decide_eq_true (lc_igt.mpr h)
theorem lc_gt_f {x y : Int64} (h : ¬ y < x) : mm_cnd .gt (lg_cmp x y) 0 = false := decide_eq_false (fun q => h (lc_igt.mp q))
theorem lc_le_t {x y : Int64} (h : x ≤ y) : mm_cnd .le (lg_cmp x y) 0 = true := decide_eq_true (lc_ile.mpr h)
theorem lc_le_f {x y : Int64} (h : ¬ x ≤ y) : mm_cnd .le (lg_cmp x y) 0 = false := decide_eq_false (fun q => h (lc_ile.mp q))
theorem lc_ge_t {x y : Int64} (h : y ≤ x) : mm_cnd .ge (lg_cmp x y) 0 = true := decide_eq_true (lc_ige.mpr h)
theorem lc_ge_f {x y : Int64} (h : ¬ y ≤ x) : mm_cnd .ge (lg_cmp x y) 0 = false := decide_eq_false (fun q => h (lc_ige.mp q))
theorem lc_ne_t {x y : Int64} (h : ¬ x = y) : mm_cnd .ne (lg_cmp x y) 0 = true := decide_eq_true (fun q => h (lc_ieq.mp q))
theorem lc_ne_f {x y : Int64} (h : x = y) : mm_cnd .ne (lg_cmp x y) 0 = false := decide_eq_false (fun q => q (lc_ieq.mpr h))
theorem cn_t {p : Prop} [Decidable p] (h : p) : decide p = true := decide_eq_true h
theorem cn_f {p : Prop} [Decidable p] (h : ¬ p) : decide p = false := decide_eq_false h
