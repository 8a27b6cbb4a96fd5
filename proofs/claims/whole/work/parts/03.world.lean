/-! the small machine's heap as a world of the kit -/
def mm_ph (B : Nat) (od : Nat → Nat) (a : Nat) : Nat := if a < 1000 then B + a else od a
def mm_arr (f : Nat → Nat) (h : mm_H) (a : Nat) (c : mm_C) : (Nat → Int32) ⊕ (Nat → Int64) ⊕ (Nat → UInt32) ⊕ (Nat → UInt64) ⊕ (Nat → Option Nat) :=
  if c.1 = 101 then .inr (.inl (h.2.2 a)) else if c.1 = 104 then .inr (.inr (.inr (.inr (fun k => (c.2.2[k]?.join).map f)))) else .inl (h.2.1 a)
def mm_fs (f : Nat → Nat) (h : mm_H) (a : Nat) (c : mm_C) : List Value := (List.range c.2.1).map (fun k => mm_fv f (mm_ty c.1 k) (h.2.1 a k) (h.2.2 a k) (c.2.2[k]?.join))
def mm_ent (f : Nat → Nat) (dA : Nat → ClassId) (h : mm_H) (a : Nat) (c : mm_C) : va_E :=
  if c.1 < 100 then .inr (c.1, mm_fs f h a c) else .inl (dA c.1, c.2.1, mm_arr f h a c)
def mm_ws (B : Nat) (f : Nat → Nat) (dA : Nat → ClassId) (h : mm_H) : va_W := h.1.mapIdx (fun a c => (B + a, mm_ent f dA h a c))
def mm_tys (dA : Nat → ClassId) : List (ClassId × FieldType) := [(dA 100, .int), (dA 101, .long), (dA 102, .byte), (dA 103, .boolean), (dA 104, .object RX3)]
def mm_pw (j : Nat) : Int32 := ([1, 0, 0, 0, 0, 1, 0, 0, 0, 0, 1, 0, 0, 0, 0, 1, -1, 0, 1, 0, 0, -1, 0, 1] : List Int32).getD j 0
/-- the world: the cells lie from B on, the script and the table of powers are where od says -/
def mm_Wd (B : Nat) (od : Nat → Nat) (D : va_G) (dA : Nat → ClassId) (xs : Nat → Int32) (h : mm_H) (H : Heap) : Prop :=
  va_P D mm_cls (mm_ws B (mm_ph B od) dA h) H ∧ h.1.length ≤ 1000 ∧ (∀ j, h.2.1 1001 j = xs j) ∧ ∀ j, j < 24 → h.2.1 1002 j = mm_pw j
abbrev mm_A (B : Nat) : Nat → Prop := fun q => B ≤ q
theorem mm_ws_at {B : Nat} {f : Nat → Nat} {dA : Nat → ClassId} {h : mm_H} {a : Nat} {c : mm_C} (hc : h.1[a]? = some c) : (mm_ws B f dA h)[a]? = some (B + a, mm_ent f dA h a c) := by
  simp [mm_ws, hc]
theorem mm_ws_len {B : Nat} {f : Nat → Nat} {dA : Nat → ClassId} {h : mm_H} : (mm_ws B f dA h).length = h.1.length := by simp [mm_ws]
theorem mm_wsD {B : Nat} {f : Nat → Nat} {dA : Nat → ClassId} {h : mm_H} : va_D (mm_A B) (mm_ws B f dA h) := by
  refine ⟨fun i j x y hx hy hxy => ?_, fun k q hq => ?_⟩
  · simp only [mm_ws, List.getElem?_mapIdx, Option.map_eq_some_iff] at hx hy
    obtain ⟨c1, -, rfl⟩ := hx
    obtain ⟨c2, -, rfl⟩ := hy
    simp only at hxy
    omega
  · simp only [mm_ws, List.getElem?_mapIdx, Option.map_eq_some_iff] at hq
    obtain ⟨c1, -, rfl⟩ := hq
    show B ≤ B + k
    omega
theorem mm_ent_far {f : Nat → Nat} {dA : Nat → ClassId} {h h2 : mm_H} {b : Nat} {c : mm_C} (hI : h2.2.1 b = h.2.1 b) (hJ : h2.2.2 b = h.2.2 b) : mm_ent f dA h2 b c = mm_ent f dA h b c := by
  simp only [mm_ent, mm_fs, mm_arr, hI, hJ]
theorem mm_ws_set {B : Nat} {f : Nat → Nat} {dA : Nat → ClassId} {h h2 : mm_H} {a : Nat} {c c2 : mm_C} (hc : h.1[a]? = some c) (h1 : h2.1 = h.1.set a c2) (hI : ∀ b, b ≠ a → h2.2.1 b = h.2.1 b) (hJ : ∀ b, b ≠ a → h2.2.2 b = h.2.2 b) :
    mm_ws B f dA h2 = (mm_ws B f dA h).set a (B + a, mm_ent f dA h2 a c2) := by
  have hlt : a < h.1.length := (List.getElem?_eq_some_iff.mp hc).1
  apply List.ext_getElem?
  intro i
  by_cases hi : i = a
  · subst hi
    rw [List.getElem?_set_self (by rw [mm_ws_len]; exact hlt)]
    exact mm_ws_at (by rw [h1, List.getElem?_set_self hlt])
  · rw [List.getElem?_set_ne (fun e => hi e.symm)]
    simp only [mm_ws, List.getElem?_mapIdx, h1]
    rw [List.getElem?_set_ne (fun e => hi e.symm)]
    cases h.1[i]? with
    | none => rfl
    | some d => simp only [Option.map_some]; rw [mm_ent_far (hI i hi) (hJ i hi)]
theorem mm_ws_grow {B : Nat} {f : Nat → Nat} {dA : Nat → ClassId} {h : mm_H} {c : mm_C} : mm_ws B f dA (mm_grow h c) = mm_ws B f dA h ++ [(B + h.1.length, mm_ent f dA (mm_grow h c) h.1.length c)] := by
  apply List.ext_getElem?
  intro i
  by_cases hi : i < h.1.length
  · rw [List.getElem?_append_left (by rw [mm_ws_len]; exact hi)]
    simp only [mm_ws, List.getElem?_mapIdx]
    rw [show (mm_grow h c).1 = h.1 ++ [c] from rfl, List.getElem?_append_left hi]
    cases h.1[i]? with
    | none => rfl
    | some d =>
      simp only [Option.map_some]
      rw [mm_ent_far (h := h) (h2 := mm_grow h c) (by simp only [mm_grow, if_neg (Nat.ne_of_lt hi)]) (by simp only [mm_grow, if_neg (Nat.ne_of_lt hi)])]
  · rw [List.getElem?_append_right (by rw [mm_ws_len]; omega), mm_ws_len]
    simp only [mm_ws, List.getElem?_mapIdx]
    rw [show (mm_grow h c).1 = h.1 ++ [c] from rfl, List.getElem?_append_right (by omega)]
    cases hz : i - h.1.length with
    | zero =>
      have hi2 : i = h.1.length := by omega
      subst hi2
      simp
    | succ n => simp
theorem mm_uI_ne {I : Nat → Nat → Int32} {a k b : Nat} {x : Int32} (hb : b ≠ a) : mm_uI I a k x b = I b := by simp [mm_uI, hb]
theorem mm_uJ_ne {J : Nat → Nat → Int64} {a k b : Nat} {x : Int64} (hb : b ≠ a) : mm_uJ J a k x b = J b := by simp [mm_uJ, hb]
theorem mm_uI_eq {I : Nat → Nat → Int32} {a k : Nat} {x : Int32} : mm_uI I a k x a = upd (I a) k x := by simp [mm_uI]
theorem mm_uJ_eq {J : Nat → Nat → Int64} {a k : Nat} {x : Int64} : mm_uJ J a k x a = vp_updL (J a) k x := by simp [mm_uJ]
theorem mm_rv_rf {f : Nat → Nat} (r : Option Nat) : mm_rv f (va_rf r) = va_rf (r.map f) := by cases r <;> rfl
theorem mm_rv_fv {f : Nat → Nat} {ty : FieldType} {i : Int32} {j : Int64} {r : Option Nat} : mm_rv f (mm_fv id ty i j r) = mm_fv f ty i j r := by
  cases ty <;> simp [mm_fv, mm_rv_rf] <;> rfl
theorem mm_fs_at {f : Nat → Nat} {h : mm_H} {a : Nat} {c : mm_C} {k : Nat} (hk : k < c.2.1) : (mm_fs f h a c)[k]? = some (mm_fv f (mm_ty c.1 k) (h.2.1 a k) (h.2.2 a k) (c.2.2[k]?.join)) := by
  simp [mm_fs, hk]
theorem mm_fs_len {f : Nat → Nat} {h : mm_H} {a : Nat} {c : mm_C} : (mm_fs f h a c).length = c.2.1 := by simp [mm_fs]
theorem mm_fs_set {f : Nat → Nat} {h h2 : mm_H} {a k : Nat} {c c2 : mm_C} {v : Value} (hc : c2.1 = c.1 ∧ c2.2.1 = c.2.1) (hk : k < c.2.1) (hv : mm_fv f (mm_ty c.1 k) (h2.2.1 a k) (h2.2.2 a k) (c2.2.2[k]?.join) = v) (ho : ∀ j, j ≠ k → h2.2.1 a j = h.2.1 a j ∧ h2.2.2 a j = h.2.2 a j ∧ c2.2.2[j]?.join = c.2.2[j]?.join) : mm_fs f h2 a c2 = (mm_fs f h a c).set k v := by
  apply List.ext_getElem?
  intro i
  by_cases hi : i = k
  · subst hi
    rw [List.getElem?_set_self (by rw [mm_fs_len]; exact hk), mm_fs_at (by rw [hc.2]; exact hk), hc.1, hv]
  · rw [List.getElem?_set_ne (fun e => hi e.symm)]
    obtain ⟨q1, q2, q3⟩ := ho i hi
    by_cases hl : i < c.2.1
    · rw [mm_fs_at hl, mm_fs_at (by rw [hc.2]; exact hl), hc.1, q1, q2, q3]
    · rw [List.getElem?_eq_none (show (mm_fs f h a c).length ≤ i by rw [mm_fs_len]; omega), List.getElem?_eq_none (show (mm_fs f h2 a c2).length ≤ i by rw [mm_fs_len, hc.2]; omega)]
/-! locals -/
def mm_lR (f : Nat → Nat) (L : mm_L) (ls : Array Slot) (nL : Nat) : Prop := ls.size = nL ∧ lv_wf ls ∧ ∀ (i : Nat) (v : Value), L[i]? = some (some v) → ls[i]? = some (.val (mm_rv f v))
def mm_al0 (f : Nat → Nat) (L : mm_L) : List (Nat × Value) := (List.range L.length).filterMap (fun i => match L[i]? with
  | some (some v) => some (i, mm_rv f v)
  | _ => none)
theorem mm_al0_mem {f : Nat → Nat} {L : mm_L} {i : Nat} {w : Value} : (i, w) ∈ mm_al0 f L ↔ ∃ v, L[i]? = some (some v) ∧ w = mm_rv f v := by
  simp only [mm_al0, List.mem_filterMap, List.mem_range]
  constructor
  · rintro ⟨j, hj, h⟩
    split at h
    · rename_i v hv
      cases h
      exact ⟨v, hv, rfl⟩
    · cases h
  · rintro ⟨v, hv, rfl⟩
    exact ⟨i, (List.getElem?_eq_some_iff.mp hv).1, by rw [hv]⟩
theorem mm_lR_has {f : Nat → Nat} {L : mm_L} {ls : Array Slot} {nL : Nat} (h : mm_lR f L ls nL) : lv_has ls nL (mm_al0 f L) := by
  refine ⟨h.1, h.2.1, fun q hq => ?_⟩
  obtain ⟨i, w⟩ := q
  obtain ⟨v, hv, rfl⟩ := mm_al0_mem.mp hq
  exact h.2.2 i v hv
theorem mm_lR_get {f : Nat → Nat} {L : mm_L} {ls : Array Slot} {nL : Nat} (h : mm_lR f L ls nL) {i : Nat} {v : Value} (hv : mm_get L i = some v) : ls[i]? = some (.val (mm_rv f v)) := by
  refine h.2.2 i v ?_
  unfold mm_get at hv
  cases hL : L[i]? with
  | none => rw [hL] at hv; cases hv
  | some o => rw [hL] at hv; exact congrArg some hv
theorem mm_rv_cat {f : Nat → Nat} (v : Value) : (mm_rv f v).category = v.category := by cases v <;> rfl
theorem mm_pad_get {L : mm_L} {n i : Nat} {v : Value} (h : (mm_pad L n)[i]? = some (some v)) : L[i]? = some (some v) := by
  unfold mm_pad at h
  by_cases hi : i < L.length
  · rwa [List.getElem?_append_left hi] at h
  · rw [List.getElem?_append_right (by omega)] at h
    have := List.mem_of_getElem? h
    rw [List.mem_replicate] at this
    cases this.2
theorem mm_clr_get {L : mm_L} {i j : Nat} {v : Value} (h : (mm_clr L i)[j]? = some (some v)) : L[j]? = some (some v) ∧ ¬ (j + 1 = i ∧ v.category = 2 ∧ ∃ x, v = .long x) := by
  cases i with
  | zero => exact ⟨h, fun q => by omega⟩
  | succ n =>
    simp only [mm_clr] at h
    split at h
    · rename_i x hx
      by_cases hj : j = n
      · subst hj
        rw [List.getElem?_set_self (List.getElem?_eq_some_iff.mp hx).1] at h
        cases h
      · rw [List.getElem?_set_ne (fun e => hj e.symm)] at h
        exact ⟨h, fun q => hj (by omega)⟩
    · rename_i hx
      refine ⟨h, fun q => ?_⟩
      obtain ⟨q1, -, x, rfl⟩ := q
      have : j = n := by omega
      subst this
      exact hx x h
/-- only these values come into the small machine's locals -/
def mm_ok (v : Value) : Prop := v.category = 2 → ∃ x, v = .long x
def mm_okL (L : mm_L) : Prop := ∀ (i : Nat) (v : Value), L[i]? = some (some v) → mm_ok v
theorem mm_tag_ok {v : Value} {t : Nat} (h : mm_tag v = t) (ht : t ≤ 2) : mm_ok v := by
  intro hc
  cases v <;> simp [mm_tag] at h <;> simp [Value.category] at hc <;> first | exact ⟨_, rfl⟩ | omega
theorem mm_lR_put1 {f : Nat → Nat} {L : mm_L} {ls : Array Slot} {nL i : Nat} {v : Value} (hO : mm_okL L) (hc : v.category = 1) (h : lv_has ls nL ((i, mm_rv f v) :: (mm_al0 f L).filter (fun q => !(q.1 == i) && !(q.1 + 1 == i && q.2.category == 2)))) : mm_lR f (mm_put L i v) ls nL := by
  refine ⟨h.1, h.2.1, fun j w hw => ?_⟩
  have hp : mm_put L i v = (mm_pad (mm_clr L i) (i + 1)).set i (some v) := by cases v <;> simp [mm_put] at hc ⊢ <;> cases hc
  rw [hp] at hw
  by_cases hj : j = i
  · subst hj
    rw [List.getElem?_set_self (by simp [mm_pad]; omega)] at hw
    cases hw
    exact h.2.2 (j, mm_rv f v) List.mem_cons_self
  · rw [List.getElem?_set_ne (fun e => hj e.symm)] at hw
    obtain ⟨h1, h2⟩ := mm_clr_get (mm_pad_get hw)
    refine h.2.2 (j, mm_rv f w) (List.mem_cons_of_mem _ (List.mem_filter.mpr ⟨mm_al0_mem.mpr ⟨w, h1, rfl⟩, ?_⟩))
    simp only [mm_rv_cat, Bool.and_eq_true, Bool.not_eq_true', beq_eq_false_iff_ne, Bool.and_eq_false_iff, ne_eq]
    refine ⟨hj, ?_⟩
    by_cases hq : j + 1 = i
    · exact Or.inr (fun hcw => h2 ⟨hq, hcw, hO j w h1 hcw⟩)
    · exact Or.inl hq
theorem mm_lR_put2 {f : Nat → Nat} {L : mm_L} {ls : Array Slot} {nL i : Nat} {x : Int64} (hO : mm_okL L) (h : lv_has ls nL ((i, .long x) :: (mm_al0 f L).filter (fun q => !(q.1 == i) && (!(q.1 == i + 1) && !(q.1 + 1 == i && q.2.category == 2))))) : mm_lR f (mm_put L i (.long x)) ls nL := by
  refine ⟨h.1, h.2.1, fun j w hw => ?_⟩
  have hp : mm_put L i (.long x) = ((mm_pad (mm_clr L i) (i + 2)).set i (some (.long x))).set (i + 1) none := rfl
  rw [hp] at hw
  by_cases hj : j = i
  · subst hj
    rw [List.getElem?_set_ne (by omega), List.getElem?_set_self (by simp [mm_pad]; omega)] at hw
    cases hw
    exact h.2.2 (j, .long x) List.mem_cons_self
  · by_cases hj2 : j = i + 1
    · subst hj2
      rw [List.getElem?_set_self (by simp [mm_pad]; omega)] at hw
      cases hw
    · rw [List.getElem?_set_ne (fun e => hj2 e.symm), List.getElem?_set_ne (fun e => hj e.symm)] at hw
      obtain ⟨h1, h2⟩ := mm_clr_get (mm_pad_get hw)
      refine h.2.2 (j, mm_rv f w) (List.mem_cons_of_mem _ (List.mem_filter.mpr ⟨mm_al0_mem.mpr ⟨w, h1, rfl⟩, ?_⟩))
      simp only [mm_rv_cat, Bool.and_eq_true, Bool.not_eq_true', beq_eq_false_iff_ne, Bool.and_eq_false_iff, ne_eq]
      refine ⟨hj, hj2, ?_⟩
      by_cases hq : j + 1 = i
      · exact Or.inr (fun hcw => h2 ⟨hq, hcw, hO j w h1 hcw⟩)
      · exact Or.inl hq
theorem mm_okL_put {L : mm_L} {i : Nat} {v : Value} (hO : mm_okL L) (hv : mm_ok v) : mm_okL (mm_put L i v) := by
  intro j w hw
  have key : ∀ n, ((mm_pad (mm_clr L i) n).set i (some v))[j]? = some (some w) → mm_ok w := by
    intro n hw
    by_cases hj : j = i
    · subst hj
      by_cases hl : j < (mm_pad (mm_clr L j) n).length
      · rw [List.getElem?_set_self hl] at hw
        cases hw
        exact hv
      · rw [List.getElem?_eq_none (by rw [List.length_set]; omega)] at hw
        cases hw
    · rw [List.getElem?_set_ne (fun e => hj e.symm)] at hw
      exact hO j w (mm_clr_get (mm_pad_get hw)).1
  have two : ∀ n, (((mm_pad (mm_clr L i) n).set i (some v)).set (i + 1) none)[j]? = some (some w) → mm_ok w := by
    intro n hw
    by_cases hj : j = i + 1
    · subst hj
      by_cases hl : i + 1 < ((mm_pad (mm_clr L i) n).set i (some v)).length
      · rw [List.getElem?_set_self hl] at hw
        cases hw
      · rw [List.getElem?_eq_none (by rw [List.length_set]; omega)] at hw
        cases hw
    · rw [List.getElem?_set_ne (fun e => hj e.symm)] at hw
      exact key n hw
  unfold mm_put at hw
  split at hw
  · exact two _ hw
  · exact key _ hw
