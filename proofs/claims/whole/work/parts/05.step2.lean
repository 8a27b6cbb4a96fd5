section Step
variable {p : Program} {l : Launch} {e : Env} {R : Room} {s : State} {m : MethodId} {args : Array Value} {below : List Frame} {meth : Method} {c : Code} {H : Heap} {locs : List Loc} {cells slots : Nat} {Q : State → Prop}
variable {cc : ByteArray} {B : Nat} {od : Nat → Nat} {D : va_G} {dA : Nat → ClassId} {Lx : Nat} {xs : Nat → Int32} {own : String} {nL : Nat} {ini : Bool}
theorem mm_Wd_set {a : Nat} {c0 : mm_C} {h : mm_H} {I2 : Nat → Nat → Int32} {J2 : Nat → Nat → Int64} {c2 : mm_C} {H1 : Heap} {x : va_E} (hW : mm_Wd B od D dA xs h H) (hc : h.1[a]? = some c0) (hI : ∀ b, b ≠ a → I2 b = h.2.1 b) (hJ : ∀ b, b ≠ a → J2 b = h.2.2 b) (hx : mm_ent (mm_ph B od) dA (h.1.set a c2, I2, J2) a c2 = x) (hP : va_P D mm_cls ((mm_ws B (mm_ph B od) dA h).set a (B + a, x)) H1) : mm_Wd B od D dA xs (h.1.set a c2, I2, J2) H1 := by
  have ha := mm_Wd_lt hW hc
  refine ⟨?_, ?_, fun j => ?_, fun j hj => ?_⟩
  · rw [mm_ws_set (h := h) (h2 := (h.1.set a c2, I2, J2)) hc rfl hI hJ, hx]
    exact hP
  · rw [List.length_set]; exact hW.2.1
  · show I2 1001 j = xs j
    rw [hI 1001 (by omega)]; exact hW.2.2.1 j
  · show I2 1002 j = mm_pw j
    rw [hI 1002 (by omega)]; exact hW.2.2.2 j hj
theorem mm_set_self {α : Type} {l : List α} {a : Nat} {c : α} (h : l[a]? = some c) : l.set a c = l := by
  apply List.ext_getElem?
  intro i
  by_cases hi : i = a
  · subst hi
    rw [List.getElem?_set_self (List.getElem?_eq_some_iff.mp h).1, h]
  · rw [List.getElem?_set_ne (fun e => hi e.symm)]
theorem mm_Wd_same {a : Nat} {c0 : mm_C} {h : mm_H} {I2 : Nat → Nat → Int32} {J2 : Nat → Nat → Int64} {H1 : Heap} {x : va_E} (hW : mm_Wd B od D dA xs h H) (hc : h.1[a]? = some c0) (hI : ∀ b, b ≠ a → I2 b = h.2.1 b) (hJ : ∀ b, b ≠ a → J2 b = h.2.2 b) (hx : mm_ent (mm_ph B od) dA (h.1, I2, J2) a c0 = x) (hP : va_P D mm_cls ((mm_ws B (mm_ph B od) dA h).set a (B + a, x)) H1) : mm_Wd B od D dA xs (h.1, I2, J2) H1 := by
  have := mm_Wd_set (I2 := I2) (J2 := J2) (c2 := c0) (x := x) hW hc hI hJ (by rw [mm_set_self hc]; exact hx) hP
  rwa [mm_set_self hc] at this
/-- how large the heap is -/
theorem mm_size {n0 : Nat} {h : mm_H} {g : JFrame} (hW : mm_Wd B od D dA xs h H) (hS : va_S (mm_A B) s.heap H locs) (hn0 : s.heap.size = B + n0) (hc1 : cells + n0 = h.1.length)
    (k : H.size = B + h.1.length → W p l e R s m args below meth c H locs cells slots Q g) : W p l e R s m args below meth c H locs cells slots Q g := by
  intro T hT X
  have h1 : T.heap.size ≤ s.heap.size + cells := X.same.2.2.1
  rw [hT] at h1
  have h2 : B + h.1.length ≤ H.size := by
    rcases Nat.lt_or_ge n0 h.1.length with hlt | hge
    · have hq : h.1[h.1.length - 1]? = some (h.1[h.1.length - 1]'(by omega)) := List.getElem?_eq_getElem (by omega)
      have := (hW.1 _ _ (mm_ws_at (B := B) (f := mm_ph B od) (dA := dA) hq)).lt
      simp only at this
      omega
    · have := hS.1
      omega
  exact k (by omega) T hT X
theorem mm_sl_grow {h : mm_H} {c : mm_C} : mm_sl (mm_grow h c) = mm_sl h + c.2.1 := by simp [mm_sl, mm_grow]
theorem mm_len_grow {h : mm_H} {c : mm_C} : (mm_grow h c).1.length = h.1.length + 1 := by simp [mm_grow]
theorem mm_sl_set {h : mm_H} {a : Nat} {c c2 : mm_C} {I2 : Nat → Nat → Int32} {J2 : Nat → Nat → Int64} (hc : h.1[a]? = some c) (hs : c2.2.1 = c.2.1) : mm_sl (h.1.set a c2, I2, J2) = mm_sl h := by
  have : (h.1.set a c2).map (fun c => c.2.1) = h.1.map (fun c => c.2.1) := by
    apply List.ext_getElem?
    intro i
    by_cases hi : i = a
    · subst hi
      rw [List.getElem?_map, List.getElem?_map, List.getElem?_set_self (List.getElem?_eq_some_iff.mp hc).1, hc]
      simp [hs]
    · rw [List.getElem?_map, List.getElem?_map, List.getElem?_set_ne (fun e => hi e.symm)]
  simp only [mm_sl, this]
/-- a new cell's world -/
theorem mm_Wd_grow {h : mm_H} {c0 : mm_C} {H1 : Heap} {x : va_E} (hW : mm_Wd B od D dA xs h H) (hl : h.1.length < 1000) (hx : mm_ent (mm_ph B od) dA (mm_grow h c0) h.1.length c0 = x) (hP : va_P D mm_cls (mm_ws B (mm_ph B od) dA h ++ [(B + h.1.length, x)]) H1) : mm_Wd B od D dA xs (mm_grow h c0) H1 := by
  refine ⟨?_, ?_, fun j => ?_, fun j hj => ?_⟩
  · rw [mm_ws_grow, hx]; exact hP
  · rw [mm_len_grow]; omega
  · show (if 1001 = h.1.length then (fun _ => (0 : Int32)) else h.2.1 1001) j = xs j
    rw [if_neg (by omega)]; exact hW.2.2.1 j
  · show (if 1002 = h.1.length then (fun _ => (0 : Int32)) else h.2.1 1002) j = mm_pw j
    rw [if_neg (by omega)]; exact hW.2.2.2 j hj
theorem mm_grow_I {h : mm_H} {c : mm_C} : (mm_grow h c).2.1 h.1.length = fun _ => 0 := by simp [mm_grow]
theorem mm_grow_J {h : mm_H} {c : mm_C} : (mm_grow h c).2.2 h.1.length = fun _ => 0 := by simp [mm_grow]
theorem mm_ent_obj {f : Nat → Nat} {h : mm_H} {a : Nat} {c : mm_C} (hc : c.1 < 100) : mm_ent f dA h a c = .inr (c.1, mm_fs f h a c) := by simp [mm_ent, hc]
theorem mm_ent_i {f : Nat → Nat} {h : mm_H} {a : Nat} {c : mm_C} (hc : 100 ≤ c.1) (h1 : c.1 ≠ 101) (h4 : c.1 ≠ 104) : mm_ent f dA h a c = .inl (dA c.1, c.2.1, .inl (h.2.1 a)) := by simp [mm_ent, mm_arr, h1, h4, Nat.not_lt.mpr hc]
theorem mm_ent_l {f : Nat → Nat} {h : mm_H} {a : Nat} {c : mm_C} (h1 : c.1 = 101) : mm_ent f dA h a c = .inl (dA c.1, c.2.1, .inr (.inl (h.2.2 a))) := by simp [mm_ent, mm_arr, h1]
theorem mm_ent_q {f : Nat → Nat} {h : mm_H} {a : Nat} {c : mm_C} (h1 : c.1 = 104) : mm_ent f dA h a c = .inl (dA c.1, c.2.1, .inr (.inr (.inr (.inr (fun k => (c.2.2[k]?.join).map f))))) := by simp [mm_ent, mm_arr, h1]
theorem mm_wr_len {ty : FieldType} {v : Value} {c : mm_C} {a k : Nat} {h h2 : mm_H} (hc : h.1[a]? = some c) (hw : mm_wr ty v c a k h = some h2) : h2.1.length = h.1.length ∧ mm_sl h2 = mm_sl h := by
  unfold mm_wr at hw
  split at hw
  · cases hw; exact ⟨rfl, rfl⟩
  · split at hw
    · cases hw; exact ⟨rfl, rfl⟩
    · cases hw
  · cases hw; exact ⟨rfl, rfl⟩
  · split at hw
    · cases hw; exact ⟨List.length_set, mm_sl_set hc rfl⟩
    · cases hw
  · split at hw
    · cases hw; exact ⟨List.length_set, mm_sl_set hc rfl⟩
    · cases hw
  · cases hw
/-- a write into an object's field: its world -/
theorem mm_wr_ok {v : Value} {c0 : mm_C} {a k : Nat} {h h2 : mm_H} (hw : mm_wr (mm_ty c0.1 k) v c0 a k h = some h2) :
    narrow (mm_ty c0.1 k) (mm_rv (mm_ph B od) v) = mm_rv (mm_ph B od) v ∧ fits (mm_ty c0.1 k) (mm_rv (mm_ph B od) v) = true := by
  unfold mm_wr at hw
  split at hw
  · rename_i x h1; rw [h1]; exact ⟨rfl, rfl⟩
  · rename_i x h1
    rw [h1]
    split at hw
    · rename_i hx
      rcases hx with rfl | rfl
      · exact ⟨show narrow .boolean (.int 0) = .int 0 by decide +kernel, show fits .boolean (.int 0) = true by decide +kernel⟩
      · exact ⟨show narrow .boolean (.int 1) = .int 1 by decide +kernel, show fits .boolean (.int 1) = true by decide +kernel⟩
    · cases hw
  · rename_i x h1; rw [h1]; exact ⟨rfl, rfl⟩
  · rename_i x h1; rw [h1]; exact ⟨rfl, rfl⟩
  · rename_i x h1; rw [h1]; exact ⟨rfl, rfl⟩
  · cases hw

theorem mm_set_join {l : List (Option Nat)} {k b : Nat} (hk : k < l.length) : ((l.set k (some b))[k]?).join = some b := by
  rw [List.getElem?_set_self hk]; rfl
theorem mm_set_join_ne {l : List (Option Nat)} {k b j : Nat} (hj : j ≠ k) : ((l.set k (some b))[j]?).join = (l[j]?).join := by
  rw [List.getElem?_set_ne (fun e => hj e.symm)]
theorem mm_wr_W {v : Value} {c0 : mm_C} {a k : Nat} {h h2 : mm_H} {H1 : Heap} (hW : mm_Wd B od D dA xs h H) (hc : h.1[a]? = some c0) (h0 : c0.1 < 100) (hk : k < c0.2.1) (hw : mm_wr (mm_ty c0.1 k) v c0 a k h = some h2)
    (hP : va_P D mm_cls ((mm_ws B (mm_ph B od) dA h).set a (B + a, .inr (c0.1, (mm_fs (mm_ph B od) h a c0).set k (mm_rv (mm_ph B od) v)))) H1) : mm_Wd B od D dA xs h2 H1 := by
  have kI : ∀ x : Int32, (mm_ty c0.1 k = .int ∨ mm_ty c0.1 k = .boolean) → v = .int x → h2 = (h.1, mm_uI h.2.1 a k x, h.2.2) → mm_Wd B od D dA xs h2 H1 := by
    intro x ht hv hh
    subst hv; subst hh
    refine mm_Wd_same hW hc (fun b hb => mm_uI_ne hb) (fun _ _ => rfl) ?_ hP
    rw [mm_ent_obj h0, mm_fs_set (h := h) (h2 := (h.1, mm_uI h.2.1 a k x, h.2.2)) (c := c0) (c2 := c0) ⟨rfl, rfl⟩ hk (v := .int x) ?_ (fun j hj => ⟨by simp [mm_uI, upd, hj], rfl, rfl⟩)]
    · rfl
    · rcases ht with ht | ht <;> rw [ht] <;> simp [mm_fv, mm_uI, upd]
  have kR : ∀ b : Nat, ((∃ n, mm_ty c0.1 k = .object n) ∨ ∃ t, mm_ty c0.1 k = .array t) → v = .ref b → k < c0.2.2.length → h2 = (h.1.set a (c0.1, c0.2.1, c0.2.2.set k (some b)), h.2.1, h.2.2) → mm_Wd B od D dA xs h2 H1 := by
    intro b ht hv hl hh
    subst hv; subst hh
    refine mm_Wd_set hW hc (fun _ _ => rfl) (fun _ _ => rfl) ?_ hP
    rw [mm_ent_obj (c := (c0.1, c0.2.1, c0.2.2.set k (some b))) h0, mm_fs_set (h := h) (h2 := (h.1.set a (c0.1, c0.2.1, c0.2.2.set k (some b)), h.2.1, h.2.2)) (c := c0) (c2 := (c0.1, c0.2.1, c0.2.2.set k (some b))) ⟨rfl, rfl⟩ hk (v := .ref (mm_ph B od b)) ?_ (fun j hj => ⟨rfl, rfl, mm_set_join_ne hj⟩)]
    · rfl
    · show mm_fv (mm_ph B od) (mm_ty c0.1 k) _ _ ((c0.2.2.set k (some b))[k]?.join) = _
      rw [mm_set_join hl]
      rcases ht with ⟨n, ht⟩ | ⟨n, ht⟩ <;> rw [ht] <;> rfl
  unfold mm_wr at hw
  split at hw
  · rename_i x h1; cases hw; exact kI x (Or.inl h1) rfl rfl
  · rename_i x h1
    split at hw
    · cases hw; exact kI x (Or.inr h1) rfl rfl
    · cases hw
  · rename_i x h1
    cases hw
    refine mm_Wd_same hW hc (fun _ _ => rfl) (fun b hb => mm_uJ_ne hb) ?_ hP
    rw [mm_ent_obj h0, mm_fs_set (h := h) (h2 := (h.1, h.2.1, mm_uJ h.2.2 a k x)) (c := c0) (c2 := c0) ⟨rfl, rfl⟩ hk (v := .long x) ?_ (fun j hj => ⟨rfl, by simp [mm_uJ, vp_updL, hj], rfl⟩)]
    · rfl
    · rw [h1]; simp [mm_fv, mm_uJ, vp_updL]
  · rename_i n b h1
    split at hw
    · rename_i hl; cases hw; exact kR b (Or.inl ⟨n, h1⟩) rfl hl rfl
    · cases hw
  · rename_i n b h1
    split at hw
    · rename_i hl; cases hw; exact kR b (Or.inr ⟨n, h1⟩) rfl hl rfl
    · cases hw
  · cases hw

end Step
