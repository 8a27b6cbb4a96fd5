section Step
variable {p : Program} {l : Launch} {e : Env} {R : Room} {s : State} {m : MethodId} {args : Array Value} {below : List Frame} {meth : Method} {c : Code} {H : Heap} {locs : List Loc} {cells slots : Nat} {Q : State → Prop}
variable {cc : ByteArray} {B : Nat} {od : Nat → Nat} {D : va_G} {dA : Nat → ClassId} {Lx : Nat} {xs : Nat → Int32} {own : String} {nL : Nat}
def mm_Pc (B : Nat) (od : Nat → Nat) (D : va_G) (dA : Nat → ClassId) (Lx : Nat) (xs : Nat → Int32) (vs : List Value) (h : mm_H) : Array Value → State → Prop := fun a U =>
  a = (vs.map (mm_rv (mm_ph B od))).toArray ∧ mm_Wd B od D dA xs h U.heap ∧ U.heap.size = B + h.1.length ∧ va_K D mm_cls (mm_tys dA) U ∧ (∀ w ∈ lw_tbl, mm_nest w = true → va_Nw w U) ∧ va_AO RX3 U ∧ mm_Old B od Lx xs U U.heap ∧ Lx < 2 ^ 31
def mm_Qc (B : Nat) (od : Nat → Nat) (D : va_G) (dA : Nat → ClassId) (xs : Nat → Int32) (r : Option Value) (h : mm_H) : Array Value → State → Outcome → State → Prop := fun _ st o t =>
  o = .returned (r.map (mm_rv (mm_ph B od))) ∧ mm_Wd B od D dA xs h t.heap ∧ va_F (mm_A B) st t
theorem mm_Old_to {U : State} (hW : s.WarmedH U.vm) (hU : U.heap = H) (hS : va_S (mm_A B) s.heap H locs) (hBs : B ≤ s.heap.size) (h : mm_Old B od Lx xs s s.heap) : mm_Old B od Lx xs U U.heap := by
  obtain ⟨h1, h2, h3, h4, h5, ⟨adV, h6⟩, h7, h8⟩ := h
  have kq : ∀ a : Nat, a < s.heap.size → ¬ mm_A B a → U.heap[a]? = s.heap[a]? := by rw [hU]; exact hS.2.1
  refine ⟨(h1.kept (kq _ (by omega) (by show ¬ B ≤ _; omega))).moved hW.alike, h2, (h3.kept kq).moved hW.alike, (h4.kept kq).moved hW.alike, fun q hq => (h5 q hq).warm hW, ⟨adV, (h6.kept kq).moved hW.alike⟩, (h7.kept kq).moved hW.alike, (h8.kept kq).moved hW.alike⟩
theorem mm_Old_same {U : State} (hv : U.vm = s.vm) (hU : U.heap = s.heap) (h : mm_Old B od Lx xs s s.heap) : mm_Old B od Lx xs U U.heap := by
  obtain ⟨h1, h2, h3, h4, h5, ⟨adV, h6⟩, h7, h8⟩ := h
  have al : s.vm.Alike U.vm := by rw [hv]; exact Vm.Alike.refl _
  rw [hU]
  exact ⟨h1.moved al, h2, h3.moved al, h4.moved al, fun q hq => (h5 q hq).same hv, ⟨adV, h6.moved al⟩, h7.moved al, h8.moved al⟩
theorem mm_nest_warm {U : State} (hW : s.WarmedH U.vm) {w : Cond} (hn : mm_nest w = true) (h : va_Nw w s) : va_Nw w U := by
  cases w <;> first | (cases hn; done) | exact va_Nw.warmF hW h | exact va_Nw.warmM hW h
theorem mm_nest_same {U : State} (hv : s.vm = U.vm) {w : Cond} (hn : mm_nest w = true) (h : va_Nw w s) : va_Nw w U := by
  cases w <;> first | (cases hn; done) | exact va_Nw.same rfl hv h
theorem mm_blind {vs : List Value} {h : mm_H} : FrameBlind (mm_Pc B od D dA Lx xs vs h) := by
  intro a U g mk q
  obtain ⟨q1, q2, q3, q4, q5, q6, q7, q8⟩ := q
  exact ⟨q1, q2, q3, va_K.moved (u := U) (U := U.calling g mk a) (Vm.Alike.refl U.vm) q4, fun w hw hn => mm_nest_same (s := U) (U := U.calling g mk a) rfl hn (q5 w hw hn), va_AO.moved (u := U) (U := U.calling g mk a) (Vm.Alike.refl U.vm) q6, mm_Old_same (s := U) (U := U.calling g mk a) rfl rfl q7, q8⟩
theorem mm_pre {vs : List Value} {h : mm_H} {U : State} (C : mm_Ct B od D dA Lx xs args s) (hW : mm_Wd B od D dA xs h H) (hS : va_S (mm_A B) s.heap H locs) (hz : H.size = B + h.1.length) (hU : U.heap = H) (hw : s.WarmedH U.vm) : mm_Pc B od D dA Lx xs vs h (vs.map (mm_rv (mm_ph B od))).toArray U := by
  obtain ⟨c1, c2, c3, c4, c5, c6, c7⟩ := C
  exact ⟨rfl, by rw [hU]; exact hW, by rw [hU]; exact hz, va_K.moved hw.alike c2, fun w h1 h2 => mm_nest_warm hw h2 (c3 w h1 h2), va_AO.moved hw.alike c4, mm_Old_to hw hU hS c6 c5, c7⟩
theorem mm_cont {r : Option Value} {h2 : mm_H} {pc mc ms : Nat} {ls : Array Slot} {st0 rest : List Value} {a : Array Value} (hr : va_Run p l e R s m args below meth c H locs cells slots mc ms (F0 m pc ls st0) rest (mm_Qc B od D dA xs r h2 a) (mm_A B)) (hS : va_S (mm_A B) s.heap H locs)
    (kk : ∀ (H1 : Heap) (locs1 : List Loc), mm_Wd B od D dA xs h2 H1 → va_S (mm_A B) s.heap H1 locs1 → W p l e R s m args below meth c H1 locs1 (cells + mc) (slots + ms) Q (F0 m (pc + 3) ls ((r.map (mm_rv (mm_ph B od))).toList ++ rest))) : W p l e R s m args below meth c H locs cells slots Q (F0 m pc ls st0) := by
  intro T hT X
  obtain ⟨v, st₀, t, T', L, h0, X', hL, e1, e2, ⟨hv, hw, hz, hk⟩, st⟩ := hr T hT X
  cases hv
  rw [h0] at hz hk
  obtain ⟨t2, a1, b1⟩ := kk T'.heap (locs ++ L) (by rw [e1]; exact hw)
    ⟨Nat.le_trans hS.1 (by rw [e1]; exact hz), fun q h1 h2 => by rw [e1, hk q (Nat.lt_of_lt_of_le h1 hS.1) h2]; exact hS.2.1 q h1 h2, fun q hq => by
      rcases List.mem_append.mp hq with h | h
      · exact hS.2.2 q h
      · exact hL q h⟩ T' rfl X'
  exact ⟨t2, st t2 a1, b1⟩
theorem mm_ar_at {f : Nat → Nat} : ∀ (vs : List Value) (k i : Nat) (v : Value), (∀ w ∈ vs, mm_tag w ≤ 2) → (mm_ar vs)[i]? = some (some v) → (k + i, mm_rv f v) ∈ lv_args k (vs.map (mm_rv f)) := by
  intro vs
  induction vs with
  | nil => intro k i v _ h; simp [mm_ar] at h
  | cons w r ih =>
    intro k i v ht h
    have ht2 : ∀ w ∈ r, mm_tag w ≤ 2 := fun w hw => ht w (List.mem_cons_of_mem _ hw)
    have t0 := ht w List.mem_cons_self
    cases w with
    | long x =>
      cases i with
      | zero => simp [mm_ar] at h; subst h; simp [lv_args, mm_rv]
      | succ i =>
        cases i with
        | zero => simp [mm_ar] at h
        | succ i =>
          have h3 := ih (k + 2) i v ht2 (by simpa [mm_ar] using h)
          simp only [List.map_cons, lv_args, List.mem_cons]
          right
          have : k + (i + 1 + 1) = k + 2 + i := by omega
          rw [this]
          exact h3
    | int x =>
      cases i with
      | zero => simp [mm_ar] at h; subst h; simp [lv_args, mm_rv]
      | succ i =>
        have h3 := ih (k + 1) i v ht2 (by simpa [mm_ar] using h)
        simp only [List.map_cons, lv_args, List.mem_cons]
        right
        have : k + (i + 1) = k + 1 + i := by omega
        rw [this]
        exact h3
    | ref x =>
      cases i with
      | zero => simp [mm_ar] at h; subst h; simp [lv_args, mm_rv]
      | succ i =>
        have h3 := ih (k + 1) i v ht2 (by simpa [mm_ar] using h)
        simp only [List.map_cons, lv_args, List.mem_cons]
        right
        have : k + (i + 1) = k + 1 + i := by omega
        rw [this]
        exact h3
    | _ => simp [mm_tag] at t0
theorem mm_ar_len {f : Nat → Nat} : ∀ vs : List Value, (∀ w ∈ vs, mm_tag w ≤ 2) → (lg_sl (vs.map (mm_rv f))).length = (mm_ar vs).length := by
  intro vs
  induction vs with
  | nil => intro _; rfl
  | cons w r ih =>
    intro ht
    have h3 := ih (fun w hw => ht w (List.mem_cons_of_mem _ hw))
    have t0 := ht w List.mem_cons_self
    simp only [lg_sl, List.map_cons, List.flatMap_cons, List.length_append] at h3 ⊢
    cases w with
    | long x => rw [h3]; exact Nat.add_comm 2 _
    | int x => rw [h3]; exact Nat.add_comm 1 _
    | ref x => rw [h3]; exact Nat.add_comm 1 _
    | _ => simp [mm_tag] at t0
theorem mm_ar_ok : ∀ vs : List Value, (∀ w ∈ vs, mm_tag w ≤ 2) → mm_okL (mm_ar vs) := by
  intro vs
  induction vs with
  | nil => intro _ i v h; simp [mm_ar] at h
  | cons w r ih =>
    intro ht i v h
    have h3 := ih (fun w hw => ht w (List.mem_cons_of_mem _ hw))
    have t0 := ht w List.mem_cons_self
    cases w with
    | long x =>
      rcases i with _ | _ | i
      · simp [mm_ar] at h; subst h; exact fun _ => ⟨_, rfl⟩
      · simp [mm_ar] at h
      · exact h3 i v (by simpa [mm_ar] using h)
    | int x =>
      rcases i with _ | i
      · simp [mm_ar] at h; subst h; exact fun h8 => absurd (show (1 : Nat) = 2 from h8) (by decide)
      · exact h3 i v (by simpa [mm_ar] using h)
    | ref x =>
      rcases i with _ | i
      · simp [mm_ar] at h; subst h; exact fun h8 => absurd (show (1 : Nat) = 2 from h8) (by decide)
      · exact h3 i v (by simpa [mm_ar] using h)
    | _ => simp [mm_tag] at t0
theorem mm_cok_inv {n ci mx : Nat} {st : List Value} {h : mm_H} (hc : mm_cok n ci mx st h = true) : n ≤ st.length ∧ (st.drop n).length ≤ 4 ∧ (∀ v ∈ (st.take n).reverse, mm_tag v ≤ 2) ∧ (mm_ar (st.take n).reverse).length ≤ mx ∧ ∀ ci2, ci = ci2 + 1 → ∃ a c, st[n - 1]? = some (.ref a) ∧ h.1[a]? = some c ∧ c.1 = ci2 := by
  simp only [mm_cok, Bool.and_eq_true, decide_eq_true_eq, List.all_eq_true] at hc
  obtain ⟨⟨⟨⟨h1, h2⟩, h3⟩, h4⟩, h5⟩ := hc
  refine ⟨h1, h2, fun v hv => h3 v (List.mem_reverse.mp hv), h4, fun ci2 e => ?_⟩
  subst e
  simp only at h5
  split at h5
  · rename_i a ha
    split at h5
    · rename_i c0 hc0
      exact ⟨a, c0, ha, hc0, by simpa using h5⟩
    · cases h5
  · cases h5
theorem mm_cats (st : List Value) (f : Nat → Nat) : ((st.map (mm_rv f)).map fun v => v.category).sum ≤ 2 * st.length := by
  induction st with
  | nil => simp
  | cons v r ih =>
    have : (mm_rv f v).category ≤ 2 := by rw [mm_rv_cat]; cases v <;> simp [Value.category]
    simp only [List.map_cons, List.sum_cons, List.length_cons]
    omega
theorem mm_take {st : List Value} {n : Nat} {v : Value} (hn : 0 < n) (hv : st[n - 1]? = some v) : st.take n = st.take (n - 1) ++ [v] := by
  obtain ⟨k, rfl⟩ : ∃ k, n = k + 1 := ⟨n - 1, by omega⟩
  rw [Nat.add_sub_cancel] at hv ⊢
  rw [List.take_succ, hv]; rfl
theorem mm_zret {cc : ByteArray} {Qc : Array Value → State → Outcome → State → Prop} {free : Addr → Prop} {v w : Int32} {ty : FieldType} (hexec : p.tables.exec = Jvm.exec) (hb : c.code = cc) (hr : meth.sig.returnType = some ty) (hn : narrow ty (.int v) = .int w)
    (hq : ∀ t : State, t.heap = H → s.WarmedH t.vm → Qc args s (.returned (some (.int w))) t) (hf : ∀ q ∈ locs, free q.base)
    {pc : Nat} {ls : Array Slot} (hdg : decode cc pc = .ok (.ireturn, 1)) (hlocks : meth.locks = false) : W p l e R s m args below meth c H locs cells slots (MQ below Qc args s cells slots free) (F0 m pc ls [.int v]) := by
  intro T hT X
  obtain ⟨fs, hret, hrun, hended, hW, hframe⟩ := X.leave (v := some (.int w)) (hlocks := hlocks) (fun h => by rw [hr] at h; cases h)
  have hmeth' : T.vm.method? m = some meth := X.method'
  refine ⟨T.setFrames fs, ?_, .returned (some (.int w)), hrun, hended, hq _ hT hW, locs, ⟨⟨_, rfl⟩, hW, hframe⟩, hf⟩
  jvm_step X.here [X.here.top, hexec, hb, hdg, hmeth', hr, hn]
  (try refine ⟨rfl, ?_⟩); (try refine ⟨rfl, ?_⟩)
  first | (intro acts; rw [hret _ acts rfl rfl rfl]) | rw [hret _ _ rfl rfl rfl]
  exact Steps.refl _
end Step
