/-! the claim's start: what the Statement gives, as the small machine wants it -/
theorem room_le {s : State} {pl : Platform} {r r' : Room} (hf : r.frames ≤ r'.frames) (hl : r.locals ≤ r'.locals) (hc : r.cells ≤ r'.cells) (hs : r.slots ≤ r'.slots) (h : s.hasRoom pl r' = true) : s.hasRoom pl r = true := by
  simp only [State.hasRoom, Bool.and_eq_true, decide_eq_true_eq] at h ⊢
  obtain ⟨⟨⟨⟨h1, h2, h3, h4, h5, h6⟩, h7⟩, h8⟩, h9⟩ := h
  exact ⟨⟨⟨⟨by omega, by omega, by omega, by omega, by omega, h6⟩, by omega⟩, by omega⟩, h9⟩
theorem W_room {p : Program} {l : Launch} {e : Env} {R R' : Room} {s : State} {m : MethodId} {args : Array Value} {below : List Frame} {meth : Method} {c : Code} {H : Heap} {locs : List Loc} {cells slots : Nat} {Q : State → Prop} {g : JFrame} (hf : R.frames ≤ R'.frames) (hl : R.locals ≤ R'.locals) (hc : R.cells ≤ R'.cells) (hs : R.slots ≤ R'.slots) (k : W p l e R s m args below meth c H locs cells slots Q g) : W p l e R' s m args below meth c H locs cells slots Q g :=
  fun T hT X => k T hT { X with room := room_le hf hl hc hs X.room }
theorem W_post {p : Program} {l : Launch} {e : Env} {R : Room} {s : State} {m : MethodId} {args : Array Value} {below : List Frame} {meth : Method} {c : Code} {H : Heap} {locs : List Loc} {cells slots : Nat} {Q Q' : State → Prop} {g : JFrame} (hq : ∀ t, Q t → Q' t) (k : W p l e R s m args below meth c H locs cells slots Q g) : W p l e R s m args below meth c H locs cells slots Q' g :=
  fun T hT X => by
    obtain ⟨t, h1, h2⟩ := k T hT X
    exact ⟨t, h1, hq t h2⟩
def R_law : String := "DeafArrayLaw"
def lw_P (b : Addr) (xs : List Int32) (args : Array Value) (s : State) : Prop := args = #[.ref b] ∧ s.IntsAt b xs ∧ xs.length ≤ 3072 ∧ (Jvm.Cond.and given_1 narrow_1).before args s = true
def lw_Q (_ : Array Value) (s : State) (o : Outcome) (t : State) : Prop := o = .returned (some (.int 1)) ∧ Framed s o t [] 600000 7302250
def lw_Z (below : List Frame) (a : Array Value) (s : State) : State → Prop := fun t => ∃ o, t.status = .running ∧ Ended t below o ∧ lw_Q a s o t
def lw_At (p : Program) (s : State) (m : MethodId) (meth : Method) (c : Code) (b L : Nat) (xs : Nat → Int32) : Prop :=
  p.tables.exec = Jvm.exec ∧ c.code = code ∧ meth.sig.returnType = ret ∧ c.maxLocals = 4 ∧ s.vm.findClass R_law = some m.cls ∧ (∀ w ∈ lw_tbl, w.before #[Value.ref b] s = true) ∧ va_X b L xs s s.heap ∧ b < s.heap.size ∧ meth.locks = false ∧ (Jvm.Cond.and given_1 narrow_1).before #[Value.ref b] s = true ∧ meth.name = "law"
theorem nest_tab {w : Cond} (h : mm_nest w = true) : w.onTables = true := by
  cases w <;> first | rfl | (cases h; done)

theorem st_cls {s : State} {args : Array Value} (hts : ∀ w ∈ lw_tbl, w.before args s = true) : ∃ D : va_G, ∀ (k : Nat) (q : vw_C), mm_cls[k]? = some q → u_Kn s q.1 q.2.1 q.2.2 (D.1 k) (D.2 k) := by
  have hg : ∀ w ∈ mm_gw, w.before args s = true := fun w hw => hts w (List.mem_filter.mp hw).1
  have key : ∀ k : Nat, ∃ q : ClassId × (Nat → Nat), ∀ r : vw_C, mm_cls[k]? = some r → u_Kn s r.1 r.2.1 r.2.2 q.1 q.2 := by
    intro k
    match k with
    | 0 =>
      obtain ⟨cC, iS, h⟩ := u_known (C := RX0) (T := TX0) (N := 10) (n := 10) hg (mm_cf 0 _ _ _ rfl).2.2.2.2.1 (hts _ (mm_wn_ok (mt := mt) nt_ok (i := 317) (r := [7, 0, 10]) (by decide +kernel)))
      exact ⟨(cC, iS), fun r hr => by cases hr; exact h⟩
    | 1 =>
      obtain ⟨cC, iS, h⟩ := u_known (C := RX1) (T := TX1) (N := 3) (n := 3) hg (mm_cf 1 _ _ _ rfl).2.2.2.2.1 (hts _ (mm_wn_ok (mt := mt) nt_ok (i := 383) (r := [7, 1, 3]) (by decide +kernel)))
      exact ⟨(cC, iS), fun r hr => by cases hr; exact h⟩
    | 2 =>
      obtain ⟨cC, iS, h⟩ := u_known (C := RX2) (T := TX2) (N := 4) (n := 4) hg (mm_cf 2 _ _ _ rfl).2.2.2.2.1 (hts _ (mm_wn_ok (mt := mt) nt_ok (i := 363) (r := [7, 2, 4]) (by decide +kernel)))
      exact ⟨(cC, iS), fun r hr => by cases hr; exact h⟩
    | 3 =>
      obtain ⟨cC, iS, h⟩ := u_known (C := RX3) (T := TX3) (N := 4) (n := 4) hg (mm_cf 3 _ _ _ rfl).2.2.2.2.1 (hts _ (mm_wn_ok (mt := mt) nt_ok (i := 221) (r := [7, 3, 4]) (by decide +kernel)))
      exact ⟨(cC, iS), fun r hr => by cases hr; exact h⟩
    | 4 =>
      obtain ⟨cC, iS, h⟩ := u_known (C := RX4) (T := TX4) (N := 2) (n := 2) hg (mm_cf 4 _ _ _ rfl).2.2.2.2.1 (hts _ (mm_wn_ok (mt := mt) nt_ok (i := 400) (r := [7, 4, 2]) (by decide +kernel)))
      exact ⟨(cC, iS), fun r hr => by cases hr; exact h⟩
    | 5 =>
      obtain ⟨cC, iS, h⟩ := u_known (C := RX5) (T := TX5) (N := 8) (n := 8) hg (mm_cf 5 _ _ _ rfl).2.2.2.2.1 (hts _ (mm_wn_ok (mt := mt) nt_ok (i := 120) (r := [7, 5, 8]) (by decide +kernel)))
      exact ⟨(cC, iS), fun r hr => by cases hr; exact h⟩
    | 6 =>
      obtain ⟨cC, iS, h⟩ := u_known (C := RX6) (T := TX6) (N := 9) (n := 9) hg (mm_cf 6 _ _ _ rfl).2.2.2.2.1 (hts _ (mm_wn_ok (mt := mt) nt_ok (i := 114) (r := [7, 6, 9]) (by decide +kernel)))
      exact ⟨(cC, iS), fun r hr => by cases hr; exact h⟩
    | 7 =>
      obtain ⟨cC, iS, h⟩ := u_known (C := RX7) (T := TX7) (N := 17) (n := 17) hg (mm_cf 7 _ _ _ rfl).2.2.2.2.1 (hts _ (mm_wn_ok (mt := mt) nt_ok (i := 206) (r := [7, 7, 17]) (by decide +kernel)))
      exact ⟨(cC, iS), fun r hr => by cases hr; exact h⟩
    | 8 =>
      obtain ⟨cC, iS, h⟩ := u_known (C := RX8) (T := TX8) (N := 10) (n := 10) hg (mm_cf 8 _ _ _ rfl).2.2.2.2.1 (hts _ (mm_wn_ok (mt := mt) nt_ok (i := 106) (r := [7, 8, 10]) (by decide +kernel)))
      exact ⟨(cC, iS), fun r hr => by cases hr; exact h⟩
    | 9 =>
      obtain ⟨cC, iS, h⟩ := u_known (C := RX9) (T := TX9) (N := 39) (n := 39) hg (mm_cf 9 _ _ _ rfl).2.2.2.2.1 (hts _ (mm_wn_ok (mt := mt) nt_ok (i := 1215) (r := [7, 9, 39]) (by decide +kernel)))
      exact ⟨(cC, iS), fun r hr => by cases hr; exact h⟩
    | k + 10 => exact ⟨((default : Nat), fun _ => 0), fun r hr => by simp at hr⟩
  obtain ⟨f, hf⟩ := Classical.axiomOfChoice key
  exact ⟨(fun k => (f k).1, fun k => (f k).2), hf⟩
theorem st_arr {s : State} {args : Array Value} {ty : FieldType} (h : (Cond.arrayClass ty).before args s = true) (hz : ∀ C, ty ≠ .object C) : ∃ cA : ClassId, ArrOfT s cA ty ∧ va_RA s cA ty := by
  obtain ⟨cA, kA, comp, h1, h2, h3⟩ := Cond.arrayClass_spec h
  refine ⟨cA, fun N z => ⟨(fun k h => by cases h), kA, h2, comp, h3⟩, ?_⟩
  cases ty <;> first | exact h1 | exact absurd rfl (hz _)
theorem st_arrs {s : State} {args : Array Value} (hts : ∀ w ∈ lw_tbl, w.before args s = true) : ∃ dA : Nat → ClassId, ∀ (k : Nat) (q : ClassId × FieldType), (mm_tys dA)[k]? = some q → ArrOfT s q.1 q.2 ∧ va_RA s q.1 q.2 := by
  obtain ⟨c0, h0⟩ := st_arr (hts _ (mm_wn_ok (mt := mt) nt_ok (i := 172) (r := [9, 0]) (by decide +kernel))) (fun C h => by cases h)
  obtain ⟨c1, h1⟩ := st_arr (hts _ (mm_wn_ok (mt := mt) nt_ok (i := 315) (r := [9, 1]) (by decide +kernel))) (fun C h => by cases h)
  obtain ⟨c2, h2⟩ := st_arr (hts _ (mm_wn_ok (mt := mt) nt_ok (i := 606) (r := [9, 2]) (by decide +kernel))) (fun C h => by cases h)
  obtain ⟨c3, h3⟩ := st_arr (hts _ (mm_wn_ok (mt := mt) nt_ok (i := 243) (r := [9, 3]) (by decide +kernel))) (fun C h => by cases h)
  have hO : (Cond.arrayOver (.object RX3)).before args s = true := hts _ (List.mem_of_getElem? (i := 220) (by decide +kernel))
  obtain ⟨comp, c4, kA, q1, q2, q3, q4, q5⟩ := Cond.arrayOver_spec hO
  refine ⟨fun k => if k = 100 then c0 else if k = 101 then c1 else if k = 102 then c2 else if k = 103 then c3 else c4, fun k q hq => ?_⟩
  match k, hq with
  | 0, hq => cases hq; exact h0
  | 1, hq => cases hq; exact h1
  | 2, hq => cases hq; exact h2
  | 3, hq => cases hq; exact h3
  | 4, hq => cases hq; exact ⟨fun N z => ⟨(fun k h => by cases h), kA, q3, comp, q4⟩, kA, comp, q3, q4, q1, q5⟩
  | k + 5, hq => simp [mm_tys] at hq
theorem st_pow {s : State} {args : Array Value} {A : Nat → Prop} (hs : ∀ w ∈ flatC (Jvm.Cond.and given_1 narrow_1), w.before args s = true) (hA : ∀ a : Nat, a < s.heap.size → ¬ A a) : ∃ t : Nat, (Term.static "DeafArrayModel" "POWERS" "[I").eval args s none [] s = some (.ref t) ∧ va_T .int t 24 (fun j => .int (mm_pw j)) A s s.heap := by
  refine va_Tof (by decide) (hs _ (by decide +kernel)) (va_eqt (hs _ (by decide +kernel))) (fun j hj => ?_) hA
  match j, hj with
  | 0, _ => exact va_eqt (hs (Cond.eq (.elem (.static "DeafArrayModel" "POWERS" "[I") (.int 0)) (.int 1)) (by decide +kernel))
  | 1, _ => exact va_eqt (hs (Cond.eq (.elem (.static "DeafArrayModel" "POWERS" "[I") (.int 1)) (.int 0)) (by decide +kernel))
  | 2, _ => exact va_eqt (hs (Cond.eq (.elem (.static "DeafArrayModel" "POWERS" "[I") (.int 2)) (.int 0)) (by decide +kernel))
  | 3, _ => exact va_eqt (hs (Cond.eq (.elem (.static "DeafArrayModel" "POWERS" "[I") (.int 3)) (.int 0)) (by decide +kernel))
  | 4, _ => exact va_eqt (hs (Cond.eq (.elem (.static "DeafArrayModel" "POWERS" "[I") (.int 4)) (.int 0)) (by decide +kernel))
  | 5, _ => exact va_eqt (hs (Cond.eq (.elem (.static "DeafArrayModel" "POWERS" "[I") (.int 5)) (.int 1)) (by decide +kernel))
  | 6, _ => exact va_eqt (hs (Cond.eq (.elem (.static "DeafArrayModel" "POWERS" "[I") (.int 6)) (.int 0)) (by decide +kernel))
  | 7, _ => exact va_eqt (hs (Cond.eq (.elem (.static "DeafArrayModel" "POWERS" "[I") (.int 7)) (.int 0)) (by decide +kernel))
  | 8, _ => exact va_eqt (hs (Cond.eq (.elem (.static "DeafArrayModel" "POWERS" "[I") (.int 8)) (.int 0)) (by decide +kernel))
  | 9, _ => exact va_eqt (hs (Cond.eq (.elem (.static "DeafArrayModel" "POWERS" "[I") (.int 9)) (.int 0)) (by decide +kernel))
  | 10, _ => exact va_eqt (hs (Cond.eq (.elem (.static "DeafArrayModel" "POWERS" "[I") (.int 10)) (.int 1)) (by decide +kernel))
  | 11, _ => exact va_eqt (hs (Cond.eq (.elem (.static "DeafArrayModel" "POWERS" "[I") (.int 11)) (.int 0)) (by decide +kernel))
  | 12, _ => exact va_eqt (hs (Cond.eq (.elem (.static "DeafArrayModel" "POWERS" "[I") (.int 12)) (.int 0)) (by decide +kernel))
  | 13, _ => exact va_eqt (hs (Cond.eq (.elem (.static "DeafArrayModel" "POWERS" "[I") (.int 13)) (.int 0)) (by decide +kernel))
  | 14, _ => exact va_eqt (hs (Cond.eq (.elem (.static "DeafArrayModel" "POWERS" "[I") (.int 14)) (.int 0)) (by decide +kernel))
  | 15, _ => exact va_eqt (hs (Cond.eq (.elem (.static "DeafArrayModel" "POWERS" "[I") (.int 15)) (.int 1)) (by decide +kernel))
  | 16, _ => exact va_eqt (hs (Cond.eq (.elem (.static "DeafArrayModel" "POWERS" "[I") (.int 16)) (.int (-1))) (by decide +kernel))
  | 17, _ => exact va_eqt (hs (Cond.eq (.elem (.static "DeafArrayModel" "POWERS" "[I") (.int 17)) (.int 0)) (by decide +kernel))
  | 18, _ => exact va_eqt (hs (Cond.eq (.elem (.static "DeafArrayModel" "POWERS" "[I") (.int 18)) (.int 1)) (by decide +kernel))
  | 19, _ => exact va_eqt (hs (Cond.eq (.elem (.static "DeafArrayModel" "POWERS" "[I") (.int 19)) (.int 0)) (by decide +kernel))
  | 20, _ => exact va_eqt (hs (Cond.eq (.elem (.static "DeafArrayModel" "POWERS" "[I") (.int 20)) (.int 0)) (by decide +kernel))
  | 21, _ => exact va_eqt (hs (Cond.eq (.elem (.static "DeafArrayModel" "POWERS" "[I") (.int 21)) (.int (-1))) (by decide +kernel))
  | 22, _ => exact va_eqt (hs (Cond.eq (.elem (.static "DeafArrayModel" "POWERS" "[I") (.int 22)) (.int 0)) (by decide +kernel))
  | 23, _ => exact va_eqt (hs (Cond.eq (.elem (.static "DeafArrayModel" "POWERS" "[I") (.int 23)) (.int 1)) (by decide +kernel))
  | j + 24, hj => exact absurd hj (by omega)
def st_tm (i : Nat) : Term := .string "DeafArray$Reader" (([56, 62, 73, 79, 85, 90] : List Nat).getD i 0)
theorem st_ids : ∀ i : Nat, i < 6 → (Cond.exactly (st_tm i) "java/lang/String" ∈ flatC (Jvm.Cond.and given_1 narrow_1)) ∧ (Cond.eq (.field (st_tm i) "java/lang/String" "coder" "B") (.int 0) ∈ flatC (Jvm.Cond.and given_1 narrow_1)) ∧ (Cond.arrayOf (.field (st_tm i) "java/lang/String" "value" "[B") .byte ∈ flatC (Jvm.Cond.and given_1 narrow_1)) := by decide +kernel
def st_len : List Nat := [5, 5, 7, 6, 4, 4]
def st_byt : List (List Int32) := [[97, 114, 114, 97, 121], [115, 116, 101, 112, 115], [101, 108, 101, 109, 101, 110, 116], [98, 114, 111, 107, 101, 110], [108, 111, 111, 107], [100, 101, 97, 102]]
theorem st_lens : ∀ i : Nat, i < 6 → Cond.eq (.length (.field (st_tm i) "java/lang/String" "value" "[B")) (.int (Int32.ofNat (st_len.getD i 0))) ∈ flatC (Jvm.Cond.and given_1 narrow_1) := by decide +kernel
theorem st_els : ∀ i : Nat, i < 6 → ∀ j : Nat, j < st_len.getD i 0 → Cond.eq (.elem (.field (st_tm i) "java/lang/String" "value" "[B") (.int (Int32.ofNat j))) (.int ((st_byt.getD i []).getD j 0)) ∈ flatC (Jvm.Cond.and given_1 narrow_1) := by decide +kernel
theorem st_nes : ∀ i : Nat, i < 6 → ∀ j : Nat, j < 6 → i ≠ j → Cond.not (Cond.eq (st_tm i) (st_tm j)) ∈ flatC (Jvm.Cond.and given_1 narrow_1) ∨ Cond.not (Cond.eq (st_tm j) (st_tm i)) ∈ flatC (Jvm.Cond.and given_1 narrow_1) := by decide +kernel
theorem st_len5 : ∀ i : Nat, i < 6 → st_len.getD i 0 < 2 ^ 31 := by decide
theorem st_str {s : State} {args : Array Value} {A : Nat → Prop} (hs : ∀ w ∈ flatC (Jvm.Cond.and given_1 narrow_1), w.before args s = true) (hA : ∀ a : Nat, a < s.heap.size → ¬ A a) : ∃ adK adV : Nat → Nat, vk_S 6 st_len st_byt adK adV A s s.heap ∧ ∀ i : Nat, i < 6 → (st_tm i).eval args s none [] s = some (.ref (adK i)) :=
  vk_Sof st_len5 (fun i hi => hs _ (st_ids i hi).1) (fun i hi => hs _ (st_ids i hi).2.1) (fun i hi => hs _ (st_ids i hi).2.2) (fun i hi => hs _ (st_lens i hi)) (fun i hi j hj => hs _ (st_els i hi j hj)) (fun i j hi hj hij => by
    rcases st_nes i hi j hj hij with h | h
    · exact Or.inl (hs _ h)
    · exact Or.inr (hs _ h)) hA
theorem st_refs {s : State} {args : Array Value} {od : Nat → Nat} (hts : ∀ w ∈ lw_tbl, w.before args s = true) (hs : ∀ w ∈ flatC (Jvm.Cond.and given_1 narrow_1), w.before args s = true) (h : ∀ i : Nat, i < 6 → (st_tm i).eval args s none [] s = some (.ref (od (1003 + i)))) : ∀ q ∈ mm_strs, vk_R (mm_cn q.1) q.2.1 q.2.2.1 (od q.2.2.2) s := by
  intro q hq
  simp only [mm_strs, List.mem_cons, List.not_mem_nil, or_false] at hq
  rcases hq with rfl | rfl | rfl | rfl | rfl | rfl | rfl | rfl | rfl | rfl | rfl | rfl
  · exact vk_R.of (A := args) (hts (.stringRef "DeafArray$Reader" 56 "array") (List.mem_of_getElem? (i := 488) (by decide +kernel))) (h 0 (by decide))
  · exact vk_R.of (A := args) (hts (.stringRef "DeafArray$Reader" 62 "steps") (List.mem_of_getElem? (i := 549) (by decide +kernel))) (h 1 (by decide))
  · exact vk_R.of (A := args) (hts (.stringRef "DeafArray$Reader" 73 "element") (List.mem_of_getElem? (i := 558) (by decide +kernel))) (h 2 (by decide))
  · exact vk_R.of (A := args) (hts (.stringRef "DeafArray$Reader" 79 "broken") (List.mem_of_getElem? (i := 559) (by decide +kernel))) (h 3 (by decide))
  · exact vk_R.of (A := args) (hts (.stringRef "DeafArray$Reader" 85 "look") (List.mem_of_getElem? (i := 572) (by decide +kernel))) (h 4 (by decide))
  · exact vk_R.of (A := args) (hts (.stringRef "DeafArray$Reader" 90 "deaf") (List.mem_of_getElem? (i := 589) (by decide +kernel))) (h 5 (by decide))
  · exact vk_R.of (A := args) (hts (.stringRef "DeafArrayModel" 256 "array") (List.mem_of_getElem? (i := 1378) (by decide +kernel))) (va_eqR (t := st_tm 0) (hs (Cond.eq (st_tm 0) (.string "DeafArrayModel" 256)) (by decide +kernel)) (h 0 (by decide)))
  · exact vk_R.of (A := args) (hts (.stringRef "DeafArrayModel" 262 "steps") (List.mem_of_getElem? (i := 1393) (by decide +kernel))) (va_eqR (t := st_tm 1) (hs (Cond.eq (st_tm 1) (.string "DeafArrayModel" 262)) (by decide +kernel)) (h 1 (by decide)))
  · exact vk_R.of (A := args) (hts (.stringRef "DeafArrayModel" 264 "element") (List.mem_of_getElem? (i := 1398) (by decide +kernel))) (va_eqR (t := st_tm 2) (hs (Cond.eq (st_tm 2) (.string "DeafArrayModel" 264)) (by decide +kernel)) (h 2 (by decide)))
  · exact vk_R.of (A := args) (hts (.stringRef "DeafArrayModel" 269 "broken") (List.mem_of_getElem? (i := 1403) (by decide +kernel))) (va_eqR (t := st_tm 3) (hs (Cond.eq (st_tm 3) (.string "DeafArrayModel" 269)) (by decide +kernel)) (h 3 (by decide)))
  · exact vk_R.of (A := args) (hts (.stringRef "DeafArrayModel" 271 "look") (List.mem_of_getElem? (i := 1404) (by decide +kernel))) (va_eqR (t := st_tm 4) (hs (Cond.eq (st_tm 4) (.string "DeafArrayModel" 271)) (by decide +kernel)) (h 4 (by decide)))
  · exact vk_R.of (A := args) (hts (.stringRef "DeafArrayModel" 277 "deaf") (List.mem_of_getElem? (i := 1413) (by decide +kernel))) (va_eqR (t := st_tm 5) (hs (Cond.eq (st_tm 5) (.string "DeafArrayModel" 277)) (by decide +kernel)) (h 5 (by decide)))
set_option maxHeartbeats 4000000 in
theorem whole_law (hlaw : ∀ (L : Nat) (Ib : Nat → Nat → Int32), L ≤ 3072 → (∀ j, j < 24 → Ib 1002 j = mm_pw j) → ∃ g2, f_La_law L (g0 Ib) = some (1, g2)) {p : Program} {e : Env} {s : State} {m : MethodId} {below : List Frame} {meth : Method} {c : Code} (l : Launch) {b L : Nat} {xs : Nat → Int32} (hL : L ≤ 3072) (C0 : lw_At p s m meth c b L xs) : W p l e room_1 s m #[Value.ref b] below meth c s.heap [] 0 0 (lw_Z below #[Value.ref b] s) (entryFrame m ([Value.ref b] : List Value).toArray 4) := by
  obtain ⟨hx, hb, hr, hml, hown, hts, hX, hbl, hlocks, hgv, hnm⟩ := C0
  have hs := flat_of_before _ hgv
  have hA : ∀ a : Nat, a < s.heap.size → ¬ mm_A s.heap.size a := fun a ha h => absurd ha (Nat.not_lt.mpr h)
  obtain ⟨D, hD⟩ := st_cls hts
  obtain ⟨dA, hdA⟩ := st_arrs hts
  obtain ⟨t, ht, hT⟩ := st_pow (A := mm_A s.heap.size) hs hA
  obtain ⟨adK, adV, hS6, hev⟩ := st_str (A := mm_A s.heap.size) hs hA
  let od : Nat → Nat := fun a => if a = 1001 then b else if a = 1002 then t else adK (a - 1003)
  have hOld : mm_Old s.heap.size od L xs s s.heap := by
    refine ⟨hX, hbl, ?_, hT, st_refs (od := od) hts hs (fun i hi => ?_), ⟨adV, ?_⟩, ?_, ?_⟩
    · exact va_Zref (hts (.laysStatic "DeafArrayModel" "POWERS" "[I") (List.mem_of_getElem? (i := 1490) (by decide +kernel))) (hts (.initialized "DeafArrayModel") (List.mem_of_getElem? (i := 99) (by decide +kernel))) ht hA
    · have e1 : od (1003 + i) = adK i := by
        show (if 1003 + i = 1001 then b else if 1003 + i = 1002 then t else adK (1003 + i - 1003)) = adK i
        rw [if_neg (by omega), if_neg (by omega), show 1003 + i - 1003 = i by omega]
      rw [e1]; exact hev i hi
    · have e1 : (fun i => od (1003 + i)) = adK := by
        funext i
        show (if 1003 + i = 1001 then b else if 1003 + i = 1002 then t else adK (1003 + i - 1003)) = adK i
        rw [if_neg (by omega), if_neg (by omega), show 1003 + i - 1003 = i by omega]
      rw [e1]; exact hS6
    · exact va_Zof (hts (.laysStatic "java/lang/String" "COMPACT_STRINGS" "Z") (List.mem_of_getElem? (i := 506) (by decide +kernel))) (hts (.initialized "java/lang/String") (List.mem_of_getElem? (i := 100) (by decide +kernel))) (va_eqi (hs _ (by decide +kernel))) hA
    · exact va_Zqof (hts (.laysStatic "jdk/internal/util/Preconditions" "SIOOBE_FORMATTER" "Ljava/util/function/BiFunction;") (List.mem_of_getElem? (i := 522) (by decide +kernel))) (hts (.initialized "jdk/internal/util/Preconditions") (List.mem_of_getElem? (i := 102) (by decide +kernel))) (hs _ (by decide +kernel)) hA
  have hCt : mm_Ct s.heap.size od D dA L xs #[Value.ref b] s := ⟨fun w hw => hts w (List.mem_filter.mp hw).1, ⟨hD, hdA⟩, fun w hw hn => va_Nw.of (nest_tab hn) (hts w hw), va_AO.of (hts (.arrayOver (.object RX3)) (List.mem_of_getElem? (i := 220) (by decide +kernel))), hOld, Nat.le_refl _, by omega⟩
  let Ib : Nat → Nat → Int32 := fun a j => if a = 1001 then xs j else mm_pw j
  obtain ⟨g2, hg2⟩ := hlaw L Ib hL (fun j _ => rfl)
  obtain ⟨n, hn⟩ := e_La_law (g0 Ib) hg2
  have hex := law_pre (Ib := Ib) hn
  have hWd : mm_Wd s.heap.size od D dA xs ([], cxI [] Ib, cxJ) s.heap := ⟨fun k q h => by simp [mm_ws] at h, Nat.zero_le _, fun j => rfl, fun j _ => rfl⟩
  have hl := lv_entry ([.ref b]) (n := 4) (Nat.le_of_ble_eq_true rfl)
  rw [lg_entry_eq]
  generalize (lg_sl ([.ref b]) ++ List.replicate (4 - (lg_sl ([.ref b])).length) Slot.unset).toArray = ls at hl ⊢
  have hl : lv_has ls 4 [(0, .ref b)] := hl
  have hlR : mm_lR (mm_ph s.heap.size od) [some (.ref 1001)] ls 4 := by
    refine ⟨hl.1, hl.2.1, fun i v hv => ?_⟩
    match i, hv with
    | 0, hv => cases hv; exact hl.2.2 (0, .ref b) (by simp)
    | i + 1, hv => simp at hv
  have hcl : S0.length = 172 := by decide +kernel
  have hsl : mm_sl (hp (g0 Ib)) ≤ 7302250 := by
    show (S0.map (fun c => c.2.1)).sum ≤ 7302250
    decide +kernel
  have hsd := mm_sound pg_ok (l := l) (B := s.heap.size) (od := od) (D := D) (dA := dA) (Lx := L) (xs := xs) (n + 3010) 303 0 [some (.ref 1001)] [] ([], cxI [] Ib, cxJ) _ _ hex (p := p) (e := e) (R := { frames := 12, locals := 488, cells := 172, slots := mm_sl (hp g2) }) (s := s) (m := m) (args := #[Value.ref b]) (below := below) (meth := meth) (c := c) (H := s.heap) (locs := []) (cells := 0) (slots := 0) (ls := ls) (n0 := 0) (z0 := 0) (mc := 172) (ms := mm_sl (hp g2))
    ⟨hx, hb, hml, hown, hCt⟩ hr hlocks hnm rfl rfl rfl rfl hWd va_S.rf hlR (fun i v hv => by
      match i, hv with
      | 0, hv => cases hv; exact mm_tag_ok (t := 2) rfl (by decide)
      | i + 1, hv => simp at hv) (by omega) rfl rfl (show 172 + 0 = S0.length by rw [hcl]) (Nat.add_zero _)
  refine W_room (R := { frames := 12, locals := 488, cells := 172, slots := mm_sl (hp g2) }) (Nat.le_of_ble_eq_true rfl) (Nat.le_of_ble_eq_true rfl) (Nat.le_of_ble_eq_true rfl) (by exact hsl) (W_post ?_ hsd)
  rintro t ⟨o, h1, h2, ⟨rfl, -, -⟩, Lc, ⟨hv, hW, hsm⟩, hLc⟩
  refine ⟨_, h1, h2, rfl, ⟨_, rfl⟩, hW, ?_⟩
  exact hsm.weaken (fun y hy hlt => absurd hlt (Nat.not_lt.mpr (hLc y hy))) (Nat.le_of_ble_eq_true rfl) (by exact hsl)
