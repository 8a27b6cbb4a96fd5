def ys_chk : MethodName := ⟨"jdk/internal/util/Preconditions", "checkIndex", "(IILjava/util/function/BiFunction;)I"⟩
theorem ds_chk_0 : decode prog_17_method_11_code 0 = .ok (.iload_n 0, 1) := by decide +kernel
theorem ds_chk_1 : decode prog_17_method_11_code 1 = .ok (.ifCond .lt 8, 3) := by decide +kernel
theorem ds_chk_4 : decode prog_17_method_11_code 4 = .ok (.iload_n 0, 1) := by decide +kernel
theorem ds_chk_5 : decode prog_17_method_11_code 5 = .ok (.iload_n 1, 1) := by decide +kernel
theorem ds_chk_6 : decode prog_17_method_11_code 6 = .ok (.if_icmp .lt 10, 3) := by decide +kernel
theorem ds_chk_9 : decode prog_17_method_11_code 9 = .ok (.aload_n 2, 1) := by decide +kernel
theorem ds_chk_10 : decode prog_17_method_11_code 10 = .ok (.iload_n 0, 1) := by decide +kernel
theorem ds_chk_11 : decode prog_17_method_11_code 11 = .ok (.iload_n 1, 1) := by decide +kernel
theorem ds_chk_12 : decode prog_17_method_11_code 12 = .ok (.invokestatic 95, 3) := by decide +kernel
theorem ds_chk_15 : decode prog_17_method_11_code 15 = .ok (.athrow, 1) := by decide +kernel
theorem ds_chk_16 : decode prog_17_method_11_code 16 = .ok (.iload_n 0, 1) := by decide +kernel
theorem ds_chk_17 : decode prog_17_method_11_code 17 = .ok (.ireturn, 1) := by decide +kernel
def ws_chk : List Cond := .code ys_chk prog_17_method_11_code 3 (some .int) :: mm_gw
theorem pf_chk : plainFor ys_chk = true := by decide +kernel
def ys_sch : MethodName := ⟨"java/lang/String", "checkIndex", "(II)V"⟩
theorem ds_sch_0 : decode prog_14_method_155_code 0 = .ok (.iload_n 0, 1) := by decide +kernel
theorem ds_sch_1 : decode prog_14_method_155_code 1 = .ok (.iload_n 1, 1) := by decide +kernel
theorem ds_sch_2 : decode prog_14_method_155_code 2 = .ok (.getstatic 1053, 3) := by decide +kernel
theorem ds_sch_5 : decode prog_14_method_155_code 5 = .ok (.invokestatic 1059, 3) := by decide +kernel
theorem ds_sch_8 : decode prog_14_method_155_code 8 = .ok (.pop, 1) := by decide +kernel
theorem ds_sch_9 : decode prog_14_method_155_code 9 = .ok (.return_, 1) := by decide +kernel
def ws_sch : List Cond := .code ys_sch prog_14_method_155_code 2 none :: mm_gw
theorem pf_sch : plainFor ys_sch = true := by decide +kernel
def ys_lat : MethodName := ⟨"java/lang/StringLatin1", "charAt", "([BI)C"⟩
theorem ds_lat_0 : decode prog_15_method_2_code 0 = .ok (.iload_n 1, 1) := by decide +kernel
theorem ds_lat_1 : decode prog_15_method_2_code 1 = .ok (.aload_n 0, 1) := by decide +kernel
theorem ds_lat_2 : decode prog_15_method_2_code 2 = .ok (.arraylength, 1) := by decide +kernel
theorem ds_lat_3 : decode prog_15_method_2_code 3 = .ok (.invokestatic 9, 3) := by decide +kernel
theorem ds_lat_6 : decode prog_15_method_2_code 6 = .ok (.aload_n 0, 1) := by decide +kernel
theorem ds_lat_7 : decode prog_15_method_2_code 7 = .ok (.iload_n 1, 1) := by decide +kernel
theorem ds_lat_8 : decode prog_15_method_2_code 8 = .ok (.baload, 1) := by decide +kernel
theorem ds_lat_9 : decode prog_15_method_2_code 9 = .ok (.sipush 255, 3) := by decide +kernel
theorem ds_lat_12 : decode prog_15_method_2_code 12 = .ok (.iand, 1) := by decide +kernel
theorem ds_lat_13 : decode prog_15_method_2_code 13 = .ok (.i2c, 1) := by decide +kernel
theorem ds_lat_14 : decode prog_15_method_2_code 14 = .ok (.ireturn, 1) := by decide +kernel
def ws_lat : List Cond := .code ys_lat prog_15_method_2_code 2 (some .char) :: mm_gw
theorem pf_lat : plainFor ys_lat = true := by decide +kernel
def ys_isl : MethodName := ⟨"java/lang/String", "isLatin1", "()Z"⟩
theorem ds_isl_0 : decode prog_14_method_154_code 0 = .ok (.getstatic 38, 3) := by decide +kernel
theorem ds_isl_3 : decode prog_14_method_154_code 3 = .ok (.ifCond .eq 14, 3) := by decide +kernel
theorem ds_isl_6 : decode prog_14_method_154_code 6 = .ok (.aload_n 0, 1) := by decide +kernel
theorem ds_isl_7 : decode prog_14_method_154_code 7 = .ok (.getfield 15, 3) := by decide +kernel
theorem ds_isl_10 : decode prog_14_method_154_code 10 = .ok (.ifCond .ne 7, 3) := by decide +kernel
theorem ds_isl_13 : decode prog_14_method_154_code 13 = .ok (.iconst 1, 1) := by decide +kernel
theorem ds_isl_14 : decode prog_14_method_154_code 14 = .ok (.goto 4, 3) := by decide +kernel
theorem ds_isl_17 : decode prog_14_method_154_code 17 = .ok (.iconst 0, 1) := by decide +kernel
theorem ds_isl_18 : decode prog_14_method_154_code 18 = .ok (.ireturn, 1) := by decide +kernel
def ws_isl : List Cond := .code ys_isl prog_14_method_154_code 1 (some .boolean) :: mm_gw
theorem pf_isl : plainFor ys_isl = true := by decide +kernel
def ys_cod : MethodName := ⟨"java/lang/String", "coder", "()B"⟩
theorem ds_cod_0 : decode prog_14_method_152_code 0 = .ok (.getstatic 38, 3) := by decide +kernel
theorem ds_cod_3 : decode prog_14_method_152_code 3 = .ok (.ifCond .eq 10, 3) := by decide +kernel
theorem ds_cod_6 : decode prog_14_method_152_code 6 = .ok (.aload_n 0, 1) := by decide +kernel
theorem ds_cod_7 : decode prog_14_method_152_code 7 = .ok (.getfield 15, 3) := by decide +kernel
theorem ds_cod_10 : decode prog_14_method_152_code 10 = .ok (.goto 4, 3) := by decide +kernel
theorem ds_cod_13 : decode prog_14_method_152_code 13 = .ok (.iconst 1, 1) := by decide +kernel
theorem ds_cod_14 : decode prog_14_method_152_code 14 = .ok (.ireturn, 1) := by decide +kernel
def ws_cod : List Cond := .code ys_cod prog_14_method_152_code 1 (some .byte) :: mm_gw
theorem pf_cod : plainFor ys_cod = true := by decide +kernel
def ys_len : MethodName := ⟨"java/lang/String", "length", "()I"⟩
theorem ds_len_0 : decode prog_14_method_54_code 0 = .ok (.aload_n 0, 1) := by decide +kernel
theorem ds_len_1 : decode prog_14_method_54_code 1 = .ok (.getfield 9, 3) := by decide +kernel
theorem ds_len_4 : decode prog_14_method_54_code 4 = .ok (.arraylength, 1) := by decide +kernel
theorem ds_len_5 : decode prog_14_method_54_code 5 = .ok (.aload_n 0, 1) := by decide +kernel
theorem ds_len_6 : decode prog_14_method_54_code 6 = .ok (.invokevirtual 335, 3) := by decide +kernel
theorem ds_len_9 : decode prog_14_method_54_code 9 = .ok (.ishr, 1) := by decide +kernel
theorem ds_len_10 : decode prog_14_method_54_code 10 = .ok (.ireturn, 1) := by decide +kernel
def ws_len : List Cond := .code ys_len prog_14_method_54_code 1 (some .int) :: mm_gw
theorem pf_len : plainFor ys_len = true := by decide +kernel
def ys_cha : MethodName := ⟨"java/lang/String", "charAt", "(I)C"⟩
theorem ds_cha_0 : decode prog_14_method_56_code 0 = .ok (.aload_n 0, 1) := by decide +kernel
theorem ds_cha_1 : decode prog_14_method_56_code 1 = .ok (.invokevirtual 492, 3) := by decide +kernel
theorem ds_cha_4 : decode prog_14_method_56_code 4 = .ok (.ifCond .eq 12, 3) := by decide +kernel
theorem ds_cha_7 : decode prog_14_method_56_code 7 = .ok (.aload_n 0, 1) := by decide +kernel
theorem ds_cha_8 : decode prog_14_method_56_code 8 = .ok (.getfield 9, 3) := by decide +kernel
theorem ds_cha_11 : decode prog_14_method_56_code 11 = .ok (.iload_n 1, 1) := by decide +kernel
theorem ds_cha_12 : decode prog_14_method_56_code 12 = .ok (.invokestatic 495, 3) := by decide +kernel
theorem ds_cha_15 : decode prog_14_method_56_code 15 = .ok (.ireturn, 1) := by decide +kernel
theorem ds_cha_16 : decode prog_14_method_56_code 16 = .ok (.aload_n 0, 1) := by decide +kernel
theorem ds_cha_17 : decode prog_14_method_56_code 17 = .ok (.getfield 9, 3) := by decide +kernel
theorem ds_cha_20 : decode prog_14_method_56_code 20 = .ok (.iload_n 1, 1) := by decide +kernel
theorem ds_cha_21 : decode prog_14_method_56_code 21 = .ok (.invokestatic 498, 3) := by decide +kernel
theorem ds_cha_24 : decode prog_14_method_56_code 24 = .ok (.ireturn, 1) := by decide +kernel
def ws_cha : List Cond := .code ys_cha prog_14_method_56_code 2 (some .char) :: mm_gw
theorem pf_cha : plainFor ys_cha = true := by decide +kernel
set_option maxRecDepth 100000 in
theorem wc_chk : (.code ys_chk prog_17_method_11_code 3 (some .int) : Cond) ∈ mm_gw := List.mem_filter.mpr ⟨List.mem_of_getElem? (i := 525) rfl, rfl⟩
set_option maxRecDepth 100000 in
theorem wc_sch : (.code ys_sch prog_14_method_155_code 2 none : Cond) ∈ mm_gw := List.mem_filter.mpr ⟨List.mem_of_getElem? (i := 520) rfl, rfl⟩
set_option maxRecDepth 100000 in
theorem wc_lat : (.code ys_lat prog_15_method_2_code 2 (some .char) : Cond) ∈ mm_gw := List.mem_filter.mpr ⟨List.mem_of_getElem? (i := 517) rfl, rfl⟩
set_option maxRecDepth 100000 in
theorem wc_isl : (.code ys_isl prog_14_method_154_code 1 (some .boolean) : Cond) ∈ mm_gw := List.mem_filter.mpr ⟨List.mem_of_getElem? (i := 514) rfl, rfl⟩
set_option maxRecDepth 100000 in
theorem wc_cod : (.code ys_cod prog_14_method_152_code 1 (some .byte) : Cond) ∈ mm_gw := List.mem_filter.mpr ⟨List.mem_of_getElem? (i := 504) rfl, rfl⟩
set_option maxRecDepth 100000 in
theorem wc_len : (.code ys_len prog_14_method_54_code 1 (some .int) : Cond) ∈ mm_gw := List.mem_filter.mpr ⟨List.mem_of_getElem? (i := 500) rfl, rfl⟩
set_option maxRecDepth 100000 in
theorem wc_cha : (.code ys_cha prog_14_method_56_code 2 (some .char) : Cond) ∈ mm_gw := List.mem_filter.mpr ⟨List.mem_of_getElem? (i := 510) rfl, rfl⟩
set_option maxRecDepth 100000 in
theorem wi_S : (.initialized "java/lang/String" : Cond) ∈ mm_gw := List.mem_filter.mpr ⟨List.mem_of_getElem? (i := 100) rfl, rfl⟩
set_option maxRecDepth 100000 in
theorem wi_L : (.initialized "java/lang/StringLatin1" : Cond) ∈ mm_gw := List.mem_filter.mpr ⟨List.mem_of_getElem? (i := 101) rfl, rfl⟩
set_option maxRecDepth 100000 in
theorem wi_P : (.initialized "jdk/internal/util/Preconditions" : Cond) ∈ mm_gw := List.mem_filter.mpr ⟨List.mem_of_getElem? (i := 102) rfl, rfl⟩
set_option maxRecDepth 100000 in
theorem wl_cod : (.methodLink "java/lang/String" 335 ys_cod : Cond) ∈ mm_gw := List.mem_filter.mpr ⟨List.mem_of_getElem? (i := 501) rfl, rfl⟩
set_option maxRecDepth 100000 in
theorem wn_cod : (.instanceMethod ys_cod : Cond) ∈ mm_gw := List.mem_filter.mpr ⟨List.mem_of_getElem? (i := 502) rfl, rfl⟩
set_option maxRecDepth 100000 in
theorem we_cod : (.selects "java/lang/String" ys_cod ys_cod : Cond) ∈ mm_gw := List.mem_filter.mpr ⟨List.mem_of_getElem? (i := 503) rfl, rfl⟩
set_option maxRecDepth 100000 in
theorem wl_isl : (.methodLink "java/lang/String" 492 ys_isl : Cond) ∈ mm_gw := List.mem_filter.mpr ⟨List.mem_of_getElem? (i := 511) rfl, rfl⟩
set_option maxRecDepth 100000 in
theorem wn_isl : (.instanceMethod ys_isl : Cond) ∈ mm_gw := List.mem_filter.mpr ⟨List.mem_of_getElem? (i := 512) rfl, rfl⟩
set_option maxRecDepth 100000 in
theorem we_isl : (.selects "java/lang/String" ys_isl ys_isl : Cond) ∈ mm_gw := List.mem_filter.mpr ⟨List.mem_of_getElem? (i := 513) rfl, rfl⟩
set_option maxRecDepth 100000 in
theorem wl_lat : (.methodLink "java/lang/String" 495 ys_lat : Cond) ∈ mm_gw := List.mem_filter.mpr ⟨List.mem_of_getElem? (i := 515) rfl, rfl⟩
set_option maxRecDepth 100000 in
theorem wn_lat : (.static ys_lat : Cond) ∈ mm_gw := List.mem_filter.mpr ⟨List.mem_of_getElem? (i := 516) rfl, rfl⟩
set_option maxRecDepth 100000 in
theorem wl_sch : (.methodLink "java/lang/StringLatin1" 9 ys_sch : Cond) ∈ mm_gw := List.mem_filter.mpr ⟨List.mem_of_getElem? (i := 518) rfl, rfl⟩
set_option maxRecDepth 100000 in
theorem wn_sch : (.static ys_sch : Cond) ∈ mm_gw := List.mem_filter.mpr ⟨List.mem_of_getElem? (i := 519) rfl, rfl⟩
set_option maxRecDepth 100000 in
theorem wl_chk : (.methodLink "java/lang/String" 1059 ys_chk : Cond) ∈ mm_gw := List.mem_filter.mpr ⟨List.mem_of_getElem? (i := 523) rfl, rfl⟩
set_option maxRecDepth 100000 in
theorem wn_chk : (.static ys_chk : Cond) ∈ mm_gw := List.mem_filter.mpr ⟨List.mem_of_getElem? (i := 524) rfl, rfl⟩
set_option maxRecDepth 100000 in
theorem wn_len : (.instanceMethod ys_len : Cond) ∈ mm_gw := List.mem_filter.mpr ⟨List.mem_of_getElem? (i := 498) rfl, rfl⟩
set_option maxRecDepth 100000 in
theorem we_len : (.selects "java/lang/String" ys_len ys_len : Cond) ∈ mm_gw := List.mem_filter.mpr ⟨List.mem_of_getElem? (i := 499) rfl, rfl⟩
set_option maxRecDepth 100000 in
theorem wn_cha : (.instanceMethod ys_cha : Cond) ∈ mm_gw := List.mem_filter.mpr ⟨List.mem_of_getElem? (i := 508) rfl, rfl⟩
set_option maxRecDepth 100000 in
theorem we_cha : (.selects "java/lang/String" ys_cha ys_cha : Cond) ∈ mm_gw := List.mem_filter.mpr ⟨List.mem_of_getElem? (i := 509) rfl, rfl⟩
set_option maxRecDepth 100000 in
theorem wf_com : (.fieldLink "java/lang/String" 38 "java/lang/String" "COMPACT_STRINGS" "Z" : Cond) ∈ mm_gw := List.mem_filter.mpr ⟨List.mem_of_getElem? (i := 505) rfl, rfl⟩
set_option maxRecDepth 100000 in
theorem wf_sio : (.fieldLink "java/lang/String" 1053 "jdk/internal/util/Preconditions" "SIOOBE_FORMATTER" "Ljava/util/function/BiFunction;" : Cond) ∈ mm_gw := List.mem_filter.mpr ⟨List.mem_of_getElem? (i := 521) rfl, rfl⟩
set_option maxRecDepth 100000 in
theorem wf_val : (.fieldLink "java/lang/String" 9 "java/lang/String" "value" "[B" : Cond) ∈ mm_gw := List.mem_filter.mpr ⟨List.mem_of_getElem? (i := 1851) rfl, rfl⟩
set_option maxRecDepth 100000 in
theorem wf_co : (.fieldLink "java/lang/String" 15 "java/lang/String" "coder" "B" : Cond) ∈ mm_gw := List.mem_filter.mpr ⟨List.mem_of_getElem? (i := 1852) rfl, rfl⟩
section Step
variable {p : Program} {l : Launch} {e : Env} {R : Room} {s : State} {m : MethodId} {args : Array Value} {below : List Frame} {meth : Method} {c : Code} {H : Heap} {locs : List Loc} {cells slots : Nat} {Q : State → Prop}
variable {cc : ByteArray} {B : Nat} {od : Nat → Nat} {D : va_G} {dA : Nat → ClassId} {Lx : Nat} {xs : Nat → Int32} {own : String} {nL : Nat} {ini : Bool}
def ms_S (B : Nat) (od adV : Nat → Nat) (U : State) (H : Heap) : Prop := vk_S 6 [5, 5, 7, 6, 4, 4] [[97, 114, 114, 97, 121], [115, 116, 101, 112, 115], [101, 108, 101, 109, 101, 110, 116], [98, 114, 111, 107, 101, 110], [108, 111, 111, 107], [100, 101, 97, 102]] (fun i => od (1003 + i)) adV (mm_A B) U H
def ms_Pc (B : Nat) (od adV : Nat → Nat) (Lx : Nat) (xs : Nat → Int32) (vs : List Value) : Array Value → State → Prop := fun a U => a = vs.toArray ∧ mm_Old B od Lx xs U U.heap ∧ ms_S B od adV U U.heap ∧ B ≤ U.heap.size
def ms_Qc (r : Option Value) : Array Value → State → Outcome → State → Prop := fun _ st oc t => oc = .returned r ∧ t.heap = st.heap
theorem ms_blind {adV : Nat → Nat} {vs : List Value} : FrameBlind (ms_Pc B od adV Lx xs vs) := by
  intro a U g mk q
  obtain ⟨q1, q2, q3, q4⟩ := q
  exact ⟨q1, mm_Old_same (s := U) (U := U.calling g mk a) rfl rfl q2, q3.moved (u := U) (U := U.calling g mk a) (Vm.Alike.refl U.vm), q4⟩
theorem ms_pre {adV : Nat → Nat} {vs : List Value} {U : State} (hO : mm_Old B od Lx xs s s.heap) (hM : ms_S B od adV s s.heap) (hB : B ≤ s.heap.size) (hS : va_S (mm_A B) s.heap H locs) (hU : U.heap = H) (hW : s.WarmedH U.vm) : ms_Pc B od adV Lx xs vs vs.toArray U :=
  ⟨rfl, mm_Old_to hW hU hS hB hO, (hM.kept (by rw [hU]; exact hS.2.1)).moved hW.alike, by rw [hU]; exact Nat.le_trans hB hS.1⟩
theorem ms_cont {r : Option Value} {pc : Nat} {ls : Array Slot} {st0 rest : List Value} {a : Array Value} (hr : va_Run p l e R s m args below meth c H locs cells slots 0 0 (F0 m pc ls st0) rest (ms_Qc r a) (fun _ => False)) (k : W p l e R s m args below meth c H locs cells slots Q (F0 m (pc + 3) ls (r.toList ++ rest))) : W p l e R s m args below meth c H locs cells slots Q (F0 m pc ls st0) := by
  intro T hT X
  obtain ⟨v, st₀, t, T', L, h0, X', hL, e1, e2, ⟨hv, hh⟩, st⟩ := hr T hT X
  cases hv
  have hL0 : L = [] := by
    cases L with
    | nil => rfl
    | cons q _ => exact (hL q List.mem_cons_self).elim
  subst hL0
  rw [List.append_nil] at X'
  obtain ⟨t2, a1, b1⟩ := k T' (by rw [e1, hh, h0]) X'
  exact ⟨t2, st t2 a1, b1⟩
theorem ms_good {y : MethodName} {bs : ByteArray} {mx : Nat} {rt : Option FieldType} (hc : Cond.code y bs mx rt ∈ mm_gw) : GoodIn mm_gw (Cond.code y bs mx rt :: mm_gw) := by
  intro w hw
  have hw2 : w ∈ mm_gw := by
    rcases List.mem_cons.mp hw with rfl | h9
    · exact hc
    · exact h9
  exact ⟨hw2, good_of_word (List.mem_filter.mp hw2).2⟩
end Step
section Str
variable {l : Launch} {B : Nat} {od adV : Nat → Nat} {Lx : Nat} {xs : Nat → Int32}
theorem me_chk {j n : Int32} {f : Value} (hj : 0 ≤ j) (hn : j < n) (hf : f = .null ∨ ∃ a, f = .ref a) : Met l ys_chk ws_chk { frames := 0, cells := 0, slots := 0, locals := 0 } (ms_Pc B od adV Lx xs [.int j, .int n, f]) (ms_Qc (some (.int j))) 0 0 (fun _ => False) := by
  rcases hf with rfl | ⟨a, rfl⟩
  · refine va_MetF (cc := prog_17_method_11_code) (maxL := 3) (ret := (some .int)) pf_chk rfl ?_
    intro p e s m args below meth c s₁ Bd hml hv
    obtain ⟨rfl, hO, hM, hB⟩ := hv
    have hx := Bd.exec
    have hb := Bd.bytes
    have hr := Bd.returns
    have hts : ∀ w ∈ mm_gw, w.before _ s = true := fun w hw => atoms_spec (ws := ws_chk) Bd.pre w (List.mem_cons_of_mem _ hw)
    have hown : s.vm.findClass "jdk/internal/util/Preconditions" = some m.cls := findClass_of_methodNamed Bd.named
    have hlk := Bd.notSynchronized
    have hS : va_S (mm_A B) s.heap s.heap [] := va_S.rf
    have hl := lv_entry ([.int j, .int n, .null]) (n := 3) (Nat.le_of_ble_eq_true rfl)
    rw [lg_entry_eq]
    generalize (lg_sl ([.int j, .int n, .null]) ++ List.replicate (3 - (lg_sl ([.int j, .int n, .null])).length) Slot.unset).toArray = ls at hl ⊢
    have hl : lv_has ls 3 [(0, .int j), (1, .int n), (2, .null)] := hl
    refine lv_iload_n hx hb ds_chk_0 rfl (lv_at hl 0 rfl) ?_
    refine lv_if_lt (tgt := 9) hx hb ds_chk_1 rfl (fun h => absurd h (mm_nn hj)) (fun _ => ?_)
    refine lv_iload_n hx hb ds_chk_4 rfl (lv_at hl 0 rfl) ?_
    refine lv_iload_n hx hb ds_chk_5 rfl (lv_at hl 1 rfl) ?_
    refine lv_icmp_lt (tgt := 16) hx hb ds_chk_6 rfl (fun _ => ?_) (fun h => absurd hn h)
    refine lv_iload_n hx hb ds_chk_16 rfl (lv_at hl 0 rfl) ?_
    exact W.iret hx hb hr (fun t ht hW => ⟨rfl, ht⟩) (fun q hq => absurd hq List.not_mem_nil) ds_chk_17 hlk
  · refine va_MetF (cc := prog_17_method_11_code) (maxL := 3) (ret := (some .int)) pf_chk rfl ?_
    intro p e s m args below meth c s₁ Bd hml hv
    obtain ⟨rfl, hO, hM, hB⟩ := hv
    have hx := Bd.exec
    have hb := Bd.bytes
    have hr := Bd.returns
    have hts : ∀ w ∈ mm_gw, w.before _ s = true := fun w hw => atoms_spec (ws := ws_chk) Bd.pre w (List.mem_cons_of_mem _ hw)
    have hown : s.vm.findClass "jdk/internal/util/Preconditions" = some m.cls := findClass_of_methodNamed Bd.named
    have hlk := Bd.notSynchronized
    have hS : va_S (mm_A B) s.heap s.heap [] := va_S.rf
    have hl := lv_entry ([.int j, .int n, .ref a]) (n := 3) (Nat.le_of_ble_eq_true rfl)
    rw [lg_entry_eq]
    generalize (lg_sl ([.int j, .int n, .ref a]) ++ List.replicate (3 - (lg_sl ([.int j, .int n, .ref a])).length) Slot.unset).toArray = ls at hl ⊢
    have hl : lv_has ls 3 [(0, .int j), (1, .int n), (2, .ref a)] := hl
    refine lv_iload_n hx hb ds_chk_0 rfl (lv_at hl 0 rfl) ?_
    refine lv_if_lt (tgt := 9) hx hb ds_chk_1 rfl (fun h => absurd h (mm_nn hj)) (fun _ => ?_)
    refine lv_iload_n hx hb ds_chk_4 rfl (lv_at hl 0 rfl) ?_
    refine lv_iload_n hx hb ds_chk_5 rfl (lv_at hl 1 rfl) ?_
    refine lv_icmp_lt (tgt := 16) hx hb ds_chk_6 rfl (fun _ => ?_) (fun h => absurd hn h)
    refine lv_iload_n hx hb ds_chk_16 rfl (lv_at hl 0 rfl) ?_
    exact W.iret hx hb hr (fun t ht hW => ⟨rfl, ht⟩) (fun q hq => absurd hq List.not_mem_nil) ds_chk_17 hlk
theorem me_sch {j n : Int32} (hj : 0 ≤ j) (hn : j < n) : Met l ys_sch ws_sch { frames := 1, cells := 0, slots := 0, locals := 22 } (ms_Pc B od adV Lx xs [.int j, .int n]) (ms_Qc none) 0 0 (fun _ => False) := by
  refine va_MetF (cc := prog_14_method_155_code) (maxL := 2) (ret := none) pf_sch rfl ?_
  intro p e s m args below meth c s₁ Bd hml hv
  obtain ⟨rfl, hO, hM, hB⟩ := hv
  have hx := Bd.exec
  have hb := Bd.bytes
  have hr := Bd.returns
  have hts : ∀ w ∈ mm_gw, w.before _ s = true := fun w hw => atoms_spec (ws := ws_sch) Bd.pre w (List.mem_cons_of_mem _ hw)
  have hown : s.vm.findClass "java/lang/String" = some m.cls := findClass_of_methodNamed Bd.named
  have hlk := Bd.notSynchronized
  have hS : va_S (mm_A B) s.heap s.heap [] := va_S.rf
  have hl := lv_entry ([.int j, .int n]) (n := 2) (Nat.le_of_ble_eq_true rfl)
  rw [lg_entry_eq]
  generalize (lg_sl ([.int j, .int n]) ++ List.replicate (2 - (lg_sl ([.int j, .int n])).length) Slot.unset).toArray = ls at hl ⊢
  have hl : lv_has ls 2 [(0, .int j), (1, .int n)] := hl
  refine lv_iload_n hx hb ds_sch_0 rfl (lv_at hl 0 rfl) ?_
  refine lv_iload_n hx hb ds_sch_1 rfl (lv_at hl 1 rfl) ?_
  rcases hO.2.2.2.2.2.2.2 with hZ | ⟨t0, hZ⟩
  · refine va_gets hx hb hZ hS hown (hts _ wf_sio) (fun _ h9 => h9) ds_sch_2 ?_
    refine ms_cont (va_runS (As := [.int j, .int n, .null]) (rest := []) ⟨hx, hb, hml, hown, hts⟩ (me_chk hj hn (Or.inl rfl)) ⟨callB_of 3 hts (ms_good wc_chk) rfl rfl rfl (hts _ wi_P) (hts _ wl_chk) ⟨by decide +kernel, by decide +kernel, by decide +kernel⟩ ⟨Nat.le_of_ble_eq_true rfl, Nat.le_of_ble_eq_true rfl⟩, hts _ wn_chk⟩ ⟨ms_blind, fun U hU hW => ms_pre hO hM hB hS hU hW⟩ rfl rfl hl.1 rfl (lv_room (Nat.le_of_ble_eq_true rfl)) ds_sch_5 ⟨Nat.zero_le _, Nat.zero_le _⟩) ?_
    refine lv_pop hx hb ds_sch_8 rfl ?_
    exact W.vret hx hb hr (fun t ht hW => ⟨rfl, ht⟩) (fun q hq => absurd hq List.not_mem_nil) ds_sch_9 hlk
  · refine va_gets hx hb hZ hS hown (hts _ wf_sio) (fun _ h9 => h9) ds_sch_2 ?_
    refine ms_cont (va_runS (As := [.int j, .int n, .ref t0]) (rest := []) ⟨hx, hb, hml, hown, hts⟩ (me_chk hj hn (Or.inr ⟨_, rfl⟩)) ⟨callB_of 3 hts (ms_good wc_chk) rfl rfl rfl (hts _ wi_P) (hts _ wl_chk) ⟨by decide +kernel, by decide +kernel, by decide +kernel⟩ ⟨Nat.le_of_ble_eq_true rfl, Nat.le_of_ble_eq_true rfl⟩, hts _ wn_chk⟩ ⟨ms_blind, fun U hU hW => ms_pre hO hM hB hS hU hW⟩ rfl rfl hl.1 rfl (lv_room (Nat.le_of_ble_eq_true rfl)) ds_sch_5 ⟨Nat.zero_le _, Nat.zero_le _⟩) ?_
    refine lv_pop hx hb ds_sch_8 rfl ?_
    exact W.vret hx hb hr (fun t ht hW => ⟨rfl, ht⟩) (fun q hq => absurd hq List.not_mem_nil) ds_sch_9 hlk
theorem ms_ch : ∀ i, i < 6 → ∀ j, j < ([5, 5, 7, 6, 4, 4] : List Nat).getD i 0 → ((((([[97, 114, 114, 97, 121], [115, 116, 101, 112, 115], [101, 108, 101, 109, 101, 110, 116], [98, 114, 111, 107, 101, 110], [108, 111, 111, 107], [100, 101, 97, 102]] : List (List Int32)).getD i []).getD j 0 &&& (Int16.ofInt 255).toInt32).toUInt32 % 65536).toInt32 = nI ((mm_tx (1003 + i)).getD j 0) ∧ narrow .char (.int (nI ((mm_tx (1003 + i)).getD j 0))) = .int (nI ((mm_tx (1003 + i)).getD j 0))) := by decide +kernel
theorem ms_ln : ∀ i, i < 6 → ([5, 5, 7, 6, 4, 4] : List Nat).getD i 0 = (mm_tx (1003 + i)).length := by decide +kernel
theorem me_lat {i : Nat} {j : Int32} (hi : i < 6) (hj : 0 ≤ j) (hn : j.toNatClampNeg < (mm_tx (1003 + i)).length) : Met l ys_lat ws_lat { frames := 2, cells := 0, slots := 0, locals := 43 } (ms_Pc B od adV Lx xs [.ref (adV i), .int j]) (ms_Qc (some (.int (nI ((mm_tx (1003 + i)).getD j.toNatClampNeg 0))))) 0 0 (fun _ => False) := by
  refine va_MetF (cc := prog_15_method_2_code) (maxL := 2) (ret := (some .char)) pf_lat rfl ?_
  intro p e s m args below meth c s₁ Bd hml hv
  obtain ⟨rfl, hO, hM, hB⟩ := hv
  have hx := Bd.exec
  have hb := Bd.bytes
  have hr := Bd.returns
  have hts : ∀ w ∈ mm_gw, w.before _ s = true := fun w hw => atoms_spec (ws := ws_lat) Bd.pre w (List.mem_cons_of_mem _ hw)
  have hown : s.vm.findClass "java/lang/StringLatin1" = some m.cls := findClass_of_methodNamed Bd.named
  have hlk := Bd.notSynchronized
  have hS : va_S (mm_A B) s.heap s.heap [] := va_S.rf
  have hl := lv_entry ([.ref (adV i), .int j]) (n := 2) (Nat.le_of_ble_eq_true rfl)
  rw [lg_entry_eq]
  generalize (lg_sl ([.ref (adV i), .int j]) ++ List.replicate (2 - (lg_sl ([.ref (adV i), .int j])).length) Slot.unset).toArray = ls at hl ⊢
  have hl : lv_has ls 2 [(0, .ref (adV i)), (1, .int j)] := hl
  obtain ⟨-, -, -, hT⟩ := hM.1 i hi
  have hN := ms_ln i hi
  have hjn : j.toNatClampNeg < ([5, 5, 7, 6, 4, 4] : List Nat).getD i 0 := by rw [hN]; exact hn
  have hlt : j < Int32.ofNat (([5, 5, 7, 6, 4, 4] : List Nat).getD i 0) := by
    have h1 : ([5, 5, 7, 6, 4, 4] : List Nat).getD i 0 < 2 ^ 31 := by
      have : ∀ i, i < 6 → ([5, 5, 7, 6, 4, 4] : List Nat).getD i 0 < 2 ^ 31 := by decide +kernel
      exact this i hi
    obtain ⟨q, hq, rfl⟩ := nI_of (mm_nn hj)
    rw [nI_clamp hq] at hjn
    exact nI_lt hjn h1
  refine lv_iload_n hx hb ds_lat_0 rfl (lv_at hl 1 rfl) ?_
  refine lv_aload_n hx hb ds_lat_1 rfl (lv_at hl 0 rfl) ?_
  refine va_tlen hx hb hT hS rfl ds_lat_2 ?_
  refine ms_cont (va_runS (As := [.int j, .int (Int32.ofNat (([5, 5, 7, 6, 4, 4] : List Nat).getD i 0))]) (rest := []) ⟨hx, hb, hml, hown, hts⟩ (me_sch hj hlt) ⟨callB_of 2 hts (ms_good wc_sch) rfl rfl rfl (hts _ wi_S) (hts _ wl_sch) ⟨by decide +kernel, by decide +kernel, by decide +kernel⟩ ⟨Nat.le_of_ble_eq_true rfl, Nat.le_of_ble_eq_true rfl⟩, hts _ wn_sch⟩ ⟨ms_blind, fun U hU hW => ms_pre hO hM hB hS hU hW⟩ rfl rfl hl.1 rfl (lv_room (Nat.le_of_ble_eq_true rfl)) ds_lat_3 ⟨Nat.zero_le _, Nat.zero_le _⟩) ?_
  refine lv_aload_n hx hb ds_lat_6 rfl (lv_at hl 0 rfl) ?_
  refine lv_iload_n hx hb ds_lat_7 rfl (lv_at hl 1 rfl) ?_
  refine va_tb hx hb hT hS (mm_in hj hjn) rfl ds_lat_8 ?_
  refine lv_sipush hx hb ds_lat_9 rfl ?_
  refine lv_iand hx hb ds_lat_12 ?_
  refine lv_i2c hx hb ds_lat_13 (ms_ch i hi _ hjn).1 ?_
  exact W.zret hx hb hr (ms_ch i hi _ hjn).2 (fun t ht hW => ⟨rfl, ht⟩) (fun q hq => absurd hq List.not_mem_nil) ds_lat_14 hlk
theorem me_isl {i : Nat} (hi : i < 6) : Met l ys_isl ws_isl { frames := 0, cells := 0, slots := 0, locals := 0 } (ms_Pc B od adV Lx xs [.ref (od (1003 + i))]) (ms_Qc (some (.int 1))) 0 0 (fun _ => False) := by
  refine va_MetF (cc := prog_14_method_154_code) (maxL := 1) (ret := (some .boolean)) pf_isl rfl ?_
  intro p e s m args below meth c s₁ Bd hml hv
  obtain ⟨rfl, hO, hM, hB⟩ := hv
  have hx := Bd.exec
  have hb := Bd.bytes
  have hr := Bd.returns
  have hts : ∀ w ∈ mm_gw, w.before _ s = true := fun w hw => atoms_spec (ws := ws_isl) Bd.pre w (List.mem_cons_of_mem _ hw)
  have hown : s.vm.findClass "java/lang/String" = some m.cls := findClass_of_methodNamed Bd.named
  have hlk := Bd.notSynchronized
  have hS : va_S (mm_A B) s.heap s.heap [] := va_S.rf
  have hl := lv_entry ([.ref (od (1003 + i))]) (n := 1) (Nat.le_of_ble_eq_true rfl)
  rw [lg_entry_eq]
  generalize (lg_sl ([.ref (od (1003 + i))]) ++ List.replicate (1 - (lg_sl ([.ref (od (1003 + i))])).length) Slot.unset).toArray = ls at hl ⊢
  have hl : lv_has ls 1 [(0, .ref (od (1003 + i)))] := hl
  obtain ⟨-, hC, -, -⟩ := hM.1 i hi
  refine va_gets hx hb hO.2.2.2.2.2.2.1 hS hown (hts _ wf_com) (fun _ h9 => h9) ds_isl_0 ?_
  refine lv_if_eq (tgt := 17) hx hb ds_isl_3 rfl (fun h => absurd h (by decide)) (fun _ => ?_)
  refine lv_aload_n hx hb ds_isl_6 rfl (lv_at hl 0 rfl) ?_
  refine vk_getf hx hb hC hS hown (hts _ wf_co) (fun _ h9 => h9) ds_isl_7 ?_
  refine lv_if_ne (tgt := 17) hx hb ds_isl_10 rfl (fun h => absurd rfl h) (fun _ => ?_)
  refine lv_iconst (v := 1) hx hb ds_isl_13 (by decide) ?_
  refine lv_goto (tgt := 18) hx hb ds_isl_14 rfl ?_
  exact W.zret hx hb hr (by decide +kernel) (fun t ht hW => ⟨rfl, ht⟩) (fun q hq => absurd hq List.not_mem_nil) ds_isl_18 hlk
theorem me_cod {i : Nat} (hi : i < 6) : Met l ys_cod ws_cod { frames := 0, cells := 0, slots := 0, locals := 0 } (ms_Pc B od adV Lx xs [.ref (od (1003 + i))]) (ms_Qc (some (.int 0))) 0 0 (fun _ => False) := by
  refine va_MetF (cc := prog_14_method_152_code) (maxL := 1) (ret := (some .byte)) pf_cod rfl ?_
  intro p e s m args below meth c s₁ Bd hml hv
  obtain ⟨rfl, hO, hM, hB⟩ := hv
  have hx := Bd.exec
  have hb := Bd.bytes
  have hr := Bd.returns
  have hts : ∀ w ∈ mm_gw, w.before _ s = true := fun w hw => atoms_spec (ws := ws_cod) Bd.pre w (List.mem_cons_of_mem _ hw)
  have hown : s.vm.findClass "java/lang/String" = some m.cls := findClass_of_methodNamed Bd.named
  have hlk := Bd.notSynchronized
  have hS : va_S (mm_A B) s.heap s.heap [] := va_S.rf
  have hl := lv_entry ([.ref (od (1003 + i))]) (n := 1) (Nat.le_of_ble_eq_true rfl)
  rw [lg_entry_eq]
  generalize (lg_sl ([.ref (od (1003 + i))]) ++ List.replicate (1 - (lg_sl ([.ref (od (1003 + i))])).length) Slot.unset).toArray = ls at hl ⊢
  have hl : lv_has ls 1 [(0, .ref (od (1003 + i)))] := hl
  obtain ⟨-, hC, -, -⟩ := hM.1 i hi
  refine va_gets hx hb hO.2.2.2.2.2.2.1 hS hown (hts _ wf_com) (fun _ h9 => h9) ds_cod_0 ?_
  refine lv_if_eq (tgt := 13) hx hb ds_cod_3 rfl (fun h => absurd h (by decide)) (fun _ => ?_)
  refine lv_aload_n hx hb ds_cod_6 rfl (lv_at hl 0 rfl) ?_
  refine vk_getf hx hb hC hS hown (hts _ wf_co) (fun _ h9 => h9) ds_cod_7 ?_
  refine lv_goto (tgt := 14) hx hb ds_cod_10 rfl ?_
  exact W.zret hx hb hr (by decide +kernel) (fun t ht hW => ⟨rfl, ht⟩) (fun q hq => absurd hq List.not_mem_nil) ds_cod_14 hlk
theorem me_len {i : Nat} (hi : i < 6) : Met l ys_len ws_len { frames := 1, cells := 0, slots := 0, locals := 20 } (ms_Pc B od adV Lx xs [.ref (od (1003 + i))]) (ms_Qc (some (.int (nI (mm_tx (1003 + i)).length)))) 0 0 (fun _ => False) := by
  refine va_MetF (cc := prog_14_method_54_code) (maxL := 1) (ret := (some .int)) pf_len rfl ?_
  intro p e s m args below meth c s₁ Bd hml hv
  obtain ⟨rfl, hO, hM, hB⟩ := hv
  have hx := Bd.exec
  have hb := Bd.bytes
  have hr := Bd.returns
  have hts : ∀ w ∈ mm_gw, w.before _ s = true := fun w hw => atoms_spec (ws := ws_len) Bd.pre w (List.mem_cons_of_mem _ hw)
  have hown : s.vm.findClass "java/lang/String" = some m.cls := findClass_of_methodNamed Bd.named
  have hlk := Bd.notSynchronized
  have hS : va_S (mm_A B) s.heap s.heap [] := va_S.rf
  have hl := lv_entry ([.ref (od (1003 + i))]) (n := 1) (Nat.le_of_ble_eq_true rfl)
  rw [lg_entry_eq]
  generalize (lg_sl ([.ref (od (1003 + i))]) ++ List.replicate (1 - (lg_sl ([.ref (od (1003 + i))])).length) Slot.unset).toArray = ls at hl ⊢
  have hl : lv_has ls 1 [(0, .ref (od (1003 + i)))] := hl
  obtain ⟨-, -, hV, hT⟩ := hM.1 i hi
  refine lv_aload_n hx hb ds_len_0 rfl (lv_at hl 0 rfl) ?_
  refine vk_getf hx hb hV hS hown (hts _ wf_val) (fun _ h9 => h9) ds_len_1 ?_
  refine va_tlen hx hb hT hS rfl ds_len_4 ?_
  refine lv_aload_n hx hb ds_len_5 rfl (lv_at hl 0 rfl) ?_
  refine ms_cont (va_runV (C := "java/lang/String") (As := []) (rest := [.int (Int32.ofNat (([5, 5, 7, 6, 4, 4] : List Nat).getD i 0))]) ⟨hx, hb, hml, hown, hts⟩ (me_cod hi) ⟨callB_of 0 hts (ms_good wc_cod) rfl rfl rfl (hts _ wi_S) (hts _ wl_cod) ⟨by decide +kernel, by decide +kernel, by decide +kernel⟩ ⟨Nat.le_of_ble_eq_true rfl, Nat.le_of_ble_eq_true rfl⟩, hts _ wn_cod, hts _ we_cod⟩ ⟨ms_blind, vk_recv hM hi hS, fun U hU hW => ms_pre hO hM hB hS hU hW⟩ rfl rfl hl.1 rfl (lv_room (Nat.le_of_ble_eq_true rfl)) ds_len_6 ⟨Nat.zero_le _, Nat.zero_le _⟩) ?_
  refine lv_ishr hx hb ds_len_9 ?_
  rw [sb_shr0, ms_ln i hi]
  exact W.iret hx hb hr (fun t ht hW => ⟨rfl, ht⟩) (fun q hq => absurd hq List.not_mem_nil) ds_len_10 hlk
theorem me_cha {i : Nat} {j : Int32} (hi : i < 6) (hj : 0 ≤ j) (hn : j.toNatClampNeg < (mm_tx (1003 + i)).length) : Met l ys_cha ws_cha { frames := 3, cells := 0, slots := 0, locals := 64 } (ms_Pc B od adV Lx xs [.ref (od (1003 + i)), .int j]) (ms_Qc (some (.int (nI ((mm_tx (1003 + i)).getD j.toNatClampNeg 0))))) 0 0 (fun _ => False) := by
  refine va_MetF (cc := prog_14_method_56_code) (maxL := 2) (ret := (some .char)) pf_cha rfl ?_
  intro p e s m args below meth c s₁ Bd hml hv
  obtain ⟨rfl, hO, hM, hB⟩ := hv
  have hx := Bd.exec
  have hb := Bd.bytes
  have hr := Bd.returns
  have hts : ∀ w ∈ mm_gw, w.before _ s = true := fun w hw => atoms_spec (ws := ws_cha) Bd.pre w (List.mem_cons_of_mem _ hw)
  have hown : s.vm.findClass "java/lang/String" = some m.cls := findClass_of_methodNamed Bd.named
  have hlk := Bd.notSynchronized
  have hS : va_S (mm_A B) s.heap s.heap [] := va_S.rf
  have hl := lv_entry ([.ref (od (1003 + i)), .int j]) (n := 2) (Nat.le_of_ble_eq_true rfl)
  rw [lg_entry_eq]
  generalize (lg_sl ([.ref (od (1003 + i)), .int j]) ++ List.replicate (2 - (lg_sl ([.ref (od (1003 + i)), .int j])).length) Slot.unset).toArray = ls at hl ⊢
  have hl : lv_has ls 2 [(0, .ref (od (1003 + i))), (1, .int j)] := hl
  obtain ⟨-, -, hV, hT⟩ := hM.1 i hi
  have hjn : j.toNatClampNeg < ([5, 5, 7, 6, 4, 4] : List Nat).getD i 0 := by rw [ms_ln i hi]; exact hn
  refine lv_aload_n hx hb ds_cha_0 rfl (lv_at hl 0 rfl) ?_
  refine ms_cont (va_runV (C := "java/lang/String") (As := []) (rest := []) ⟨hx, hb, hml, hown, hts⟩ (me_isl hi) ⟨callB_of 0 hts (ms_good wc_isl) rfl rfl rfl (hts _ wi_S) (hts _ wl_isl) ⟨by decide +kernel, by decide +kernel, by decide +kernel⟩ ⟨Nat.le_of_ble_eq_true rfl, Nat.le_of_ble_eq_true rfl⟩, hts _ wn_isl, hts _ we_isl⟩ ⟨ms_blind, vk_recv hM hi hS, fun U hU hW => ms_pre hO hM hB hS hU hW⟩ rfl rfl hl.1 rfl (lv_room (Nat.le_of_ble_eq_true rfl)) ds_cha_1 ⟨Nat.zero_le _, Nat.zero_le _⟩) ?_
  refine lv_if_eq (tgt := 16) hx hb ds_cha_4 rfl (fun h => absurd h (by decide)) (fun _ => ?_)
  refine lv_aload_n hx hb ds_cha_7 rfl (lv_at hl 0 rfl) ?_
  refine vk_getf hx hb hV hS hown (hts _ wf_val) (fun _ h9 => h9) ds_cha_8 ?_
  refine lv_iload_n hx hb ds_cha_11 rfl (lv_at hl 1 rfl) ?_
  refine ms_cont (va_runS (As := [.ref (adV i), .int j]) (rest := []) ⟨hx, hb, hml, hown, hts⟩ (me_lat hi hj hn) ⟨callB_of 2 hts (ms_good wc_lat) rfl rfl rfl (hts _ wi_L) (hts _ wl_lat) ⟨by decide +kernel, by decide +kernel, by decide +kernel⟩ ⟨Nat.le_of_ble_eq_true rfl, Nat.le_of_ble_eq_true rfl⟩, hts _ wn_lat⟩ ⟨ms_blind, fun U hU hW => ms_pre hO hM hB hS hU hW⟩ rfl rfl hl.1 rfl (lv_room (Nat.le_of_ble_eq_true rfl)) ds_cha_12 ⟨Nat.zero_le _, Nat.zero_le _⟩) ?_
  exact W.zret hx hb hr (ms_ch i hi _ hjn).2 (fun t ht hW => ⟨rfl, ht⟩) (fun q hq => absurd hq List.not_mem_nil) ds_cha_15 hlk
end Str
section Step
variable {p : Program} {l : Launch} {e : Env} {R : Room} {s : State} {m : MethodId} {args : Array Value} {below : List Frame} {meth : Method} {c : Code} {H : Heap} {locs : List Loc} {cells slots : Nat} {Q : State → Prop}
variable {cc : ByteArray} {B : Nat} {od : Nat → Nat} {D : va_G} {dA : Nat → ClassId} {Lx : Nat} {xs : Nat → Int32} {own : String} {nL : Nat} {ini : Bool}
theorem ms_ad {a : Nat} (h : 1003 ≤ a ∧ a ≤ 1008) : ∃ i : Nat, i < 6 ∧ a = 1003 + i := ⟨a - 1003, by omega, by omega⟩
theorem mm_stepS {pc len n0 z0 : Nat} {ins : Instr} {ax : List Nat} {ls : Array Slot} {L L2 : mm_L} {st st2 : List Value} {h h2 : mm_H} {j : Option Nat} {c2 s2 : Nat}
    {mt : Nat → mm_M} {nt : Nat → Option (List Nat)} {o : Nat} (hNt : mm_Nt mt nt) (S : mm_Si B od D dA Lx xs p s m args c cc nL (mm_cn o)) (hd : decode cc pc = .ok (ins, len)) (hk : mm_cks nt o R.frames R.locals ins len ax = true)
    (he : mm_stp Lx ins ax L st h = some (j, L2, st2, h2)) (hW : mm_Wd B od D dA xs h H) (hS : va_S (mm_A B) s.heap H locs) (hl : mm_lR (mm_ph B od) L ls nL) (hO : mm_okL L)
    (hn0 : s.heap.size = B + n0) (hc1 : cells + n0 = h.1.length) (hc2 : c2 + n0 = h2.1.length) (hs1 : slots + z0 = mm_sl h) (hs2 : s2 + z0 = mm_sl h2) (hrc : c2 ≤ R.cells) (hrs : s2 ≤ R.slots)
    (kk : ∀ (H2 : Heap) (locs2 : List Loc) (ls2 : Array Slot), mm_Wd B od D dA xs h2 H2 → va_S (mm_A B) s.heap H2 locs2 → mm_lR (mm_ph B od) L2 ls2 nL → mm_okL L2 → W p l e R s m args below meth c H2 locs2 c2 s2 Q (F0 m (mm_npc j pc len ax) ls2 (st2.map (mm_rv (mm_ph B od))))) :
    W p l e R s m args below meth c H locs cells slots Q (F0 m pc ls (st.map (mm_rv (mm_ph B od)))) := by
  obtain ⟨hx, hb, hml, hown, hts, hK, hNw, hAO, hOld, hBs, hLx⟩ := S
  cases ins with
  | invokevirtual ix =>
    simp only [mm_stp] at he
    obtain ⟨rfl, rfl, rfl, hcase⟩ := mm_str_inv he
    have e3 : c2 = cells := by omega
    have e4 : s2 = slots := by omega
    subst e3; subst e4
    obtain ⟨adV, hM⟩ := hOld.2.2.2.2.2.1
    simp only [mm_cks, Bool.and_eq_true, decide_eq_true_eq] at hk
    obtain ⟨⟨⟨rfl, hfr⟩, hlo⟩, hw⟩ := hk
    have kk2 := kk H locs ls hW hS hl hO
    rcases hcase with ⟨a, r, hax, rfl, hr4, ha, rfl⟩ | ⟨x, a, r, hax, rfl, hr4, ha, hx0, hxl, rfl⟩
    · rw [if_pos hax] at hw
      obtain ⟨i, hi, rfl⟩ : ∃ i : Nat, i < 6 ∧ a = 1003 + i := ms_ad ha
      have hp : mm_ph B od (1003 + i) = od (1003 + i) := by simp only [mm_ph, if_neg (show ¬ 1003 + i < 1000 by omega)]
      show W p l e R s m args below meth c H locs c2 s2 Q (F0 m pc ls (.ref (mm_ph B od (1003 + i)) :: r.map (mm_rv (mm_ph B od))))
      rw [hp]
      have hroom : 2 * (F0 m pc ls (.ref (od (1003 + i)) :: r.map (mm_rv (mm_ph B od)))).monitorRoom + ((r.map (mm_rv (mm_ph B od))).map fun v => v.category).sum ≤ 8 := by
        have := mm_cats r (mm_ph B od)
        show 2 * 0 + _ ≤ 8
        omega
      refine ms_cont (va_runV (C := "java/lang/String") (As := []) (rest := r.map (mm_rv (mm_ph B od))) ⟨hx, hb, hml, hown, hts⟩ (me_len (Lx := Lx) (xs := xs) (adV := adV) hi) ⟨callB_of 0 hts (ms_good wc_len) rfl rfl rfl (hts _ wi_S) (hts _ (mm_wd_ok hNt hw rfl)) ⟨by decide +kernel, by decide +kernel, by decide +kernel⟩ ⟨by show 1 + 1 ≤ _; omega, by show 8 + (1 + 11) + 20 ≤ _; omega⟩, hts _ wn_len, hts _ we_len⟩ ⟨ms_blind, vk_recv hM hi hS, fun U hU hWU => ms_pre hOld hM hBs hS hU hWU⟩ rfl rfl hl.1 rfl hroom hd ⟨hrc, hrs⟩) ?_
      exact kk2
    · rw [if_neg (by omega)] at hw
      obtain ⟨i, hi, rfl⟩ : ∃ i : Nat, i < 6 ∧ a = 1003 + i := ms_ad ha
      have hp : mm_ph B od (1003 + i) = od (1003 + i) := by simp only [mm_ph, if_neg (show ¬ 1003 + i < 1000 by omega)]
      show W p l e R s m args below meth c H locs c2 s2 Q (F0 m pc ls (.int x :: .ref (mm_ph B od (1003 + i)) :: r.map (mm_rv (mm_ph B od))))
      rw [hp]
      have hroom : 2 * (F0 m pc ls (.int x :: .ref (od (1003 + i)) :: r.map (mm_rv (mm_ph B od)))).monitorRoom + ((r.map (mm_rv (mm_ph B od))).map fun v => v.category).sum ≤ 8 := by
        have := mm_cats r (mm_ph B od)
        show 2 * 0 + _ ≤ 8
        omega
      refine ms_cont (va_runV (C := "java/lang/String") (As := [.int x]) (rest := r.map (mm_rv (mm_ph B od))) ⟨hx, hb, hml, hown, hts⟩ (me_cha (Lx := Lx) (xs := xs) (adV := adV) hi hx0 hxl) ⟨callB_of 1 hts (ms_good wc_cha) rfl rfl rfl (hts _ wi_S) (hts _ (mm_wd_ok hNt hw rfl)) ⟨by decide +kernel, by decide +kernel, by decide +kernel⟩ ⟨by show 3 + 1 ≤ _; omega, by show 8 + (2 + 11) + 64 ≤ _; omega⟩, hts _ wn_cha, hts _ we_cha⟩ ⟨ms_blind, vk_recv hM hi hS, fun U hU hWU => ms_pre hOld hM hBs hS hU hWU⟩ rfl rfl hl.1 rfl hroom hd ⟨hrc, hrs⟩) ?_
      exact kk2
  | _ => cases hk
end Step
