section Step
variable {p : Program} {l : Launch} {e : Env} {R : Room} {s : State} {m : MethodId} {args : Array Value} {below : List Frame} {meth : Method} {c : Code} {H : Heap} {locs : List Loc} {cells slots : Nat} {Q : State → Prop}
variable {cc : ByteArray} {B : Nat} {od : Nat → Nat} {D : va_G} {dA : Nat → ClassId} {Lx : Nat} {xs : Nat → Int32} {own : String} {nL : Nat} {ini : Bool}
theorem mm_get_some {L : mm_L} {i : Nat} {v : Value} (hv : mm_get L i = some v) : L[i]? = some (some v) := by
  unfold mm_get at hv
  cases hL : L[i]? with
  | none => rw [hL] at hv; cases hv
  | some o => rw [hL] at hv; exact congrArg some hv
theorem mm_kd_new {h : mm_H} {a : Nat} {c0 : mm_C} (h1 : mm_kd Lx h a = some c0) : (a < 1000 ∧ h.1[a]? = some c0) ∨ (a = 1001 ∧ c0 = (100, Lx, [])) ∨ (a = 1002 ∧ c0 = (100, 24, [])) := by
  unfold mm_kd at h1
  split at h1
  · exact Or.inl ⟨by assumption, h1⟩
  · split at h1
    · cases h1; exact Or.inr (Or.inl ⟨by assumption, rfl⟩)
    · split at h1
      · cases h1; exact Or.inr (Or.inr ⟨by assumption, rfl⟩)
      · cases h1
theorem mm_nz (x : Int32) : vp_nar .boolean x = x &&& 1 := by
  unfold vp_nar narrow
  rfl
theorem mm_nb (x : Int32) : vp_nar .byte x = x.toInt8.toInt32 := vp_nar_byte x
theorem mm_nn {n : Int32} (h : 0 ≤ n) : ¬ n < 0 := by
  intro h1
  have a1 := Int32.lt_iff_toInt_lt.mp h1
  have a2 := Int32.le_iff_toInt_le.mp h
  omega
theorem mm_ldcwS {pc : Nat} {ls : Array Slot} {rest : List Value} (hexec : p.tables.exec = Jvm.exec) (hb : c.code = cc) {own tx : String} {index q : Nat} (hown : s.vm.findClass own = some m.cls) (hZ : vk_R own index tx q s) (hdg : decode cc pc = .ok (.ldc_w index, 3))
    (k : W p l e R s m args below meth c H locs cells slots Q (F0 m (pc + 3) ls (.ref q :: rest))) : W p l e R s m args below meth c H locs cells slots Q (F0 m pc ls rest) := by
  intro T hT X
  obtain ⟨t, a1, b1⟩ := k T hT X
  refine ⟨t, ?_, b1⟩
  obtain ⟨kc, cf, i, a', hk, hcf, hcp, -, hr, hev'⟩ := Cond.stringRef_spec hown hZ.1
  cases hZ.2.symm.trans hev'
  obtain ⟨k', hk', he⟩ := X.warmed.alike.2.2 _ _ hk
  have hr' : k'.resolved[index]? = some (some (.string q)) := by
    rcases X.warmed.entry hk hk' index with h | ⟨h, -⟩
    · rw [h]; exact hr
    · rw [hr] at h; cases h
  have hdg' : decode c.code (F0 m pc ls rest).pc = .ok (.ldc_w index, 3) := by rw [hb]; exact hdg
  jvm_step X.here [hexec, hdg', ldc_w.wp_string (e := e) (s := T) (f := F0 m pc ls rest) X.here.top hk' (by rw [he]; exact hcf) hcp hr']
  exact a1
set_option maxHeartbeats 4000000 in
/-- an instruction that leaves the heap as it is: the room stays -/
theorem mm_step {pc len n0 z0 : Nat} {ins : Instr} {ax : List Nat} {ls : Array Slot} {L L2 : mm_L} {st st2 : List Value} {h h2 : mm_H} {j : Option Nat} {c2 s2 : Nat}
    {mt : Nat → mm_M} {nt : Nat → Option (List Nat)} {o : Nat} (hNt : mm_Nt mt nt) (S : mm_Si B od D dA Lx xs p s m args c cc nL (mm_cn o)) (hd : decode cc pc = .ok (ins, len)) (hk : mm_chk nt o ini nL pc ins len ax = true) (hin : ini = true → meth.name = "<init>") (hob : (∃ i, ins = .invokespecial i) → 1 ≤ R.frames ∧ 12 ≤ R.locals)
    (he : mm_stp Lx ins ax L st h = some (j, L2, st2, h2)) (hW : mm_Wd B od D dA xs h H) (hS : va_S (mm_A B) s.heap H locs) (hl : mm_lR (mm_ph B od) L ls nL) (hO : mm_okL L)
    (hn0 : s.heap.size = B + n0) (hc1 : cells + n0 = h.1.length) (hc2 : c2 + n0 = h2.1.length) (hs1 : slots + z0 = mm_sl h) (hs2 : s2 + z0 = mm_sl h2) (hrc : c2 ≤ R.cells) (hrs : s2 ≤ R.slots)
    (kk : ∀ (H2 : Heap) (locs2 : List Loc) (ls2 : Array Slot), mm_Wd B od D dA xs h2 H2 → va_S (mm_A B) s.heap H2 locs2 → mm_lR (mm_ph B od) L2 ls2 nL → mm_okL L2 → W p l e R s m args below meth c H2 locs2 c2 s2 Q (F0 m (mm_npc j pc len ax) ls2 (st2.map (mm_rv (mm_ph B od))))) :
    W p l e R s m args below meth c H locs cells slots Q (F0 m pc ls (st.map (mm_rv (mm_ph B od)))) := by
  obtain ⟨hx, hb, hml, hown, hts, hK, hNw, hAO, hOld, hBs, hLx⟩ := S
  have keep : h2 = h → c2 = cells ∧ s2 = slots := by
    rintro rfl
    exact ⟨by omega, by omega⟩
  cases ins with
  | iconst n =>
    simp only [mm_chk, Bool.and_eq_true, decide_eq_true_eq] at hk
    simp only [mm_stp] at he
    obtain ⟨rfl, hv⟩ := hk
    cases he
    obtain ⟨rfl, rfl⟩ := keep rfl
    exact lv_iconst hx hb hd hv (kk H locs ls hW hS hl hO)
  | bipush n =>
    simp only [mm_chk, Bool.and_eq_true, decide_eq_true_eq] at hk
    simp only [mm_stp] at he
    obtain ⟨rfl, hv⟩ := hk
    cases he
    obtain ⟨rfl, rfl⟩ := keep rfl
    exact lv_bipush hx hb hd hv (kk H locs ls hW hS hl hO)
  | sipush n =>
    simp only [mm_chk, Bool.and_eq_true, decide_eq_true_eq] at hk
    simp only [mm_stp] at he
    obtain ⟨rfl, hv⟩ := hk
    cases he
    obtain ⟨rfl, rfl⟩ := keep rfl
    exact lv_sipush hx hb hd hv (kk H locs ls hW hS hl hO)
  | lconst n =>
    simp only [mm_chk, Bool.and_eq_true, decide_eq_true_eq] at hk
    simp only [mm_stp] at he
    obtain ⟨rfl, hv⟩ := hk
    cases he
    obtain ⟨rfl, rfl⟩ := keep rfl
    exact lv_lconst hx hb hd hv (kk H locs ls hW hS hl hO)
  | ldc i =>
    simp only [mm_chk, Bool.and_eq_true, decide_eq_true_eq] at hk
    simp only [mm_stp] at he
    obtain ⟨rfl, hv⟩ := hk
    split at he
    · rename_i h0
      rw [if_pos h0] at hv
      cases he
      obtain ⟨rfl, rfl⟩ := keep rfl
      exact lv_ldc hx hb hown (hts _ (mm_wd_ok hNt hv rfl)) hd (kk H locs ls hW hS hl hO)
    · rename_i h0
      rw [if_neg h0] at hv
      cases he
      obtain ⟨rfl, rfl⟩ := keep rfl
      split at hv
      · rename_i q hq
        simp only [Bool.and_eq_true, decide_eq_true_eq] at hv
        obtain ⟨⟨q1, q2⟩, q3⟩ := hv
        have hR := hOld.2.2.2.2.1 q (List.mem_of_getElem? hq)
        rw [q1, q2, q3] at hR
        have hge : ¬ ax.getD 0 0 < 1000 := by
          have := List.mem_of_getElem? hq
          rw [← q3]
          simp only [mm_strs, List.mem_cons, List.not_mem_nil, or_false] at this
          rcases this with rfl | rfl | rfl | rfl | rfl | rfl | rfl | rfl | rfl | rfl | rfl | rfl <;> decide
        have hp : mm_ph B od (ax.getD 0 0) = od (ax.getD 0 0) := by simp only [mm_ph, if_neg hge]
        refine va_ldcS hx hb hown hR hd ?_
        rw [← hp]
        exact kk H locs ls hW hS hl hO
      · cases hv
  | ldc_w i =>
    simp only [mm_chk, Bool.and_eq_true, decide_eq_true_eq] at hk
    simp only [mm_stp] at he
    obtain ⟨rfl, hv⟩ := hk
    split at he
    · rename_i h0
      rw [if_pos h0] at hv
      cases he
      obtain ⟨rfl, rfl⟩ := keep rfl
      exact lv_ldcw hx hb hown (hts _ (mm_wd_ok hNt hv rfl)) hd (kk H locs ls hW hS hl hO)
    · rename_i h0
      rw [if_neg h0] at hv
      cases he
      obtain ⟨rfl, rfl⟩ := keep rfl
      split at hv
      · rename_i q hq
        simp only [Bool.and_eq_true, decide_eq_true_eq] at hv
        obtain ⟨⟨q1, q2⟩, q3⟩ := hv
        have hR := hOld.2.2.2.2.1 q (List.mem_of_getElem? hq)
        rw [q1, q2, q3] at hR
        have hge : ¬ ax.getD 0 0 < 1000 := by
          have := List.mem_of_getElem? hq
          rw [← q3]
          simp only [mm_strs, List.mem_cons, List.not_mem_nil, or_false] at this
          rcases this with rfl | rfl | rfl | rfl | rfl | rfl | rfl | rfl | rfl | rfl | rfl | rfl <;> decide
        have hp : mm_ph B od (ax.getD 0 0) = od (ax.getD 0 0) := by simp only [mm_ph, if_neg hge]
        refine mm_ldcwS hx hb hown hR hd ?_
        rw [← hp]
        exact kk H locs ls hW hS hl hO
      · cases hv
  | ldc2_w i =>
    simp only [mm_chk, Bool.and_eq_true, decide_eq_true_eq] at hk
    simp only [mm_stp] at he
    obtain ⟨rfl, hv⟩ := hk
    cases he
    obtain ⟨rfl, rfl⟩ := keep rfl
    exact lv_ldc2 hx hb hown (hts _ (mm_wd_ok hNt hv rfl)) hd (kk H locs ls hW hS hl hO)
  | iload_n k =>
    simp only [mm_chk, Bool.and_eq_true, decide_eq_true_eq] at hk
    simp only [mm_stp] at he
    subst hk
    obtain ⟨v, hg, ht, rfl, rfl, rfl, rfl⟩ := mm_ld_inv he
    obtain ⟨rfl, rfl⟩ := keep rfl
    cases v with
    | int x => exact lv_iload_n hx hb hd rfl (mm_lR_get hl hg) (kk H locs ls hW hS hl hO)
    | _ => simp [mm_tag] at ht
  | istore_n k =>
    simp only [mm_chk, Bool.and_eq_true, decide_eq_true_eq] at hk
    simp only [mm_stp] at he
    obtain ⟨rfl, hn⟩ := hk
    obtain ⟨v, rfl, ht, rfl, rfl, rfl⟩ := mm_sv_inv he
    obtain ⟨rfl, rfl⟩ := keep rfl
    cases v with
    | int x => exact lv_istore_n hx hb hd rfl (mm_lR_has hl) hn rfl (fun ls2 h9 => kk H locs ls2 hW hS (mm_lR_put1 hO rfl h9) (mm_okL_put hO (fun h8 => absurd (show (1 : Nat) = 2 from h8) (by decide))))
    | _ => simp [mm_tag] at ht
  | iload i =>
    simp only [mm_chk, Bool.and_eq_true, decide_eq_true_eq] at hk
    simp only [mm_stp] at he
    subst hk
    obtain ⟨v, hg, ht, rfl, rfl, rfl, rfl⟩ := mm_ld_inv he
    obtain ⟨rfl, rfl⟩ := keep rfl
    cases v with
    | int x => exact lv_iload hx hb hd (mm_lR_get hl hg) (kk H locs ls hW hS hl hO)
    | _ => simp [mm_tag] at ht
  | istore i =>
    simp only [mm_chk, Bool.and_eq_true, decide_eq_true_eq] at hk
    simp only [mm_stp] at he
    obtain ⟨rfl, hn⟩ := hk
    obtain ⟨v, rfl, ht, rfl, rfl, rfl⟩ := mm_sv_inv he
    obtain ⟨rfl, rfl⟩ := keep rfl
    cases v with
    | int x => exact lv_istore hx hb hd (mm_lR_has hl) hn rfl (fun ls2 h9 => kk H locs ls2 hW hS (mm_lR_put1 hO rfl h9) (mm_okL_put hO (fun h8 => absurd (show (1 : Nat) = 2 from h8) (by decide))))
    | _ => simp [mm_tag] at ht
  | lload_n k =>
    simp only [mm_chk, Bool.and_eq_true, decide_eq_true_eq] at hk
    simp only [mm_stp] at he
    subst hk
    obtain ⟨v, hg, ht, rfl, rfl, rfl, rfl⟩ := mm_ld_inv he
    obtain ⟨rfl, rfl⟩ := keep rfl
    cases v with
    | long x => exact lv_lload_n hx hb hd rfl (mm_lR_get hl hg) (kk H locs ls hW hS hl hO)
    | _ => simp [mm_tag] at ht
  | lstore_n k =>
    simp only [mm_chk, Bool.and_eq_true, decide_eq_true_eq] at hk
    simp only [mm_stp] at he
    obtain ⟨rfl, hn⟩ := hk
    obtain ⟨v, rfl, ht, rfl, rfl, rfl⟩ := mm_sv_inv he
    obtain ⟨rfl, rfl⟩ := keep rfl
    cases v with
    | long x => exact lv_lstore_n hx hb hd rfl (mm_lR_has hl) hn rfl (fun ls2 h9 => kk H locs ls2 hW hS (mm_lR_put2 hO h9) (mm_okL_put hO (fun _ => ⟨_, rfl⟩)))
    | _ => simp [mm_tag] at ht
  | lload i =>
    simp only [mm_chk, Bool.and_eq_true, decide_eq_true_eq] at hk
    simp only [mm_stp] at he
    subst hk
    obtain ⟨v, hg, ht, rfl, rfl, rfl, rfl⟩ := mm_ld_inv he
    obtain ⟨rfl, rfl⟩ := keep rfl
    cases v with
    | long x => exact lv_lload hx hb hd (mm_lR_get hl hg) (kk H locs ls hW hS hl hO)
    | _ => simp [mm_tag] at ht
  | lstore i =>
    simp only [mm_chk, Bool.and_eq_true, decide_eq_true_eq] at hk
    simp only [mm_stp] at he
    obtain ⟨rfl, hn⟩ := hk
    obtain ⟨v, rfl, ht, rfl, rfl, rfl⟩ := mm_sv_inv he
    obtain ⟨rfl, rfl⟩ := keep rfl
    cases v with
    | long x => exact lv_lstore hx hb hd (mm_lR_has hl) hn rfl (fun ls2 h9 => kk H locs ls2 hW hS (mm_lR_put2 hO h9) (mm_okL_put hO (fun _ => ⟨_, rfl⟩)))
    | _ => simp [mm_tag] at ht
  | aload_n k =>
    simp only [mm_chk, Bool.and_eq_true, decide_eq_true_eq] at hk
    simp only [mm_stp] at he
    subst hk
    obtain ⟨v, hg, ht, rfl, rfl, rfl, rfl⟩ := mm_ld_inv he
    obtain ⟨rfl, rfl⟩ := keep rfl
    cases v with
    | ref x => exact lv_aload_n hx hb hd rfl (mm_lR_get hl hg) (kk H locs ls hW hS hl hO)
    | _ => simp [mm_tag] at ht
  | astore_n k =>
    simp only [mm_chk, Bool.and_eq_true, decide_eq_true_eq] at hk
    simp only [mm_stp] at he
    obtain ⟨rfl, hn⟩ := hk
    obtain ⟨v, rfl, ht, rfl, rfl, rfl⟩ := mm_sv_inv he
    obtain ⟨rfl, rfl⟩ := keep rfl
    cases v with
    | ref x => exact lv_astore_n hx hb hd rfl (mm_lR_has hl) hn rfl (fun ls2 h9 => kk H locs ls2 hW hS (mm_lR_put1 hO rfl h9) (mm_okL_put hO (fun h8 => absurd (show (1 : Nat) = 2 from h8) (by decide))))
    | _ => simp [mm_tag] at ht
  | aload i =>
    simp only [mm_chk, Bool.and_eq_true, decide_eq_true_eq] at hk
    simp only [mm_stp] at he
    subst hk
    obtain ⟨v, hg, ht, rfl, rfl, rfl, rfl⟩ := mm_ld_inv he
    obtain ⟨rfl, rfl⟩ := keep rfl
    cases v with
    | ref x => exact lv_aload hx hb hd (mm_lR_get hl hg) (kk H locs ls hW hS hl hO)
    | _ => simp [mm_tag] at ht
  | astore i =>
    simp only [mm_chk, Bool.and_eq_true, decide_eq_true_eq] at hk
    simp only [mm_stp] at he
    obtain ⟨rfl, hn⟩ := hk
    obtain ⟨v, rfl, ht, rfl, rfl, rfl⟩ := mm_sv_inv he
    obtain ⟨rfl, rfl⟩ := keep rfl
    cases v with
    | ref x => exact lv_astore hx hb hd (mm_lR_has hl) hn rfl (fun ls2 h9 => kk H locs ls2 hW hS (mm_lR_put1 hO rfl h9) (mm_okL_put hO (fun h8 => absurd (show (1 : Nat) = 2 from h8) (by decide))))
    | _ => simp [mm_tag] at ht
  | iinc i n =>
    simp only [mm_chk, Bool.and_eq_true, decide_eq_true_eq] at hk
    simp only [mm_stp] at he
    obtain ⟨rfl, hn⟩ := hk
    split at he
    · rename_i x hg
      cases he
      obtain ⟨rfl, rfl⟩ := keep rfl
      obtain ⟨q, hq⟩ := List.mem_iff_getElem?.mp ((mm_al0_mem (f := mm_ph B od)).mpr ⟨.int x, mm_get_some hg, rfl⟩)
      exact lv_iinc hx hb hd (mm_lR_has hl) hq rfl hn rfl (fun ls2 h9 => kk H locs ls2 hW hS (mm_lR_put1 hO rfl h9) (mm_okL_put hO (fun h8 => absurd (show (1 : Nat) = 2 from h8) (by decide))))
    · cases he
  | iadd =>
    simp only [mm_chk, Bool.and_eq_true, decide_eq_true_eq] at hk
    simp only [mm_stp] at he
    subst hk
    obtain ⟨x, y, r, rfl, rfl, rfl, rfl, rfl⟩ := mm_i2_inv he
    obtain ⟨rfl, rfl⟩ := keep rfl
    exact lv_iadd hx hb hd (kk H locs ls hW hS hl hO)
  | isub =>
    simp only [mm_chk, Bool.and_eq_true, decide_eq_true_eq] at hk
    simp only [mm_stp] at he
    subst hk
    obtain ⟨x, y, r, rfl, rfl, rfl, rfl, rfl⟩ := mm_i2_inv he
    obtain ⟨rfl, rfl⟩ := keep rfl
    exact lv_isub hx hb hd (kk H locs ls hW hS hl hO)
  | imul =>
    simp only [mm_chk, Bool.and_eq_true, decide_eq_true_eq] at hk
    simp only [mm_stp] at he
    subst hk
    obtain ⟨x, y, r, rfl, rfl, rfl, rfl, rfl⟩ := mm_i2_inv he
    obtain ⟨rfl, rfl⟩ := keep rfl
    exact lv_imul hx hb hd (kk H locs ls hW hS hl hO)
  | iand =>
    simp only [mm_chk, Bool.and_eq_true, decide_eq_true_eq] at hk
    simp only [mm_stp] at he
    subst hk
    obtain ⟨x, y, r, rfl, rfl, rfl, rfl, rfl⟩ := mm_i2_inv he
    obtain ⟨rfl, rfl⟩ := keep rfl
    exact lv_iand hx hb hd (kk H locs ls hW hS hl hO)
  | ior =>
    simp only [mm_chk, Bool.and_eq_true, decide_eq_true_eq] at hk
    simp only [mm_stp] at he
    subst hk
    obtain ⟨x, y, r, rfl, rfl, rfl, rfl, rfl⟩ := mm_i2_inv he
    obtain ⟨rfl, rfl⟩ := keep rfl
    exact lv_ior hx hb hd (kk H locs ls hW hS hl hO)
  | ixor =>
    simp only [mm_chk, Bool.and_eq_true, decide_eq_true_eq] at hk
    simp only [mm_stp] at he
    subst hk
    obtain ⟨x, y, r, rfl, rfl, rfl, rfl, rfl⟩ := mm_i2_inv he
    obtain ⟨rfl, rfl⟩ := keep rfl
    exact lv_ixor hx hb hd (kk H locs ls hW hS hl hO)
  | ishl =>
    simp only [mm_chk, Bool.and_eq_true, decide_eq_true_eq] at hk
    simp only [mm_stp] at he
    subst hk
    obtain ⟨x, y, r, rfl, rfl, rfl, rfl, rfl⟩ := mm_i2_inv he
    obtain ⟨rfl, rfl⟩ := keep rfl
    exact lv_ishl hx hb hd (kk H locs ls hW hS hl hO)
  | ishr =>
    simp only [mm_chk, Bool.and_eq_true, decide_eq_true_eq] at hk
    simp only [mm_stp] at he
    subst hk
    obtain ⟨x, y, r, rfl, rfl, rfl, rfl, rfl⟩ := mm_i2_inv he
    obtain ⟨rfl, rfl⟩ := keep rfl
    exact lv_ishr hx hb hd (kk H locs ls hW hS hl hO)
  | iushr =>
    simp only [mm_chk, Bool.and_eq_true, decide_eq_true_eq] at hk
    simp only [mm_stp] at he
    subst hk
    obtain ⟨x, y, r, rfl, rfl, rfl, rfl, rfl⟩ := mm_i2_inv he
    obtain ⟨rfl, rfl⟩ := keep rfl
    exact lv_iushr hx hb hd rfl (kk H locs ls hW hS hl hO)
  | idiv =>
    simp only [mm_chk, Bool.and_eq_true, decide_eq_true_eq] at hk
    simp only [mm_stp] at he
    subst hk
    obtain ⟨x, y, r, rfl, hne, rfl, rfl, rfl, rfl⟩ := mm_i2d_inv he
    obtain ⟨rfl, rfl⟩ := keep rfl
    exact lv_idiv hx hb hd hne (kk H locs ls hW hS hl hO)
  | irem =>
    simp only [mm_chk, Bool.and_eq_true, decide_eq_true_eq] at hk
    simp only [mm_stp] at he
    subst hk
    obtain ⟨x, y, r, rfl, hne, rfl, rfl, rfl, rfl⟩ := mm_i2d_inv he
    obtain ⟨rfl, rfl⟩ := keep rfl
    exact lv_irem hx hb hd hne (kk H locs ls hW hS hl hO)
  | ineg =>
    simp only [mm_chk, Bool.and_eq_true, decide_eq_true_eq] at hk
    simp only [mm_stp] at he
    subst hk
    obtain ⟨x, r, rfl, rfl, rfl, rfl, rfl⟩ := mm_i1_inv he
    obtain ⟨rfl, rfl⟩ := keep rfl
    exact lv_ineg hx hb hd (kk H locs ls hW hS hl hO)
  | i2l =>
    simp only [mm_chk, Bool.and_eq_true, decide_eq_true_eq] at hk
    simp only [mm_stp] at he
    subst hk
    obtain ⟨x, r, rfl, rfl, rfl, rfl, rfl⟩ := mm_i1_inv he
    obtain ⟨rfl, rfl⟩ := keep rfl
    exact lv_i2l hx hb hd rfl (kk H locs ls hW hS hl hO)
  | i2b =>
    simp only [mm_chk, Bool.and_eq_true, decide_eq_true_eq] at hk
    simp only [mm_stp] at he
    subst hk
    obtain ⟨x, r, rfl, rfl, rfl, rfl, rfl⟩ := mm_i1_inv he
    obtain ⟨rfl, rfl⟩ := keep rfl
    exact lv_i2b hx hb hd rfl (kk H locs ls hW hS hl hO)
  | ladd =>
    simp only [mm_chk, Bool.and_eq_true, decide_eq_true_eq] at hk
    simp only [mm_stp] at he
    subst hk
    obtain ⟨x, y, r, rfl, rfl, rfl, rfl, rfl⟩ := mm_j2_inv he
    obtain ⟨rfl, rfl⟩ := keep rfl
    exact lv_ladd hx hb hd (kk H locs ls hW hS hl hO)
  | lsub =>
    simp only [mm_chk, Bool.and_eq_true, decide_eq_true_eq] at hk
    simp only [mm_stp] at he
    subst hk
    obtain ⟨x, y, r, rfl, rfl, rfl, rfl, rfl⟩ := mm_j2_inv he
    obtain ⟨rfl, rfl⟩ := keep rfl
    exact lv_lsub hx hb hd (kk H locs ls hW hS hl hO)
  | lmul =>
    simp only [mm_chk, Bool.and_eq_true, decide_eq_true_eq] at hk
    simp only [mm_stp] at he
    subst hk
    obtain ⟨x, y, r, rfl, rfl, rfl, rfl, rfl⟩ := mm_j2_inv he
    obtain ⟨rfl, rfl⟩ := keep rfl
    exact lv_lmul hx hb hd (kk H locs ls hW hS hl hO)
  | lxor =>
    simp only [mm_chk, Bool.and_eq_true, decide_eq_true_eq] at hk
    simp only [mm_stp] at he
    subst hk
    obtain ⟨x, y, r, rfl, rfl, rfl, rfl, rfl⟩ := mm_j2_inv he
    obtain ⟨rfl, rfl⟩ := keep rfl
    exact lv_lxor hx hb hd (kk H locs ls hW hS hl hO)
  | lcmp =>
    simp only [mm_chk, Bool.and_eq_true, decide_eq_true_eq] at hk
    simp only [mm_stp] at he
    subst hk
    obtain ⟨x, y, r, rfl, rfl, rfl, rfl, rfl⟩ := mm_j2_inv he
    obtain ⟨rfl, rfl⟩ := keep rfl
    exact W.lcmp hx hb hd (kk H locs ls hW hS hl hO)
  | ldiv =>
    simp only [mm_chk, Bool.and_eq_true, decide_eq_true_eq] at hk
    simp only [mm_stp] at he
    subst hk
    obtain ⟨x, y, r, rfl, hne, rfl, rfl, rfl, rfl⟩ := mm_j2d_inv he
    obtain ⟨rfl, rfl⟩ := keep rfl
    exact lv_ldiv hx hb hd hne (kk H locs ls hW hS hl hO)
  | lrem =>
    simp only [mm_chk, Bool.and_eq_true, decide_eq_true_eq] at hk
    simp only [mm_stp] at he
    subst hk
    obtain ⟨x, y, r, rfl, hne, rfl, rfl, rfl, rfl⟩ := mm_j2d_inv he
    obtain ⟨rfl, rfl⟩ := keep rfl
    exact lv_lrem hx hb hd hne (kk H locs ls hW hS hl hO)
  | lneg =>
    simp only [mm_chk, Bool.and_eq_true, decide_eq_true_eq] at hk
    simp only [mm_stp] at he
    subst hk
    obtain ⟨x, r, rfl, rfl, rfl, rfl, rfl⟩ := mm_j1_inv he
    obtain ⟨rfl, rfl⟩ := keep rfl
    exact lv_lneg hx hb hd (kk H locs ls hW hS hl hO)
  | l2i =>
    simp only [mm_chk, Bool.and_eq_true, decide_eq_true_eq] at hk
    simp only [mm_stp] at he
    subst hk
    obtain ⟨x, r, rfl, rfl, rfl, rfl, rfl⟩ := mm_j1_inv he
    obtain ⟨rfl, rfl⟩ := keep rfl
    exact lv_l2i hx hb hd rfl (kk H locs ls hW hS hl hO)
  | dup =>
    simp only [mm_chk, Bool.and_eq_true, decide_eq_true_eq] at hk
    simp only [mm_stp] at he
    subst hk
    split at he
    · split at he
      · rename_i hv
        cases he
        obtain ⟨rfl, rfl⟩ := keep rfl
        exact lv_dup hx hb hd (by rw [mm_rv_cat]; exact hv) (kk H locs ls hW hS hl hO)
      · cases he
    · cases he
  | pop =>
    simp only [mm_chk, Bool.and_eq_true, decide_eq_true_eq] at hk
    simp only [mm_stp] at he
    subst hk
    split at he
    · split at he
      · rename_i hv
        cases he
        obtain ⟨rfl, rfl⟩ := keep rfl
        exact lv_pop hx hb hd (by rw [mm_rv_cat]; exact hv) (kk H locs ls hW hS hl hO)
      · cases he
    · cases he
  | dup2 =>
    simp only [mm_chk, Bool.and_eq_true, decide_eq_true_eq] at hk
    simp only [mm_stp] at he
    subst hk
    split at he
    · cases he
      obtain ⟨rfl, rfl⟩ := keep rfl
      exact lv_dup2_2 hx hb hd rfl (kk H locs ls hW hS hl hO)
    · cases he
      obtain ⟨rfl, rfl⟩ := keep rfl
      exact lv_dup2_11 hx hb hd rfl rfl (kk H locs ls hW hS hl hO)
    · cases he
  | goto off =>
    simp only [mm_chk, Bool.and_eq_true, decide_eq_true_eq] at hk
    simp only [mm_stp] at he
    obtain ⟨rfl, ht⟩ := hk
    cases he
    obtain ⟨rfl, rfl⟩ := keep rfl
    exact lv_goto hx hb hd ht (kk H locs ls hW hS hl hO)
  | ifCond cn off =>
    simp only [mm_chk, Bool.and_eq_true, decide_eq_true_eq] at hk
    simp only [mm_stp] at he
    obtain ⟨rfl, ht⟩ := hk
    obtain ⟨x, rfl, rfl, rfl, rfl⟩ := mm_b1_inv he
    obtain ⟨rfl, rfl⟩ := keep rfl
    cases cn with
    | eq => exact lv_if_eq hx hb hd ht (fun hq => by rw [if_pos (by simp [mm_cnd, hq])] at kk; exact kk H locs ls hW hS hl hO) (fun hq => by rw [if_neg (by simp [mm_cnd, hq])] at kk; exact kk H locs ls hW hS hl hO)
    | ne => exact lv_if_ne hx hb hd ht (fun hq => by rw [if_pos (by simp [mm_cnd, hq])] at kk; exact kk H locs ls hW hS hl hO) (fun hq => by rw [if_neg (by simp [mm_cnd, hq])] at kk; exact kk H locs ls hW hS hl hO)
    | lt => exact lv_if_lt hx hb hd ht (fun hq => by rw [if_pos (by simp [mm_cnd, hq])] at kk; exact kk H locs ls hW hS hl hO) (fun hq => by rw [if_neg (by simp [mm_cnd, hq])] at kk; exact kk H locs ls hW hS hl hO)
    | ge => exact lv_if_ge hx hb hd ht (fun hq => by rw [if_pos (by simp [mm_cnd, hq])] at kk; exact kk H locs ls hW hS hl hO) (fun hq => by rw [if_neg (by simp [mm_cnd, hq])] at kk; exact kk H locs ls hW hS hl hO)
    | gt => exact lv_if_gt hx hb hd ht (fun hq => by rw [if_pos (by simp [mm_cnd, hq])] at kk; exact kk H locs ls hW hS hl hO) (fun hq => by rw [if_neg (by simp [mm_cnd, hq])] at kk; exact kk H locs ls hW hS hl hO)
    | le => exact lv_if_le hx hb hd ht (fun hq => by rw [if_pos (by simp [mm_cnd, hq])] at kk; exact kk H locs ls hW hS hl hO) (fun hq => by rw [if_neg (by simp [mm_cnd, hq])] at kk; exact kk H locs ls hW hS hl hO)
  | if_icmp cn off =>
    simp only [mm_chk, Bool.and_eq_true, decide_eq_true_eq] at hk
    simp only [mm_stp] at he
    obtain ⟨rfl, ht⟩ := hk
    obtain ⟨x, y, rfl, rfl, rfl, rfl⟩ := mm_b2_inv he
    obtain ⟨rfl, rfl⟩ := keep rfl
    cases cn with
    | eq => exact lv_icmp_eq hx hb hd ht (fun hq => by rw [if_pos (by simp [mm_cnd, hq])] at kk; exact kk H locs ls hW hS hl hO) (fun hq => by rw [if_neg (by simp [mm_cnd, hq])] at kk; exact kk H locs ls hW hS hl hO)
    | ne => exact lv_icmp_ne hx hb hd ht (fun hq => by rw [if_pos (by simp [mm_cnd, hq])] at kk; exact kk H locs ls hW hS hl hO) (fun hq => by rw [if_neg (by simp [mm_cnd, hq])] at kk; exact kk H locs ls hW hS hl hO)
    | lt => exact lv_icmp_lt hx hb hd ht (fun hq => by rw [if_pos (by simp [mm_cnd, hq])] at kk; exact kk H locs ls hW hS hl hO) (fun hq => by rw [if_neg (by simp [mm_cnd, hq])] at kk; exact kk H locs ls hW hS hl hO)
    | ge => exact lv_icmp_ge hx hb hd ht (fun hq => by rw [if_pos (by simp [mm_cnd, hq])] at kk; exact kk H locs ls hW hS hl hO) (fun hq => by rw [if_neg (by simp [mm_cnd, hq])] at kk; exact kk H locs ls hW hS hl hO)
    | gt => exact lv_icmp_gt hx hb hd ht (fun hq => by rw [if_pos (by simp [mm_cnd, hq])] at kk; exact kk H locs ls hW hS hl hO) (fun hq => by rw [if_neg (by simp [mm_cnd, hq])] at kk; exact kk H locs ls hW hS hl hO)
    | le => exact lv_icmp_le hx hb hd ht (fun hq => by rw [if_pos (by simp [mm_cnd, hq])] at kk; exact kk H locs ls hW hS hl hO) (fun hq => by rw [if_neg (by simp [mm_cnd, hq])] at kk; exact kk H locs ls hW hS hl hO)
  | tableswitch d lo hi offs =>
    simp only [mm_chk, Bool.and_eq_true, decide_eq_true_eq] at hk
    simp only [mm_stp] at he
    obtain ⟨⟨h0, hz⟩, hall⟩ := hk
    unfold mm_sw at he
    split at he
    · rename_i x r
      cases he
      obtain ⟨rfl, rfl⟩ := keep rfl
      by_cases hq : x.toInt < lo ∨ hi < x.toInt
      · rw [if_pos hq] at kk
        exact lv_tableOut hx hb hd hq h0 (kk H locs ls hW hS hl hO)
      · rw [if_neg hq] at kk
        have q1 : ¬ x.toInt < lo := fun z => hq (Or.inl z)
        have q2 : ¬ hi < x.toInt := fun z => hq (Or.inr z)
        have hlt : (x.toInt - lo).toNat < offs.size := by omega
        have h1 := List.all_eq_true.mp hall _ (List.mem_range.mpr hlt)
        split at h1
        · rename_i o ho
          exact lv_tableIn hx hb hd q1 q2 ho (decide_eq_true_eq.mp h1) (kk H locs ls hW hS hl hO)
        · cases h1
    · cases he
  | getfield i =>
    simp only [mm_chk, Bool.and_eq_true, decide_eq_true_eq] at hk
    simp only [mm_stp] at he
    obtain ⟨rfl, hv⟩ := hk
    obtain ⟨a, r, c0, rfl, hc, hci, hkl, rfl, rfl, rfl, rfl⟩ := mm_gf_inv he
    obtain ⟨rfl, rfl⟩ := keep rfl
    split at hv
    · rename_i C T N hcl
      simp only [Bool.and_eq_true, decide_eq_true_eq] at hv
      obtain ⟨hkN, hv⟩ := hv
      obtain ⟨h10, rfl, rfl, hdc, hin1, -, -, -⟩ := mm_cf _ _ _ _ hcl
      have ha := mm_Wd_lt hW hc
      have hE := mm_ws_at (B := B) (f := mm_ph B od) (dA := dA) hc
      rw [mm_ent_obj (by omega), hci] at hE
      have hp : mm_ph B od a = B + a := mm_ph_lt ha
      have hfs := mm_fs_at (f := mm_ph B od) (h := h2) (a := a) hkl
      have kk2 := kk H locs ls hW hS hl hO
      rw [List.map_cons, mm_rv_fv] at kk2
      rw [hci] at hfs
      show W p l e R s m args below meth c H locs c2 s2 Q (F0 m pc ls (.ref (mm_ph B od a) :: r.map (mm_rv (mm_ph B od))))
      rw [hp]
      split at hv
      · exact va_get hx hb hts hin1 hown hK hW.1 a hE hcl _ hkN (hts _ (mm_wd_ok hNt hv rfl)) (fun _ h9 => h9) hfs hd kk2
      · exact va_getN hx hb hts hin1 hown hK hW.1 a hE hcl _ hkN (va_Nw.use rfl (hNw _ (mm_wn_ok hNt hv) rfl)) (fun _ h9 => h9) hfs hd kk2
    · cases hv
  | putfield i =>
    simp only [mm_chk, Bool.and_eq_true, decide_eq_true_eq] at hk
    simp only [mm_stp] at he
    obtain ⟨rfl, hv⟩ := hk
    obtain ⟨v, a, c0, rfl, hc, hci, hkl, hw, rfl, rfl⟩ := mm_pf_inv he
    obtain ⟨e1, e2⟩ := mm_wr_len hc hw
    have e3 : c2 = cells := by omega
    have e4 : s2 = slots := by omega
    subst e3; subst e4
    split at hv
    · rename_i C T N hcl
      simp only [Bool.and_eq_true, decide_eq_true_eq] at hv
      obtain ⟨hkN, hv⟩ := hv
      obtain ⟨h10, rfl, rfl, hdc, hin1, hty, hnm, hnf⟩ := mm_cf _ _ _ _ hcl
      rw [← hci] at hw hcl hty h10 hdc hv hin1 hnm
      have ha := mm_Wd_lt hW hc
      have hE := mm_ws_at (B := B) (f := mm_ph B od) (dA := dA) hc
      rw [mm_ent_obj (by omega)] at hE
      have hp : mm_ph B od a = B + a := mm_ph_lt ha
      obtain ⟨hn1, hf1⟩ := mm_wr_ok (B := B) (od := od) hw
      show W p l e R s m args below meth c H locs c2 s2 Q (F0 m pc ls (mm_rv (mm_ph B od) v :: .ref (mm_ph B od a) :: st2.map (mm_rv (mm_ph B od))))
      rw [hp]
      have hlen : ax.getD 1 0 < (mm_fs (mm_ph B od) h a c0).length := by rw [mm_fs_len]; exact hkl
      split at hv
      · simp only [Bool.and_eq_true, Bool.or_eq_true, Bool.not_eq_true', decide_eq_true_eq] at hv
        obtain ⟨hv, hfin⟩ := hv
        rcases hfin with hfin | ⟨hi1, hi2⟩
        · exact va_put hx hb hts hin1 (mm_ty c0.1) hty hnm hown hK hW.1 mm_wsD hS a hE hcl _ hkN (hts _ (mm_wd_ok hNt hv rfl)) (fun _ h9 => h9) hfin (hty _ hkN) hn1 hf1 hlen hd
            (fun H1 locs1 hP1 _ hS1 => kk H1 locs1 ls (mm_wr_W hW hc (by omega) hkl hw hP1) hS1 hl hO)
        · by_cases hfin : (mm_Tc c0.1 (ax.getD 1 0)).2.2.2 = true
          · exact va_putF hx hb hts hin1 (mm_ty c0.1) hty hnm hown hK hW.1 mm_wsD hS a hE hcl _ hkN (hts _ (mm_wd_ok hNt hv rfl)) (fun _ h9 => h9) hfin (hin hi1) (by rw [hdc _ hkN]; first | rw [hi2] | rw [hci, hi2]) (hty _ hkN) hn1 hf1 hlen hd
              (fun H1 locs1 hP1 _ hS1 => kk H1 locs1 ls (mm_wr_W hW hc (by omega) hkl hw hP1) hS1 hl hO)
          · exact va_put hx hb hts hin1 (mm_ty c0.1) hty hnm hown hK hW.1 mm_wsD hS a hE hcl _ hkN (hts _ (mm_wd_ok hNt hv rfl)) (fun _ h9 => h9) (by simpa using hfin) (hty _ hkN) hn1 hf1 hlen hd
              (fun H1 locs1 hP1 _ hS1 => kk H1 locs1 ls (mm_wr_W hW hc (by omega) hkl hw hP1) hS1 hl hO)
      · simp only [Bool.and_eq_true, Bool.not_eq_true'] at hv
        obtain ⟨hv, hfin⟩ := hv
        exact va_putN hx hb hts hin1 (mm_ty c0.1) hty hnm hown hK hW.1 mm_wsD hS a hE hcl _ hkN (va_Nw.use rfl (hNw _ (mm_wn_ok hNt hv) rfl)) (fun _ h9 => h9) hfin (hty _ hkN) hn1 hf1 hlen hd
          (fun H1 locs1 hP1 _ hS1 => kk H1 locs1 ls (mm_wr_W hW hc (by omega) hkl hw hP1) hS1 hl hO)
    · cases hv
  | getstatic i =>
    simp only [mm_chk, Bool.and_eq_true, decide_eq_true_eq] at hk
    simp only [mm_stp] at he
    obtain ⟨rfl, hv⟩ := hk
    cases he
    obtain ⟨rfl, rfl⟩ := keep rfl
    refine va_gets hx hb hOld.2.2.1 hS hown (hts _ (mm_wd_ok hNt hv rfl)) (fun _ h9 => h9) hd ?_
    exact kk H locs ls hW hS hl hO
  | iaload =>
    simp only [mm_chk, Bool.and_eq_true, decide_eq_true_eq] at hk
    simp only [mm_stp] at he
    subst hk
    obtain ⟨x, a, r, c0, rfl, hkd, hks, h0, hlt, rfl, rfl, rfl, rfl⟩ := mm_al_inv he
    obtain ⟨rfl, rfl⟩ := keep rfl
    have hvi := mm_in h0 hlt
    have kk2 := kk H locs ls hW hS hl hO
    simp only [List.mem_singleton] at hks
    rcases mm_kd_new hkd with ⟨ha, hc⟩ | ⟨rfl, rfl⟩ | ⟨rfl, rfl⟩
    · have hE := mm_ws_at (B := B) (f := mm_ph B od) (dA := dA) hc
      rw [mm_ent_i (by omega) (by omega) (by omega), hks] at hE
      show W p l e R s m args below meth c H locs c2 s2 Q (F0 m pc ls (.int x :: .ref (mm_ph B od a) :: r.map (mm_rv (mm_ph B od))))
      rw [mm_ph_lt ha]
      exact va_iald hx hb hK hW.1 a 0 hE rfl hvi hd kk2
    · refine va_sld (b := mm_ph B od 1001) hx hb hOld.1 (by have := hOld.2.1; show od 1001 < _; omega) (by have := hOld.2.1; show ¬ B ≤ od 1001; omega) hS hvi hd ?_
      rw [← hW.2.2.1]
      exact kk2
    · refine va_ti (t := mm_ph B od 1002) hx hb hOld.2.2.2.1 hS hvi rfl hd ?_
      rw [← hW.2.2.2 _ hlt]
      exact kk2
  | laload =>
    simp only [mm_chk, Bool.and_eq_true, decide_eq_true_eq] at hk
    simp only [mm_stp] at he
    subst hk
    obtain ⟨x, a, r, c0, rfl, hkd, hks, h0, hlt, rfl, rfl, rfl, rfl⟩ := mm_al_inv he
    obtain ⟨rfl, rfl⟩ := keep rfl
    have hvi := mm_in h0 hlt
    have kk2 := kk H locs ls hW hS hl hO
    simp only [List.mem_singleton] at hks
    rcases mm_kd_new hkd with ⟨ha, hc⟩ | ⟨rfl, rfl⟩ | ⟨rfl, rfl⟩
    · have hE := mm_ws_at (B := B) (f := mm_ph B od) (dA := dA) hc
      rw [mm_ent_l hks, hks] at hE
      show W p l e R s m args below meth c H locs c2 s2 Q (F0 m pc ls (.int x :: .ref (mm_ph B od a) :: r.map (mm_rv (mm_ph B od))))
      rw [mm_ph_lt ha]
      exact va_lald hx hb hK hW.1 a 1 hE rfl hvi hd kk2
    · cases hks
    · cases hks
  | aaload =>
    simp only [mm_chk, Bool.and_eq_true, decide_eq_true_eq] at hk
    simp only [mm_stp] at he
    subst hk
    obtain ⟨x, a, r, c0, rfl, hkd, hks, h0, hlt, rfl, rfl, rfl, rfl⟩ := mm_al_inv he
    obtain ⟨rfl, rfl⟩ := keep rfl
    have hvi := mm_in h0 hlt
    have kk2 := kk H locs ls hW hS hl hO
    simp only [List.mem_singleton] at hks
    rcases mm_kd_new hkd with ⟨ha, hc⟩ | ⟨rfl, rfl⟩ | ⟨rfl, rfl⟩
    · have hE := mm_ws_at (B := B) (f := mm_ph B od) (dA := dA) hc
      rw [mm_ent_q hks, hks] at hE
      show W p l e R s m args below meth c H locs c2 s2 Q (F0 m pc ls (.int x :: .ref (mm_ph B od a) :: r.map (mm_rv (mm_ph B od))))
      rw [mm_ph_lt ha]
      rw [List.map_cons, mm_rv_rf] at kk2
      exact va_aldq hx hb hK hW.1 a 4 hE rfl hvi hd kk2
    · cases hks
    · cases hks
  | baload =>
    simp only [mm_chk, Bool.and_eq_true, decide_eq_true_eq] at hk
    simp only [mm_stp] at he
    subst hk
    obtain ⟨x, a, r, c0, rfl, hkd, hks, h0, hlt, rfl, rfl, rfl, rfl⟩ := mm_al_inv he
    obtain ⟨rfl, rfl⟩ := keep rfl
    have hvi := mm_in h0 hlt
    have kk2 := kk H locs ls hW hS hl hO
    simp only [List.mem_cons, List.not_mem_nil, or_false] at hks
    rcases mm_kd_new hkd with ⟨ha, hc⟩ | ⟨rfl, rfl⟩ | ⟨rfl, rfl⟩
    · have hE := mm_ws_at (B := B) (f := mm_ph B od) (dA := dA) hc
      rw [mm_ent_i (by omega) (by omega) (by omega)] at hE
      show W p l e R s m args below meth c H locs c2 s2 Q (F0 m pc ls (.int x :: .ref (mm_ph B od a) :: r.map (mm_rv (mm_ph B od))))
      rw [mm_ph_lt ha]
      rcases hks with hks | hks
      · rw [hks] at hE
        exact va_bald hx hb hK hW.1 a 2 hE rfl hvi hd kk2
      · rw [hks] at hE
        exact va_zald hx hb hK hW.1 a 3 hE rfl hvi hd kk2
    · simp at hks
    · simp at hks
  | iastore =>
    simp only [mm_chk, Bool.and_eq_true, decide_eq_true_eq] at hk
    simp only [mm_stp] at he
    subst hk
    obtain ⟨v, x, a, c0, rfl, hc, hks, h0, hlt, hg, rfl, rfl⟩ := mm_as_inv he
    have hvi := mm_in h0 hlt
    have ha := mm_Wd_lt hW hc
    have hE := mm_ws_at (B := B) (f := mm_ph B od) (dA := dA) hc
    simp only [List.mem_singleton] at hks
    rw [mm_ent_i (by omega) (by omega) (by omega), hks] at hE
    split at hg
    · rename_i y
      cases hg
      have e3 : c2 = cells := by simp only at hc2; omega
      have e4 : s2 = slots := by have : mm_sl (h.1, mm_uI h.2.1 a x.toNatClampNeg y, h.2.2) = mm_sl h := rfl; omega
      subst e3; subst e4
      show W p l e R s m args below meth c H locs c2 s2 Q (F0 m pc ls (.int y :: .int x :: .ref (mm_ph B od a) :: st2.map (mm_rv (mm_ph B od))))
      rw [mm_ph_lt ha]
      refine va_iast hx hb hK hW.1 mm_wsD hS a 0 hE rfl hvi hd (fun H1 locs1 hP1 _ hS1 => kk H1 locs1 ls (mm_Wd_same hW hc (fun b hb => mm_uI_ne hb) (fun _ _ => rfl) ?_ hP1) hS1 hl hO)
      rw [mm_ent_i (by omega) (by omega) (by omega), hks, ← mm_uI_eq]
    · cases hg
  | lastore =>
    simp only [mm_chk, Bool.and_eq_true, decide_eq_true_eq] at hk
    simp only [mm_stp] at he
    subst hk
    obtain ⟨v, x, a, c0, rfl, hc, hks, h0, hlt, hg, rfl, rfl⟩ := mm_as_inv he
    have hvi := mm_in h0 hlt
    have ha := mm_Wd_lt hW hc
    have hE := mm_ws_at (B := B) (f := mm_ph B od) (dA := dA) hc
    simp only [List.mem_singleton] at hks
    rw [mm_ent_l hks, hks] at hE
    split at hg
    · rename_i y
      cases hg
      have e3 : c2 = cells := by simp only at hc2; omega
      have e4 : s2 = slots := by have : mm_sl (h.1, h.2.1, mm_uJ h.2.2 a x.toNatClampNeg y) = mm_sl h := rfl; omega
      subst e3; subst e4
      show W p l e R s m args below meth c H locs c2 s2 Q (F0 m pc ls (.long y :: .int x :: .ref (mm_ph B od a) :: st2.map (mm_rv (mm_ph B od))))
      rw [mm_ph_lt ha]
      refine va_last hx hb hK hW.1 mm_wsD hS a 1 hE rfl hvi hd (fun H1 locs1 hP1 _ hS1 => kk H1 locs1 ls (mm_Wd_same hW hc (fun _ _ => rfl) (fun b hb => mm_uJ_ne hb) ?_ hP1) hS1 hl hO)
      rw [mm_ent_l hks, hks, ← mm_uJ_eq]
    · cases hg
  | bastore =>
    simp only [mm_chk, Bool.and_eq_true, decide_eq_true_eq] at hk
    simp only [mm_stp] at he
    subst hk
    obtain ⟨v, x, a, c0, rfl, hc, hks, h0, hlt, hg, rfl, rfl⟩ := mm_as_inv he
    have hvi := mm_in h0 hlt
    have ha := mm_Wd_lt hW hc
    have hE := mm_ws_at (B := B) (f := mm_ph B od) (dA := dA) hc
    simp only [List.mem_cons, List.not_mem_nil, or_false] at hks
    rw [mm_ent_i (by omega) (by omega) (by omega)] at hE
    split at hg
    · rename_i y
      cases hg
      have e3 : c2 = cells := by simp only at hc2; omega
      have e4 : s2 = slots := by have : mm_sl (h.1, mm_uI h.2.1 a x.toNatClampNeg (if c0.1 = 102 then y.toInt8.toInt32 else y &&& 1), h.2.2) = mm_sl h := rfl; omega
      subst e3; subst e4
      show W p l e R s m args below meth c H locs c2 s2 Q (F0 m pc ls (.int y :: .int x :: .ref (mm_ph B od a) :: st2.map (mm_rv (mm_ph B od))))
      rw [mm_ph_lt ha]
      rcases hks with hks | hks
      · rw [hks] at hE
        refine va_bast hx hb hK hW.1 mm_wsD hS a 2 hE rfl hvi hd (fun H1 locs1 hP1 _ hS1 => kk H1 locs1 ls (mm_Wd_same hW hc (fun b hb => mm_uI_ne hb) (fun _ _ => rfl) ?_ hP1) hS1 hl hO)
        rw [mm_ent_i (by omega) (by omega) (by omega), mm_nb, if_pos hks, hks, ← mm_uI_eq]
      · rw [hks] at hE
        refine va_zast hx hb hK hW.1 mm_wsD hS a 3 hE rfl hvi hd (fun H1 locs1 hP1 _ hS1 => kk H1 locs1 ls (mm_Wd_same hW hc (fun b hb => mm_uI_ne hb) (fun _ _ => rfl) ?_ hP1) hS1 hl hO)
        rw [mm_ent_i (by omega) (by omega) (by omega), mm_nz, if_neg (by omega), hks, ← mm_uI_eq]
    · cases hg
  | aastore =>
    simp only [mm_chk, Bool.and_eq_true, decide_eq_true_eq] at hk
    simp only [mm_stp] at he
    subst hk
    obtain ⟨v, x, a, c0, rfl, hc, hks, h0, hlt, hg, rfl, rfl⟩ := mm_as_inv he
    have hvi := mm_in h0 hlt
    have ha := mm_Wd_lt hW hc
    have hE := mm_ws_at (B := B) (f := mm_ph B od) (dA := dA) hc
    simp only [List.mem_singleton] at hks
    rw [mm_ent_q hks, hks] at hE
    split at hg
    · rename_i b
      split at hg
      · rename_i d hdb
        split at hg
        · rename_i hq
          obtain ⟨hd3, hjl⟩ := hq
          cases hg
          have hbl := mm_Wd_lt hW hdb
          have hE2 := mm_ws_at (B := B) (f := mm_ph B od) (dA := dA) hdb
          rw [mm_ent_obj (by omega), hd3] at hE2
          have e3 : c2 = cells := by simp only [List.length_set] at hc2; omega
          have e4 : s2 = slots := by have := mm_sl_set (I2 := h.2.1) (J2 := h.2.2) hc (c2 := (c0.1, c0.2.1, c0.2.2.set x.toNatClampNeg (some b))) rfl; omega
          subst e3; subst e4
          show W p l e R s m args below meth c H locs c2 s2 Q (F0 m pc ls (.ref (mm_ph B od b) :: .int x :: .ref (mm_ph B od a) :: st2.map (mm_rv (mm_ph B od))))
          rw [mm_ph_lt ha, mm_ph_lt hbl]
          refine va_astq hx hb hK hW.1 mm_wsD hS a 4 b 3 (r := (RX3, TX3, 4)) hE rfl hE2 rfl hvi hd (fun H1 locs1 hP1 _ hS1 => kk H1 locs1 ls (mm_Wd_set hW hc (fun _ _ => rfl) (fun _ _ => rfl) ?_ hP1) hS1 hl hO)
          rw [mm_ent_q (c := (c0.1, c0.2.1, c0.2.2.set x.toNatClampNeg (some b))) hks]
          show Sum.inl (dA c0.1, c0.2.1, Sum.inr (Sum.inr (Sum.inr (Sum.inr (fun k => (((c0.2.2.set x.toNatClampNeg (some b))[k]?).join).map (mm_ph B od)))))) = _
          rw [hks]
          congr 7
          funext q
          by_cases hqx : q = x.toNatClampNeg
          · subst hqx
            rw [mm_set_join hjl]
            simp [va_up, mm_ph_lt hbl]
          · rw [mm_set_join_ne hqx]
            simp [va_up, hqx]
        · cases hg
      · cases hg
    · cases hg
  | arraylength =>
    simp only [mm_chk, Bool.and_eq_true, decide_eq_true_eq] at hk
    simp only [mm_stp] at he
    subst hk
    obtain ⟨a, r, c0, rfl, hkd, hge, rfl, rfl, rfl, rfl⟩ := mm_len_inv he
    obtain ⟨rfl, rfl⟩ := keep rfl
    have kk2 := kk H locs ls hW hS hl hO
    rcases mm_kd_new hkd with ⟨ha, hc⟩ | ⟨rfl, rfl⟩ | ⟨rfl, rfl⟩
    · have hE := mm_ws_at (B := B) (f := mm_ph B od) (dA := dA) hc
      show W p l e R s m args below meth c H locs c2 s2 Q (F0 m pc ls (.ref (mm_ph B od a) :: r.map (mm_rv (mm_ph B od))))
      rw [mm_ph_lt ha]
      have hE3 : mm_ent (mm_ph B od) dA h2 a c0 = .inl (dA c0.1, c0.2.1, mm_arr (mm_ph B od) h2 a c0) := by simp [mm_ent, Nat.not_lt.mpr hge.1]
      rw [hE3] at hE
      have hkn : c0.1 = 100 ∨ c0.1 = 101 ∨ c0.1 = 102 ∨ c0.1 = 103 ∨ c0.1 = 104 := by omega
      rcases hkn with q | q | q | q | q <;> rw [q] at hE
      · exact va_alen hx hb hK hW.1 a 0 hE rfl rfl hd kk2
      · exact va_alen hx hb hK hW.1 a 1 hE rfl rfl hd kk2
      · exact va_alen hx hb hK hW.1 a 2 hE rfl rfl hd kk2
      · exact va_alen hx hb hK hW.1 a 3 hE rfl rfl hd kk2
      · exact va_alen hx hb hK hW.1 a 4 hE rfl rfl hd kk2
    · exact va_slen (b := mm_ph B od 1001) hx hb hOld.1 (by have := hOld.2.1; show od 1001 < _; omega) (by have := hOld.2.1; show ¬ B ≤ od 1001; omega) hS hd kk2
    · exact va_tlen (t := mm_ph B od 1002) hx hb hOld.2.2.2.1 hS rfl hd kk2
  | new i =>
    simp only [mm_chk, Bool.and_eq_true, decide_eq_true_eq] at hk
    simp only [mm_stp] at he
    obtain ⟨rfl, hv⟩ := hk
    obtain ⟨hl10, rfl, rfl, rfl, rfl⟩ := mm_nw_inv he
    split at hv
    · rename_i C T N hcl
      simp only [Bool.and_eq_true, decide_eq_true_eq] at hv
      obtain ⟨⟨⟨hN, hv1⟩, hv2⟩, hv3⟩ := hv
      obtain ⟨h10, rfl, rfl, hdc, hin1, hty, hnm, hnf⟩ := mm_cf _ _ _ _ hcl
      rw [hN] at hc2 hs2 kk
      rw [mm_len_grow] at hc2
      rw [mm_sl_grow] at hs2
      have e3 : c2 = cells + 1 := by omega
      have e4 : s2 = slots + N := by simp only at hs2; omega
      subst e3; subst e4
      refine mm_size hW hS hn0 hc1 (fun hsz => ?_)
      have hKn := hK.1 _ _ hcl
      refine W.newcK hx hb hown (hts _ (mm_wd_ok hNt hv1 rfl)) (hts _ (mm_wd_ok hNt hv2 rfl)) (hts _ (mm_wd_ok hNt hv3 rfl)) rfl hd hrc hrs hKn.2.1 hsz fun H1 kC hkC e1 z1 o1 => ?_
      have hk9 : ∀ (k : Nat) (x : Nat × va_E), (mm_ws B (mm_ph B od) dA h)[k]? = some x → H1[x.1]? = H[x.1]? := fun k x hx9 => o1 x.1 (by have := (hW.1 k x hx9).lt; omega)
      have hS1 : va_S (mm_A B) s.heap H1 locs := ⟨Nat.le_trans hS.1 (by omega), fun x h1 h2 => (o1 x (by have := hS.1; omega)).trans (hS.2.1 x h1 h2), hS.2.2⟩
      have hfin := kk H1 locs ls (mm_Wd_grow hW hl10 rfl ((hW.1.kept hk9).app (fun k x hx9 => ?_))) hS1 hl hO
      · rw [List.map_cons, show mm_rv (mm_ph B od) (.ref h.1.length) = .ref (mm_ph B od h.1.length) from rfl, mm_ph_lt hl10] at hfin
        exact hfin
      · have hz : k < 1 := (List.getElem?_eq_some_iff.mp hx9).1
        rw [show k = 0 by omega] at hx9
        cases hx9
        rw [mm_ent_obj (by simp only; omega)]
        refine ⟨_, hcl, (u_born _ hts hin1 hKn hkC e1 hty).to (fun q hq => ?_)⟩
        show _ = ((mm_fs (mm_ph B od) (mm_grow h (ax.getD 0 0, N, List.replicate N none)) h.1.length (ax.getD 0 0, N, List.replicate N none))[q]?).getD .null
        rw [mm_fs_at (c := (ax.getD 0 0, N, List.replicate N none)) hq, mm_grow_I, mm_grow_J]
        have hj : ((List.replicate N (none : Option Nat))[q]?).join = none := by rw [List.getElem?_replicate]; split <;> rfl
        simp only [Option.getD_some, hj]
        have hf9 := hnf q hq
        generalize mm_ty (ax.getD 0 0) q = t9 at hf9 ⊢
        cases t9 <;> first | rfl | exact absurd rfl hf9.1 | exact absurd rfl hf9.2
    · cases hv
  | newarray t =>
    simp only [mm_chk, Bool.and_eq_true, decide_eq_true_eq] at hk
    simp only [mm_stp] at he
    obtain ⟨rfl, ht⟩ := hk
    simp only [Bool.or_eq_true, Bool.and_eq_true, decide_eq_true_eq] at ht
    have hv : (Cond.arrayClass (newarray.typeOf t)).before args s = true := by
      rcases ht with ((⟨rfl, hv⟩ | ⟨rfl, hv⟩) | ⟨rfl, hv⟩) | ⟨rfl, hv⟩ <;> exact hts _ (mm_wd_ok hNt hv rfl)
    obtain ⟨n, r, rfl, hl10, hn0', hnb, rfl, rfl, rfl, rfl⟩ := mm_na_inv he
    rw [mm_len_grow] at hc2
    rw [mm_sl_grow] at hs2
    have e3 : c2 = cells + 1 := by omega
    have e4 : s2 = slots + n.toNatClampNeg := by simp only at hs2; omega
    subst e3; subst e4
    refine mm_size hW hS hn0 hc1 (fun hsz => ?_)
    have hbytes : n.toNatClampNeg * componentBytes (newarray.typeOf t) ≤ 536870912 := by
      have : componentBytes (newarray.typeOf t) ≤ 8 := by cases t <;> decide
      exact Nat.le_trans (Nat.mul_le_mul hnb this) (by decide)
    refine va_newaK hx hb hv rfl hd rfl (mm_nn hn0') rfl hbytes hrc hrs hsz fun H1 cA e1 z1 o1 hAr hNm => ?_
    have hk9 : ∀ (k : Nat) (x : Nat × va_E), (mm_ws B (mm_ph B od) dA h)[k]? = some x → H1[x.1]? = H[x.1]? := fun k x hx9 => o1 x.1 (by have := (hW.1 k x hx9).lt; omega)
    have hS1 : va_S (mm_A B) s.heap H1 locs := ⟨Nat.le_trans hS.1 (by omega), fun x h1 h2 => (o1 x (by have := hS.1; omega)).trans (hS.2.1 x h1 h2), hS.2.2⟩
    have hfin := kk H1 locs ls (mm_Wd_grow hW hl10 rfl ((hW.1.kept hk9).app (fun k x hx9 => ?_))) hS1 hl hO
    · rw [List.map_cons, show mm_rv (mm_ph B od) (.ref h.1.length) = .ref (mm_ph B od h.1.length) from rfl, mm_ph_lt hl10] at hfin
      exact hfin
    · have hz : k < 1 := (List.getElem?_eq_some_iff.mp hx9).1
      rw [show k = 0 by omega] at hx9
      cases hx9
      rcases ht with ((⟨rfl, -⟩ | ⟨rfl, -⟩) | ⟨rfl, -⟩) | ⟨rfl, -⟩
      · have hcA : cA = dA 100 := Option.some.inj (hNm.symm.trans (hK.2 0 _ rfl).2)
        rw [mm_ent_i (show 100 ≤ 100 by decide) (show 100 ≠ 101 by decide) (show 100 ≠ 104 by decide), mm_grow_I]
        show H1[B + h.1.length]? = some (vp_cell (dA 100) (n.toNatClampNeg, .inl (fun _ => 0)))
        rw [vp_cell_i, ← hcA]; exact e1
      · have hcA : cA = dA 101 := Option.some.inj (hNm.symm.trans (hK.2 1 _ rfl).2)
        rw [mm_ent_l rfl, mm_grow_J]
        show H1[B + h.1.length]? = some (vp_cell (dA 101) (n.toNatClampNeg, .inr (.inl (fun _ => 0))))
        rw [vp_cell_l, ← hcA]; exact e1
      · have hcA : cA = dA 102 := Option.some.inj (hNm.symm.trans (hK.2 2 _ rfl).2)
        rw [mm_ent_i (show 100 ≤ 102 by decide) (show 102 ≠ 101 by decide) (show 102 ≠ 104 by decide), mm_grow_I]
        show H1[B + h.1.length]? = some (vp_cell (dA 102) (n.toNatClampNeg, .inl (fun _ => 0)))
        rw [vp_cell_i, ← hcA]; exact e1
      · have hcA : cA = dA 103 := Option.some.inj (hNm.symm.trans (hK.2 3 _ rfl).2)
        rw [mm_ent_i (show 100 ≤ 103 by decide) (show 103 ≠ 101 by decide) (show 103 ≠ 104 by decide), mm_grow_I]
        show H1[B + h.1.length]? = some (vp_cell (dA 103) (n.toNatClampNeg, .inl (fun _ => 0)))
        rw [vp_cell_i, ← hcA]; exact e1
  | anewarray i =>
    simp only [mm_chk, Bool.and_eq_true, decide_eq_true_eq] at hk
    simp only [mm_stp] at he
    obtain ⟨rfl, hv⟩ := hk
    obtain ⟨n, r, rfl, hl10, hn0', hnb, rfl, rfl, rfl, rfl⟩ := mm_na_inv he
    rw [mm_len_grow] at hc2
    rw [mm_sl_grow] at hs2
    have e3 : c2 = cells + 1 := by omega
    have e4 : s2 = slots + n.toNatClampNeg := by simp only at hs2; omega
    subst e3; subst e4
    refine mm_size hW hS hn0 hc1 (fun hsz => ?_)
    refine W.anew hx hb hown (hts _ (mm_wd_ok hNt hv rfl)) (va_AO.use hAO) rfl hd rfl (mm_nn hn0') (by omega) hrc hrs fun cA kA comp f1 f2 f3 f4 => ?_
    generalize hH1 : H.push ({ cls := cA, slots := Array.replicate n.toNatClampNeg .null, vm := .none } : Cell) = H1
    have z1 : H1.size = H.size + 1 := by rw [← hH1, Array.size_push]
    have e1 : H1[B + h.1.length]? = some (arrV cA n.toNatClampNeg (fun _ => .null)) := by rw [← hsz, ← hH1, Array.getElem?_push_size, ← arrV_new]
    have o1 : ∀ q : Nat, q < H.size → H1[q]? = H[q]? := fun q hq => by rw [← hH1, Array.getElem?_push, if_neg (Nat.ne_of_lt hq)]
    have hk9 : ∀ (k : Nat) (x : Nat × va_E), (mm_ws B (mm_ph B od) dA h)[k]? = some x → H1[x.1]? = H[x.1]? := fun k x hx9 => o1 x.1 ((hW.1 k x hx9).lt)
    have hS1 : va_S (mm_A B) s.heap H1 locs := ⟨Nat.le_trans hS.1 (by omega), fun x h1 h2 => (o1 x (by have := hS.1; omega)).trans (hS.2.1 x h1 h2), hS.2.2⟩
    have hfin := kk H1 locs ls (mm_Wd_grow hW hl10 rfl ((hW.1.kept hk9).app (fun k x hx9 => ?_))) hS1 hl hO
    · rw [List.map_cons, show mm_rv (mm_ph B od) (.ref h.1.length) = .ref (mm_ph B od h.1.length) from rfl, mm_ph_lt hl10, ← hsz] at hfin
      exact hfin
    · have hz : k < 1 := (List.getElem?_eq_some_iff.mp hx9).1
      rw [show k = 0 by omega] at hx9
      cases hx9
      have hcA : cA = dA 104 := by
        obtain ⟨kA2, comp2, -, -, -, g4⟩ := (hK.2 4 _ rfl).2
        exact Option.some.inj (f1.symm.trans g4)
      rw [mm_ent_q rfl]
      have hf9 : (fun k : Nat => (((List.replicate n.toNatClampNeg (none : Option Nat))[k]?).join).map (mm_ph B od)) = fun _ => none := by
        funext q
        rw [List.getElem?_replicate]; split <;> rfl
      show H1[B + h.1.length]? = some (vp_cell (dA 104) (n.toNatClampNeg, .inr (.inr (.inr (.inr (fun k => (((List.replicate n.toNatClampNeg (none : Option Nat))[k]?).join).map (mm_ph B od)))))))
      rw [hf9, vp_cell_q, ← hcA]; exact e1
  | invokespecial i =>
    simp only [mm_chk, Bool.and_eq_true, decide_eq_true_eq] at hk
    simp only [mm_stp] at he
    obtain ⟨⟨⟨rfl, hv1⟩, hv2⟩, hv3⟩ := hk
    obtain ⟨hf1, hf2⟩ := hob ⟨i, rfl⟩
    split at he
    · cases he
      obtain ⟨rfl, rfl⟩ := keep rfl
      exact W.objInit hx hb hown (hts _ (mm_wd_ok hNt hv1 rfl)) (hts _ (mm_wd_ok hNt hv2 rfl)) (hts _ (mm_wd_ok hNt hv3 rfl)) rfl (by rw [hml]; exact hl.1) rfl hd hf1 hf2 (kk H locs ls hW hS hl hO)
    · cases he
  | invokevirtual i =>
    cases hk
  | _ => cases he
end Step
