section Step
variable {p : Program} {l : Launch} {e : Env} {R : Room} {s : State} {m : MethodId} {args : Array Value} {below : List Frame} {meth : Method} {c : Code} {H : Heap} {locs : List Loc} {cells slots : Nat} {Q : State → Prop}
variable {cc : ByteArray} {B : Nat} {od : Nat → Nat} {D : va_G} {dA : Nat → ClassId} {Lx : Nat} {xs : Nat → Int32} {own : String} {nL : Nat}
set_option maxHeartbeats 4000000 in
theorem mm_stp_j {ins : Instr} {ax : List Nat} {L L2 : mm_L} {st st2 : List Value} {h h2 : mm_H} {j : Option Nat} (he : mm_stp Lx ins ax L st h = some (j, L2, st2, h2)) (hn : mm_isj ins = false) : j = none := by
  cases ins with
  | iconst n => simp only [mm_stp] at he; (cases he; rfl)
  | bipush n => simp only [mm_stp] at he; (cases he; rfl)
  | sipush n => simp only [mm_stp] at he; (cases he; rfl)
  | lconst n => simp only [mm_stp] at he; (cases he; rfl)
  | ldc2_w n => simp only [mm_stp] at he; (cases he; rfl)
  | getstatic n => simp only [mm_stp] at he; (cases he; rfl)
  | ldc n => simp only [mm_stp] at he; split at he <;> (cases he; rfl)
  | ldc_w n => simp only [mm_stp] at he; split at he <;> (cases he; rfl)
  | iload_n n => simp only [mm_stp] at he; (obtain ⟨v, -, -, q, -, -, -⟩ := mm_ld_inv he; exact q)
  | iload n => simp only [mm_stp] at he; (obtain ⟨v, -, -, q, -, -, -⟩ := mm_ld_inv he; exact q)
  | lload_n n => simp only [mm_stp] at he; (obtain ⟨v, -, -, q, -, -, -⟩ := mm_ld_inv he; exact q)
  | lload n => simp only [mm_stp] at he; (obtain ⟨v, -, -, q, -, -, -⟩ := mm_ld_inv he; exact q)
  | aload_n n => simp only [mm_stp] at he; (obtain ⟨v, -, -, q, -, -, -⟩ := mm_ld_inv he; exact q)
  | aload n => simp only [mm_stp] at he; (obtain ⟨v, -, -, q, -, -, -⟩ := mm_ld_inv he; exact q)
  | istore_n n => simp only [mm_stp] at he; (obtain ⟨v, -, -, q, -, -⟩ := mm_sv_inv he; exact q)
  | istore n => simp only [mm_stp] at he; (obtain ⟨v, -, -, q, -, -⟩ := mm_sv_inv he; exact q)
  | lstore_n n => simp only [mm_stp] at he; (obtain ⟨v, -, -, q, -, -⟩ := mm_sv_inv he; exact q)
  | lstore n => simp only [mm_stp] at he; (obtain ⟨v, -, -, q, -, -⟩ := mm_sv_inv he; exact q)
  | astore_n n => simp only [mm_stp] at he; (obtain ⟨v, -, -, q, -, -⟩ := mm_sv_inv he; exact q)
  | astore n => simp only [mm_stp] at he; (obtain ⟨v, -, -, q, -, -⟩ := mm_sv_inv he; exact q)
  | iinc i n => simp only [mm_stp] at he; (split at he <;> first | (cases he; done) | (cases he; rfl))
  | iadd => simp only [mm_stp] at he; (obtain ⟨x, y, r, -, q, -, -, -⟩ := mm_i2_inv he; exact q)
  | isub => simp only [mm_stp] at he; (obtain ⟨x, y, r, -, q, -, -, -⟩ := mm_i2_inv he; exact q)
  | imul => simp only [mm_stp] at he; (obtain ⟨x, y, r, -, q, -, -, -⟩ := mm_i2_inv he; exact q)
  | iand => simp only [mm_stp] at he; (obtain ⟨x, y, r, -, q, -, -, -⟩ := mm_i2_inv he; exact q)
  | ior => simp only [mm_stp] at he; (obtain ⟨x, y, r, -, q, -, -, -⟩ := mm_i2_inv he; exact q)
  | ixor => simp only [mm_stp] at he; (obtain ⟨x, y, r, -, q, -, -, -⟩ := mm_i2_inv he; exact q)
  | ishl => simp only [mm_stp] at he; (obtain ⟨x, y, r, -, q, -, -, -⟩ := mm_i2_inv he; exact q)
  | ishr => simp only [mm_stp] at he; (obtain ⟨x, y, r, -, q, -, -, -⟩ := mm_i2_inv he; exact q)
  | iushr => simp only [mm_stp] at he; (obtain ⟨x, y, r, -, q, -, -, -⟩ := mm_i2_inv he; exact q)
  | idiv => simp only [mm_stp] at he; (obtain ⟨x, y, r, -, -, q, -, -, -⟩ := mm_i2d_inv he; exact q)
  | irem => simp only [mm_stp] at he; (obtain ⟨x, y, r, -, -, q, -, -, -⟩ := mm_i2d_inv he; exact q)
  | ineg => simp only [mm_stp] at he; (obtain ⟨x, r, -, q, -, -, -⟩ := mm_i1_inv he; exact q)
  | i2l => simp only [mm_stp] at he; (obtain ⟨x, r, -, q, -, -, -⟩ := mm_i1_inv he; exact q)
  | i2b => simp only [mm_stp] at he; (obtain ⟨x, r, -, q, -, -, -⟩ := mm_i1_inv he; exact q)
  | ladd => simp only [mm_stp] at he; (obtain ⟨x, y, r, -, q, -, -, -⟩ := mm_j2_inv he; exact q)
  | lsub => simp only [mm_stp] at he; (obtain ⟨x, y, r, -, q, -, -, -⟩ := mm_j2_inv he; exact q)
  | lmul => simp only [mm_stp] at he; (obtain ⟨x, y, r, -, q, -, -, -⟩ := mm_j2_inv he; exact q)
  | lxor => simp only [mm_stp] at he; (obtain ⟨x, y, r, -, q, -, -, -⟩ := mm_j2_inv he; exact q)
  | lcmp => simp only [mm_stp] at he; (obtain ⟨x, y, r, -, q, -, -, -⟩ := mm_j2_inv he; exact q)
  | ldiv => simp only [mm_stp] at he; (obtain ⟨x, y, r, -, -, q, -, -, -⟩ := mm_j2d_inv he; exact q)
  | lrem => simp only [mm_stp] at he; (obtain ⟨x, y, r, -, -, q, -, -, -⟩ := mm_j2d_inv he; exact q)
  | lneg => simp only [mm_stp] at he; (obtain ⟨x, r, -, q, -, -, -⟩ := mm_j1_inv he; exact q)
  | l2i => simp only [mm_stp] at he; (obtain ⟨x, r, -, q, -, -, -⟩ := mm_j1_inv he; exact q)
  | dup => simp only [mm_stp] at he; (split at he <;> first | (cases he; done) | (split at he <;> first | (cases he; done) | (cases he; rfl)))
  | pop => simp only [mm_stp] at he; (split at he <;> first | (cases he; done) | (split at he <;> first | (cases he; done) | (cases he; rfl)))
  | dup2 => simp only [mm_stp] at he; (split at he <;> first | (cases he; done) | (cases he; rfl))
  | goto a => cases hn
  | ifCond a b => cases hn
  | if_icmp a b => cases hn
  | tableswitch a b c d => cases hn
  | getfield n => simp only [mm_stp] at he; (obtain ⟨a, r, c, -, -, -, -, q, -, -, -⟩ := mm_gf_inv he; exact q)
  | putfield n => simp only [mm_stp] at he; (obtain ⟨v, a, c, -, -, -, -, -, q, -⟩ := mm_pf_inv he; exact q)
  | iaload => simp only [mm_stp] at he; (obtain ⟨x, a, r, c, -, -, -, -, -, q, -, -, -⟩ := mm_al_inv he; exact q)
  | baload => simp only [mm_stp] at he; (obtain ⟨x, a, r, c, -, -, -, -, -, q, -, -, -⟩ := mm_al_inv he; exact q)
  | laload => simp only [mm_stp] at he; (obtain ⟨x, a, r, c, -, -, -, -, -, q, -, -, -⟩ := mm_al_inv he; exact q)
  | aaload => simp only [mm_stp] at he; (obtain ⟨x, a, r, c, -, -, -, -, -, q, -, -, -⟩ := mm_al_inv he; exact q)
  | iastore => simp only [mm_stp] at he; (obtain ⟨v, x, a, c, -, -, -, -, -, -, q, -⟩ := mm_as_inv he; exact q)
  | bastore => simp only [mm_stp] at he; (obtain ⟨v, x, a, c, -, -, -, -, -, -, q, -⟩ := mm_as_inv he; exact q)
  | lastore => simp only [mm_stp] at he; (obtain ⟨v, x, a, c, -, -, -, -, -, -, q, -⟩ := mm_as_inv he; exact q)
  | aastore => simp only [mm_stp] at he; (obtain ⟨v, x, a, c, -, -, -, -, -, -, q, -⟩ := mm_as_inv he; exact q)
  | arraylength => simp only [mm_stp] at he; (obtain ⟨a, r, c, -, -, -, q, -, -, -⟩ := mm_len_inv he; exact q)
  | new n => simp only [mm_stp] at he; (obtain ⟨-, q, -, -, -⟩ := mm_nw_inv he; exact q)
  | newarray n => simp only [mm_stp] at he; (obtain ⟨n, r, -, -, -, -, q, -, -, -⟩ := mm_na_inv he; exact q)
  | anewarray n => simp only [mm_stp] at he; (obtain ⟨n, r, -, -, -, -, q, -, -, -⟩ := mm_na_inv he; exact q)
  | invokespecial n => simp only [mm_stp] at he; (split at he <;> first | (cases he; done) | (cases he; rfl))
  | invokevirtual n => simp only [mm_stp] at he; (obtain ⟨q, -, -, -⟩ := mm_str_inv he; exact q)
  | _ => cases he
theorem mm_jump {cd : Nat → List mm_E} {k i pc len : Nat} {ins : Instr} {ax : List Nat} {L L2 : mm_L} {st st2 : List Value} {h h2 : mm_H} {j : Option Nat} (he : mm_stp Lx ins ax L st h = some (j, L2, st2, h2)) (hj : mm_jok (cd k) ins ax = true) (hf : (!mm_fall ins || decide (((cd k)[i + 1]?).map (fun e => e.1) = some (pc + len))) = true)
    (hsw : ∀ d lo hi offs, ins = .tableswitch d lo hi offs → hi - lo + 1 = (offs.size : Int)) :
    mm_npc j pc len ax = mm_pcs ((cd k).drop (mm_ix j i ax)) := by
  have pcs : ∀ (n q : Nat), ((cd k)[n]?).map (fun e => e.1) = some q → mm_pcs ((cd k).drop n) = q := by
    intro n q hq
    cases hn : (cd k)[n]? with
    | none => rw [hn] at hq; cases hq
    | some x =>
      rw [hn] at hq
      obtain ⟨hlt, hx⟩ := List.getElem?_eq_some_iff.mp hn
      rw [List.drop_eq_getElem_cons hlt, hx]
      exact Option.some.inj hq
  cases j with
  | none =>
    have hfl : mm_fall ins = true := by
      cases ins <;> first | rfl | (simp only [mm_stp] at he; cases he; done) | (simp only [mm_stp, mm_sw] at he; split at he <;> cases he)
    rw [hfl] at hf
    simp only [Bool.not_true, Bool.false_or, decide_eq_true_eq] at hf
    exact (pcs _ _ hf).symm
  | some q =>
    have hisj : mm_isj ins = true ∧ ∃ w, q = 2 * w ∧ w < ax.length / 2 := by
      by_cases hi : mm_isj ins = true
      · refine ⟨hi, ?_⟩
        unfold mm_jok at hj
        rw [if_pos hi, Bool.and_eq_true] at hj
        cases ins with
        | goto a =>
          simp only [mm_stp] at he
          cases he
          have := of_decide_eq_true hj.1
          exact ⟨0, rfl, by omega⟩
        | ifCond a b =>
          simp only [mm_stp] at he
          obtain ⟨x, -, q1, -, -⟩ := mm_b1_inv he
          have := of_decide_eq_true hj.1
          split at q1
          · cases q1; exact ⟨0, rfl, by omega⟩
          · cases q1
        | if_icmp a b =>
          simp only [mm_stp] at he
          obtain ⟨x, y, -, q1, -, -⟩ := mm_b2_inv he
          have := of_decide_eq_true hj.1
          split at q1
          · cases q1; exact ⟨0, rfl, by omega⟩
          · cases q1
        | tableswitch d lo hi9 offs =>
          simp only [mm_stp, mm_sw] at he
          have h9 := of_decide_eq_true hj.1
          have h8 := hsw d lo hi9 offs rfl
          split at he
          · rename_i x r
            cases he
            by_cases hq : x.toInt < lo ∨ hi9 < x.toInt
            · rw [if_pos hq]; exact ⟨0, rfl, by omega⟩
            · rw [if_neg hq]; exact ⟨_, rfl, by omega⟩
          · cases he
        | _ => cases hi
      · have := mm_stp_j he (by simpa using hi)
        cases this
    obtain ⟨h1, w, rfl, hw⟩ := hisj
    unfold mm_jok at hj
    rw [if_pos h1, Bool.and_eq_true] at hj
    have := List.all_eq_true.mp hj.2 w (List.mem_range.mpr hw)
    simp only [decide_eq_true_eq] at this
    exact (pcs _ _ this).symm

/-- WHAT THE SMALL MACHINE DOES, THE MACHINE DOES -/
def mm_Ok (nt : Nat → Option (List Nat)) (cd : Nat → List mm_E) (mt : Nat → mm_M) : Prop := mm_Nt mt nt ∧ (∀ (k i : Nat) (e : mm_E), (cd k)[i]? = some e → mm_sok nt cd mt k i e = true) ∧ (∀ k, mm_pcs (cd k) = 0) ∧ ∀ k, mm_mok (mt k)
set_option maxHeartbeats 4000000 in
theorem mm_sound {nt : Nat → Option (List Nat)} {cd : Nat → List mm_E} {mt : Nat → mm_M} (hck : mm_Ok nt cd mt) {l : Launch} {B : Nat} {od : Nat → Nat} {D : va_G} {dA : Nat → ClassId} {Lx : Nat} {xs : Nat → Int32} :
    ∀ (n k i : Nat) (L : mm_L) (st : List Value) (h : mm_H) (r : Option Value) (h2 : mm_H), mm_ex cd Lx n k ((cd k).drop i) L st h = some (r, h2) →
    ∀ {p : Program} {e : Env} {R : Room} {s : State} {m : MethodId} {args : Array Value} {below : List Frame} {meth : Method} {c : Code} {H : Heap} {locs : List Loc} {cells slots : Nat} {ls : Array Slot} {n0 z0 mc ms : Nat},
    mm_Si B od D dA Lx xs p s m args c (mt k).2.1 (mt k).2.2.1 (mt k).1.cls → meth.sig.returnType = (mt k).2.2.2.1 → meth.locks = false → meth.name = (mt k).1.name → R.frames = (mt k).2.2.2.2.1 → R.locals = (mt k).2.2.2.2.2.1 → R.cells = mc → R.slots = ms →
    mm_Wd B od D dA xs h H → va_S (mm_A B) s.heap H locs → mm_lR (mm_ph B od) L ls (mt k).2.2.1 → mm_okL L → s.heap.size = B + n0 → cells + n0 = h.1.length → slots + z0 = mm_sl h → mc + n0 = h2.1.length → ms + z0 = mm_sl h2 →
    W p l e R s m args below meth c H locs cells slots (MQ below (mm_Qc B od D dA xs r h2) args s mc ms (mm_A B)) (F0 m (mm_pcs ((cd k).drop i)) ls (st.map (mm_rv (mm_ph B od)))) := by
  intro n
  induction n with
  | zero => intro k i L st h r h2 he; cases he
  | succ n ih =>
    intro k i L st h r h2 he p e R s m args below meth c H locs cells slots ls n0 z0 mc ms hSi hret hlk hnm hRf hRl hRc hRs hW hS hl hO hn0 hc1 hs1 hc2 hs2
    unfold mm_ex at he
    split at he
    · cases he
    · rename_i es pc ins len tg ax is2 hes
      have hi0 : (cd k)[i]? = some (pc, ins, len, tg, ax) := by
        have := congrArg (fun l => l[0]?) hes
        simpa using this
      have his2 : is2 = (cd k).drop (i + 1) := by
        have := congrArg List.tail hes
        simpa using this.symm
      subst his2
      have hNt := hck.1
      have hsok := hck.2.1 k i _ hi0
      have hmo := hck.2.2.2 k
      have hpc : mm_pcs ((cd k).drop i) = pc := by rw [hes]; rfl
      rw [hpc]
      unfold mm_sok at hsok
      generalize hmk : mt k = mk at hsok hSi hret hnm hRf hRl hl hmo
      obtain ⟨x, bytes, maxL, ret, fr, lo, o, np0, ini⟩ := mk
      obtain ⟨-, hcx, -, -, hini0⟩ := hmo
      simp only at hcx hini0
      simp only [Bool.and_eq_true, decide_eq_true_eq] at hsok
      simp only at hSi hret hnm hRf hRl hl
      obtain ⟨hdec, hsok⟩ := hsok
      split at he
      · -- an instruction
        simp only [Bool.and_eq_true] at hsok
        obtain ⟨⟨⟨hk, hj⟩, hf⟩, hob⟩ := hsok
        have hsw : ∀ d lo hi offs, ins = .tableswitch d lo hi offs → hi - lo + 1 = (offs.size : Int) := by
          rintro d lo2 hi2 offs rfl
          simp only [mm_chk, mm_cks, Bool.or_false, Bool.and_eq_true, decide_eq_true_eq] at hk
          exact hk.1.2
        have go : ∀ (j : Option Nat) (L2 : mm_L) (st2 : List Value) (h3 : mm_H), mm_stp Lx ins ax L st h = some (j, L2, st2, h3) → mm_ex cd Lx n k ((cd k).drop (mm_ix j i ax)) L2 st2 h3 = some (r, h2) → W p l e R s m args below meth c H locs cells slots (MQ below (mm_Qc B od D dA xs r h2) args s mc ms (mm_A B)) (F0 m pc ls (st.map (mm_rv (mm_ph B od)))) := by
          intro j L2 st2 h3 hst hex
          have hle1 := mm_stp_le hst
          have hle2 := mm_ex_le _ _ _ _ _ _ _ _ hex
          have hnp := mm_jump (k := k) (i := i) (pc := pc) (len := len) hst hj hf hsw
          obtain ⟨c2, hc2'⟩ : ∃ c2, c2 + n0 = h3.1.length := ⟨h3.1.length - n0, by have := hle1.1; omega⟩
          obtain ⟨s2, hs2'⟩ : ∃ s2, s2 + z0 = mm_sl h3 := ⟨mm_sl h3 - z0, by have := hle1.2; omega⟩
          have kk : ∀ (H2 : Heap) (locs2 : List Loc) (ls2 : Array Slot), mm_Wd B od D dA xs h3 H2 → va_S (mm_A B) s.heap H2 locs2 → mm_lR (mm_ph B od) L2 ls2 maxL → mm_okL L2 → W p l e R s m args below meth c H2 locs2 c2 s2 (MQ below (mm_Qc B od D dA xs r h2) args s mc ms (mm_A B)) (F0 m (mm_npc j pc len ax) ls2 (st2.map (mm_rv (mm_ph B od)))) := by
            intro H2 locs2 ls2 hW2 hS2 hl2 hO2
            rw [hnp]
            exact ih k _ L2 st2 h3 r h2 hex (by rw [hmk]; exact hSi) (by rw [hmk]; exact hret) hlk (by rw [hmk]; exact hnm) (by rw [hmk]; exact hRf) (by rw [hmk]; exact hRl) hRc hRs hW2 hS2 (by rw [hmk]; exact hl2) hO2 hn0 hc2' hs2' hc2 hs2
          simp only [Bool.or_eq_true] at hk
          have r1 : c2 ≤ R.cells := by rw [hRc]; have := hle2.1; omega
          have r2 : s2 ≤ R.slots := by rw [hRs]; have := hle2.2; omega
          rcases hk with hk | hk
          · refine mm_step hNt (by rw [← hcx]; exact hSi) hdec hk (fun hi9 => by rw [hnm]; exact hini0 hi9) ?_ hst hW hS hl hO hn0 hc1 hc2' hs1 hs2' r1 r2 kk
            rintro ⟨q, rfl⟩
            simp only [Bool.and_eq_true, decide_eq_true_eq] at hob
            exact ⟨by rw [hRf]; exact hob.1, by rw [hRl]; exact hob.2⟩
          · exact mm_stepS hNt (by rw [← hcx]; exact hSi) hdec (by rw [hRf, hRl]; exact hk) hst hW hS hl hO hn0 hc1 hc2' hs1 hs2' r1 r2 kk
        split at he
        · rename_i hst; exact go none _ _ _ hst he
        · rename_i q L2 st2 h3 hst; exact go (some q) _ _ _ hst he
        · cases he
      · -- a call
        simp only [Bool.and_eq_true, decide_eq_true_eq] at hsok
        obtain ⟨hkc, hnx⟩ := hsok
        split at he
        · rename_i hcok
          split at he
          · rename_i r1 h1 hcall
            obtain ⟨hlen, hd4, htg, hmx, hrecv⟩ := mm_cok_inv hcok
            unfold mm_ckc at hkc
            rw [hmk] at hkc
            have hmo2 := hck.2.2.2 (ax.getD 0 0)
            have hwd13 : ∀ i9, mm_wdec mt [13, o, i9, ax.getD 0 0] = .methodLink (mm_cn o) i9 (mt (ax.getD 0 0)).1 := fun _ => rfl
            have hwd14 : ∀ i9, mm_wdec mt [14, o, i9, ax.getD 0 0] = .methodLinkNest (mm_cn o) i9 (mt (ax.getD 0 0)).1 "DeafArray" := fun _ => rfl
            have hwd15 : mm_wdec mt [15, ax.getD 0 0] = .instanceMethod (mt (ax.getD 0 0)).1 := rfl
            have hwd16 : mm_wdec mt [16, ax.getD 0 0] = .static (mt (ax.getD 0 0)).1 := rfl
            have hwd17 : mm_wdec mt [17, ax.getD 0 0] = .selects (mt (ax.getD 0 0)).1.cls (mt (ax.getD 0 0)).1 (mt (ax.getD 0 0)).1 := rfl
            have hwd18 : mm_wdec mt [18, ax.getD 0 0] = .code (mt (ax.getD 0 0)).1 (mt (ax.getD 0 0)).2.1 (mt (ax.getD 0 0)).2.2.1 (mt (ax.getD 0 0)).2.2.2.1 := rfl
            generalize hmy : mt (ax.getD 0 0) = my at hkc hmo2 hwd13 hwd14 hwd15 hwd16 hwd17 hwd18
            obtain ⟨y, bytes2, maxL2, ret2, fr2, lo2, o2, np2, ini2⟩ := my
            obtain ⟨hpl, hcy, hymh, hnp2, hini2⟩ := hmo2
            simp only at hpl hcy hymh hnp2 hini2 hwd13 hwd14 hwd15 hwd16 hwd17 hwd18
            simp only [Bool.and_eq_true, decide_eq_true_eq] at hkc
            obtain ⟨⟨⟨⟨⟨⟨hl3, hmx2⟩, hfr⟩, hlo⟩, hwc⟩, hwi⟩, hrest⟩ := hkc
            subst hl3
            have hle1 := mm_ex_le _ _ _ _ _ _ _ _ hcall
            have hle2 := mm_ex_le _ _ _ _ _ _ _ _ he
            obtain ⟨mc2, hmc2⟩ : ∃ q, q + h.1.length = h1.1.length := ⟨h1.1.length - h.1.length, by have := hle1.1; omega⟩
            obtain ⟨ms2, hms2⟩ : ∃ q, q + mm_sl h = mm_sl h1 := ⟨mm_sl h1 - mm_sl h, by have := hle1.2; omega⟩
            obtain ⟨hx, hb, hml, hown, hCt⟩ := hSi
            have hts := hCt.1
            have hgood : GoodIn mm_gw (Cond.code y bytes2 maxL2 ret2 :: mm_gw) := by
              intro w hw
              have hw2 : w ∈ mm_gw := by
                rcases List.mem_cons.mp hw with rfl | h9
                · rw [← hwd18]; exact mm_wd_ok hNt hwc rfl
                · exact h9
              exact ⟨hw2, good_of_word (List.mem_filter.mp hw2).2⟩
            have hM : Met l y (Cond.code y bytes2 maxL2 ret2 :: mm_gw) { frames := fr2, cells := mc2, slots := ms2, locals := lo2 } (mm_Pc B od D dA Lx xs (st.take (ax.getD 1 0)).reverse h) (mm_Qc B od D dA xs r1 h1) mc2 ms2 (mm_A B) := by
              refine va_MetF (cc := bytes2) (maxL := maxL2) (ret := ret2) hpl rfl ?_
              intro p e s m args below meth c s₁ Bd hml9 hv
              obtain ⟨rfl, v2, v3, v4, v5, v6, v7, v8⟩ := hv
              have hts9 := atoms_spec (ws := Cond.code y bytes2 maxL2 ret2 :: mm_gw) Bd.pre
              have hown9 : s.vm.findClass y.cls = some m.cls := findClass_of_methodNamed Bd.named
              have hnm9 := (name_of_methodNamed Bd.named Bd.method).1
              have hen := lv_entry (((st.take (ax.getD 1 0)).reverse).map (mm_rv (mm_ph B od))) (n := maxL2) (by rw [mm_ar_len _ htg, ← hmx2]; exact hmx)
              rw [lg_entry_eq]
              have hlR : mm_lR (mm_ph B od) (mm_ar (st.take (ax.getD 1 0)).reverse) ((lg_sl (((st.take (ax.getD 1 0)).reverse).map (mm_rv (mm_ph B od))) ++ List.replicate (maxL2 - (lg_sl (((st.take (ax.getD 1 0)).reverse).map (mm_rv (mm_ph B od)))).length) Slot.unset).toArray) maxL2 :=
                ⟨hen.1, hen.2.1, fun q v hv => hen.2.2 (q, mm_rv (mm_ph B od) v) (by have := mm_ar_at (f := mm_ph B od) _ 0 q v htg hv; rwa [Nat.zero_add] at this)⟩
              have := ih (ax.getD 0 0) 0 (mm_ar (st.take (ax.getD 1 0)).reverse) [] h r1 h1 (by rw [List.drop_zero]; exact hcall) (p := p) (e := e) (R := (headSpec (Cond.code y bytes2 maxL2 ret2 :: mm_gw) { frames := fr2, cells := mc2, slots := ms2, locals := lo2 }).room) (s := s) (m := m) (args := (((st.take (ax.getD 1 0)).reverse).map (mm_rv (mm_ph B od))).toArray) (below := below) (meth := meth) (c := c) (H := s.heap) (locs := []) (cells := 0) (slots := 0) (n0 := h.1.length) (z0 := mm_sl h) (mc := mc2) (ms := ms2)
                (by rw [hmy]; exact ⟨Bd.exec, Bd.bytes, hml9, hown9, fun w hw => hts9 w (List.mem_cons_of_mem _ hw), v4, v5, v6, v7, by omega, v8⟩) (by rw [hmy]; exact Bd.returns) Bd.notSynchronized (by rw [hmy]; exact hnm9) (by rw [hmy]; rfl) (by rw [hmy]; rfl) rfl rfl v2 va_S.rf (by rw [hmy]; exact hlR) (mm_ar_ok _ htg) v3 (Nat.zero_add _) (Nat.zero_add _) hmc2 hms2
              rw [List.drop_zero, hck.2.2.1] at this
              exact this
            have hroom : 2 * (F0 m pc ls (st.map (mm_rv (mm_ph B od)))).monitorRoom + (((st.drop (ax.getD 1 0)).map (mm_rv (mm_ph B od))).map fun v => v.category).sum ≤ 8 := by
              have := mm_cats (st.drop (ax.getD 1 0)) (mm_ph B od)
              show 2 * 0 + _ ≤ 8
              omega
            have hfit : cells + mc2 ≤ R.cells ∧ slots + ms2 ≤ R.slots := by
              rw [hRc, hRs]
              have := hle2.1
              have := hle2.2
              exact ⟨by omega, by omega⟩
            have hR9 : fr2 + 1 ≤ R.frames ∧ 8 + (maxL2 + 11) + lo2 ≤ R.locals := by rw [hRf, hRl]; exact ⟨hfr, hlo⟩
            refine mm_size hW hS hn0 hc1 (fun hsz => ?_)
            have hrun : va_Run p l e R s m args below meth c H locs cells slots mc2 ms2 (F0 m pc ls (st.map (mm_rv (mm_ph B od)))) ((st.drop (ax.getD 1 0)).map (mm_rv (mm_ph B od))) (mm_Qc B od D dA xs r1 h1 (((st.take (ax.getD 1 0)).reverse).map (mm_rv (mm_ph B od))).toArray) (mm_A B) := by
              have hfix : CallFix p m c bytes maxL s args mm_gw (mm_cn o) := ⟨hx, hb, hml, by rw [← hcx]; exact hown, hts⟩
              have lk : ∀ {i9 w : Nat}, mm_wd nt w [13, o, i9, ax.getD 0 0] = true → (Cond.methodLink (mm_cn o) i9 y).before args s = true := fun hq => by have := hts _ (mm_wd_ok hNt hq rfl); rwa [hwd13] at this
              have ln : ∀ {i9 w : Nat}, mm_wd nt w [14, o, i9, ax.getD 0 0] = true → va_Nw (.methodLinkNest (mm_cn o) i9 y "DeafArray") s := fun hq => by have := hCt.2.2.1 _ (mm_wn_ok hNt hq) rfl; rwa [hwd14] at this
              have lin : ∀ {w : Nat}, mm_wd nt w [15, ax.getD 0 0] = true → (Cond.instanceMethod y).before args s = true := fun hq => by have := hts _ (mm_wd_ok hNt hq rfl); rwa [hwd15] at this
              have hini : (Cond.initialized y.cls).before args s = true := (by rw [hcy]; exact hts _ (mm_wd_ok hNt hwi rfl))
              split at hrest
              · -- static
                rename_i ix
                simp only [Bool.and_eq_true, decide_eq_true_eq] at hrest
                obtain ⟨⟨hnp1, hst9⟩, hlink⟩ := hrest
                have hnp : (parseMethodDescriptor y.desc).map (fun d => d.parameters.length) = some (ax.getD 1 0) := by rw [hnp2, hnp1]
                have hst9 : (Cond.static y).before args s = true := by have := hts _ (mm_wd_ok hNt hst9 rfl); rwa [hwd16] at this
                have hstk : st.map (mm_rv (mm_ph B od)) = ((((st.take (ax.getD 1 0)).reverse).map (mm_rv (mm_ph B od)))).reverse ++ (st.drop (ax.getD 1 0)).map (mm_rv (mm_ph B od)) := by
                  rw [List.map_reverse, List.reverse_reverse, ← List.map_append, List.take_append_drop]
                have hlen9 : (((st.take (ax.getD 1 0)).reverse).map (mm_rv (mm_ph B od))).length = ax.getD 1 0 := by
                  rw [List.length_map, List.length_reverse, List.length_take, Nat.min_eq_left hlen]
                have hpre : PreS s H (mm_Pc B od D dA Lx xs (st.take (ax.getD 1 0)).reverse h) (((st.take (ax.getD 1 0)).reverse).map (mm_rv (mm_ph B od))) := ⟨mm_blind, fun U hU hWU => mm_pre hCt hW hS hsz hU hWU⟩
                split at hlink
                · exact va_runS hfix hM ⟨callB_of (ax.getD 1 0) hts hgood rfl rfl rfl hini (lk hlink) ⟨hymh.1, hymh.2, hnp⟩ hR9, hst9⟩ hpre rfl hlen9 hl.1 hstk hroom hdec hfit
                · exact va_runSN hfix hM ⟨va_cnB (ax.getD 1 0) hts hgood rfl rfl rfl (ln hlink) hini ⟨hymh.1, hymh.2, hnp⟩ hR9, hst9, trivial⟩ hpre rfl hlen9 hl.1 hstk hroom hdec hfit
              · -- virtual
                rename_i ix
                simp only [Bool.and_eq_true, decide_eq_true_eq] at hrest
                obtain ⟨⟨⟨⟨⟨hnp1, hin9⟩, hsel⟩, hlink⟩, hci⟩, ho10⟩ := hrest
                have hpos : 0 < ax.getD 1 0 := by omega
                have hnp : (parseMethodDescriptor y.desc).map (fun d => d.parameters.length) = some (ax.getD 1 0 - 1) := by rw [hnp2]; congr 1; omega
                have hsel : (Cond.selects y.cls y y).before args s = true := by have := hts _ (mm_wd_ok hNt hsel rfl); rwa [hwd17] at this
                obtain ⟨a, c0, hsta, hca, hc0⟩ := hrecv o2 hci
                cases hcl : mm_cls[o2]? with
                | none =>
                  have h9 : mm_cls.length ≤ o2 := List.getElem?_eq_none_iff.mp hcl
                  exact absurd h9 (by show ¬ 10 ≤ o2; omega)
                | some q9 =>
                  obtain ⟨C, T, N⟩ := q9
                  obtain ⟨h10, hC9, -⟩ := mm_cf _ _ _ _ hcl
                  · have hyC : y.cls = C := by rw [hcy, hC9]
                    have htk := mm_take hpos hsta
                    have hvs : (st.take (ax.getD 1 0)).reverse = .ref a :: (st.take (ax.getD 1 0 - 1)).reverse := by rw [htk, List.reverse_append]; rfl
                    have hstk : st.map (mm_rv (mm_ph B od)) = (((st.take (ax.getD 1 0 - 1)).reverse).map (mm_rv (mm_ph B od))).reverse ++ .ref (mm_ph B od a) :: (st.drop (ax.getD 1 0)).map (mm_rv (mm_ph B od)) := by
                      rw [List.map_reverse, List.reverse_reverse]
                      conv => lhs; rw [← List.take_append_drop (ax.getD 1 0) st, htk]
                      simp [mm_rv]
                    have hlen9 : (((st.take (ax.getD 1 0 - 1)).reverse).map (mm_rv (mm_ph B od))).length = ax.getD 1 0 - 1 := by
                      rw [List.length_map, List.length_reverse, List.length_take, Nat.min_eq_left (by omega)]
                    have ha := mm_Wd_lt hW hca
                    have hE := mm_ws_at (B := B) (f := mm_ph B od) (dA := dA) hca
                    rw [mm_ent_obj (by omega), hc0] at hE
                    have hrv := va_recv hCt.2.1 hW.1 hcl hE
                    have hpre : PreV s H y.cls (mm_ph B od a) (mm_Pc B od D dA Lx xs (st.take (ax.getD 1 0)).reverse h) (((st.take (ax.getD 1 0 - 1)).reverse).map (mm_rv (mm_ph B od))) :=
                      ⟨mm_blind, by rw [mm_ph_lt ha, hyC]; exact hrv, fun U hU hWU => by
                        have := mm_pre (vs := (st.take (ax.getD 1 0)).reverse) hCt hW hS hsz hU hWU
                        rw [hvs] at this ⊢
                        exact this⟩
                    have hres : va_Run p l e R s m args below meth c H locs cells slots mc2 ms2 (F0 m pc ls (st.map (mm_rv (mm_ph B od)))) ((st.drop (ax.getD 1 0)).map (mm_rv (mm_ph B od))) (mm_Qc B od D dA xs r1 h1 (Value.ref (mm_ph B od a) :: ((st.take (ax.getD 1 0 - 1)).reverse).map (mm_rv (mm_ph B od))).toArray) (mm_A B) := va_runV hfix hM ⟨callB_of (ax.getD 1 0 - 1) hts hgood rfl rfl rfl hini (lk hlink) ⟨hymh.1, hymh.2, hnp⟩ hR9, lin hin9, hsel⟩ hpre rfl hlen9 hl.1 hstk hroom hdec hfit
                    rw [hvs]
                    exact hres
              · -- a constructor
                rename_i ix
                simp only [Bool.and_eq_true, decide_eq_true_eq] at hrest
                obtain ⟨⟨⟨⟨⟨hnp1, hnz⟩, hy1⟩, hret0⟩, hin9⟩, hlink⟩ := hrest
                have hy1 := hini2 hy1
                have hpos : 0 < ax.getD 1 0 := by omega
                have hnp : (parseMethodDescriptor y.desc).map (fun d => d.parameters.length) = some (ax.getD 1 0 - 1) := by rw [hnp2]; congr 1; omega
                subst hret0
                obtain ⟨ci, hci⟩ : ∃ ci, ax.getD 2 0 = ci + 1 := ⟨ax.getD 2 0 - 1, by omega⟩
                obtain ⟨a, c0, hsta, hca, hc0⟩ := hrecv ci hci
                have htk := mm_take hpos hsta
                have hvs : (st.take (ax.getD 1 0)).reverse = .ref a :: (st.take (ax.getD 1 0 - 1)).reverse := by rw [htk, List.reverse_append]; rfl
                have hstk : st.map (mm_rv (mm_ph B od)) = (((st.take (ax.getD 1 0 - 1)).reverse).map (mm_rv (mm_ph B od))).reverse ++ .ref (mm_ph B od a) :: (st.drop (ax.getD 1 0)).map (mm_rv (mm_ph B od)) := by
                  rw [List.map_reverse, List.reverse_reverse]
                  conv => lhs; rw [← List.take_append_drop (ax.getD 1 0) st, htk]
                  simp [mm_rv]
                have hlen9 : (((st.take (ax.getD 1 0 - 1)).reverse).map (mm_rv (mm_ph B od))).length = ax.getD 1 0 - 1 := by
                  rw [List.length_map, List.length_reverse, List.length_take, Nat.min_eq_left (by omega)]
                have hpre : PreS s H (mm_Pc B od D dA Lx xs (st.take (ax.getD 1 0)).reverse h) (.ref (mm_ph B od a) :: ((st.take (ax.getD 1 0 - 1)).reverse).map (mm_rv (mm_ph B od))) :=
                  ⟨mm_blind, fun U hU hWU => by
                    have := mm_pre (vs := (st.take (ax.getD 1 0)).reverse) hCt hW hS hsz hU hWU
                    rw [hvs] at this ⊢
                    exact this⟩
                have hres : va_Run p l e R s m args below meth c H locs cells slots mc2 ms2 (F0 m pc ls (st.map (mm_rv (mm_ph B od)))) ((st.drop (ax.getD 1 0)).map (mm_rv (mm_ph B od))) (mm_Qc B od D dA xs r1 h1 (Value.ref (mm_ph B od a) :: ((st.take (ax.getD 1 0 - 1)).reverse).map (mm_rv (mm_ph B od))).toArray) (mm_A B) := by
                  split at hlink
                  · exact va_runI hfix hM ⟨callB_of (ax.getD 1 0 - 1) hts hgood rfl rfl rfl hini (lk hlink) ⟨hymh.1, hymh.2, hnp⟩ hR9, hy1, lin hin9⟩ hpre rfl hlen9 hl.1 hstk hroom hdec hfit
                  · exact va_runIN hfix hM ⟨va_cnB (ax.getD 1 0 - 1) hts hgood rfl rfl rfl (ln hlink) hini ⟨hymh.1, hymh.2, hnp⟩ hR9, hy1, lin hin9⟩ hpre rfl hlen9 hl.1 hstk hroom hdec hfit
                rw [hvs]
                exact hres
              · cases hrest
            refine mm_cont hrun hS (fun H1 locs1 hW1 hS1 => ?_)
            have hpn : mm_pcs ((cd k).drop (i + 1)) = pc + 3 := by
              cases hn9 : (cd k)[i + 1]? with
              | none => rw [hn9] at hnx; cases hnx
              | some z =>
                rw [hn9] at hnx
                obtain ⟨hlt, hz9⟩ := List.getElem?_eq_some_iff.mp hn9
                rw [List.drop_eq_getElem_cons hlt, hz9]
                exact Option.some.inj hnx
            have := ih k (i + 1) L (r1.toList ++ st.drop (ax.getD 1 0)) h1 r h2 he (p := p) (e := e) (R := R) (s := s) (m := m) (args := args) (below := below) (meth := meth) (c := c) (H := H1) (locs := locs1) (cells := cells + mc2) (slots := slots + ms2) (ls := ls) (n0 := n0) (z0 := z0) (mc := mc) (ms := ms)
              (by rw [hmk]; exact ⟨hx, hb, hml, hown, hCt⟩) (by rw [hmk]; exact hret) hlk (by rw [hmk]; exact hnm) (by rw [hmk]; exact hRf) (by rw [hmk]; exact hRl) hRc hRs hW1 hS1 (by rw [hmk]; exact hl) hO hn0 (by omega) (by omega) hc2 hs2
            rw [hpn, List.map_append] at this
            have e9 : (r1.toList).map (mm_rv (mm_ph B od)) = (r1.map (mm_rv (mm_ph B od))).toList := by cases r1 <;> rfl
            rw [e9] at this
            exact this
          · cases he
        · cases he
      · -- a return
        obtain ⟨hx, hb, hml, hown, hCt⟩ := hSi
        have hh : h2 = h := mm_rt_le he
        subst hh
        have e1 : mc = cells := by omega
        have e2 : ms = slots := by omega
        subst e1; subst e2
        simp only [mm_ckr, Bool.and_eq_true, decide_eq_true_eq] at hsok
        obtain ⟨hl1, hsok⟩ := hsok
        subst hl1
        unfold mm_rt at he
        split at he
        · cases he
          rename_i hax
          split at hsok
          · simp only [Bool.and_eq_true, decide_eq_true_eq] at hsok
            exact W.vret hx hb (hret.trans hsok.2) (fun t ht hWt => ⟨rfl, by rw [ht]; exact hW, hS.F ht⟩) hS.2.2 hdec hlk
          · rw [hax] at hsok; simp at hsok
          · rw [hax] at hsok; simp at hsok
          · rw [hax] at hsok; simp at hsok
          · cases hsok
        · cases he
          rename_i v hax
          split at hsok
          · rw [hax] at hsok; simp at hsok
          · simp only [hax, Bool.or_eq_true, Bool.and_eq_true, decide_eq_true_eq] at hsok
            rcases hsok with hsok | hsok
            · exact W.iret hx hb (hret.trans hsok.2) (fun t ht hWt => ⟨rfl, by rw [ht]; exact hW, hS.F ht⟩) hS.2.2 hdec hlk
            · exact absurd hsok.1 (by decide)
          · rw [hax] at hsok; simp at hsok
          · rw [hax] at hsok; simp at hsok
          · cases hsok
        · cases he
          rename_i v hax
          split at hsok
          · rw [hax] at hsok; simp at hsok
          · simp only [hax, Bool.or_eq_true, Bool.and_eq_true, decide_eq_true_eq] at hsok
            rcases hsok with hsok | hsok
            · exact absurd hsok.1 (by decide)
            · exact mm_zret hx hb (hret.trans hsok.2) rfl (fun t ht hWt => ⟨rfl, by rw [ht]; exact hW, hS.F ht⟩) hS.2.2 hdec hlk
          · rw [hax] at hsok; simp at hsok
          · rw [hax] at hsok; simp at hsok
          · cases hsok
        · cases he
          rename_i v hax
          split at hsok
          · rw [hax] at hsok; simp at hsok
          · rw [hax] at hsok; simp at hsok
          · simp only [Bool.and_eq_true, decide_eq_true_eq] at hsok
            exact W.lret hx hb (hret.trans hsok.2) (fun t ht hWt => ⟨rfl, by rw [ht]; exact hW, hS.F ht⟩) hS.2.2 hdec hlk
          · rw [hax] at hsok; simp at hsok
          · cases hsok
        · cases he
          rename_i v hax
          split at hsok
          · rw [hax] at hsok; simp at hsok
          · rw [hax] at hsok; simp at hsok
          · rw [hax] at hsok; simp at hsok
          · simp only [Bool.and_eq_true, decide_eq_true_eq] at hsok
            exact W.aret hx hb (hret.trans hsok.2) (Or.inr ⟨_, rfl⟩) (Or.inr ⟨_, rfl⟩) (fun t ht hWt => ⟨rfl, by rw [ht]; exact hW, hS.F ht⟩) hS.2.2 hdec hlk
          · cases hsok
        · cases he
      · cases he

end Step
