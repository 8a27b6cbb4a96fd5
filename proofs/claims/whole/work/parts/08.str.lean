section Step
variable {p : Program} {l : Launch} {e : Env} {R : Room} {s : State} {m : MethodId} {args : Array Value} {below : List Frame} {meth : Method} {c : Code} {H : Heap} {locs : List Loc} {cells slots : Nat} {Q : State → Prop}
variable {cc : ByteArray} {B : Nat} {od : Nat → Nat} {D : va_G} {dA : Nat → ClassId} {Lx : Nat} {xs : Nat → Int32} {own : String} {nL : Nat} {ini : Bool}
/-- a text's length, a char of it -/
theorem mm_stepS {pc len n0 z0 : Nat} {ins : Instr} {ax : List Nat} {ls : Array Slot} {L L2 : mm_L} {st st2 : List Value} {h h2 : mm_H} {j : Option Nat} {c2 s2 : Nat}
    {mt : Nat → mm_M} {nt : Nat → Option (List Nat)} {o : Nat} (hNt : mm_Nt mt nt) (S : mm_Si B od D dA Lx xs p s m args c cc nL (mm_cn o)) (hd : decode cc pc = .ok (ins, len)) (hk : mm_cks nt o R.frames R.locals ins len ax = true)
    (he : mm_stp Lx ins ax L st h = some (j, L2, st2, h2)) (hW : mm_Wd B od D dA xs h H) (hS : va_S (mm_A B) s.heap H locs) (hl : mm_lR (mm_ph B od) L ls nL) (hO : mm_okL L)
    (hn0 : s.heap.size = B + n0) (hc1 : cells + n0 = h.1.length) (hc2 : c2 + n0 = h2.1.length) (hs1 : slots + z0 = mm_sl h) (hs2 : s2 + z0 = mm_sl h2) (hrc : c2 ≤ R.cells) (hrs : s2 ≤ R.slots)
    (kk : ∀ (H2 : Heap) (locs2 : List Loc) (ls2 : Array Slot), mm_Wd B od D dA xs h2 H2 → va_S (mm_A B) s.heap H2 locs2 → mm_lR (mm_ph B od) L2 ls2 nL → mm_okL L2 → W p l e R s m args below meth c H2 locs2 c2 s2 Q (F0 m (mm_npc j pc len ax) ls2 (st2.map (mm_rv (mm_ph B od))))) :
    W p l e R s m args below meth c H locs cells slots Q (F0 m pc ls (st.map (mm_rv (mm_ph B od)))) := by
  sorry
end Step
