/-! words -/
abbrev Isw (T : List Nat) (t : Nat × Nat × Nat × Nat) (w : List Nat) : Prop := t.2.2.1 = 1 ∧ t.2.1 - t.1 = w.length ∧ ∀ i, i < w.length → T.getD (t.1 + i) 0 = w.getD i 0
/-- what holds of every token -/
theorem tk_in {T : List Nat} {a : Nat} (ha : a ≤ T.length) : a ≤ (tk T a).1 ∧ (tk T a).1 ≤ (tk T a).2.1 ∧ (tk T a).2.1 ≤ T.length ∧ (tk T a).2.2.1 ≤ 4 ∧ (¬ (tk T a).2.2.1 = 0 → (tk T a).1 < (tk T a).2.1) := by
  have h1 := nx_le wsp T 300 a
  have h2 := h1.2 ha
  unfold tk
  generalize nx wsp T 300 a = s at *
  have h3 := nx_le ltr T 300 s
  have h4 := nx_le dgt T 300 s
  by_cases c0 : T.length ≤ s
  · rw [if_pos c0]; exact ⟨h1.1, Nat.le_refl _, h2, by show 0 ≤ 4; omega, fun e => absurd rfl e⟩
  · rw [if_neg c0]
    have c0' : s < T.length := by omega
    by_cases c1 : ltr (T.getD s 0) = true
    · rw [if_pos c1]; exact ⟨h1.1, h3.1, h3.2 h2, by show 1 ≤ 4; omega, fun _ => nx_lt c0' c1⟩
    · rw [if_neg c1]
      by_cases c2 : dgt (T.getD s 0) = true
      · rw [if_pos c2]; exact ⟨h1.1, h4.1, h4.2 h2, by show 2 ≤ 4; omega, fun _ => nx_lt c0' c2⟩
      · rw [if_neg c2]
        split
        · exact ⟨h1.1, by show s ≤ s + 1; omega, by show s + 1 ≤ T.length; omega, by show 3 ≤ 4; omega, fun _ => by show s < s + 1; omega⟩
        · exact ⟨h1.1, by show s ≤ s + 1; omega, by show s + 1 ≤ T.length; omega, by show 4 ≤ 4; omega, fun _ => by show s < s + 1; omega⟩
def Wok (p : Nat) : Prop := (mm_tx p).length ≤ 20 ∧ ∀ i, i < (mm_tx p).length → (mm_tx p).getD i 0 < 128
theorem re_word {g : M2} {T : List Nat} {t : Nat × Nat × Nat × Nat} (hT : TP g T) (h3 : T.length ≤ 300) (hb : ∀ x ∈ T, x < 256) (hk : TkC g t) (t1 : t.1 ≤ t.2.1) (t2 : t.2.1 ≤ T.length) (t3 : t.2.2.1 ≤ 4) {p : Nat} (hp : Wok p) : Ok (f_Re_isWord p g) (fun v => v = if Isw T t (mm_tx p) then 1 else 0) := by
  obtain ⟨k1, k2, k3, k4⟩ := hk
  obtain ⟨p1, p2⟩ := hp
  unfold f_Re_isWord
  rw [k1, k2, k3, cI_sub t1]
  refine ok_if (fun c => ?_) (fun c => ok_some (by rw [if_neg (fun e => c (by rw [e.1]; rfl))]))
  have c1 : t.2.2.1 = 1 := (cI_inj (b := 1) (by omega) (by decide)).mp c
  refine ok_if (fun d => ?_) (fun d => ok_some (by rw [if_neg (fun e => d (by rw [e.2.1]; rfl))]))
  have d1 : t.2.1 - t.1 = (mm_tx p).length := (cI_inj (b := (mm_tx p).length) (by omega) (by omega)).mp d
  refine ok_bindm (Q := fun u => Sum.elim (fun _ => Isw T t (mm_tx p)) (fun v => v = 0 ∧ ¬ Isw T t (mm_tx p)) u) ?_ (fun u hu => ?_)
  · refine ok_lp (fun j s => s = cI (t.1 + j) ∧ ∀ i, i < j → T.getD (t.1 + i) 0 = (mm_tx p).getD i 0) (mm_tx p).length 5000 0 _ (by omega) (by omega) ⟨rfl, fun i hi => absurd hi (by omega)⟩ ?_
    rintro j s hj ⟨rfl, hm⟩
    show Ok (b_Re_isWord_17 p (cI (t.1 + j)) g) _
    unfold b_Re_isWord_17
    rw [k1, k2]
    by_cases hj2 : j = (mm_tx p).length
    · refine ok_pos (le_yes (by omega) (by omega)) (ok_some ?_)
      exact ⟨c1, d1, fun i hi => hm i (by omega)⟩
    · have hj' : j < (mm_tx p).length := by omega
      have hl : t.1 + j < T.length := by omega
      refine ok_neg (le_no (by omega) (by omega)) (ok_pos (inb_cI (by omega) (by decide)) ?_)
      rw [cI_sub (by omega), show t.1 + j - t.1 = j by omega, tpn hT h3 hl]
      have e1 : nI ((mm_tx p).getD (cI j).toNatClampNeg 0) = cI ((mm_tx p).getD j 0) := by rw [cI_nat (by omega)]; rfl
      rw [e1]
      have hc := byt hb hl
      have hc2 := p2 j hj'
      refine ok_pos (inb_cI hj' (by omega)) (ok_if (fun c3 => ok_some ⟨hj', c_succ _, fun i hi => ?_⟩) (fun c3 => ok_some ⟨rfl, fun e => c3 (by rw [e.2.2 j hj'])⟩))
      by_cases hij : i = j
      · rw [hij]; exact (cI_inj (by omega) (by omega)).mp c3
      · exact hm i (by omega)
  · cases u with
    | inl u => exact ok_some (by rw [if_pos (show Isw T t (mm_tx p) from hu)])
    | inr u => exact ok_some (by rw [if_neg hu.2]; exact hu.1)
theorem by128 : ∀ c : Nat, c < 256 → ∀ e : Nat, e < 128 → ((cI c).toInt8.toInt32 = cI e ↔ c = e) := by decide +kernel
theorem mo_word0 {g : M2} (hbad : ¬ g.1 157 28 = 0) (p : Nat) : f_Mo_is p g = some 0 := by
  have e0 : j_Mo_is_17 p g = some 0 := by
    unfold j_Mo_is_17 j_Mo_is_19
    have e : lp (fun s => b_Mo_is_21 p s.1 s.2 g) 5000 ((0 : Int32), (0 : Int32)) = some 0 := by
      have h : Ok (lp (fun s => b_Mo_is_21 p s.1 s.2 g) 5000 ((0 : Int32), (0 : Int32))) (fun r => r = 0) := by
        refine ok_lpO (n := 4999) ?_
        show Ok (b_Mo_is_21 p 0 0 g) _
        unfold b_Mo_is_21
        exact ok_if (fun _ => ok_some rfl) (fun _ => ok_pos rfl (ok_some rfl))
      obtain ⟨r, e, h⟩ := h
      rw [e, h]
    rw [e]; rfl
  unfold f_Mo_is f_Mo_good
  rw [if_neg hbad, if_pos rfl]
  exact e0
theorem mo_word {g : M2} {T : List Nat} {t : Nat × Nat × Nat × Nat} (hgood : g.1 157 28 = 0) (hT : TM g T) (h3 : T.length ≤ 300) (hb : ∀ x ∈ T, x < 256) (hk : TkM g t) (t1 : t.1 ≤ t.2.1) (t2 : t.2.1 ≤ T.length) (t3 : t.2.2.1 ≤ 4) {p : Nat} (hp : Wok p) : Ok (f_Mo_is p g) (fun v => v = if Isw T t (mm_tx p) then 1 else 0) := by
  obtain ⟨k1, k2, k3, k4⟩ := hk
  obtain ⟨p1, p2⟩ := hp
  have no : ¬ Isw T t (mm_tx p) → Ok (j_Mo_is_17 p g) (fun v => v = if Isw T t (mm_tx p) then 1 else 0) := by
    intro hn
    rw [if_neg hn]
    unfold j_Mo_is_17 j_Mo_is_19
    refine ok_bindm (Q := fun r => r = 0) ?_ (fun r hr => ok_some (by rw [hr]; rfl))
    refine ok_lpO (n := 4999) ?_
    show Ok (b_Mo_is_21 p 0 0 g) _
    unfold b_Mo_is_21
    exact ok_if (fun _ => ok_some rfl) (fun _ => ok_pos rfl (ok_some rfl))
  unfold f_Mo_is f_Mo_good
  rw [hgood, k1, k2, k3, cI_sub t1]
  refine ok_neg (by decide) (ok_if (fun c => ?_) (fun c => no (fun e => c (by rw [e.1]; rfl))))
  have c1 : t.2.2.1 = 1 := (cI_inj (b := 1) (by omega) (by decide)).mp c
  refine ok_if (fun d => ?_) (fun d => no (fun e => d (by rw [e.2.1]; rfl)))
  have d1 : t.2.1 - t.1 = (mm_tx p).length := (cI_inj (b := (mm_tx p).length) (by omega) (by omega)).mp d
  unfold j_Mo_is_19
  refine ok_bindm (Q := fun v => v = if Isw T t (mm_tx p) then 1 else 0) ?_ (fun v hv => ok_some (by rw [hv]; split <;> rfl))
  refine ok_lp (fun j s => s.2 = cI j ∧ (s.1 = 1 ∧ (∀ i, i < j → T.getD (t.1 + i) 0 = (mm_tx p).getD i 0) ∨ s.1 = 0 ∧ ¬ Isw T t (mm_tx p))) (mm_tx p).length 5000 0 _ (by omega) (by omega) ⟨rfl, Or.inl ⟨rfl, fun i hi => absurd hi (by omega)⟩⟩ ?_
  rintro j ⟨v, s⟩ hj ⟨h1, hm⟩
  simp only at h1 hm
  subst h1
  show Ok (b_Mo_is_21 p v (cI j) g) _
  unfold b_Mo_is_21
  rw [k1]
  by_cases hj2 : j = (mm_tx p).length
  · refine ok_pos (le_yes (a := (mm_tx p).length) (by omega) (by omega)) (ok_some ?_)
    show v = _
    rcases hm with ⟨e, hm⟩ | ⟨e, hm⟩
    · rw [if_pos ⟨c1, d1, fun i hi => hm i (by omega)⟩]; exact e
    · rw [if_neg hm]; exact e
  · have hj' : j < (mm_tx p).length := by omega
    have hl : t.1 + j < T.length := by omega
    refine ok_neg (le_no (a := (mm_tx p).length) hj' (by omega)) ?_
    rcases hm with ⟨e, hm⟩ | ⟨e, hm⟩
    · refine ok_neg (by rw [e]; decide) ?_
      rw [cI_add]
      refine ok_pos (inb_cI (by omega) (by decide)) (ok_pos (inb_cI hj' (by omega)) ?_)
      rw [cI_nat (by omega), hT.2 _ hl]
      have e1 : nI ((mm_tx p).getD (cI j).toNatClampNeg 0) = cI ((mm_tx p).getD j 0) := by rw [cI_nat (by omega)]; rfl
      rw [e1]
      have hc := byt hb hl
      have hc2 := p2 j hj'
      refine ok_if (fun c3 => ok_some ⟨hj', c_succ _, Or.inl ⟨rfl, fun i hi => ?_⟩⟩) (fun c3 => ok_some ⟨hj', c_succ _, Or.inr ⟨rfl, fun e => c3 ((by128 _ hc _ hc2).mpr (e.2.2 j hj'))⟩⟩)
      by_cases hij : i = j
      · rw [hij]; exact (by128 _ hc _ hc2).mp c3
      · exact hm i (by omega)
    · exact ok_pos e (ok_some (by show v = _; rw [if_neg hm]; exact e))
theorem wok3 : Wok 1003 := ⟨by decide, by decide⟩
theorem wok4 : Wok 1004 := ⟨by decide, by decide⟩
theorem wok5 : Wok 1005 := ⟨by decide, by decide⟩
theorem wok6 : Wok 1006 := ⟨by decide, by decide⟩
theorem wok7 : Wok 1007 := ⟨by decide, by decide⟩
theorem wok8 : Wok 1008 := ⟨by decide, by decide⟩
