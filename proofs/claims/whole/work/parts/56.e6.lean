/-! the start: what the tables say, the first picture -/
theorem ar_prim {s : State} {args : Array Value} {ty : FieldType} (h : (Cond.arrayClass ty).before args s = true) : ∃ cA, ArrOfT s cA ty ∧ s.vm.findClass ("[" ++ ty.toString) = some cA := by
  obtain ⟨c, k, comp, h1, h2, h3⟩ := Cond.arrayClass_spec h
  exact ⟨c, fun N z => ⟨fun k h => (by cases h), k, h2, comp, h3⟩, h1⟩
theorem ar_obj {s : State} {C : String} (h : va_AO C s) : ∃ cA, ArrOfT s cA (.object C) ∧ va_RA s cA (.object C) := by
  obtain ⟨comp, c, k, h1, h2, h3, h4, h5⟩ := Cond.arrayOver_spec h
  exact ⟨c, fun N z => ⟨fun k h => (by cases h), k, h3, comp, h4⟩, k, comp, h3, h4, h1, h5⟩
theorem mcl_known {s : State} {args : Array Value} (hts : ∀ w ∈ lw_tbl, w.before args s = true) : ∀ (c : Nat) (q : vw_C), mcl[c]? = some q → ∃ (cC : ClassId) (iS : Nat → Nat), u_Kn s q.1 q.2.1 q.2.2 cC iS := by
  have hm : ∀ w ∈ mWS, w.before args s = true := fun w hw => hts w (List.mem_filter.mp hw).1
  intro c q hq
  have hc : c < 7 := (List.getElem?_eq_some_iff.mp hq).1
  have : c = 0 ∨ c = 1 ∨ c = 2 ∨ c = 3 ∨ c = 4 ∨ c = 5 ∨ c = 6 := by omega
  rcases this with rfl | rfl | rfl | rfl | rfl | rfl | rfl
  · rw [← Option.some.inj hq]; exact u_known hm ly_H (hts (.instantiable "ResurrectingHeap" 7) (by decide +kernel))
  · rw [← Option.some.inj hq]; exact u_known hm ly_N (hts (.instantiable "ResurrectingHeap$Numeral" 1) (by decide +kernel))
  · rw [← Option.some.inj hq]; exact u_known hm ly_V (hts (.instantiable "ResurrectingHeap$Vector" 7) (by decide +kernel))
  · rw [← Option.some.inj hq]; exact u_known hm ly_K (hts (.instantiable "ResurrectingHeap$Weak" 7) (by decide +kernel))
  · rw [← Option.some.inj hq]; exact u_known hm ly_T (hts (.instantiable "ResurrectingHeap$Table" 9) (by decide +kernel))
  · rw [← Option.some.inj hq]; exact u_known hm ly_R (hts (.instantiable "ResurrectingHeap$Row" 2) (by decide +kernel))
  · rw [← Option.some.inj hq]; exact u_known hm ly_M (hts (.instantiable "ResurrectingHeapModel" 18) (by decide +kernel))
theorem nc_in : ∀ q ∈ mNC, Cond.not (.castable q.1 q.2) ∈ flatC (Jvm.Cond.and given_1 narrow_1) := by decide +kernel
theorem start_K {s : State} {args : Array Value} (hts : ∀ w ∈ lw_tbl, w.before args s = true) (hgv : (Jvm.Cond.and given_1 narrow_1).before args s = true) : ∃ (D : va_G) (AT : Nat → ClassId), K0 (s, D, AT, s.heap.size) ∧ KW (s, D, AT, s.heap.size) s := by
  have hk := mcl_known hts
  have hk2 : ∀ c : Nat, ∃ D : ClassId × (Nat → Nat), ∀ q : vw_C, mcl[c]? = some q → u_Kn s q.1 q.2.1 q.2.2 D.1 D.2 := fun c => by
    cases hc : mcl[c]? with
    | none => exact ⟨(0, fun _ => 0), fun q hq => by cases hq⟩
    | some r =>
      obtain ⟨cC, iS, h⟩ := hk c r hc
      exact ⟨(cC, iS), fun q hq => by rw [← Option.some.inj hq]; exact h⟩
  have aT : va_AO mThing s := va_AO.of (hts (.arrayOver (.object "ResurrectingHeap$Thing")) (by decide +kernel))
  have aV : va_AO mValue s := va_AO.of (hts (.arrayOver (.object "ResurrectingHeap$Value")) (by decide +kernel))
  obtain ⟨a0, p0, q0⟩ := ar_prim (hts (.arrayClass .int) (by decide +kernel))
  obtain ⟨a1, p1, q1⟩ := ar_prim (hts (.arrayClass .boolean) (by decide +kernel))
  obtain ⟨a2, p2, q2⟩ := ar_obj aT
  obtain ⟨a3, p3, q3⟩ := ar_obj aV
  refine ⟨(fun c => (Classical.choose (hk2 c)).1, fun c => (Classical.choose (hk2 c)).2), fun j => match j with
    | 0 => a0
    | 1 => a1
    | 2 => a2
    | _ => a3, ⟨fun c q hq => Classical.choose_spec (hk2 c) q hq, fun k q hq => ?_⟩, fun w hw => va_Nw.of (stab_tab (List.mem_filter.mp hw).2) (hts w (List.mem_filter.mp hw).1), Vm.Alike.refl _, fun q hq => va_Nc.of (flat_of_before _ hgv _ (nc_in q hq)), fun E hE => ?_⟩
  · have hl : k < 4 := (List.getElem?_eq_some_iff.mp hq).1
    have : k = 0 ∨ k = 1 ∨ k = 2 ∨ k = 3 := by omega
    rcases this with rfl | rfl | rfl | rfl
    · rw [← Option.some.inj hq]; exact ⟨p0, q0⟩
    · rw [← Option.some.inj hq]; exact ⟨p1, q1⟩
    · rw [← Option.some.inj hq]; exact ⟨p2, q2⟩
    · rw [← Option.some.inj hq]; exact ⟨p3, q3⟩
  · rcases List.mem_cons.mp hE with rfl | hE
    · exact aT
    · rw [List.mem_singleton.mp hE]; exact aV
/-- the first picture: the script alone -/
def S00 (z b L : Nat) (xs : Nat → Int32) : MS := (z, 0, fun a => if a = b then 30 else 0, fun a => if a = b then (L : Int) else 0, fun a k => if a = b then .inl (xs k.toNat).toInt else .inl 0)
theorem S00_rel {s : State} {D : va_G} {AT : Nat → ClassId} {b L : Nat} {xs : Nat → Int32} (hL : L ≤ 2048) (hX : va_X b L xs s s.heap) : Rel (s, D, AT, s.heap.size) (S00 s.heap.size b L xs) s.heap := by
  refine ⟨rfl, fun a k => ?_, fun a ha => ?_, fun a => ?_, Nat.le_refl _⟩
  · show okV (if a = b then .inl (xs k.toNat).toInt else .inl 0)
    split
    · exact ⟨Int32.le_toInt _, Int32.toInt_lt _⟩
    · exact ⟨by decide, by decide⟩
  · have hab : a = b := by
      by_cases e : a = b
      · exact e
      · exact absurd (if_neg e) ha
    subst hab
    obtain ⟨scr, h1, h2, h3, h4, h5⟩ := hX
    refine Or.inr (Or.inr ⟨L, if_pos rfl, if_pos rfl, scr, h1, h2, h3, h4, fun j hj => ?_⟩)
    rw [h5 j hj]
    show _ = some (cv (if a = a then .inl (xs (j : Int).toNat).toInt else .inl 0))
    rw [if_pos rfl]
    show _ = some (Value.int (Int32.ofInt (xs (j : Int).toNat).toInt))
    rw [Int32.ofInt_toInt]
    rfl
  · show inR (if a = b then (L : Int) else 0)
    split
    · exact ⟨by omega, by omega⟩
    · exact ⟨by decide, by decide⟩
theorem S00_law {z b L : Nat} {xs : Nat → Int32} (hL : L ≤ 2048) (hb : b < z) : XQ 7 k_L_law 0 (mentry (mL k_L_law) [.inr (some b)]) [] (S00 z b L xs) (fun r S' => r = some (.inl 1) ∧ zS S' ≤ z + 1558 ∧ qS S' ≤ 15797) := by
  have hs : SX b (L : Int) (fun i => (xs i.toNat).toInt) (S00 z b L xs) := ⟨if_pos rfl, if_pos rfl, fun i _ _ => if_pos rfl⟩
  refine (law_run hs hb (fun a ha => if_neg (show a ≠ b by have ha : z ≤ a := ha; omega)) (by omega) (by omega)).mono (fun v S' h => ⟨h.1, h.2.1, ?_⟩)
  have := h.2.2
  show qS S' ≤ 15797
  have e : qS (S00 z b L xs) = 0 := rfl
  omega
