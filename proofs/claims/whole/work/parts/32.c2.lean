/-! how the picture of the class moves when cells or rows change -/
theorem aCells_off {R : List Nat} {M M' : MM} (ho : offS R M M') (h3 : R.contains 3 = false) (h4 : R.contains 4 = false) (o : Int) : aCells M' o = aCells M o := by
  unfold aCells; rw [ho 3 o h3, ho 4 o h4]
theorem aCb_off {R : List Nat} {M M' : MM} (ho : offS R M M') (h3 : R.contains 3 = false) (h4 : R.contains 4 = false) : ∀ k, aCb M' k = aCb M k
  | 0 => rfl
  | k + 1 => by unfold aCb; rw [aCb_off ho h3 h4 k, aCells_off ho h3 h4]
theorem aUsed_off {R : List Nat} {M M' : MM} (ho : offS R M M') (h3 : R.contains 3 = false) (h4 : R.contains 4 = false) (h13 : R.contains 13 = false) : aUsed M' = aUsed M := by
  unfold aUsed; rw [ho 13 0 h13, aCb_off ho h3 h4]
theorem aIn_off {R : List Nat} {M M' : MM} (ho : offS R M M') {j : Nat} (hj : R.contains j = false) (h : Int) : ∀ q, aIn M' j h q = aIn M j h q
  | 0 => rfl
  | q + 1 => by unfold aIn; rw [ho j _ hj, aIn_off ho hj h q]
theorem live_off {R : List Nat} {M M' : MM} (ho : offS R M M') (h2 : R.contains 2 = false) (h0 : M' 13 0 = M 13 0) {h : Int} (hl : live M h) : live M' h := by
  obtain ⟨o, a, b, c⟩ := hl
  exact ⟨o, a, by rw [h0]; exact b, by rw [ho 2 o h2]; exact c⟩
theorem OKV_off {R : List Nat} {M M' : MM} (ho : offS R M M') (h2 : R.contains 2 = false) (h0 : M' 13 0 = M 13 0) {is has : Int} (h : OKV M is has) : OKV M' is has := by
  rcases h with h | h | h
  · exact Or.inl h
  · exact Or.inr (Or.inl h)
  · exact Or.inr (Or.inr ⟨h.1, live_off ho h2 h0 h.2⟩)
theorem aHold_off (M : MM) (v a b : Int) : offS [0, 1] M (aHold M v a b) := (offS.rf.u rfl _ _).u rfl _ _
theorem aHold_v (M : MM) (v a b w : Int) : aHold M v a b 0 w = (if w = v then a else M 0 w) ∧ aHold M v a b 1 w = (if w = v then b else M 1 w) := by
  unfold aHold
  by_cases h : w = v
  · subst h
    rw [if_pos rfl, if_pos rfl, u2_s]
    exact ⟨(u2_n _ _ (Or.inl (by decide))).trans (u2_s _ _ _ _), rfl⟩
  · rw [if_neg h, if_neg h]
    exact ⟨(u2_n _ _ (Or.inl (by decide))).trans (u2_n _ _ (Or.inr h)), (u2_n _ _ (Or.inr h)).trans (u2_n _ _ (Or.inl (by decide)))⟩
theorem WF.hold {M : MM} (h : WF M) {v a b : Int} (hv : OKV M a b) : WF (aHold M v a b) := by
  obtain ⟨h1, h2, h3, h4, h5, h6, h7, h8⟩ := h
  have ho := aHold_off M v a b
  have e13 := fun q => ho 13 q rfl
  have ok := fun {is has : Int} (z : OKV M is has) => OKV_off ho rfl (e13 0) z
  have lv := fun {h : Int} (z : live M h) => live_off ho rfl (e13 0) z
  refine ⟨h1.offS ho rfl rfl rfl, ?_, ?_, ?_, ?_, ?_, ?_, by rw [aUsed_off ho rfl rfl rfl]; exact h8⟩
  · unfold wN
    rw [e13 0, e13 1]
    exact ⟨fun o o' a b c => by rw [ho 2 o rfl, ho 2 o' rfl]; exact h2.1 o o' a b c, fun o a b => by rw [ho 2 o rfl]; exact h2.2 o a b⟩
  · intro w w0 w5
    rw [(aHold_v M v a b w).1, (aHold_v M v a b w).2]
    split
    · exact ok hv
    · exact ok (h3 w w0 w5)
  · intro o f a1 a2 a3 a4
    rw [e13 0] at a2
    rw [ho 4 o rfl] at a4
    rw [ho 5 _ rfl, ho 6 _ rfl, ho 3 o rfl, ho 7 _ rfl]
    obtain ⟨z1, z2, z3⟩ := h4 o f a1 a2 a3 a4
    exact ⟨ok z1, z2, fun z => lv (z3 z)⟩
  · intro o a1 a2
    rw [e13 0] at a2
    rw [ho 3 o rfl, ho 4 o rfl]
    exact h5 o a1 a2
  · intro o f f' a1 a2 a3 a4 a5 a6
    rw [e13 0] at a2
    rw [ho 3 o rfl] at a3
    rw [ho 4 o rfl] at a6
    rw [ho 7 _ rfl, ho 7 _ rfl]
    exact h6 o f f' a1 a2 a3 a4 a5 a6
  · unfold wR
    rw [e13 2, e13 3]
    refine ⟨fun q a b => ?_, fun q a b => ?_, fun q q' a b c => ?_, fun q q' a b c => ?_, fun q q' a b c e => ?_⟩
    · rw [ho 9 q rfl]; exact lv (h7.1 q a b)
    · rw [ho 11 q rfl]; exact lv (h7.2.1 q a b)
    · rw [ho 9 q rfl, ho 9 q' rfl]; exact h7.2.2.1 q q' a b c
    · rw [ho 11 q rfl, ho 11 q' rfl]; exact h7.2.2.2.1 q q' a b c
    · rw [ho 9 q rfl, ho 11 q' rfl]; exact h7.2.2.2.2 q q' a b c e
section MV2
variable {x : Nat} {S S' : MS} {A : Int → Nat} {M M' : MM}
/-- which cells behind the fixed ones may differ: places, marks, tags of things -/
def AgO (x : Nat) (S S' : MS) : Prop := (∀ b, tS S b ≠ 0 → tS S' b = tS S b ∧ lS S' b = lS S b) ∧ ∀ b j, x + 22 ≤ b → tS S b ≠ 0 → ¬ (TG S b ∧ 2 ≤ j ∧ j ≤ 5) → vS S' b j = vS S b j
theorem AgO.rf : AgO x S S := ⟨fun _ _ => ⟨rfl, rfl⟩, fun _ _ _ _ _ => rfl⟩
theorem VR.tr {r : Option Nat} {is has : Int} (h : VR x S A r is has) (hA : AgO x S S') : VR x S' A r is has := by
  rcases h with h | ⟨h, a, h2, h3, h4, h5⟩ | h
  · exact Or.inl h
  · refine Or.inr (Or.inl ⟨h, a, h2, h3, ?_, ?_⟩)
    · rw [(hA.1 a (by omega)).1]; exact h4
    · rw [hA.2 a 0 h3 (by omega) (fun z => by omega)]; exact h5
  · exact Or.inr (Or.inr h)
theorem TG.tr {a : Nat} (h : TG S a) (hA : AgO x S S') : TG S' a := by
  have h0 : tS S a ≠ 0 := by rcases h with h | h | h <;> omega
  unfold TG
  rw [(hA.1 a h0).1]
  exact h
/-- rows agree at an object -/
def EqO (M M' : MM) (o : Int) : Prop := M' 2 o = M 2 o ∧ M' 3 o = M 3 o ∧ M' 4 o = M 4 o ∧ ∀ f, 0 ≤ f → f < 4 → M' 5 (4 * o + f) = M 5 (4 * o + f) ∧ M' 6 (4 * o + f) = M 6 (4 * o + f) ∧ M' 7 (4 * o + f) = M 7 (4 * o + f)
theorem EqO.of {R : List Nat} (ho : offS R M M') (h2 : R.contains 2 = false) (h3 : R.contains 3 = false) (h4 : R.contains 4 = false) (h5 : R.contains 5 = false) (h6 : R.contains 6 = false) (h7 : R.contains 7 = false) (o : Int) : EqO M M' o := ⟨ho 2 o h2, ho 3 o h3, ho 4 o h4, fun f _ _ => ⟨ho 5 _ h5, ho 6 _ h6, ho 7 _ h7⟩⟩
theorem cObj.tr {o : Int} (h : cObj x S A M o) (hA : AgO x S S') (he : EqO M M' o) (hm : M 4 o ≤ 4) : cObj x S' A M' o := by
  obtain ⟨e2, e3, e4, e5⟩ := he
  have htg := h.tg
  have h0 : tS S (A (M 2 o)) ≠ 0 := by rcases htg with h | h | h <;> omega
  obtain ⟨g1, g2, g3, g4⟩ := h
  have ec : aCells M' o = aCells M o := by unfold aCells; rw [e3, e4]
  unfold cObj
  rw [e2, e3, e4, ec]
  have v := fun j hj => hA.2 (A (M 2 o)) j g1 h0 hj
  have t0 := (hA.1 _ h0).1
  refine ⟨g1, by rw [v 0 (fun z => by omega)]; exact g2, by rw [v 1 (fun z => by omega)]; exact g3, ?_⟩
  rw [t0]
  rcases g4 with ⟨z1, z2, z3, z4, z5, z6⟩ | ⟨z1, z2, r, z3, z4⟩ | ⟨z1, z2, z3, z4, z5, z6, z7, z8, z9, z10⟩
  · have q1 := hA.1 (A (M 2 o) + 1) (by omega)
    refine Or.inl ⟨z1, z2, by rw [v 6 (fun z => by omega)]; exact z3, by rw [q1.1]; exact z4, by rw [q1.2]; exact z5, fun f f0 f1 => ?_⟩
    obtain ⟨r, y1, y2⟩ := z6 f f0 f1
    obtain ⟨w5, w6, -⟩ := e5 f f0 (by omega)
    refine ⟨r, ?_, by rw [w5, w6]; exact y2.tr hA⟩
    rw [hA.2 _ f (by omega) (by omega) (fun z => by rcases z.1 with y | y | y <;> omega)]; exact y1
  · obtain ⟨w5, w6, -⟩ := e5 0 (by omega) (by omega)
    rw [Int.add_zero] at w5 w6
    exact Or.inr (Or.inl ⟨z1, z2, r, by rw [v 6 (fun z => by omega)]; exact z3, by rw [w5, w6]; exact z4.tr hA⟩)
  · have q1 := hA.1 (A (M 2 o) + 1) (by omega)
    have q2 := hA.1 (A (M 2 o) + 2) (by omega)
    refine Or.inr (Or.inr ⟨z1, z2, by rw [v 6 (fun z => by omega)]; exact z3, by rw [v 7 (fun z => by omega)]; exact z4, by rw [v 8 (fun z => by omega)]; exact z5, by rw [q1.1]; exact z6, by rw [q1.2]; exact z7, by rw [q2.1]; exact z8, by rw [q2.2]; exact z9, fun f f0 f1 => ?_⟩)
    obtain ⟨y0, r, y1, y2⟩ := z10 f f0 f1
    obtain ⟨w5, w6, w7⟩ := e5 f f0 (by omega)
    refine ⟨?_, r, ?_, by rw [w5, w6]; exact y2.tr hA⟩
    · rw [hA.2 _ f (by omega) (by omega) (fun z => by rcases z.1 with y | y | y <;> omega), w7]; exact y0
    · rw [hA.2 _ f (by omega) (by omega) (fun z => by rcases z.1 with y | y | y <;> omega)]; exact y1
theorem cF.tr (h : cF x S) (ht : tS S' = tS S) (hl : lS S' = lS S) (hz : zS S' = zS S) (h0 : ∀ j, j ≤ 3 → vS S' x j = vS S x j) (h2 : vS S' (x + 2) 0 = vS S (x + 2) 0) (h4 : vS S' (x + 4) 0 = vS S (x + 4) 0) (h6 : vS S' (x + 6) 0 = vS S (x + 6) 0) : cF x S' := by
  unfold cF
  rw [ht, hl, hz, h0 0 (by decide), h0 1 (by decide), h0 2 (by decide), h0 3 (by decide), h2, h4, h6]
  exact h
theorem cRow.tr {rw : Nat} {n : Int} {f : Int → Nat} (h : cRow S rw n f) (h1 : vS S' rw 1 = vS S rw 1) (h2 : vS S' (rw + 1) = vS S (rw + 1)) : cRow S' rw n f := by
  unfold cRow
  rw [h1, h2]
  exact h
theorem live_ge (hO : cO x S A M) {h : Int} (hl : live M h) : x + 22 ≤ A h := by
  obtain ⟨o, g0, g1, g2⟩ := hl
  rw [← g2]
  exact (hO o g0 g1).1
theorem cTg.tr {R : List Nat} (h : cTg S A M) (hO : cO x S A M) (hw : wR M) (hv : ∀ b, x + 22 ≤ b → vS S' b 4 = vS S b 4 ∧ vS S' b 5 = vS S b 5) (ho : offS R M M') (h2 : R.contains 2 = false) (h9 : R.contains 9 = false) (h10 : R.contains 10 = false) (h11 : R.contains 11 = false) (h12 : R.contains 12 = false) (e0 : M' 13 0 = M 13 0) (e2 : M' 13 2 = M 13 2) (e3 : M' 13 3 = M 13 3) : cTg S' A M' := by
  unfold cTg
  rw [e0, e2, e3]
  refine ⟨fun o z1 z2 => ?_, fun q z1 z2 => ?_, fun q z1 z2 => ?_⟩
  · rw [ho 2 o h2, aIn_off ho h9, aIn_off ho h11, (hv _ (hO o z1 z2).1).1]
    exact h.1 o z1 z2
  · rw [ho 9 q h9, ho 10 q h10, (hv _ (live_ge hO (hw.1 q z1 z2))).2]
    exact h.2.1 q z1 z2
  · rw [ho 11 q h11, ho 12 q h12, (hv _ (live_ge hO (hw.2.1 q z1 z2))).2]
    exact h.2.2 q z1 z2
/-- a store that leaves tags: what it is -/
theorem mset_ag {b0 : Nat} {k : Int} {v : MV} (hb : b0 < x + 22) : AgO x S (mset S b0 k v) := ⟨fun _ _ => ⟨rfl, rfl⟩, fun b j h1 _ _ => by rw [mset_v _ _ _ _ (by omega)]⟩
/-- a variable takes a value -/
theorem CL.hold (hC : CL x S A M) (hw : WF M) {v a b : Int} {r : Option Nat} (h0 : 0 ≤ v) (h5 : v ≤ 5) (hr : VR x S A r a b) : CL x (mset S (x + 1) v (.inr r)) A (aHold M v a b) := by
  obtain ⟨hF, hN, hRs, hV, hO, hPl, hTg, hMk⟩ := hC
  have ho := aHold_off M v a b
  have e13 := fun q => ho 13 q rfl
  have hA : AgO x S (mset S (x + 1) v (.inr r)) := mset_ag (by omega)
  have hv : ∀ b, b ≠ x + 1 → vS (mset S (x + 1) v (.inr r)) b = vS S b := fun b hb => mset_v S (x + 1) v (.inr r) hb
  have hge : ∀ o, 0 ≤ o → o < M 13 0 → x + 22 ≤ A (M 2 o) := fun o z1 z2 => (hO o z1 z2).1
  refine ⟨hF.tr rfl rfl rfl (fun j _ => by rw [hv x (by omega)]) (by rw [hv _ (by omega)]) (by rw [hv _ (by omega)]) (by rw [hv _ (by omega)]), ?_, ?_, ?_, ?_, ?_, ?_, ?_⟩
  · unfold cNum
    rw [hv x (by omega), e13 1, e13 4]
    exact hN
  · unfold cRs
    rw [e13 0, e13 2, e13 3]
    have f2 : (fun o => A (aHold M v a b 2 o)) = fun o => A (M 2 o) := by funext o; rw [ho 2 o rfl]
    have f9 : (fun o => A (aHold M v a b 9 o)) = fun o => A (M 9 o) := by funext o; rw [ho 9 o rfl]
    have f11 : (fun o => A (aHold M v a b 11 o)) = fun o => A (M 11 o) := by funext o; rw [ho 11 o rfl]
    rw [f2, f9, f11]
    exact ⟨hRs.1.tr (by rw [hv _ (by omega)]) (hv _ (by omega)), hRs.2.1.tr (by rw [hv _ (by omega)]) (hv _ (by omega)), hRs.2.2.tr (by rw [hv _ (by omega)]) (hv _ (by omega))⟩
  · intro w w0 w5
    rw [(aHold_v M v a b w).1, (aHold_v M v a b w).2, mset_s]
    by_cases e : w = v
    · rw [if_pos e, if_pos e, if_pos e]
      exact ⟨r, rfl, hr.tr hA⟩
    · rw [if_neg e, if_neg e, if_neg e]
      obtain ⟨r', z1, z2⟩ := hV w w0 w5
      exact ⟨r', z1, z2.tr hA⟩
  · intro o z1 z2
    rw [e13 0] at z2
    exact (hO o z1 z2).tr hA (EqO.of ho rfl rfl rfl rfl rfl rfl o) (hw.1.2.2.1 o z1 z2).2.1
  · unfold cPl
    rw [hv x (by omega), aUsed_off ho rfl rfl rfl, e13 0]
    refine ⟨hPl.1, fun o z1 z2 => ?_⟩
    have := hge o z1 z2
    rw [ho 2 o rfl, hv _ (by omega), aCb_off ho rfl rfl]
    exact hPl.2 o z1 z2
  · exact hTg.tr hO hw.2.2.2.2.2.2.1 (fun b hb => by rw [hv b (by omega)]; exact ⟨rfl, rfl⟩) ho rfl rfl rfl rfl rfl (e13 0) (e13 2) (e13 3)
  · intro o z1 z2
    rw [e13 0] at z2
    have := hge o z1 z2
    rw [ho 2 o rfl, hv _ (by omega)]
    exact hMk o z1 z2
end MV2
