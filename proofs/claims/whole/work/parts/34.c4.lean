/-! general moves of the class's picture; number, find, set, put -/
theorem aCb_eq {M M' : MM} : ∀ k : Nat, (∀ o : Nat, o < k → aCells M' (o : Int) = aCells M (o : Int)) → aCb M' k = aCb M k
  | 0, _ => rfl
  | k + 1, h => by unfold aCb; rw [aCb_eq k (fun o ho => h o (by omega)), h k (by omega)]
section G4
variable {x : Nat} {S S' : MS} {A : Int → Nat} {M M' : MM}
theorem cF.tr2 (h : cF x S) (hz : zS S ≤ zS S') (hfr : ∀ a, zS S' ≤ a → tS S' a = 0) (ht : ∀ b, tS S b ≠ 0 → tS S' b = tS S b ∧ lS S' b = lS S b) (h0 : ∀ j, j ≤ 3 → vS S' x j = vS S x j) (h2 : vS S' (x + 2) 0 = vS S (x + 2) 0) (h4 : vS S' (x + 4) 0 = vS S (x + 4) 0) (h6 : vS S' (x + 6) 0 = vS S (x + 6) 0) : cF x S' := by
  obtain ⟨t, a0, a1, a2, a3, ⟨b1, b2⟩, ⟨c1, c2, c3, c4⟩, ⟨d1, d2, d3, d4⟩, ⟨e1, e2, e3, e4⟩, f, g⟩ := h
  have q1 := ht (x + 1) (by omega)
  have q2 := ht (x + 2) (by omega)
  have q3 := ht (x + 3) (by omega)
  have q4 := ht (x + 4) (by omega)
  have q5 := ht (x + 5) (by omega)
  have q6 := ht (x + 6) (by omega)
  have q7 := ht (x + 7) (by omega)
  exact ⟨(ht x (by omega)).1.trans t, (h0 0 (by decide)).trans a0, (h0 1 (by decide)).trans a1, (h0 2 (by decide)).trans a2, (h0 3 (by decide)).trans a3, ⟨q1.1.trans b1, q1.2.trans b2⟩, ⟨q2.1.trans c1, h2.trans c2, q3.1.trans c3, q3.2.trans c4⟩, ⟨q4.1.trans d1, h4.trans d2, q5.1.trans d3, q5.2.trans d4⟩, ⟨q6.1.trans e1, h6.trans e2, q7.1.trans e3, q7.2.trans e4⟩, hfr, by omega⟩
theorem cF.nz (h : cF x S) {b : Nat} (hb : x ≤ b) (hb2 : b < x + 8) : tS S b ≠ 0 := by
  obtain ⟨t, a0, a1, a2, a3, ⟨b1, b2⟩, ⟨c1, c2, c3, c4⟩, ⟨d1, d2, d3, d4⟩, ⟨e1, e2, e3, e4⟩, f, g⟩ := h
  have : b = x ∨ b = x + 1 ∨ b = x + 2 ∨ b = x + 3 ∨ b = x + 4 ∨ b = x + 5 ∨ b = x + 6 ∨ b = x + 7 := by omega
  rcases this with rfl | rfl | rfl | rfl | rfl | rfl | rfl | rfl <;> omega
theorem TG.nz {b : Nat} (h : TG S b) : tS S b ≠ 0 := by rcases h with h | h | h <;> omega
theorem cTg.tr2 {R : List Nat} (h : cTg S A M) (hO : cO x S A M) (hw : wR M) (hv : ∀ b, x + 22 ≤ b → TG S b → vS S' b 4 = vS S b 4 ∧ vS S' b 5 = vS S b 5) (ho : offS R M M') (h2 : R.contains 2 = false) (h9 : R.contains 9 = false) (h10 : R.contains 10 = false) (h11 : R.contains 11 = false) (h12 : R.contains 12 = false) (e0 : M' 13 0 = M 13 0) (e2 : M' 13 2 = M 13 2) (e3 : M' 13 3 = M 13 3) : cTg S' A M' := by
  unfold cTg
  rw [e0, e2, e3]
  refine ⟨fun o z1 z2 => ?_, fun q z1 z2 => ?_, fun q z1 z2 => ?_⟩
  · rw [ho 2 o h2, aIn_off ho h9, aIn_off ho h11, (hv _ (hO o z1 z2).1 (hO o z1 z2).tg).1]
    exact h.1 o z1 z2
  · rw [ho 9 q h9, ho 10 q h10, (hv _ (live_ge hO (hw.1 q z1 z2)) (live_tg hO (hw.1 q z1 z2))).2]
    exact h.2.1 q z1 z2
  · rw [ho 11 q h11, ho 12 q h12, (hv _ (live_ge hO (hw.2.1 q z1 z2)) (live_tg hO (hw.2.1 q z1 z2))).2]
    exact h.2.2 q z1 z2
/-- new cells, new marks -/
theorem CL.sto (hC : CL x S A M) (hw : WF M) (hz : zS S ≤ zS S') (hfr : ∀ a, zS S' ≤ a → tS S' a = 0) (ht : ∀ b, tS S b ≠ 0 → tS S' b = tS S b ∧ lS S' b = lS S b) (hv : ∀ b j, tS S b ≠ 0 → ¬ (x + 22 ≤ b ∧ TG S b ∧ j = 3) → vS S' b j = vS S b j) (ho : offS [8] M M') (hMk : cMk S' A M') : CL x S' A M' := by
  obtain ⟨hF, hN, hRs, hV, hO, hPl, hTg, -⟩ := hC
  have e13 := fun q => ho 13 q rfl
  have hA : AgO x S S' := ⟨ht, fun b j h1 h2 h3 => hv b j h2 (fun z => h3 ⟨z.2.1, by omega, by omega⟩)⟩
  have hx : ∀ b, x ≤ b → b < x + 8 → vS S' b = vS S b := fun b h1 h2 => funext fun j => hv b j (hF.nz h1 h2) (fun z => by omega)
  refine ⟨hF.tr2 hz hfr ht (fun j _ => by rw [hx x (by omega) (by omega)]) (by rw [hx _ (by omega) (by omega)]) (by rw [hx _ (by omega) (by omega)]) (by rw [hx _ (by omega) (by omega)]), ?_, ?_, ?_, ?_, ?_, ?_, hMk⟩
  · unfold cNum
    rw [hx x (by omega) (by omega), e13 1, e13 4]
    exact hN
  · unfold cRs
    rw [e13 0, e13 2, e13 3]
    have f2 : (fun o => A (M' 2 o)) = fun o => A (M 2 o) := by funext o; rw [ho 2 o rfl]
    have f9 : (fun o => A (M' 9 o)) = fun o => A (M 9 o) := by funext o; rw [ho 9 o rfl]
    have f11 : (fun o => A (M' 11 o)) = fun o => A (M 11 o) := by funext o; rw [ho 11 o rfl]
    rw [f2, f9, f11]
    exact ⟨hRs.1.tr (by rw [hx _ (by omega) (by omega)]) (hx _ (by omega) (by omega)), hRs.2.1.tr (by rw [hx _ (by omega) (by omega)]) (hx _ (by omega) (by omega)), hRs.2.2.tr (by rw [hx _ (by omega) (by omega)]) (hx _ (by omega) (by omega))⟩
  · intro w w0 w5
    rw [ho 0 w rfl, ho 1 w rfl, hx _ (by omega) (by omega)]
    obtain ⟨r', z1, z2⟩ := hV w w0 w5
    exact ⟨r', z1, z2.tr hA⟩
  · intro o z1 z2
    rw [e13 0] at z2
    exact (hO o z1 z2).tr hA (EqO.of ho rfl rfl rfl rfl rfl rfl o) (hw.1.2.2.1 o z1 z2).2.1
  · unfold cPl
    rw [hx x (by omega) (by omega), aUsed_off ho rfl rfl rfl, e13 0]
    refine ⟨hPl.1, fun o z1 z2 => ?_⟩
    rw [ho 2 o rfl, hv _ 2 (hO o z1 z2).tg.nz (fun z => by omega), aCb_off ho rfl rfl]
    exact hPl.2 o z1 z2
  · exact hTg.tr2 hO hw.2.2.2.2.2.2.1 (fun b hb hb2 => ⟨hv b 4 hb2.nz (fun z => by omega), hv b 5 hb2.nz (fun z => by omega)⟩) ho rfl rfl rfl rfl rfl (e13 0) (e13 2) (e13 3)
theorem mnew_t (S : MS) (t : Nat) (n : Int) (f : Int → MV) {b : Nat} (hb : b ≠ zS S) : tS (mnew S t n f) b = tS S b ∧ lS (mnew S t n f) b = lS S b ∧ vS (mnew S t n f) b = vS S b := ⟨if_neg hb, if_neg hb, if_neg hb⟩
theorem mnew_s (S : MS) (t : Nat) (n : Int) (f : Int → MV) : tS (mnew S t n f) (zS S) = t ∧ lS (mnew S t n f) (zS S) = n ∧ vS (mnew S t n f) (zS S) = f := ⟨if_pos rfl, if_pos rfl, if_pos rfl⟩
theorem CL.nw (hC : CL x S A M) (hw : WF M) (t : Nat) (n : Int) (f : Int → MV) : CL x (mnew S t n f) A M := by
  have hF := hC.1
  have hfr := hF.2.2.2.2.2.2.2.2.2.1
  have ne : ∀ b, tS S b ≠ 0 → b ≠ zS S := fun b hb e => hb (hfr b (by omega))
  refine hC.sto hw (Nat.le_succ _) (fun a ha => ?_) (fun b hb => ⟨(mnew_t S t n f (ne b hb)).1, (mnew_t S t n f (ne b hb)).2.1⟩) (fun b j hb _ => by rw [(mnew_t S t n f (ne b hb)).2.2]) offS.rf (fun o z1 z2 => ?_)
  · have ha : zS S + 1 ≤ a := ha
    rw [(mnew_t S t n f (show a ≠ zS S by omega)).1]
    exact hfr a (by omega)
  · rw [(mnew_t S t n f (ne _ (hC.2.2.2.2.1 o z1 z2).tg.nz)).2.2]
    exact hC.2.2.2.2.2.2.2 o z1 z2
theorem VR.tr3 {r : Option Nat} {is has : Int} (h : VR x S A r is has) (ht : tS S' = tS S) (hv : ∀ b, tS S b = 2 → vS S' b 0 = vS S b 0) : VR x S' A r is has := by
  rcases h with h | ⟨h, a, h2, h3, h4, h5⟩ | h
  · exact Or.inl h
  · exact Or.inr (Or.inl ⟨h, a, h2, h3, by rw [ht]; exact h4, by rw [hv a h4]; exact h5⟩)
  · exact Or.inr (Or.inr h)
/-- an object whose own cells are as they were -/
theorem cObj.tr3 {o : Int} (h : cObj x S A M o) (ht : tS S' = tS S) (hl : lS S' = lS S) (hv2 : ∀ b, tS S b = 2 → vS S' b 0 = vS S b 0) (hv : ∀ j, (0 ≤ j ∧ j ≤ 1) ∨ (6 ≤ j ∧ j ≤ 8) → vS S' (A (M 2 o)) j = vS S (A (M 2 o)) j) (hv1 : tS S (A (M 2 o) + 1) = 22 ∨ tS S (A (M 2 o) + 1) = 23 → M 3 o ≠ 3 → ∀ j, vS S' (A (M 2 o) + 1) j = vS S (A (M 2 o) + 1) j) (hv3 : tS S (A (M 2 o) + 2) = 23 → M 3 o = 4 → ∀ j, vS S' (A (M 2 o) + 2) j = vS S (A (M 2 o) + 2) j) (he : EqO M M' o) (hm : M 4 o ≤ 4) : cObj x S' A M' o := by
  obtain ⟨e2, e3, e4, e5⟩ := he
  obtain ⟨g1, g2, g3, g4⟩ := h
  have ec : aCells M' o = aCells M o := by unfold aCells; rw [e3, e4]
  unfold cObj
  rw [e2, e3, e4, ec, ht, hl]
  refine ⟨g1, by rw [hv 0 (by omega)]; exact g2, by rw [hv 1 (by omega)]; exact g3, ?_⟩
  rcases g4 with ⟨z1, z2, z3, z4, z5, z6⟩ | ⟨z1, z2, r, z3, z4⟩ | ⟨z1, z2, z3, z4, z5, z6, z7, z8, z9, z10⟩
  · refine Or.inl ⟨z1, z2, by rw [hv 6 (by omega)]; exact z3, z4, z5, fun f f0 f1 => ?_⟩
    obtain ⟨r, y1, y2⟩ := z6 f f0 f1
    obtain ⟨w5, w6, -⟩ := e5 f f0 (by omega)
    exact ⟨r, by rw [hv1 (Or.inr z4) (by omega)]; exact y1, by rw [w5, w6]; exact y2.tr3 ht hv2⟩
  · obtain ⟨w5, w6, -⟩ := e5 0 (by omega) (by omega)
    rw [Int.add_zero] at w5 w6
    exact Or.inr (Or.inl ⟨z1, z2, r, by rw [hv 6 (by omega)]; exact z3, by rw [w5, w6]; exact z4.tr3 ht hv2⟩)
  · refine Or.inr (Or.inr ⟨z1, z2, by rw [hv 6 (by omega)]; exact z3, by rw [hv 7 (by omega)]; exact z4, by rw [hv 8 (by omega)]; exact z5, z6, z7, z8, z9, fun f f0 f1 => ?_⟩)
    obtain ⟨y0, r, y1, y2⟩ := z10 f f0 f1
    obtain ⟨w5, w6, w7⟩ := e5 f f0 (by omega)
    exact ⟨by rw [hv1 (Or.inl z6) (by omega), w7]; exact y0, r, by rw [hv3 z8 z2]; exact y1, by rw [w5, w6]; exact y2.tr3 ht hv2⟩
/-- only objects' own cells change -/
theorem CL.obj (hC : CL x S A M) (hw : WF M) (hz : zS S' = zS S) (ht : tS S' = tS S) (hl : lS S' = lS S) (hv : ∀ b j, (b < x + 22 ∨ (TG S b ∧ j ≤ 5) ∨ tS S b = 2) → vS S' b j = vS S b j) (ho : offS [4, 5, 6, 7, 8] M M') (hc : ∀ o, 0 ≤ o → o < M 13 0 → aCells M' o = aCells M o) (hO' : cO x S' A M') : CL x S' A M' := by
  obtain ⟨hF, hN, hRs, hV, hO, hPl, hTg, hMk⟩ := hC
  have e13 := fun q => ho 13 q rfl
  have hx : ∀ b, b < x + 22 → vS S' b = vS S b := fun b h1 => funext fun j => hv b j (Or.inl h1)
  have h2 : ∀ b, tS S b = 2 → vS S' b 0 = vS S b 0 := fun b hb => hv b 0 (Or.inr (Or.inr hb))
  have hcb : ∀ k : Nat, (k : Int) ≤ M 13 0 → aCb M' k = aCb M k := fun k hk => aCb_eq k (fun o hq => hc o (by omega) (by omega))
  refine ⟨hF.tr ht hl hz (fun j _ => by rw [hx x (by omega)]) (by rw [hx _ (by omega)]) (by rw [hx _ (by omega)]) (by rw [hx _ (by omega)]), ?_, ?_, ?_, hO', ?_, ?_, ?_⟩
  · unfold cNum
    rw [hx x (by omega), e13 1, e13 4]
    exact hN
  · unfold cRs
    rw [e13 0, e13 2, e13 3]
    have f2 : (fun o => A (M' 2 o)) = fun o => A (M 2 o) := by funext o; rw [ho 2 o rfl]
    have f9 : (fun o => A (M' 9 o)) = fun o => A (M 9 o) := by funext o; rw [ho 9 o rfl]
    have f11 : (fun o => A (M' 11 o)) = fun o => A (M 11 o) := by funext o; rw [ho 11 o rfl]
    rw [f2, f9, f11]
    exact ⟨hRs.1.tr (by rw [hx _ (by omega)]) (hx _ (by omega)), hRs.2.1.tr (by rw [hx _ (by omega)]) (hx _ (by omega)), hRs.2.2.tr (by rw [hx _ (by omega)]) (hx _ (by omega))⟩
  · intro w w0 w5
    rw [ho 0 w rfl, ho 1 w rfl, hx _ (by omega)]
    obtain ⟨r', z1, z2⟩ := hV w w0 w5
    exact ⟨r', z1, z2.tr3 ht h2⟩
  · unfold cPl aUsed
    have := hw.1.1
    rw [hx x (by omega), e13 0, hcb _ (by omega)]
    refine ⟨hPl.1, fun o z1 z2 => ?_⟩
    rw [ho 2 o rfl, hv _ 2 (Or.inr (Or.inl ⟨(hO o z1 z2).tg, by decide⟩)), hcb _ (by omega)]
    exact hPl.2 o z1 z2
  · exact hTg.tr2 hO hw.2.2.2.2.2.2.1 (fun b hb hb2 => ⟨hv b 4 (Or.inr (Or.inl ⟨hb2, by decide⟩)), hv b 5 (Or.inr (Or.inl ⟨hb2, by decide⟩))⟩) ho rfl rfl rfl rfl rfl (e13 0) (e13 2) (e13 3)
  · intro o z1 z2
    rw [e13 0] at z2
    rw [ho 2 o rfl, hv _ 3 (Or.inr (Or.inl ⟨(hO o z1 z2).tg, by decide⟩))]
    exact hMk o z1 z2
/-- two objects lie apart -/
theorem A_inj (hO : cO x S A M) {h h' : Int} (hl : live M h) (hl' : live M h') (he : A h = A h') : h = h' := by
  obtain ⟨o, a, b, c⟩ := hl
  obtain ⟨o', a', b', c'⟩ := hl'
  have e1 := (hO o a b).2.1
  have e2 := (hO o' a' b').2.1
  rw [c] at e1
  rw [c'] at e2
  rw [he, e2] at e1
  injection e1 with e1
  exact e1.symm
theorem live_o {o : Int} (h0 : 0 ≤ o) (h1 : o < M 13 0) : live M (M 2 o) := ⟨o, h0, h1, rfl⟩
theorem A_ne (hO : cO x S A M) (hw : WF M) {o o' : Int} (h0 : 0 ≤ o) (h1 : o < M 13 0) (h0' : 0 ≤ o') (h1' : o' < M 13 0) (hne : o ≠ o') : A (M 2 o) ≠ A (M 2 o') := fun e => by
  have e2 := A_inj hO (live_o h0 h1) (live_o h0' h1') e
  have z1 := hw.2.1.1 o o' h0
  have z2 := hw.2.1.1 o' o h0'
  by_cases q : o < o'
  · have := z1 q h1'; omega
  · have := z2 (by omega) h1; omega
/-- what the pure state keeps when only objects' rows change -/
theorem WF.obj (hw : WF M) (ho : offS [4, 5, 6, 7, 8] M M') (hB : BW M') (hF : wF M') (hW : wW M') (hK : wK M') (hc : ∀ o, 0 ≤ o → o < M 13 0 → aCells M' o = aCells M o) : WF M' := by
  obtain ⟨h1, h2, h3, h4, h5, h6, h7, h8⟩ := hw
  have e13 := fun q => ho 13 q rfl
  have ok := fun {is has : Int} (z : OKV M is has) => OKV_off ho rfl (e13 0) z
  have lv := fun {h : Int} (z : live M h) => live_off ho rfl (e13 0) z
  refine ⟨hB, ?_, ?_, hF, hW, hK, ?_, ?_⟩
  · unfold wN
    rw [e13 0, e13 1]
    exact ⟨fun o o' a b c => by rw [ho 2 o rfl, ho 2 o' rfl]; exact h2.1 o o' a b c, fun o a b => by rw [ho 2 o rfl]; exact h2.2 o a b⟩
  · intro w w0 w5
    rw [ho 0 w rfl, ho 1 w rfl]
    exact ok (h3 w w0 w5)
  · unfold wR
    rw [e13 2, e13 3]
    refine ⟨fun q a b => ?_, fun q a b => ?_, fun q q' a b c => ?_, fun q q' a b c => ?_, fun q q' a b c e => ?_⟩
    · rw [ho 9 q rfl]; exact lv (h7.1 q a b)
    · rw [ho 11 q rfl]; exact lv (h7.2.1 q a b)
    · rw [ho 9 q rfl, ho 9 q' rfl]; exact h7.2.2.1 q q' a b c
    · rw [ho 11 q rfl, ho 11 q' rfl]; exact h7.2.2.2.1 q q' a b c
    · rw [ho 9 q rfl, ho 11 q' rfl]; exact h7.2.2.2.2 q q' a b c e
  · unfold aUsed
    rw [e13 0, aCb_eq _ (fun o hq => hc o (by omega) (by omega))]
    exact h8
/-- marks do not matter -/
theorem WF.off8 (hw : WF M) (ho : offS [8] M M') : WF M' := by
  have e13 := fun q => ho 13 q rfl
  have ok := fun {is has : Int} (z : OKV M is has) => OKV_off ho rfl (e13 0) z
  have lv := fun {h : Int} (z : live M h) => live_off ho rfl (e13 0) z
  refine hw.obj (fun j i hj => ho j i (by simp at hj ⊢; omega)) (hw.1.offS ho rfl rfl rfl) (fun o f a1 a2 a3 a4 => ?_) (fun o a1 a2 => ?_) (fun o f f' a1 a2 a3 a4 a5 a6 => ?_) (fun o _ _ => aCells_off ho rfl rfl o)
  · rw [e13 0] at a2
    rw [ho 4 o rfl] at a4
    rw [ho 5 _ rfl, ho 6 _ rfl, ho 3 o rfl, ho 7 _ rfl]
    obtain ⟨z1, z2, z3⟩ := hw.2.2.2.1 o f a1 a2 a3 a4
    exact ⟨ok z1, z2, fun z => lv (z3 z)⟩
  · rw [e13 0] at a2
    rw [ho 3 o rfl, ho 4 o rfl]
    exact hw.2.2.2.2.1 o a1 a2
  · rw [e13 0] at a2
    rw [ho 3 o rfl] at a3
    rw [ho 4 o rfl] at a6
    rw [ho 7 _ rfl, ho 7 _ rfl]
    exact hw.2.2.2.2.2.1 o f f' a1 a2 a3 a4 a5 a6
end G4
section C4
variable {d x : Nat} {S : MS} {A : Int → Nat} {M : MM}
theorem C_Uinit {a : Nat} : XQ d k_U_init 0 (mentry (mL k_U_init) [.inr (some a)]) [] S (fun q S' => S' = S ∧ q = none) := by
  repeat (first | refine XQ.go rfl rfl ?_ | refine XQ.zeq0 rfl ?_ | refine XQ.zeq1 rfl ?_ | refine XQ.zne0 rfl ?_ | refine XQ.zne1 rfl ?_ | refine XQ.add rfl ⟨by omega, by omega⟩ ?_ | refine XQ.sub rfl ⟨by omega, by omega⟩ ?_ | refine XQ.inc rfl rfl rfl ⟨by omega, by omega⟩ ?_)
  exact XQ.ret rfl rfl ⟨rfl, rfl⟩
theorem C_Ninit {a : Nat} {n : Int} (ht : tS S a = 2) : XQ (d + 1) k_N_init 0 (mentry (mL k_N_init) [.inr (some a), .inl n]) [] S (fun q S' => S' = mset S a 0 (.inl n) ∧ q = none) := by
  repeat (first | refine XQ.go rfl rfl ?_ | refine XQ.zeq0 rfl ?_ | refine XQ.zeq1 rfl ?_ | refine XQ.zne0 rfl ?_ | refine XQ.zne1 rfl ?_ | refine XQ.add rfl ⟨by omega, by omega⟩ ?_ | refine XQ.sub rfl ⟨by omega, by omega⟩ ?_ | refine XQ.inc rfl rfl rfl ⟨by omega, by omega⟩ ?_)
  refine XQ.v1 rfl ht rfl (le8 rfl) C_Uinit (fun q S' hq => ?_)
  obtain ⟨rfl, rfl⟩ := hq
  repeat (first | refine XQ.go rfl rfl ?_ | refine XQ.zeq0 rfl ?_ | refine XQ.zeq1 rfl ?_ | refine XQ.zne0 rfl ?_ | refine XQ.zne1 rfl ?_ | refine XQ.add rfl ⟨by omega, by omega⟩ ?_ | refine XQ.sub rfl ⟨by omega, by omega⟩ ?_ | refine XQ.inc rfl rfl rfl ⟨by omega, by omega⟩ ?_)
  refine XQ.put rfl (by rw [ht]; rfl) rfl ?_
  exact XQ.ret rfl rfl ⟨rfl, rfl⟩
theorem C_number {v n : Int} (hC : CL x S A M) (hw : WF M) : XQ (d + 2) k_H_number 0 (mentry (mL k_H_number) [.inr (some x), .inl v, .inl n]) [] S (fun q S' => q = some (.inl (aNumber M v n).1) ∧ CL x S' A (aNumber M v n).2 ∧ WF (aNumber M v n).2 ∧ CFr x 3 30 S S') := by
  have hC0 := hC
  obtain ⟨hF, hN, hRs, hV, hO, hPl, hTg, hMk⟩ := hC
  have bad : (v < 0 ∨ 5 < v ∨ n < -1000000 ∨ 1000000 < n) → aNumber M v n = (0, M) := fun q => by unfold aNumber; rw [if_pos q]
  repeat (first | refine XQ.go rfl rfl ?_ | refine XQ.zeq0 rfl ?_ | refine XQ.zeq1 rfl ?_ | refine XQ.zne0 rfl ?_ | refine XQ.zne1 rfl ?_ | refine XQ.add rfl ⟨by omega, by omega⟩ ?_ | refine XQ.sub rfl ⟨by omega, by omega⟩ ?_ | refine XQ.inc rfl rfl rfl ⟨by omega, by omega⟩ ?_)
  refine XQ.s1 rfl rfl (le8 rfl) (C_isVariable (v := v)) (fun r S' hq => ?_)
  obtain ⟨rfl, ⟨rfl, hv⟩ | ⟨rfl, hv⟩⟩ := hq
  · repeat (first | refine XQ.go rfl rfl ?_ | refine XQ.zeq0 rfl ?_ | refine XQ.zeq1 rfl ?_ | refine XQ.zne0 rfl ?_ | refine XQ.zne1 rfl ?_ | refine XQ.add rfl ⟨by omega, by omega⟩ ?_ | refine XQ.sub rfl ⟨by omega, by omega⟩ ?_ | refine XQ.inc rfl rfl rfl ⟨by omega, by omega⟩ ?_)
    refine XQ.clt rfl (fun q => ?_) (fun q => ?_)
    · rw [bad (by omega)]
      repeat (first | refine XQ.go rfl rfl ?_ | refine XQ.zeq0 rfl ?_ | refine XQ.zeq1 rfl ?_ | refine XQ.zne0 rfl ?_ | refine XQ.zne1 rfl ?_ | refine XQ.add rfl ⟨by omega, by omega⟩ ?_ | refine XQ.sub rfl ⟨by omega, by omega⟩ ?_ | refine XQ.inc rfl rfl rfl ⟨by omega, by omega⟩ ?_)
      exact XQ.ret rfl rfl ⟨rfl, hC0, hw, CFr.rf⟩
    · repeat (first | refine XQ.go rfl rfl ?_ | refine XQ.zeq0 rfl ?_ | refine XQ.zeq1 rfl ?_ | refine XQ.zne0 rfl ?_ | refine XQ.zne1 rfl ?_ | refine XQ.add rfl ⟨by omega, by omega⟩ ?_ | refine XQ.sub rfl ⟨by omega, by omega⟩ ?_ | refine XQ.inc rfl rfl rfl ⟨by omega, by omega⟩ ?_)
      refine XQ.cle rfl (fun q2 => ?_) (fun q2 => ?_)
      · have good : aNumber M v n = (1, aHold M v 1 n) := by unfold aNumber; rw [if_neg (by omega)]
        rw [good]
        repeat (first | refine XQ.go rfl rfl ?_ | refine XQ.zeq0 rfl ?_ | refine XQ.zeq1 rfl ?_ | refine XQ.zne0 rfl ?_ | refine XQ.zne1 rfl ?_ | refine XQ.add rfl ⟨by omega, by omega⟩ ?_ | refine XQ.sub rfl ⟨by omega, by omega⟩ ?_ | refine XQ.inc rfl rfl rfl ⟨by omega, by omega⟩ ?_)
        refine XQ.gx rfl hF.1 hF.2.1 ?_
        refine XQ.go rfl rfl ?_
        have hle := hF.2.2.2.2.2.2.2.2.2.2
        have hfr := hF.2.2.2.2.2.2.2.2.2.1
        have hC1 := hC0.nw hw 2 1 df_N
        obtain ⟨m1, m2, m3⟩ := mnew_s S' 2 1 df_N
        have hC2 : CL x (mset (mnew S' 2 1 df_N) (zS S') 0 (.inl n)) A M := by
          refine hC0.sto hw (Nat.le_succ _) (fun a ha => hC1.1.2.2.2.2.2.2.2.2.2.1 a ha) (fun b hb => ?_) (fun b j hb _ => ?_) offS.rf (fun o z1 z2 => ?_)
          · have hne : b ≠ zS S' := fun e => hb (hfr b (by omega))
            exact ⟨(mnew_t S' 2 1 df_N hne).1, (mnew_t S' 2 1 df_N hne).2.1⟩
          · have hne : b ≠ zS S' := fun e => hb (hfr b (by omega))
            rw [mset_v _ _ _ _ hne, (mnew_t S' 2 1 df_N hne).2.2]
          · have hne : A (M 2 o) ≠ zS S' := fun e => (hO o z1 z2).tg.nz (hfr _ (by omega))
            rw [mset_v _ _ _ _ hne, (mnew_t S' 2 1 df_N hne).2.2]
            exact hMk o z1 z2
        have hf2 : CFr x 3 30 S' (mset (mnew S' 2 1 df_N) (zS S') 0 (.inl n)) := by
          refine CFr.set ⟨Nat.le_succ _, ?_, Nat.le_add_right _ _, ?_, fun a ha => ?_, fun a ha => ?_⟩ (Or.inr hle) _ _
          · show zS S' + 1 ≤ zS S' + 3; omega
          · show qS S' + (1 : Int).toNat ≤ qS S' + 30; omega
          · exact ⟨(mnew_t S' 2 1 df_N (by omega)).1, (mnew_t S' 2 1 df_N (by omega)).2.1⟩
          · exact (mnew_t S' 2 1 df_N (by omega)).2.2
        repeat (first | refine XQ.go rfl rfl ?_ | refine XQ.zeq0 rfl ?_ | refine XQ.zeq1 rfl ?_ | refine XQ.zne0 rfl ?_ | refine XQ.zne1 rfl ?_ | refine XQ.add rfl ⟨by omega, by omega⟩ ?_ | refine XQ.sub rfl ⟨by omega, by omega⟩ ?_ | refine XQ.inc rfl rfl rfl ⟨by omega, by omega⟩ ?_)
        refine XQ.v2 rfl m1 rfl (le8 rfl) (C_Ninit (d := d) (n := n) m1) (fun r S2 hq => ?_)
        obtain ⟨rfl, rfl⟩ := hq
        have h2 : VR x (mset (mnew S' 2 1 df_N) (zS S') 0 (.inl n)) A (some (zS S')) 1 n := Or.inr (Or.inl ⟨rfl, zS S', rfl, hle, m1, by rw [mset_s, if_pos rfl]⟩)
        have ok : OKV M 1 n := Or.inr (Or.inl ⟨rfl, by omega, by omega⟩)
        repeat (first | refine XQ.go rfl rfl ?_ | refine XQ.zeq0 rfl ?_ | refine XQ.zeq1 rfl ?_ | refine XQ.zne0 rfl ?_ | refine XQ.zne1 rfl ?_ | refine XQ.add rfl ⟨by omega, by omega⟩ ?_ | refine XQ.sub rfl ⟨by omega, by omega⟩ ?_ | refine XQ.inc rfl rfl rfl ⟨by omega, by omega⟩ ?_)
        refine XQ.ast rfl (h2.ast hC2.2.2.2.2.1 ok hC2.1.2.2.2.2.2.1.1) hv.1 (by have e := hC2.1.2.2.2.2.2.1.2; exact e.symm ▸ (show v < 6 by omega)) ?_
        repeat (first | refine XQ.go rfl rfl ?_ | refine XQ.zeq0 rfl ?_ | refine XQ.zeq1 rfl ?_ | refine XQ.zne0 rfl ?_ | refine XQ.zne1 rfl ?_ | refine XQ.add rfl ⟨by omega, by omega⟩ ?_ | refine XQ.sub rfl ⟨by omega, by omega⟩ ?_ | refine XQ.inc rfl rfl rfl ⟨by omega, by omega⟩ ?_)
        exact XQ.ret rfl rfl ⟨rfl, hC2.hold hw hv.1 hv.2 h2, hw.hold ok, hf2.set (Or.inl ⟨by omega, by omega⟩) _ _⟩
      · rw [bad (by omega)]
        repeat (first | refine XQ.go rfl rfl ?_ | refine XQ.zeq0 rfl ?_ | refine XQ.zeq1 rfl ?_ | refine XQ.zne0 rfl ?_ | refine XQ.zne1 rfl ?_ | refine XQ.add rfl ⟨by omega, by omega⟩ ?_ | refine XQ.sub rfl ⟨by omega, by omega⟩ ?_ | refine XQ.inc rfl rfl rfl ⟨by omega, by omega⟩ ?_)
        exact XQ.ret rfl rfl ⟨rfl, hC0, hw, CFr.rf⟩
  · rw [bad (by omega)]
    repeat (first | refine XQ.go rfl rfl ?_ | refine XQ.zeq0 rfl ?_ | refine XQ.zeq1 rfl ?_ | refine XQ.zne0 rfl ?_ | refine XQ.zne1 rfl ?_ | refine XQ.add rfl ⟨by omega, by omega⟩ ?_ | refine XQ.sub rfl ⟨by omega, by omega⟩ ?_ | refine XQ.inc rfl rfl rfl ⟨by omega, by omega⟩ ?_)
    exact XQ.ret rfl rfl ⟨rfl, hC0, hw, CFr.rf⟩
end C4
