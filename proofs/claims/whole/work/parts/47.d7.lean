/-! the class's collection, walked -/
def CLp (x : Nat) (S : MS) (A : Int → Nat) (M : MM) : Prop := cF x S ∧ cNum x S M ∧ cRs x S A M ∧ cV x S A M ∧ cO x S A M ∧ cTg S A M ∧ cMk S A M
section H7
variable {d x : Nat} {S S' : MS} {A : Int → Nat} {M M' N : MM}
theorem C_closeGaps (hP : CLp x S A N) (hw : WF N) : XQ (d + 1) k_H_closeGaps 0 (mentry (mL k_H_closeGaps) [.inr (some x)]) [] S (fun q S' => q = none ∧ CL x S' A N ∧ CFr x 0 0 S S') := by
  obtain ⟨hF, hN, hRs, hV, hO, hTg, hMk⟩ := hP
  have hb := hw.1.1
  obtain ⟨r1, r2, r3, r4⟩ := hF.r2
  have loop : ∀ (j k : Nat) (S' : MS) (t : Option MV), ((k + j : Nat) : Int) = N 13 0 → (zS S' = zS S ∧ qS S' = qS S ∧ tS S' = tS S ∧ lS S' = lS S ∧ (∀ b j, ¬ (b = x ∧ j = 4) → ¬ (x + 22 ≤ b ∧ TG S b ∧ j = 2) → vS S' b j = vS S b j) ∧ vS S' x 4 = .inl (aCb N k) ∧ ∀ o, 0 ≤ o → o < (k : Int) → vS S' (A (N 2 o)) 2 = .inl (aCb N o.toNat)) → XQ (d + 1) k_H_closeGaps 7 [some (.inr (some x)), some (.inl (k : Int)), t] [] S' (fun q S' => q = none ∧ CL x S' A N ∧ CFr x 0 0 S S') := by
    intro j
    induction j with
    | zero =>
      intro k S' t hk ⟨i1, i2, i3, i4, i5, i6, i7⟩
      have hx2 : vS S' (x + 2) = vS S (x + 2) := funext fun j => i5 _ j (by omega) (by omega)
      have hx3 : vS S' (x + 3) = vS S (x + 3) := funext fun j => i5 _ j (by omega) (by omega)
      have hA : AgO x S S' := ⟨fun b _ => by rw [i3, i4]; exact ⟨rfl, rfl⟩, fun b j b1 b2 b3 => i5 b j (by omega) (fun z => b3 ⟨z.2.1, by omega, by omega⟩)⟩
      repeat (first | refine XQ.go rfl rfl ?_ | refine XQ.zeq0 rfl ?_ | refine XQ.zeq1 rfl ?_ | refine XQ.zne0 rfl ?_ | refine XQ.zne1 rfl ?_ | refine XQ.add rfl ⟨by omega, by omega⟩ ?_ | refine XQ.sub rfl ⟨by omega, by omega⟩ ?_ | refine XQ.inc rfl rfl rfl ⟨by omega, by omega⟩ ?_)
      refine XQ.gx rfl (i3 ▸ hF.1) (v := .inr (some (x + 2))) (by rw [i5 x 1 (by omega) (by omega)]; exact hF.2.2.1) ?_
      refine XQ.v1 rfl (i3 ▸ r1) rfl (le8 rfl) (C_length (d := d) (n := N 13 0) (i3 ▸ r1) (by rw [hx2]; exact hRs.1.1)) (fun q S2 hq => ?_)
      obtain ⟨rfl, rfl⟩ := hq
      refine XQ.cge rfl (fun _ => ?_) (fun q => by omega)
      refine XQ.ret rfl rfl ⟨rfl, ⟨hF.tr i3 i4 i1 (fun j hj => i5 x j (by omega) (by omega)) (i5 _ _ (by omega) (by omega)) (i5 _ _ (by omega) (by omega)) (i5 _ _ (by omega) (by omega)), ?_, ?_, ?_, ?_, ?_, ?_, ?_⟩, by omega, by omega, by omega, by omega, fun a _ => by rw [i3, i4]; exact ⟨rfl, rfl⟩, fun a ha => funext fun j => i5 a j (by omega) (by omega)⟩
      · unfold cNum
        rw [i5 x 5 (by omega) (by omega), i5 x 6 (by omega) (by omega)]
        exact hN
      · exact ⟨hRs.1.tr (by rw [hx2]) hx3, hRs.2.1.tr (i5 _ _ (by omega) (by omega)) (funext fun j => i5 _ j (by omega) (by omega)), hRs.2.2.tr (i5 _ _ (by omega) (by omega)) (funext fun j => i5 _ j (by omega) (by omega))⟩
      · intro w w0 w5
        rw [i5 _ w (by omega) (by omega)]
        obtain ⟨r', z1, z2⟩ := hV w w0 w5
        exact ⟨r', z1, z2.tr hA⟩
      · intro o z1 z2
        exact (hO o z1 z2).tr hA ⟨rfl, rfl, rfl, fun _ _ _ => ⟨rfl, rfl, rfl⟩⟩ (hw.1.2.2.1 o z1 z2).2.1
      · refine ⟨?_, fun o z1 z2 => i7 o z1 (by omega)⟩
        unfold aUsed
        rw [i6, show (N 13 0).toNat = k by omega]
      · exact hTg.tr2 hO hw.2.2.2.2.2.2.1 (fun b b1 b2 => ⟨i5 b 4 (by omega) (by omega), i5 b 5 (by omega) (by omega)⟩) (R := []) offS.rf rfl rfl rfl rfl rfl rfl rfl rfl
      · intro o z1 z2
        have := (hO o z1 z2).1
        rw [i5 _ 3 (by omega) (by omega)]
        exact hMk o z1 z2
    | succ j ih =>
      intro k S' t hk ⟨i1, i2, i3, i4, i5, i6, i7⟩
      have hx2 : vS S' (x + 2) = vS S (x + 2) := funext fun j => i5 _ j (by omega) (by omega)
      have hx3 : vS S' (x + 3) = vS S (x + 3) := funext fun j => i5 _ j (by omega) (by omega)
      have hkn : (k : Int) < N 13 0 := by omega
      have hob := hO k (by omega) hkn
      have htg := hob.tg
      have hge := hob.1
      have htg' : TG S' (A (N 2 k)) := by unfold TG; rw [i3]; exact htg
      have hcb := hw.1.cb k (by omega)
      have hce := hw.1.cells (o := (k : Int)) (by omega) hkn
      repeat (first | refine XQ.go rfl rfl ?_ | refine XQ.zeq0 rfl ?_ | refine XQ.zeq1 rfl ?_ | refine XQ.zne0 rfl ?_ | refine XQ.zne1 rfl ?_ | refine XQ.add rfl ⟨by omega, by omega⟩ ?_ | refine XQ.sub rfl ⟨by omega, by omega⟩ ?_ | refine XQ.inc rfl rfl rfl ⟨by omega, by omega⟩ ?_)
      refine XQ.gx rfl (i3 ▸ hF.1) (v := .inr (some (x + 2))) (by rw [i5 x 1 (by omega) (by omega)]; exact hF.2.2.1) ?_
      refine XQ.v1 rfl (i3 ▸ r1) rfl (le8 rfl) (C_length (d := d) (n := N 13 0) (i3 ▸ r1) (by rw [hx2]; exact hRs.1.1)) (fun q S2 hq => ?_)
      obtain ⟨rfl, rfl⟩ := hq
      refine XQ.cge rfl (fun q => by omega) (fun _ => ?_)
      repeat (first | refine XQ.go rfl rfl ?_ | refine XQ.zeq0 rfl ?_ | refine XQ.zeq1 rfl ?_ | refine XQ.zne0 rfl ?_ | refine XQ.zne1 rfl ?_ | refine XQ.add rfl ⟨by omega, by omega⟩ ?_ | refine XQ.sub rfl ⟨by omega, by omega⟩ ?_ | refine XQ.inc rfl rfl rfl ⟨by omega, by omega⟩ ?_)
      refine XQ.gx rfl (i3 ▸ hF.1) (v := .inr (some (x + 2))) (by rw [i5 x 1 (by omega) (by omega)]; exact hF.2.2.1) ?_
      repeat (first | refine XQ.go rfl rfl ?_ | refine XQ.zeq0 rfl ?_ | refine XQ.zeq1 rfl ?_ | refine XQ.zne0 rfl ?_ | refine XQ.zne1 rfl ?_ | refine XQ.add rfl ⟨by omega, by omega⟩ ?_ | refine XQ.sub rfl ⟨by omega, by omega⟩ ?_ | refine XQ.inc rfl rfl rfl ⟨by omega, by omega⟩ ?_)
      refine XQ.v2 rfl (i3 ▸ r1) rfl (le8 rfl) (C_at (d := d) (rw := x + 2) (n := N 13 0) (l := 20) (i := (k : Int)) (g := fun o => A (N 2 o)) (i3 ▸ r1) (by rw [hx2]; exact r2) (i3 ▸ r3) (i4 ▸ r4) (hRs.1.tr (by rw [hx2]) hx3) (by omega) (by omega) (by omega)) (fun q S3 hq => ?_)
      obtain ⟨rfl, rfl⟩ := hq
      repeat (first | refine XQ.go rfl rfl ?_ | refine XQ.zeq0 rfl ?_ | refine XQ.zeq1 rfl ?_ | refine XQ.zne0 rfl ?_ | refine XQ.zne1 rfl ?_ | refine XQ.add rfl ⟨by omega, by omega⟩ ?_ | refine XQ.sub rfl ⟨by omega, by omega⟩ ?_ | refine XQ.inc rfl rfl rfl ⟨by omega, by omega⟩ ?_)
      refine XQ.gx rfl (i3 ▸ hF.1) i6 ?_
      refine XQ.put rfl htg'.c rfl ?_
      repeat (first | refine XQ.go rfl rfl ?_ | refine XQ.zeq0 rfl ?_ | refine XQ.zeq1 rfl ?_ | refine XQ.zne0 rfl ?_ | refine XQ.zne1 rfl ?_ | refine XQ.add rfl ⟨by omega, by omega⟩ ?_ | refine XQ.sub rfl ⟨by omega, by omega⟩ ?_ | refine XQ.inc rfl rfl rfl ⟨by omega, by omega⟩ ?_)
      refine XQ.gx rfl (i3 ▸ hF.1) (v := .inl (aCb N k)) (by rw [mset_v _ _ _ _ (by omega)]; exact i6) ?_
      repeat (first | refine XQ.go rfl rfl ?_ | refine XQ.zeq0 rfl ?_ | refine XQ.zeq1 rfl ?_ | refine XQ.zne0 rfl ?_ | refine XQ.zne1 rfl ?_ | refine XQ.add rfl ⟨by omega, by omega⟩ ?_ | refine XQ.sub rfl ⟨by omega, by omega⟩ ?_ | refine XQ.inc rfl rfl rfl ⟨by omega, by omega⟩ ?_)
      refine XQ.gt rfl (by exact htg') (v := .inl (aCells N k)) (by rw [mset_s, if_neg (by decide), i5 _ 1 (by omega) (by omega)]; exact hob.2.2.1) ?_
      refine XQ.add rfl ⟨by omega, by omega⟩ ?_
      refine XQ.put rfl (by show [1].contains (tS S3 x) = true; rw [i3, hF.1]; rfl) rfl ?_
      have ih' := fun t => ih (k + 1) (mset (mset S3 (A (N 2 k)) 2 (.inl (aCb N k))) x 4 (.inl (aCb N k + aCells N k))) t (by omega) ⟨i1, i2, i3, i4, fun b j b1 b2 => by
        by_cases c : b = x
        · rw [c, mset_s, if_neg (fun z => b1 ⟨c, z⟩), mset_v _ _ _ _ (by omega)]
          exact i5 x j (by omega) (by omega)
        · rw [mset_v _ _ _ _ c]
          by_cases c2 : b = A (N 2 k)
          · rw [c2, mset_s, if_neg (fun z => b2 ⟨by omega, by rw [c2]; exact htg, z⟩)]
            exact i5 _ j (by omega) (fun z => b2 ⟨by omega, by rw [c2]; exact htg, z.2.2⟩)
          · rw [mset_v _ _ _ _ c2]
            exact i5 b j b1 b2, by rw [mset_s, if_pos rfl]; rfl, fun o o0 o1 => by
        have hgo := (hO o o0 (by omega)).1
        rw [mset_v _ _ _ _ (by omega)]
        by_cases c : o = (k : Int)
        · rw [c, mset_s, if_pos rfl]; rfl
        · rw [mset_v _ _ _ _ (A_ne hO hw o0 (by omega) (by omega) hkn c)]
          exact i7 o o0 (by omega)⟩
      repeat (first | exact ih' _ | refine XQ.go rfl rfl ?_ | refine XQ.zeq0 rfl ?_ | refine XQ.zeq1 rfl ?_ | refine XQ.zne0 rfl ?_ | refine XQ.zne1 rfl ?_ | refine XQ.add rfl ⟨by omega, by omega⟩ ?_ | refine XQ.sub rfl ⟨by omega, by omega⟩ ?_ | refine XQ.inc rfl rfl rfl ⟨by omega, by omega⟩ ?_)
  have k0 := loop (N 13 0).toNat 0 (mset S x 4 (.inl 0)) none (by omega) ⟨rfl, rfl, rfl, rfl, fun b j b1 b2 => by
    by_cases c : b = x
    · rw [c, mset_s, if_neg (fun z => b1 ⟨c, z⟩)]
    · rw [mset_v _ _ _ _ c], by rw [mset_s, if_pos rfl]; rfl, fun o a b => by omega⟩
  repeat (first | refine XQ.go rfl rfl ?_ | refine XQ.zeq0 rfl ?_ | refine XQ.zeq1 rfl ?_ | refine XQ.zne0 rfl ?_ | refine XQ.zne1 rfl ?_ | refine XQ.add rfl ⟨by omega, by omega⟩ ?_ | refine XQ.sub rfl ⟨by omega, by omega⟩ ?_ | refine XQ.inc rfl rfl rfl ⟨by omega, by omega⟩ ?_)
  refine XQ.put rfl (by rw [hF.1]; rfl) rfl ?_
  repeat (first | exact k0 | refine XQ.go rfl rfl ?_ | refine XQ.zeq0 rfl ?_ | refine XQ.zeq1 rfl ?_ | refine XQ.zne0 rfl ?_ | refine XQ.zne1 rfl ?_ | refine XQ.add rfl ⟨by omega, by omega⟩ ?_ | refine XQ.sub rfl ⟨by omega, by omega⟩ ?_ | refine XQ.inc rfl rfl rfl ⟨by omega, by omega⟩ ?_)
theorem cObj.re {o q : Int} (h : cObj x S A M o) (e2 : N 2 q = M 2 o) (e3 : N 3 q = M 3 o) (e4 : N 4 q = M 4 o) (hm : M 4 o ≤ 4) (e5 : ∀ j f, (j = 5 ∨ j = 6 ∨ j = 7) → 0 ≤ f → f < 4 → N j (4 * q + f) = M j (4 * o + f)) : cObj x S A N q := by
  have ec : aCells N q = aCells M o := by unfold aCells; rw [e3, e4]
  unfold cObj
  rw [e2, e3, e4, ec]
  obtain ⟨g1, g2, g3, g4⟩ := h
  refine ⟨g1, g2, g3, ?_⟩
  rcases g4 with ⟨z1, z2, z3, z4, z5, z6⟩ | ⟨z1, z2, r, z3, z4⟩ | ⟨z1, z2, z3, z4, z5, z6, z7, z8, z9, z10⟩
  · refine Or.inl ⟨z1, z2, z3, z4, z5, fun f f0 f1 => ?_⟩
    rw [e5 5 f (by omega) f0 (by omega), e5 6 f (by omega) f0 (by omega)]
    exact z6 f f0 f1
  · have w5 := e5 5 0 (by omega) (by omega) (by omega)
    have w6 := e5 6 0 (by omega) (by omega) (by omega)
    rw [Int.add_zero, Int.add_zero] at w5 w6
    exact Or.inr (Or.inl ⟨z1, z2, r, z3, by rw [w5, w6]; exact z4⟩)
  · refine Or.inr (Or.inr ⟨z1, z2, z3, z4, z5, z6, z7, z8, z9, fun f f0 f1 => ?_⟩)
    rw [e5 5 f (by omega) f0 (by omega), e5 6 f (by omega) f0 (by omega), e5 7 f (by omega) f0 (by omega)]
    exact z10 f f0 f1
/-- the picture after the dropping -/
theorem CM.drop (hM : CM x S A M) (j1 : zS S' = zS S) (j3 : tS S' = tS S) (j4 : lS S' = lS S) (j5 : ∀ b, b ≠ x + 2 → b ≠ x + 3 → vS S' b = vS S b) (j6 : ∀ j, j ≠ 1 → vS S' (x + 2) j = vS S (x + 2) j) (j7 : vS S' (x + 2) 1 = .inl (cK (oM M) (M 13 0).toNat)) (j8 : ∀ i : Nat, (i : Int) < M 13 0 → oM M i = true → vS S' (x + 3) (cK (oM M) i) = .inr (some (A (M 2 i)))) : CLp x S' A (aSweep M).2 := by
  obtain ⟨⟨hF, hN, hRs, hV, hO, hPl, hTg, hMk⟩, hw, hmm⟩ := hM
  have hb := hw.1.1
  obtain ⟨-, ho, e0, e13, s2, s5⟩ := aSweep_ch (M := M) hb.1
  generalize (aSweep M).2 = N at ho e0 e13 s2 s5 ⊢
  have sj : ∀ q, 0 ≤ q → q < N 13 0 → ∃ o : Nat, (o : Int) < M 13 0 ∧ oM M o = true ∧ cK (oM M) o = q ∧ N 2 q = M 2 o ∧ N 3 q = M 3 o ∧ N 4 q = M 4 o ∧ ∀ j f, (j = 5 ∨ j = 6 ∨ j = 7) → 0 ≤ f → f < 4 → N j (4 * q + f) = M j (4 * (o : Int) + f) := fun q q0 q1 => by
    rw [e0] at q1
    obtain ⟨i, a, b, c⟩ := cK_sj _ q q0 q1
    have ha : (i : Int) < M 13 0 := by omega
    rw [← c]
    exact ⟨i, ha, b, rfl, s2 i ha b 2 (by omega), s2 i ha b 3 (by omega), s2 i ha b 4 (by omega), s5 i ha b⟩
  have hA : AgO x S S' := ⟨fun b _ => by rw [j3, j4]; exact ⟨rfl, rfl⟩, fun b j b1 b2 b3 => by rw [j5 b (by omega) (by omega)]⟩
  have f9 : (fun o => A (N 9 o)) = fun o => A (M 9 o) := by funext o; rw [ho 9 o rfl]
  have f11 : (fun o => A (N 11 o)) = fun o => A (M 11 o) := by funext o; rw [ho 11 o rfl]
  refine ⟨hF.tr j3 j4 j1 (fun j _ => by rw [j5 x (by omega) (by omega)]) (j6 0 (by decide)) (by rw [j5 _ (by omega) (by omega)]) (by rw [j5 _ (by omega) (by omega)]), ?_, ⟨⟨?_, ?_⟩, ?_, ?_⟩, ?_, ?_, ⟨?_, ?_, ?_⟩, ?_⟩
  · unfold cNum
    rw [j5 x (by omega) (by omega), e13 1 (by decide), e13 4 (by decide)]
    exact hN
  · rw [j7, e0]
  · intro q q0 q1
    obtain ⟨o, a, b, c, e, -⟩ := sj q q0 q1
    show vS S' (x + 3) q = .inr (some (A (N 2 q)))
    rw [e, ← c]
    exact j8 o a b
  · rw [e13 2 (by decide), f9]
    exact hRs.2.1.tr (by rw [j5 _ (by omega) (by omega)]) (j5 _ (by omega) (by omega))
  · rw [e13 3 (by decide), f11]
    exact hRs.2.2.tr (by rw [j5 _ (by omega) (by omega)]) (j5 _ (by omega) (by omega))
  · intro w w0 w5
    rw [ho 0 w rfl, ho 1 w rfl, j5 _ (by omega) (by omega)]
    obtain ⟨r', z1, z2⟩ := hV w w0 w5
    exact ⟨r', z1, z2.tr hA⟩
  · intro q q0 q1
    obtain ⟨o, a, b, c, e, e3, e4, e5⟩ := sj q q0 q1
    have hm := (hw.1.2.2.1 o (by omega) a).2.1
    exact ((hO o (by omega) a).tr hA ⟨rfl, rfl, rfl, fun _ _ _ => ⟨rfl, rfl, rfl⟩⟩ hm).re e e3 e4 hm e5
  · intro q q0 q1
    obtain ⟨o, a, b, c, e, -⟩ := sj q q0 q1
    have := (hO o (by omega) a).1
    rw [e, e13 2 (by decide), e13 3 (by decide), aIn_off ho rfl, aIn_off ho rfl, j5 _ (by omega) (by omega)]
    exact hTg.1 o (by omega) a
  · intro q q0 q1
    rw [e13 2 (by decide)] at q1
    have := live_ge hO (hw.2.2.2.2.2.2.1.1 q q0 q1)
    rw [ho 9 q rfl, ho 10 q rfl, j5 _ (by omega) (by omega)]
    exact hTg.2.1 q q0 q1
  · intro q q0 q1
    rw [e13 3 (by decide)] at q1
    have := live_ge hO (hw.2.2.2.2.2.2.1.2.1 q q0 q1)
    rw [ho 11 q rfl, ho 12 q rfl, j5 _ (by omega) (by omega)]
    exact hTg.2.2 q q0 q1
  · intro q q0 q1
    obtain ⟨o, a, b, c, e, -⟩ := sj q q0 q1
    have := (hO o (by omega) a).1
    rw [e, j5 _ (by omega) (by omega)]
    exact hMk o (by omega) a
theorem CL.run (hC : CL x S A M) (hw : WF M) (hr : M 13 4 < 100000) : CL x (mset S x 6 (.inl (M 13 4 + 1))) A (u2 M 13 4 (M 13 4 + 1)) := by
  obtain ⟨hF, hN, hRs, hV, hO, hPl, hTg, hMk⟩ := hC
  have ho : offS [13] M (u2 M 13 4 (M 13 4 + 1)) := offS.rf.u rfl _ _
  have e : ∀ q, q ≠ 4 → u2 M 13 4 (M 13 4 + 1) 13 q = M 13 q := fun q hq => u2_n _ _ (Or.inr hq)
  have e4 : u2 M 13 4 (M 13 4 + 1) 13 4 = M 13 4 + 1 := u2_s _ _ _ _
  generalize u2 M 13 4 (M 13 4 + 1) = N at ho e e4 ⊢
  have hv : ∀ b, b ≠ x → vS (mset S x 6 (.inl (M 13 4 + 1))) b = vS S b := fun b hb => mset_v _ _ _ _ hb
  have hx : ∀ j, j ≠ 6 → vS (mset S x 6 (.inl (M 13 4 + 1))) x j = vS S x j := fun j hj => by rw [mset_s, if_neg hj]
  have hA : AgO x S (mset S x 6 (.inl (M 13 4 + 1))) := mset_ag (by omega)
  have f2 : (fun o => A (N 2 o)) = fun o => A (M 2 o) := by funext o; rw [ho 2 o rfl]
  have f9 : (fun o => A (N 9 o)) = fun o => A (M 9 o) := by funext o; rw [ho 9 o rfl]
  have f11 : (fun o => A (N 11 o)) = fun o => A (M 11 o) := by funext o; rw [ho 11 o rfl]
  refine ⟨hF.tr rfl rfl rfl (fun j hj => hx j (by omega)) (by rw [hv _ (by omega)]) (by rw [hv _ (by omega)]) (by rw [hv _ (by omega)]), ⟨?_, ?_⟩, ?_, ?_, ?_, ⟨?_, ?_⟩, ?_, ?_⟩
  · rw [hx 5 (by decide), e 1 (by decide)]; exact hN.1
  · rw [mset_s, if_pos rfl, e4]
  · unfold cRs
    rw [e 0 (by decide), e 2 (by decide), e 3 (by decide), f2, f9, f11]
    exact ⟨hRs.1.tr (by rw [hv _ (by omega)]) (hv _ (by omega)), hRs.2.1.tr (by rw [hv _ (by omega)]) (hv _ (by omega)), hRs.2.2.tr (by rw [hv _ (by omega)]) (hv _ (by omega))⟩
  · intro w w0 w5
    rw [ho 0 w rfl, ho 1 w rfl, hv _ (by omega)]
    obtain ⟨r', z1, z2⟩ := hV w w0 w5
    exact ⟨r', z1, z2.tr hA⟩
  · intro o z1 z2
    rw [e 0 (by decide)] at z2
    exact (hO o z1 z2).tr hA (EqO.of ho rfl rfl rfl rfl rfl rfl o) (hw.1.2.2.1 o z1 z2).2.1
  · unfold aUsed
    rw [hx 4 (by decide), e 0 (by decide), aCb_off ho rfl rfl]
    exact hPl.1
  · intro o z1 z2
    rw [e 0 (by decide)] at z2
    have := (hO o z1 z2).1
    rw [ho 2 o rfl, hv _ (by omega), aCb_off ho rfl rfl]
    exact hPl.2 o z1 z2
  · exact hTg.tr2 hO hw.2.2.2.2.2.2.1 (fun b hb hb2 => by rw [hv b (by omega)]; exact ⟨rfl, rfl⟩) ho rfl rfl rfl rfl rfl (e 0 (by decide)) (e 2 (by decide)) (e 3 (by decide))
  · intro o z1 z2
    rw [e 0 (by decide)] at z2
    have := (hO o z1 z2).1
    rw [ho 2 o rfl, hv _ (by omega)]
    exact hMk o z1 z2
theorem C_runCollection (hC : CL x S A M) (hw : WF M) (hr : M 13 4 < 100000) : XQ (d + 4) k_H_runCollection 0 (mentry (mL k_H_runCollection) [.inr (some x)]) [] S (fun q S' => q = some (.inl (aColl M).1) ∧ CL x S' A (aColl M).2 ∧ CFr x 0 0 S S') := by
  have hb4 := hw.1.2.2.2
  obtain ⟨w3, hcl, w4, -⟩ := aC4_ch hw hr
  repeat (first | refine XQ.go rfl rfl ?_ | refine XQ.zeq0 rfl ?_ | refine XQ.zeq1 rfl ?_ | refine XQ.zne0 rfl ?_ | refine XQ.zne1 rfl ?_ | refine XQ.add rfl ⟨by omega, by omega⟩ ?_ | refine XQ.sub rfl ⟨by omega, by omega⟩ ?_ | refine XQ.inc rfl rfl rfl ⟨by omega, by omega⟩ ?_)
  refine XQ.gx rfl hC.1.1 hC.2.1.2 ?_
  repeat (first | refine XQ.go rfl rfl ?_ | refine XQ.zeq0 rfl ?_ | refine XQ.zeq1 rfl ?_ | refine XQ.zne0 rfl ?_ | refine XQ.zne1 rfl ?_ | refine XQ.add rfl ⟨by omega, by omega⟩ ?_ | refine XQ.sub rfl ⟨by omega, by omega⟩ ?_ | refine XQ.inc rfl rfl rfl ⟨by omega, by omega⟩ ?_)
  refine XQ.put rfl (by rw [hC.1.1]; rfl) rfl ?_
  have hC1 := hC.run hw hr
  have hf1 : CFr x 0 0 S (mset S x 6 (.inl (M 13 4 + 1))) := CFr.rf.set (Or.inl ⟨by omega, by omega⟩) _ _
  generalize mset S x 6 (.inl (M 13 4 + 1)) = S1 at hC1 hf1 ⊢
  repeat (first | refine XQ.go rfl rfl ?_ | refine XQ.zeq0 rfl ?_ | refine XQ.zeq1 rfl ?_ | refine XQ.zne0 rfl ?_ | refine XQ.zne1 rfl ?_ | refine XQ.add rfl ⟨by omega, by omega⟩ ?_ | refine XQ.sub rfl ⟨by omega, by omega⟩ ?_ | refine XQ.inc rfl rfl rfl ⟨by omega, by omega⟩ ?_)
  refine XQ.v1 rfl hC1.1.1 rfl (le8 rfl) ((C_clearMarks (d := d) hC1 (hw.run hr)).deepn (by omega)) (fun q S2 hq => ?_)
  obtain ⟨rfl, m2, f2⟩ := hq
  have f2 := hf1.tr f2
  repeat (first | refine XQ.go rfl rfl ?_ | refine XQ.zeq0 rfl ?_ | refine XQ.zeq1 rfl ?_ | refine XQ.zne0 rfl ?_ | refine XQ.zne1 rfl ?_ | refine XQ.add rfl ⟨by omega, by omega⟩ ?_ | refine XQ.sub rfl ⟨by omega, by omega⟩ ?_ | refine XQ.inc rfl rfl rfl ⟨by omega, by omega⟩ ?_)
  refine XQ.v1 rfl m2.1.1.1 rfl (le8 rfl) ((C_markVariables (d := d) m2).deepn (by omega)) (fun q S3 hq => ?_)
  obtain ⟨rfl, m3, f3⟩ := hq
  have f3 := f2.tr f3
  repeat (first | refine XQ.go rfl rfl ?_ | refine XQ.zeq0 rfl ?_ | refine XQ.zeq1 rfl ?_ | refine XQ.zne0 rfl ?_ | refine XQ.zne1 rfl ?_ | refine XQ.add rfl ⟨by omega, by omega⟩ ?_ | refine XQ.sub rfl ⟨by omega, by omega⟩ ?_ | refine XQ.inc rfl rfl rfl ⟨by omega, by omega⟩ ?_)
  refine XQ.gx rfl m3.1.1.1 m3.1.1.2.2.2.2.1 ?_
  refine XQ.v1 rfl m3.1.1.2.2.2.2.2.2.2.2.1.1 rfl (le8 rfl) ((C_markAll (d := d) m3).deepn (by omega)) (fun q S4 hq => ?_)
  obtain ⟨rfl, m4, f4⟩ := hq
  have f4 := f3.tr f4
  repeat (first | refine XQ.go rfl rfl ?_ | refine XQ.zeq0 rfl ?_ | refine XQ.zeq1 rfl ?_ | refine XQ.zne0 rfl ?_ | refine XQ.zne1 rfl ?_ | refine XQ.add rfl ⟨by omega, by omega⟩ ?_ | refine XQ.sub rfl ⟨by omega, by omega⟩ ?_ | refine XQ.inc rfl rfl rfl ⟨by omega, by omega⟩ ?_)
  refine XQ.v1 rfl m4.1.1.1 rfl (le8 rfl) (C_spreadMarks (d := d) m4) (fun q S5 hq => ?_)
  obtain ⟨rfl, m5, f5⟩ := hq
  have f5 := f4.tr f5
  repeat (first | refine XQ.go rfl rfl ?_ | refine XQ.zeq0 rfl ?_ | refine XQ.zeq1 rfl ?_ | refine XQ.zne0 rfl ?_ | refine XQ.zne1 rfl ?_ | refine XQ.add rfl ⟨by omega, by omega⟩ ?_ | refine XQ.sub rfl ⟨by omega, by omega⟩ ?_ | refine XQ.inc rfl rfl rfl ⟨by omega, by omega⟩ ?_)
  refine XQ.v1 rfl m5.1.1.1 rfl (le8 rfl) ((C_lose (d := d) m5).deepn (by omega)) (fun q S6 hq => ?_)
  obtain ⟨rfl, m6, f6⟩ := hq
  have f6 := f5.tr f6
  repeat (first | refine XQ.go rfl rfl ?_ | refine XQ.zeq0 rfl ?_ | refine XQ.zeq1 rfl ?_ | refine XQ.zne0 rfl ?_ | refine XQ.zne1 rfl ?_ | refine XQ.add rfl ⟨by omega, by omega⟩ ?_ | refine XQ.sub rfl ⟨by omega, by omega⟩ ?_ | refine XQ.inc rfl rfl rfl ⟨by omega, by omega⟩ ?_)
  refine XQ.v1 rfl m6.1.1.1 rfl (le8 rfl) ((C_handOut (d := d) m6).deepn (by omega)) (fun q S7 hq => ?_)
  obtain ⟨rfl, m7, f7⟩ := hq
  have f7 := f6.tr f7
  repeat (first | refine XQ.go rfl rfl ?_ | refine XQ.zeq0 rfl ?_ | refine XQ.zeq1 rfl ?_ | refine XQ.zne0 rfl ?_ | refine XQ.zne1 rfl ?_ | refine XQ.add rfl ⟨by omega, by omega⟩ ?_ | refine XQ.sub rfl ⟨by omega, by omega⟩ ?_ | refine XQ.inc rfl rfl rfl ⟨by omega, by omega⟩ ?_)
  refine XQ.v1 rfl m7.1.1.1 rfl (le8 rfl) (C_spreadMarks (d := d) m7) (fun q S8 hq => ?_)
  obtain ⟨rfl, m8, f8⟩ := hq
  have f8 := f7.tr f8
  have m8 : CM x S8 A (aC4 M) := by rw [← hcl]; exact m8
  have hW := aColl_wf hw hr
  have e : aColl M = aSweep (aC4 M) := rfl
  rw [e] at hW ⊢
  generalize aC4 M = N at m8 hW w4 ⊢
  have hF := m8.1.1
  obtain ⟨r1, r2, r3, r4⟩ := hF.r2
  have hb := w4.1.1
  repeat (first | refine XQ.go rfl rfl ?_ | refine XQ.zeq0 rfl ?_ | refine XQ.zeq1 rfl ?_ | refine XQ.zne0 rfl ?_ | refine XQ.zne1 rfl ?_ | refine XQ.add rfl ⟨by omega, by omega⟩ ?_ | refine XQ.sub rfl ⟨by omega, by omega⟩ ?_ | refine XQ.inc rfl rfl rfl ⟨by omega, by omega⟩ ?_)
  refine XQ.gx rfl hF.1 hF.2.2.1 ?_
  refine XQ.v1 rfl r1 rfl (le8 rfl) (C_drop (d := d + 3) (rw := x + 2) (n := N 13 0) (l := 20) (g := fun o => A (N 2 o)) (f := oM N) r1 r2 r3 r4 m8.1.2.2.1.1 hb.1 hb.2 (by decide) (fun i hi => ⟨(m8.1.2.2.2.2.1 i (by omega) hi).tg, _, (m8.2.2 i (by omega) hi).1, rfl⟩)) (fun q S9 hq => ?_)
  obtain ⟨rfl, j1, j2, j3, j4, j5, j6, j7, j8⟩ := hq
  have hP := m8.drop j1 j3 j4 j5 j6 j7 j8
  have f9 : CFr x 0 0 S8 S9 := ⟨by omega, by omega, by omega, by omega, fun a _ => by rw [j3, j4]; exact ⟨rfl, rfl⟩, fun a ha => j5 a (by omega) (by omega)⟩
  have f9 := f8.tr f9
  rw [(aSweep_ch (M := N) hb.1).1]
  repeat (first | refine XQ.go rfl rfl ?_ | refine XQ.zeq0 rfl ?_ | refine XQ.zeq1 rfl ?_ | refine XQ.zne0 rfl ?_ | refine XQ.zne1 rfl ?_ | refine XQ.add rfl ⟨by omega, by omega⟩ ?_ | refine XQ.sub rfl ⟨by omega, by omega⟩ ?_ | refine XQ.inc rfl rfl rfl ⟨by omega, by omega⟩ ?_)
  refine XQ.v1 rfl hP.1.1 rfl (le8 rfl) ((C_closeGaps (d := d) hP hW).deepn (by omega)) (fun q S10 hq => ?_)
  obtain ⟨rfl, c10, f10⟩ := hq
  repeat (first | refine XQ.go rfl rfl ?_ | refine XQ.zeq0 rfl ?_ | refine XQ.zeq1 rfl ?_ | refine XQ.zne0 rfl ?_ | refine XQ.zne1 rfl ?_ | refine XQ.add rfl ⟨by omega, by omega⟩ ?_ | refine XQ.sub rfl ⟨by omega, by omega⟩ ?_ | refine XQ.inc rfl rfl rfl ⟨by omega, by omega⟩ ?_)
  exact XQ.ret rfl rfl ⟨rfl, c10, f9.tr f10⟩
end H7
