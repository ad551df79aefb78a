/-! losing what is not strong: the class -/
theorem aLsE_n {o e : Nat} {p : Int × MM} (h : ¬ aIsM p.2 (p.2 7 (4 * (o : Int) + e)) = true) : aLsE o e p = p := by unfold aLsE; rw [if_neg h]
theorem aLsE_y {o e : Nat} {p : Int × MM} (h : aIsM p.2 (p.2 7 (4 * (o : Int) + e)) = true) : aLsE o e p = (p.1 + 1, u2 (u2 (u2 p.2 7 (4 * (o : Int) + p.1) (p.2 7 (4 * (o : Int) + e))) 5 (4 * (o : Int) + p.1) (p.2 5 (4 * (o : Int) + e))) 6 (4 * (o : Int) + p.1) (p.2 6 (4 * (o : Int) + e))) := by unfold aLsE; rw [if_pos h]
theorem astOK_t {as : List (Nat × List Nat)} {S S' : MS} {a : Nat} {r : Option Nat} (ht : tS S' = tS S) : astOK as S' a r = astOK as S a r := by
  unfold astOK; rw [ht]
section H2
variable {d x : Nat} {S S' : MS} {A : Int → Nat} {M M' : MM}
theorem CM.obj (hM : CM x S A M) (hz : zS S' = zS S) (ht : tS S' = tS S) (hl : lS S' = lS S) (hv : ∀ b j, (b < x + 22 ∨ (TG S b ∧ j ≤ 5) ∨ tS S b = 2) → vS S' b j = vS S b j) (ho : offS [4, 5, 6, 7] M M') (hW : WF M') (hc : ∀ o, 0 ≤ o → o < M 13 0 → aCells M' o = aCells M o) (hO' : cO x S' A M') : CM x S' A M' := by
  refine ⟨hM.1.obj hM.2.1 hz ht hl hv (fun j i hj => ho j i (by simp at hj ⊢; omega)) hc hO', hW, fun o z1 z2 => ?_⟩
  rw [ho 13 0 rfl] at z2
  rw [ho 2 o rfl, ho 8 o rfl, hv _ 3 (Or.inr (Or.inl ⟨(hM.1.2.2.2.2.1 o z1 z2).tg, by decide⟩))]
  exact hM.2.2 o z1 z2
theorem C_Vlose {o : Nat} (hM : CM x S A M) (h2 : M 3 o = 2) : XQ d k_V_loseUnmarked 0 (mentry (mL k_V_loseUnmarked) [.inr (some (A (M 2 o)))]) [] S (fun q S' => q = none ∧ CM x S' A (aLsS o M) ∧ CFr x 0 0 S S') := by
  have e : aLsS o M = M := by
    unfold aLsS
    have : aLsW o M = M := by unfold aLsW; rw [if_neg (by omega)]
    rw [this]; unfold aLsT; rw [if_neg (by omega)]
  rw [e]
  exact XQ.ret rfl rfl ⟨rfl, hM, CFr.rf⟩
theorem C_Klose {o : Nat} (hM : CM x S A M) (h1 : (o : Int) < M 13 0) (h3 : M 3 o = 3) : XQ d k_K_loseUnmarked 0 (mentry (mL k_K_loseUnmarked) [.inr (some (A (M 2 o)))]) [] S (fun q S' => q = none ∧ CM x S' A (aLsS o M) ∧ CFr x 0 0 S S') := by
  have e : aLsS o M = aLsW o M := by
    unfold aLsS aLsT
    rw [aLsW_off o M 3 o rfl, if_neg (by omega)]
  have hO := hM.1.2.2.2.2.1
  have hw := hM.2.1
  have hob := hO o (by omega) h1
  have hww := hw.2.2.2.2.1 o (by omega) h1 h3
  have hwf := hw.2.2.2.1 o 0 (by omega) h1 (by omega) (by omega)
  rw [Int.add_zero] at hwf
  obtain ⟨c1, c2, c3, c4, -, -⟩ := aLsS_ch hw h1
  rcases hob.2.2.2 with z | ⟨z1, z2, r, z3, z4⟩ | z
  · omega
  · repeat (first | refine XQ.go rfl rfl ?_ | refine XQ.zeq0 rfl ?_ | refine XQ.zeq1 rfl ?_ | refine XQ.zne0 rfl ?_ | refine XQ.zne1 rfl ?_ | refine XQ.add rfl ⟨by omega, by omega⟩ ?_ | refine XQ.sub rfl ⟨by omega, by omega⟩ ?_ | refine XQ.inc rfl rfl rfl ⟨by omega, by omega⟩ ?_)
    refine XQ.gx rfl z1 z3 ?_
    rcases z4.cases hO hwf.1 with ⟨y, rfl⟩ | ⟨y, -⟩ | ⟨y, rfl, y2, y3⟩
    · have e2 : aLsW o M = M := by unfold aLsW; rw [if_neg (fun z => by omega)]
      rw [e, e2]
      repeat (first | refine XQ.go rfl rfl ?_ | refine XQ.zeq0 rfl ?_ | refine XQ.zeq1 rfl ?_ | refine XQ.zne0 rfl ?_ | refine XQ.zne1 rfl ?_ | refine XQ.add rfl ⟨by omega, by omega⟩ ?_ | refine XQ.sub rfl ⟨by omega, by omega⟩ ?_ | refine XQ.inc rfl rfl rfl ⟨by omega, by omega⟩ ?_)
      exact XQ.ret rfl rfl ⟨rfl, hM, CFr.rf⟩
    · exact absurd y (hwf.2.1 h3)
    · obtain ⟨ko, k0, k1, k2⟩ := y2
      have hmk := hM.2.2 ko k0 k1
      rw [k2] at hmk
      have hism := aIsM_live hw.2.1 k0 k1
      rw [k2] at hism
      repeat (first | refine XQ.go rfl rfl ?_ | refine XQ.zeq0 rfl ?_ | refine XQ.zeq1 rfl ?_ | refine XQ.zne0 rfl ?_ | refine XQ.zne1 rfl ?_ | refine XQ.add rfl ⟨by omega, by omega⟩ ?_ | refine XQ.sub rfl ⟨by omega, by omega⟩ ?_ | refine XQ.inc rfl rfl rfl ⟨by omega, by omega⟩ ?_)
      refine XQ.gx rfl z1 z3 ?_
      refine XQ.gt rfl y3 hmk.1 ?_
      refine XQ.zne rfl (fun q => ?_) (fun q => ?_)
      · have e2 : aLsW o M = M := by
          unfold aLsW
          rw [if_neg (fun z => ?_)]
          have z' := z.2.2
          rw [hism] at z'
          exact absurd (decide_eq_true q) (by rw [z']; decide)
        rw [e, e2]
        exact XQ.ret rfl rfl ⟨rfl, hM, CFr.rf⟩
      · have e2 : aLsW o M = u2 (u2 M 5 (4 * (o : Int)) 0) 6 (4 * (o : Int)) 0 := by
          unfold aLsW
          rw [if_pos ⟨h3, y, by rw [hism, q]; rfl⟩]
        repeat (first | refine XQ.go rfl rfl ?_ | refine XQ.zeq0 rfl ?_ | refine XQ.zeq1 rfl ?_ | refine XQ.zne0 rfl ?_ | refine XQ.zne1 rfl ?_ | refine XQ.add rfl ⟨by omega, by omega⟩ ?_ | refine XQ.sub rfl ⟨by omega, by omega⟩ ?_ | refine XQ.inc rfl rfl rfl ⟨by omega, by omega⟩ ?_)
        refine XQ.put rfl (by rw [z1]; rfl) rfl ?_
        refine XQ.ret rfl rfl ⟨rfl, ?_, CFr.rf.set (Or.inr hob.1) _ _⟩
        have hc : ∀ o', 0 ≤ o' → o' < M 13 0 → aCells (aLsS o M) o' = aCells M o' := fun o' _ _ => by
          have hof := aLsW_off o M
          rw [e]
          exact aCells_off hof rfl rfl o'
        have hnum : ∀ b, tS S b = 2 → vS (mset S (A (M 2 o)) 6 (.inr none)) b 0 = vS S b 0 := fun b hb => by rw [mset_v _ _ _ _ (fun q => by rw [q] at hb; omega)]
        refine hM.obj rfl rfl rfl (fun b j hb => ?_) c1 c4 hc (fun o' a1 a2 => ?_)
        · by_cases q : b = A (M 2 o)
          · rw [q, mset_s, if_neg (by rcases hb with hb | hb | hb; have := hob.1; omega; omega; rw [q] at hb; omega)]
          · rw [mset_v _ _ _ _ q]
        · rw [c1 13 0 rfl] at a2
          have hob' := hO o' a1 a2
          by_cases q : o' = (o : Int)
          · subst q
            unfold cObj
            rw [c1 2 _ rfl, c1 3 _ rfl, hc _ a1 a2]
            refine ⟨hob'.1, by rw [mset_s, if_neg (by decide)]; exact hob'.2.1, by rw [mset_s, if_neg (by decide)]; exact hob'.2.2.1, Or.inr (Or.inl ⟨z1, h3, none, by rw [mset_s, if_pos rfl], Or.inl ⟨?_, rfl⟩⟩)⟩
            rw [e, e2, u2_n _ _ (Or.inl (by decide)), u2_s]
          · have hne := A_ne hO hw a1 a2 (by omega) h1 q
            have hm' := (hw.1.2.2.1 o' a1 a2).2.1
            refine hob'.tr3 rfl rfl hnum (fun j hj => by rw [mset_v _ _ _ _ hne]) (fun y1 y2 j => by rw [mset_v _ _ _ _ (fun q => by rw [q] at y1; omega)]) (fun y1 y2 j => by rw [mset_v _ _ _ _ (fun q => by rw [q] at y1; omega)]) ⟨c1 2 _ rfl, c1 3 _ rfl, c2 _ q, fun f f0 f1 => ⟨c3 5 _ (by omega) (by decide), c3 6 _ (by omega) (by decide), c3 7 _ (by omega) (by decide)⟩⟩ hm'
  · omega
theorem C_Tlose {o : Nat} (hM : CM x S A M) (h1 : (o : Int) < M 13 0) (h4 : M 3 o = 4) : XQ d k_T_loseUnmarked 0 (mentry (mL k_T_loseUnmarked) [.inr (some (A (M 2 o)))]) [] S (fun q S' => q = none ∧ CM x S' A (aLsS o M) ∧ CFr x 0 0 S S') := by
  have hO := hM.1.2.2.2.2.1
  have hw := hM.2.1
  have hob := hO o (by omega) h1
  have hm := hw.1.2.2.1 o (by omega) h1
  have e0 : aLsW o M = M := by unfold aLsW; rw [if_neg (by omega)]
  have e : aLsS o M = u2 (lp (aLsE o) (M 4 (o : Int)).toNat (0, M)).2 4 (o : Int) (lp (aLsE o) (M 4 (o : Int)).toNat (0, M)).1 := by
    unfold aLsS
    rw [e0]
    unfold aLsT
    rw [if_pos h4]
  obtain ⟨c1, c2, c3, c4, -, -⟩ := aLsS_ch hw h1
  have hch := fun k hk => aLsE_ch (o := o) (M := M) (n := M 4 o) (fun f f' a b c => hw.2.2.2.2.2.1 o f f' (by omega) h1 h4 a b c) k hk
  obtain ⟨k1, k2, k3, k4⟩ := hob
  rcases k4 with ⟨z1, z2, -⟩ | ⟨z1, z2, -⟩ | ⟨z1, z2, z3, z4, z5, z6, z7, z8, z9, z10⟩
  · omega
  · omega
  have h43 := hm.2.2.2.2 h4
  have loop : ∀ (j k : Nat) (S' : MS) (t : Option MV), ((k + j : Nat) : Int) = M 4 o → (zS S' = zS S ∧ qS S' = qS S ∧ tS S' = tS S ∧ lS S' = lS S ∧ (∀ b, b ≠ A (M 2 o) + 1 → b ≠ A (M 2 o) + 2 → vS S' b = vS S b) ∧ ∀ f, 0 ≤ f → f < M 4 o → vS S' (A (M 2 o) + 1) f = .inr (some (A ((lp (aLsE o) k (0, M)).2 7 (4 * (o : Int) + f)))) ∧ ∃ r, vS S' (A (M 2 o) + 2) f = .inr r ∧ VR x S A r ((lp (aLsE o) k (0, M)).2 5 (4 * (o : Int) + f)) ((lp (aLsE o) k (0, M)).2 6 (4 * (o : Int) + f))) → XQ d k_T_loseUnmarked 4 [some (.inr (some (A (M 2 o)))), some (.inl (lp (aLsE o) k (0, M)).1), some (.inl (k : Int)), t] [] S' (fun q S' => q = none ∧ CM x S' A (aLsS o M) ∧ CFr x 0 0 S S') := by
    intro j
    induction j with
    | zero =>
      intro k S' t hk ⟨i1, i2, i3, i4, i5, i6⟩
      have ek : (M 4 (o : Int)).toNat = k := by omega
      rw [ek] at e
      obtain ⟨o1, o2, o3⟩ := aLsE_lp o M k
      have v8 : vS S' (A (M 2 o)) = vS S (A (M 2 o)) := i5 _ (by omega) (by omega)
      repeat (first | refine XQ.go rfl rfl ?_ | refine XQ.zeq0 rfl ?_ | refine XQ.zeq1 rfl ?_ | refine XQ.zne0 rfl ?_ | refine XQ.zne1 rfl ?_ | refine XQ.add rfl ⟨by omega, by omega⟩ ?_ | refine XQ.sub rfl ⟨by omega, by omega⟩ ?_ | refine XQ.inc rfl rfl rfl ⟨by omega, by omega⟩ ?_)
      refine XQ.gx rfl (i3 ▸ z1) (v := .inl (M 4 o)) (by rw [v8]; exact z5) ?_
      refine XQ.cge rfl (fun _ => ?_) (fun q => by omega)
      repeat (first | refine XQ.go rfl rfl ?_ | refine XQ.zeq0 rfl ?_ | refine XQ.zeq1 rfl ?_ | refine XQ.zne0 rfl ?_ | refine XQ.zne1 rfl ?_ | refine XQ.add rfl ⟨by omega, by omega⟩ ?_ | refine XQ.sub rfl ⟨by omega, by omega⟩ ?_ | refine XQ.inc rfl rfl rfl ⟨by omega, by omega⟩ ?_)
      refine XQ.put rfl (by rw [i3, z1]; rfl) rfl ?_
      have hnum : ∀ b, tS S b = 2 → vS (mset S' (A (M 2 o)) 8 (.inl (lp (aLsE o) k (0, M)).1)) b 0 = vS S b 0 := fun b hb => by rw [mset_v _ _ _ _ (fun q => by rw [q] at hb; omega), i5 b (fun q => by rw [q] at hb; omega) (fun q => by rw [q] at hb; omega)]
      have hoth : ∀ b, b ≠ A (M 2 o) → b ≠ A (M 2 o) + 1 → b ≠ A (M 2 o) + 2 → vS (mset S' (A (M 2 o)) 8 (.inl (lp (aLsE o) k (0, M)).1)) b = vS S b := fun b b1 b2 b3 => by rw [mset_v _ _ _ _ b1, i5 b b2 b3]
      refine XQ.ret rfl rfl ⟨rfl, ?_, by show zS S ≤ zS S'; omega, by show zS S' ≤ _; omega, by show qS S ≤ qS S'; omega, by show qS S' ≤ _; omega, fun a _ => by show tS S' a = _ ∧ lS S' a = _; rw [i3, i4]; exact ⟨rfl, rfl⟩, fun a ha => hoth a (by omega) (by omega) (by omega)⟩
      have hc : ∀ o', 0 ≤ o' → o' < M 13 0 → aCells (aLsS o M) o' = aCells M o' := fun o' a1 a2 => by
        unfold aCells
        rw [c1 3 o' rfl]
        by_cases q : o' = (o : Int)
        · rw [q, h4]; rfl
        · rw [c2 o' q]
      refine hM.obj i1 i3 i4 (fun b j hb => ?_) c1 c4 hc (fun o' a1 a2 => ?_)
      · rcases hb with hb | hb | hb
        · rw [hoth b (by omega) (by omega) (by omega)]
        · by_cases q : b = A (M 2 o)
          · rw [q, mset_s, if_neg (by omega), v8]
          · rw [hoth b q (fun q => by rw [q] at hb; rcases hb.1 with y | y | y <;> omega) (fun q => by rw [q] at hb; rcases hb.1 with y | y | y <;> omega)]
        · rw [hoth b (fun q => by rw [q] at hb; omega) (fun q => by rw [q] at hb; omega) (fun q => by rw [q] at hb; omega)]
      · rw [c1 13 0 rfl] at a2
        have hob' := hO o' a1 a2
        by_cases q : o' = (o : Int)
        · subst q
          unfold cObj
          rw [c1 2 _ rfl, c1 3 _ rfl, hc _ a1 a2, e, u2_s]
          have hu : ∀ j i, j ≠ 4 → u2 (lp (aLsE o) k (0, M)).2 4 (o : Int) (lp (aLsE o) k (0, M)).1 j i = (lp (aLsE o) k (0, M)).2 j i := fun j i hj => u2_n _ _ (Or.inl hj)
          refine ⟨k1, by rw [mset_s, if_neg (by decide), v8]; exact k2, by rw [mset_s, if_neg (by decide), v8]; exact k3, Or.inr (Or.inr ⟨by show tS S' _ = _; rw [i3]; exact z1, z2, by rw [mset_s, if_neg (by decide), v8]; exact z3, by rw [mset_s, if_neg (by decide), v8]; exact z4, by rw [mset_s, if_pos rfl], by show tS S' _ = _; rw [i3]; exact z6, by show lS S' _ = _; rw [i4]; exact z7, by show tS S' _ = _; rw [i3]; exact z8, by show lS S' _ = _; rw [i4]; exact z9, fun f f0 f1 => ?_⟩)⟩
          rw [mset_v _ _ _ _ (show A (M 2 o) + 1 ≠ A (M 2 o) by omega), mset_v _ _ _ _ (show A (M 2 o) + 2 ≠ A (M 2 o) by omega), hu 5 _ (by decide), hu 6 _ (by decide), hu 7 _ (by decide)]
          obtain ⟨w1, r, w2, w3⟩ := i6 f f0 (by omega)
          exact ⟨w1, r, w2, w3.tr3 i3 hnum⟩
        · have hne := A_ne hO hw a1 a2 (by omega) h1 q
          have hm' := (hw.1.2.2.1 o' a1 a2).2.1
          have n1 : A (M 2 o') ≠ A (M 2 o) + 1 := fun e => by have := hob'.tg; rw [e] at this; rcases this with y | y | y <;> omega
          have n2 : A (M 2 o') ≠ A (M 2 o) + 2 := fun e => by have := hob'.tg; rw [e] at this; rcases this with y | y | y <;> omega
          exact hob'.tr3 i3 i4 hnum (fun j hj => by rw [hoth _ hne n1 n2]) (fun y1 y2 j => by
              rw [hoth _ (fun q => by rw [q] at y1; omega) (by omega) (fun q => by
                have q' : A (M 2 o') = A (M 2 o) + 1 := by omega
                exact n1 q')]) (fun y1 y2 j => by
              rw [hoth _ (fun q => by rw [q] at y1; omega) (fun q => by rw [q] at y1; omega) (by omega)]) ⟨c1 2 _ rfl, c1 3 _ rfl, c2 _ q, fun f f0 f1 => ⟨c3 5 _ (by omega) (by decide), c3 6 _ (by omega) (by decide), c3 7 _ (by omega) (by decide)⟩⟩ hm'
    | succ j ih =>
      intro k S' t hk ⟨i1, i2, i3, i4, i5, i6⟩
      obtain ⟨o1, o2, o3⟩ := aLsE_lp o M k
      obtain ⟨g1, g2, g3⟩ := hch k (by omega)
      have st : lp (aLsE o) (k + 1) (0, M) = aLsE o k (lp (aLsE o) k (0, M)) := rfl
      have v8 : vS S' (A (M 2 o)) = vS S (A (M 2 o)) := i5 _ (by omega) (by omega)
      have hwf := hw.2.2.2.1 o k (by omega) h1 (by omega) (by omega)
      have hlk := hwf.2.2 h4
      have htk := live_tg hO hlk
      obtain ⟨y0, r, y1, y2⟩ := i6 k (by omega) (by omega)
      rw [g3 7 _ (Or.inr (by omega))] at y0
      have y2' := y2
      rw [g3 5 _ (Or.inr (by omega)), g3 6 _ (Or.inr (by omega))] at y2'
      have hne1 : A (M 7 (4 * (o : Int) + k)) ≠ A (M 2 o) + 1 := fun q => by rw [q] at htk; rcases htk with y | y | y <;> omega
      have hne2 : A (M 7 (4 * (o : Int) + k)) ≠ A (M 2 o) + 2 := fun q => by rw [q] at htk; rcases htk with y | y | y <;> omega
      have hlk2 := hlk
      obtain ⟨ko, ko0, ko1, ko2⟩ := hlk
      have hmk := hM.2.2 ko ko0 ko1
      rw [ko2] at hmk
      have hism := aIsM_live hw.2.1 ko0 ko1
      rw [ko2] at hism
      have em : aIsM (lp (aLsE o) k (0, M)).2 ((lp (aLsE o) k (0, M)).2 7 (4 * (o : Int) + k)) = decide (¬ M 8 ko = 0) := by rw [aIsM_off o1 rfl rfl (o1 13 0 rfl), g3 7 _ (Or.inr (by omega)), hism]
      repeat (first | refine XQ.go rfl rfl ?_ | refine XQ.zeq0 rfl ?_ | refine XQ.zeq1 rfl ?_ | refine XQ.zne0 rfl ?_ | refine XQ.zne1 rfl ?_ | refine XQ.add rfl ⟨by omega, by omega⟩ ?_ | refine XQ.sub rfl ⟨by omega, by omega⟩ ?_ | refine XQ.inc rfl rfl rfl ⟨by omega, by omega⟩ ?_)
      refine XQ.gx rfl (i3 ▸ z1) (v := .inl (M 4 o)) (by rw [v8]; exact z5) ?_
      refine XQ.cge rfl (fun q => by omega) (fun _ => ?_)
      repeat (first | refine XQ.go rfl rfl ?_ | refine XQ.zeq0 rfl ?_ | refine XQ.zeq1 rfl ?_ | refine XQ.zne0 rfl ?_ | refine XQ.zne1 rfl ?_ | refine XQ.add rfl ⟨by omega, by omega⟩ ?_ | refine XQ.sub rfl ⟨by omega, by omega⟩ ?_ | refine XQ.inc rfl rfl rfl ⟨by omega, by omega⟩ ?_)
      refine XQ.gx rfl (i3 ▸ z1) (v := .inr (some (A (M 2 o) + 1))) (by rw [v8]; exact z3) ?_
      repeat (first | refine XQ.go rfl rfl ?_ | refine XQ.zeq0 rfl ?_ | refine XQ.zeq1 rfl ?_ | refine XQ.zne0 rfl ?_ | refine XQ.zne1 rfl ?_ | refine XQ.add rfl ⟨by omega, by omega⟩ ?_ | refine XQ.sub rfl ⟨by omega, by omega⟩ ?_ | refine XQ.inc rfl rfl rfl ⟨by omega, by omega⟩ ?_)
      refine XQ.lx rfl (Or.inl (i3 ▸ z6)) (by omega) (by rw [i4, z7]; omega) y0 ?_
      repeat (first | refine XQ.go rfl rfl ?_ | refine XQ.zeq0 rfl ?_ | refine XQ.zeq1 rfl ?_ | refine XQ.zne0 rfl ?_ | refine XQ.zne1 rfl ?_ | refine XQ.add rfl ⟨by omega, by omega⟩ ?_ | refine XQ.sub rfl ⟨by omega, by omega⟩ ?_ | refine XQ.inc rfl rfl rfl ⟨by omega, by omega⟩ ?_)
      refine XQ.gt rfl (by unfold TG; rw [i3]; exact htk) (v := .inl (M 8 ko)) (by rw [i5 _ hne1 hne2]; exact hmk.1) ?_
      refine XQ.zeq rfl (fun q => ?_) (fun q => ?_)
      · have ek : lp (aLsE o) (k + 1) (0, M) = lp (aLsE o) k (0, M) := by
          rw [st]
          exact aLsE_n (by rw [em]; exact fun z => of_decide_eq_true z q)
        have ih' := fun t => ih (k + 1) S' t (by omega) (by rw [ek]; exact ⟨i1, i2, i3, i4, i5, i6⟩)
        rw [ek] at ih'
        repeat (first | exact ih' _ | refine XQ.go rfl rfl ?_ | refine XQ.zeq0 rfl ?_ | refine XQ.zeq1 rfl ?_ | refine XQ.zne0 rfl ?_ | refine XQ.zne1 rfl ?_ | refine XQ.add rfl ⟨by omega, by omega⟩ ?_ | refine XQ.sub rfl ⟨by omega, by omega⟩ ?_ | refine XQ.inc rfl rfl rfl ⟨by omega, by omega⟩ ?_)
      · have ek : lp (aLsE o) (k + 1) (0, M) = ((lp (aLsE o) k (0, M)).1 + 1, u2 (u2 (u2 (lp (aLsE o) k (0, M)).2 7 (4 * (o : Int) + (lp (aLsE o) k (0, M)).1) ((lp (aLsE o) k (0, M)).2 7 (4 * (o : Int) + k))) 5 (4 * (o : Int) + (lp (aLsE o) k (0, M)).1) ((lp (aLsE o) k (0, M)).2 5 (4 * (o : Int) + k))) 6 (4 * (o : Int) + (lp (aLsE o) k (0, M)).1) ((lp (aLsE o) k (0, M)).2 6 (4 * (o : Int) + k))) := by
          rw [st]
          exact aLsE_y (em.trans (decide_eq_true q))
        have y2n := y2
        generalize hp : lp (aLsE o) k (0, M) = p at *
        have l0 : 0 ≤ p.1 := o2
        have l1 : p.1 ≤ (k : Int) := o3
        repeat (first | refine XQ.go rfl rfl ?_ | refine XQ.zeq0 rfl ?_ | refine XQ.zeq1 rfl ?_ | refine XQ.zne0 rfl ?_ | refine XQ.zne1 rfl ?_ | refine XQ.add rfl ⟨by omega, by omega⟩ ?_ | refine XQ.sub rfl ⟨by omega, by omega⟩ ?_ | refine XQ.inc rfl rfl rfl ⟨by omega, by omega⟩ ?_)
        refine XQ.gx rfl (i3 ▸ z1) (v := .inr (some (A (M 2 o) + 1))) (by rw [v8]; exact z3) ?_
        repeat (first | refine XQ.go rfl rfl ?_ | refine XQ.zeq0 rfl ?_ | refine XQ.zeq1 rfl ?_ | refine XQ.zne0 rfl ?_ | refine XQ.zne1 rfl ?_ | refine XQ.add rfl ⟨by omega, by omega⟩ ?_ | refine XQ.sub rfl ⟨by omega, by omega⟩ ?_ | refine XQ.inc rfl rfl rfl ⟨by omega, by omega⟩ ?_)
        refine XQ.ast rfl (TG.ast (S := S') (by unfold TG; rw [i3]; exact htk) (i3 ▸ z6)) o2 (by rw [i4, z7]; omega) ?_
        repeat (first | refine XQ.go rfl rfl ?_ | refine XQ.zeq0 rfl ?_ | refine XQ.zeq1 rfl ?_ | refine XQ.zne0 rfl ?_ | refine XQ.zne1 rfl ?_ | refine XQ.add rfl ⟨by omega, by omega⟩ ?_ | refine XQ.sub rfl ⟨by omega, by omega⟩ ?_ | refine XQ.inc rfl rfl rfl ⟨by omega, by omega⟩ ?_)
        refine XQ.gx rfl (i3 ▸ z1) (v := .inr (some (A (M 2 o) + 2))) (by rw [mset_v _ _ _ _ (by omega), v8]; exact z4) ?_
        repeat (first | refine XQ.go rfl rfl ?_ | refine XQ.zeq0 rfl ?_ | refine XQ.zeq1 rfl ?_ | refine XQ.zne0 rfl ?_ | refine XQ.zne1 rfl ?_ | refine XQ.add rfl ⟨by omega, by omega⟩ ?_ | refine XQ.sub rfl ⟨by omega, by omega⟩ ?_ | refine XQ.inc rfl rfl rfl ⟨by omega, by omega⟩ ?_)
        refine XQ.gx rfl (i3 ▸ z1) (v := .inr (some (A (M 2 o) + 2))) (by rw [mset_v _ _ _ _ (by omega), v8]; exact z4) ?_
        repeat (first | refine XQ.go rfl rfl ?_ | refine XQ.zeq0 rfl ?_ | refine XQ.zeq1 rfl ?_ | refine XQ.zne0 rfl ?_ | refine XQ.zne1 rfl ?_ | refine XQ.add rfl ⟨by omega, by omega⟩ ?_ | refine XQ.sub rfl ⟨by omega, by omega⟩ ?_ | refine XQ.inc rfl rfl rfl ⟨by omega, by omega⟩ ?_)
        refine XQ.lx rfl (Or.inr (i3 ▸ z8)) (by omega) (by show (k : Int) < lS S' _; rw [i4, z9]; omega) (v := .inr r) (by rw [mset_v _ _ _ _ (by omega)]; exact y1) ?_
        refine XQ.ast rfl ?_ o2 (by show p.1 < lS S' _; rw [i4, z9]; omega) ?_
        · exact (astOK_t (S := S) (S' := mset S' _ _ _) i3).trans (y2'.ast hO hwf.1 z8)
        have ih' := fun t => ih (k + 1) (mset (mset S' (A (M 2 o) + 1) p.1 (.inr (some (A (M 7 (4 * (o : Int) + k)))))) (A (M 2 o) + 2) p.1 (.inr r)) t (by omega) (by
          rw [ek]
          dsimp only
          refine ⟨i1, i2, i3, i4, fun b b1 b2 => by rw [mset_v _ _ _ _ b2, mset_v _ _ _ _ b1]; exact i5 b b1 b2, fun f f0 f1 => ?_⟩
          rw [mset_v _ _ _ _ (show A (M 2 o) + 1 ≠ A (M 2 o) + 2 by omega), mset_s, mset_s, mset_v _ _ _ _ (show A (M 2 o) + 2 ≠ A (M 2 o) + 1 by omega)]
          by_cases q2 : f = p.1
          · subst q2
            rw [if_pos rfl, if_pos rfl]
            refine ⟨?_, r, rfl, ?_⟩
            · rw [u2_n _ _ (Or.inl (by decide)), u2_n _ _ (Or.inl (by decide)), u2_s, g3 7 _ (Or.inr (by omega))]
            · rw [u2_n (j' := 5) _ _ (Or.inl (by decide)), u2_s, u2_s]
              exact y2
          · rw [if_neg q2, if_neg q2]
            obtain ⟨w1, r', w2, w3⟩ := i6 f f0 f1
            refine ⟨?_, r', w2, ?_⟩
            · rw [u2_n _ _ (Or.inl (by decide)), u2_n _ _ (Or.inl (by decide)), u2_n _ _ (Or.inr (by omega))]
              exact w1
            · rw [u2_n (j' := 5) _ _ (Or.inl (by decide)), u2_n _ _ (Or.inr (by omega)), u2_n (j' := 5) _ _ (Or.inl (by decide)), u2_n _ _ (Or.inr (by omega)), u2_n (j' := 6) _ _ (Or.inl (by decide)), u2_n _ _ (Or.inl (by decide))]
              exact w3)
        rw [ek] at ih'
        repeat (first | exact ih' _ | refine XQ.go rfl rfl ?_ | refine XQ.zeq0 rfl ?_ | refine XQ.zeq1 rfl ?_ | refine XQ.zne0 rfl ?_ | refine XQ.zne1 rfl ?_ | refine XQ.add rfl ⟨by omega, by omega⟩ ?_ | refine XQ.sub rfl ⟨by omega, by omega⟩ ?_ | refine XQ.inc rfl rfl rfl ⟨by omega, by omega⟩ ?_)
  have k0 := loop (M 4 o).toNat 0 S none (by omega) ⟨rfl, rfl, rfl, rfl, fun _ _ _ => rfl, z10⟩
  repeat (first | exact k0 | refine XQ.go rfl rfl ?_ | refine XQ.zeq0 rfl ?_ | refine XQ.zeq1 rfl ?_ | refine XQ.zne0 rfl ?_ | refine XQ.zne1 rfl ?_ | refine XQ.add rfl ⟨by omega, by omega⟩ ?_ | refine XQ.sub rfl ⟨by omega, by omega⟩ ?_ | refine XQ.inc rfl rfl rfl ⟨by omega, by omega⟩ ?_)
theorem C_lose (hM : CM x S A M) : XQ (d + 1) k_H_loseWhatIsNotStrong 0 (mentry (mL k_H_loseWhatIsNotStrong) [.inr (some x)]) [] S (fun q S' => q = none ∧ CM x S' A (aLoose M) ∧ CFr x 0 0 S S') := by
  have hb := hM.2.1.1.1
  have loop : ∀ (j k : Nat) (S' : MS) (t : Option MV), ((k + j : Nat) : Int) = M 13 0 → CM x S' A (lp aLsS k M) → CFr x 0 0 S S' → XQ (d + 1) k_H_loseWhatIsNotStrong 2 [some (.inr (some x)), some (.inl (k : Int)), t] [] S' (fun q S' => q = none ∧ CM x S' A (aLoose M) ∧ CFr x 0 0 S S') := by
    intro j
    induction j with
    | zero =>
      intro k S' t hk hm hf
      have ho := (aLoose_ch hM.2.1 k (by omega)).1
      have hF := hm.1.1
      obtain ⟨r1, r2, r3, r4⟩ := hF.r2
      have hr := hm.1.2.2.1.1.1
      rw [ho 13 0 rfl] at hr
      have e : aLoose M = lp aLsS k M := by unfold aLoose; rw [show (M 13 0).toNat = k by omega]
      rw [e]
      repeat (first | refine XQ.go rfl rfl ?_ | refine XQ.zeq0 rfl ?_ | refine XQ.zeq1 rfl ?_ | refine XQ.zne0 rfl ?_ | refine XQ.zne1 rfl ?_ | refine XQ.add rfl ⟨by omega, by omega⟩ ?_ | refine XQ.sub rfl ⟨by omega, by omega⟩ ?_ | refine XQ.inc rfl rfl rfl ⟨by omega, by omega⟩ ?_)
      refine XQ.gx rfl hF.1 hF.2.2.1 ?_
      refine XQ.v1 rfl r1 rfl (le8 rfl) (C_length (d := d) r1 hr) (fun q S2 hq => ?_)
      obtain ⟨rfl, rfl⟩ := hq
      refine XQ.cge rfl (fun _ => ?_) (fun q => by omega)
      exact XQ.ret rfl rfl ⟨rfl, hm, hf⟩
    | succ j ih =>
      intro k S' t hk hm hf
      have ho := (aLoose_ch hM.2.1 k (by omega)).1
      have hF := hm.1.1
      obtain ⟨r1, r2, r3, r4⟩ := hF.r2
      have hrow := hm.1.2.2.1.1
      have hr := hrow.1
      have hkn : (k : Int) < lp aLsS k M 13 0 := by rw [ho 13 0 rfl]; omega
      have hob := hm.1.2.2.2.2.1 k (by omega) hkn
      rw [ho 13 0 rfl] at hr
      have st : lp aLsS (k + 1) M = aLsS k (lp aLsS k M) := rfl
      have fin : ∀ (S2 : MS), CM x S2 A (aLsS k (lp aLsS k M)) → CFr x 0 0 S' S2 → ∀ t, XQ (d + 1) k_H_loseWhatIsNotStrong 30 [some (.inr (some x)), some (.inl (k : Int)), t] [] S2 (fun q S' => q = none ∧ CM x S' A (aLoose M) ∧ CFr x 0 0 S S') := by
        intro S2 hm2 hf2 t
        have ih' := fun t => ih (k + 1) S2 t (by omega) hm2 (hf.tr hf2)
        repeat (first | exact ih' _ | refine XQ.go rfl rfl ?_ | refine XQ.zeq0 rfl ?_ | refine XQ.zeq1 rfl ?_ | refine XQ.zne0 rfl ?_ | refine XQ.zne1 rfl ?_ | refine XQ.add rfl ⟨by omega, by omega⟩ ?_ | refine XQ.sub rfl ⟨by omega, by omega⟩ ?_ | refine XQ.inc rfl rfl rfl ⟨by omega, by omega⟩ ?_)
      repeat (first | refine XQ.go rfl rfl ?_ | refine XQ.zeq0 rfl ?_ | refine XQ.zeq1 rfl ?_ | refine XQ.zne0 rfl ?_ | refine XQ.zne1 rfl ?_ | refine XQ.add rfl ⟨by omega, by omega⟩ ?_ | refine XQ.sub rfl ⟨by omega, by omega⟩ ?_ | refine XQ.inc rfl rfl rfl ⟨by omega, by omega⟩ ?_)
      refine XQ.gx rfl hF.1 hF.2.2.1 ?_
      refine XQ.v1 rfl r1 rfl (le8 rfl) (C_length (d := d) r1 hr) (fun q S2 hq => ?_)
      obtain ⟨rfl, rfl⟩ := hq
      refine XQ.cge rfl (fun q => by omega) (fun _ => ?_)
      repeat (first | refine XQ.go rfl rfl ?_ | refine XQ.zeq0 rfl ?_ | refine XQ.zeq1 rfl ?_ | refine XQ.zne0 rfl ?_ | refine XQ.zne1 rfl ?_ | refine XQ.add rfl ⟨by omega, by omega⟩ ?_ | refine XQ.sub rfl ⟨by omega, by omega⟩ ?_ | refine XQ.inc rfl rfl rfl ⟨by omega, by omega⟩ ?_)
      refine XQ.gx rfl hF.1 hF.2.2.1 ?_
      repeat (first | refine XQ.go rfl rfl ?_ | refine XQ.zeq0 rfl ?_ | refine XQ.zeq1 rfl ?_ | refine XQ.zne0 rfl ?_ | refine XQ.zne1 rfl ?_ | refine XQ.add rfl ⟨by omega, by omega⟩ ?_ | refine XQ.sub rfl ⟨by omega, by omega⟩ ?_ | refine XQ.inc rfl rfl rfl ⟨by omega, by omega⟩ ?_)
      refine XQ.v2 rfl r1 rfl (le8 rfl) (C_at (d := d) (i := (k : Int)) r1 r2 r3 r4 hrow (by rw [ho 13 0 rfl]; omega) (by omega) (by rw [ho 13 0 rfl]; omega)) (fun q S3 hq => ?_)
      obtain ⟨rfl, rfl⟩ := hq
      repeat (first | refine XQ.go rfl rfl ?_ | refine XQ.zeq0 rfl ?_ | refine XQ.zeq1 rfl ?_ | refine XQ.zne0 rfl ?_ | refine XQ.zne1 rfl ?_ | refine XQ.add rfl ⟨by omega, by omega⟩ ?_ | refine XQ.sub rfl ⟨by omega, by omega⟩ ?_ | refine XQ.inc rfl rfl rfl ⟨by omega, by omega⟩ ?_)
      rcases hob.2.2.2 with ⟨z1, z2, -⟩ | ⟨z1, z2, -⟩ | ⟨z1, z2, -⟩
      · refine XQ.v1 rfl z1 rfl (le8 rfl) (C_Vlose (d := d) hm z2) (fun q S2 hq => ?_)
        obtain ⟨rfl, hm2, hf2⟩ := hq
        exact fin S2 hm2 hf2 _
      · refine XQ.v1 rfl z1 rfl (le8 rfl) (C_Klose (d := d) hm hkn z2) (fun q S2 hq => ?_)
        obtain ⟨rfl, hm2, hf2⟩ := hq
        exact fin S2 hm2 hf2 _
      · refine XQ.v1 rfl z1 rfl (le8 rfl) (C_Tlose (d := d) hm hkn z2) (fun q S2 hq => ?_)
        obtain ⟨rfl, hm2, hf2⟩ := hq
        exact fin S2 hm2 hf2 _
  have k0 := loop (M 13 0).toNat 0 S none (by omega) hM CFr.rf
  repeat (first | exact k0 | refine XQ.go rfl rfl ?_ | refine XQ.zeq0 rfl ?_ | refine XQ.zeq1 rfl ?_ | refine XQ.zne0 rfl ?_ | refine XQ.zne1 rfl ?_ | refine XQ.add rfl ⟨by omega, by omega⟩ ?_ | refine XQ.sub rfl ⟨by omega, by omega⟩ ?_ | refine XQ.inc rfl rfl rfl ⟨by omega, by omega⟩ ?_)
end H2
