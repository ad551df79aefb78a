/-! dropping the unmarked; handing out the registered -/
section H4
variable {d x : Nat} {S S' : MS} {A : Int → Nat} {M M' : MM}
theorem C_drop {rw : Nat} {n l : Int} {g : Int → Nat} {f : Nat → Bool} (ht : tS S rw = 6) (h0 : vS S rw 0 = .inr (some (rw + 1))) (ht2 : tS S (rw + 1) = 22) (hl : lS S (rw + 1) = l) (hr : cRow S rw n g) (n0 : 0 ≤ n) (n1 : n ≤ l) (hl2 : l ≤ 20) (hg : ∀ i : Nat, (i : Int) < n → TG S (g i) ∧ ∃ b, vS S (g i) 3 = .inl b ∧ f i = decide (¬ b = 0)) : XQ d k_R_dropUnmarked 0 (mentry (mL k_R_dropUnmarked) [.inr (some rw)]) [] S (fun q S' => q = some (.inl (n - cK f n.toNat)) ∧ zS S' = zS S ∧ qS S' = qS S ∧ tS S' = tS S ∧ lS S' = lS S ∧ (∀ b, b ≠ rw → b ≠ rw + 1 → vS S' b = vS S b) ∧ (∀ j, j ≠ 1 → vS S' rw j = vS S rw j) ∧ vS S' rw 1 = .inl (cK f n.toNat) ∧ ∀ i : Nat, (i : Int) < n → f i = true → vS S' (rw + 1) (cK f i) = .inr (some (g i))) := by
  obtain ⟨hr1, hr2⟩ := hr
  have loop : ∀ (j k : Nat) (S' : MS) (t : Option MV), ((k + j : Nat) : Int) = n → (zS S' = zS S ∧ qS S' = qS S ∧ tS S' = tS S ∧ lS S' = lS S ∧ (∀ b, b ≠ rw + 1 → vS S' b = vS S b) ∧ (∀ i : Nat, i < k → f i = true → vS S' (rw + 1) (cK f i) = .inr (some (g i))) ∧ (∀ q, cK f k ≤ q → q < n → vS S' (rw + 1) q = .inr (some (g q)))) → XQ d k_R_dropUnmarked 4 [some (.inr (some rw)), some (.inl (cK f k)), some (.inl (k : Int)), t] [] S' (fun q S' => q = some (.inl (n - cK f n.toNat)) ∧ zS S' = zS S ∧ qS S' = qS S ∧ tS S' = tS S ∧ lS S' = lS S ∧ (∀ b, b ≠ rw → b ≠ rw + 1 → vS S' b = vS S b) ∧ (∀ j, j ≠ 1 → vS S' rw j = vS S rw j) ∧ vS S' rw 1 = .inl (cK f n.toNat) ∧ ∀ i : Nat, (i : Int) < n → f i = true → vS S' (rw + 1) (cK f i) = .inr (some (g i))) := by
    intro j
    induction j with
    | zero =>
      intro k S' t hk ⟨i1, i2, i3, i4, i5, i6, i7⟩
      have ek : n.toNat = k := by omega
      rw [ek]
      have hck := cK_in f k
      have e0 : vS S' rw = vS S rw := i5 rw (by omega)
      repeat (first | refine XQ.go rfl rfl ?_ | refine XQ.zeq0 rfl ?_ | refine XQ.zeq1 rfl ?_ | refine XQ.zne0 rfl ?_ | refine XQ.zne1 rfl ?_ | refine XQ.add rfl ⟨by omega, by omega⟩ ?_ | refine XQ.sub rfl ⟨by omega, by omega⟩ ?_ | refine XQ.inc rfl rfl rfl ⟨by omega, by omega⟩ ?_)
      refine XQ.gx rfl (i3 ▸ ht) (v := .inl n) (by rw [e0]; exact hr1) ?_
      refine XQ.cge rfl (fun _ => ?_) (fun q => by omega)
      repeat (first | refine XQ.go rfl rfl ?_ | refine XQ.zeq0 rfl ?_ | refine XQ.zeq1 rfl ?_ | refine XQ.zne0 rfl ?_ | refine XQ.zne1 rfl ?_ | refine XQ.add rfl ⟨by omega, by omega⟩ ?_ | refine XQ.sub rfl ⟨by omega, by omega⟩ ?_ | refine XQ.inc rfl rfl rfl ⟨by omega, by omega⟩ ?_)
      refine XQ.gx rfl (i3 ▸ ht) (v := .inl n) (by rw [e0]; exact hr1) ?_
      repeat (first | refine XQ.go rfl rfl ?_ | refine XQ.zeq0 rfl ?_ | refine XQ.zeq1 rfl ?_ | refine XQ.zne0 rfl ?_ | refine XQ.zne1 rfl ?_ | refine XQ.add rfl ⟨by omega, by omega⟩ ?_ | refine XQ.sub rfl ⟨by omega, by omega⟩ ?_ | refine XQ.inc rfl rfl rfl ⟨by omega, by omega⟩ ?_)
      refine XQ.put rfl (by rw [i3, ht]; rfl) rfl ?_
      repeat (first | refine XQ.go rfl rfl ?_ | refine XQ.zeq0 rfl ?_ | refine XQ.zeq1 rfl ?_ | refine XQ.zne0 rfl ?_ | refine XQ.zne1 rfl ?_ | refine XQ.add rfl ⟨by omega, by omega⟩ ?_ | refine XQ.sub rfl ⟨by omega, by omega⟩ ?_ | refine XQ.inc rfl rfl rfl ⟨by omega, by omega⟩ ?_)
      refine XQ.ret rfl rfl ⟨rfl, i1, i2, i3, i4, fun b b1 b2 => by rw [mset_v _ _ _ _ b1]; exact i5 b b2, fun j hj => by rw [mset_s, if_neg hj, e0], by rw [mset_s, if_pos rfl], fun i hi hf => ?_⟩
      rw [mset_v _ _ _ _ (by omega)]
      exact i6 i (by omega) hf
    | succ j ih =>
      intro k S' t hk ⟨i1, i2, i3, i4, i5, i6, i7⟩
      have hck := cK_in f k
      have e0 : vS S' rw = vS S rw := i5 rw (by omega)
      obtain ⟨htg, b, hb, hfb⟩ := hg k (by omega)
      have hne : g k ≠ rw + 1 := fun q => by rw [q] at htg; rcases htg with y | y | y <;> omega
      have ck1 : cK f (k + 1) = cK f k + bI (f k) := rfl
      repeat (first | refine XQ.go rfl rfl ?_ | refine XQ.zeq0 rfl ?_ | refine XQ.zeq1 rfl ?_ | refine XQ.zne0 rfl ?_ | refine XQ.zne1 rfl ?_ | refine XQ.add rfl ⟨by omega, by omega⟩ ?_ | refine XQ.sub rfl ⟨by omega, by omega⟩ ?_ | refine XQ.inc rfl rfl rfl ⟨by omega, by omega⟩ ?_)
      refine XQ.gx rfl (i3 ▸ ht) (v := .inl n) (by rw [e0]; exact hr1) ?_
      refine XQ.cge rfl (fun q => by omega) (fun _ => ?_)
      repeat (first | refine XQ.go rfl rfl ?_ | refine XQ.zeq0 rfl ?_ | refine XQ.zeq1 rfl ?_ | refine XQ.zne0 rfl ?_ | refine XQ.zne1 rfl ?_ | refine XQ.add rfl ⟨by omega, by omega⟩ ?_ | refine XQ.sub rfl ⟨by omega, by omega⟩ ?_ | refine XQ.inc rfl rfl rfl ⟨by omega, by omega⟩ ?_)
      refine XQ.gx rfl (i3 ▸ ht) (v := .inr (some (rw + 1))) (by rw [e0]; exact h0) ?_
      repeat (first | refine XQ.go rfl rfl ?_ | refine XQ.zeq0 rfl ?_ | refine XQ.zeq1 rfl ?_ | refine XQ.zne0 rfl ?_ | refine XQ.zne1 rfl ?_ | refine XQ.add rfl ⟨by omega, by omega⟩ ?_ | refine XQ.sub rfl ⟨by omega, by omega⟩ ?_ | refine XQ.inc rfl rfl rfl ⟨by omega, by omega⟩ ?_)
      refine XQ.lx rfl (Or.inl (i3 ▸ ht2)) (by omega) (by rw [i4, hl]; omega) (i7 k (by omega) (by omega)) ?_
      repeat (first | refine XQ.go rfl rfl ?_ | refine XQ.zeq0 rfl ?_ | refine XQ.zeq1 rfl ?_ | refine XQ.zne0 rfl ?_ | refine XQ.zne1 rfl ?_ | refine XQ.add rfl ⟨by omega, by omega⟩ ?_ | refine XQ.sub rfl ⟨by omega, by omega⟩ ?_ | refine XQ.inc rfl rfl rfl ⟨by omega, by omega⟩ ?_)
      refine XQ.gt rfl (by unfold TG; rw [i3]; exact htg) (v := .inl b) (by rw [i5 _ hne]; exact hb) ?_
      refine XQ.zeq rfl (fun q => ?_) (fun q => ?_)
      · have hf : f k = false := by rw [hfb, q]; rfl
        have ck2 : cK f (k + 1) = cK f k := by rw [ck1, hf]; show cK f k + 0 = _; omega
        have ih' := fun t => ih (k + 1) S' t (by omega) ⟨i1, i2, i3, i4, i5, fun i hi hfi => by
          by_cases c : i = k
          · subst c; rw [hf] at hfi; cases hfi
          · exact i6 i (by omega) hfi, fun q q1 q2 => i7 q (by omega) q2⟩
        rw [ck2] at ih'
        repeat (first | exact ih' _ | refine XQ.go rfl rfl ?_ | refine XQ.zeq0 rfl ?_ | refine XQ.zeq1 rfl ?_ | refine XQ.zne0 rfl ?_ | refine XQ.zne1 rfl ?_ | refine XQ.add rfl ⟨by omega, by omega⟩ ?_ | refine XQ.sub rfl ⟨by omega, by omega⟩ ?_ | refine XQ.inc rfl rfl rfl ⟨by omega, by omega⟩ ?_)
      · have hf : f k = true := by rw [hfb]; exact decide_eq_true q
        have ck2 : cK f (k + 1) = cK f k + 1 := by rw [ck1, hf]; rfl
        repeat (first | refine XQ.go rfl rfl ?_ | refine XQ.zeq0 rfl ?_ | refine XQ.zeq1 rfl ?_ | refine XQ.zne0 rfl ?_ | refine XQ.zne1 rfl ?_ | refine XQ.add rfl ⟨by omega, by omega⟩ ?_ | refine XQ.sub rfl ⟨by omega, by omega⟩ ?_ | refine XQ.inc rfl rfl rfl ⟨by omega, by omega⟩ ?_)
        refine XQ.gx rfl (i3 ▸ ht) (v := .inr (some (rw + 1))) (by rw [e0]; exact h0) ?_
        repeat (first | refine XQ.go rfl rfl ?_ | refine XQ.zeq0 rfl ?_ | refine XQ.zeq1 rfl ?_ | refine XQ.zne0 rfl ?_ | refine XQ.zne1 rfl ?_ | refine XQ.add rfl ⟨by omega, by omega⟩ ?_ | refine XQ.sub rfl ⟨by omega, by omega⟩ ?_ | refine XQ.inc rfl rfl rfl ⟨by omega, by omega⟩ ?_)
        refine XQ.ast rfl (TG.ast (S := S') (by unfold TG; rw [i3]; exact htg) (i3 ▸ ht2)) (by omega) (by rw [i4, hl]; omega) ?_
        have ih' := fun t => ih (k + 1) (mset S' (rw + 1) (cK f k) (.inr (some (g k)))) t (by omega) ⟨i1, i2, i3, i4, fun b hb => by rw [mset_v _ _ _ _ hb]; exact i5 b hb, fun i hi hfi => by
          rw [mset_s]
          by_cases c : i = k
          · subst c; rw [if_pos rfl]
          · have := cK_lt hfi (show i < k by omega)
            rw [if_neg (by omega)]
            exact i6 i (by omega) hfi, fun q q1 q2 => by
          rw [mset_s, if_neg (by omega)]
          exact i7 q (by omega) q2⟩
        rw [ck2] at ih'
        repeat (first | exact ih' _ | refine XQ.go rfl rfl ?_ | refine XQ.zeq0 rfl ?_ | refine XQ.zeq1 rfl ?_ | refine XQ.zne0 rfl ?_ | refine XQ.zne1 rfl ?_ | refine XQ.add rfl ⟨by omega, by omega⟩ ?_ | refine XQ.sub rfl ⟨by omega, by omega⟩ ?_ | refine XQ.inc rfl rfl rfl ⟨by omega, by omega⟩ ?_)
  have k0 := loop n.toNat 0 S none (by omega) ⟨rfl, rfl, rfl, rfl, fun _ _ => rfl, fun i hi => absurd hi (Nat.not_lt_zero i), fun q a b => hr2 q a b⟩
  repeat (first | exact k0 | refine XQ.go rfl rfl ?_ | refine XQ.zeq0 rfl ?_ | refine XQ.zeq1 rfl ?_ | refine XQ.zne0 rfl ?_ | refine XQ.zne1 rfl ?_ | refine XQ.add rfl ⟨by omega, by omega⟩ ?_ | refine XQ.sub rfl ⟨by omega, by omega⟩ ?_ | refine XQ.inc rfl rfl rfl ⟨by omega, by omega⟩ ?_)
theorem CM.rows (hM : CM x S A M) (hz : zS S' = zS S) (ht : tS S' = tS S) (hl : lS S' = lS S) (hv : ∀ b j, ¬ (x + 4 ≤ b ∧ b ≤ x + 7) → ¬ (x + 22 ≤ b ∧ TG S b ∧ 4 ≤ j ∧ j ≤ 5) → vS S' b j = vS S b j) (h40 : vS S' (x + 4) 0 = vS S (x + 4) 0) (h60 : vS S' (x + 6) 0 = vS S (x + 6) 0) (ho : offS [9, 10, 11, 12, 13] M M') (e0 : M' 13 0 = M 13 0) (e1 : M' 13 1 = M 13 1) (e4 : M' 13 4 = M 13 4) (hr4 : cRow S' (x + 4) (M' 13 2) (fun q => A (M' 9 q))) (hr6 : cRow S' (x + 6) (M' 13 3) (fun q => A (M' 11 q))) (hT : cTg S' A M') (hW : WF M') : CM x S' A M' := by
  refine ⟨hM.1.rows hM.2.1 hz ht hl hv h40 h60 ho e0 e1 e4 hr4 hr6 hT, hW, fun o z1 z2 => ?_⟩
  rw [e0] at z2
  have hob := hM.1.2.2.2.2.1 o z1 z2
  have hge := hob.1
  rw [ho 2 o rfl, ho 8 o rfl, hv _ 3 (by omega) (by omega)]
  exact hM.2.2 o z1 z2
/-- the pure side of handing out -/
theorem aCallW_in {M : MM} (hw : WF M) : (∀ q, 0 ≤ q → q < aCallW M 13 2 → ∃ i : Nat, (i : Int) < M 13 2 ∧ rM M i = true ∧ cK (rM M) i = q ∧ aCallW M 9 q = M 9 i ∧ aCallW M 10 q = M 10 i) ∧ (∀ q, 0 ≤ q → q < aCallW M 13 3 → (q < M 13 3 ∧ aCallW M 11 q = M 11 q ∧ aCallW M 12 q = M 12 q) ∨ (M 13 3 ≤ q ∧ ∃ i : Nat, (i : Int) < M 13 2 ∧ rM M i = false ∧ M 13 3 + ((i : Int) - cK (rM M) i) = q ∧ aCallW M 11 q = M 9 i ∧ aCallW M 12 q = M 10 i)) := by
  have hb := hw.1.2.1
  obtain ⟨g1, g2, g3, g4, g5⟩ := aCallW_ch (M := M) hb.1
  refine ⟨fun q q0 q1 => ?_, fun q q0 q1 => ?_⟩
  · rw [g1] at q1
    obtain ⟨i, a, b, c⟩ := cK_sj _ q q0 q1
    have := g3 i (by omega) b
    rw [c] at this
    exact ⟨i, by omega, b, c, this⟩
  · by_cases e : q < M 13 3
    · exact Or.inl ⟨e, g5 11 q (Or.inl rfl) e, g5 12 q (Or.inr rfl) e⟩
    · rw [g2] at q1
      have h := cK_not (rM M) (M 13 2).toNat
      obtain ⟨i, a, b, c⟩ := cK_sj (f := fun i => !rM M i) (M 13 2).toNat (q - M 13 3) (by omega) (by rw [h]; omega)
      rw [cK_not] at c
      have b' : rM M i = false := by
        have b : (!rM M i) = true := b
        cases hh : rM M i
        · rfl
        · rw [hh] at b; cases b
      have := g4 i (by omega) b'
      have e2 : M 13 3 + ((i : Int) - cK (rM M) i) = q := by omega
      rw [e2] at this
      exact Or.inr ⟨by omega, i, by omega, b', e2, this⟩
theorem aCallW_wf {M : MM} (hw : WF M) : WF (aCallW M) := by
  have hb := hw.1.2.1
  obtain ⟨g1, g2, -, -, -⟩ := aCallW_ch (M := M) hb.1
  obtain ⟨i9, i11⟩ := aCallW_in hw
  obtain ⟨-, ho, e0, e1, e4⟩ := aCallW_ok hw.1
  have hck := cK_in (rM M) (M 13 2).toNat
  have hR := hw.2.2.2.2.2.2.1
  have lvm := fun {h : Int} (z : live M h) => live_off ho rfl e0 z
  refine hw.rows ho e0 e1 e4 (by rw [g1, g2]; omega) ⟨?_, ?_, ?_, ?_, ?_⟩
  · intro q q0 q1
    obtain ⟨i, a, b, c, e, -⟩ := i9 q q0 q1
    rw [e]
    exact lvm (hR.1 i (by omega) a)
  · intro q q0 q1
    rcases i11 q q0 q1 with ⟨a, e, -⟩ | ⟨-, i, a, b, c, e, -⟩
    · rw [e]; exact lvm (hR.2.1 q q0 a)
    · rw [e]; exact lvm (hR.1 i (by omega) a)
  · intro q q' q0 q1 q2
    obtain ⟨i, a, b, c, e, -⟩ := i9 q q0 (by omega)
    obtain ⟨i', a', b', c', e', -⟩ := i9 q' (by omega) q2
    rw [e, e']
    have hii : i < i' := by
      by_cases z : i < i'
      · exact z
      · have := cK_mono (rM M) i' i (by omega); omega
    exact hR.2.2.1 i i' (by omega) (by omega) a'
  · intro q q' q0 q1 q2
    rcases i11 q q0 (by omega) with ⟨a, e, -⟩ | ⟨a0, i, a, b, c, e, -⟩
    · rcases i11 q' (by omega) q2 with ⟨a', e', -⟩ | ⟨a0', i', a', b', c', e', -⟩
      · rw [e, e']; exact hR.2.2.2.1 q q' q0 q1 a'
      · rw [e, e']; exact fun z => hR.2.2.2.2 i' q (by omega) a' q0 a z.symm
    · rcases i11 q' (by omega) q2 with ⟨a', e', -⟩ | ⟨a0', i', a', b', c', e', -⟩
      · omega
      · rw [e, e']
        have hii : i < i' := by
          by_cases z : i < i'
          · exact z
          · have := cK_mono (fun i => !rM M i) i' i (by omega)
            rw [cK_not, cK_not] at this
            omega
        exact hR.2.2.1 i i' (by omega) (by omega) a'
  · intro q q' q0 q1 q2 q3
    obtain ⟨i, a, b, c, e, -⟩ := i9 q q0 q1
    rcases i11 q' q2 q3 with ⟨a', e', -⟩ | ⟨a0', i', a', b', c', e', -⟩
    · rw [e, e']; exact hR.2.2.2.2 i q' (by omega) a q2 a'
    · rw [e, e']
      have hii : i ≠ i' := fun z => by subst z; rw [b] at b'; cases b'
      by_cases z : i < i'
      · exact hR.2.2.1 i i' (by omega) (by omega) a'
      · exact fun w => hR.2.2.1 i' i (by omega) (by omega) a w.symm
theorem C_handOut (hM : CM x S A M) : XQ (d + 2) k_H_handOutRegistered 0 (mentry (mL k_H_handOutRegistered) [.inr (some x)]) [] S (fun q S' => q = none ∧ CM x S' A (aWaits (aCallW M)) ∧ CFr x 0 0 S S') := by
  have hC := hM.1
  have hw := hM.2.1
  have hF := hC.1
  have hO := hC.2.2.2.2.1
  have hTg := hC.2.2.2.2.2.2.1
  have hb := hw.1.2.1
  have hR := hw.2.2.2.2.2.2.1
  have hrow4 := hC.2.2.1.2.1
  have hrow6 := hC.2.2.1.2.2
  obtain ⟨r41, r42, r43, r44⟩ := hF.2.2.2.2.2.2.2.1
  obtain ⟨r61, r62, r63, r64⟩ := hF.2.2.2.2.2.2.2.2.1
  have hmark : ∀ i : Nat, (i : Int) < M 13 2 → TG S (A (M 9 i)) ∧ ∃ b, vS S (A (M 9 i)) 3 = .inl b ∧ rM M i = decide (¬ b = 0) := fun i hi => by
    have hl := hR.1 i (by omega) hi
    have ht := live_tg hO hl
    obtain ⟨o, o0, o1, o2⟩ := hl
    have h1 := hM.2.2 o o0 o1
    have h2 := aIsM_live hw.2.1 o0 o1
    rw [o2] at h1 h2
    exact ⟨ht, _, h1.1, h2⟩
  obtain ⟨p1, p2, p3, p4, p5⟩ := aCallW_ch (M := M) hb.1
  obtain ⟨i9, i11⟩ := aCallW_in hw
  obtain ⟨-, ho, e0, e1, e4⟩ := aCallW_ok hw.1
  have hW2 := aCallW_wf hw
  have hckn := cK_in (rM M) (M 13 2).toNat
  have loop : ∀ (j k : Nat) (S' : MS) (t : Option MV), ((k + j : Nat) : Int) = M 13 2 → (zS S' = zS S ∧ qS S' = qS S ∧ tS S' = tS S ∧ lS S' = lS S ∧ (∀ b, b ≠ x + 6 → b ≠ x + 7 → vS S' b = vS S b) ∧ (∀ j, j ≠ 1 → vS S' (x + 6) j = vS S (x + 6) j) ∧ vS S' (x + 6) 1 = .inl (M 13 3 + ((k : Int) - cK (rM M) k)) ∧ (∀ q, 0 ≤ q → q < M 13 3 → vS S' (x + 7) q = .inr (some (A (M 11 q)))) ∧ (∀ i : Nat, i < k → rM M i = false → vS S' (x + 7) (M 13 3 + ((i : Int) - cK (rM M) i)) = .inr (some (A (M 9 i))))) → XQ (d + 2) k_H_handOutRegistered 2 [some (.inr (some x)), some (.inl (k : Int)), t] [] S' (fun q S' => q = none ∧ CM x S' A (aWaits (aCallW M)) ∧ CFr x 0 0 S S') := by
    intro j
    induction j with
    | zero =>
      intro k S' t hk ⟨i1, i2, i3, i4, i5, i6, i7, i8, i10⟩
      have hx : vS S' x = vS S x := i5 x (by omega) (by omega)
      have hx4 : vS S' (x + 4) = vS S (x + 4) := i5 _ (by omega) (by omega)
      have hx5 : vS S' (x + 5) = vS S (x + 5) := i5 _ (by omega) (by omega)
      have ek : (M 13 2).toNat = k := by omega
      have hne6 : ∀ b, TG S b → b ≠ x + 6 ∧ b ≠ x + 7 ∧ b ≠ x + 4 ∧ b ≠ x + 5 := fun b ht => ⟨fun q => by rw [q] at ht; rcases ht with y | y | y <;> omega, fun q => by rw [q] at ht; rcases ht with y | y | y <;> omega, fun q => by rw [q] at ht; rcases ht with y | y | y <;> omega, fun q => by rw [q] at ht; rcases ht with y | y | y <;> omega⟩
      repeat (first | refine XQ.go rfl rfl ?_ | refine XQ.zeq0 rfl ?_ | refine XQ.zeq1 rfl ?_ | refine XQ.zne0 rfl ?_ | refine XQ.zne1 rfl ?_ | refine XQ.add rfl ⟨by omega, by omega⟩ ?_ | refine XQ.sub rfl ⟨by omega, by omega⟩ ?_ | refine XQ.inc rfl rfl rfl ⟨by omega, by omega⟩ ?_)
      refine XQ.gx rfl (i3 ▸ hF.1) (v := .inr (some (x + 4))) (by rw [hx]; exact hF.2.2.2.1) ?_
      refine XQ.v1 rfl (i3 ▸ r41) rfl (le8 rfl) (C_length (d := d + 1) (n := M 13 2) (i3 ▸ r41) (by rw [hx4]; exact hrow4.1)) (fun q S2 hq => ?_)
      obtain ⟨rfl, rfl⟩ := hq
      refine XQ.cge rfl (fun _ => ?_) (fun q => by omega)
      repeat (first | refine XQ.go rfl rfl ?_ | refine XQ.zeq0 rfl ?_ | refine XQ.zeq1 rfl ?_ | refine XQ.zne0 rfl ?_ | refine XQ.zne1 rfl ?_ | refine XQ.add rfl ⟨by omega, by omega⟩ ?_ | refine XQ.sub rfl ⟨by omega, by omega⟩ ?_ | refine XQ.inc rfl rfl rfl ⟨by omega, by omega⟩ ?_)
      refine XQ.gx rfl (i3 ▸ hF.1) (v := .inr (some (x + 4))) (by rw [hx]; exact hF.2.2.2.1) ?_
      refine XQ.v1 rfl (i3 ▸ r41) rfl (le8 rfl) (C_drop (d := d + 1) (rw := x + 4) (n := M 13 2) (l := 8) (g := fun q => A (M 9 q)) (f := rM M) (i3 ▸ r41) (by rw [hx4]; exact r42) (i3 ▸ r43) (i4 ▸ r44) ⟨by rw [hx4]; exact hrow4.1, fun i a b => by show vS S2 (x + 5) i = _; rw [hx5]; exact hrow4.2 i a b⟩ hb.1 (by omega) (by decide) (fun i hi => by
        obtain ⟨a, b, c, e⟩ := hmark i hi
        refine ⟨by unfold TG; rw [i3]; exact a, b, ?_, e⟩
        rw [i5 _ (hne6 _ a).1 (hne6 _ a).2.1]
        exact c)) (fun q S3 hq => ?_)
      obtain ⟨rfl, j1, j2, j3, j4, j5, j6, j7, j8⟩ := hq
      have hx3 : vS S3 x = vS S x := by rw [j5 x (by omega) (by omega)]; exact hx
      have hoth : ∀ b, b ≠ x + 4 → b ≠ x + 5 → b ≠ x + 6 → b ≠ x + 7 → vS S3 b = vS S b := fun b b1 b2 b3 b4 => by rw [j5 b b1 b2, i5 b b3 b4]
      have s6 : vS S3 (x + 6) = vS S2 (x + 6) := j5 _ (by omega) (by omega)
      have s7 : vS S3 (x + 7) = vS S2 (x + 7) := j5 _ (by omega) (by omega)
      have hM3 : CM x S3 A (aCallW M) := by
        refine hM.rows (j1.trans i1) (j3.trans i3) (j4.trans i4) (fun b j c1 c2 => ?_) ?_ ?_ ho e0 e1 e4 ⟨?_, ?_⟩ ⟨?_, ?_⟩ ⟨?_, ?_, ?_⟩ hW2
        · rw [hoth b (by omega) (by omega) (by omega) (by omega)]
        · rw [j6 0 (by decide), hx4]
        · rw [s6, i6 0 (by decide)]
        · rw [j7, p1]
        · intro q q0 q1
          obtain ⟨i, a, b, c, e, -⟩ := i9 q q0 q1
          show vS S3 (x + 4 + 1) q = .inr (some (A (aCallW M 9 q)))
          rw [e, ← c]
          exact j8 i a b
        · rw [s6, i7, p2, ← ek, Int.toNat_of_nonneg hb.1]
        · intro q q0 q1
          show vS S3 (x + 7) q = .inr (some (A (aCallW M 11 q)))
          rw [s7]
          rcases i11 q q0 q1 with ⟨a, e, -⟩ | ⟨-, i, a, b, c, e, -⟩
          · rw [e]; exact i8 q q0 a
          · rw [e, ← c]; exact i10 i (by omega) b
        · intro o o0 o1
          rw [e0] at o1
          have htg := (hO o o0 o1).tg
          obtain ⟨n6, n7, n4, n5⟩ := hne6 _ htg
          rw [ho 2 o rfl, hoth _ n4 n5 n6 n7, hTg.1 o o0 o1]
          congr 1
          apply bI_eq
          rw [Bool.or_eq_true, Bool.or_eq_true, aIn_i, aIn_i, aIn_i, aIn_i]
          constructor
          · rintro (⟨q, a, b, c⟩ | ⟨q, a, b, c⟩)
            · cases hh : rM M q.toNat
              · have := (p4 q.toNat (by omega) hh).1
                rw [Int.toNat_of_nonneg a] at this
                have h1 : cK (fun i => !rM M i) q.toNat < cK (fun i => !rM M i) (M 13 2).toNat := cK_lt (by rw [hh]; rfl) (by omega)
                have h2 := cK_in (rM M) q.toNat
                rw [cK_not, cK_not] at h1
                exact Or.inr ⟨_, by omega, by rw [p2]; omega, this.trans c⟩
              · have := (p3 q.toNat (by omega) hh).1
                rw [Int.toNat_of_nonneg a] at this
                have h1 := cK_lt hh (show q.toNat < (M 13 2).toNat by omega)
                have h2 := cK_in (rM M) q.toNat
                exact Or.inl ⟨_, h2.1, by rw [p1]; exact h1, this.trans c⟩
            · exact Or.inr ⟨q, a, by rw [p2]; omega, by rw [p5 11 q (Or.inl rfl) b]; exact c⟩
          · rintro (⟨q, a, b, c⟩ | ⟨q, a, b, c⟩)
            · obtain ⟨i, y1, y2, y3, y4, -⟩ := i9 q a b
              exact Or.inl ⟨i, by omega, y1, by rw [← y4]; exact c⟩
            · rcases i11 q a b with ⟨y1, y2, -⟩ | ⟨-, i, y1, y2, y3, y4, -⟩
              · exact Or.inr ⟨q, a, y1, by rw [← y2]; exact c⟩
              · exact Or.inl ⟨i, by omega, y1, by rw [← y4]; exact c⟩
        · intro q q0 q1
          obtain ⟨i, y1, y2, y3, y4, y5⟩ := i9 q q0 q1
          have htg := live_tg hO (hR.1 i (by omega) y1)
          obtain ⟨n6, n7, n4, n5⟩ := hne6 _ htg
          rw [y4, y5, hoth _ n4 n5 n6 n7]
          exact hTg.2.1 i (by omega) y1
        · intro q q0 q1
          rcases i11 q q0 q1 with ⟨y1, y2, y3⟩ | ⟨-, i, y1, y2, y3, y4, y5⟩
          · have htg := live_tg hO (hR.2.1 q q0 y1)
            obtain ⟨n6, n7, n4, n5⟩ := hne6 _ htg
            rw [y2, y3, hoth _ n4 n5 n6 n7]
            exact hTg.2.2 q q0 y1
          · have htg := live_tg hO (hR.1 i (by omega) y1)
            obtain ⟨n6, n7, n4, n5⟩ := hne6 _ htg
            rw [y4, y5, hoth _ n4 n5 n6 n7]
            exact hTg.2.1 i (by omega) y1
      have hf3 : CFr x 0 0 S S3 := ⟨by omega, by omega, by omega, by omega, fun a _ => by rw [j3, i3, j4, i4]; exact ⟨rfl, rfl⟩, fun a ha => hoth a (by omega) (by omega) (by omega) (by omega)⟩
      repeat (first | refine XQ.go rfl rfl ?_ | refine XQ.zeq0 rfl ?_ | refine XQ.zeq1 rfl ?_ | refine XQ.zne0 rfl ?_ | refine XQ.zne1 rfl ?_ | refine XQ.add rfl ⟨by omega, by omega⟩ ?_ | refine XQ.sub rfl ⟨by omega, by omega⟩ ?_ | refine XQ.inc rfl rfl rfl ⟨by omega, by omega⟩ ?_)
      refine XQ.gx rfl hM3.1.1.1 hM3.1.1.2.2.2.2.1 ?_
      refine XQ.v1 rfl hM3.1.1.2.2.2.2.2.2.2.2.1.1 rfl (le8 rfl) (C_markAll (d := d) hM3) (fun q S4 hq => ?_)
      obtain ⟨rfl, hm4, hf4⟩ := hq
      exact XQ.ret rfl rfl ⟨rfl, hm4, hf3.tr hf4⟩
    | succ j ih =>
      intro k S' t hk ⟨i1, i2, i3, i4, i5, i6, i7, i8, i10⟩
      have hx : vS S' x = vS S x := i5 x (by omega) (by omega)
      have hx4 : vS S' (x + 4) = vS S (x + 4) := i5 _ (by omega) (by omega)
      have hx5 : vS S' (x + 5) = vS S (x + 5) := i5 _ (by omega) (by omega)
      have hck := cK_in (rM M) k
      obtain ⟨htg, b, hbk, hfb⟩ := hmark k (by omega)
      have hne6 : A (M 9 k) ≠ x + 6 := fun q => by rw [q] at htg; rcases htg with y | y | y <;> omega
      have hne7 : A (M 9 k) ≠ x + 7 := fun q => by rw [q] at htg; rcases htg with y | y | y <;> omega
      have ck1 : cK (rM M) (k + 1) = cK (rM M) k + bI (rM M k) := rfl
      repeat (first | refine XQ.go rfl rfl ?_ | refine XQ.zeq0 rfl ?_ | refine XQ.zeq1 rfl ?_ | refine XQ.zne0 rfl ?_ | refine XQ.zne1 rfl ?_ | refine XQ.add rfl ⟨by omega, by omega⟩ ?_ | refine XQ.sub rfl ⟨by omega, by omega⟩ ?_ | refine XQ.inc rfl rfl rfl ⟨by omega, by omega⟩ ?_)
      refine XQ.gx rfl (i3 ▸ hF.1) (v := .inr (some (x + 4))) (by rw [hx]; exact hF.2.2.2.1) ?_
      refine XQ.v1 rfl (i3 ▸ r41) rfl (le8 rfl) (C_length (d := d + 1) (n := M 13 2) (i3 ▸ r41) (by rw [hx4]; exact hrow4.1)) (fun q S2 hq => ?_)
      obtain ⟨rfl, rfl⟩ := hq
      refine XQ.cge rfl (fun q => by omega) (fun _ => ?_)
      repeat (first | refine XQ.go rfl rfl ?_ | refine XQ.zeq0 rfl ?_ | refine XQ.zeq1 rfl ?_ | refine XQ.zne0 rfl ?_ | refine XQ.zne1 rfl ?_ | refine XQ.add rfl ⟨by omega, by omega⟩ ?_ | refine XQ.sub rfl ⟨by omega, by omega⟩ ?_ | refine XQ.inc rfl rfl rfl ⟨by omega, by omega⟩ ?_)
      refine XQ.gx rfl (i3 ▸ hF.1) (v := .inr (some (x + 4))) (by rw [hx]; exact hF.2.2.2.1) ?_
      repeat (first | refine XQ.go rfl rfl ?_ | refine XQ.zeq0 rfl ?_ | refine XQ.zeq1 rfl ?_ | refine XQ.zne0 rfl ?_ | refine XQ.zne1 rfl ?_ | refine XQ.add rfl ⟨by omega, by omega⟩ ?_ | refine XQ.sub rfl ⟨by omega, by omega⟩ ?_ | refine XQ.inc rfl rfl rfl ⟨by omega, by omega⟩ ?_)
      refine XQ.v2 rfl (i3 ▸ r41) rfl (le8 rfl) (C_at (d := d + 1) (rw := x + 4) (n := M 13 2) (l := 8) (i := (k : Int)) (g := fun q => A (M 9 q)) (i3 ▸ r41) (by rw [hx4]; exact r42) (i3 ▸ r43) (i4 ▸ r44) ⟨by rw [hx4]; exact hrow4.1, fun i a b => by show vS S2 (x + 5) i = _; rw [hx5]; exact hrow4.2 i a b⟩ (by omega) (by omega) (by omega)) (fun q S3 hq => ?_)
      obtain ⟨rfl, rfl⟩ := hq
      repeat (first | refine XQ.go rfl rfl ?_ | refine XQ.zeq0 rfl ?_ | refine XQ.zeq1 rfl ?_ | refine XQ.zne0 rfl ?_ | refine XQ.zne1 rfl ?_ | refine XQ.add rfl ⟨by omega, by omega⟩ ?_ | refine XQ.sub rfl ⟨by omega, by omega⟩ ?_ | refine XQ.inc rfl rfl rfl ⟨by omega, by omega⟩ ?_)
      refine XQ.gt rfl (by unfold TG; rw [i3]; exact htg) (v := .inl b) (by rw [i5 _ hne6 hne7]; exact hbk) ?_
      refine XQ.zne rfl (fun q => ?_) (fun q => ?_)
      · have hf : rM M k = true := by rw [hfb]; exact decide_eq_true q
        have ck2 : cK (rM M) (k + 1) = cK (rM M) k + 1 := by rw [ck1, hf]; rfl
        have ih' := fun t => ih (k + 1) S3 t (by omega) ⟨i1, i2, i3, i4, i5, i6, by rw [i7, ck2]; congr 1; omega, i8, fun i hi hfi => by
          by_cases c : i = k
          · subst c; rw [hf] at hfi; cases hfi
          · exact i10 i (by omega) hfi⟩
        repeat (first | exact ih' _ | refine XQ.go rfl rfl ?_ | refine XQ.zeq0 rfl ?_ | refine XQ.zeq1 rfl ?_ | refine XQ.zne0 rfl ?_ | refine XQ.zne1 rfl ?_ | refine XQ.add rfl ⟨by omega, by omega⟩ ?_ | refine XQ.sub rfl ⟨by omega, by omega⟩ ?_ | refine XQ.inc rfl rfl rfl ⟨by omega, by omega⟩ ?_)
      · have hf : rM M k = false := by rw [hfb, q]; rfl
        have ck2 : cK (rM M) (k + 1) = cK (rM M) k := by rw [ck1, hf]; show cK (rM M) k + 0 = _; omega
        repeat (first | refine XQ.go rfl rfl ?_ | refine XQ.zeq0 rfl ?_ | refine XQ.zeq1 rfl ?_ | refine XQ.zne0 rfl ?_ | refine XQ.zne1 rfl ?_ | refine XQ.add rfl ⟨by omega, by omega⟩ ?_ | refine XQ.sub rfl ⟨by omega, by omega⟩ ?_ | refine XQ.inc rfl rfl rfl ⟨by omega, by omega⟩ ?_)
        refine XQ.gx rfl (i3 ▸ hF.1) (v := .inr (some (x + 6))) (by rw [hx]; exact hF.2.2.2.2.1) ?_
        repeat (first | refine XQ.go rfl rfl ?_ | refine XQ.zeq0 rfl ?_ | refine XQ.zeq1 rfl ?_ | refine XQ.zne0 rfl ?_ | refine XQ.zne1 rfl ?_ | refine XQ.add rfl ⟨by omega, by omega⟩ ?_ | refine XQ.sub rfl ⟨by omega, by omega⟩ ?_ | refine XQ.inc rfl rfl rfl ⟨by omega, by omega⟩ ?_)
        refine XQ.v2 rfl (i3 ▸ r61) rfl (le8 rfl) (C_append (d := d + 1) (rw := x + 6) (n := M 13 3 + ((k : Int) - cK (rM M) k)) (l := 8) (i3 ▸ r61) (by rw [i6 0 (by decide)]; exact r62) (i3 ▸ r63) (i4 ▸ r64) i7 (by omega) (by omega) (by decide) (by unfold TG; rw [i3]; exact htg)) (fun q S4 hq => ?_)
        obtain ⟨rfl, rfl⟩ := hq
        have ih' := fun t => ih (k + 1) (mset (mset S3 (x + 6 + 1) (M 13 3 + ((k : Int) - cK (rM M) k)) (.inr (some (A (M 9 k))))) (x + 6) 1 (.inl (M 13 3 + ((k : Int) - cK (rM M) k) + 1))) t (by omega) ⟨i1, i2, i3, i4, fun b b1 b2 => by rw [mset_v _ _ _ _ b1, mset_v _ _ _ _ b2]; exact i5 b b1 b2, fun j hj => by rw [mset_s, if_neg hj, mset_v _ _ _ _ (by omega)]; exact i6 j hj, by rw [mset_s, if_pos rfl, ck2]; congr 1; omega, fun q q0 q1 => by
          rw [mset_v _ _ _ _ (by omega)]
          show vS (mset S3 (x + 7) _ _) (x + 7) q = _
          rw [mset_s, if_neg (by omega)]
          exact i8 q q0 q1, fun i hi hfi => by
          rw [mset_v _ _ _ _ (by omega)]
          show vS (mset S3 (x + 7) _ _) (x + 7) _ = _
          rw [mset_s]
          by_cases c : i = k
          · subst c; rw [if_pos rfl]
          · have h1 : cK (fun i => !rM M i) i < cK (fun i => !rM M i) k := cK_lt (by rw [hfi]; rfl) (by omega)
            rw [cK_not, cK_not] at h1
            rw [if_neg (by omega)]
            exact i10 i (by omega) hfi⟩
        repeat (first | exact ih' _ | refine XQ.go rfl rfl ?_ | refine XQ.zeq0 rfl ?_ | refine XQ.zeq1 rfl ?_ | refine XQ.zne0 rfl ?_ | refine XQ.zne1 rfl ?_ | refine XQ.add rfl ⟨by omega, by omega⟩ ?_ | refine XQ.sub rfl ⟨by omega, by omega⟩ ?_ | refine XQ.inc rfl rfl rfl ⟨by omega, by omega⟩ ?_)
  have k0 := loop (M 13 2).toNat 0 S none (by omega) ⟨rfl, rfl, rfl, rfl, fun _ _ _ => rfl, fun _ _ => rfl, by rw [hrow6.1]; congr 1; show _ = M 13 3 + (0 - 0); omega, fun q a b => hrow6.2 q a b, fun i hi => absurd hi (Nat.not_lt_zero i)⟩
  repeat (first | exact k0 | refine XQ.go rfl rfl ?_ | refine XQ.zeq0 rfl ?_ | refine XQ.zeq1 rfl ?_ | refine XQ.zne0 rfl ?_ | refine XQ.zne1 rfl ?_ | refine XQ.add rfl ⟨by omega, by omega⟩ ?_ | refine XQ.sub rfl ⟨by omega, by omega⟩ ?_ | refine XQ.inc rfl rfl rfl ⟨by omega, by omega⟩ ?_)
end H4
