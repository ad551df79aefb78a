/-! the class's methods, walked: next -/
theorem u2_comm (M : MM) {j j' : Nat} (i i' v v' : Int) (h : j ≠ j') : u2 (u2 M j i v) j' i' v' = u2 (u2 M j' i' v') j i v := by
  funext a b
  by_cases e : a = j ∧ b = i
  · obtain ⟨rfl, rfl⟩ := e
    rw [u2_n _ _ (Or.inl h), u2_s, u2_s]
  · have e1 : a ≠ j ∨ b ≠ i := by
      by_cases q : a = j
      · exact Or.inr (fun q2 => e ⟨q, q2⟩)
      · exact Or.inl q
    rw [u2_n (u2 M j' i' v') v e1]
    by_cases e' : a = j' ∧ b = i'
    · obtain ⟨rfl, rfl⟩ := e'
      rw [u2_s, u2_s]
    · have e2 : a ≠ j' ∨ b ≠ i' := by
        by_cases q : a = j'
        · exact Or.inr (fun q2 => e' ⟨q, q2⟩)
        · exact Or.inl q
      rw [u2_n _ _ e2, u2_n _ _ e2, u2_n _ _ e1]
theorem aNxF_lp (M : MM) : ∀ k : Nat, offS [11, 12] M (lp aNxF k M) ∧ ∀ j i, (j = 11 ∨ j = 12) → lp aNxF k M j i = if 0 ≤ i ∧ i < (k : Int) then M j (i + 1) else M j i
  | 0 => ⟨offS.rf, fun j i _ => by rw [if_neg (by omega)]; rfl⟩
  | k + 1 => by
    obtain ⟨g1, g2⟩ := aNxF_lp M k
    show offS _ M (aNxF k (lp aNxF k M)) ∧ ∀ j i, (j = 11 ∨ j = 12) → aNxF k (lp aNxF k M) j i = _
    generalize lp aNxF k M = N at g1 g2
    unfold aNxF
    refine ⟨(g1.u rfl _ _).u rfl _ _, fun j i hj => ?_⟩
    rcases hj with rfl | rfl
    · rw [u2_n _ _ (Or.inl (by decide))]
      by_cases e : i = (k : Int)
      · rw [e, u2_s, if_pos (by omega), g2 11 _ (Or.inl rfl), if_neg (by omega)]
      · rw [u2_n _ _ (Or.inr e), g2 11 _ (Or.inl rfl)]
        by_cases q : 0 ≤ i ∧ i < (k : Int)
        · rw [if_pos q, if_pos (by omega)]
        · rw [if_neg q, if_neg (by omega)]
    · by_cases e : i = (k : Int)
      · rw [e, u2_s, if_pos (by omega), g2 12 _ (Or.inr rfl), if_neg (by omega)]
      · rw [u2_n _ _ (Or.inr e), u2_n _ _ (Or.inl (by decide)), g2 12 _ (Or.inr rfl)]
        by_cases q : 0 ≤ i ∧ i < (k : Int)
        · rw [if_pos q, if_pos (by omega)]
        · rw [if_neg q, if_neg (by omega)]
theorem aNxF_hold (M : MM) (v a b : Int) : ∀ k : Nat, lp aNxF k (aHold M v a b) = aHold (lp aNxF k M) v a b
  | 0 => rfl
  | k + 1 => by
    show aNxF k (lp aNxF k (aHold M v a b)) = aHold (aNxF k (lp aNxF k M)) v a b
    rw [aNxF_hold M v a b k]
    generalize lp aNxF k M = N
    have ho := aHold_off N v a b
    unfold aNxF
    rw [ho 11 _ rfl, ho 12 _ rfl]
    · unfold aHold
      rw [u2_comm (u2 N 0 v a) v k b _ (show (1 : Nat) ≠ 11 by decide), u2_comm N v k a _ (show (0 : Nat) ≠ 11 by decide), u2_comm (u2 (u2 N 11 k _) 0 v a) v k b _ (show (1 : Nat) ≠ 12 by decide), u2_comm (u2 N 11 k _) v k a _ (show (0 : Nat) ≠ 12 by decide)]
section G8
variable {d x : Nat} {S S' : MS} {A : Int → Nat} {M M' : MM}
theorem C_takeFirst {rw : Nat} {n l : Int} {g : Int → Nat} (ht : tS S rw = 6) (h0 : vS S rw 0 = .inr (some (rw + 1))) (ht2 : tS S (rw + 1) = 22) (hl : lS S (rw + 1) = l) (hr : cRow S rw n g) (n0 : 0 ≤ n) (n1 : n ≤ l) (hl2 : l ≤ 20) (hg : ∀ i, 0 ≤ i → i < n → TG S (g i)) : XQ d k_R_takeFirst 0 (mentry (mL k_R_takeFirst) [.inr (some rw)]) [] S (fun q S' => (n = 0 ∧ S' = S ∧ q = some (.inr none)) ∨ (0 < n ∧ q = some (.inr (some (g 0))) ∧ zS S' = zS S ∧ qS S' = qS S ∧ tS S' = tS S ∧ lS S' = lS S ∧ (∀ b, b ≠ rw → b ≠ rw + 1 → vS S' b = vS S b) ∧ (∀ j, j ≠ 1 → vS S' rw j = vS S rw j) ∧ vS S' rw 1 = .inl (n - 1) ∧ ∀ i, 0 ≤ i → i < n - 1 → vS S' (rw + 1) i = .inr (some (g (i + 1))))) := by
  obtain ⟨hr1, hr2⟩ := hr
  repeat (first | refine XQ.go rfl rfl ?_ | refine XQ.zeq0 rfl ?_ | refine XQ.zeq1 rfl ?_ | refine XQ.zne0 rfl ?_ | refine XQ.zne1 rfl ?_ | refine XQ.add rfl ⟨by omega, by omega⟩ ?_ | refine XQ.sub rfl ⟨by omega, by omega⟩ ?_ | refine XQ.inc rfl rfl rfl ⟨by omega, by omega⟩ ?_)
  refine XQ.gx rfl ht hr1 ?_
  refine XQ.zne rfl (fun q => ?_) (fun q => ?_)
  · have loop : ∀ (r : Nat) (i : Int) (S' : MS), n - i = (r : Int) → 1 ≤ i → zS S' = zS S ∧ qS S' = qS S ∧ tS S' = tS S ∧ lS S' = lS S ∧ (∀ b, b ≠ rw + 1 → vS S' b = vS S b) ∧ (∀ q, 0 ≤ q → q < i - 1 → vS S' (rw + 1) q = .inr (some (g (q + 1)))) ∧ (∀ q, i - 1 ≤ q → q < n → vS S' (rw + 1) q = .inr (some (g q))) → XQ d k_R_takeFirst 18 [some (.inr (some rw)), some (.inr (some (g 0))), some (.inl i)] [] S' (fun q S' => (n = 0 ∧ S' = S ∧ q = some (.inr none)) ∨ (0 < n ∧ q = some (.inr (some (g 0))) ∧ zS S' = zS S ∧ qS S' = qS S ∧ tS S' = tS S ∧ lS S' = lS S ∧ (∀ b, b ≠ rw → b ≠ rw + 1 → vS S' b = vS S b) ∧ (∀ j, j ≠ 1 → vS S' rw j = vS S rw j) ∧ vS S' rw 1 = .inl (n - 1) ∧ ∀ i, 0 ≤ i → i < n - 1 → vS S' (rw + 1) i = .inr (some (g (i + 1))))) := by
      intro r
      induction r with
      | zero =>
        intro i S' hr i1 ⟨c1, c2, c3, c4, c5, c6, c7⟩
        have e0 : vS S' rw = vS S rw := c5 rw (by omega)
        repeat (first | refine XQ.go rfl rfl ?_ | refine XQ.zeq0 rfl ?_ | refine XQ.zeq1 rfl ?_ | refine XQ.zne0 rfl ?_ | refine XQ.zne1 rfl ?_ | refine XQ.add rfl ⟨by omega, by omega⟩ ?_ | refine XQ.sub rfl ⟨by omega, by omega⟩ ?_ | refine XQ.inc rfl rfl rfl ⟨by omega, by omega⟩ ?_)
        refine XQ.gx rfl (c3 ▸ ht) (v := .inl n) (by rw [e0]; exact hr1) ?_
        refine XQ.cge rfl (fun _ => ?_) (fun q => by omega)
        repeat (first | refine XQ.go rfl rfl ?_ | refine XQ.zeq0 rfl ?_ | refine XQ.zeq1 rfl ?_ | refine XQ.zne0 rfl ?_ | refine XQ.zne1 rfl ?_ | refine XQ.add rfl ⟨by omega, by omega⟩ ?_ | refine XQ.sub rfl ⟨by omega, by omega⟩ ?_ | refine XQ.inc rfl rfl rfl ⟨by omega, by omega⟩ ?_)
        refine XQ.gx rfl (c3 ▸ ht) (v := .inl n) (by rw [e0]; exact hr1) ?_
        repeat (first | refine XQ.go rfl rfl ?_ | refine XQ.zeq0 rfl ?_ | refine XQ.zeq1 rfl ?_ | refine XQ.zne0 rfl ?_ | refine XQ.zne1 rfl ?_ | refine XQ.add rfl ⟨by omega, by omega⟩ ?_ | refine XQ.sub rfl ⟨by omega, by omega⟩ ?_ | refine XQ.inc rfl rfl rfl ⟨by omega, by omega⟩ ?_)
        refine XQ.put rfl (by rw [c3, ht]; rfl) rfl ?_
        repeat (first | refine XQ.go rfl rfl ?_ | refine XQ.zeq0 rfl ?_ | refine XQ.zeq1 rfl ?_ | refine XQ.zne0 rfl ?_ | refine XQ.zne1 rfl ?_ | refine XQ.add rfl ⟨by omega, by omega⟩ ?_ | refine XQ.sub rfl ⟨by omega, by omega⟩ ?_ | refine XQ.inc rfl rfl rfl ⟨by omega, by omega⟩ ?_)
        refine XQ.ret rfl rfl (Or.inr ⟨by omega, rfl, c1, c2, c3, c4, fun b b1 b2 => by rw [mset_v _ _ _ _ b1]; exact c5 b b2, fun j hj => by rw [mset_s, if_neg hj, e0], by rw [mset_s, if_pos rfl], fun q q0 q1 => ?_⟩)
        rw [mset_v _ _ _ _ (by omega)]
        exact c6 q q0 (by omega)
      | succ r ih =>
        intro i S' hr i1 ⟨c1, c2, c3, c4, c5, c6, c7⟩
        have e0 : vS S' rw = vS S rw := c5 rw (by omega)
        repeat (first | refine XQ.go rfl rfl ?_ | refine XQ.zeq0 rfl ?_ | refine XQ.zeq1 rfl ?_ | refine XQ.zne0 rfl ?_ | refine XQ.zne1 rfl ?_ | refine XQ.add rfl ⟨by omega, by omega⟩ ?_ | refine XQ.sub rfl ⟨by omega, by omega⟩ ?_ | refine XQ.inc rfl rfl rfl ⟨by omega, by omega⟩ ?_)
        refine XQ.gx rfl (c3 ▸ ht) (v := .inl n) (by rw [e0]; exact hr1) ?_
        refine XQ.cge rfl (fun q => by omega) (fun _ => ?_)
        repeat (first | refine XQ.go rfl rfl ?_ | refine XQ.zeq0 rfl ?_ | refine XQ.zeq1 rfl ?_ | refine XQ.zne0 rfl ?_ | refine XQ.zne1 rfl ?_ | refine XQ.add rfl ⟨by omega, by omega⟩ ?_ | refine XQ.sub rfl ⟨by omega, by omega⟩ ?_ | refine XQ.inc rfl rfl rfl ⟨by omega, by omega⟩ ?_)
        refine XQ.gx rfl (c3 ▸ ht) (v := .inr (some (rw + 1))) (by rw [e0]; exact h0) ?_
        repeat (first | refine XQ.go rfl rfl ?_ | refine XQ.zeq0 rfl ?_ | refine XQ.zeq1 rfl ?_ | refine XQ.zne0 rfl ?_ | refine XQ.zne1 rfl ?_ | refine XQ.add rfl ⟨by omega, by omega⟩ ?_ | refine XQ.sub rfl ⟨by omega, by omega⟩ ?_ | refine XQ.inc rfl rfl rfl ⟨by omega, by omega⟩ ?_)
        refine XQ.gx rfl (c3 ▸ ht) (v := .inr (some (rw + 1))) (by rw [e0]; exact h0) ?_
        repeat (first | refine XQ.go rfl rfl ?_ | refine XQ.zeq0 rfl ?_ | refine XQ.zeq1 rfl ?_ | refine XQ.zne0 rfl ?_ | refine XQ.zne1 rfl ?_ | refine XQ.add rfl ⟨by omega, by omega⟩ ?_ | refine XQ.sub rfl ⟨by omega, by omega⟩ ?_ | refine XQ.inc rfl rfl rfl ⟨by omega, by omega⟩ ?_)
        refine XQ.lx rfl (Or.inl (c3 ▸ ht2)) (by omega) (by rw [c4, hl]; omega) (c7 i (by omega) (by omega)) ?_
        refine XQ.ast rfl (TG.ast (S := S') (by unfold TG; rw [c3]; exact hg i (by omega) (by omega)) (c3 ▸ ht2)) (by omega) (by rw [c4, hl]; omega) ?_
        have ih' := ih (i + 1) (mset S' (rw + 1) (i - 1) (.inr (some (g i)))) (by omega) (by omega) ⟨c1, c2, c3, c4, fun b hb => by rw [mset_v _ _ _ _ hb]; exact c5 b hb, fun q q0 q1 => ?_, fun q q0 q1 => ?_⟩
        · repeat (first | exact ih' | refine XQ.go rfl rfl ?_ | refine XQ.zeq0 rfl ?_ | refine XQ.zeq1 rfl ?_ | refine XQ.zne0 rfl ?_ | refine XQ.zne1 rfl ?_ | refine XQ.add rfl ⟨by omega, by omega⟩ ?_ | refine XQ.sub rfl ⟨by omega, by omega⟩ ?_ | refine XQ.inc rfl rfl rfl ⟨by omega, by omega⟩ ?_)
        · rw [mset_s]
          by_cases e : q = i - 1
          · rw [if_pos e, e, Int.sub_add_cancel]
          · rw [if_neg e]; exact c6 q q0 (by omega)
        · rw [mset_s, if_neg (by omega)]
          exact c7 q (by omega) q1
    have k0 := loop (n - 1).toNat 1 S (by omega) (by omega) ⟨rfl, rfl, rfl, rfl, fun _ _ => rfl, fun q a b => by omega, fun q a b => hr2 q (by omega) b⟩
    repeat (first | refine XQ.go rfl rfl ?_ | refine XQ.zeq0 rfl ?_ | refine XQ.zeq1 rfl ?_ | refine XQ.zne0 rfl ?_ | refine XQ.zne1 rfl ?_ | refine XQ.add rfl ⟨by omega, by omega⟩ ?_ | refine XQ.sub rfl ⟨by omega, by omega⟩ ?_ | refine XQ.inc rfl rfl rfl ⟨by omega, by omega⟩ ?_)
    refine XQ.gx rfl ht h0 ?_
    repeat (first | refine XQ.go rfl rfl ?_ | refine XQ.zeq0 rfl ?_ | refine XQ.zeq1 rfl ?_ | refine XQ.zne0 rfl ?_ | refine XQ.zne1 rfl ?_ | refine XQ.add rfl ⟨by omega, by omega⟩ ?_ | refine XQ.sub rfl ⟨by omega, by omega⟩ ?_ | refine XQ.inc rfl rfl rfl ⟨by omega, by omega⟩ ?_)
    refine XQ.lx rfl (Or.inl ht2) (by omega) (by rw [hl]; omega) (hr2 0 (by omega) (by omega)) ?_
    repeat (first | exact k0 | refine XQ.go rfl rfl ?_ | refine XQ.zeq0 rfl ?_ | refine XQ.zeq1 rfl ?_ | refine XQ.zne0 rfl ?_ | refine XQ.zne1 rfl ?_ | refine XQ.add rfl ⟨by omega, by omega⟩ ?_ | refine XQ.sub rfl ⟨by omega, by omega⟩ ?_ | refine XQ.inc rfl rfl rfl ⟨by omega, by omega⟩ ?_)
  · repeat (first | refine XQ.go rfl rfl ?_ | refine XQ.zeq0 rfl ?_ | refine XQ.zeq1 rfl ?_ | refine XQ.zne0 rfl ?_ | refine XQ.zne1 rfl ?_ | refine XQ.add rfl ⟨by omega, by omega⟩ ?_ | refine XQ.sub rfl ⟨by omega, by omega⟩ ?_ | refine XQ.inc rfl rfl rfl ⟨by omega, by omega⟩ ?_)
    exact XQ.ret rfl rfl (Or.inl ⟨q, rfl, rfl⟩)
theorem C_next {v : Int} (hC : CL x S A M) (hw : WF M) : XQ (d + 1) k_H_next 0 (mentry (mL k_H_next) [.inr (some x), .inl v]) [] S (fun q S' => q = some (.inl (aNext M v).1) ∧ CL x S' A (aNext M v).2 ∧ WF (aNext M v).2 ∧ CFr x 3 30 S S') := by
  have hC0 := hC
  obtain ⟨hF, hN, hRs, hV, hO, hPl, hTg, hMk⟩ := hC
  have bad : (v < 0 ∨ 5 < v ∨ M 13 3 = 0) → aNext M v = (-1, M) := fun q => by unfold aNext; rw [if_pos q]
  have hb := hw.1.2.1
  have hR := hw.2.2.2.2.2.2.1
  obtain ⟨r61, r62, r63, r64⟩ := hF.2.2.2.2.2.2.2.2.1
  repeat (first | refine XQ.go rfl rfl ?_ | refine XQ.zeq0 rfl ?_ | refine XQ.zeq1 rfl ?_ | refine XQ.zne0 rfl ?_ | refine XQ.zne1 rfl ?_ | refine XQ.add rfl ⟨by omega, by omega⟩ ?_ | refine XQ.sub rfl ⟨by omega, by omega⟩ ?_ | refine XQ.inc rfl rfl rfl ⟨by omega, by omega⟩ ?_)
  refine XQ.s1 rfl rfl (le8 rfl) (C_isVariable (v := v)) (fun r S' hq => ?_)
  obtain ⟨rfl, ⟨rfl, hv⟩ | ⟨rfl, hv⟩⟩ := hq
  · repeat (first | refine XQ.go rfl rfl ?_ | refine XQ.zeq0 rfl ?_ | refine XQ.zeq1 rfl ?_ | refine XQ.zne0 rfl ?_ | refine XQ.zne1 rfl ?_ | refine XQ.add rfl ⟨by omega, by omega⟩ ?_ | refine XQ.sub rfl ⟨by omega, by omega⟩ ?_ | refine XQ.inc rfl rfl rfl ⟨by omega, by omega⟩ ?_)
    refine XQ.gx rfl hF.1 hF.2.2.2.2.1 ?_
    refine XQ.v1 rfl r61 rfl (le8 rfl) (C_takeFirst (d := d) r61 r62 r63 r64 hRs.2.2 hb.2.1 (by omega) (by decide) (fun i a b => live_tg hO (hR.2.1 i a b))) (fun q S2 hq => ?_)
    rcases hq with ⟨n0, rfl, rfl⟩ | ⟨n0, rfl, c1, c2, c3, c4, c5, c6, c7, c8⟩
    · rw [bad (by omega)]
      repeat (first | refine XQ.go rfl rfl ?_ | refine XQ.zeq0 rfl ?_ | refine XQ.zeq1 rfl ?_ | refine XQ.zne0 rfl ?_ | refine XQ.zne1 rfl ?_ | refine XQ.add rfl ⟨by omega, by omega⟩ ?_ | refine XQ.sub rfl ⟨by omega, by omega⟩ ?_ | refine XQ.inc rfl rfl rfl ⟨by omega, by omega⟩ ?_)
      exact XQ.ret rfl rfl ⟨rfl, hC0, hw, CFr.rf⟩
    · have l0 := hR.2.1 0 (by omega) n0
      have ht := live_tg hO l0
      have hge := live_ge hO l0
      have good : aNext M v = (M 12 0, aHold (lp aNxF (M 13 3 - 1).toNat (u2 M 13 3 (M 13 3 - 1))) v 9 (M 11 0)) := by
        unfold aNext
        rw [if_neg (by omega)]
        have : u2 (aHold M v 9 (M 11 0)) 13 3 (M 13 3 - 1) = aHold (u2 M 13 3 (M 13 3 - 1)) v 9 (M 11 0) := by
          unfold aHold
          rw [u2_comm (u2 M 0 v 9) v 3 _ _ (show (1 : Nat) ≠ 13 by decide), u2_comm M v 3 _ _ (show (0 : Nat) ≠ 13 by decide)]
        rw [this, aNxF_hold]
      rw [good]
      obtain ⟨ho2, p11⟩ := aNxF_lp (u2 M 13 3 (M 13 3 - 1)) (M 13 3 - 1).toNat
      have p13 : ∀ i, lp aNxF (M 13 3 - 1).toNat (u2 M 13 3 (M 13 3 - 1)) 13 i = if i = 3 then M 13 3 - 1 else M 13 i := fun i => by
        rw [ho2 13 i rfl]
        by_cases c : i = 3
        · rw [if_pos c, c, u2_s]
        · rw [if_neg c, u2_n _ _ (Or.inr c)]
      have ho : offS [9, 10, 11, 12, 13] M (lp aNxF (M 13 3 - 1).toNat (u2 M 13 3 (M 13 3 - 1))) := fun j i hj => by
        rw [ho2 j i (by simp at hj ⊢; omega), u2_n _ _ (Or.inl (fun q => by subst q; cases hj))]
      have p9 : ∀ j i, (j = 9 ∨ j = 10) → lp aNxF (M 13 3 - 1).toNat (u2 M 13 3 (M 13 3 - 1)) j i = M j i := fun j i hj => by
        rw [ho2 j i (by rcases hj with rfl | rfl <;> rfl), u2_n _ _ (Or.inl (by omega))]
      have p11' : ∀ j i, (j = 11 ∨ j = 12) → 0 ≤ i → i < M 13 3 - 1 → lp aNxF (M 13 3 - 1).toNat (u2 M 13 3 (M 13 3 - 1)) j i = M j (i + 1) := fun j i hj i0 i1 => by
        rw [p11 j i hj, if_pos (by omega), u2_n _ _ (Or.inl (by omega))]
      generalize lp aNxF (M 13 3 - 1).toNat (u2 M 13 3 (M 13 3 - 1)) = M' at p13 ho p9 p11'
      have q0 : M' 13 0 = M 13 0 := by rw [p13, if_neg (by decide)]
      have q2' : M' 13 2 = M 13 2 := by rw [p13, if_neg (by decide)]
      have q3' : M' 13 3 = M 13 3 - 1 := by rw [p13, if_pos rfl]
      have lvm := fun {h : Int} (z : live M h) => live_off ho rfl q0 z
      have dif : ∀ q, 0 < q → q < M 13 3 → M 11 q ≠ M 11 0 := fun q a b z => hR.2.2.2.1 0 q (by omega) a b z.symm
      have hW : WF M' := by
        refine hw.rows ho q0 (by rw [p13, if_neg (by decide)]) (by rw [p13, if_neg (by decide)]) (by omega) ⟨?_, ?_, ?_, ?_, ?_⟩
        · intro q z0 z1
          rw [p9 9 q (Or.inl rfl)]
          exact lvm (hR.1 q z0 (by omega))
        · intro q z0 z1
          rw [p11' 11 q (Or.inl rfl) z0 (by omega)]
          exact lvm (hR.2.1 (q + 1) (by omega) (by omega))
        · intro q q' z0 z1 z2
          rw [p9 9 q (Or.inl rfl), p9 9 q' (Or.inl rfl)]
          exact hR.2.2.1 q q' z0 z1 (by omega)
        · intro q q' z0 z1 z2
          rw [p11' 11 q (Or.inl rfl) z0 (by omega), p11' 11 q' (Or.inl rfl) (by omega) (by omega)]
          exact hR.2.2.2.1 (q + 1) (q' + 1) (by omega) (by omega) (by omega)
        · intro q q' z0 z1 z2 z3
          rw [p9 9 q (Or.inl rfl), p11' 11 q' (Or.inl rfl) z2 (by omega)]
          exact hR.2.2.2.2 q (q' + 1) z0 (by omega) (by omega) (by omega)
      have hv2 : ∀ b j, b ≠ x + 6 → b ≠ x + 7 → vS (mset S2 (A (M 11 0)) 4 (.inl 0)) b j = if b = A (M 11 0) ∧ j = 4 then .inl 0 else vS S' b j := fun b j b1 b2 => by
        by_cases c : b = A (M 11 0)
        · rw [c, mset_s]
          by_cases c2 : j = 4
          · rw [if_pos c2, if_pos ⟨rfl, c2⟩]
          · rw [if_neg c2, if_neg (fun z => c2 z.2), c5 _ (by omega) (by omega)]
        · rw [mset_v _ _ _ _ c, if_neg (fun z => c z.1), c5 b b1 b2]
      have hv6 : ∀ b, b = x + 6 ∨ b = x + 7 → vS (mset S2 (A (M 11 0)) 4 (.inl 0)) b = vS S2 b := fun b hb => mset_v _ _ _ _ (by omega)
      have hsz : zS (mset S2 (A (M 11 0)) 4 (.inl 0)) = zS S' := c1
      have hst : tS (mset S2 (A (M 11 0)) 4 (.inl 0)) = tS S' := c3
      have hsl : lS (mset S2 (A (M 11 0)) 4 (.inl 0)) = lS S' := c4
      have hsq : qS (mset S2 (A (M 11 0)) 4 (.inl 0)) = qS S' := c2
      repeat (first | refine XQ.go rfl rfl ?_ | refine XQ.zeq0 rfl ?_ | refine XQ.zeq1 rfl ?_ | refine XQ.zne0 rfl ?_ | refine XQ.zne1 rfl ?_ | refine XQ.add rfl ⟨by omega, by omega⟩ ?_ | refine XQ.sub rfl ⟨by omega, by omega⟩ ?_ | refine XQ.inc rfl rfl rfl ⟨by omega, by omega⟩ ?_)
      refine XQ.put rfl (by have := ht.c; rw [← c3] at this; exact this) rfl ?_
      generalize mset S2 (A (M 11 0)) 4 (.inl 0) = S3 at hv2 hv6 hsz hst hsl hsq ⊢
      have hC3 : CL x S3 A M' := by
        refine hC0.rows hw hsz hst hsl (fun b j d1 d2 => ?_) ?_ ?_ ho q0 (by rw [p13, if_neg (by decide)]) (by rw [p13, if_neg (by decide)]) ⟨?_, ?_⟩ ⟨?_, ?_⟩ ⟨?_, ?_, ?_⟩
        · rw [hv2 b j (by omega) (by omega), if_neg (fun z => d2 ⟨by omega, by rw [z.1]; exact ht, by omega, by omega⟩)]
        · rw [hv2 _ _ (by omega) (by omega), if_neg (by omega)]
        · rw [hv6 _ (Or.inl rfl), c6 0 (by decide)]
        · rw [hv2 _ _ (by omega) (by omega), if_neg (by omega), q2']
          exact hRs.2.1.1
        · intro i i0 i1
          show vS S3 (x + 5) i = .inr (some (A (M' 9 i)))
          rw [hv2 _ _ (by omega) (by omega), if_neg (by omega), p9 9 i (Or.inl rfl)]
          exact hRs.2.1.2 i i0 (by omega)
        · rw [hv6 _ (Or.inl rfl), c7, q3']
        · intro i i0 i1
          rw [q3'] at i1
          show vS S3 (x + 7) i = .inr (some (A (M' 11 i)))
          rw [hv6 _ (Or.inr rfl), p11' 11 i (Or.inl rfl) i0 i1]
          exact c8 i i0 i1
        · intro o o0 o1
          rw [q0] at o1
          have hgo := (hO o o0 o1).1
          rw [ho 2 o rfl, hv2 _ _ (by omega) (by omega)]
          by_cases c : M 2 o = M 11 0
          · rw [c, if_pos ⟨rfl, rfl⟩]
            have e1 : aIn M' 9 (M 11 0) (M' 13 2).toNat = false := by
              cases hh : aIn M' 9 (M 11 0) (M' 13 2).toNat
              · rfl
              · obtain ⟨q, a, b, c⟩ := aIn_i.mp hh
                rw [p9 9 q (Or.inl rfl)] at c
                exact absurd c (hR.2.2.2.2 q 0 a (by omega) (by omega) n0)
            have e2 : aIn M' 11 (M 11 0) (M' 13 3).toNat = false := by
              cases hh : aIn M' 11 (M 11 0) (M' 13 3).toNat
              · rfl
              · obtain ⟨q, a, b, c⟩ := aIn_i.mp hh
                rw [p11' 11 q (Or.inl rfl) a (by omega)] at c
                exact absurd c (dif (q + 1) (by omega) (by omega))
            rw [e1, e2]
            rfl
          · rw [if_neg (fun z => c (A_inj hO (live_o o0 o1) l0 z.1)), hTg.1 o o0 o1]
            congr 1
            apply bI_eq
            rw [Bool.or_eq_true, Bool.or_eq_true, aIn_i, aIn_i, aIn_i, aIn_i, q2', q3']
            constructor
            · rintro (⟨q, a, b, c2⟩ | ⟨q, a, b, c2⟩)
              · exact Or.inl ⟨q, a, b, by rw [p9 9 q (Or.inl rfl)]; exact c2⟩
              · have hq : q ≠ 0 := fun z => by rw [z] at c2; exact c c2.symm
                exact Or.inr ⟨q - 1, by omega, by omega, by rw [p11' 11 _ (Or.inl rfl) (by omega) (by omega), Int.sub_add_cancel]; exact c2⟩
            · rintro (⟨q, a, b, c2⟩ | ⟨q, a, b, c2⟩)
              · rw [p9 9 q (Or.inl rfl)] at c2
                exact Or.inl ⟨q, a, b, c2⟩
              · rw [p11' 11 q (Or.inl rfl) a b] at c2
                exact Or.inr ⟨q + 1, by omega, by omega, c2⟩
        · intro q z0 z1
          rw [p9 9 q (Or.inl rfl), p9 10 q (Or.inr rfl)]
          have gq := live_ge hO (hR.1 q z0 (by omega))
          rw [hv2 _ _ (by omega) (by omega), if_neg (fun z => absurd z.2 (by decide))]
          exact hTg.2.1 q z0 (by omega)
        · intro q z0 z1
          rw [p11' 11 q (Or.inl rfl) z0 (by omega), p11' 12 q (Or.inr rfl) z0 (by omega)]
          have gq := live_ge hO (hR.2.1 (q + 1) (by omega) (by omega))
          rw [hv2 _ _ (by omega) (by omega), if_neg (fun z => absurd z.2 (by decide))]
          exact hTg.2.2 (q + 1) (by omega) (by omega)
      have hf3 : CFr x 3 30 S' S3 := ⟨by omega, by omega, by omega, by omega, fun a _ => by rw [hst, hsl]; exact ⟨rfl, rfl⟩, fun a ha => funext fun j => by rw [hv2 a j (by omega) (by omega), if_neg (by omega)]⟩
      have t5 : vS S3 (A (M 11 0)) 5 = .inl (M 12 0) := by
        rw [hv2 _ _ (by omega) (by omega), if_neg (fun z => absurd z.2 (by decide))]
        exact hTg.2.2 0 (by omega) n0
      have vr : VR x S3 A (some (A (M 11 0))) 9 (M 11 0) := Or.inr (Or.inr ⟨rfl, rfl⟩)
      have ok : OKV M' 9 (M 11 0) := Or.inr (Or.inr ⟨rfl, lvm l0⟩)
      have ht3 : TG S3 (A (M 11 0)) := live_tg hC3.2.2.2.2.1 (lvm l0)
      repeat (first | refine XQ.go rfl rfl ?_ | refine XQ.zeq0 rfl ?_ | refine XQ.zeq1 rfl ?_ | refine XQ.zne0 rfl ?_ | refine XQ.zne1 rfl ?_ | refine XQ.add rfl ⟨by omega, by omega⟩ ?_ | refine XQ.sub rfl ⟨by omega, by omega⟩ ?_ | refine XQ.inc rfl rfl rfl ⟨by omega, by omega⟩ ?_)
      refine XQ.gx rfl hC3.1.1 hC3.1.2.1 ?_
      repeat (first | refine XQ.go rfl rfl ?_ | refine XQ.zeq0 rfl ?_ | refine XQ.zeq1 rfl ?_ | refine XQ.zne0 rfl ?_ | refine XQ.zne1 rfl ?_ | refine XQ.add rfl ⟨by omega, by omega⟩ ?_ | refine XQ.sub rfl ⟨by omega, by omega⟩ ?_ | refine XQ.inc rfl rfl rfl ⟨by omega, by omega⟩ ?_)
      refine XQ.ast rfl (vr.ast hC3.2.2.2.2.1 ok hC3.1.2.2.2.2.2.1.1) hv.1 (by rw [hC3.1.2.2.2.2.2.1.2]; omega) ?_
      repeat (first | refine XQ.go rfl rfl ?_ | refine XQ.zeq0 rfl ?_ | refine XQ.zeq1 rfl ?_ | refine XQ.zne0 rfl ?_ | refine XQ.zne1 rfl ?_ | refine XQ.add rfl ⟨by omega, by omega⟩ ?_ | refine XQ.sub rfl ⟨by omega, by omega⟩ ?_ | refine XQ.inc rfl rfl rfl ⟨by omega, by omega⟩ ?_)
      refine XQ.gt rfl (by exact ht3) (v := .inl (M 12 0)) (by rw [mset_v _ _ _ _ (by omega)]; exact t5) ?_
      exact XQ.ret rfl rfl ⟨rfl, hC3.hold hW hv.1 hv.2 vr, hW.hold ok, hf3.set (Or.inl ⟨by omega, by omega⟩) _ _⟩
  · rw [bad (by omega)]
    repeat (first | refine XQ.go rfl rfl ?_ | refine XQ.zeq0 rfl ?_ | refine XQ.zeq1 rfl ?_ | refine XQ.zne0 rfl ?_ | refine XQ.zne1 rfl ?_ | refine XQ.add rfl ⟨by omega, by omega⟩ ?_ | refine XQ.sub rfl ⟨by omega, by omega⟩ ?_ | refine XQ.inc rfl rfl rfl ⟨by omega, by omega⟩ ?_)
    exact XQ.ret rfl rfl ⟨rfl, hC0, hw, CFr.rf⟩
end G8
