/-! what the steps of a collection leave as it is -/
def offS (R : List Nat) (M M' : MM) : Prop := ∀ j i, R.contains j = false → M' j i = M j i
theorem offS.rf {R : List Nat} {M : MM} : offS R M M := fun _ _ _ => rfl
theorem offS.tr {R : List Nat} {M M1 M2 : MM} (h : offS R M M1) (h2 : offS R M1 M2) : offS R M M2 := fun j i hj => (h2 j i hj).trans (h j i hj)
theorem offS.u {R : List Nat} {M M1 : MM} (h : offS R M M1) {j0 : Nat} (hr : R.contains j0 = true) (i v : Int) : offS R M (u2 M1 j0 i v) := fun j i' hj => (u2_n M1 v (Or.inl (fun e => by subst e; rw [hr] at hj; cases hj))).trans (h j i' hj)
theorem offS.of {M M' : MM} (h : offM M M') : offS [8] M M' := fun j i hj => h j i (fun e => by subst e; cases hj)
theorem BW.offS {R : List Nat} {M M' : MM} (h : BW M) (ho : offS R M M') (h13 : R.contains 13 = false) (h3 : R.contains 3 = false) (h4 : R.contains 4 = false) : BW M' := by
  obtain ⟨g1, g2, g3, g4⟩ := h
  unfold BW
  rw [ho 13 0 h13, ho 13 1 h13, ho 13 2 h13, ho 13 3 h13, ho 13 4 h13]
  refine ⟨g1, g2, fun o a b => ?_, g4⟩
  rw [ho 4 o h4, ho 3 o h3]
  exact g3 o a b
theorem aLsW_off (o : Nat) (M : MM) : offS [5, 6] M (aLsW o M) := by
  unfold aLsW
  split
  · exact (offS.rf.u rfl _ _).u rfl _ _
  · exact offS.rf
theorem aLsE_off (o e : Nat) (p : Int × MM) : offS [5, 6, 7] p.2 (aLsE o e p).2 := by
  unfold aLsE
  split
  · exact ((offS.rf.u rfl _ _).u rfl _ _).u rfl _ _
  · exact offS.rf
/-- the loop over a table's entries -/
theorem aLsE_lp (o : Nat) (M : MM) (n : Nat) : offS [5, 6, 7] M (lp (aLsE o) n (0, M)).2 ∧ 0 ≤ (lp (aLsE o) n (0, M)).1 ∧ (lp (aLsE o) n (0, M)).1 ≤ (n : Int) := by
  refine lp_inv (fun i (q : Int × MM) => offS [5, 6, 7] M q.2 ∧ 0 ≤ q.1 ∧ q.1 ≤ (i : Int)) ⟨offS.rf, by show (0 : Int) ≤ 0; omega, by show (0 : Int) ≤ 0; omega⟩ n (fun i x _ hx => ?_)
  refine ⟨hx.1.tr (aLsE_off o i x), ?_⟩
  unfold aLsE
  split
  · show 0 ≤ x.1 + 1 ∧ x.1 + 1 ≤ ((i + 1 : Nat) : Int)
    omega
  · omega
theorem aLsT_row (o : Nat) (M : MM) (h0 : 0 ≤ M 4 (o : Int)) : offS [4, 5, 6, 7] M (aLsT o M) ∧ (∀ i, i ≠ (o : Int) → aLsT o M 4 i = M 4 i) ∧ 0 ≤ aLsT o M 4 (o : Int) ∧ aLsT o M 4 (o : Int) ≤ M 4 (o : Int) ∧ (M 3 (o : Int) = 2 → aLsT o M 4 (o : Int) = M 4 (o : Int)) := by
  unfold aLsT
  split
  · rename_i e4
    obtain ⟨g1, g2, g3⟩ := aLsE_lp o M (M 4 (o : Int)).toNat
    refine ⟨offS.u (fun j i hj => g1 j i ?_) rfl _ _, fun i hi => ?_, ?_, ?_, fun e2 => by omega⟩
    · simp at hj ⊢
      exact hj.2
    · rw [u2_n _ _ (Or.inr hi)]; exact g1 4 i rfl
    · rw [u2_s]; exact g2
    · rw [u2_s]; omega
  · exact ⟨offS.rf, fun _ _ => rfl, h0, Int.le_refl _, fun _ => rfl⟩
theorem aLsS_ok {o : Nat} {M : MM} (hB : BW M) (ho : (o : Int) < M 13 0) : BW (aLsS o M) ∧ offS [4, 5, 6, 7] M (aLsS o M) := by
  have h1 := aLsW_off o M
  have hB1 := hB.offS h1 rfl rfl rfl
  have e0 := h1 13 0 rfl
  have hm := hB1.2.2.1 o (by omega) (by omega)
  obtain ⟨g1, g2, g3, g4, g5⟩ := aLsT_row o (aLsW o M) hm.1
  have hoff : offS [4, 5, 6, 7] M (aLsS o M) := fun j i hj => (g1 j i hj).trans (h1 j i (by simp at hj ⊢; omega))
  refine ⟨?_, hoff⟩
  obtain ⟨k1, k2, k3, k4⟩ := hB
  unfold BW
  rw [hoff 13 0 rfl, hoff 13 1 rfl, hoff 13 2 rfl, hoff 13 3 rfl, hoff 13 4 rfl]
  refine ⟨k1, k2, fun i a b => ?_, k4⟩
  rw [hoff 3 i rfl]
  have hk := k3 i a b
  by_cases e : i = (o : Int)
  · subst e
    have e4 := h1 4 (o : Int) rfl
    show 0 ≤ aLsT o (aLsW o M) 4 (o : Int) ∧ aLsT o (aLsW o M) 4 (o : Int) ≤ 4 ∧ _
    refine ⟨g3, by omega, hk.2.2.1, fun e2 => ?_, fun e2 => by have h9 := hk.2.2.2.2 e2; show aLsT o (aLsW o M) 4 (o : Int) ≤ 3; omega⟩
    have e3 := h1 3 (o : Int) rfl
    have := hk.2.2.2.1 e2
    have g6 := g5 (by rw [e3]; exact e2)
    show 1 ≤ aLsT o (aLsW o M) 4 (o : Int)
    omega
  · have e4 : aLsS o M 4 i = M 4 i := (g2 i e).trans (h1 4 i rfl)
    rw [e4]
    exact hk
theorem aLoose_lp {M : MM} (hB : BW M) : ∀ k : Nat, (k : Int) ≤ M 13 0 → BW (lp aLsS k M) ∧ offS [4, 5, 6, 7] M (lp aLsS k M)
  | 0, _ => ⟨hB, offS.rf⟩
  | k + 1, hk => by
    obtain ⟨g1, g2⟩ := aLoose_lp hB k (by omega)
    have e0 := g2 13 0 rfl
    obtain ⟨g3, g4⟩ := aLsS_ok (o := k) g1 (by omega)
    exact ⟨g3, g2.tr g4⟩
theorem aCwK_lp {M : MM} : ∀ k : Nat, offS [9, 10, 11, 12, 13] M (lp aCwK k (0, M)).2 ∧ 0 ≤ (lp aCwK k (0, M)).1 ∧ (lp aCwK k (0, M)).1 ≤ (k : Int) ∧ (∀ q, q ≠ 3 → (lp aCwK k (0, M)).2 13 q = M 13 q) ∧ (lp aCwK k (0, M)).2 13 3 = M 13 3 + ((k : Int) - (lp aCwK k (0, M)).1)
  | 0 => ⟨offS.rf, by show (0 : Int) ≤ 0; omega, by show (0 : Int) ≤ 0; omega, fun _ _ => rfl, by show M 13 3 = M 13 3 + ((0 : Int) - 0); omega⟩
  | k + 1 => by
    obtain ⟨g1, g2, g3, g4, g5⟩ := aCwK_lp (M := M) k
    show offS _ M (aCwK k (lp aCwK k (0, M))).2 ∧ 0 ≤ (aCwK k (lp aCwK k (0, M))).1 ∧ (aCwK k (lp aCwK k (0, M))).1 ≤ _ ∧ (∀ q, q ≠ 3 → (aCwK k (lp aCwK k (0, M))).2 13 q = M 13 q) ∧ (aCwK k (lp aCwK k (0, M))).2 13 3 = M 13 3 + (((k + 1 : Nat) : Int) - (aCwK k (lp aCwK k (0, M))).1)
    generalize lp aCwK k (0, M) = p at g1 g2 g3 g4 g5 ⊢
    unfold aCwK
    split
    · refine ⟨(g1.u rfl _ _).u rfl _ _, by show 0 ≤ p.1 + 1; omega, by show p.1 + 1 ≤ _; omega, fun q hq => ?_, ?_⟩
      · show u2 (u2 p.2 9 p.1 (p.2 9 (k : Int))) 10 p.1 (p.2 10 (k : Int)) 13 q = _
        exact (u2_n _ _ (Or.inl (by decide))).trans ((u2_n _ _ (Or.inl (by decide))).trans (g4 q hq))
      · show u2 (u2 p.2 9 p.1 (p.2 9 (k : Int))) 10 p.1 (p.2 10 (k : Int)) 13 3 = M 13 3 + (((k + 1 : Nat) : Int) - (p.1 + 1))
        refine (u2_n _ _ (Or.inl (by decide))).trans ((u2_n _ _ (Or.inl (by decide))).trans (g5.trans ?_))
        omega
    · refine ⟨((g1.u rfl _ _).u rfl _ _).u rfl _ _, g2, by show p.1 ≤ _; omega, fun q hq => ?_, ?_⟩
      · exact (u2_n _ _ (Or.inr hq)).trans ((u2_n _ _ (Or.inl (by decide))).trans ((u2_n _ _ (Or.inl (by decide))).trans (g4 q hq)))
      · show u2 (u2 (u2 p.2 11 (p.2 13 3) (p.2 9 (k : Int))) 12 (p.2 13 3) (p.2 10 (k : Int))) 13 3 (p.2 13 3 + 1) 13 3 = _
        refine (u2_s _ _ _ _).trans ?_
        show p.2 13 3 + 1 = M 13 3 + (((k + 1 : Nat) : Int) - p.1)
        omega
theorem aCallW_ok {M : MM} (hB : BW M) : BW (aCallW M) ∧ offS [9, 10, 11, 12, 13] M (aCallW M) ∧ (aCallW M 13 0 = M 13 0 ∧ aCallW M 13 1 = M 13 1 ∧ aCallW M 13 4 = M 13 4) := by
  obtain ⟨g1, g2, g3, g4, g5⟩ := aCwK_lp (M := M) (M 13 2).toNat
  unfold aCallW
  generalize lp aCwK (M 13 2).toNat (0, M) = p at g1 g2 g3 g4 g5 ⊢
  have hoff : offS [9, 10, 11, 12, 13] M (u2 p.2 13 2 p.1) := g1.u rfl _ _
  have e0 : u2 p.2 13 2 p.1 13 0 = M 13 0 := (u2_n _ _ (Or.inr (by decide))).trans (g4 0 (by decide))
  have e1 : u2 p.2 13 2 p.1 13 1 = M 13 1 := (u2_n _ _ (Or.inr (by decide))).trans (g4 1 (by decide))
  have e4 : u2 p.2 13 2 p.1 13 4 = M 13 4 := (u2_n _ _ (Or.inr (by decide))).trans (g4 4 (by decide))
  have e2 : u2 p.2 13 2 p.1 13 2 = p.1 := u2_s _ _ _ _
  have e3 : u2 p.2 13 2 p.1 13 3 = M 13 3 + (((M 13 2).toNat : Int) - p.1) := (u2_n _ _ (Or.inr (by decide))).trans g5
  refine ⟨?_, hoff, e0, e1, e4⟩
  obtain ⟨k1, k2, k3, k4⟩ := hB
  unfold BW
  rw [e0, e1, e2, e3, e4]
  refine ⟨k1, by omega, fun i a b => ?_, k4⟩
  rw [hoff 4 i rfl, hoff 3 i rfl]
  exact k3 i a b
theorem aSwF_off (o : Nat) (l : Int) (f : Nat) (M : MM) : offS [5, 6, 7] M (aSwF o l f M) := ((offS.rf.u rfl _ _).u rfl _ _).u rfl _ _
theorem aSwF_lp (o : Nat) (l : Int) (n : Nat) (M : MM) : offS [5, 6, 7] M (lp (aSwF o l) n M) := lp_inv (fun _ q => offS [5, 6, 7] M q) offS.rf n (fun i x _ hx => hx.tr (aSwF_off o l i x))
/-- a sweep: what lies ahead is untouched, what lies behind is a copy of something ahead of it -/
theorem aSwO_lp {M : MM} : ∀ k : Nat, offS [2, 3, 4, 5, 6, 7] M (lp aSwO k (0, M)).2 ∧ 0 ≤ (lp aSwO k (0, M)).1 ∧ (lp aSwO k (0, M)).1 ≤ (k : Int) ∧ (∀ j i, (j = 2 ∨ j = 3 ∨ j = 4) → (lp aSwO k (0, M)).1 ≤ i → (lp aSwO k (0, M)).2 j i = M j i) ∧ (∀ i, 0 ≤ i → i < (lp aSwO k (0, M)).1 → ∃ i', 0 ≤ i' ∧ i' < (k : Int) ∧ (lp aSwO k (0, M)).2 3 i = M 3 i' ∧ (lp aSwO k (0, M)).2 4 i = M 4 i')
  | 0 => ⟨offS.rf, by show (0 : Int) ≤ 0; omega, by show (0 : Int) ≤ 0; omega, fun _ _ _ _ => rfl, fun i h0 h1 => absurd h1 (by show ¬ i < (0 : Int); omega)⟩
  | k + 1 => by
    obtain ⟨g1, g2, g3, g4, g5⟩ := aSwO_lp (M := M) k
    show offS _ M (aSwO k (lp aSwO k (0, M))).2 ∧ 0 ≤ (aSwO k (lp aSwO k (0, M))).1 ∧ (aSwO k (lp aSwO k (0, M))).1 ≤ _ ∧ (∀ j i, (j = 2 ∨ j = 3 ∨ j = 4) → (aSwO k (lp aSwO k (0, M))).1 ≤ i → (aSwO k (lp aSwO k (0, M))).2 j i = M j i) ∧ (∀ i, 0 ≤ i → i < (aSwO k (lp aSwO k (0, M))).1 → ∃ i', 0 ≤ i' ∧ i' < ((k + 1 : Nat) : Int) ∧ (aSwO k (lp aSwO k (0, M))).2 3 i = M 3 i' ∧ (aSwO k (lp aSwO k (0, M))).2 4 i = M 4 i')
    generalize lp aSwO k (0, M) = p at g1 g2 g3 g4 g5 ⊢
    unfold aSwO
    split
    · have hf := aSwF_lp k p.1 4 (u2 (u2 (u2 p.2 2 p.1 (p.2 2 (k : Int))) 3 p.1 (p.2 3 (k : Int))) 4 p.1 (p.2 4 (k : Int)))
      generalize lp (aSwF k p.1) 4 (u2 (u2 (u2 p.2 2 p.1 (p.2 2 (k : Int))) 3 p.1 (p.2 3 (k : Int))) 4 p.1 (p.2 4 (k : Int))) = N at hf ⊢
      have c2 := fun i => hf 2 i rfl
      have c3 := fun i => hf 3 i rfl
      have c4 := fun i => hf 4 i rfl
      refine ⟨fun j i hj => ?_, by show 0 ≤ p.1 + 1; omega, by show p.1 + 1 ≤ _; omega, fun j i hj hi => ?_, fun i h0 h1 => ?_⟩
      · refine (hf j i ?_).trans (((g1.u rfl _ _).u rfl _ _).u rfl _ _ j i hj)
        simp at hj ⊢
        omega
      · have hi : p.1 + 1 ≤ i := hi
        have hne : i ≠ p.1 := by omega
        rcases hj with rfl | rfl | rfl
        · exact (c2 i).trans ((u2_n _ _ (Or.inl (by decide))).trans ((u2_n _ _ (Or.inl (by decide))).trans ((u2_n _ _ (Or.inr hne)).trans (g4 2 i (by omega) (by omega)))))
        · exact (c3 i).trans ((u2_n _ _ (Or.inl (by decide))).trans ((u2_n _ _ (Or.inr hne)).trans ((u2_n _ _ (Or.inl (by decide))).trans (g4 3 i (by omega) (by omega)))))
        · exact (c4 i).trans ((u2_n _ _ (Or.inr hne)).trans ((u2_n _ _ (Or.inl (by decide))).trans ((u2_n _ _ (Or.inl (by decide))).trans (g4 4 i (by omega) (by omega)))))
      · have h1 : i < p.1 + 1 := h1
        by_cases e : i = p.1
        · subst e
          refine ⟨(k : Int), by omega, by omega, ?_, ?_⟩
          · exact (c3 _).trans ((u2_n _ _ (Or.inl (by decide))).trans ((u2_s _ _ _ _).trans (g4 3 _ (by omega) (by omega))))
          · exact (c4 _).trans ((u2_s _ _ _ _).trans (g4 4 _ (by omega) (by omega)))
        · obtain ⟨i', a1, a2, a3, a4⟩ := g5 i h0 (by omega)
          refine ⟨i', a1, by omega, ?_, ?_⟩
          · exact (c3 _).trans ((u2_n _ _ (Or.inl (by decide))).trans ((u2_n _ _ (Or.inr e)).trans ((u2_n _ _ (Or.inl (by decide))).trans a3)))
          · exact (c4 _).trans ((u2_n _ _ (Or.inr e)).trans ((u2_n _ _ (Or.inl (by decide))).trans ((u2_n _ _ (Or.inl (by decide))).trans a4)))
    · refine ⟨g1, g2, by show p.1 ≤ _; omega, g4, fun i h0 h1 => ?_⟩
      obtain ⟨i', a1, a2, a3, a4⟩ := g5 i h0 h1
      exact ⟨i', a1, by omega, a3, a4⟩
theorem aSweep_ok {M : MM} (hB : BW M) : BW (aSweep M).2 ∧ (∀ q, q ≠ 0 → (aSweep M).2 13 q = M 13 q) := by
  obtain ⟨g1, g2, g3, g4, g5⟩ := aSwO_lp (M := M) (M 13 0).toNat
  unfold aSweep
  generalize lp aSwO (M 13 0).toNat (0, M) = p at g1 g2 g3 g4 g5 ⊢
  have e : ∀ q, q ≠ 0 → u2 p.2 13 0 p.1 13 q = M 13 q := fun q hq => (u2_n _ _ (Or.inr hq)).trans (g1 13 q rfl)
  refine ⟨?_, e⟩
  obtain ⟨k1, k2, k3, k4⟩ := hB
  show BW (u2 p.2 13 0 p.1)
  unfold BW
  rw [e 1 (by decide), e 2 (by decide), e 3 (by decide), e 4 (by decide), u2_s]
  refine ⟨by omega, k2, fun i a b => ?_, k4⟩
  rw [u2_n _ _ (Or.inl (by decide)), u2_n _ _ (Or.inl (by decide))]
  obtain ⟨i', a1, a2, a3, a4⟩ := g5 i a b
  rw [a3, a4]
  exact k3 i' a1 (by omega)
