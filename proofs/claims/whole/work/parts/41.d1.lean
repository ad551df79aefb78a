/-! losing what is not strong: the pure side -/
theorem atR_offS {R : List Nat} {M M' : MM} (ho : offS R M M') (h2 : R.contains 2 = false) (h : Int) : ∀ n, atR M' h n = atR M h n
  | 0 => rfl
  | n + 1 => by unfold atR; rw [ho 2 _ h2, atR_offS ho h2 h n]
theorem aIsM_off {R : List Nat} {M M' : MM} (ho : offS R M M') (h2 : R.contains 2 = false) (h8 : R.contains 8 = false) (e0 : M' 13 0 = M 13 0) (h : Int) : aIsM M' h = aIsM M h := by
  unfold aIsM aAt
  rw [e0, atR_offS ho h2, ho 8 _ h8]
/-- only one object's rows change, and each entry that is left was there before -/
theorem WF.loc {M M' : MM} (hw : WF M) {o : Int} (h0 : 0 ≤ o) (h1 : o < M 13 0) (ho : offS [4, 5, 6, 7] M M') (l4 : ∀ i, i ≠ o → M' 4 i = M 4 i) (ll : ∀ j i, i < 4 * o ∨ 4 * o + 4 ≤ i → j ≠ 4 → M' j i = M j i) (b0 : 0 ≤ M' 4 o) (b1 : M' 4 o ≤ M 4 o) (b2 : M 3 o ≠ 4 → M' 4 o = M 4 o) (hent : ∀ f, 0 ≤ f → f < M' 4 o → (∃ e, 0 ≤ e ∧ e < M 4 o ∧ M' 5 (4 * o + f) = M 5 (4 * o + e) ∧ M' 6 (4 * o + f) = M 6 (4 * o + e) ∧ M' 7 (4 * o + f) = M 7 (4 * o + e)) ∨ (M 3 o = 3 ∧ M' 5 (4 * o + f) = 0)) (hK : M 3 o = 4 → ∀ f f', 0 ≤ f → f < f' → f' < M' 4 o → M' 7 (4 * o + f) ≠ M' 7 (4 * o + f')) : WF M' := by
  have hB := hw.1.2.2.1
  have hm := hB o h0 h1
  have hok := fun {is has : Int} (z : OKV M is has) => OKV_off ho rfl (ho 13 0 rfl) z
  have hlv := fun {h : Int} (z : live M h) => live_off ho rfl (ho 13 0 rfl) z
  have hc : ∀ o', 0 ≤ o' → o' < M 13 0 → aCells M' o' = aCells M o' := fun o' a1 a2 => by
    unfold aCells
    rw [ho 3 o' rfl]
    by_cases q : o' = o
    · subst q
      by_cases q2 : M 3 o' = 4
      · rw [q2]; rfl
      · rw [b2 q2]
    · rw [l4 o' q]
  refine hw.obj (fun j i hj => ho j i (by simp at hj ⊢; omega)) ?_ (fun o' f a1 a2 a3 a4 => ?_) (fun o' a1 a2 => ?_) (fun o' f f' a1 a2 a3 a4 a5 a6 => ?_) hc
  · obtain ⟨c1, c2, c3, c4⟩ := hw.1
    unfold BW
    rw [ho 13 0 rfl, ho 13 1 rfl, ho 13 2 rfl, ho 13 3 rfl, ho 13 4 rfl]
    refine ⟨c1, c2, fun i i0 i1 => ?_, c4⟩
    rw [ho 3 i rfl]
    have := c3 i i0 i1
    by_cases q : i = o
    · subst q; exact ⟨by omega, by omega, this.2.2.1, fun y => by have := b2 (by omega); omega, fun y => by have := this.2.2.2.2 y; omega⟩
    · rw [l4 i q]; exact this
  · rw [ho 13 0 rfl] at a2
    have hm' := hB o' a1 a2
    rw [ho 3 o' rfl]
    by_cases q : o' = o
    · subst q
      rcases hent f a3 a4 with ⟨e, e0, e1, e5, e6, e7⟩ | ⟨e3, e5⟩
      · rw [e5, e6, e7]
        obtain ⟨w1, w2, w3⟩ := hw.2.2.2.1 o' e a1 a2 e0 e1
        exact ⟨hok w1, w2, fun y => hlv (w3 y)⟩
      · rw [e5]
        exact ⟨Or.inl rfl, fun _ => by decide, fun y => by omega⟩
    · rw [l4 o' q] at a4
      rw [ll 5 _ (by omega) (by decide), ll 6 _ (by omega) (by decide), ll 7 _ (by omega) (by decide)]
      obtain ⟨w1, w2, w3⟩ := hw.2.2.2.1 o' f a1 a2 a3 a4
      exact ⟨hok w1, w2, fun y => hlv (w3 y)⟩
  · rw [ho 13 0 rfl] at a2
    rw [ho 3 o' rfl]
    intro y
    by_cases q : o' = o
    · subst q; rw [b2 (by omega)]; exact hw.2.2.2.2.1 o' a1 a2 y
    · rw [l4 o' q]; exact hw.2.2.2.2.1 o' a1 a2 y
  · rw [ho 13 0 rfl] at a2
    rw [ho 3 o' rfl] at a3
    by_cases q : o' = o
    · subst q; exact hK a3 f f' a4 a5 a6
    · rw [l4 o' q] at a6
      have hm' := hB o' a1 a2
      rw [ll 7 _ (by omega) (by decide), ll 7 _ (by omega) (by decide)]
      exact hw.2.2.2.2.2.1 o' f f' a1 a2 a3 a4 a5 a6
theorem aLsE_ch {o : Nat} {M : MM} {n : Int} (hd : ∀ f f', 0 ≤ f → f < f' → f' < n → M 7 (4 * (o : Int) + f) ≠ M 7 (4 * (o : Int) + f')) : ∀ k : Nat, (k : Int) ≤ n → (∀ f, 0 ≤ f → f < (lp (aLsE o) k (0, M)).1 → ∃ e, f ≤ e ∧ e < (k : Int) ∧ (lp (aLsE o) k (0, M)).2 5 (4 * (o : Int) + f) = M 5 (4 * (o : Int) + e) ∧ (lp (aLsE o) k (0, M)).2 6 (4 * (o : Int) + f) = M 6 (4 * (o : Int) + e) ∧ (lp (aLsE o) k (0, M)).2 7 (4 * (o : Int) + f) = M 7 (4 * (o : Int) + e) ∧ aIsM M (M 7 (4 * (o : Int) + e)) = true) ∧ (∀ f f', 0 ≤ f → f < f' → f' < (lp (aLsE o) k (0, M)).1 → (lp (aLsE o) k (0, M)).2 7 (4 * (o : Int) + f) ≠ (lp (aLsE o) k (0, M)).2 7 (4 * (o : Int) + f')) ∧ (∀ j i, i < 4 * (o : Int) ∨ 4 * (o : Int) + (lp (aLsE o) k (0, M)).1 ≤ i → (lp (aLsE o) k (0, M)).2 j i = M j i)
  | 0, _ => ⟨fun f a b => absurd b (by show ¬ f < (0 : Int); omega), fun f f' a b c => absurd c (by show ¬ f' < (0 : Int); omega), fun _ _ _ => rfl⟩
  | k + 1, hk => by
    obtain ⟨g1, g2, g3⟩ := aLsE_ch hd k (by omega)
    obtain ⟨o1, o2, o3⟩ := aLsE_lp o M k
    have st : lp (aLsE o) (k + 1) (0, M) = aLsE o k (lp (aLsE o) k (0, M)) := rfl
    rw [st]
    generalize lp (aLsE o) k (0, M) = p at g1 g2 g3 o1 o2 o3 ⊢
    have em : aIsM p.2 (p.2 7 (4 * (o : Int) + k)) = aIsM M (M 7 (4 * (o : Int) + k)) := by rw [aIsM_off o1 rfl rfl (o1 13 0 rfl), g3 7 _ (Or.inr (by omega))]
    by_cases h : aIsM p.2 (p.2 7 (4 * (o : Int) + k)) = true
    · have ek : aLsE o k p = (p.1 + 1, u2 (u2 (u2 p.2 7 (4 * (o : Int) + p.1) (p.2 7 (4 * (o : Int) + k))) 5 (4 * (o : Int) + p.1) (p.2 5 (4 * (o : Int) + k))) 6 (4 * (o : Int) + p.1) (p.2 6 (4 * (o : Int) + k))) := by unfold aLsE; rw [if_pos h]
      have ek2 : (aLsE o k p).2 = u2 (u2 (u2 p.2 7 (4 * (o : Int) + p.1) (p.2 7 (4 * (o : Int) + k))) 5 (4 * (o : Int) + p.1) (p.2 5 (4 * (o : Int) + k))) 6 (4 * (o : Int) + p.1) (p.2 6 (4 * (o : Int) + k)) := by rw [ek]
      have q5 : ∀ i, (aLsE o k p).2 5 i = if i = 4 * (o : Int) + p.1 then M 5 (4 * (o : Int) + k) else p.2 5 i := fun i => by
        rw [ek2]
        rw [u2_n _ _ (Or.inl (by decide))]
        by_cases c : i = 4 * (o : Int) + p.1
        · rw [if_pos c, c, u2_s, g3 5 _ (Or.inr (by omega))]
        · rw [if_neg c, u2_n _ _ (Or.inr c), u2_n _ _ (Or.inl (by decide))]
      have q6 : ∀ i, (aLsE o k p).2 6 i = if i = 4 * (o : Int) + p.1 then M 6 (4 * (o : Int) + k) else p.2 6 i := fun i => by
        rw [ek2]
        by_cases c : i = 4 * (o : Int) + p.1
        · rw [if_pos c, c, u2_s, g3 6 _ (Or.inr (by omega))]
        · rw [if_neg c, u2_n _ _ (Or.inr c), u2_n _ _ (Or.inl (by decide)), u2_n _ _ (Or.inl (by decide))]
      have q7 : ∀ i, (aLsE o k p).2 7 i = if i = 4 * (o : Int) + p.1 then M 7 (4 * (o : Int) + k) else p.2 7 i := fun i => by
        rw [ek2]
        rw [u2_n _ _ (Or.inl (by decide)), u2_n _ _ (Or.inl (by decide))]
        by_cases c : i = 4 * (o : Int) + p.1
        · rw [if_pos c, c, u2_s, g3 7 _ (Or.inr (by omega))]
        · rw [if_neg c, u2_n _ _ (Or.inr c)]
      have q1 : (aLsE o k p).1 = p.1 + 1 := by rw [ek]
      rw [q1]
      refine ⟨fun f a b => ?_, fun f f' a b c => ?_, fun j i hi => ?_⟩
      · rw [q5, q6, q7]
        by_cases c : f = p.1
        · rw [if_pos (by omega), if_pos (by omega), if_pos (by omega)]
          exact ⟨k, by omega, by omega, rfl, rfl, rfl, by rw [← em]; exact h⟩
        · rw [if_neg (by omega), if_neg (by omega), if_neg (by omega)]
          obtain ⟨e, e1, e2, e3⟩ := g1 f a (by omega)
          exact ⟨e, e1, by omega, e3⟩
      · rw [q7, q7, if_neg (by omega)]
        by_cases c : f' = p.1
        · rw [if_pos (by omega)]
          obtain ⟨e, e1, e2, e3⟩ := g1 f a (by omega)
          rw [e3.2.2.1]
          exact hd e k (by omega) e2 (by omega)
        · rw [if_neg (by omega)]
          exact g2 f f' a b (by omega)
      · by_cases c5 : j = 5
        · rw [c5, q5, if_neg (by omega)]; exact g3 5 i (by omega)
        · by_cases c6 : j = 6
          · rw [c6, q6, if_neg (by omega)]; exact g3 6 i (by omega)
          · by_cases c7 : j = 7
            · rw [c7, q7, if_neg (by omega)]; exact g3 7 i (by omega)
            · rw [ek2]
              rw [u2_n _ _ (Or.inl c6), u2_n _ _ (Or.inl c5), u2_n _ _ (Or.inl c7)]
              exact g3 j i (by omega)
    · have ek : aLsE o k p = p := by unfold aLsE; rw [if_neg h]
      rw [ek]
      refine ⟨fun f a b => ?_, g2, g3⟩
      obtain ⟨e, e1, e2, e3⟩ := g1 f a b
      exact ⟨e, e1, by omega, e3⟩
/-- what losing does to one object -/
theorem aLsS_ch {o : Nat} {M : MM} (hw : WF M) (h1 : (o : Int) < M 13 0) : offS [4, 5, 6, 7] M (aLsS o M) ∧ (∀ i, i ≠ (o : Int) → aLsS o M 4 i = M 4 i) ∧ (∀ j i, i < 4 * (o : Int) ∨ 4 * (o : Int) + 4 ≤ i → j ≠ 4 → aLsS o M j i = M j i) ∧ WF (aLsS o M) ∧ (M 3 o = 4 → ∀ f, 0 ≤ f → f < aLsS o M 4 o → aIsM M (aLsS o M 7 (4 * (o : Int) + f)) = true) ∧ (M 3 o = 3 → aLsS o M 5 (4 * (o : Int)) = 9 → aIsM M (aLsS o M 6 (4 * (o : Int))) = true) := by
  have hm := hw.1.2.2.1 o (by omega) h1
  rcases hm.2.2.1 with h | h | h
  · have e : aLsS o M = M := by
      unfold aLsS
      have : aLsW o M = M := by unfold aLsW; rw [if_neg (by omega)]
      rw [this]; unfold aLsT; rw [if_neg (by omega)]
    rw [e]
    exact ⟨offS.rf, fun _ _ => rfl, fun _ _ _ _ => rfl, hw, fun z => by omega, fun z => by omega⟩
  · have e : aLsS o M = aLsW o M := by
      unfold aLsS aLsT
      rw [aLsW_off o M 3 o rfl, if_neg (by omega)]
    rw [e]
    by_cases hc : M 3 (o : Int) = 3 ∧ M 5 (4 * (o : Int)) = 9 ∧ aIsM M (M 6 (4 * (o : Int))) = false
    · have e2 : aLsW o M = u2 (u2 M 5 (4 * (o : Int)) 0) 6 (4 * (o : Int)) 0 := by unfold aLsW; rw [if_pos hc]
      rw [e2]
      have hm1 := hw.2.2.2.2.1 o (by omega) h1 h
      have ho : offS [4, 5, 6, 7] M (u2 (u2 M 5 (4 * (o : Int)) 0) 6 (4 * (o : Int)) 0) := (offS.rf.u rfl _ _).u rfl _ _
      have l4 : ∀ i, u2 (u2 M 5 (4 * (o : Int)) 0) 6 (4 * (o : Int)) 0 4 i = M 4 i := fun i => by rw [u2_n _ _ (Or.inl (by decide)), u2_n _ _ (Or.inl (by decide))]
      have v5 : u2 (u2 M 5 (4 * (o : Int)) 0) 6 (4 * (o : Int)) 0 5 (4 * (o : Int)) = 0 := by rw [u2_n _ _ (Or.inl (by decide)), u2_s]
      have ll : ∀ j i, i < 4 * (o : Int) ∨ 4 * (o : Int) + 4 ≤ i → j ≠ 4 → u2 (u2 M 5 (4 * (o : Int)) 0) 6 (4 * (o : Int)) 0 j i = M j i := fun j i hi _ => by rw [u2_n _ _ (Or.inr (by omega)), u2_n _ _ (Or.inr (by omega))]
      refine ⟨ho, fun i _ => l4 i, ll, hw.loc (by omega) h1 ho (fun i _ => l4 i) ll (by rw [l4]; omega) (by rw [l4]; omega) (fun _ => l4 _) (fun f f0 f1 => Or.inr ⟨h, ?_⟩) (fun z => by omega), fun z => by omega, fun _ z => by rw [v5] at z; cases z⟩
      rw [l4] at f1
      rw [show 4 * (o : Int) + f = 4 * (o : Int) by omega]
      exact v5
    · have e2 : aLsW o M = M := by unfold aLsW; rw [if_neg hc]
      rw [e2]
      refine ⟨offS.rf, fun _ _ => rfl, fun _ _ _ _ => rfl, hw, fun z => by omega, fun _ z => ?_⟩
      cases hh : aIsM M (M 6 (4 * (o : Int)))
      · exact absurd ⟨h, z, hh⟩ hc
      · rfl
  · have e0 : aLsW o M = M := by unfold aLsW; rw [if_neg (by omega)]
    have e : aLsS o M = u2 (lp (aLsE o) (M 4 (o : Int)).toNat (0, M)).2 4 (o : Int) (lp (aLsE o) (M 4 (o : Int)).toNat (0, M)).1 := by
      unfold aLsS
      rw [e0]
      unfold aLsT
      rw [if_pos h]
    obtain ⟨g1, g2, g3⟩ := aLsE_ch (n := M 4 o) (fun f f' a b c => hw.2.2.2.2.2.1 o f f' (by omega) h1 h a b c) (M 4 (o : Int)).toNat (by omega)
    obtain ⟨o1, o2, o3⟩ := aLsE_lp o M (M 4 (o : Int)).toNat
    rw [e]
    generalize lp (aLsE o) (M 4 (o : Int)).toNat (0, M) = p at g1 g2 g3 o1 o2 o3 ⊢
    have hu : ∀ j i, j ≠ 4 → u2 p.2 4 (o : Int) p.1 j i = p.2 j i := fun j i hj => u2_n _ _ (Or.inl hj)
    have ho : offS [4, 5, 6, 7] M (u2 p.2 4 (o : Int) p.1) := offS.u (fun j i hj => o1 j i (by simp at hj ⊢; omega)) rfl _ _
    have l4 : ∀ i, i ≠ (o : Int) → u2 p.2 4 (o : Int) p.1 4 i = M 4 i := fun i hi => by rw [u2_n _ _ (Or.inr hi)]; exact o1 4 i rfl
    have b4 : u2 p.2 4 (o : Int) p.1 4 (o : Int) = p.1 := u2_s _ _ _ _
    have h43 := hm.2.2.2.2 h
    have ll : ∀ j i, i < 4 * (o : Int) ∨ 4 * (o : Int) + 4 ≤ i → j ≠ 4 → u2 p.2 4 (o : Int) p.1 j i = M j i := fun j i hi hj => by rw [hu j i hj]; exact g3 j i (by omega)
    refine ⟨ho, l4, ll, hw.loc (by omega) h1 ho l4 ll (by rw [b4]; omega) (by rw [b4]; omega) (fun z => by omega) (fun f f0 f1 => Or.inl ?_) (fun _ f f' a b c => ?_), fun _ f f0 f1 => ?_, fun z => by omega⟩
    · rw [b4] at f1
      obtain ⟨e, e1, e2, e5, e6, e7, -⟩ := g1 f f0 f1
      rw [hu 5 _ (by decide), hu 6 _ (by decide), hu 7 _ (by decide)]
      exact ⟨e, by omega, by omega, e5, e6, e7⟩
    · rw [b4] at c
      rw [hu 7 _ (by decide), hu 7 _ (by decide)]
      exact g2 f f' a b c
    · rw [b4] at f1
      obtain ⟨e, e1, e2, e5, e6, e7, e8⟩ := g1 f f0 f1
      rw [hu 7 _ (by decide), e7]
      exact e8
/-- after losing: every key of a table, every target of a weak one, is marked -/
def allK (M : MM) (k : Int) : Prop := (∀ o f, 0 ≤ o → o < k → M 3 o = 4 → 0 ≤ f → f < M 4 o → aIsM M (M 7 (4 * o + f)) = true) ∧ ∀ o, 0 ≤ o → o < k → M 3 o = 3 → M 5 (4 * o) = 9 → aIsM M (M 6 (4 * o)) = true
theorem aLoose_ch {M : MM} (hw : WF M) : ∀ k : Nat, (k : Int) ≤ M 13 0 → offS [4, 5, 6, 7] M (lp aLsS k M) ∧ WF (lp aLsS k M) ∧ allK (lp aLsS k M) k
  | 0, _ => ⟨offS.rf, hw, fun o f a b => by omega, fun o a b => by omega⟩
  | k + 1, hk => by
    obtain ⟨g1, g2, g3, g4⟩ := aLoose_ch hw k (by omega)
    show offS [4, 5, 6, 7] M (aLsS k (lp aLsS k M)) ∧ WF (aLsS k (lp aLsS k M)) ∧ allK (aLsS k (lp aLsS k M)) _
    generalize lp aLsS k M = N at g1 g2 g3 g4 ⊢
    obtain ⟨c1, c2, c3, c4, c5, c6⟩ := aLsS_ch (o := k) g2 (by rw [g1 13 0 rfl]; omega)
    have em : ∀ h, aIsM (aLsS k N) h = aIsM N h := aIsM_off c1 rfl rfl (c1 13 0 rfl)
    refine ⟨g1.tr c1, c4, fun o f a b c e1 e2 => ?_, fun o a b c e => ?_⟩
    · rw [c1 3 o rfl] at c
      rw [em]
      by_cases q : o = (k : Int)
      · subst q; exact c5 c f e1 e2
      · rw [c2 o q] at e2
        have hm := g2.1.2.2.1 o a (by rw [g1 13 0 rfl]; omega)
        rw [c3 7 _ (by omega) (by decide)]
        exact g3 o f a (by omega) c e1 e2
    · rw [c1 3 o rfl] at c
      rw [em]
      by_cases q : o = (k : Int)
      · subst q; exact c6 c e
      · rw [c3 5 _ (by omega) (by decide)] at e
        rw [c3 6 _ (by omega) (by decide)]
        exact g4 o a (by omega) c e
