/-! compacting a row: those that stay keep their order -/
def cK (f : Nat → Bool) : Nat → Int
  | 0 => 0
  | k + 1 => cK f k + bI (f k)
theorem bI_01 (b : Bool) : 0 ≤ bI b ∧ bI b ≤ 1 := by cases b <;> (constructor <;> decide)
theorem cK_in (f : Nat → Bool) : ∀ k : Nat, 0 ≤ cK f k ∧ cK f k ≤ (k : Int)
  | 0 => ⟨by show (0 : Int) ≤ 0; omega, by show (0 : Int) ≤ _; omega⟩
  | k + 1 => by
    have := cK_in f k
    have := bI_01 (f k)
    show 0 ≤ cK f k + bI (f k) ∧ cK f k + bI (f k) ≤ _
    omega
theorem cK_mono (f : Nat → Bool) (i : Nat) : ∀ j : Nat, i ≤ j → cK f i ≤ cK f j
  | 0, h => by have : i = 0 := by omega
               subst this; exact Int.le_refl _
  | j + 1, h => by
    by_cases e : i = j + 1
    · subst e; exact Int.le_refl _
    · have := cK_mono f i j (by omega)
      have := bI_01 (f j)
      show cK f i ≤ cK f j + bI (f j)
      omega
theorem cK_lt {f : Nat → Bool} {i j : Nat} (hf : f i = true) (h : i < j) : cK f i < cK f j := by
  have h1 : cK f (i + 1) ≤ cK f j := cK_mono f (i + 1) j h
  have h2 : cK f (i + 1) = cK f i + 1 := by show cK f i + bI (f i) = _; rw [hf]; rfl
  omega
theorem cK_sj {f : Nat → Bool} : ∀ (n : Nat) (q : Int), 0 ≤ q → q < cK f n → ∃ i, i < n ∧ f i = true ∧ cK f i = q
  | 0, q, h0, h1 => absurd h1 (by show ¬ q < (0 : Int); omega)
  | n + 1, q, h0, h1 => by
    have h1 : q < cK f n + bI (f n) := h1
    by_cases e : q < cK f n
    · obtain ⟨i, a, b, c⟩ := cK_sj n q h0 e
      exact ⟨i, by omega, b, c⟩
    · cases hf : f n
      · rw [hf] at h1
        have h1 : q < cK f n + 0 := h1
        omega
      · rw [hf] at h1
        have h1 : q < cK f n + 1 := h1
        exact ⟨n, by omega, hf, by omega⟩
theorem cK_not (f : Nat → Bool) : ∀ k : Nat, cK (fun i => !f i) k = (k : Int) - cK f k
  | 0 => rfl
  | k + 1 => by
    show cK (fun i => !f i) k + bI (!f k) = _ - (cK f k + bI (f k))
    rw [cK_not f k]
    cases f k
    · show (k : Int) - cK f k + 1 = ((k + 1 : Nat) : Int) - (cK f k + 0); omega
    · show (k : Int) - cK f k + 0 = ((k + 1 : Nat) : Int) - (cK f k + 1); omega
theorem cK_inj {f : Nat → Bool} {i j : Nat} (hi : f i = true) (hj : f j = true) (h : cK f i = cK f j) : i = j := by
  by_cases e : i < j
  · have := cK_lt hi e; omega
  · by_cases e2 : j < i
    · have := cK_lt hj e2; omega
    · omega
theorem aCwK_y {k : Nat} {p : Int × MM} (h : aIsM p.2 (p.2 9 (k : Int)) = true) : aCwK k p = (p.1 + 1, u2 (u2 p.2 9 p.1 (p.2 9 (k : Int))) 10 p.1 (p.2 10 (k : Int))) := by unfold aCwK; rw [if_pos h]
theorem aCwK_n {k : Nat} {p : Int × MM} (h : ¬ aIsM p.2 (p.2 9 (k : Int)) = true) : aCwK k p = (p.1, u2 (u2 (u2 p.2 11 (p.2 13 3) (p.2 9 (k : Int))) 12 (p.2 13 3) (p.2 10 (k : Int))) 13 3 (p.2 13 3 + 1)) := by unfold aCwK; rw [if_neg h]
def rM (M : MM) (i : Nat) : Bool := aIsM M (M 9 (i : Int))
theorem aCwK_ch (M : MM) : ∀ k : Nat, (lp aCwK k (0, M)).1 = cK (rM M) k ∧ (∀ i : Nat, i < k → rM M i = true → (lp aCwK k (0, M)).2 9 (cK (rM M) i) = M 9 i ∧ (lp aCwK k (0, M)).2 10 (cK (rM M) i) = M 10 i) ∧ (∀ i : Nat, i < k → rM M i = false → (lp aCwK k (0, M)).2 11 (M 13 3 + ((i : Int) - cK (rM M) i)) = M 9 i ∧ (lp aCwK k (0, M)).2 12 (M 13 3 + ((i : Int) - cK (rM M) i)) = M 10 i) ∧ (∀ j q, (j = 11 ∨ j = 12) → q < M 13 3 → (lp aCwK k (0, M)).2 j q = M j q) ∧ (∀ j q, (j = 9 ∨ j = 10) → cK (rM M) k ≤ q → (lp aCwK k (0, M)).2 j q = M j q)
  | 0 => ⟨rfl, fun i hi => absurd hi (Nat.not_lt_zero i), fun i hi => absurd hi (Nat.not_lt_zero i), fun _ _ _ _ => rfl, fun _ _ _ _ => rfl⟩
  | k + 1 => by
    obtain ⟨g1, g2, g3, g4, g5⟩ := aCwK_ch M k
    obtain ⟨o1, o2, o3, o4, o5⟩ := aCwK_lp (M := M) k
    have st : lp aCwK (k + 1) (0, M) = aCwK k (lp aCwK k (0, M)) := rfl
    rw [st]
    generalize lp aCwK k (0, M) = p at g1 g2 g3 g4 g5 o1 o2 o3 o4 o5 ⊢
    have hck := cK_in (rM M) k
    have em : aIsM p.2 (p.2 9 (k : Int)) = rM M k := by
      unfold rM
      rw [aIsM_off o1 rfl rfl (o4 0 (by decide)), g5 9 _ (Or.inl rfl) (by omega)]
    have ck1 : cK (rM M) (k + 1) = cK (rM M) k + bI (rM M k) := rfl
    cases hr : rM M k
    · rw [aCwK_n (by rw [em, hr]; decide), ck1, hr]
      dsimp only
      have v9 : ∀ j q, (j = 9 ∨ j = 10) → u2 (u2 (u2 p.2 11 (p.2 13 3) (p.2 9 (k : Int))) 12 (p.2 13 3) (p.2 10 (k : Int))) 13 3 (p.2 13 3 + 1) j q = p.2 j q := fun j q hj => by rw [u2_n _ _ (Or.inl (by omega)), u2_n _ _ (Or.inl (by omega)), u2_n _ _ (Or.inl (by omega))]
      have v11 : ∀ q, u2 (u2 (u2 p.2 11 (p.2 13 3) (p.2 9 (k : Int))) 12 (p.2 13 3) (p.2 10 (k : Int))) 13 3 (p.2 13 3 + 1) 11 q = if q = M 13 3 + ((k : Int) - cK (rM M) k) then M 9 k else p.2 11 q := fun q => by
        rw [u2_n _ _ (Or.inl (by decide)), u2_n _ _ (Or.inl (by decide)), o5, g1]
        by_cases c : q = M 13 3 + ((k : Int) - cK (rM M) k)
        · rw [if_pos c, c, u2_s, g5 9 _ (Or.inl rfl) (by omega)]
        · rw [if_neg c, u2_n _ _ (Or.inr c)]
      have v12 : ∀ q, u2 (u2 (u2 p.2 11 (p.2 13 3) (p.2 9 (k : Int))) 12 (p.2 13 3) (p.2 10 (k : Int))) 13 3 (p.2 13 3 + 1) 12 q = if q = M 13 3 + ((k : Int) - cK (rM M) k) then M 10 k else p.2 12 q := fun q => by
        rw [u2_n _ _ (Or.inl (by decide)), o5, g1]
        by_cases c : q = M 13 3 + ((k : Int) - cK (rM M) k)
        · rw [if_pos c, c, u2_s, g5 10 _ (Or.inr rfl) (by omega)]
        · rw [if_neg c, u2_n _ _ (Or.inr c), u2_n _ _ (Or.inl (by decide))]
      have b0 : bI false = 0 := rfl
      refine ⟨by rw [g1, b0]; omega, fun i hi hri => ?_, fun i hi hri => ?_, fun j q hj hq => ?_, fun j q hj hq => ?_⟩
      · rw [v9 9 _ (Or.inl rfl), v9 10 _ (Or.inr rfl)]
        by_cases c : i = k
        · subst c; rw [hr] at hri; cases hri
        · exact g2 i (by omega) hri
      · by_cases c : i = k
        · subst c; rw [v11, v12, if_pos rfl, if_pos rfl]; exact ⟨rfl, rfl⟩
        · have h1 : cK (fun i => !rM M i) i < cK (fun i => !rM M i) k := cK_lt (by rw [hri]; rfl) (by omega)
          rw [cK_not, cK_not] at h1
          rw [v11, v12, if_neg (by omega), if_neg (by omega)]
          exact g3 i (by omega) hri
      · rcases hj with rfl | rfl
        · rw [v11, if_neg (by omega)]; exact g4 11 q (Or.inl rfl) hq
        · rw [v12, if_neg (by omega)]; exact g4 12 q (Or.inr rfl) hq
      · rw [v9 j q hj]; exact g5 j q hj (by rw [b0] at hq; omega)
    · rw [aCwK_y (by rw [em, hr]), ck1, hr]
      dsimp only
      have b1 : bI true = 1 := rfl
      have v9 : ∀ q, u2 (u2 p.2 9 p.1 (p.2 9 (k : Int))) 10 p.1 (p.2 10 (k : Int)) 9 q = if q = cK (rM M) k then M 9 k else p.2 9 q := fun q => by
        rw [u2_n _ _ (Or.inl (by decide)), g1]
        by_cases c : q = cK (rM M) k
        · rw [if_pos c, c, u2_s, g5 9 _ (Or.inl rfl) (by omega)]
        · rw [if_neg c, u2_n _ _ (Or.inr c)]
      have v10 : ∀ q, u2 (u2 p.2 9 p.1 (p.2 9 (k : Int))) 10 p.1 (p.2 10 (k : Int)) 10 q = if q = cK (rM M) k then M 10 k else p.2 10 q := fun q => by
        rw [g1]
        by_cases c : q = cK (rM M) k
        · rw [if_pos c, c, u2_s, g5 10 _ (Or.inr rfl) (by omega)]
        · rw [if_neg c, u2_n _ _ (Or.inr c), u2_n _ _ (Or.inl (by decide))]
      have v11 : ∀ j q, (j = 11 ∨ j = 12) → u2 (u2 p.2 9 p.1 (p.2 9 (k : Int))) 10 p.1 (p.2 10 (k : Int)) j q = p.2 j q := fun j q hj => by rw [u2_n _ _ (Or.inl (by omega)), u2_n _ _ (Or.inl (by omega))]
      refine ⟨by rw [g1, b1], fun i hi hri => ?_, fun i hi hri => ?_, fun j q hj hq => ?_, fun j q hj hq => ?_⟩
      · by_cases c : i = k
        · subst c; rw [v9, v10, if_pos rfl, if_pos rfl]; exact ⟨rfl, rfl⟩
        · have := cK_lt hri (show i < k by omega)
          rw [v9, v10, if_neg (by omega), if_neg (by omega)]
          exact g2 i (by omega) hri
      · rw [v11 11 _ (Or.inl rfl), v11 12 _ (Or.inr rfl)]
        by_cases c : i = k
        · subst c; rw [hr] at hri; cases hri
        · exact g3 i (by omega) hri
      · rw [v11 j q hj]; exact g4 j q hj hq
      · rw [b1] at hq
        rcases hj with rfl | rfl
        · rw [v9, if_neg (by omega)]; exact g5 9 q (Or.inl rfl) (by omega)
        · rw [v10, if_neg (by omega)]; exact g5 10 q (Or.inr rfl) (by omega)
theorem aCallW_ch {M : MM} (h2 : 0 ≤ M 13 2) : aCallW M 13 2 = cK (rM M) (M 13 2).toNat ∧ aCallW M 13 3 = M 13 3 + (M 13 2 - cK (rM M) (M 13 2).toNat) ∧ (∀ i : Nat, (i : Int) < M 13 2 → rM M i = true → aCallW M 9 (cK (rM M) i) = M 9 i ∧ aCallW M 10 (cK (rM M) i) = M 10 i) ∧ (∀ i : Nat, (i : Int) < M 13 2 → rM M i = false → aCallW M 11 (M 13 3 + ((i : Int) - cK (rM M) i)) = M 9 i ∧ aCallW M 12 (M 13 3 + ((i : Int) - cK (rM M) i)) = M 10 i) ∧ (∀ j q, (j = 11 ∨ j = 12) → q < M 13 3 → aCallW M j q = M j q) := by
  obtain ⟨g1, g2, g3, g4, -⟩ := aCwK_ch M (M 13 2).toNat
  obtain ⟨o1, o2, o3, o4, o5⟩ := aCwK_lp (M := M) (M 13 2).toNat
  unfold aCallW
  generalize lp aCwK (M 13 2).toNat (0, M) = p at g1 g2 g3 g4 o1 o2 o3 o4 o5 ⊢
  have hu : ∀ j i, j ≠ 13 → u2 p.2 13 2 p.1 j i = p.2 j i := fun j i hj => u2_n _ _ (Or.inl hj)
  refine ⟨by rw [u2_s, g1], by rw [u2_n _ _ (Or.inr (by decide)), o5, g1, Int.toNat_of_nonneg h2], fun i hi hr => ?_, fun i hi hr => ?_, fun j q hj hq => ?_⟩
  · rw [hu 9 _ (by decide), hu 10 _ (by decide)]; exact g2 i (by omega) hr
  · rw [hu 11 _ (by decide), hu 12 _ (by decide)]; exact g3 i (by omega) hr
  · rw [hu j _ (by omega)]; exact g4 j q hj hq
/-- sweeping -/
theorem aSwF_ch {o : Nat} {l : Int} (hl : l ≤ (o : Int)) (M : MM) : ∀ k : Nat, k ≤ 4 → ∀ j i, (j = 5 ∨ j = 6 ∨ j = 7) → lp (aSwF o l) k M j i = if 4 * l ≤ i ∧ i < 4 * l + (k : Int) then M j (4 * (o : Int) + (i - 4 * l)) else M j i
  | 0, _, j, i, hj => by rw [if_neg (by omega)]; rfl
  | k + 1, hk, j, i, hj => by
    have ih := aSwF_ch hl M k (by omega)
    show aSwF o l k (lp (aSwF o l) k M) j i = _
    generalize lp (aSwF o l) k M = N at ih
    have key : ∀ j, (j = 5 ∨ j = 6 ∨ j = 7) → N j (4 * (o : Int) + k) = M j (4 * (o : Int) + k) := fun j hj => by rw [ih j _ hj, if_neg (by omega)]
    unfold aSwF
    rw [key 5 (by omega), key 6 (by omega), key 7 (by omega)]
    by_cases c : i = 4 * l + (k : Int)
    · rw [if_pos (by omega), show 4 * (o : Int) + (i - 4 * l) = 4 * (o : Int) + k by omega, c]
      rcases hj with rfl | rfl | rfl
      · rw [u2_n _ _ (Or.inl (by decide)), u2_n _ _ (Or.inl (by decide)), u2_s]
      · rw [u2_n _ _ (Or.inl (by decide)), u2_s]
      · rw [u2_s]
    · rw [u2_n _ _ (Or.inr c), u2_n _ _ (Or.inr c), u2_n _ _ (Or.inr c), ih j i hj]
      by_cases c2 : 4 * l ≤ i ∧ i < 4 * l + (k : Int)
      · rw [if_pos c2, if_pos (by omega)]
      · rw [if_neg c2, if_neg (by omega)]
def oM (M : MM) (o : Nat) : Bool := decide (¬ M 8 (o : Int) = 0)
theorem aSwO_y {o : Nat} {p : Int × MM} (h : ¬ p.2 8 (o : Int) = 0) : aSwO o p = (p.1 + 1, lp (aSwF o p.1) 4 (u2 (u2 (u2 p.2 2 p.1 (p.2 2 (o : Int))) 3 p.1 (p.2 3 (o : Int))) 4 p.1 (p.2 4 (o : Int)))) := by unfold aSwO; rw [if_pos h]
theorem aSwO_n {o : Nat} {p : Int × MM} (h : p.2 8 (o : Int) = 0) : aSwO o p = p := by unfold aSwO; rw [if_neg (fun z => z h)]
theorem aSwO_ch (M : MM) : ∀ k : Nat, (lp aSwO k (0, M)).1 = cK (oM M) k ∧ (∀ o : Nat, o < k → oM M o = true → ∀ j, (j = 2 ∨ j = 3 ∨ j = 4) → (lp aSwO k (0, M)).2 j (cK (oM M) o) = M j o) ∧ (∀ o : Nat, o < k → oM M o = true → ∀ j f, (j = 5 ∨ j = 6 ∨ j = 7) → 0 ≤ f → f < 4 → (lp aSwO k (0, M)).2 j (4 * cK (oM M) o + f) = M j (4 * (o : Int) + f)) ∧ (∀ j i, (j = 2 ∨ j = 3 ∨ j = 4) → cK (oM M) k ≤ i → (lp aSwO k (0, M)).2 j i = M j i) ∧ (∀ j i, (j = 5 ∨ j = 6 ∨ j = 7) → 4 * cK (oM M) k ≤ i → (lp aSwO k (0, M)).2 j i = M j i)
  | 0 => ⟨rfl, fun i hi => absurd hi (Nat.not_lt_zero i), fun i hi => absurd hi (Nat.not_lt_zero i), fun _ _ _ _ => rfl, fun _ _ _ _ => rfl⟩
  | k + 1 => by
    obtain ⟨g1, g2, g3, g4, g5⟩ := aSwO_ch M k
    obtain ⟨o1, -, -, -, -⟩ := aSwO_lp (M := M) k
    have st : lp aSwO (k + 1) (0, M) = aSwO k (lp aSwO k (0, M)) := rfl
    rw [st]
    generalize lp aSwO k (0, M) = p at g1 g2 g3 g4 g5 o1 ⊢
    have hck := cK_in (oM M) k
    have ck1 : cK (oM M) (k + 1) = cK (oM M) k + bI (oM M k) := rfl
    cases hr : oM M k
    · have b0 : bI false = 0 := rfl
      have h8 : M 8 (k : Int) = 0 := by
        have := of_decide_eq_false hr
        omega
      rw [aSwO_n (by rw [o1 8 _ rfl]; exact h8), ck1, hr, b0, Int.add_zero]
      refine ⟨g1, fun o ho hro j hj => ?_, fun o ho hro j f hj f0 f1 => ?_, g4, g5⟩
      · by_cases c : o = k
        · subst c; rw [hr] at hro; cases hro
        · exact g2 o (by omega) hro j hj
      · by_cases c : o = k
        · subst c; rw [hr] at hro; cases hro
        · exact g3 o (by omega) hro j f hj f0 f1
    · have b1 : bI true = 1 := rfl
      have h8 : ¬ M 8 (k : Int) = 0 := of_decide_eq_true hr
      rw [aSwO_y (by rw [o1 8 _ rfl]; exact h8), ck1, hr, b1]
      dsimp only
      have c5 := aSwF_ch (o := k) (l := p.1) (by omega) (u2 (u2 (u2 p.2 2 p.1 (p.2 2 (k : Int))) 3 p.1 (p.2 3 (k : Int))) 4 p.1 (p.2 4 (k : Int))) 4 (by omega)
      have hoff := aSwF_lp k p.1 4 (u2 (u2 (u2 p.2 2 p.1 (p.2 2 (k : Int))) 3 p.1 (p.2 3 (k : Int))) 4 p.1 (p.2 4 (k : Int)))
      generalize lp (aSwF k p.1) 4 (u2 (u2 (u2 p.2 2 p.1 (p.2 2 (k : Int))) 3 p.1 (p.2 3 (k : Int))) 4 p.1 (p.2 4 (k : Int))) = N at c5 hoff ⊢
      have v2 : ∀ j i, (j = 2 ∨ j = 3 ∨ j = 4) → N j i = if i = cK (oM M) k then M j k else p.2 j i := fun j i hj => by
        rw [← g4 j k hj (by omega), ← g1]
        rcases hj with rfl | rfl | rfl
        · rw [hoff 2 i rfl, u2_n _ _ (Or.inl (by decide)), u2_n _ _ (Or.inl (by decide))]
          by_cases c : i = p.1
          · rw [if_pos c, c, u2_s]
          · rw [if_neg c, u2_n _ _ (Or.inr c)]
        · rw [hoff 3 i rfl, u2_n _ _ (Or.inl (by decide))]
          by_cases c : i = p.1
          · rw [if_pos c, c, u2_s]
          · rw [if_neg c, u2_n _ _ (Or.inr c), u2_n _ _ (Or.inl (by decide))]
        · rw [hoff 4 i rfl]
          by_cases c : i = p.1
          · rw [if_pos c, c, u2_s]
          · rw [if_neg c, u2_n _ _ (Or.inr c), u2_n _ _ (Or.inl (by decide)), u2_n _ _ (Or.inl (by decide))]
      have v5 : ∀ j i, (j = 5 ∨ j = 6 ∨ j = 7) → N j i = if 4 * cK (oM M) k ≤ i ∧ i < 4 * cK (oM M) k + 4 then M j (4 * (k : Int) + (i - 4 * cK (oM M) k)) else p.2 j i := fun j i hj => by
        rw [c5 j i hj, ← g1]
        have hu : ∀ i, u2 (u2 (u2 p.2 2 p.1 (p.2 2 (k : Int))) 3 p.1 (p.2 3 (k : Int))) 4 p.1 (p.2 4 (k : Int)) j i = p.2 j i := fun i => by rw [u2_n _ _ (Or.inl (by omega)), u2_n _ _ (Or.inl (by omega)), u2_n _ _ (Or.inl (by omega))]
        rw [hu, hu]
        by_cases c : 4 * p.1 ≤ i ∧ i < 4 * p.1 + 4
        · rw [if_pos (by omega), if_pos c, g5 j _ hj (by omega)]
        · rw [if_neg (by omega), if_neg c]
      refine ⟨by rw [g1], fun o ho hro j hj => ?_, fun o ho hro j f hj f0 f1 => ?_, fun j i hj hi => ?_, fun j i hj hi => ?_⟩
      · rw [v2 j _ hj]
        by_cases c : o = k
        · subst c; rw [if_pos rfl]
        · have := cK_lt hro (show o < k by omega)
          rw [if_neg (by omega)]
          exact g2 o (by omega) hro j hj
      · rw [v5 j _ hj]
        by_cases c : o = k
        · subst c
          rw [if_pos (by omega)]
          congr 1
          omega
        · have := cK_lt hro (show o < k by omega)
          rw [if_neg (by omega)]
          exact g3 o (by omega) hro j f hj f0 f1
      · rw [v2 j _ hj, if_neg (by omega)]; exact g4 j i hj (by omega)
      · rw [v5 j _ hj, if_neg (by omega)]; exact g5 j i hj (by omega)
theorem aSweep_ch {M : MM} (h0 : 0 ≤ M 13 0) : (aSweep M).1 = M 13 0 - cK (oM M) (M 13 0).toNat ∧ offS [2, 3, 4, 5, 6, 7, 13] M (aSweep M).2 ∧ (aSweep M).2 13 0 = cK (oM M) (M 13 0).toNat ∧ (∀ q, q ≠ 0 → (aSweep M).2 13 q = M 13 q) ∧ (∀ o : Nat, (o : Int) < M 13 0 → oM M o = true → ∀ j, (j = 2 ∨ j = 3 ∨ j = 4) → (aSweep M).2 j (cK (oM M) o) = M j o) ∧ (∀ o : Nat, (o : Int) < M 13 0 → oM M o = true → ∀ j f, (j = 5 ∨ j = 6 ∨ j = 7) → 0 ≤ f → f < 4 → (aSweep M).2 j (4 * cK (oM M) o + f) = M j (4 * (o : Int) + f)) := by
  obtain ⟨g1, g2, g3, -, -⟩ := aSwO_ch M (M 13 0).toNat
  obtain ⟨o1, -, -, -, -⟩ := aSwO_lp (M := M) (M 13 0).toNat
  unfold aSweep
  generalize lp aSwO (M 13 0).toNat (0, M) = p at g1 g2 g3 o1 ⊢
  dsimp only
  have hu : ∀ j i, j ≠ 13 → u2 p.2 13 0 p.1 j i = p.2 j i := fun j i hj => u2_n _ _ (Or.inl hj)
  refine ⟨by rw [g1], offS.u (fun j i hj => o1 j i (by simp at hj ⊢; omega)) rfl _ _, by rw [u2_s, g1], fun q hq => by rw [u2_n _ _ (Or.inr hq)]; exact o1 13 q rfl, fun o ho hr j hj => ?_, fun o ho hr j f hj f0 f1 => ?_⟩
  · rw [hu j _ (by omega)]; exact g2 o (by omega) hr j hj
  · rw [hu j _ (by omega)]; exact g3 o (by omega) hr j f hj f0 f1
