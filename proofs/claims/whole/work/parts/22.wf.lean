/-! what every state keeps, and what at() finds -/
theorem lp_inv {α : Type} {f : Nat → α → α} {a : α} (I : Nat → α → Prop) (h0 : I 0 a) : ∀ n, (∀ i x, i < n → I i x → I (i + 1) (f i x)) → I n (lp f n a)
  | 0, _ => h0
  | n + 1, hs => hs n _ (Nat.lt_succ_self n) (lp_inv I h0 n (fun i x hi => hs i x (Nat.lt_succ_of_lt hi)))
theorem atR_none {M : MM} {h : Int} : ∀ n : Nat, (∀ o : Nat, o < n → M 2 (o : Int) ≠ h) → atR M h n = -1
  | 0, _ => rfl
  | n + 1, hn => by
    unfold atR
    rw [if_neg (hn n (Nat.lt_succ_self n))]
    exact atR_none n (fun o ho => hn o (Nat.lt_succ_of_lt ho))
theorem atR_some {M : MM} {h : Int} : ∀ n : Nat, (∃ o : Nat, o < n ∧ M 2 (o : Int) = h) → ∃ o : Nat, o < n ∧ M 2 (o : Int) = h ∧ atR M h n = (o : Int)
  | 0, ⟨o, h1, _⟩ => absurd h1 (Nat.not_lt_zero o)
  | n + 1, ⟨o, h1, h2⟩ => by
    unfold atR
    by_cases e : M 2 (n : Int) = h
    · exact ⟨n, Nat.lt_succ_self n, e, if_pos e⟩
    · rw [if_neg e]
      have h3 : o < n := by
        rcases Nat.lt_succ_iff_lt_or_eq.mp h1 with q | q
        · exact q
        · subst q; exact absurd h2 e
      obtain ⟨o', g1, g2, g3⟩ := atR_some n ⟨o, h3, h2⟩
      exact ⟨o', Nat.lt_succ_of_lt g1, g2, g3⟩
/-- at most twenty objects -/
def BN (M : MM) : Prop := 0 ≤ M 13 0 ∧ M 13 0 ≤ 20
/-- bounds that keep every index in its row -/
def BW (M : MM) : Prop := (0 ≤ M 13 0 ∧ M 13 0 ≤ 20) ∧ (0 ≤ M 13 2 ∧ 0 ≤ M 13 3 ∧ M 13 2 + M 13 3 ≤ 8) ∧ (∀ o, 0 ≤ o → o < M 13 0 → 0 ≤ M 4 o ∧ M 4 o ≤ 4 ∧ (M 3 o = 2 ∨ M 3 o = 3 ∨ M 3 o = 4) ∧ (M 3 o = 2 → 1 ≤ M 4 o) ∧ (M 3 o = 4 → M 4 o ≤ 3)) ∧ (0 ≤ M 13 1 ∧ M 13 1 ≤ 100000 ∧ 0 ≤ M 13 4 ∧ M 13 4 ≤ 100000)
theorem BW.cells {M : MM} (h : BW M) {o : Int} (h0 : 0 ≤ o) (h1 : o < M 13 0) : 3 ≤ aCells M o ∧ aCells M o ≤ 8 := by
  obtain ⟨g1, g2, g3, g4⟩ := h.2.2.1 o h0 h1
  unfold aCells
  split
  · rename_i e
    have := g4.1 e
    omega
  · split <;> omega
theorem BW.cb {M : MM} (h : BW M) : ∀ k : Nat, (k : Int) ≤ M 13 0 → 3 * (k : Int) ≤ aCb M k ∧ aCb M k ≤ 8 * (k : Int)
  | 0, _ => ⟨by unfold aCb; omega, by unfold aCb; omega⟩
  | k + 1, hk => by
    obtain ⟨g1, g2⟩ := BW.cb h k (by omega)
    obtain ⟨g3, g4⟩ := h.cells (o := (k : Int)) (by omega) (by omega)
    unfold aCb
    omega
