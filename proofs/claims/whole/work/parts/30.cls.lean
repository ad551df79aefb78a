/-! the class in the store: its object at x, its rows behind it; A h: where the object with hash h lies -/
-- tags: 1 the heap, 2 numeral, 3 vector, 4 weak, 5 table, 6 row, 7 the reference; 20 int[], 21 boolean[], 22 Thing[], 23 Value[], 30 the script
def live (M : MM) (h : Int) : Prop := ∃ o, 0 ≤ o ∧ o < M 13 0 ∧ M 2 o = h
def OKV (M : MM) (is has : Int) : Prop := is = 0 ∨ (is = 1 ∧ -1000000 ≤ has ∧ has ≤ 1000000) ∨ (is = 9 ∧ live M has)
/-- the names grow -/
def wN (M : MM) : Prop := (∀ o o', 0 ≤ o → o < o' → o' < M 13 0 → M 2 o < M 2 o') ∧ ∀ o, 0 ≤ o → o < M 13 0 → 1 ≤ M 2 o ∧ M 2 o ≤ M 13 1
def wV (M : MM) : Prop := ∀ v, 0 ≤ v → v ≤ 5 → OKV M (M 0 v) (M 1 v)
def wF (M : MM) : Prop := ∀ o f, 0 ≤ o → o < M 13 0 → 0 ≤ f → f < M 4 o → OKV M (M 5 (4 * o + f)) (M 6 (4 * o + f)) ∧ (M 3 o = 3 → ¬ M 5 (4 * o + f) = 1) ∧ (M 3 o = 4 → live M (M 7 (4 * o + f)))
def wW (M : MM) : Prop := ∀ o, 0 ≤ o → o < M 13 0 → M 3 o = 3 → M 4 o = 1
def wK (M : MM) : Prop := ∀ o f f', 0 ≤ o → o < M 13 0 → M 3 o = 4 → 0 ≤ f → f < f' → f' < M 4 o → M 7 (4 * o + f) ≠ M 7 (4 * o + f')
def wR (M : MM) : Prop := (∀ q, 0 ≤ q → q < M 13 2 → live M (M 9 q)) ∧ (∀ q, 0 ≤ q → q < M 13 3 → live M (M 11 q)) ∧ (∀ q q', 0 ≤ q → q < q' → q' < M 13 2 → M 9 q ≠ M 9 q') ∧ (∀ q q', 0 ≤ q → q < q' → q' < M 13 3 → M 11 q ≠ M 11 q') ∧ ∀ q q', 0 ≤ q → q < M 13 2 → 0 ≤ q' → q' < M 13 3 → M 9 q ≠ M 11 q'
def WF (M : MM) : Prop := BW M ∧ wN M ∧ wV M ∧ wF M ∧ wW M ∧ wK M ∧ wR M ∧ aUsed M ≤ 60
def VR (x : Nat) (S : MS) (A : Int → Nat) (r : Option Nat) (is has : Int) : Prop := (is = 0 ∧ r = none) ∨ (is = 1 ∧ ∃ a, r = some a ∧ x + 22 ≤ a ∧ tS S a = 2 ∧ vS S a 0 = .inl has) ∨ (is = 9 ∧ r = some (A has))
def TG (S : MS) (a : Nat) : Prop := tS S a = 3 ∨ tS S a = 4 ∨ tS S a = 5
/-- the cells that never change -/
def cF (x : Nat) (S : MS) : Prop := tS S x = 1 ∧ vS S x 0 = .inr (some (x + 1)) ∧ vS S x 1 = .inr (some (x + 2)) ∧ vS S x 2 = .inr (some (x + 4)) ∧ vS S x 3 = .inr (some (x + 6)) ∧ (tS S (x + 1) = 23 ∧ lS S (x + 1) = 6) ∧
  (tS S (x + 2) = 6 ∧ vS S (x + 2) 0 = .inr (some (x + 3)) ∧ tS S (x + 3) = 22 ∧ lS S (x + 3) = 20) ∧ (tS S (x + 4) = 6 ∧ vS S (x + 4) 0 = .inr (some (x + 5)) ∧ tS S (x + 5) = 22 ∧ lS S (x + 5) = 8) ∧ (tS S (x + 6) = 6 ∧ vS S (x + 6) 0 = .inr (some (x + 7)) ∧ tS S (x + 7) = 22 ∧ lS S (x + 7) = 8) ∧ (∀ a, zS S ≤ a → tS S a = 0) ∧ x + 22 ≤ zS S
/-- a row's count and what it holds -/
def cRow (S : MS) (rw : Nat) (n : Int) (f : Int → Nat) : Prop := vS S rw 1 = .inl n ∧ ∀ i, 0 ≤ i → i < n → vS S (rw + 1) i = .inr (some (f i))
/-- an object's own cells, but place, mark and tag -/
def cObj (x : Nat) (S : MS) (A : Int → Nat) (M : MM) (o : Int) : Prop := x + 22 ≤ A (M 2 o) ∧ vS S (A (M 2 o)) 0 = .inl (M 2 o) ∧ vS S (A (M 2 o)) 1 = .inl (aCells M o) ∧
  ((tS S (A (M 2 o)) = 3 ∧ M 3 o = 2 ∧ vS S (A (M 2 o)) 6 = .inr (some (A (M 2 o) + 1)) ∧ tS S (A (M 2 o) + 1) = 23 ∧ lS S (A (M 2 o) + 1) = M 4 o ∧ ∀ f, 0 ≤ f → f < M 4 o → ∃ r, vS S (A (M 2 o) + 1) f = .inr r ∧ VR x S A r (M 5 (4 * o + f)) (M 6 (4 * o + f))) ∨
   (tS S (A (M 2 o)) = 4 ∧ M 3 o = 3 ∧ ∃ r, vS S (A (M 2 o)) 6 = .inr r ∧ VR x S A r (M 5 (4 * o)) (M 6 (4 * o))) ∨
   (tS S (A (M 2 o)) = 5 ∧ M 3 o = 4 ∧ vS S (A (M 2 o)) 6 = .inr (some (A (M 2 o) + 1)) ∧ vS S (A (M 2 o)) 7 = .inr (some (A (M 2 o) + 2)) ∧ vS S (A (M 2 o)) 8 = .inl (M 4 o) ∧ tS S (A (M 2 o) + 1) = 22 ∧ lS S (A (M 2 o) + 1) = 3 ∧ tS S (A (M 2 o) + 2) = 23 ∧ lS S (A (M 2 o) + 2) = 3 ∧
     ∀ f, 0 ≤ f → f < M 4 o → vS S (A (M 2 o) + 1) f = .inr (some (A (M 7 (4 * o + f)))) ∧ ∃ r, vS S (A (M 2 o) + 2) f = .inr r ∧ VR x S A r (M 5 (4 * o + f)) (M 6 (4 * o + f))))
def cO (x : Nat) (S : MS) (A : Int → Nat) (M : MM) : Prop := ∀ o, 0 ≤ o → o < M 13 0 → cObj x S A M o
def cV (x : Nat) (S : MS) (A : Int → Nat) (M : MM) : Prop := ∀ v, 0 ≤ v → v ≤ 5 → ∃ r, vS S (x + 1) v = .inr r ∧ VR x S A r (M 0 v) (M 1 v)
/-- places; the used cells -/
def cPl (x : Nat) (S : MS) (A : Int → Nat) (M : MM) : Prop := vS S x 4 = .inl (aUsed M) ∧ ∀ o, 0 ≤ o → o < M 13 0 → vS S (A (M 2 o)) 2 = .inl (aCb M o.toNat)
/-- tagged, and with which tag -/
def cTg (S : MS) (A : Int → Nat) (M : MM) : Prop := (∀ o, 0 ≤ o → o < M 13 0 → vS S (A (M 2 o)) 4 = .inl (bI (aIn M 9 (M 2 o) (M 13 2).toNat || aIn M 11 (M 2 o) (M 13 3).toNat))) ∧ (∀ q, 0 ≤ q → q < M 13 2 → vS S (A (M 9 q)) 5 = .inl (M 10 q)) ∧ ∀ q, 0 ≤ q → q < M 13 3 → vS S (A (M 11 q)) 5 = .inl (M 12 q)
def cMk (S : MS) (A : Int → Nat) (M : MM) : Prop := ∀ o, 0 ≤ o → o < M 13 0 → ∃ b, vS S (A (M 2 o)) 3 = .inl b
def cNum (x : Nat) (S : MS) (M : MM) : Prop := vS S x 5 = .inl (M 13 1) ∧ vS S x 6 = .inl (M 13 4)
def cRs (x : Nat) (S : MS) (A : Int → Nat) (M : MM) : Prop := cRow S (x + 2) (M 13 0) (fun o => A (M 2 o)) ∧ cRow S (x + 4) (M 13 2) (fun q => A (M 9 q)) ∧ cRow S (x + 6) (M 13 3) (fun q => A (M 11 q))
def CL (x : Nat) (S : MS) (A : Int → Nat) (M : MM) : Prop := cF x S ∧ cNum x S M ∧ cRs x S A M ∧ cV x S A M ∧ cO x S A M ∧ cPl x S A M ∧ cTg S A M ∧ cMk S A M
theorem TG.c {S : MS} {a : Nat} (h : TG S a) : [3, 4, 5].contains (tS S a) = true := by
  rcases h with h | h | h <;> rw [h] <;> rfl
theorem cObj.tg {x : Nat} {S : MS} {A : Int → Nat} {M : MM} {o : Int} (h : cObj x S A M o) : TG S (A (M 2 o)) := by
  rcases h.2.2.2 with h | h | h
  · exact Or.inl h.1
  · exact Or.inr (Or.inl h.1)
  · exact Or.inr (Or.inr h.1)
/-- at() finds the live -/
theorem aAt_live {M : MM} (hw : wN M) {o : Int} (h0 : 0 ≤ o) (h1 : o < M 13 0) : aAt M (M 2 o) = o := by
  unfold aAt
  obtain ⟨o', g1, g2, g3⟩ := atR_some (M := M) (h := M 2 o) (M 13 0).toNat ⟨o.toNat, by omega, by rw [Int.toNat_of_nonneg h0]⟩
  rw [g3]
  have hl := hw.1 o (o' : Int) h0
  have hg := hw.1 (o' : Int) o (by omega)
  by_cases e1 : o < (o' : Int)
  · have := hl e1 (by omega); omega
  · by_cases e2 : (o' : Int) < o
    · have := hg e2 h1; omega
    · omega
theorem aObj_9 {M : MM} (hw : wN M) {v : Int} (h0 : 0 ≤ v) (h5 : v ≤ 5) (h9 : M 0 v = 9) (hl : live M (M 1 v)) : 0 ≤ aObj M v ∧ aObj M v < M 13 0 ∧ M 2 (aObj M v) = M 1 v := by
  obtain ⟨o, g0, g1, g2⟩ := hl
  have e : aObj M v = o := by unfold aObj; rw [if_pos ⟨h0, h5, h9⟩, ← g2, aAt_live hw g0 g1]
  rw [e]
  exact ⟨g0, g1, g2⟩
theorem aObj_n {M : MM} {v : Int} (h9 : ¬ (0 ≤ v ∧ v ≤ 5 ∧ M 0 v = 9)) : aObj M v = -1 := by
  unfold aObj; rw [if_neg h9]
