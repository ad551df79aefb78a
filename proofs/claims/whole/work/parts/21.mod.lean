/-! the reference in the store: its object at m, its thirteen arrays behind it -/
def mA (m j : Nat) : Nat := m + 1 + j
def mLen (j : Nat) : Int := match j with
  | 0 => 6
  | 1 => 6
  | 2 => 20
  | 3 => 20
  | 4 => 20
  | 5 => 80
  | 6 => 80
  | 7 => 80
  | 8 => 20
  | _ => 8
def mTg (j : Nat) : Nat := match j with
  | 8 => 21
  | _ => 20
/-- the fields of the reference's object -/
def modF (m : Nat) (M : MM) (kk : Int) : Option MV := match kk with
  | 0 => some (.inr (some (mA m 0)))
  | 1 => some (.inr (some (mA m 1)))
  | 2 => some (.inl (M 13 0))
  | 3 => some (.inl (M 13 1))
  | 4 => some (.inr (some (mA m 2)))
  | 5 => some (.inr (some (mA m 3)))
  | 6 => some (.inr (some (mA m 4)))
  | 7 => some (.inr (some (mA m 5)))
  | 8 => some (.inr (some (mA m 6)))
  | 9 => some (.inr (some (mA m 7)))
  | 10 => some (.inr (some (mA m 8)))
  | 11 => some (.inl (M 13 2))
  | 12 => some (.inr (some (mA m 9)))
  | 13 => some (.inr (some (mA m 10)))
  | 14 => some (.inl (M 13 3))
  | 15 => some (.inr (some (mA m 11)))
  | 16 => some (.inr (some (mA m 12)))
  | 17 => some (.inl (M 13 4))
  | _ => none
/-- which number a field holds -/
def modS (kk : Int) : Option Int := match kk with
  | 2 => some 0
  | 3 => some 1
  | 11 => some 2
  | 14 => some 3
  | 17 => some 4
  | _ => none
def MOD (m : Nat) (S : MS) (M : MM) : Prop := tS S m = tgM ∧ (∀ kk v, modF m M kk = some v → vS S m kk = v) ∧ ∀ j, j ≤ 12 → tS S (mA m j) = mTg j ∧ lS S (mA m j) = mLen j ∧ ∀ i, 0 ≤ i → i < mLen j → vS S (mA m j) i = .inl (M j i)
/-- only the reference's own cells changed -/
def MFr (m : Nat) (S0 S : MS) : Prop := zS S = zS S0 ∧ qS S = qS S0 ∧ tS S = tS S0 ∧ lS S = lS S0 ∧ ∀ a, a < m ∨ m + 13 < a → vS S a = vS S0 a
theorem MFr.rf {m : Nat} {S : MS} : MFr m S S := ⟨rfl, rfl, rfl, rfl, fun _ _ => rfl⟩
theorem MFr.tr {m : Nat} {S0 S1 S2 : MS} (h : MFr m S0 S1) (h2 : MFr m S1 S2) : MFr m S0 S2 := ⟨h2.1.trans h.1, h2.2.1.trans h.2.1, h2.2.2.1.trans h.2.2.1, h2.2.2.2.1.trans h.2.2.2.1, fun a ha => (h2.2.2.2.2 a ha).trans (h.2.2.2.2 a ha)⟩
def MO (m : Nat) (S0 S : MS) (M : MM) : Prop := MOD m S M ∧ MFr m S0 S
theorem MO.rf {m : Nat} {S : MS} {M : MM} (h : MOD m S M) : MO m S S M := ⟨h, MFr.rf⟩
theorem MO.tr {m : Nat} {S0 S1 S2 : MS} {M M' : MM} (h : MO m S0 S1 M) (h2 : MO m S1 S2 M') : MO m S0 S2 M' := ⟨h2.1, h.2.tr h2.2⟩
theorem u2_s (M : MM) (j : Nat) (i v : Int) : u2 M j i v j i = v := if_pos ⟨rfl, rfl⟩
theorem u2_n (M : MM) {j j' : Nat} {i i' : Int} (v : Int) (h : j' ≠ j ∨ i' ≠ i) : u2 M j i v j' i' = M j' i' := if_neg (fun q => by rcases h with h | h; exact h q.1; exact h q.2)
theorem modF_u2 {m : Nat} {M : MM} {j : Nat} {i v : Int} (hj : j ≤ 12) (kk : Int) : modF m (u2 M j i v) kk = modF m M kk := by
  have e : ∀ q, u2 M j i v 13 q = M 13 q := fun q => u2_n M v (Or.inl (by omega))
  unfold modF
  split <;> simp only [e]
theorem MO.arr {m : Nat} {S0 S : MS} {M : MM} (h : MO m S0 S M) {j : Nat} {i v : Int} (hj : j ≤ 12) : MO m S0 (mset S (mA m j) i (.inl v)) (u2 M j i v) := by
  obtain ⟨⟨h1, h2, h3⟩, h4⟩ := h
  refine ⟨⟨h1, fun kk w hw => ?_, fun j' hj' => ?_⟩, h4.tr ⟨rfl, rfl, rfl, rfl, fun a ha => ?_⟩⟩
  · rw [modF_u2 hj] at hw
    rw [mset_v _ _ _ _ (show m ≠ mA m j by unfold mA; omega)]
    exact h2 kk w hw
  · obtain ⟨g1, g2, g3⟩ := h3 j' hj'
    refine ⟨g1, g2, fun i' a0 a1 => ?_⟩
    by_cases e : j' = j
    · subst e
      rw [mset_s]
      by_cases e2 : i' = i
      · subst e2; rw [if_pos rfl, u2_s]
      · rw [if_neg e2, u2_n M v (Or.inr e2)]; exact g3 i' a0 a1
    · rw [mset_v _ _ _ _ (show mA m j' ≠ mA m j by unfold mA; omega), u2_n M v (Or.inl e)]
      exact g3 i' a0 a1
  · exact mset_v _ _ _ _ (by unfold mA; omega)
theorem MO.num {m : Nat} {S0 S : MS} {M : MM} (h : MO m S0 S M) {kk q v : Int} (hq : modS kk = some q) : MO m S0 (mset S m kk (.inl v)) (u2 M 13 q v) := by
  obtain ⟨⟨h1, h2, h3⟩, h4⟩ := h
  refine ⟨⟨h1, fun k2 w hw => ?_, fun j' hj' => ?_⟩, h4.tr ⟨rfl, rfl, rfl, rfl, fun a ha => ?_⟩⟩
  · rw [mset_s]
    by_cases e : k2 = kk
    · subst e
      rw [if_pos rfl]
      unfold modS at hq
      split at hq <;> first | (cases hq; simp only [modF, u2_s, Option.some.injEq] at hw; exact hw) | cases hq
    · rw [if_neg e]
      apply h2
      rw [← hw]
      unfold modS at hq
      unfold modF
      split <;> first | rfl | (congr 2; exact (u2_n M v (Or.inr (by split at hq <;> first | (cases hq; first | omega | decide) | cases hq))).symm)
  · obtain ⟨g1, g2, g3⟩ := h3 j' hj'
    refine ⟨g1, g2, fun i' a0 a1 => ?_⟩
    rw [mset_v _ _ _ _ (show mA m j' ≠ m by unfold mA; omega), u2_n M v (Or.inl (by omega))]
    exact g3 i' a0 a1
  · exact mset_v _ _ _ _ (by omega)
section MROWS
variable {d k pc m : Nat} {L : ML} {st : List MV} {S0 S : MS} {M : MM} {Q : Option MV → MS → Prop}
theorem XQ.mg {kk : Int} {nx : Nat} {v : MV} (hM : MO m S0 S M) (h : mcd k pc = some (.inl (i_get [tgM] kk nx))) (hv : modF m M kk = some v) (hk : XQ d k nx L (v :: st) S Q) : XQ d k pc L (.inr (some m) :: st) S Q :=
  XQ.get h (by rw [hM.1.1]; decide) (hM.1.2.1 kk v hv) hk
theorem XQ.mp {kk q x : Int} {nx : Nat} (hM : MO m S0 S M) (h : mcd k pc = some (.inl (i_put [tgM] kk 0 nx))) (hq : modS kk = some q) (hk : ∀ S', MO m S0 S' (u2 M 13 q x) → XQ d k nx L st S' Q) : XQ d k pc L (.inl x :: .inr (some m) :: st) S Q :=
  XQ.put h (by rw [hM.1.1]; decide) rfl (hk _ (hM.num hq))
theorem XQ.ml {i : Int} {j : Nat} {ts : List Nat} {nx : Nat} (hM : MO m S0 S M) (h : mcd k pc = some (.inl (i_ld ts nx))) (hts : ts.contains (mTg j) = true) (hj : j ≤ 12) (h0 : 0 ≤ i) (hl : i < mLen j) (hk : XQ d k nx L (.inl (M j i) :: st) S Q) : XQ d k pc L (.inl i :: .inr (some (mA m j)) :: st) S Q := by
  obtain ⟨g1, g2, g3⟩ := hM.1.2.2 j hj
  exact XQ.ld h (by rw [g1]; exact hts) h0 (by rw [g2]; exact hl) (g3 i h0 hl) hk
theorem XQ.ms {i x : Int} {j : Nat} {nx : Nat} (hM : MO m S0 S M) (h : mcd k pc = some (.inl (i_ist nx))) (hts : mTg j = 20) (hj : j ≤ 12) (h0 : 0 ≤ i) (hl : i < mLen j) (hk : ∀ S', MO m S0 S' (u2 M j i x) → XQ d k nx L st S' Q) : XQ d k pc L (.inl x :: .inl i :: .inr (some (mA m j)) :: st) S Q := by
  obtain ⟨g1, g2, g3⟩ := hM.1.2.2 j hj
  exact XQ.ist h (by rw [g1]; exact hts) h0 (by rw [g2]; exact hl) (hk _ (hM.arr hj))
theorem XQ.mz {i x : Int} {nx : Nat} (hM : MO m S0 S M) (h : mcd k pc = some (.inl (i_zst nx))) (hx : x = 0 ∨ x = 1) (h0 : 0 ≤ i) (hl : i < 20) (hk : ∀ S', MO m S0 S' (u2 M 8 i x) → XQ d k nx L st S' Q) : XQ d k pc L (.inl x :: .inl i :: .inr (some (mA m 8)) :: st) S Q := by
  obtain ⟨g1, g2, g3⟩ := hM.1.2.2 8 (by omega)
  exact XQ.zst h g1 hx h0 (by rw [g2]; exact hl) (hk _ (hM.arr (by omega)))
end MROWS
