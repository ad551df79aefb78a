/-! the two pictures at the start; what one side's calls leave of the other's picture -/
theorem M00_wf : WF M00 := by
  refine ⟨⟨⟨by decide, by decide⟩, ⟨by decide, by decide, by decide⟩, fun o h0 h1 => ?_, ⟨by decide, by decide, by decide, by decide⟩⟩, ⟨fun o o' h0 h1 h2 => ?_, fun o h0 h1 => ?_⟩, fun v _ _ => Or.inl rfl, fun o f h0 h1 => ?_, fun o h0 h1 => ?_, fun o f f' h0 h1 => ?_, ⟨fun q h0 h1 => ?_, fun q h0 h1 => ?_, fun q q' h0 h1 h2 => ?_, fun q q' h0 h1 h2 => ?_, fun q q' h0 h1 => ?_⟩, by decide⟩
  all_goals
    exfalso
    unfold M00 at *
    omega
section I4
variable {S : MS} {x m : Nat}
theorem iniM_z : zS (iniM S m) = zS S + 13 ∧ qS (iniM S m) = qS S + 364 := ⟨rfl, rfl⟩
def fldM (j : Nat) : Int := match j with
  | 0 => 0
  | 1 => 1
  | 2 => 4
  | 3 => 5
  | 4 => 6
  | 5 => 7
  | 6 => 8
  | 7 => 9
  | 8 => 10
  | 9 => 12
  | 10 => 13
  | 11 => 15
  | _ => 16
theorem fldM_inj : ∀ i : Nat, i < 13 → ∀ k : Nat, k < 13 → i ≠ k → fldM i ≠ fldM k := by decide
/-- k of the reference's arrays are made -/
def PM (S0 : MS) (k : Nat) (S : MS) : Prop := zS S = zS S0 + 1 + k ∧ tS S (zS S0) = 7 ∧ (∀ i, i < k → tS S (zS S0 + 1 + i) = mTg i ∧ lS S (zS S0 + 1 + i) = mLen i ∧ vS S (zS S0 + 1 + i) = (fun _ => .inl 0) ∧ vS S (zS S0) (fldM i) = .inr (some (zS S0 + 1 + i))) ∧ (∀ kk, (∀ i, i < 13 → fldM i ≠ kk) → vS S (zS S0) kk = df_M kk) ∧ (∀ b, b < zS S0 → tS S b = tS S0 b ∧ lS S b = lS S0 b ∧ vS S b = vS S0 b) ∧ ((∀ b, zS S0 ≤ b → tS S0 b = 0) → ∀ b, zS S ≤ b → tS S b = 0)
theorem PM.zero (S0 : MS) : PM S0 0 (mnew S0 7 18 df_M) := by
  obtain ⟨h1, h2, h3⟩ := mnew_s S0 7 18 df_M
  exact ⟨rfl, h1, fun i hi => absurd hi (Nat.not_lt_zero i), fun kk _ => congrFun h3 kk, fun b hb => mnew_t S0 7 18 df_M (show b ≠ zS S0 by omega), fun hf => fr_n 7 18 df_M hf⟩
theorem PM.step {S0 S : MS} {k : Nat} (h : PM S0 k S) (hk : k < 13) : PM S0 (k + 1) (arrS S (zS S0) (fldM k) (mTg k) (mLen k)) := by
  obtain ⟨h1, h2, h3, h4, h5, h6⟩ := h
  have hm : zS S0 < zS S := by omega
  obtain ⟨m1, m2, m3⟩ := arr_m (S := S) (m := zS S0) (j := fldM k) (t := mTg k) (n := mLen k) hm
  obtain ⟨a1, a2, a3⟩ := arr_a (S := S) (m := zS S0) (j := fldM k) (t := mTg k) (n := mLen k) hm
  refine ⟨by show zS S + 1 = _; omega, m1.trans h2, fun i hi => ?_, fun kk hkk => ?_, fun b hb => ?_, fun hf => arr_f (h6 hf)⟩
  · by_cases e : i = k
    · subst e
      rw [h1] at a1 a2 a3
      exact ⟨a1, a2, a3, by rw [m3, if_pos rfl, h1]⟩
    · obtain ⟨g1, g2, g3, g4⟩ := h3 i (by omega)
      obtain ⟨o1, o2, o3⟩ := arr_o (S := S) (m := zS S0) (b := zS S0 + 1 + i) (j := fldM k) (t := mTg k) (n := mLen k) (by omega) (by omega)
      exact ⟨o1.trans g1, o2.trans g2, o3.trans g3, by rw [m3, if_neg (fldM_inj i (by omega) k hk e)]; exact g4⟩
  · rw [m3, if_neg (fun q => hkk k hk q.symm)]
    exact h4 kk hkk
  · obtain ⟨o1, o2, o3⟩ := arr_o (S := S) (m := zS S0) (b := b) (j := fldM k) (t := mTg k) (n := mLen k) (by omega) (by omega)
    obtain ⟨g1, g2, g3⟩ := h5 b hb
    exact ⟨o1.trans g1, o2.trans g2, o3.trans g3⟩
theorem iniM_pm (S0 : MS) : PM S0 13 (iniM (mnew S0 7 18 df_M) (zS S0)) :=
  (((((((((((((PM.zero S0).step (by decide)).step (by decide)).step (by decide)).step (by decide)).step (by decide)).step (by decide)).step (by decide)).step (by decide)).step (by decide)).step (by decide)).step (by decide)).step (by decide)).step (by decide)
theorem PM.mod {S0 S : MS} (h : PM S0 13 S) : MOD (zS S0) S M00 := by
  obtain ⟨h1, h2, h3, h4, h5, h6⟩ := h
  refine ⟨h2, fun kk v hv => ?_, fun j hj => ?_⟩
  · have ha := fun i hi => (h3 i hi).2.2.2
    have hn : ∀ kk, (kk = 2 ∨ kk = 3 ∨ kk = 11 ∨ kk = 14 ∨ kk = 17) → vS S (zS S0) kk = df_M kk := fun kk hk => h4 kk (by rcases hk with rfl | rfl | rfl | rfl | rfl <;> decide)
    unfold modF at hv
    split at hv
    · rw [← Option.some.inj hv]; exact ha 0 (by decide)
    · rw [← Option.some.inj hv]; exact ha 1 (by decide)
    · rw [← Option.some.inj hv]; exact hn 2 (by decide)
    · rw [← Option.some.inj hv]; exact hn 3 (by decide)
    · rw [← Option.some.inj hv]; exact ha 2 (by decide)
    · rw [← Option.some.inj hv]; exact ha 3 (by decide)
    · rw [← Option.some.inj hv]; exact ha 4 (by decide)
    · rw [← Option.some.inj hv]; exact ha 5 (by decide)
    · rw [← Option.some.inj hv]; exact ha 6 (by decide)
    · rw [← Option.some.inj hv]; exact ha 7 (by decide)
    · rw [← Option.some.inj hv]; exact ha 8 (by decide)
    · rw [← Option.some.inj hv]; exact hn 11 (by decide)
    · rw [← Option.some.inj hv]; exact ha 9 (by decide)
    · rw [← Option.some.inj hv]; exact ha 10 (by decide)
    · rw [← Option.some.inj hv]; exact hn 14 (by decide)
    · rw [← Option.some.inj hv]; exact ha 11 (by decide)
    · rw [← Option.some.inj hv]; exact ha 12 (by decide)
    · rw [← Option.some.inj hv]; exact hn 17 (by decide)
    · cases hv
  · obtain ⟨g1, g2, g3, g4⟩ := h3 j (by omega)
    exact ⟨g1, g2, fun i _ _ => by show vS S (zS S0 + 1 + j) i = _; rw [g3]; rfl⟩
/-- the class's first eight cells, new -/
def PR (S : MS) (r : Nat) (n : Int) : Prop := (tS S r = 6 ∧ vS S r 0 = .inr (some (r + 1)) ∧ tS S (r + 1) = 22 ∧ lS S (r + 1) = n) ∧ vS S r 1 = .inl 0
def PH (x : Nat) (S : MS) : Prop := tS S x = 1 ∧ (∀ k, vS S x k = if k = 3 then .inr (some (x + 6)) else if k = 2 then .inr (some (x + 4)) else if k = 1 then .inr (some (x + 2)) else if k = 0 then .inr (some (x + 1)) else df_H k) ∧ ((tS S (x + 1) = 23 ∧ lS S (x + 1) = 6) ∧ vS S (x + 1) = fun _ => .inr none) ∧ PR S (x + 2) 20 ∧ PR S (x + 4) 8 ∧ PR S (x + 6) 8
theorem PR.row {S : MS} {x : Nat} {j n : Int} {z : Nat} (hx : x < zS S) (hz : zS S = z) : PR (rowS S x j n) z n := by
  subst hz
  obtain ⟨r1, r2, r3⟩ := row_r (S := S) (j := j) (n := n) hx
  obtain ⟨a1, a2⟩ := row_a (S := S) (j := j) (n := n) hx
  exact ⟨⟨r1, r2, a1, a2⟩, r3⟩
theorem PR.keep {S S' : MS} {r : Nat} {n : Int} (h : PR S r n) (h1 : tS S' r = tS S r ∧ lS S' r = lS S r ∧ vS S' r = vS S r) (h2 : tS S' (r + 1) = tS S (r + 1) ∧ lS S' (r + 1) = lS S (r + 1) ∧ vS S' (r + 1) = vS S (r + 1)) : PR S' r n := by
  obtain ⟨⟨g1, g2, g3, g4⟩, g5⟩ := h
  unfold PR
  rw [h1.1, h1.2.2, h2.1, h2.2.1]
  exact ⟨⟨g1, g2, g3, g4⟩, g5⟩
theorem PH.keep {S S' : MS} {x : Nat} (h : PH x S) (hs : ∀ b, b < x + 8 → tS S' b = tS S b ∧ lS S' b = lS S b ∧ vS S' b = vS S b) : PH x S' := by
  obtain ⟨g1, g2, g3, g4, g5, g6⟩ := h
  have e0 := hs x (by omega)
  have e1 := hs (x + 1) (by omega)
  refine ⟨e0.1.trans g1, fun k => by rw [e0.2.2]; exact g2 k, ⟨⟨e1.1.trans g3.1.1, e1.2.1.trans g3.1.2⟩, e1.2.2.trans g3.2⟩, g4.keep (hs _ (by omega)) (hs _ (by omega)), g5.keep (hs _ (by omega)) (hs _ (by omega)), g6.keep (hs _ (by omega)) (hs _ (by omega))⟩
theorem iniH_ok (S : MS) : PH (zS S) (iniH (mnew S 1 7 df_H) (zS S)) ∧ zS (iniH (mnew S 1 7 df_H) (zS S)) = zS S + 8 ∧ qS (iniH (mnew S 1 7 df_H) (zS S)) = qS S + 55 ∧ (∀ b, b < zS S → tS (iniH (mnew S 1 7 df_H) (zS S)) b = tS S b ∧ lS (iniH (mnew S 1 7 df_H) (zS S)) b = lS S b ∧ vS (iniH (mnew S 1 7 df_H) (zS S)) b = vS S b) ∧ ((∀ b, zS S ≤ b → tS S b = 0) → ∀ b, zS S + 8 ≤ b → tS (iniH (mnew S 1 7 df_H) (zS S)) b = 0) := by
  obtain ⟨b1, b2, b3⟩ := mnew_s S 1 7 df_H
  have bt := fun b (hb : b ≠ zS S) => mnew_t S 1 7 df_H (b := b) hb
  obtain ⟨c1, c2, c3⟩ := mnew_s (mnew S 1 7 df_H) 23 6 (fun _ => .inr none)
  have ct := fun b (hb : b ≠ zS S + 1) => mnew_t (mnew S 1 7 df_H) 23 6 (fun _ => .inr none) (b := b) hb
  have hfr : (∀ b, zS S ≤ b → tS S b = 0) → ∀ b, zS S + 8 ≤ b → tS (iniH (mnew S 1 7 df_H) (zS S)) b = 0 := fun hf => row_f (row_f (row_f (S := mset (mnew (mnew S 1 7 df_H) 23 6 (fun _ => .inr none)) (zS S) 0 (.inr (some (zS S + 1)))) (fr_n 23 6 (fun _ => .inr none) (fr_n 1 7 df_H hf))))
  have zz : zS (iniH (mnew S 1 7 df_H) (zS S)) = zS S + 8 := rfl
  have qq : qS (iniH (mnew S 1 7 df_H) (zS S)) = qS S + 55 := rfl
  have hdef : iniH (mnew S 1 7 df_H) (zS S) = rowS (rowS (rowS (mset (mnew (mnew S 1 7 df_H) 23 6 (fun _ => .inr none)) (zS S) 0 (.inr (some (zS S + 1)))) (zS S) 1 20) (zS S) 2 8) (zS S) 3 8 := rfl
  have q0 : ∀ k, vS (mset (mnew (mnew S 1 7 df_H) 23 6 (fun _ => .inr none)) (zS S) 0 (.inr (some (zS S + 1)))) (zS S) k = if k = 0 then .inr (some (zS S + 1)) else df_H k := fun k => by
    rw [mset_s, (ct (zS S) (by omega)).2.2, b3]
  have q1 : tS (mset (mnew (mnew S 1 7 df_H) 23 6 (fun _ => .inr none)) (zS S) 0 (.inr (some (zS S + 1)))) (zS S) = 1 := (ct (zS S) (by omega)).1.trans b1
  have q2 : vS (mset (mnew (mnew S 1 7 df_H) 23 6 (fun _ => .inr none)) (zS S) 0 (.inr (some (zS S + 1)))) (zS S + 1) = fun _ => .inr none := (mset_v _ _ _ _ (by omega)).trans c3
  have q3 : tS (mset (mnew (mnew S 1 7 df_H) 23 6 (fun _ => .inr none)) (zS S) 0 (.inr (some (zS S + 1)))) (zS S + 1) = 23 ∧ lS (mset (mnew (mnew S 1 7 df_H) 23 6 (fun _ => .inr none)) (zS S) 0 (.inr (some (zS S + 1)))) (zS S + 1) = 6 := ⟨c1, c2⟩
  have q4 : zS (mset (mnew (mnew S 1 7 df_H) 23 6 (fun _ => .inr none)) (zS S) 0 (.inr (some (zS S + 1)))) = zS S + 2 := rfl
  have q5 : ∀ b, b < zS S → tS (mset (mnew (mnew S 1 7 df_H) 23 6 (fun _ => .inr none)) (zS S) 0 (.inr (some (zS S + 1)))) b = tS S b ∧ lS (mset (mnew (mnew S 1 7 df_H) 23 6 (fun _ => .inr none)) (zS S) 0 (.inr (some (zS S + 1)))) b = lS S b ∧ vS (mset (mnew (mnew S 1 7 df_H) 23 6 (fun _ => .inr none)) (zS S) 0 (.inr (some (zS S + 1)))) b = vS S b :=
    new_s _ _ (Nat.le_refl _) (new_n _ _ _ (Nat.le_succ _) (new_n 1 7 df_H (Nat.le_refl _) (fun b _ => ⟨rfl, rfl, rfl⟩)))
  refine ⟨?_, zz, qq, ?_, hfr⟩
  · rw [hdef]
    generalize mset (mnew (mnew S 1 7 df_H) 23 6 (fun _ => .inr none)) (zS S) 0 (.inr (some (zS S + 1))) = R0 at q0 q1 q2 q3 q4 q5
    have z1 : zS (rowS R0 (zS S) 1 20) = zS S + 4 := by show zS R0 + 1 + 1 = _; omega
    have z2 : zS (rowS (rowS R0 (zS S) 1 20) (zS S) 2 8) = zS S + 6 := by show zS R0 + 1 + 1 + 1 + 1 = _; omega
    have x1 := row_x (S := R0) (x := zS S) (j := 1) (n := 20) (by omega)
    have x2 := row_x (S := rowS R0 (zS S) 1 20) (x := zS S) (j := 2) (n := 8) (by omega)
    have x3 := row_x (S := rowS (rowS R0 (zS S) 1 20) (zS S) 2 8) (x := zS S) (j := 3) (n := 8) (by omega)
    have o1 := fun b (h1 : b ≠ zS S) (h2 : b ≠ zS S + 2) (h3 : b ≠ zS S + 3) => row_o (S := R0) (x := zS S) (j := 1) (n := 20) (b := b) h1 (by omega) (by omega)
    have o2 := fun b (h1 : b ≠ zS S) (h2 : b ≠ zS S + 4) (h3 : b ≠ zS S + 5) => row_o (S := rowS R0 (zS S) 1 20) (x := zS S) (j := 2) (n := 8) (b := b) h1 (by omega) (by omega)
    have o3 := fun b (h1 : b ≠ zS S) (h2 : b ≠ zS S + 6) (h3 : b ≠ zS S + 7) => row_o (S := rowS (rowS R0 (zS S) 1 20) (zS S) 2 8) (x := zS S) (j := 3) (n := 8) (b := b) h1 (by omega) (by omega)
    have p1 := PR.row (S := R0) (x := zS S) (j := 1) (n := 20) (z := zS S + 2) (by omega) q4
    have p2 := PR.row (S := rowS R0 (zS S) 1 20) (x := zS S) (j := 2) (n := 8) (by omega) z1
    have p3 := PR.row (S := rowS (rowS R0 (zS S) 1 20) (zS S) 2 8) (x := zS S) (j := 3) (n := 8) (by omega) z2
    refine ⟨x3.1.trans (x2.1.trans (x1.1.trans q1)), fun k => ?_, ?_, ?_, ?_, p3⟩
    · rw [x3.2.2, x2.2.2, x1.2.2, q0, z2, z1, q4]
    · have a3 := o3 (zS S + 1) (by omega) (by omega) (by omega)
      have a2 := o2 (zS S + 1) (by omega) (by omega) (by omega)
      have a1 := o1 (zS S + 1) (by omega) (by omega) (by omega)
      exact ⟨⟨a3.1.trans (a2.1.trans (a1.1.trans q3.1)), a3.2.1.trans (a2.2.1.trans (a1.2.1.trans q3.2))⟩, a3.2.2.trans (a2.2.2.trans (a1.2.2.trans q2))⟩
    · exact (p1.keep (o2 _ (by omega) (by omega) (by omega)) (o2 _ (by omega) (by omega) (by omega))).keep (o3 _ (by omega) (by omega) (by omega)) (o3 _ (by omega) (by omega) (by omega))
    · exact p2.keep (o3 _ (by omega) (by omega) (by omega)) (o3 _ (by omega) (by omega) (by omega))
  · rw [hdef]
    generalize mset (mnew (mnew S 1 7 df_H) 23 6 (fun _ => .inr none)) (zS S) 0 (.inr (some (zS S + 1))) = R0 at q0 q1 q2 q3 q4 q5
    intro b hb
    have z1 : zS (rowS R0 (zS S) 1 20) = zS S + 4 := by show zS R0 + 1 + 1 = _; omega
    have z2 : zS (rowS (rowS R0 (zS S) 1 20) (zS S) 2 8) = zS S + 6 := by show zS R0 + 1 + 1 + 1 + 1 = _; omega
    have a1 := row_o (S := R0) (x := zS S) (j := 1) (n := 20) (b := b) (by omega) (by omega) (by omega)
    have a2 := row_o (S := rowS R0 (zS S) 1 20) (x := zS S) (j := 2) (n := 8) (b := b) (by omega) (by omega) (by omega)
    have a3 := row_o (S := rowS (rowS R0 (zS S) 1 20) (zS S) 2 8) (x := zS S) (j := 3) (n := 8) (b := b) (by omega) (by omega) (by omega)
    have a0 := q5 b hb
    exact ⟨a3.1.trans (a2.1.trans (a1.1.trans a0.1)), a3.2.1.trans (a2.2.1.trans (a1.2.1.trans a0.2.1)), a3.2.2.trans (a2.2.2.trans (a1.2.2.trans a0.2.2))⟩
theorem PH.cl {S : MS} {x : Nat} (h : PH x S) (hf : ∀ a, zS S ≤ a → tS S a = 0) (hz : x + 22 ≤ zS S) (A : Int → Nat) : CL x S A M00 := by
  obtain ⟨h1, h2, h3, h4, h5, h6⟩ := h
  refine ⟨⟨h1, (h2 0).trans rfl, (h2 1).trans rfl, (h2 2).trans rfl, (h2 3).trans rfl, h3.1, h4.1, h5.1, h6.1, hf, hz⟩, ⟨(h2 5).trans rfl, (h2 6).trans rfl⟩, ⟨⟨h4.2, fun i a b => ?_⟩, ⟨h5.2, fun i a b => ?_⟩, ⟨h6.2, fun i a b => ?_⟩⟩, fun v _ _ => ⟨none, congrFun h3.2 v, Or.inl ⟨rfl, rfl⟩⟩, fun o a b => ?_, ⟨(h2 4).trans rfl, fun o a b => ?_⟩, ⟨fun o a b => ?_, fun o a b => ?_, fun o a b => ?_⟩, fun o a b => ?_⟩
  all_goals
    exfalso
    unfold M00 at b
    omega
/-- the reference's calls leave the class's picture -/
theorem CL.mfr {S S' : MS} {x : Nat} {A : Int → Nat} {M : MM} (h : CL x S A M) (hw : WF M) (hf : MFr (x + 8) S S') : CL x S' A M := by
  obtain ⟨hF, hN, hRs, hV, hO, hPl, hTg, hMk⟩ := h
  obtain ⟨f1, f2, f3, f4, f5⟩ := hf
  have ho : offS [8] M M := offS.rf
  have hv : ∀ b, b < x + 8 ∨ x + 22 ≤ b → vS S' b = vS S b := fun b hb => f5 b (by omega)
  have ht : ∀ b, tS S b ≠ 0 → tS S' b = tS S b ∧ lS S' b = lS S b := fun b _ => ⟨by rw [f3], by rw [f4]⟩
  have hA : AgO x S S' := ⟨ht, fun b j h1 _ _ => by rw [hv b (Or.inr h1)]⟩
  have hx : ∀ b, x ≤ b → b < x + 8 → vS S' b = vS S b := fun b h1 h2 => hv b (Or.inl h2)
  refine ⟨hF.tr2 (by omega) (fun a ha => by rw [f3]; exact hF.2.2.2.2.2.2.2.2.2.1 a (by omega)) ht (fun j _ => by rw [hx x (by omega) (by omega)]) (by rw [hx _ (by omega) (by omega)]) (by rw [hx _ (by omega) (by omega)]) (by rw [hx _ (by omega) (by omega)]), ?_, ?_, ?_, ?_, ?_, ?_, ?_⟩
  · unfold cNum
    rw [hx x (by omega) (by omega)]
    exact hN
  · exact ⟨hRs.1.tr (by rw [hx _ (by omega) (by omega)]) (hx _ (by omega) (by omega)), hRs.2.1.tr (by rw [hx _ (by omega) (by omega)]) (hx _ (by omega) (by omega)), hRs.2.2.tr (by rw [hx _ (by omega) (by omega)]) (hx _ (by omega) (by omega))⟩
  · intro w w0 w5
    rw [hx _ (by omega) (by omega)]
    obtain ⟨r', z1, z2⟩ := hV w w0 w5
    exact ⟨r', z1, z2.tr hA⟩
  · intro o z1 z2
    exact (hO o z1 z2).tr hA (EqO.of ho rfl rfl rfl rfl rfl rfl o) (hw.1.2.2.1 o z1 z2).2.1
  · unfold cPl
    rw [hx x (by omega) (by omega)]
    refine ⟨hPl.1, fun o z1 z2 => ?_⟩
    rw [hv _ (Or.inr (hO o z1 z2).1)]
    exact hPl.2 o z1 z2
  · exact hTg.tr2 hO hw.2.2.2.2.2.2.1 (fun b hb hb2 => by rw [hv b (Or.inr hb)]; exact ⟨rfl, rfl⟩) ho rfl rfl rfl rfl rfl rfl rfl rfl
  · intro o z1 z2
    rw [hv _ (Or.inr (hO o z1 z2).1)]
    exact hMk o z1 z2
/-- the class's calls leave the reference's picture -/
theorem MOD.cfr {S S' : MS} {x c q : Nat} {M : MM} (h : MOD (x + 8) S M) (hz : x + 22 ≤ zS S) (hf : CFr x c q S S') : MOD (x + 8) S' M := by
  obtain ⟨h1, h2, h3⟩ := h
  obtain ⟨f1, f2, f3, f4, f5, f6⟩ := hf
  refine ⟨(f5 _ (by omega)).1.trans h1, fun kk v hv => by rw [f6 _ (by omega)]; exact h2 kk v hv, fun j hj => ?_⟩
  obtain ⟨g1, g2, g3⟩ := h3 j hj
  have hl : mA (x + 8) j < zS S := by unfold mA; omega
  refine ⟨(f5 _ hl).1.trans g1, (f5 _ hl).2.trans g2, fun i a b => ?_⟩
  rw [f6 _ (by unfold mA; omega)]
  exact g3 i a b
end I4
