/-! the class's methods, walked: number, assign, get, find -/
/-- what a call of the class leaves alone: the reference's cells; how much it makes -/
def CFr (x c q : Nat) (S S' : MS) : Prop := zS S ≤ zS S' ∧ zS S' ≤ zS S + c ∧ qS S ≤ qS S' ∧ qS S' ≤ qS S + q ∧ (∀ a, a < zS S → tS S' a = tS S a ∧ lS S' a = lS S a) ∧ ∀ a, a < x ∨ (x + 8 ≤ a ∧ a ≤ x + 21) → vS S' a = vS S a
theorem CFr.rf {x c q : Nat} {S : MS} : CFr x c q S S := ⟨Nat.le_refl _, Nat.le_add_right _ _, Nat.le_refl _, Nat.le_add_right _ _, fun _ _ => ⟨rfl, rfl⟩, fun _ _ => rfl⟩
theorem CFr.set {x c q : Nat} {S S' : MS} (h : CFr x c q S S') {b : Nat} (hb : (x ≤ b ∧ b < x + 8) ∨ x + 22 ≤ b) (k : Int) (v : MV) : CFr x c q S (mset S' b k v) := ⟨h.1, h.2.1, h.2.2.1, h.2.2.2.1, h.2.2.2.2.1, fun a ha => (mset_v _ _ _ _ (by omega)).trans (h.2.2.2.2.2 a ha)⟩
section C3
variable {d x : Nat} {S : MS} {A : Int → Nat} {M : MM}
theorem VR.ast {S : MS} {r : Option Nat} {is has : Int} (hO : cO x S A M) (h : VR x S A r is has) (hv : OKV M is has) {a : Nat} (ht : tS S a = 23) : astOK [(22, [3, 4, 5]), (23, [2, 3, 4, 5])] S a r = true := by
  rcases h.cases hO hv with ⟨-, rfl⟩ | ⟨-, b, rfl, h2, -⟩ | ⟨-, rfl, -, h3⟩
  · unfold astOK; rw [ht]; rfl
  · unfold astOK; rw [ht]; show [2, 3, 4, 5].contains (tS S b) = true; rw [h2]; rfl
  · unfold astOK; rw [ht]; show [2, 3, 4, 5].contains (tS S (A has)) = true; rcases h3 with z | z | z <;> rw [z] <;> rfl
theorem C_assign {v w : Int} (hC : CL x S A M) (hw : WF M) : XQ (d + 2) k_H_assign 0 (mentry (mL k_H_assign) [.inr (some x), .inl v, .inl w]) [] S (fun q S' => q = some (.inl (aAssign M v w).1) ∧ CL x S' A (aAssign M v w).2 ∧ WF (aAssign M v w).2 ∧ CFr x 3 30 S S') := by
  have hC0 := hC
  obtain ⟨hF, hN, hRs, hV, hO, hPl, hTg, hMk⟩ := hC
  have bad : (v < 0 ∨ 5 < v ∨ w < -1 ∨ 5 < w) → aAssign M v w = (0, M) := fun q => by unfold aAssign; rw [if_pos q]
  have good : 0 ≤ v ∧ v ≤ 5 ∧ -1 ≤ w ∧ w ≤ 5 → aAssign M v w = (1, if w < 0 then aHold M v 0 0 else aHold M v (M 0 w) (M 1 w)) := fun q => by unfold aAssign; rw [if_neg (by omega)]
  have k21 : 0 ≤ v ∧ v ≤ 5 → -1 ≤ w ∧ w ≤ 5 → XQ (d + 2) k_H_assign 21 [some (.inr (some x)), some (.inl v), some (.inl w)] [] S (fun q S' => q = some (.inl (aAssign M v w).1) ∧ CL x S' A (aAssign M v w).2 ∧ WF (aAssign M v w).2 ∧ CFr x 3 30 S S') := by
    intro hv hw2
    rw [good ⟨hv.1, hv.2, hw2.1, hw2.2⟩]
    repeat (first | refine XQ.go rfl rfl ?_ | refine XQ.zeq0 rfl ?_ | refine XQ.zeq1 rfl ?_ | refine XQ.zne0 rfl ?_ | refine XQ.zne1 rfl ?_ | refine XQ.add rfl ⟨by omega, by omega⟩ ?_ | refine XQ.sub rfl ⟨by omega, by omega⟩ ?_ | refine XQ.inc rfl rfl rfl ⟨by omega, by omega⟩ ?_)
    refine XQ.gx rfl hF.1 hF.2.1 ?_
    repeat (first | refine XQ.go rfl rfl ?_ | refine XQ.zeq0 rfl ?_ | refine XQ.zeq1 rfl ?_ | refine XQ.zne0 rfl ?_ | refine XQ.zne1 rfl ?_ | refine XQ.add rfl ⟨by omega, by omega⟩ ?_ | refine XQ.sub rfl ⟨by omega, by omega⟩ ?_ | refine XQ.inc rfl rfl rfl ⟨by omega, by omega⟩ ?_)
    refine XQ.v2 rfl hF.1 rfl (le8 rfl) (C_held (d := d) (v := w) hF hV) (fun q S' hq => ?_)
    obtain ⟨rfl, r, rfl, ⟨h0, h5, h1, h2⟩ | ⟨h0, rfl⟩⟩ := hq
    · rw [if_neg (by omega)]
      refine XQ.ast rfl (h2.ast hO (hw.2.2.1 w h0 h5) hF.2.2.2.2.2.1.1) hv.1 (by rw [hF.2.2.2.2.2.1.2]; omega) ?_
      repeat (first | refine XQ.go rfl rfl ?_ | refine XQ.zeq0 rfl ?_ | refine XQ.zeq1 rfl ?_ | refine XQ.zne0 rfl ?_ | refine XQ.zne1 rfl ?_ | refine XQ.add rfl ⟨by omega, by omega⟩ ?_ | refine XQ.sub rfl ⟨by omega, by omega⟩ ?_ | refine XQ.inc rfl rfl rfl ⟨by omega, by omega⟩ ?_)
      exact XQ.ret rfl rfl ⟨rfl, hC0.hold hw hv.1 hv.2 h2, hw.hold (hw.2.2.1 w h0 h5), CFr.rf.set (Or.inl ⟨by omega, by omega⟩) _ _⟩
    · rw [if_pos (by omega)]
      have h2 : VR x S' A none 0 0 := Or.inl ⟨rfl, rfl⟩
      refine XQ.ast rfl (h2.ast hO (Or.inl rfl) hF.2.2.2.2.2.1.1) hv.1 (by rw [hF.2.2.2.2.2.1.2]; omega) ?_
      repeat (first | refine XQ.go rfl rfl ?_ | refine XQ.zeq0 rfl ?_ | refine XQ.zeq1 rfl ?_ | refine XQ.zne0 rfl ?_ | refine XQ.zne1 rfl ?_ | refine XQ.add rfl ⟨by omega, by omega⟩ ?_ | refine XQ.sub rfl ⟨by omega, by omega⟩ ?_ | refine XQ.inc rfl rfl rfl ⟨by omega, by omega⟩ ?_)
      exact XQ.ret rfl rfl ⟨rfl, hC0.hold hw hv.1 hv.2 h2, hw.hold (Or.inl rfl), CFr.rf.set (Or.inl ⟨by omega, by omega⟩) _ _⟩
  repeat (first | refine XQ.go rfl rfl ?_ | refine XQ.zeq0 rfl ?_ | refine XQ.zeq1 rfl ?_ | refine XQ.zne0 rfl ?_ | refine XQ.zne1 rfl ?_ | refine XQ.add rfl ⟨by omega, by omega⟩ ?_ | refine XQ.sub rfl ⟨by omega, by omega⟩ ?_ | refine XQ.inc rfl rfl rfl ⟨by omega, by omega⟩ ?_)
  refine XQ.s1 rfl rfl (le8 rfl) (C_isVariable (v := v)) (fun r S' hq => ?_)
  obtain ⟨rfl, ⟨rfl, hv⟩ | ⟨rfl, hv⟩⟩ := hq
  · repeat (first | refine XQ.go rfl rfl ?_ | refine XQ.zeq0 rfl ?_ | refine XQ.zeq1 rfl ?_ | refine XQ.zne0 rfl ?_ | refine XQ.zne1 rfl ?_ | refine XQ.add rfl ⟨by omega, by omega⟩ ?_ | refine XQ.sub rfl ⟨by omega, by omega⟩ ?_ | refine XQ.inc rfl rfl rfl ⟨by omega, by omega⟩ ?_)
    refine XQ.ceq rfl (fun q => ?_) (fun q => ?_)
    · exact k21 hv (by omega)
    · repeat (first | refine XQ.go rfl rfl ?_ | refine XQ.zeq0 rfl ?_ | refine XQ.zeq1 rfl ?_ | refine XQ.zne0 rfl ?_ | refine XQ.zne1 rfl ?_ | refine XQ.add rfl ⟨by omega, by omega⟩ ?_ | refine XQ.sub rfl ⟨by omega, by omega⟩ ?_ | refine XQ.inc rfl rfl rfl ⟨by omega, by omega⟩ ?_)
      refine XQ.s1 rfl rfl (le8 rfl) (C_isVariable (v := w)) (fun r S' hq => ?_)
      obtain ⟨rfl, ⟨rfl, hw2⟩ | ⟨rfl, hw2⟩⟩ := hq
      · have k := k21 hv (by omega)
        repeat (first | exact k | refine XQ.go rfl rfl ?_ | refine XQ.zeq0 rfl ?_ | refine XQ.zeq1 rfl ?_ | refine XQ.zne0 rfl ?_ | refine XQ.zne1 rfl ?_ | refine XQ.add rfl ⟨by omega, by omega⟩ ?_ | refine XQ.sub rfl ⟨by omega, by omega⟩ ?_ | refine XQ.inc rfl rfl rfl ⟨by omega, by omega⟩ ?_)
      · rw [bad (by omega)]
        repeat (first | refine XQ.go rfl rfl ?_ | refine XQ.zeq0 rfl ?_ | refine XQ.zeq1 rfl ?_ | refine XQ.zne0 rfl ?_ | refine XQ.zne1 rfl ?_ | refine XQ.add rfl ⟨by omega, by omega⟩ ?_ | refine XQ.sub rfl ⟨by omega, by omega⟩ ?_ | refine XQ.inc rfl rfl rfl ⟨by omega, by omega⟩ ?_)
        exact XQ.ret rfl rfl ⟨rfl, hC0, hw, CFr.rf⟩
  · rw [bad (by omega)]
    repeat (first | refine XQ.go rfl rfl ?_ | refine XQ.zeq0 rfl ?_ | refine XQ.zeq1 rfl ?_ | refine XQ.zne0 rfl ?_ | refine XQ.zne1 rfl ?_ | refine XQ.add rfl ⟨by omega, by omega⟩ ?_ | refine XQ.sub rfl ⟨by omega, by omega⟩ ?_ | refine XQ.inc rfl rfl rfl ⟨by omega, by omega⟩ ?_)
    exact XQ.ret rfl rfl ⟨rfl, hC0, hw, CFr.rf⟩
theorem C_hasField {a : Nat} {k n : Int} (ht : tS S a = 3) (h6 : vS S a 6 = .inr (some (a + 1))) (h7 : tS S (a + 1) = 23) (h8 : lS S (a + 1) = n) : XQ d k_V_hasField 0 (mentry (mL k_V_hasField) [.inr (some a), .inl k]) [] S (fun q S' => S' = S ∧ ((q = some (.inl 1) ∧ 0 ≤ k ∧ k < n) ∨ (q = some (.inl 0) ∧ (k < 0 ∨ n ≤ k)))) := by
  repeat (first | refine XQ.go rfl rfl ?_ | refine XQ.zeq0 rfl ?_ | refine XQ.zeq1 rfl ?_ | refine XQ.zne0 rfl ?_ | refine XQ.zne1 rfl ?_ | refine XQ.add rfl ⟨by omega, by omega⟩ ?_ | refine XQ.sub rfl ⟨by omega, by omega⟩ ?_ | refine XQ.inc rfl rfl rfl ⟨by omega, by omega⟩ ?_)
  refine XQ.zlt rfl (fun q => ?_) (fun q => ?_)
  · repeat (first | refine XQ.go rfl rfl ?_ | refine XQ.zeq0 rfl ?_ | refine XQ.zeq1 rfl ?_ | refine XQ.zne0 rfl ?_ | refine XQ.zne1 rfl ?_ | refine XQ.add rfl ⟨by omega, by omega⟩ ?_ | refine XQ.sub rfl ⟨by omega, by omega⟩ ?_ | refine XQ.inc rfl rfl rfl ⟨by omega, by omega⟩ ?_)
    exact XQ.ret rfl rfl ⟨rfl, Or.inr ⟨rfl, Or.inl q⟩⟩
  · repeat (first | refine XQ.go rfl rfl ?_ | refine XQ.zeq0 rfl ?_ | refine XQ.zeq1 rfl ?_ | refine XQ.zne0 rfl ?_ | refine XQ.zne1 rfl ?_ | refine XQ.add rfl ⟨by omega, by omega⟩ ?_ | refine XQ.sub rfl ⟨by omega, by omega⟩ ?_ | refine XQ.inc rfl rfl rfl ⟨by omega, by omega⟩ ?_)
    refine XQ.gx rfl ht h6 ?_
    refine XQ.len rfl (by rw [h7]; decide) h8 ?_
    refine XQ.cge rfl (fun q2 => ?_) (fun q2 => ?_)
    · repeat (first | refine XQ.go rfl rfl ?_ | refine XQ.zeq0 rfl ?_ | refine XQ.zeq1 rfl ?_ | refine XQ.zne0 rfl ?_ | refine XQ.zne1 rfl ?_ | refine XQ.add rfl ⟨by omega, by omega⟩ ?_ | refine XQ.sub rfl ⟨by omega, by omega⟩ ?_ | refine XQ.inc rfl rfl rfl ⟨by omega, by omega⟩ ?_)
      exact XQ.ret rfl rfl ⟨rfl, Or.inr ⟨rfl, Or.inr q2⟩⟩
    · repeat (first | refine XQ.go rfl rfl ?_ | refine XQ.zeq0 rfl ?_ | refine XQ.zeq1 rfl ?_ | refine XQ.zne0 rfl ?_ | refine XQ.zne1 rfl ?_ | refine XQ.add rfl ⟨by omega, by omega⟩ ?_ | refine XQ.sub rfl ⟨by omega, by omega⟩ ?_ | refine XQ.inc rfl rfl rfl ⟨by omega, by omega⟩ ?_)
      exact XQ.ret rfl rfl ⟨rfl, Or.inl ⟨rfl, q, q2⟩⟩
theorem C_get {w v k : Int} (hC : CL x S A M) (hw : WF M) : XQ (d + 2) k_H_get 0 (mentry (mL k_H_get) [.inr (some x), .inl w, .inl v, .inl k]) [] S (fun q S' => q = some (.inl (aGet M w v k).1) ∧ CL x S' A (aGet M w v k).2 ∧ WF (aGet M w v k).2 ∧ CFr x 3 30 S S') := by
  have hC0 := hC
  obtain ⟨hF, hN, hRs, hV, hO, hPl, hTg, hMk⟩ := hC
  have bad : (w < 0 ∨ 5 < w ∨ aObj M v < 0 ∨ M 3 (aObj M v) = 4 ∨ k < 0 ∨ M 4 (aObj M v) ≤ k) → aGet M w v k = (0, M) := fun q => by unfold aGet; rw [if_pos q]
  repeat (first | refine XQ.go rfl rfl ?_ | refine XQ.zeq0 rfl ?_ | refine XQ.zeq1 rfl ?_ | refine XQ.zne0 rfl ?_ | refine XQ.zne1 rfl ?_ | refine XQ.add rfl ⟨by omega, by omega⟩ ?_ | refine XQ.sub rfl ⟨by omega, by omega⟩ ?_ | refine XQ.inc rfl rfl rfl ⟨by omega, by omega⟩ ?_)
  refine XQ.s1 rfl rfl (le8 rfl) (C_isVariable (v := w)) (fun r S' hq => ?_)
  obtain ⟨rfl, ⟨rfl, hw2⟩ | ⟨rfl, hw2⟩⟩ := hq
  · repeat (first | refine XQ.go rfl rfl ?_ | refine XQ.zeq0 rfl ?_ | refine XQ.zeq1 rfl ?_ | refine XQ.zne0 rfl ?_ | refine XQ.zne1 rfl ?_ | refine XQ.add rfl ⟨by omega, by omega⟩ ?_ | refine XQ.sub rfl ⟨by omega, by omega⟩ ?_ | refine XQ.inc rfl rfl rfl ⟨by omega, by omega⟩ ?_)
    refine XQ.v2 rfl hF.1 rfl (le8 rfl) (C_held (d := d) (v := v) hF hV) (fun q S' hq => ?_)
    obtain ⟨rfl, r, rfl, ⟨h0, h5, h1, h2⟩ | ⟨h0, rfl⟩⟩ := hq
    · rcases h2.cases hO (hw.2.2.1 v h0 h5) with ⟨e, rfl⟩ | ⟨e, a, rfl, e2, e3⟩ | ⟨e, rfl, e2, e3⟩
      · rw [bad (by have := aObj_n (M := M) (v := v) (fun z => by omega); omega)]
        repeat (first | refine XQ.go rfl rfl ?_ | refine XQ.zeq0 rfl ?_ | refine XQ.zeq1 rfl ?_ | refine XQ.zne0 rfl ?_ | refine XQ.zne1 rfl ?_ | refine XQ.add rfl ⟨by omega, by omega⟩ ?_ | refine XQ.sub rfl ⟨by omega, by omega⟩ ?_ | refine XQ.inc rfl rfl rfl ⟨by omega, by omega⟩ ?_)
        exact XQ.ret rfl rfl ⟨rfl, hC0, hw, CFr.rf⟩
      · rw [bad (by have := aObj_n (M := M) (v := v) (fun z => by omega); omega)]
        repeat (first | refine XQ.go rfl rfl ?_ | refine XQ.zeq0 rfl ?_ | refine XQ.zeq1 rfl ?_ | refine XQ.zne0 rfl ?_ | refine XQ.zne1 rfl ?_ | refine XQ.add rfl ⟨by omega, by omega⟩ ?_ | refine XQ.sub rfl ⟨by omega, by omega⟩ ?_ | refine XQ.inc rfl rfl rfl ⟨by omega, by omega⟩ ?_)
        refine XQ.insN rfl (by rw [e2]; rfl) (by rw [e2]; rfl) ?_
        repeat (first | refine XQ.go rfl rfl ?_ | refine XQ.zeq0 rfl ?_ | refine XQ.zeq1 rfl ?_ | refine XQ.zne0 rfl ?_ | refine XQ.zne1 rfl ?_ | refine XQ.add rfl ⟨by omega, by omega⟩ ?_ | refine XQ.sub rfl ⟨by omega, by omega⟩ ?_ | refine XQ.inc rfl rfl rfl ⟨by omega, by omega⟩ ?_)
        refine XQ.insN rfl (by rw [e2]; rfl) (by rw [e2]; rfl) ?_
        repeat (first | refine XQ.go rfl rfl ?_ | refine XQ.zeq0 rfl ?_ | refine XQ.zeq1 rfl ?_ | refine XQ.zne0 rfl ?_ | refine XQ.zne1 rfl ?_ | refine XQ.add rfl ⟨by omega, by omega⟩ ?_ | refine XQ.sub rfl ⟨by omega, by omega⟩ ?_ | refine XQ.inc rfl rfl rfl ⟨by omega, by omega⟩ ?_)
        exact XQ.ret rfl rfl ⟨rfl, hC0, hw, CFr.rf⟩
      · obtain ⟨g0, g1, g2⟩ := aObj_9 hw.2.1 h0 h5 e e2
        have hob := hO _ g0 g1
        unfold cObj at hob
        rw [g2] at hob
        have hwf := fun z1 z2 => hw.2.2.2.1 (aObj M v) k g0 g1 z1 z2
        have hww := hw.2.2.2.2.1 (aObj M v) g0 g1
        have good : 0 ≤ k → k < M 4 (aObj M v) → ¬ M 3 (aObj M v) = 4 → aGet M w v k = (1, aHold M w (M 5 (4 * aObj M v + k)) (M 6 (4 * aObj M v + k))) := fun z1 z2 z3 => by unfold aGet; rw [if_neg (by omega)]
        rcases hob.2.2.2 with ⟨z, z2, z3, z4, z5, z6⟩ | ⟨z, z2, r, z3, z4⟩ | ⟨z, z2, -⟩
        · repeat (first | refine XQ.go rfl rfl ?_ | refine XQ.zeq0 rfl ?_ | refine XQ.zeq1 rfl ?_ | refine XQ.zne0 rfl ?_ | refine XQ.zne1 rfl ?_ | refine XQ.add rfl ⟨by omega, by omega⟩ ?_ | refine XQ.sub rfl ⟨by omega, by omega⟩ ?_ | refine XQ.inc rfl rfl rfl ⟨by omega, by omega⟩ ?_)
          refine XQ.insY rfl (by rw [z]; rfl) ?_
          repeat (first | refine XQ.go rfl rfl ?_ | refine XQ.zeq0 rfl ?_ | refine XQ.zeq1 rfl ?_ | refine XQ.zne0 rfl ?_ | refine XQ.zne1 rfl ?_ | refine XQ.add rfl ⟨by omega, by omega⟩ ?_ | refine XQ.sub rfl ⟨by omega, by omega⟩ ?_ | refine XQ.inc rfl rfl rfl ⟨by omega, by omega⟩ ?_)
          refine XQ.cst rfl (by rw [z]; rfl) ?_
          repeat (first | refine XQ.go rfl rfl ?_ | refine XQ.zeq0 rfl ?_ | refine XQ.zeq1 rfl ?_ | refine XQ.zne0 rfl ?_ | refine XQ.zne1 rfl ?_ | refine XQ.add rfl ⟨by omega, by omega⟩ ?_ | refine XQ.sub rfl ⟨by omega, by omega⟩ ?_ | refine XQ.inc rfl rfl rfl ⟨by omega, by omega⟩ ?_)
          refine XQ.v2 rfl z rfl (le8 rfl) (C_hasField (k := k) z z3 z4 z5) (fun q S' hq => ?_)
          obtain ⟨rfl, ⟨rfl, f0, f1⟩ | ⟨rfl, f0⟩⟩ := hq
          · obtain ⟨r, y1, y2⟩ := z6 k f0 f1
            rw [good f0 f1 (by omega)]
            repeat (first | refine XQ.go rfl rfl ?_ | refine XQ.zeq0 rfl ?_ | refine XQ.zeq1 rfl ?_ | refine XQ.zne0 rfl ?_ | refine XQ.zne1 rfl ?_ | refine XQ.add rfl ⟨by omega, by omega⟩ ?_ | refine XQ.sub rfl ⟨by omega, by omega⟩ ?_ | refine XQ.inc rfl rfl rfl ⟨by omega, by omega⟩ ?_)
            refine XQ.gx rfl hF.1 hF.2.1 ?_
            repeat (first | refine XQ.go rfl rfl ?_ | refine XQ.zeq0 rfl ?_ | refine XQ.zeq1 rfl ?_ | refine XQ.zne0 rfl ?_ | refine XQ.zne1 rfl ?_ | refine XQ.add rfl ⟨by omega, by omega⟩ ?_ | refine XQ.sub rfl ⟨by omega, by omega⟩ ?_ | refine XQ.inc rfl rfl rfl ⟨by omega, by omega⟩ ?_)
            refine XQ.gx rfl z z3 ?_
            repeat (first | refine XQ.go rfl rfl ?_ | refine XQ.zeq0 rfl ?_ | refine XQ.zeq1 rfl ?_ | refine XQ.zne0 rfl ?_ | refine XQ.zne1 rfl ?_ | refine XQ.add rfl ⟨by omega, by omega⟩ ?_ | refine XQ.sub rfl ⟨by omega, by omega⟩ ?_ | refine XQ.inc rfl rfl rfl ⟨by omega, by omega⟩ ?_)
            refine XQ.lx rfl (Or.inr z4) f0 (by rw [z5]; exact f1) y1 ?_
            refine XQ.ast rfl (y2.ast hO (hwf f0 f1).1 hF.2.2.2.2.2.1.1) hw2.1 (by rw [hF.2.2.2.2.2.1.2]; omega) ?_
            repeat (first | refine XQ.go rfl rfl ?_ | refine XQ.zeq0 rfl ?_ | refine XQ.zeq1 rfl ?_ | refine XQ.zne0 rfl ?_ | refine XQ.zne1 rfl ?_ | refine XQ.add rfl ⟨by omega, by omega⟩ ?_ | refine XQ.sub rfl ⟨by omega, by omega⟩ ?_ | refine XQ.inc rfl rfl rfl ⟨by omega, by omega⟩ ?_)
            exact XQ.ret rfl rfl ⟨rfl, hC0.hold hw hw2.1 hw2.2 y2, hw.hold (hwf f0 f1).1, CFr.rf.set (Or.inl ⟨by omega, by omega⟩) _ _⟩
          · rw [bad (by omega)]
            repeat (first | refine XQ.go rfl rfl ?_ | refine XQ.zeq0 rfl ?_ | refine XQ.zeq1 rfl ?_ | refine XQ.zne0 rfl ?_ | refine XQ.zne1 rfl ?_ | refine XQ.add rfl ⟨by omega, by omega⟩ ?_ | refine XQ.sub rfl ⟨by omega, by omega⟩ ?_ | refine XQ.inc rfl rfl rfl ⟨by omega, by omega⟩ ?_)
            refine XQ.insN rfl (by rw [z]; rfl) (by rw [z]; rfl) ?_
            repeat (first | refine XQ.go rfl rfl ?_ | refine XQ.zeq0 rfl ?_ | refine XQ.zeq1 rfl ?_ | refine XQ.zne0 rfl ?_ | refine XQ.zne1 rfl ?_ | refine XQ.add rfl ⟨by omega, by omega⟩ ?_ | refine XQ.sub rfl ⟨by omega, by omega⟩ ?_ | refine XQ.inc rfl rfl rfl ⟨by omega, by omega⟩ ?_)
            exact XQ.ret rfl rfl ⟨rfl, hC0, hw, CFr.rf⟩
        · have hm1 := hww z2
          repeat (first | refine XQ.go rfl rfl ?_ | refine XQ.zeq0 rfl ?_ | refine XQ.zeq1 rfl ?_ | refine XQ.zne0 rfl ?_ | refine XQ.zne1 rfl ?_ | refine XQ.add rfl ⟨by omega, by omega⟩ ?_ | refine XQ.sub rfl ⟨by omega, by omega⟩ ?_ | refine XQ.inc rfl rfl rfl ⟨by omega, by omega⟩ ?_)
          refine XQ.insN rfl (by rw [z]; rfl) (by rw [z]; rfl) ?_
          repeat (first | refine XQ.go rfl rfl ?_ | refine XQ.zeq0 rfl ?_ | refine XQ.zeq1 rfl ?_ | refine XQ.zne0 rfl ?_ | refine XQ.zne1 rfl ?_ | refine XQ.add rfl ⟨by omega, by omega⟩ ?_ | refine XQ.sub rfl ⟨by omega, by omega⟩ ?_ | refine XQ.inc rfl rfl rfl ⟨by omega, by omega⟩ ?_)
          refine XQ.insY rfl (by rw [z]; rfl) ?_
          repeat (first | refine XQ.go rfl rfl ?_ | refine XQ.zeq0 rfl ?_ | refine XQ.zeq1 rfl ?_ | refine XQ.zne0 rfl ?_ | refine XQ.zne1 rfl ?_ | refine XQ.add rfl ⟨by omega, by omega⟩ ?_ | refine XQ.sub rfl ⟨by omega, by omega⟩ ?_ | refine XQ.inc rfl rfl rfl ⟨by omega, by omega⟩ ?_)
          refine XQ.cst rfl (by rw [z]; rfl) ?_
          repeat (first | refine XQ.go rfl rfl ?_ | refine XQ.zeq0 rfl ?_ | refine XQ.zeq1 rfl ?_ | refine XQ.zne0 rfl ?_ | refine XQ.zne1 rfl ?_ | refine XQ.add rfl ⟨by omega, by omega⟩ ?_ | refine XQ.sub rfl ⟨by omega, by omega⟩ ?_ | refine XQ.inc rfl rfl rfl ⟨by omega, by omega⟩ ?_)
          refine XQ.zne rfl (fun q => ?_) (fun q => ?_)
          · rw [bad (by omega)]
            repeat (first | refine XQ.go rfl rfl ?_ | refine XQ.zeq0 rfl ?_ | refine XQ.zeq1 rfl ?_ | refine XQ.zne0 rfl ?_ | refine XQ.zne1 rfl ?_ | refine XQ.add rfl ⟨by omega, by omega⟩ ?_ | refine XQ.sub rfl ⟨by omega, by omega⟩ ?_ | refine XQ.inc rfl rfl rfl ⟨by omega, by omega⟩ ?_)
            exact XQ.ret rfl rfl ⟨rfl, hC0, hw, CFr.rf⟩
          · subst q
            have gd := good (Int.le_refl 0) (by omega) (by omega)
            rw [Int.add_zero] at gd
            have hf := (hwf (Int.le_refl 0) (by omega)).1
            rw [Int.add_zero] at hf
            rw [gd]
            repeat (first | refine XQ.go rfl rfl ?_ | refine XQ.zeq0 rfl ?_ | refine XQ.zeq1 rfl ?_ | refine XQ.zne0 rfl ?_ | refine XQ.zne1 rfl ?_ | refine XQ.add rfl ⟨by omega, by omega⟩ ?_ | refine XQ.sub rfl ⟨by omega, by omega⟩ ?_ | refine XQ.inc rfl rfl rfl ⟨by omega, by omega⟩ ?_)
            refine XQ.gx rfl hF.1 hF.2.1 ?_
            repeat (first | refine XQ.go rfl rfl ?_ | refine XQ.zeq0 rfl ?_ | refine XQ.zeq1 rfl ?_ | refine XQ.zne0 rfl ?_ | refine XQ.zne1 rfl ?_ | refine XQ.add rfl ⟨by omega, by omega⟩ ?_ | refine XQ.sub rfl ⟨by omega, by omega⟩ ?_ | refine XQ.inc rfl rfl rfl ⟨by omega, by omega⟩ ?_)
            refine XQ.gx rfl z z3 ?_
            refine XQ.ast rfl (z4.ast hO hf hF.2.2.2.2.2.1.1) hw2.1 (by rw [hF.2.2.2.2.2.1.2]; omega) ?_
            repeat (first | refine XQ.go rfl rfl ?_ | refine XQ.zeq0 rfl ?_ | refine XQ.zeq1 rfl ?_ | refine XQ.zne0 rfl ?_ | refine XQ.zne1 rfl ?_ | refine XQ.add rfl ⟨by omega, by omega⟩ ?_ | refine XQ.sub rfl ⟨by omega, by omega⟩ ?_ | refine XQ.inc rfl rfl rfl ⟨by omega, by omega⟩ ?_)
            exact XQ.ret rfl rfl ⟨rfl, hC0.hold hw hw2.1 hw2.2 z4, hw.hold hf, CFr.rf.set (Or.inl ⟨by omega, by omega⟩) _ _⟩
        · rw [bad (by omega)]
          repeat (first | refine XQ.go rfl rfl ?_ | refine XQ.zeq0 rfl ?_ | refine XQ.zeq1 rfl ?_ | refine XQ.zne0 rfl ?_ | refine XQ.zne1 rfl ?_ | refine XQ.add rfl ⟨by omega, by omega⟩ ?_ | refine XQ.sub rfl ⟨by omega, by omega⟩ ?_ | refine XQ.inc rfl rfl rfl ⟨by omega, by omega⟩ ?_)
          refine XQ.insN rfl (by rw [z]; rfl) (by rw [z]; rfl) ?_
          repeat (first | refine XQ.go rfl rfl ?_ | refine XQ.zeq0 rfl ?_ | refine XQ.zeq1 rfl ?_ | refine XQ.zne0 rfl ?_ | refine XQ.zne1 rfl ?_ | refine XQ.add rfl ⟨by omega, by omega⟩ ?_ | refine XQ.sub rfl ⟨by omega, by omega⟩ ?_ | refine XQ.inc rfl rfl rfl ⟨by omega, by omega⟩ ?_)
          refine XQ.insN rfl (by rw [z]; rfl) (by rw [z]; rfl) ?_
          repeat (first | refine XQ.go rfl rfl ?_ | refine XQ.zeq0 rfl ?_ | refine XQ.zeq1 rfl ?_ | refine XQ.zne0 rfl ?_ | refine XQ.zne1 rfl ?_ | refine XQ.add rfl ⟨by omega, by omega⟩ ?_ | refine XQ.sub rfl ⟨by omega, by omega⟩ ?_ | refine XQ.inc rfl rfl rfl ⟨by omega, by omega⟩ ?_)
          exact XQ.ret rfl rfl ⟨rfl, hC0, hw, CFr.rf⟩
    · rw [bad (by have := aObj_n (M := M) (v := v) (fun z => by omega); omega)]
      repeat (first | refine XQ.go rfl rfl ?_ | refine XQ.zeq0 rfl ?_ | refine XQ.zeq1 rfl ?_ | refine XQ.zne0 rfl ?_ | refine XQ.zne1 rfl ?_ | refine XQ.add rfl ⟨by omega, by omega⟩ ?_ | refine XQ.sub rfl ⟨by omega, by omega⟩ ?_ | refine XQ.inc rfl rfl rfl ⟨by omega, by omega⟩ ?_)
      exact XQ.ret rfl rfl ⟨rfl, hC0, hw, CFr.rf⟩
  · rw [bad (by omega)]
    repeat (first | refine XQ.go rfl rfl ?_ | refine XQ.zeq0 rfl ?_ | refine XQ.zeq1 rfl ?_ | refine XQ.zne0 rfl ?_ | refine XQ.zne1 rfl ?_ | refine XQ.add rfl ⟨by omega, by omega⟩ ?_ | refine XQ.sub rfl ⟨by omega, by omega⟩ ?_ | refine XQ.inc rfl rfl rfl ⟨by omega, by omega⟩ ?_)
    exact XQ.ret rfl rfl ⟨rfl, hC0, hw, CFr.rf⟩
end C3
