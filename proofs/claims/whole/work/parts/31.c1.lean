/-! the class's methods, walked: those that only read -/
section CR
variable {d k pc x a : Nat} {L : ML} {st : List MV} {S : MS} {Q : Option MV → MS → Prop}
theorem XQ.gx {kk : Int} {nx t : Nat} {v : MV} (h : mcd k pc = some (.inl (i_get [t] kk nx))) (ht : tS S a = t) (hv : vS S a kk = v) (hk : XQ d k nx L (v :: st) S Q) : XQ d k pc L (.inr (some a) :: st) S Q :=
  XQ.get h (by rw [ht]; simp) hv hk
theorem XQ.gt {kk : Int} {nx : Nat} {v : MV} (h : mcd k pc = some (.inl (i_get [3, 4, 5] kk nx))) (ht : TG S a) (hv : vS S a kk = v) (hk : XQ d k nx L (v :: st) S Q) : XQ d k pc L (.inr (some a) :: st) S Q :=
  XQ.get h ht.c hv hk
theorem XQ.lx {i : Int} {nx : Nat} {v : MV} (h : mcd k pc = some (.inl (i_ld [22, 23] nx))) (ht : tS S a = 22 ∨ tS S a = 23) (h0 : 0 ≤ i) (hl : i < lS S a) (hv : vS S a i = v) (hk : XQ d k nx L (v :: st) S Q) : XQ d k pc L (.inl i :: .inr (some a) :: st) S Q :=
  XQ.ld h (by rcases ht with h | h <;> rw [h] <;> rfl) h0 hl hv hk
end CR
/-- the thing that variable v holds -/
def hT (M : MM) (A : Int → Nat) (v : Int) : Option Nat := if 0 ≤ v ∧ v ≤ 5 ∧ M 0 v = 9 then some (A (M 1 v)) else none
section C1
variable {d x : Nat} {S : MS} {A : Int → Nat} {M : MM}
theorem live_tg (hO : cO x S A M) {h : Int} (hl : live M h) : TG S (A h) := by
  obtain ⟨o, g0, g1, g2⟩ := hl
  rw [← g2]
  exact (hO o g0 g1).tg
/-- what kind of reference a value is -/
theorem VR.cases {r : Option Nat} {is has : Int} (hO : cO x S A M) (h : VR x S A r is has) (hv : OKV M is has) : (is = 0 ∧ r = none) ∨ (is = 1 ∧ ∃ a, r = some a ∧ tS S a = 2 ∧ vS S a 0 = .inl has) ∨ (is = 9 ∧ r = some (A has) ∧ live M has ∧ TG S (A has)) := by
  rcases h with h | ⟨h, a, h2, -, h3, h4⟩ | ⟨h, h2⟩
  · exact Or.inl h
  · exact Or.inr (Or.inl ⟨h, a, h2, h3, h4⟩)
  · rcases hv with h3 | h3 | h3
    · omega
    · omega
    · exact Or.inr (Or.inr ⟨h, h2, h3.2, live_tg hO h3.2⟩)
theorem C_isVariable {v : Int} : XQ d k_H_isVariable 0 (mentry (mL k_H_isVariable) [.inl v]) [] S (fun r S' => S' = S ∧ isV v r) := by
  refine XQ.go rfl rfl ?_
  refine XQ.zlt rfl (fun h => ?_) (fun h => ?_)
  · repeat (first | refine XQ.go rfl rfl ?_ | refine XQ.zeq0 rfl ?_ | refine XQ.zeq1 rfl ?_ | refine XQ.zne0 rfl ?_ | refine XQ.zne1 rfl ?_ | refine XQ.add rfl ⟨by omega, by omega⟩ ?_ | refine XQ.sub rfl ⟨by omega, by omega⟩ ?_ | refine XQ.inc rfl rfl rfl ⟨by omega, by omega⟩ ?_)
    exact XQ.ret rfl rfl ⟨rfl, Or.inr ⟨rfl, by omega⟩⟩
  · repeat (first | refine XQ.go rfl rfl ?_ | refine XQ.zeq0 rfl ?_ | refine XQ.zeq1 rfl ?_ | refine XQ.zne0 rfl ?_ | refine XQ.zne1 rfl ?_ | refine XQ.add rfl ⟨by omega, by omega⟩ ?_ | refine XQ.sub rfl ⟨by omega, by omega⟩ ?_ | refine XQ.inc rfl rfl rfl ⟨by omega, by omega⟩ ?_)
    refine XQ.cge rfl (fun h2 => ?_) (fun h2 => ?_)
    · repeat (first | refine XQ.go rfl rfl ?_ | refine XQ.zeq0 rfl ?_ | refine XQ.zeq1 rfl ?_ | refine XQ.zne0 rfl ?_ | refine XQ.zne1 rfl ?_ | refine XQ.add rfl ⟨by omega, by omega⟩ ?_ | refine XQ.sub rfl ⟨by omega, by omega⟩ ?_ | refine XQ.inc rfl rfl rfl ⟨by omega, by omega⟩ ?_)
      exact XQ.ret rfl rfl ⟨rfl, Or.inr ⟨rfl, by omega⟩⟩
    · repeat (first | refine XQ.go rfl rfl ?_ | refine XQ.zeq0 rfl ?_ | refine XQ.zeq1 rfl ?_ | refine XQ.zne0 rfl ?_ | refine XQ.zne1 rfl ?_ | refine XQ.add rfl ⟨by omega, by omega⟩ ?_ | refine XQ.sub rfl ⟨by omega, by omega⟩ ?_ | refine XQ.inc rfl rfl rfl ⟨by omega, by omega⟩ ?_)
      exact XQ.ret rfl rfl ⟨rfl, Or.inl ⟨rfl, by omega⟩⟩
theorem C_held {v : Int} (hF : cF x S) (hV : cV x S A M) : XQ (d + 1) k_H_held 0 (mentry (mL k_H_held) [.inr (some x), .inl v]) [] S (fun q S' => S' = S ∧ ∃ r, q = some (.inr r) ∧ ((0 ≤ v ∧ v ≤ 5 ∧ vS S (x + 1) v = .inr r ∧ VR x S A r (M 0 v) (M 1 v)) ∨ ((v < 0 ∨ 5 < v) ∧ r = none))) := by
  repeat (first | refine XQ.go rfl rfl ?_ | refine XQ.zeq0 rfl ?_ | refine XQ.zeq1 rfl ?_ | refine XQ.zne0 rfl ?_ | refine XQ.zne1 rfl ?_ | refine XQ.add rfl ⟨by omega, by omega⟩ ?_ | refine XQ.sub rfl ⟨by omega, by omega⟩ ?_ | refine XQ.inc rfl rfl rfl ⟨by omega, by omega⟩ ?_)
  refine XQ.s1 rfl rfl (le8 rfl) (C_isVariable (v := v)) (fun r S' hq => ?_)
  obtain ⟨rfl, ⟨rfl, hv⟩ | ⟨rfl, hv⟩⟩ := hq
  · obtain ⟨r, h1, h2⟩ := hV v hv.1 hv.2
    repeat (first | refine XQ.go rfl rfl ?_ | refine XQ.zeq0 rfl ?_ | refine XQ.zeq1 rfl ?_ | refine XQ.zne0 rfl ?_ | refine XQ.zne1 rfl ?_ | refine XQ.add rfl ⟨by omega, by omega⟩ ?_ | refine XQ.sub rfl ⟨by omega, by omega⟩ ?_ | refine XQ.inc rfl rfl rfl ⟨by omega, by omega⟩ ?_)
    refine XQ.gx rfl hF.1 hF.2.1 ?_
    repeat (first | refine XQ.go rfl rfl ?_ | refine XQ.zeq0 rfl ?_ | refine XQ.zeq1 rfl ?_ | refine XQ.zne0 rfl ?_ | refine XQ.zne1 rfl ?_ | refine XQ.add rfl ⟨by omega, by omega⟩ ?_ | refine XQ.sub rfl ⟨by omega, by omega⟩ ?_ | refine XQ.inc rfl rfl rfl ⟨by omega, by omega⟩ ?_)
    refine XQ.lx rfl (Or.inr hF.2.2.2.2.2.1.1) hv.1 (by rw [hF.2.2.2.2.2.1.2]; omega) h1 ?_
    repeat (first | refine XQ.go rfl rfl ?_ | refine XQ.zeq0 rfl ?_ | refine XQ.zeq1 rfl ?_ | refine XQ.zne0 rfl ?_ | refine XQ.zne1 rfl ?_ | refine XQ.add rfl ⟨by omega, by omega⟩ ?_ | refine XQ.sub rfl ⟨by omega, by omega⟩ ?_ | refine XQ.inc rfl rfl rfl ⟨by omega, by omega⟩ ?_)
    exact XQ.ret rfl rfl ⟨rfl, r, rfl, Or.inl ⟨hv.1, hv.2, h1, h2⟩⟩
  · repeat (first | refine XQ.go rfl rfl ?_ | refine XQ.zeq0 rfl ?_ | refine XQ.zeq1 rfl ?_ | refine XQ.zne0 rfl ?_ | refine XQ.zne1 rfl ?_ | refine XQ.add rfl ⟨by omega, by omega⟩ ?_ | refine XQ.sub rfl ⟨by omega, by omega⟩ ?_ | refine XQ.inc rfl rfl rfl ⟨by omega, by omega⟩ ?_)
    exact XQ.ret rfl rfl ⟨rfl, none, rfl, Or.inr ⟨hv, rfl⟩⟩
theorem C_heldThing {v : Int} (hF : cF x S) (hV : cV x S A M) (hO : cO x S A M) (hw : wV M) : XQ (d + 2) k_H_heldThing 0 (mentry (mL k_H_heldThing) [.inr (some x), .inl v]) [] S (fun q S' => S' = S ∧ q = some (.inr (hT M A v))) := by
  repeat (first | refine XQ.go rfl rfl ?_ | refine XQ.zeq0 rfl ?_ | refine XQ.zeq1 rfl ?_ | refine XQ.zne0 rfl ?_ | refine XQ.zne1 rfl ?_ | refine XQ.add rfl ⟨by omega, by omega⟩ ?_ | refine XQ.sub rfl ⟨by omega, by omega⟩ ?_ | refine XQ.inc rfl rfl rfl ⟨by omega, by omega⟩ ?_)
  refine XQ.v2 rfl hF.1 rfl (le8 rfl) (C_held (v := v) hF hV) (fun q S' hq => ?_)
  obtain ⟨rfl, r, rfl, ⟨h0, h5, h1, h2⟩ | ⟨h0, rfl⟩⟩ := hq
  · rcases h2.cases hO (hw v h0 h5) with ⟨e, rfl⟩ | ⟨e, a, rfl, e2, e3⟩ | ⟨e, rfl, e2, e3⟩
    · have eh : hT M A v = none := by unfold hT; rw [if_neg (fun z => by omega)]
      rw [eh]
      repeat (first | refine XQ.go rfl rfl ?_ | refine XQ.zeq0 rfl ?_ | refine XQ.zeq1 rfl ?_ | refine XQ.zne0 rfl ?_ | refine XQ.zne1 rfl ?_ | refine XQ.add rfl ⟨by omega, by omega⟩ ?_ | refine XQ.sub rfl ⟨by omega, by omega⟩ ?_ | refine XQ.inc rfl rfl rfl ⟨by omega, by omega⟩ ?_)
      exact XQ.ret rfl rfl ⟨rfl, rfl⟩
    · have eh : hT M A v = none := by unfold hT; rw [if_neg (fun z => by omega)]
      rw [eh]
      repeat (first | refine XQ.go rfl rfl ?_ | refine XQ.zeq0 rfl ?_ | refine XQ.zeq1 rfl ?_ | refine XQ.zne0 rfl ?_ | refine XQ.zne1 rfl ?_ | refine XQ.add rfl ⟨by omega, by omega⟩ ?_ | refine XQ.sub rfl ⟨by omega, by omega⟩ ?_ | refine XQ.inc rfl rfl rfl ⟨by omega, by omega⟩ ?_)
      refine XQ.insN rfl (by rw [e2]; rfl) (by rw [e2]; rfl) ?_
      repeat (first | refine XQ.go rfl rfl ?_ | refine XQ.zeq0 rfl ?_ | refine XQ.zeq1 rfl ?_ | refine XQ.zne0 rfl ?_ | refine XQ.zne1 rfl ?_ | refine XQ.add rfl ⟨by omega, by omega⟩ ?_ | refine XQ.sub rfl ⟨by omega, by omega⟩ ?_ | refine XQ.inc rfl rfl rfl ⟨by omega, by omega⟩ ?_)
      exact XQ.ret rfl rfl ⟨rfl, rfl⟩
    · have eh : hT M A v = some (A (M 1 v)) := by unfold hT; rw [if_pos ⟨h0, h5, e⟩]
      rw [eh]
      repeat (first | refine XQ.go rfl rfl ?_ | refine XQ.zeq0 rfl ?_ | refine XQ.zeq1 rfl ?_ | refine XQ.zne0 rfl ?_ | refine XQ.zne1 rfl ?_ | refine XQ.add rfl ⟨by omega, by omega⟩ ?_ | refine XQ.sub rfl ⟨by omega, by omega⟩ ?_ | refine XQ.inc rfl rfl rfl ⟨by omega, by omega⟩ ?_)
      refine XQ.insY rfl e3.c ?_
      repeat (first | refine XQ.go rfl rfl ?_ | refine XQ.zeq0 rfl ?_ | refine XQ.zeq1 rfl ?_ | refine XQ.zne0 rfl ?_ | refine XQ.zne1 rfl ?_ | refine XQ.add rfl ⟨by omega, by omega⟩ ?_ | refine XQ.sub rfl ⟨by omega, by omega⟩ ?_ | refine XQ.inc rfl rfl rfl ⟨by omega, by omega⟩ ?_)
      refine XQ.cst rfl e3.c ?_
      repeat (first | refine XQ.go rfl rfl ?_ | refine XQ.zeq0 rfl ?_ | refine XQ.zeq1 rfl ?_ | refine XQ.zne0 rfl ?_ | refine XQ.zne1 rfl ?_ | refine XQ.add rfl ⟨by omega, by omega⟩ ?_ | refine XQ.sub rfl ⟨by omega, by omega⟩ ?_ | refine XQ.inc rfl rfl rfl ⟨by omega, by omega⟩ ?_)
      exact XQ.ret rfl rfl ⟨rfl, rfl⟩
  · have eh : hT M A v = none := by unfold hT; rw [if_neg (fun z => by omega)]
    rw [eh]
    repeat (first | refine XQ.go rfl rfl ?_ | refine XQ.zeq0 rfl ?_ | refine XQ.zeq1 rfl ?_ | refine XQ.zne0 rfl ?_ | refine XQ.zne1 rfl ?_ | refine XQ.add rfl ⟨by omega, by omega⟩ ?_ | refine XQ.sub rfl ⟨by omega, by omega⟩ ?_ | refine XQ.inc rfl rfl rfl ⟨by omega, by omega⟩ ?_)
    exact XQ.ret rfl rfl ⟨rfl, rfl⟩
/-- the two ways that a variable's thing is -/
theorem hT_cases (hO : cO x S A M) (hw : WF M) (v : Int) : (hT M A v = none ∧ aObj M v = -1) ∨ (hT M A v = some (A (M 1 v)) ∧ 0 ≤ v ∧ v ≤ 5 ∧ M 0 v = 9 ∧ live M (M 1 v) ∧ TG S (A (M 1 v)) ∧ 0 ≤ aObj M v ∧ aObj M v < M 13 0 ∧ M 2 (aObj M v) = M 1 v) := by
  by_cases h : 0 ≤ v ∧ v ≤ 5 ∧ M 0 v = 9
  · have hl : live M (M 1 v) := by
      rcases hw.2.2.1 v h.1 h.2.1 with z | z | z
      · omega
      · omega
      · exact z.2
    obtain ⟨g0, g1, g2⟩ := aObj_9 hw.2.1 h.1 h.2.1 h.2.2 hl
    exact Or.inr ⟨by unfold hT; rw [if_pos h], h.1, h.2.1, h.2.2, hl, live_tg hO hl, g0, g1, g2⟩
  · exact Or.inl ⟨by unfold hT; rw [if_neg h], aObj_n h⟩
theorem C_hash {v : Int} (hC : CL x S A M) (hw : WF M) : XQ (d + 3) k_H_hash 0 (mentry (mL k_H_hash) [.inr (some x), .inl v]) [] S (fun q S' => S' = S ∧ q = some (.inl (aHash M v))) := by
  obtain ⟨hF, hN, hRs, hV, hO, hPl, hTg, hMk⟩ := hC
  repeat (first | refine XQ.go rfl rfl ?_ | refine XQ.zeq0 rfl ?_ | refine XQ.zeq1 rfl ?_ | refine XQ.zne0 rfl ?_ | refine XQ.zne1 rfl ?_ | refine XQ.add rfl ⟨by omega, by omega⟩ ?_ | refine XQ.sub rfl ⟨by omega, by omega⟩ ?_ | refine XQ.inc rfl rfl rfl ⟨by omega, by omega⟩ ?_)
  refine XQ.v2 rfl hF.1 rfl (le8 rfl) (C_heldThing (v := v) hF hV hO hw.2.2.1) (fun q S' hq => ?_)
  obtain ⟨rfl, rfl⟩ := hq
  rcases hT_cases hO hw v with ⟨e, e2⟩ | ⟨e, h0, h5, h9, hl, ht, g0, g1, g2⟩
  · have eh : aHash M v = 0 := by unfold aHash; rw [if_neg (by omega)]
    rw [e, eh]
    repeat (first | refine XQ.go rfl rfl ?_ | refine XQ.zeq0 rfl ?_ | refine XQ.zeq1 rfl ?_ | refine XQ.zne0 rfl ?_ | refine XQ.zne1 rfl ?_ | refine XQ.add rfl ⟨by omega, by omega⟩ ?_ | refine XQ.sub rfl ⟨by omega, by omega⟩ ?_ | refine XQ.inc rfl rfl rfl ⟨by omega, by omega⟩ ?_)
    exact XQ.ret rfl rfl ⟨rfl, rfl⟩
  · have eh : aHash M v = M 1 v := by unfold aHash; rw [if_pos g0]
    have h1 := (hO _ g0 g1).2.1
    rw [g2] at h1
    rw [e, eh]
    repeat (first | refine XQ.go rfl rfl ?_ | refine XQ.zeq0 rfl ?_ | refine XQ.zeq1 rfl ?_ | refine XQ.zne0 rfl ?_ | refine XQ.zne1 rfl ?_ | refine XQ.add rfl ⟨by omega, by omega⟩ ?_ | refine XQ.sub rfl ⟨by omega, by omega⟩ ?_ | refine XQ.inc rfl rfl rfl ⟨by omega, by omega⟩ ?_)
    refine XQ.gt rfl ht h1 ?_
    exact XQ.ret rfl rfl ⟨rfl, rfl⟩
theorem C_place {v : Int} (hC : CL x S A M) (hw : WF M) : XQ (d + 3) k_H_place 0 (mentry (mL k_H_place) [.inr (some x), .inl v]) [] S (fun q S' => S' = S ∧ q = some (.inl (aPlace M v))) := by
  obtain ⟨hF, hN, hRs, hV, hO, hPl, hTg, hMk⟩ := hC
  repeat (first | refine XQ.go rfl rfl ?_ | refine XQ.zeq0 rfl ?_ | refine XQ.zeq1 rfl ?_ | refine XQ.zne0 rfl ?_ | refine XQ.zne1 rfl ?_ | refine XQ.add rfl ⟨by omega, by omega⟩ ?_ | refine XQ.sub rfl ⟨by omega, by omega⟩ ?_ | refine XQ.inc rfl rfl rfl ⟨by omega, by omega⟩ ?_)
  refine XQ.v2 rfl hF.1 rfl (le8 rfl) (C_heldThing (v := v) hF hV hO hw.2.2.1) (fun q S' hq => ?_)
  obtain ⟨rfl, rfl⟩ := hq
  rcases hT_cases hO hw v with ⟨e, e2⟩ | ⟨e, h0, h5, h9, hl, ht, g0, g1, g2⟩
  · have eh : aPlace M v = -1 := by unfold aPlace; rw [if_pos (by omega)]
    rw [e, eh]
    repeat (first | refine XQ.go rfl rfl ?_ | refine XQ.zeq0 rfl ?_ | refine XQ.zeq1 rfl ?_ | refine XQ.zne0 rfl ?_ | refine XQ.zne1 rfl ?_ | refine XQ.add rfl ⟨by omega, by omega⟩ ?_ | refine XQ.sub rfl ⟨by omega, by omega⟩ ?_ | refine XQ.inc rfl rfl rfl ⟨by omega, by omega⟩ ?_)
    exact XQ.ret rfl rfl ⟨rfl, rfl⟩
  · have eh : aPlace M v = aCb M (aObj M v).toNat := by unfold aPlace; rw [if_neg (by omega)]
    have h1 := hPl.2 _ g0 g1
    rw [g2] at h1
    rw [e, eh]
    repeat (first | refine XQ.go rfl rfl ?_ | refine XQ.zeq0 rfl ?_ | refine XQ.zeq1 rfl ?_ | refine XQ.zne0 rfl ?_ | refine XQ.zne1 rfl ?_ | refine XQ.add rfl ⟨by omega, by omega⟩ ?_ | refine XQ.sub rfl ⟨by omega, by omega⟩ ?_ | refine XQ.inc rfl rfl rfl ⟨by omega, by omega⟩ ?_)
    refine XQ.gt rfl ht h1 ?_
    exact XQ.ret rfl rfl ⟨rfl, rfl⟩
theorem C_value {v : Int} (hC : CL x S A M) (hw : WF M) : XQ (d + 2) k_H_value 0 (mentry (mL k_H_value) [.inr (some x), .inl v]) [] S (fun q S' => S' = S ∧ q = some (.inl (aValue M v))) := by
  obtain ⟨hF, hN, hRs, hV, hO, hPl, hTg, hMk⟩ := hC
  repeat (first | refine XQ.go rfl rfl ?_ | refine XQ.zeq0 rfl ?_ | refine XQ.zeq1 rfl ?_ | refine XQ.zne0 rfl ?_ | refine XQ.zne1 rfl ?_ | refine XQ.add rfl ⟨by omega, by omega⟩ ?_ | refine XQ.sub rfl ⟨by omega, by omega⟩ ?_ | refine XQ.inc rfl rfl rfl ⟨by omega, by omega⟩ ?_)
  refine XQ.v2 rfl hF.1 rfl (le8 rfl) (C_held (v := v) hF hV) (fun q S' hq => ?_)
  obtain ⟨rfl, r, rfl, ⟨h0, h5, h1, h2⟩ | ⟨h0, rfl⟩⟩ := hq
  · rcases h2.cases hO (hw.2.2.1 v h0 h5) with ⟨e, rfl⟩ | ⟨e, a, rfl, e2, e3⟩ | ⟨e, rfl, e2, e3⟩
    · have eh : aValue M v = 0 := by unfold aValue; rw [if_neg (fun z => by omega)]
      rw [eh]
      repeat (first | refine XQ.go rfl rfl ?_ | refine XQ.zeq0 rfl ?_ | refine XQ.zeq1 rfl ?_ | refine XQ.zne0 rfl ?_ | refine XQ.zne1 rfl ?_ | refine XQ.add rfl ⟨by omega, by omega⟩ ?_ | refine XQ.sub rfl ⟨by omega, by omega⟩ ?_ | refine XQ.inc rfl rfl rfl ⟨by omega, by omega⟩ ?_)
      exact XQ.ret rfl rfl ⟨rfl, rfl⟩
    · have eh : aValue M v = M 1 v := by unfold aValue; rw [if_pos ⟨h0, h5, e⟩]
      rw [eh]
      repeat (first | refine XQ.go rfl rfl ?_ | refine XQ.zeq0 rfl ?_ | refine XQ.zeq1 rfl ?_ | refine XQ.zne0 rfl ?_ | refine XQ.zne1 rfl ?_ | refine XQ.add rfl ⟨by omega, by omega⟩ ?_ | refine XQ.sub rfl ⟨by omega, by omega⟩ ?_ | refine XQ.inc rfl rfl rfl ⟨by omega, by omega⟩ ?_)
      refine XQ.insY rfl (by rw [e2]; rfl) ?_
      repeat (first | refine XQ.go rfl rfl ?_ | refine XQ.zeq0 rfl ?_ | refine XQ.zeq1 rfl ?_ | refine XQ.zne0 rfl ?_ | refine XQ.zne1 rfl ?_ | refine XQ.add rfl ⟨by omega, by omega⟩ ?_ | refine XQ.sub rfl ⟨by omega, by omega⟩ ?_ | refine XQ.inc rfl rfl rfl ⟨by omega, by omega⟩ ?_)
      refine XQ.cst rfl (by rw [e2]; rfl) ?_
      repeat (first | refine XQ.go rfl rfl ?_ | refine XQ.zeq0 rfl ?_ | refine XQ.zeq1 rfl ?_ | refine XQ.zne0 rfl ?_ | refine XQ.zne1 rfl ?_ | refine XQ.add rfl ⟨by omega, by omega⟩ ?_ | refine XQ.sub rfl ⟨by omega, by omega⟩ ?_ | refine XQ.inc rfl rfl rfl ⟨by omega, by omega⟩ ?_)
      refine XQ.gx rfl e2 e3 ?_
      repeat (first | refine XQ.go rfl rfl ?_ | refine XQ.zeq0 rfl ?_ | refine XQ.zeq1 rfl ?_ | refine XQ.zne0 rfl ?_ | refine XQ.zne1 rfl ?_ | refine XQ.add rfl ⟨by omega, by omega⟩ ?_ | refine XQ.sub rfl ⟨by omega, by omega⟩ ?_ | refine XQ.inc rfl rfl rfl ⟨by omega, by omega⟩ ?_)
      exact XQ.ret rfl rfl ⟨rfl, rfl⟩
    · have eh : aValue M v = 0 := by unfold aValue; rw [if_neg (fun z => by omega)]
      rw [eh]
      repeat (first | refine XQ.go rfl rfl ?_ | refine XQ.zeq0 rfl ?_ | refine XQ.zeq1 rfl ?_ | refine XQ.zne0 rfl ?_ | refine XQ.zne1 rfl ?_ | refine XQ.add rfl ⟨by omega, by omega⟩ ?_ | refine XQ.sub rfl ⟨by omega, by omega⟩ ?_ | refine XQ.inc rfl rfl rfl ⟨by omega, by omega⟩ ?_)
      refine XQ.insN rfl (by rcases e3 with z | z | z <;> rw [z] <;> rfl) (by rcases e3 with z | z | z <;> rw [z] <;> rfl) ?_
      repeat (first | refine XQ.go rfl rfl ?_ | refine XQ.zeq0 rfl ?_ | refine XQ.zeq1 rfl ?_ | refine XQ.zne0 rfl ?_ | refine XQ.zne1 rfl ?_ | refine XQ.add rfl ⟨by omega, by omega⟩ ?_ | refine XQ.sub rfl ⟨by omega, by omega⟩ ?_ | refine XQ.inc rfl rfl rfl ⟨by omega, by omega⟩ ?_)
      exact XQ.ret rfl rfl ⟨rfl, rfl⟩
  · have eh : aValue M v = 0 := by unfold aValue; rw [if_neg (fun z => by omega)]
    rw [eh]
    repeat (first | refine XQ.go rfl rfl ?_ | refine XQ.zeq0 rfl ?_ | refine XQ.zeq1 rfl ?_ | refine XQ.zne0 rfl ?_ | refine XQ.zne1 rfl ?_ | refine XQ.add rfl ⟨by omega, by omega⟩ ?_ | refine XQ.sub rfl ⟨by omega, by omega⟩ ?_ | refine XQ.inc rfl rfl rfl ⟨by omega, by omega⟩ ?_)
    exact XQ.ret rfl rfl ⟨rfl, rfl⟩
theorem C_kind {v : Int} (hC : CL x S A M) (hw : WF M) : XQ (d + 2) k_H_kind 0 (mentry (mL k_H_kind) [.inr (some x), .inl v]) [] S (fun q S' => S' = S ∧ q = some (.inl (aKind M v))) := by
  obtain ⟨hF, hN, hRs, hV, hO, hPl, hTg, hMk⟩ := hC
  repeat (first | refine XQ.go rfl rfl ?_ | refine XQ.zeq0 rfl ?_ | refine XQ.zeq1 rfl ?_ | refine XQ.zne0 rfl ?_ | refine XQ.zne1 rfl ?_ | refine XQ.add rfl ⟨by omega, by omega⟩ ?_ | refine XQ.sub rfl ⟨by omega, by omega⟩ ?_ | refine XQ.inc rfl rfl rfl ⟨by omega, by omega⟩ ?_)
  refine XQ.s1 rfl rfl (le8 rfl) (C_isVariable (v := v)) (fun r S' hq => ?_)
  obtain ⟨rfl, ⟨rfl, hv⟩ | ⟨rfl, hv⟩⟩ := hq
  · repeat (first | refine XQ.go rfl rfl ?_ | refine XQ.zeq0 rfl ?_ | refine XQ.zeq1 rfl ?_ | refine XQ.zne0 rfl ?_ | refine XQ.zne1 rfl ?_ | refine XQ.add rfl ⟨by omega, by omega⟩ ?_ | refine XQ.sub rfl ⟨by omega, by omega⟩ ?_ | refine XQ.inc rfl rfl rfl ⟨by omega, by omega⟩ ?_)
    refine XQ.v2 rfl hF.1 rfl (le8 rfl) (C_held (v := v) hF hV) (fun q S' hq => ?_)
    obtain ⟨rfl, r, rfl, ⟨h0, h5, h1, h2⟩ | ⟨h0, rfl⟩⟩ := hq
    · rcases h2.cases hO (hw.2.2.1 v h0 h5) with ⟨e, rfl⟩ | ⟨e, a, rfl, e2, e3⟩ | ⟨e, rfl, e2, e3⟩
      · have eh : aKind M v = 0 := by unfold aKind; rw [if_neg (by omega), aObj_n (fun z => by omega), if_neg (by decide)]; exact e
        rw [eh]
        repeat (first | refine XQ.go rfl rfl ?_ | refine XQ.zeq0 rfl ?_ | refine XQ.zeq1 rfl ?_ | refine XQ.zne0 rfl ?_ | refine XQ.zne1 rfl ?_ | refine XQ.add rfl ⟨by omega, by omega⟩ ?_ | refine XQ.sub rfl ⟨by omega, by omega⟩ ?_ | refine XQ.inc rfl rfl rfl ⟨by omega, by omega⟩ ?_)
        exact XQ.ret rfl rfl ⟨rfl, rfl⟩
      · have eh : aKind M v = 1 := by unfold aKind; rw [if_neg (by omega), aObj_n (fun z => by omega), if_neg (by decide)]; exact e
        rw [eh]
        repeat (first | refine XQ.go rfl rfl ?_ | refine XQ.zeq0 rfl ?_ | refine XQ.zeq1 rfl ?_ | refine XQ.zne0 rfl ?_ | refine XQ.zne1 rfl ?_ | refine XQ.add rfl ⟨by omega, by omega⟩ ?_ | refine XQ.sub rfl ⟨by omega, by omega⟩ ?_ | refine XQ.inc rfl rfl rfl ⟨by omega, by omega⟩ ?_)
        refine XQ.v1 rfl e2 rfl (le8 rfl) (Q' := fun q S'' => S'' = S' ∧ q = some (.inl 1)) ?_ (fun q S'' hq => ?_)
        · repeat (first | refine XQ.go rfl rfl ?_ | refine XQ.zeq0 rfl ?_ | refine XQ.zeq1 rfl ?_ | refine XQ.zne0 rfl ?_ | refine XQ.zne1 rfl ?_ | refine XQ.add rfl ⟨by omega, by omega⟩ ?_ | refine XQ.sub rfl ⟨by omega, by omega⟩ ?_ | refine XQ.inc rfl rfl rfl ⟨by omega, by omega⟩ ?_)
          exact XQ.ret rfl rfl ⟨rfl, rfl⟩
        · obtain ⟨rfl, rfl⟩ := hq
          exact XQ.ret rfl rfl ⟨rfl, rfl⟩
      · obtain ⟨g0, g1, g2⟩ := aObj_9 hw.2.1 h0 h5 e e2
        have eh : aKind M v = M 3 (aObj M v) := by unfold aKind; rw [if_neg (by omega), if_pos g0]
        have hob := hO _ g0 g1
        unfold cObj at hob
        rw [g2] at hob
        rw [eh]
        repeat (first | refine XQ.go rfl rfl ?_ | refine XQ.zeq0 rfl ?_ | refine XQ.zeq1 rfl ?_ | refine XQ.zne0 rfl ?_ | refine XQ.zne1 rfl ?_ | refine XQ.add rfl ⟨by omega, by omega⟩ ?_ | refine XQ.sub rfl ⟨by omega, by omega⟩ ?_ | refine XQ.inc rfl rfl rfl ⟨by omega, by omega⟩ ?_)
        rcases hob.2.2.2 with ⟨z, z2, -⟩ | ⟨z, z2, -⟩ | ⟨z, z2, -⟩
        · rw [z2]
          refine XQ.v1 rfl z rfl (le8 rfl) (Q' := fun q S'' => S'' = S' ∧ q = some (.inl 2)) ?_ (fun q S'' hq => ?_)
          · repeat (first | refine XQ.go rfl rfl ?_ | refine XQ.zeq0 rfl ?_ | refine XQ.zeq1 rfl ?_ | refine XQ.zne0 rfl ?_ | refine XQ.zne1 rfl ?_ | refine XQ.add rfl ⟨by omega, by omega⟩ ?_ | refine XQ.sub rfl ⟨by omega, by omega⟩ ?_ | refine XQ.inc rfl rfl rfl ⟨by omega, by omega⟩ ?_)
            exact XQ.ret rfl rfl ⟨rfl, rfl⟩
          · obtain ⟨rfl, rfl⟩ := hq
            exact XQ.ret rfl rfl ⟨rfl, rfl⟩
        · rw [z2]
          refine XQ.v1 rfl z rfl (le8 rfl) (Q' := fun q S'' => S'' = S' ∧ q = some (.inl 3)) ?_ (fun q S'' hq => ?_)
          · repeat (first | refine XQ.go rfl rfl ?_ | refine XQ.zeq0 rfl ?_ | refine XQ.zeq1 rfl ?_ | refine XQ.zne0 rfl ?_ | refine XQ.zne1 rfl ?_ | refine XQ.add rfl ⟨by omega, by omega⟩ ?_ | refine XQ.sub rfl ⟨by omega, by omega⟩ ?_ | refine XQ.inc rfl rfl rfl ⟨by omega, by omega⟩ ?_)
            exact XQ.ret rfl rfl ⟨rfl, rfl⟩
          · obtain ⟨rfl, rfl⟩ := hq
            exact XQ.ret rfl rfl ⟨rfl, rfl⟩
        · rw [z2]
          refine XQ.v1 rfl z rfl (le8 rfl) (Q' := fun q S'' => S'' = S' ∧ q = some (.inl 4)) ?_ (fun q S'' hq => ?_)
          · repeat (first | refine XQ.go rfl rfl ?_ | refine XQ.zeq0 rfl ?_ | refine XQ.zeq1 rfl ?_ | refine XQ.zne0 rfl ?_ | refine XQ.zne1 rfl ?_ | refine XQ.add rfl ⟨by omega, by omega⟩ ?_ | refine XQ.sub rfl ⟨by omega, by omega⟩ ?_ | refine XQ.inc rfl rfl rfl ⟨by omega, by omega⟩ ?_)
            exact XQ.ret rfl rfl ⟨rfl, rfl⟩
          · obtain ⟨rfl, rfl⟩ := hq
            exact XQ.ret rfl rfl ⟨rfl, rfl⟩
    · omega
  · have eh : aKind M v = -1 := by unfold aKind; rw [if_pos (by omega)]
    rw [eh]
    repeat (first | refine XQ.go rfl rfl ?_ | refine XQ.zeq0 rfl ?_ | refine XQ.zeq1 rfl ?_ | refine XQ.zne0 rfl ?_ | refine XQ.zne1 rfl ?_ | refine XQ.add rfl ⟨by omega, by omega⟩ ?_ | refine XQ.sub rfl ⟨by omega, by omega⟩ ?_ | refine XQ.inc rfl rfl rfl ⟨by omega, by omega⟩ ?_)
    exact XQ.ret rfl rfl ⟨rfl, rfl⟩
theorem C_size {v : Int} (hC : CL x S A M) (hw : WF M) : XQ (d + 3) k_H_size 0 (mentry (mL k_H_size) [.inr (some x), .inl v]) [] S (fun q S' => S' = S ∧ q = some (.inl (aSize M v))) := by
  obtain ⟨hF, hN, hRs, hV, hO, hPl, hTg, hMk⟩ := hC
  repeat (first | refine XQ.go rfl rfl ?_ | refine XQ.zeq0 rfl ?_ | refine XQ.zeq1 rfl ?_ | refine XQ.zne0 rfl ?_ | refine XQ.zne1 rfl ?_ | refine XQ.add rfl ⟨by omega, by omega⟩ ?_ | refine XQ.sub rfl ⟨by omega, by omega⟩ ?_ | refine XQ.inc rfl rfl rfl ⟨by omega, by omega⟩ ?_)
  refine XQ.v2 rfl hF.1 rfl (le8 rfl) (C_heldThing (v := v) hF hV hO hw.2.2.1) (fun q S' hq => ?_)
  obtain ⟨rfl, rfl⟩ := hq
  rcases hT_cases hO hw v with ⟨e, e2⟩ | ⟨e, h0, h5, h9, hl, ht, g0, g1, g2⟩
  · have eh : aSize M v = -1 := by unfold aSize; rw [if_pos (by omega)]
    rw [e, eh]
    repeat (first | refine XQ.go rfl rfl ?_ | refine XQ.zeq0 rfl ?_ | refine XQ.zeq1 rfl ?_ | refine XQ.zne0 rfl ?_ | refine XQ.zne1 rfl ?_ | refine XQ.add rfl ⟨by omega, by omega⟩ ?_ | refine XQ.sub rfl ⟨by omega, by omega⟩ ?_ | refine XQ.inc rfl rfl rfl ⟨by omega, by omega⟩ ?_)
    exact XQ.ret rfl rfl ⟨rfl, rfl⟩
  · have eh : aSize M v = if M 3 (aObj M v) = 3 then (if M 5 (4 * aObj M v) = 9 then 1 else 0) else M 4 (aObj M v) := by unfold aSize; rw [if_neg (by omega)]
    have hob := hO _ g0 g1
    unfold cObj at hob
    rw [g2] at hob
    have hwf := hw.2.2.2.1 (aObj M v) 0 g0 g1 (Int.le_refl 0)
    rw [Int.add_zero] at hwf
    have hww := hw.2.2.2.2.1 (aObj M v) g0 g1
    generalize aObj M v = o at *
    rw [e, eh]
    repeat (first | refine XQ.go rfl rfl ?_ | refine XQ.zeq0 rfl ?_ | refine XQ.zeq1 rfl ?_ | refine XQ.zne0 rfl ?_ | refine XQ.zne1 rfl ?_ | refine XQ.add rfl ⟨by omega, by omega⟩ ?_ | refine XQ.sub rfl ⟨by omega, by omega⟩ ?_ | refine XQ.inc rfl rfl rfl ⟨by omega, by omega⟩ ?_)
    rcases hob.2.2.2 with ⟨z, z2, z3, z4, z5, -⟩ | ⟨z, z2, r, z3, z4⟩ | ⟨z, z2, z3, z4, z5, -⟩
    · rw [z2, if_neg (by decide)]
      refine XQ.v1 rfl z rfl (le8 rfl) (Q' := fun q S'' => S'' = S' ∧ q = some (.inl (M 4 o))) ?_ (fun q S'' hq => ?_)
      · repeat (first | refine XQ.go rfl rfl ?_ | refine XQ.zeq0 rfl ?_ | refine XQ.zeq1 rfl ?_ | refine XQ.zne0 rfl ?_ | refine XQ.zne1 rfl ?_ | refine XQ.add rfl ⟨by omega, by omega⟩ ?_ | refine XQ.sub rfl ⟨by omega, by omega⟩ ?_ | refine XQ.inc rfl rfl rfl ⟨by omega, by omega⟩ ?_)
        refine XQ.gx rfl z z3 ?_
        refine XQ.len rfl (by rw [z4]; decide) z5 ?_
        exact XQ.ret rfl rfl ⟨rfl, rfl⟩
      · obtain ⟨rfl, rfl⟩ := hq
        exact XQ.ret rfl rfl ⟨rfl, rfl⟩
    · rw [z2, if_pos rfl]
      have hw1 := hww z2
      have hf := hwf (by omega)
      refine XQ.v1 rfl z rfl (le8 rfl) (Q' := fun q S'' => S'' = S' ∧ q = some (.inl (if M 5 (4 * o) = 9 then 1 else 0))) ?_ (fun q S'' hq => ?_)
      · repeat (first | refine XQ.go rfl rfl ?_ | refine XQ.zeq0 rfl ?_ | refine XQ.zeq1 rfl ?_ | refine XQ.zne0 rfl ?_ | refine XQ.zne1 rfl ?_ | refine XQ.add rfl ⟨by omega, by omega⟩ ?_ | refine XQ.sub rfl ⟨by omega, by omega⟩ ?_ | refine XQ.inc rfl rfl rfl ⟨by omega, by omega⟩ ?_)
        refine XQ.gx rfl z z3 ?_
        rcases z4.cases hO hf.1 with ⟨e, rfl⟩ | ⟨e, -⟩ | ⟨e, rfl, -⟩
        · rw [if_neg (by omega)]
          repeat (first | refine XQ.go rfl rfl ?_ | refine XQ.zeq0 rfl ?_ | refine XQ.zeq1 rfl ?_ | refine XQ.zne0 rfl ?_ | refine XQ.zne1 rfl ?_ | refine XQ.add rfl ⟨by omega, by omega⟩ ?_ | refine XQ.sub rfl ⟨by omega, by omega⟩ ?_ | refine XQ.inc rfl rfl rfl ⟨by omega, by omega⟩ ?_)
          exact XQ.ret rfl rfl ⟨rfl, rfl⟩
        · exact absurd e (hf.2.1 z2)
        · rw [if_pos e]
          repeat (first | refine XQ.go rfl rfl ?_ | refine XQ.zeq0 rfl ?_ | refine XQ.zeq1 rfl ?_ | refine XQ.zne0 rfl ?_ | refine XQ.zne1 rfl ?_ | refine XQ.add rfl ⟨by omega, by omega⟩ ?_ | refine XQ.sub rfl ⟨by omega, by omega⟩ ?_ | refine XQ.inc rfl rfl rfl ⟨by omega, by omega⟩ ?_)
          exact XQ.ret rfl rfl ⟨rfl, rfl⟩
      · obtain ⟨rfl, rfl⟩ := hq
        exact XQ.ret rfl rfl ⟨rfl, rfl⟩
    · rw [z2, if_neg (by decide)]
      refine XQ.v1 rfl z rfl (le8 rfl) (Q' := fun q S'' => S'' = S' ∧ q = some (.inl (M 4 o))) ?_ (fun q S'' hq => ?_)
      · repeat (first | refine XQ.go rfl rfl ?_ | refine XQ.zeq0 rfl ?_ | refine XQ.zeq1 rfl ?_ | refine XQ.zne0 rfl ?_ | refine XQ.zne1 rfl ?_ | refine XQ.add rfl ⟨by omega, by omega⟩ ?_ | refine XQ.sub rfl ⟨by omega, by omega⟩ ?_ | refine XQ.inc rfl rfl rfl ⟨by omega, by omega⟩ ?_)
        refine XQ.gx rfl z z5 ?_
        exact XQ.ret rfl rfl ⟨rfl, rfl⟩
      · obtain ⟨rfl, rfl⟩ := hq
        exact XQ.ret rfl rfl ⟨rfl, rfl⟩
theorem C_length {rw : Nat} {n : Int} (ht : tS S rw = 6) (hv : vS S rw 1 = .inl n) : XQ d k_R_length 0 (mentry (mL k_R_length) [.inr (some rw)]) [] S (fun q S' => S' = S ∧ q = some (.inl n)) := by
  repeat (first | refine XQ.go rfl rfl ?_ | refine XQ.zeq0 rfl ?_ | refine XQ.zeq1 rfl ?_ | refine XQ.zne0 rfl ?_ | refine XQ.zne1 rfl ?_ | refine XQ.add rfl ⟨by omega, by omega⟩ ?_ | refine XQ.sub rfl ⟨by omega, by omega⟩ ?_ | refine XQ.inc rfl rfl rfl ⟨by omega, by omega⟩ ?_)
  refine XQ.gx rfl ht hv ?_
  exact XQ.ret rfl rfl ⟨rfl, rfl⟩
theorem C_used (hC : CL x S A M) : XQ d k_H_used 0 (mentry (mL k_H_used) [.inr (some x)]) [] S (fun q S' => S' = S ∧ q = some (.inl (aUsed M))) := by
  repeat (first | refine XQ.go rfl rfl ?_ | refine XQ.zeq0 rfl ?_ | refine XQ.zeq1 rfl ?_ | refine XQ.zne0 rfl ?_ | refine XQ.zne1 rfl ?_ | refine XQ.add rfl ⟨by omega, by omega⟩ ?_ | refine XQ.sub rfl ⟨by omega, by omega⟩ ?_ | refine XQ.inc rfl rfl rfl ⟨by omega, by omega⟩ ?_)
  refine XQ.gx rfl hC.1.1 hC.2.2.2.2.2.1.1 ?_
  exact XQ.ret rfl rfl ⟨rfl, rfl⟩
theorem C_collections (hC : CL x S A M) : XQ d k_H_collections 0 (mentry (mL k_H_collections) [.inr (some x)]) [] S (fun q S' => S' = S ∧ q = some (.inl (M 13 4))) := by
  repeat (first | refine XQ.go rfl rfl ?_ | refine XQ.zeq0 rfl ?_ | refine XQ.zeq1 rfl ?_ | refine XQ.zne0 rfl ?_ | refine XQ.zne1 rfl ?_ | refine XQ.add rfl ⟨by omega, by omega⟩ ?_ | refine XQ.sub rfl ⟨by omega, by omega⟩ ?_ | refine XQ.inc rfl rfl rfl ⟨by omega, by omega⟩ ?_)
  refine XQ.gx rfl hC.1.1 hC.2.1.2 ?_
  exact XQ.ret rfl rfl ⟨rfl, rfl⟩
theorem C_waiting (hC : CL x S A M) : XQ (d + 1) k_H_waiting 0 (mentry (mL k_H_waiting) [.inr (some x)]) [] S (fun q S' => S' = S ∧ q = some (.inl (M 13 3))) := by
  have hF := hC.1
  repeat (first | refine XQ.go rfl rfl ?_ | refine XQ.zeq0 rfl ?_ | refine XQ.zeq1 rfl ?_ | refine XQ.zne0 rfl ?_ | refine XQ.zne1 rfl ?_ | refine XQ.add rfl ⟨by omega, by omega⟩ ?_ | refine XQ.sub rfl ⟨by omega, by omega⟩ ?_ | refine XQ.inc rfl rfl rfl ⟨by omega, by omega⟩ ?_)
  refine XQ.gx rfl hF.1 hF.2.2.2.2.1 ?_
  refine XQ.v1 rfl hF.2.2.2.2.2.2.2.2.1.1 rfl (le8 rfl) (C_length hF.2.2.2.2.2.2.2.2.1.1 hC.2.2.1.2.2.1) (fun q S' hq => ?_)
  obtain ⟨rfl, rfl⟩ := hq
  exact XQ.ret rfl rfl ⟨rfl, rfl⟩
end C1
