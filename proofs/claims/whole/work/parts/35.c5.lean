/-! the class's methods, walked: set, find, put -/
section G5
variable {d x : Nat} {S S' : MS} {A : Int → Nat} {M M' : MM}
theorem aObjOf_n {M : MM} {v s : Int} (h : aObj M v < 0 ∨ M 3 (aObj M v) ≠ s) : aObjOf M v s = -1 := by
  unfold aObjOf; rw [if_neg (fun z => by rcases h with h | h; omega; exact h z.2)]
theorem aObjOf_y {M : MM} {v s : Int} (h0 : 0 ≤ aObj M v) (h : M 3 (aObj M v) = s) : aObjOf M v s = aObj M v := by
  unfold aObjOf; rw [if_pos ⟨h0, h⟩]
/-- a field of a vector is written -/
theorem CL.fld (hC : CL x S A M) (hw : WF M) {o k a b : Int} {r : Option Nat} (h0 : 0 ≤ o) (h1 : o < M 13 0) (h2 : M 3 o = 2) (k0 : 0 ≤ k) (k1 : k < M 4 o) (hr : VR x S A r a b) (ok : OKV M a b) : CL x (mset S (A (M 2 o) + 1) k (.inr r)) A (u2 (u2 M 5 (4 * o + k) a) 6 (4 * o + k) b) ∧ WF (u2 (u2 M 5 (4 * o + k) a) 6 (4 * o + k) b) := by
  have hO := hC.2.2.2.2.1
  have hob := hO o h0 h1
  have hB := hw.1.2.2.1
  have hm := (hB o h0 h1).2.1
  have ho1 : offS [5, 6] M (u2 (u2 M 5 (4 * o + k) a) 6 (4 * o + k) b) := (offS.rf.u rfl _ _).u rfl _ _
  have ho : offS [4, 5, 6, 7, 8] M (u2 (u2 M 5 (4 * o + k) a) 6 (4 * o + k) b) := fun j i hj => ho1 j i (by simp at hj ⊢; omega)
  have v5 : ∀ i, u2 (u2 M 5 (4 * o + k) a) 6 (4 * o + k) b 5 i = if i = 4 * o + k then a else M 5 i := fun i => by
    rw [u2_n _ _ (Or.inl (by decide))]
    by_cases e : i = 4 * o + k
    · rw [if_pos e, e, u2_s]
    · rw [if_neg e, u2_n _ _ (Or.inr e)]
  have v6 : ∀ i, u2 (u2 M 5 (4 * o + k) a) 6 (4 * o + k) b 6 i = if i = 4 * o + k then b else M 6 i := fun i => by
    by_cases e : i = 4 * o + k
    · rw [if_pos e, e, u2_s]
    · rw [if_neg e, u2_n _ _ (Or.inr e), u2_n _ _ (Or.inl (by decide))]
  generalize u2 (u2 M 5 (4 * o + k) a) 6 (4 * o + k) b = M' at *
  have t1 : tS S (A (M 2 o) + 1) = 23 ∧ tS S (A (M 2 o)) = 3 := by
    rcases hob.2.2.2 with z | z | z
    · exact ⟨z.2.2.2.1, z.1⟩
    · omega
    · omega
  have hc := fun o' (_ : 0 ≤ o') (_ : o' < M 13 0) => aCells_off ho1 rfl rfl o'
  have hok := fun {is has : Int} (z : OKV M is has) => OKV_off ho1 rfl (ho1 13 0 rfl) z
  constructor
  · refine hC.obj hw rfl rfl rfl (fun b j hb => congrFun (mset_v _ _ _ _ (fun e => ?_)) j) ho hc (fun o' z1 z2 => ?_)
    · subst e
      have := hob.1
      rcases hb with y | y | y
      · omega
      · rcases y.1 with y | y | y <;> omega
      · omega
    · rw [ho1 13 0 rfl] at z2
      have hob' := hO o' z1 z2
      by_cases e : o' = o
      · subst e
        unfold cObj
        rw [ho1 2 _ rfl, ho1 3 _ rfl, ho1 4 _ rfl, hc _ z1 z2, mset_v _ _ _ _ (show A (M 2 o') ≠ A (M 2 o') + 1 by omega)]
        refine ⟨hob'.1, hob'.2.1, hob'.2.2.1, ?_⟩
        rcases hob'.2.2.2 with ⟨y1, y2, y3, y4, y5, y6⟩ | y | y
        · refine Or.inl ⟨y1, y2, y3, y4, y5, fun f f0 f1 => ?_⟩
          rw [v5, v6, mset_s]
          by_cases e : f = k
          · rw [if_pos e, if_pos (by omega), if_pos (by omega)]
            exact ⟨r, rfl, hr.tr3 rfl (fun b hb => by rw [mset_v _ _ _ _ (fun e => by rw [e] at hb; omega)])⟩
          · rw [if_neg e, if_neg (by omega), if_neg (by omega)]
            obtain ⟨r', w1, w2⟩ := y6 f f0 f1
            exact ⟨r', w1, w2.tr3 rfl (fun b hb => by rw [mset_v _ _ _ _ (fun e => by rw [e] at hb; omega)])⟩
        · omega
        · omega
      · have hne := A_ne hO hw z1 z2 h0 h1 e
        have hm' := (hB o' z1 z2).2.1
        refine hob'.tr3 rfl rfl (fun b hb => by rw [mset_v _ _ _ _ (fun e => by rw [e] at hb; omega)]) (fun j hj => by rw [mset_v _ _ _ _ (fun e => by have := hob'.tg; rw [e] at this; rcases this with y | y | y <;> omega)]) (fun _ _ j => by rw [mset_v _ _ _ _ (by omega)]) (fun y1 y2 j => by
          rw [mset_v _ _ _ _ (fun e => ?_)]
          rcases hob'.2.2.2 with y | y | y
          · omega
          · omega
          · have := y.2.2.2.2.2.1
            have e' : A (M 2 o') + 1 = A (M 2 o) := by omega
            rw [e'] at this
            omega) ⟨ho1 2 _ rfl, ho1 3 _ rfl, ho1 4 _ rfl, fun f f0 f1 => ⟨?_, ?_, ho1 7 _ rfl⟩⟩ hm'
        · rw [v5, if_neg (by omega)]
        · rw [v6, if_neg (by omega)]
  · refine hw.obj ho (hw.1.offS ho1 rfl rfl rfl) (fun o' f a1 a2 a3 a4 => ?_) (fun o' a1 a2 => ?_) (fun o' f f' a1 a2 a3 a4 a5 a6 => ?_) hc
    · rw [ho1 13 0 rfl] at a2
      rw [ho1 4 o' rfl] at a4
      have hm' := (hB o' a1 a2).2.1
      rw [v5, v6, ho1 3 o' rfl, ho1 7 _ rfl]
      obtain ⟨z1, z2, z3⟩ := hw.2.2.2.1 o' f a1 a2 a3 a4
      refine ⟨?_, fun e3 => ?_, fun e4 => live_off ho1 rfl (ho1 13 0 rfl) (z3 e4)⟩
      · by_cases e : 4 * o' + f = 4 * o + k
        · rw [if_pos e, if_pos e]; exact hok ok
        · rw [if_neg e, if_neg e]; exact hok z1
      · rw [if_neg (fun e => by have : o' = o := by omega
                                rw [this] at e3; omega)]
        exact z2 e3
    · rw [ho1 13 0 rfl] at a2
      rw [ho1 3 o' rfl, ho1 4 o' rfl]
      exact hw.2.2.2.2.1 o' a1 a2
    · rw [ho1 13 0 rfl] at a2
      rw [ho1 3 o' rfl] at a3
      rw [ho1 4 o' rfl] at a6
      rw [ho1 7 _ rfl, ho1 7 _ rfl]
      exact hw.2.2.2.2.2.1 o' f f' a1 a2 a3 a4 a5 a6
theorem C_set {v k w : Int} (hC : CL x S A M) (hw : WF M) : XQ (d + 2) k_H_set 0 (mentry (mL k_H_set) [.inr (some x), .inl v, .inl k, .inl w]) [] S (fun q S' => q = some (.inl (aSet M v k w).1) ∧ CL x S' A (aSet M v k w).2 ∧ WF (aSet M v k w).2 ∧ CFr x 3 30 S S') := by
  have hC0 := hC
  obtain ⟨hF, hN, hRs, hV, hO, hPl, hTg, hMk⟩ := hC
  have bad : (aObjOf M v 2 < 0 ∨ k < 0 ∨ M 4 (aObjOf M v 2) ≤ k ∨ w < 0 ∨ 5 < w) → aSet M v k w = (0, M) := fun q => by unfold aSet; rw [if_pos q]
  repeat (first | refine XQ.go rfl rfl ?_ | refine XQ.zeq0 rfl ?_ | refine XQ.zeq1 rfl ?_ | refine XQ.zne0 rfl ?_ | refine XQ.zne1 rfl ?_ | refine XQ.add rfl ⟨by omega, by omega⟩ ?_ | refine XQ.sub rfl ⟨by omega, by omega⟩ ?_ | refine XQ.inc rfl rfl rfl ⟨by omega, by omega⟩ ?_)
  refine XQ.s1 rfl rfl (le8 rfl) (C_isVariable (v := w)) (fun r S' hq => ?_)
  obtain ⟨rfl, ⟨rfl, hw2⟩ | ⟨rfl, hw2⟩⟩ := hq
  · repeat (first | refine XQ.go rfl rfl ?_ | refine XQ.zeq0 rfl ?_ | refine XQ.zeq1 rfl ?_ | refine XQ.zne0 rfl ?_ | refine XQ.zne1 rfl ?_ | refine XQ.add rfl ⟨by omega, by omega⟩ ?_ | refine XQ.sub rfl ⟨by omega, by omega⟩ ?_ | refine XQ.inc rfl rfl rfl ⟨by omega, by omega⟩ ?_)
    refine XQ.v2 rfl hF.1 rfl (le8 rfl) (C_held (d := d) (v := v) hF hV) (fun q S' hq => ?_)
    obtain ⟨rfl, r, rfl, ⟨h0, h5, h1, h2⟩ | ⟨h0, rfl⟩⟩ := hq
    · rcases h2.cases hO (hw.2.2.1 v h0 h5) with ⟨e, rfl⟩ | ⟨e, a, rfl, e2, e3⟩ | ⟨e, rfl, e2, e3⟩
      · rw [bad (by have := aObjOf_n (s := 2) (Or.inl (by rw [aObj_n (M := M) (v := v) (fun z => by omega)]; decide)); omega)]
        repeat (first | refine XQ.go rfl rfl ?_ | refine XQ.zeq0 rfl ?_ | refine XQ.zeq1 rfl ?_ | refine XQ.zne0 rfl ?_ | refine XQ.zne1 rfl ?_ | refine XQ.add rfl ⟨by omega, by omega⟩ ?_ | refine XQ.sub rfl ⟨by omega, by omega⟩ ?_ | refine XQ.inc rfl rfl rfl ⟨by omega, by omega⟩ ?_)
        exact XQ.ret rfl rfl ⟨rfl, hC0, hw, CFr.rf⟩
      · rw [bad (by have := aObjOf_n (s := 2) (Or.inl (by rw [aObj_n (M := M) (v := v) (fun z => by omega)]; decide)); omega)]
        repeat (first | refine XQ.go rfl rfl ?_ | refine XQ.zeq0 rfl ?_ | refine XQ.zeq1 rfl ?_ | refine XQ.zne0 rfl ?_ | refine XQ.zne1 rfl ?_ | refine XQ.add rfl ⟨by omega, by omega⟩ ?_ | refine XQ.sub rfl ⟨by omega, by omega⟩ ?_ | refine XQ.inc rfl rfl rfl ⟨by omega, by omega⟩ ?_)
        refine XQ.insN rfl (by rw [e2]; rfl) (by rw [e2]; rfl) ?_
        repeat (first | refine XQ.go rfl rfl ?_ | refine XQ.zeq0 rfl ?_ | refine XQ.zeq1 rfl ?_ | refine XQ.zne0 rfl ?_ | refine XQ.zne1 rfl ?_ | refine XQ.add rfl ⟨by omega, by omega⟩ ?_ | refine XQ.sub rfl ⟨by omega, by omega⟩ ?_ | refine XQ.inc rfl rfl rfl ⟨by omega, by omega⟩ ?_)
        exact XQ.ret rfl rfl ⟨rfl, hC0, hw, CFr.rf⟩
      · obtain ⟨g0, g1, g2⟩ := aObj_9 hw.2.1 h0 h5 e e2
        have hob := hO _ g0 g1
        unfold cObj at hob
        rw [g2] at hob
        rcases hob.2.2.2 with ⟨z, z2, z3, z4, z5, z6⟩ | ⟨z, z2, -⟩ | ⟨z, z2, -⟩
        · have eo := aObjOf_y g0 z2
          repeat (first | refine XQ.go rfl rfl ?_ | refine XQ.zeq0 rfl ?_ | refine XQ.zeq1 rfl ?_ | refine XQ.zne0 rfl ?_ | refine XQ.zne1 rfl ?_ | refine XQ.add rfl ⟨by omega, by omega⟩ ?_ | refine XQ.sub rfl ⟨by omega, by omega⟩ ?_ | refine XQ.inc rfl rfl rfl ⟨by omega, by omega⟩ ?_)
          refine XQ.insY rfl (by rw [z]; rfl) ?_
          repeat (first | refine XQ.go rfl rfl ?_ | refine XQ.zeq0 rfl ?_ | refine XQ.zeq1 rfl ?_ | refine XQ.zne0 rfl ?_ | refine XQ.zne1 rfl ?_ | refine XQ.add rfl ⟨by omega, by omega⟩ ?_ | refine XQ.sub rfl ⟨by omega, by omega⟩ ?_ | refine XQ.inc rfl rfl rfl ⟨by omega, by omega⟩ ?_)
          refine XQ.cst rfl (by rw [z]; rfl) ?_
          repeat (first | refine XQ.go rfl rfl ?_ | refine XQ.zeq0 rfl ?_ | refine XQ.zeq1 rfl ?_ | refine XQ.zne0 rfl ?_ | refine XQ.zne1 rfl ?_ | refine XQ.add rfl ⟨by omega, by omega⟩ ?_ | refine XQ.sub rfl ⟨by omega, by omega⟩ ?_ | refine XQ.inc rfl rfl rfl ⟨by omega, by omega⟩ ?_)
          refine XQ.v2 rfl z rfl (le8 rfl) (C_hasField (k := k) z z3 z4 z5) (fun q S' hq => ?_)
          obtain ⟨rfl, ⟨rfl, f0, f1⟩ | ⟨rfl, f0⟩⟩ := hq
          · have good : aSet M v k w = (1, u2 (u2 M 5 (4 * aObj M v + k) (M 0 w)) 6 (4 * aObj M v + k) (M 1 w)) := by unfold aSet; rw [eo, if_neg (by omega)]
            rw [good]
            repeat (first | refine XQ.go rfl rfl ?_ | refine XQ.zeq0 rfl ?_ | refine XQ.zeq1 rfl ?_ | refine XQ.zne0 rfl ?_ | refine XQ.zne1 rfl ?_ | refine XQ.add rfl ⟨by omega, by omega⟩ ?_ | refine XQ.sub rfl ⟨by omega, by omega⟩ ?_ | refine XQ.inc rfl rfl rfl ⟨by omega, by omega⟩ ?_)
            refine XQ.gx rfl z z3 ?_
            repeat (first | refine XQ.go rfl rfl ?_ | refine XQ.zeq0 rfl ?_ | refine XQ.zeq1 rfl ?_ | refine XQ.zne0 rfl ?_ | refine XQ.zne1 rfl ?_ | refine XQ.add rfl ⟨by omega, by omega⟩ ?_ | refine XQ.sub rfl ⟨by omega, by omega⟩ ?_ | refine XQ.inc rfl rfl rfl ⟨by omega, by omega⟩ ?_)
            refine XQ.v2 rfl hF.1 rfl (le8 rfl) (C_held (d := d) (v := w) hF hV) (fun q S' hq => ?_)
            obtain ⟨rfl, r, rfl, ⟨i0, i5, i1, i2⟩ | ⟨i0, rfl⟩⟩ := hq
            · have ok := hw.2.2.1 w i0 i5
              have fin := hC0.fld hw g0 g1 z2 f0 f1 i2 ok
              rw [g2] at fin
              refine XQ.ast rfl (i2.ast hO ok z4) f0 (by rw [z5]; exact f1) ?_
              repeat (first | refine XQ.go rfl rfl ?_ | refine XQ.zeq0 rfl ?_ | refine XQ.zeq1 rfl ?_ | refine XQ.zne0 rfl ?_ | refine XQ.zne1 rfl ?_ | refine XQ.add rfl ⟨by omega, by omega⟩ ?_ | refine XQ.sub rfl ⟨by omega, by omega⟩ ?_ | refine XQ.inc rfl rfl rfl ⟨by omega, by omega⟩ ?_)
              exact XQ.ret rfl rfl ⟨rfl, fin.1, fin.2, CFr.rf.set (Or.inr (Nat.le_succ_of_le hob.1)) _ _⟩
            · omega
          · rw [bad (by rw [eo]; omega)]
            repeat (first | refine XQ.go rfl rfl ?_ | refine XQ.zeq0 rfl ?_ | refine XQ.zeq1 rfl ?_ | refine XQ.zne0 rfl ?_ | refine XQ.zne1 rfl ?_ | refine XQ.add rfl ⟨by omega, by omega⟩ ?_ | refine XQ.sub rfl ⟨by omega, by omega⟩ ?_ | refine XQ.inc rfl rfl rfl ⟨by omega, by omega⟩ ?_)
            exact XQ.ret rfl rfl ⟨rfl, hC0, hw, CFr.rf⟩
        · rw [bad (by have := aObjOf_n (M := M) (v := v) (s := 2) (Or.inr (by omega)); omega)]
          repeat (first | refine XQ.go rfl rfl ?_ | refine XQ.zeq0 rfl ?_ | refine XQ.zeq1 rfl ?_ | refine XQ.zne0 rfl ?_ | refine XQ.zne1 rfl ?_ | refine XQ.add rfl ⟨by omega, by omega⟩ ?_ | refine XQ.sub rfl ⟨by omega, by omega⟩ ?_ | refine XQ.inc rfl rfl rfl ⟨by omega, by omega⟩ ?_)
          refine XQ.insN rfl (by rw [z]; rfl) (by rw [z]; rfl) ?_
          repeat (first | refine XQ.go rfl rfl ?_ | refine XQ.zeq0 rfl ?_ | refine XQ.zeq1 rfl ?_ | refine XQ.zne0 rfl ?_ | refine XQ.zne1 rfl ?_ | refine XQ.add rfl ⟨by omega, by omega⟩ ?_ | refine XQ.sub rfl ⟨by omega, by omega⟩ ?_ | refine XQ.inc rfl rfl rfl ⟨by omega, by omega⟩ ?_)
          exact XQ.ret rfl rfl ⟨rfl, hC0, hw, CFr.rf⟩
        · rw [bad (by have := aObjOf_n (M := M) (v := v) (s := 2) (Or.inr (by omega)); omega)]
          repeat (first | refine XQ.go rfl rfl ?_ | refine XQ.zeq0 rfl ?_ | refine XQ.zeq1 rfl ?_ | refine XQ.zne0 rfl ?_ | refine XQ.zne1 rfl ?_ | refine XQ.add rfl ⟨by omega, by omega⟩ ?_ | refine XQ.sub rfl ⟨by omega, by omega⟩ ?_ | refine XQ.inc rfl rfl rfl ⟨by omega, by omega⟩ ?_)
          refine XQ.insN rfl (by rw [z]; rfl) (by rw [z]; rfl) ?_
          repeat (first | refine XQ.go rfl rfl ?_ | refine XQ.zeq0 rfl ?_ | refine XQ.zeq1 rfl ?_ | refine XQ.zne0 rfl ?_ | refine XQ.zne1 rfl ?_ | refine XQ.add rfl ⟨by omega, by omega⟩ ?_ | refine XQ.sub rfl ⟨by omega, by omega⟩ ?_ | refine XQ.inc rfl rfl rfl ⟨by omega, by omega⟩ ?_)
          exact XQ.ret rfl rfl ⟨rfl, hC0, hw, CFr.rf⟩
    · rw [bad (by have := aObjOf_n (s := 2) (Or.inl (by rw [aObj_n (M := M) (v := v) (fun z => by omega)]; decide)); omega)]
      repeat (first | refine XQ.go rfl rfl ?_ | refine XQ.zeq0 rfl ?_ | refine XQ.zeq1 rfl ?_ | refine XQ.zne0 rfl ?_ | refine XQ.zne1 rfl ?_ | refine XQ.add rfl ⟨by omega, by omega⟩ ?_ | refine XQ.sub rfl ⟨by omega, by omega⟩ ?_ | refine XQ.inc rfl rfl rfl ⟨by omega, by omega⟩ ?_)
      exact XQ.ret rfl rfl ⟨rfl, hC0, hw, CFr.rf⟩
  · rw [bad (by omega)]
    repeat (first | refine XQ.go rfl rfl ?_ | refine XQ.zeq0 rfl ?_ | refine XQ.zeq1 rfl ?_ | refine XQ.zne0 rfl ?_ | refine XQ.zne1 rfl ?_ | refine XQ.add rfl ⟨by omega, by omega⟩ ?_ | refine XQ.sub rfl ⟨by omega, by omega⟩ ?_ | refine XQ.inc rfl rfl rfl ⟨by omega, by omega⟩ ?_)
    exact XQ.ret rfl rfl ⟨rfl, hC0, hw, CFr.rf⟩
theorem entR_none {M : MM} {o key : Int} : ∀ n : Nat, (∀ f : Nat, f < n → M 7 (4 * o + (f : Int)) ≠ key) → entR M o key n = -1
  | 0, _ => rfl
  | n + 1, h => by
    unfold entR
    rw [if_neg (h n (by omega))]
    exact entR_none n (fun f hf => h f (by omega))
theorem entR_some {M : MM} {o key : Int} {e : Nat} (he : M 7 (4 * o + (e : Int)) = key) : ∀ n : Nat, e < n → (∀ f : Nat, f < n → f ≠ e → M 7 (4 * o + (f : Int)) ≠ key) → entR M o key n = (e : Int)
  | 0, h, _ => absurd h (by omega)
  | n + 1, h, hu => by
    unfold entR
    by_cases q : n = e
    · subst q; rw [if_pos he]
    · rw [if_neg (hu n (by omega) q)]
      exact entR_some he n (by omega) (fun f hf => hu f (by omega))
theorem aEnt_some {M : MM} (hw : WF M) {o e key : Int} (h0 : 0 ≤ o) (h1 : o < M 13 0) (h4 : M 3 o = 4) (e0 : 0 ≤ e) (e1 : e < M 4 o) (he : M 7 (4 * o + e) = key) : aEnt M o key = e := by
  have ee : e = (e.toNat : Int) := by omega
  unfold aEnt
  rw [entR_some (e := e.toNat) (by rw [← ee]; exact he) _ (by omega) (fun f f1 f2 q => ?_), ← ee]
  by_cases q2 : (f : Int) < e
  · exact hw.2.2.2.2.2.1 o f e h0 h1 h4 (by omega) q2 e1 (by rw [q, he])
  · exact hw.2.2.2.2.2.1 o e f h0 h1 h4 e0 (by omega) (by omega) (by rw [q, he])
theorem C_entryOf {o key : Int} (hO : cO x S A M) (hw : WF M) (h0 : 0 ≤ o) (h1 : o < M 13 0) (h4 : M 3 o = 4) (hl : live M key) : XQ d k_T_entryOf 0 (mentry (mL k_T_entryOf) [.inr (some (A (M 2 o))), .inr (some (A key))]) [] S (fun q S' => S' = S ∧ ∃ e, q = some (.inl e) ∧ ((0 ≤ e ∧ e < M 4 o ∧ M 7 (4 * o + e) = key ∧ aEnt M o key = e) ∨ (e = M 4 o ∧ aEnt M o key = -1))) := by
  have hob := hO o h0 h1
  have hm := hw.1.2.2.1 o h0 h1
  rcases hob.2.2.2 with ⟨z1, z2, -⟩ | ⟨z1, z2, -⟩ | ⟨z1, z2, z3, z4, z5, z6, z7, z8, z9, z10⟩
  · omega
  · omega
  have loop : ∀ (r : Nat) (e : Int), M 4 o - e = (r : Int) → 0 ≤ e → (∀ f, 0 ≤ f → f < e → M 7 (4 * o + f) ≠ key) → XQ d k_T_entryOf 2 [some (.inr (some (A (M 2 o)))), some (.inr (some (A key))), some (.inl e)] [] S (fun q S' => S' = S ∧ ∃ e, q = some (.inl e) ∧ ((0 ≤ e ∧ e < M 4 o ∧ M 7 (4 * o + e) = key ∧ aEnt M o key = e) ∨ (e = M 4 o ∧ aEnt M o key = -1))) := by
    intro r
    induction r with
    | zero =>
      intro e hr e0 hn
      repeat (first | refine XQ.go rfl rfl ?_ | refine XQ.zeq0 rfl ?_ | refine XQ.zeq1 rfl ?_ | refine XQ.zne0 rfl ?_ | refine XQ.zne1 rfl ?_ | refine XQ.add rfl ⟨by omega, by omega⟩ ?_ | refine XQ.sub rfl ⟨by omega, by omega⟩ ?_ | refine XQ.inc rfl rfl rfl ⟨by omega, by omega⟩ ?_)
      refine XQ.gx rfl z1 z5 ?_
      refine XQ.cge rfl (fun q => ?_) (fun q => by omega)
      repeat (first | refine XQ.go rfl rfl ?_ | refine XQ.zeq0 rfl ?_ | refine XQ.zeq1 rfl ?_ | refine XQ.zne0 rfl ?_ | refine XQ.zne1 rfl ?_ | refine XQ.add rfl ⟨by omega, by omega⟩ ?_ | refine XQ.sub rfl ⟨by omega, by omega⟩ ?_ | refine XQ.inc rfl rfl rfl ⟨by omega, by omega⟩ ?_)
      refine XQ.gx rfl z1 z5 ?_
      refine XQ.ret rfl rfl ⟨rfl, _, rfl, Or.inr ⟨rfl, ?_⟩⟩
      unfold aEnt
      exact entR_none _ (fun f hf => hn f (by omega) (by omega))
    | succ r ih =>
      intro e hr e0 hn
      repeat (first | refine XQ.go rfl rfl ?_ | refine XQ.zeq0 rfl ?_ | refine XQ.zeq1 rfl ?_ | refine XQ.zne0 rfl ?_ | refine XQ.zne1 rfl ?_ | refine XQ.add rfl ⟨by omega, by omega⟩ ?_ | refine XQ.sub rfl ⟨by omega, by omega⟩ ?_ | refine XQ.inc rfl rfl rfl ⟨by omega, by omega⟩ ?_)
      refine XQ.gx rfl z1 z5 ?_
      refine XQ.cge rfl (fun q => by omega) (fun q => ?_)
      repeat (first | refine XQ.go rfl rfl ?_ | refine XQ.zeq0 rfl ?_ | refine XQ.zeq1 rfl ?_ | refine XQ.zne0 rfl ?_ | refine XQ.zne1 rfl ?_ | refine XQ.add rfl ⟨by omega, by omega⟩ ?_ | refine XQ.sub rfl ⟨by omega, by omega⟩ ?_ | refine XQ.inc rfl rfl rfl ⟨by omega, by omega⟩ ?_)
      refine XQ.gx rfl z1 z3 ?_
      repeat (first | refine XQ.go rfl rfl ?_ | refine XQ.zeq0 rfl ?_ | refine XQ.zeq1 rfl ?_ | refine XQ.zne0 rfl ?_ | refine XQ.zne1 rfl ?_ | refine XQ.add rfl ⟨by omega, by omega⟩ ?_ | refine XQ.sub rfl ⟨by omega, by omega⟩ ?_ | refine XQ.inc rfl rfl rfl ⟨by omega, by omega⟩ ?_)
      obtain ⟨y1, -⟩ := z10 e e0 q
      refine XQ.lx rfl (Or.inl z6) e0 (by omega) y1 ?_
      repeat (first | refine XQ.go rfl rfl ?_ | refine XQ.zeq0 rfl ?_ | refine XQ.zeq1 rfl ?_ | refine XQ.zne0 rfl ?_ | refine XQ.zne1 rfl ?_ | refine XQ.add rfl ⟨by omega, by omega⟩ ?_ | refine XQ.sub rfl ⟨by omega, by omega⟩ ?_ | refine XQ.inc rfl rfl rfl ⟨by omega, by omega⟩ ?_)
      refine XQ.aeq rfl (fun q2 => ?_) (fun q2 => ?_)
      · injection q2 with q2
        have q3 := A_inj hO ((hw.2.2.2.1 o e h0 h1 e0 q).2.2 h4) hl q2
        repeat (first | refine XQ.go rfl rfl ?_ | refine XQ.zeq0 rfl ?_ | refine XQ.zeq1 rfl ?_ | refine XQ.zne0 rfl ?_ | refine XQ.zne1 rfl ?_ | refine XQ.add rfl ⟨by omega, by omega⟩ ?_ | refine XQ.sub rfl ⟨by omega, by omega⟩ ?_ | refine XQ.inc rfl rfl rfl ⟨by omega, by omega⟩ ?_)
        exact XQ.ret rfl rfl ⟨rfl, _, rfl, Or.inl ⟨e0, q, q3, aEnt_some hw h0 h1 h4 e0 q q3⟩⟩
      · have ih' := ih (e + 1) (by omega) (by omega) (fun f f0 f1 q3 => by
          by_cases q4 : f = e
          · subst q4; exact q2 (by rw [q3])
          · exact hn f f0 (by omega) q3)
        repeat (first | exact ih' | refine XQ.go rfl rfl ?_ | refine XQ.zeq0 rfl ?_ | refine XQ.zeq1 rfl ?_ | refine XQ.zne0 rfl ?_ | refine XQ.zne1 rfl ?_ | refine XQ.add rfl ⟨by omega, by omega⟩ ?_ | refine XQ.sub rfl ⟨by omega, by omega⟩ ?_ | refine XQ.inc rfl rfl rfl ⟨by omega, by omega⟩ ?_)
  have k0 := loop (M 4 o).toNat 0 (by omega) (by omega) (fun f a b => by omega)
  repeat (first | exact k0 | refine XQ.go rfl rfl ?_ | refine XQ.zeq0 rfl ?_ | refine XQ.zeq1 rfl ?_ | refine XQ.zne0 rfl ?_ | refine XQ.zne1 rfl ?_ | refine XQ.add rfl ⟨by omega, by omega⟩ ?_ | refine XQ.sub rfl ⟨by omega, by omega⟩ ?_ | refine XQ.inc rfl rfl rfl ⟨by omega, by omega⟩ ?_)
theorem C_find {w t k : Int} (hC : CL x S A M) (hw : WF M) : XQ (d + 3) k_H_find 0 (mentry (mL k_H_find) [.inr (some x), .inl w, .inl t, .inl k]) [] S (fun q S' => q = some (.inl (aFind M w t k).1) ∧ CL x S' A (aFind M w t k).2 ∧ WF (aFind M w t k).2 ∧ CFr x 3 30 S S') := by
  have hC0 := hC
  obtain ⟨hF, hN, hRs, hV, hO, hPl, hTg, hMk⟩ := hC
  have bad : (aObjOf M t 4 < 0 ∨ aObj M k < 0 ∨ w < 0 ∨ 5 < w) → aFind M w t k = (0, M) := fun q => by unfold aFind; rw [if_pos q]
  repeat (first | refine XQ.go rfl rfl ?_ | refine XQ.zeq0 rfl ?_ | refine XQ.zeq1 rfl ?_ | refine XQ.zne0 rfl ?_ | refine XQ.zne1 rfl ?_ | refine XQ.add rfl ⟨by omega, by omega⟩ ?_ | refine XQ.sub rfl ⟨by omega, by omega⟩ ?_ | refine XQ.inc rfl rfl rfl ⟨by omega, by omega⟩ ?_)
  refine XQ.v2 rfl hF.1 rfl (le8 rfl) (C_heldThing (v := k) hF hV hO hw.2.2.1) (fun q S' hq => ?_)
  obtain ⟨rfl, rfl⟩ := hq
  repeat (first | refine XQ.go rfl rfl ?_ | refine XQ.zeq0 rfl ?_ | refine XQ.zeq1 rfl ?_ | refine XQ.zne0 rfl ?_ | refine XQ.zne1 rfl ?_ | refine XQ.add rfl ⟨by omega, by omega⟩ ?_ | refine XQ.sub rfl ⟨by omega, by omega⟩ ?_ | refine XQ.inc rfl rfl rfl ⟨by omega, by omega⟩ ?_)
  refine XQ.s1 rfl rfl (le8 rfl) (C_isVariable (v := w)) (fun r S' hq => ?_)
  obtain ⟨rfl, ⟨rfl, hw2⟩ | ⟨rfl, hw2⟩⟩ := hq
  · rcases hT_cases hO hw k with ⟨e, e2⟩ | ⟨e, h0, h5, h9, hl, ht, g0, g1, g2⟩
    · rw [bad (by omega), e]
      repeat (first | refine XQ.go rfl rfl ?_ | refine XQ.zeq0 rfl ?_ | refine XQ.zeq1 rfl ?_ | refine XQ.zne0 rfl ?_ | refine XQ.zne1 rfl ?_ | refine XQ.add rfl ⟨by omega, by omega⟩ ?_ | refine XQ.sub rfl ⟨by omega, by omega⟩ ?_ | refine XQ.inc rfl rfl rfl ⟨by omega, by omega⟩ ?_)
      exact XQ.ret rfl rfl ⟨rfl, hC0, hw, CFr.rf⟩
    · rw [e]
      repeat (first | refine XQ.go rfl rfl ?_ | refine XQ.zeq0 rfl ?_ | refine XQ.zeq1 rfl ?_ | refine XQ.zne0 rfl ?_ | refine XQ.zne1 rfl ?_ | refine XQ.add rfl ⟨by omega, by omega⟩ ?_ | refine XQ.sub rfl ⟨by omega, by omega⟩ ?_ | refine XQ.inc rfl rfl rfl ⟨by omega, by omega⟩ ?_)
      refine XQ.v2 rfl hF.1 rfl (le8 rfl) (C_held (d := d + 1) (v := t) hF hV) (fun q S' hq => ?_)
      obtain ⟨rfl, r, rfl, ⟨i0, i5, i1, i2⟩ | ⟨i0, rfl⟩⟩ := hq
      · rcases i2.cases hO (hw.2.2.1 t i0 i5) with ⟨e, rfl⟩ | ⟨e, a, rfl, e2, e3⟩ | ⟨e, rfl, e2, e3⟩
        · rw [bad (by have := aObjOf_n (s := 4) (Or.inl (by rw [aObj_n (M := M) (v := t) (fun z => by omega)]; decide)); omega)]
          repeat (first | refine XQ.go rfl rfl ?_ | refine XQ.zeq0 rfl ?_ | refine XQ.zeq1 rfl ?_ | refine XQ.zne0 rfl ?_ | refine XQ.zne1 rfl ?_ | refine XQ.add rfl ⟨by omega, by omega⟩ ?_ | refine XQ.sub rfl ⟨by omega, by omega⟩ ?_ | refine XQ.inc rfl rfl rfl ⟨by omega, by omega⟩ ?_)
          exact XQ.ret rfl rfl ⟨rfl, hC0, hw, CFr.rf⟩
        · rw [bad (by have := aObjOf_n (s := 4) (Or.inl (by rw [aObj_n (M := M) (v := t) (fun z => by omega)]; decide)); omega)]
          repeat (first | refine XQ.go rfl rfl ?_ | refine XQ.zeq0 rfl ?_ | refine XQ.zeq1 rfl ?_ | refine XQ.zne0 rfl ?_ | refine XQ.zne1 rfl ?_ | refine XQ.add rfl ⟨by omega, by omega⟩ ?_ | refine XQ.sub rfl ⟨by omega, by omega⟩ ?_ | refine XQ.inc rfl rfl rfl ⟨by omega, by omega⟩ ?_)
          refine XQ.insN rfl (by rw [e2]; rfl) (by rw [e2]; rfl) ?_
          repeat (first | refine XQ.go rfl rfl ?_ | refine XQ.zeq0 rfl ?_ | refine XQ.zeq1 rfl ?_ | refine XQ.zne0 rfl ?_ | refine XQ.zne1 rfl ?_ | refine XQ.add rfl ⟨by omega, by omega⟩ ?_ | refine XQ.sub rfl ⟨by omega, by omega⟩ ?_ | refine XQ.inc rfl rfl rfl ⟨by omega, by omega⟩ ?_)
          exact XQ.ret rfl rfl ⟨rfl, hC0, hw, CFr.rf⟩
        · obtain ⟨j0, j1, j2⟩ := aObj_9 hw.2.1 i0 i5 e e2
          have hob := hO _ j0 j1
          unfold cObj at hob
          rw [j2] at hob
          rcases hob.2.2.2 with ⟨z, z2, -⟩ | ⟨z, z2, -⟩ | ⟨z, z2, z3, z4, z5, z6, z7, z8, z9, z10⟩
          · rw [bad (by have := aObjOf_n (M := M) (v := t) (s := 4) (Or.inr (by omega)); omega)]
            repeat (first | refine XQ.go rfl rfl ?_ | refine XQ.zeq0 rfl ?_ | refine XQ.zeq1 rfl ?_ | refine XQ.zne0 rfl ?_ | refine XQ.zne1 rfl ?_ | refine XQ.add rfl ⟨by omega, by omega⟩ ?_ | refine XQ.sub rfl ⟨by omega, by omega⟩ ?_ | refine XQ.inc rfl rfl rfl ⟨by omega, by omega⟩ ?_)
            refine XQ.insN rfl (by rw [z]; rfl) (by rw [z]; rfl) ?_
            repeat (first | refine XQ.go rfl rfl ?_ | refine XQ.zeq0 rfl ?_ | refine XQ.zeq1 rfl ?_ | refine XQ.zne0 rfl ?_ | refine XQ.zne1 rfl ?_ | refine XQ.add rfl ⟨by omega, by omega⟩ ?_ | refine XQ.sub rfl ⟨by omega, by omega⟩ ?_ | refine XQ.inc rfl rfl rfl ⟨by omega, by omega⟩ ?_)
            exact XQ.ret rfl rfl ⟨rfl, hC0, hw, CFr.rf⟩
          · rw [bad (by have := aObjOf_n (M := M) (v := t) (s := 4) (Or.inr (by omega)); omega)]
            repeat (first | refine XQ.go rfl rfl ?_ | refine XQ.zeq0 rfl ?_ | refine XQ.zeq1 rfl ?_ | refine XQ.zne0 rfl ?_ | refine XQ.zne1 rfl ?_ | refine XQ.add rfl ⟨by omega, by omega⟩ ?_ | refine XQ.sub rfl ⟨by omega, by omega⟩ ?_ | refine XQ.inc rfl rfl rfl ⟨by omega, by omega⟩ ?_)
            refine XQ.insN rfl (by rw [z]; rfl) (by rw [z]; rfl) ?_
            repeat (first | refine XQ.go rfl rfl ?_ | refine XQ.zeq0 rfl ?_ | refine XQ.zeq1 rfl ?_ | refine XQ.zne0 rfl ?_ | refine XQ.zne1 rfl ?_ | refine XQ.add rfl ⟨by omega, by omega⟩ ?_ | refine XQ.sub rfl ⟨by omega, by omega⟩ ?_ | refine XQ.inc rfl rfl rfl ⟨by omega, by omega⟩ ?_)
            exact XQ.ret rfl rfl ⟨rfl, hC0, hw, CFr.rf⟩
          · have eo := aObjOf_y j0 z2
            have hm := hw.1.2.2.1 _ j0 j1
            have hent := C_entryOf (d := d) hO hw j0 j1 z2 hl
            rw [j2] at hent
            have hwf := fun f z1 z2 => (hw.2.2.2.1 (aObj M t) f j0 j1 z1 z2).1
            have goodn : aEnt M (aObj M t) (M 1 k) = -1 → aFind M w t k = (1, aHold M w 0 0) := fun q => by unfold aFind; rw [eo, if_neg (by omega), if_pos (by omega)]
            have goody : 0 ≤ aEnt M (aObj M t) (M 1 k) → aFind M w t k = (1, aHold M w (M 5 (4 * aObj M t + aEnt M (aObj M t) (M 1 k))) (M 6 (4 * aObj M t + aEnt M (aObj M t) (M 1 k)))) := fun q => by unfold aFind; rw [eo, if_neg (by omega), if_neg (by omega)]
            repeat (first | refine XQ.go rfl rfl ?_ | refine XQ.zeq0 rfl ?_ | refine XQ.zeq1 rfl ?_ | refine XQ.zne0 rfl ?_ | refine XQ.zne1 rfl ?_ | refine XQ.add rfl ⟨by omega, by omega⟩ ?_ | refine XQ.sub rfl ⟨by omega, by omega⟩ ?_ | refine XQ.inc rfl rfl rfl ⟨by omega, by omega⟩ ?_)
            refine XQ.insY rfl (by rw [z]; rfl) ?_
            repeat (first | refine XQ.go rfl rfl ?_ | refine XQ.zeq0 rfl ?_ | refine XQ.zeq1 rfl ?_ | refine XQ.zne0 rfl ?_ | refine XQ.zne1 rfl ?_ | refine XQ.add rfl ⟨by omega, by omega⟩ ?_ | refine XQ.sub rfl ⟨by omega, by omega⟩ ?_ | refine XQ.inc rfl rfl rfl ⟨by omega, by omega⟩ ?_)
            refine XQ.cst rfl (by rw [z]; rfl) ?_
            repeat (first | refine XQ.go rfl rfl ?_ | refine XQ.zeq0 rfl ?_ | refine XQ.zeq1 rfl ?_ | refine XQ.zne0 rfl ?_ | refine XQ.zne1 rfl ?_ | refine XQ.add rfl ⟨by omega, by omega⟩ ?_ | refine XQ.sub rfl ⟨by omega, by omega⟩ ?_ | refine XQ.inc rfl rfl rfl ⟨by omega, by omega⟩ ?_)
            refine XQ.gx rfl hF.1 hF.2.1 ?_
            repeat (first | refine XQ.go rfl rfl ?_ | refine XQ.zeq0 rfl ?_ | refine XQ.zeq1 rfl ?_ | refine XQ.zne0 rfl ?_ | refine XQ.zne1 rfl ?_ | refine XQ.add rfl ⟨by omega, by omega⟩ ?_ | refine XQ.sub rfl ⟨by omega, by omega⟩ ?_ | refine XQ.inc rfl rfl rfl ⟨by omega, by omega⟩ ?_)
            refine XQ.v2 rfl z rfl (le8 rfl) (d := d + 2) (Q' := fun q S'' => S'' = S' ∧ ∃ r, q = some (.inr r) ∧ ((aEnt M (aObj M t) (M 1 k) = -1 ∧ r = none) ∨ (0 ≤ aEnt M (aObj M t) (M 1 k) ∧ aEnt M (aObj M t) (M 1 k) < M 4 (aObj M t) ∧ VR x S' A r (M 5 (4 * aObj M t + aEnt M (aObj M t) (M 1 k))) (M 6 (4 * aObj M t + aEnt M (aObj M t) (M 1 k)))))) ?_ (fun q S'' hq => ?_)
            · refine XQ.deep ?_
              repeat (first | refine XQ.go rfl rfl ?_ | refine XQ.zeq0 rfl ?_ | refine XQ.zeq1 rfl ?_ | refine XQ.zne0 rfl ?_ | refine XQ.zne1 rfl ?_ | refine XQ.add rfl ⟨by omega, by omega⟩ ?_ | refine XQ.sub rfl ⟨by omega, by omega⟩ ?_ | refine XQ.inc rfl rfl rfl ⟨by omega, by omega⟩ ?_)
              refine XQ.v2 rfl z rfl (le8 rfl) hent (fun q S'' hq => ?_)
              obtain ⟨rfl, en, rfl, ⟨n0, n1, n2, n3⟩ | ⟨rfl, n3⟩⟩ := hq
              · repeat (first | refine XQ.go rfl rfl ?_ | refine XQ.zeq0 rfl ?_ | refine XQ.zeq1 rfl ?_ | refine XQ.zne0 rfl ?_ | refine XQ.zne1 rfl ?_ | refine XQ.add rfl ⟨by omega, by omega⟩ ?_ | refine XQ.sub rfl ⟨by omega, by omega⟩ ?_ | refine XQ.inc rfl rfl rfl ⟨by omega, by omega⟩ ?_)
                refine XQ.gx rfl z z5 ?_
                refine XQ.cge rfl (fun q => by omega) (fun q => ?_)
                obtain ⟨-, r, y1, y2⟩ := z10 en n0 n1
                repeat (first | refine XQ.go rfl rfl ?_ | refine XQ.zeq0 rfl ?_ | refine XQ.zeq1 rfl ?_ | refine XQ.zne0 rfl ?_ | refine XQ.zne1 rfl ?_ | refine XQ.add rfl ⟨by omega, by omega⟩ ?_ | refine XQ.sub rfl ⟨by omega, by omega⟩ ?_ | refine XQ.inc rfl rfl rfl ⟨by omega, by omega⟩ ?_)
                refine XQ.gx rfl z z4 ?_
                repeat (first | refine XQ.go rfl rfl ?_ | refine XQ.zeq0 rfl ?_ | refine XQ.zeq1 rfl ?_ | refine XQ.zne0 rfl ?_ | refine XQ.zne1 rfl ?_ | refine XQ.add rfl ⟨by omega, by omega⟩ ?_ | refine XQ.sub rfl ⟨by omega, by omega⟩ ?_ | refine XQ.inc rfl rfl rfl ⟨by omega, by omega⟩ ?_)
                refine XQ.lx rfl (Or.inr z8) n0 (by omega) y1 ?_
                repeat (first | refine XQ.go rfl rfl ?_ | refine XQ.zeq0 rfl ?_ | refine XQ.zeq1 rfl ?_ | refine XQ.zne0 rfl ?_ | refine XQ.zne1 rfl ?_ | refine XQ.add rfl ⟨by omega, by omega⟩ ?_ | refine XQ.sub rfl ⟨by omega, by omega⟩ ?_ | refine XQ.inc rfl rfl rfl ⟨by omega, by omega⟩ ?_)
                exact XQ.ret rfl rfl ⟨rfl, _, rfl, Or.inr (by rw [n3]; exact ⟨n0, n1, y2⟩)⟩
              · repeat (first | refine XQ.go rfl rfl ?_ | refine XQ.zeq0 rfl ?_ | refine XQ.zeq1 rfl ?_ | refine XQ.zne0 rfl ?_ | refine XQ.zne1 rfl ?_ | refine XQ.add rfl ⟨by omega, by omega⟩ ?_ | refine XQ.sub rfl ⟨by omega, by omega⟩ ?_ | refine XQ.inc rfl rfl rfl ⟨by omega, by omega⟩ ?_)
                refine XQ.gx rfl z z5 ?_
                refine XQ.cge rfl (fun q => ?_) (fun q => by omega)
                repeat (first | refine XQ.go rfl rfl ?_ | refine XQ.zeq0 rfl ?_ | refine XQ.zeq1 rfl ?_ | refine XQ.zne0 rfl ?_ | refine XQ.zne1 rfl ?_ | refine XQ.add rfl ⟨by omega, by omega⟩ ?_ | refine XQ.sub rfl ⟨by omega, by omega⟩ ?_ | refine XQ.inc rfl rfl rfl ⟨by omega, by omega⟩ ?_)
                exact XQ.ret rfl rfl ⟨rfl, _, rfl, Or.inl ⟨n3, rfl⟩⟩
            · obtain ⟨rfl, r, rfl, ⟨n3, rfl⟩ | ⟨n0, n1, n2⟩⟩ := hq
              · have h2 : VR x S'' A none 0 0 := Or.inl ⟨rfl, rfl⟩
                rw [goodn n3]
                refine XQ.ast rfl (h2.ast hO (Or.inl rfl) hF.2.2.2.2.2.1.1) hw2.1 (by rw [hF.2.2.2.2.2.1.2]; omega) ?_
                repeat (first | refine XQ.go rfl rfl ?_ | refine XQ.zeq0 rfl ?_ | refine XQ.zeq1 rfl ?_ | refine XQ.zne0 rfl ?_ | refine XQ.zne1 rfl ?_ | refine XQ.add rfl ⟨by omega, by omega⟩ ?_ | refine XQ.sub rfl ⟨by omega, by omega⟩ ?_ | refine XQ.inc rfl rfl rfl ⟨by omega, by omega⟩ ?_)
                exact XQ.ret rfl rfl ⟨rfl, hC0.hold hw hw2.1 hw2.2 h2, hw.hold (Or.inl rfl), CFr.rf.set (Or.inl ⟨by omega, by omega⟩) _ _⟩
              · rw [goody n0]
                have ok := hwf _ n0 n1
                refine XQ.ast rfl (n2.ast hO ok hF.2.2.2.2.2.1.1) hw2.1 (by rw [hF.2.2.2.2.2.1.2]; omega) ?_
                repeat (first | refine XQ.go rfl rfl ?_ | refine XQ.zeq0 rfl ?_ | refine XQ.zeq1 rfl ?_ | refine XQ.zne0 rfl ?_ | refine XQ.zne1 rfl ?_ | refine XQ.add rfl ⟨by omega, by omega⟩ ?_ | refine XQ.sub rfl ⟨by omega, by omega⟩ ?_ | refine XQ.inc rfl rfl rfl ⟨by omega, by omega⟩ ?_)
                exact XQ.ret rfl rfl ⟨rfl, hC0.hold hw hw2.1 hw2.2 n2, hw.hold ok, CFr.rf.set (Or.inl ⟨by omega, by omega⟩) _ _⟩
      · rw [bad (by have := aObjOf_n (s := 4) (Or.inl (by rw [aObj_n (M := M) (v := t) (fun z => by omega)]; decide)); omega)]
        repeat (first | refine XQ.go rfl rfl ?_ | refine XQ.zeq0 rfl ?_ | refine XQ.zeq1 rfl ?_ | refine XQ.zne0 rfl ?_ | refine XQ.zne1 rfl ?_ | refine XQ.add rfl ⟨by omega, by omega⟩ ?_ | refine XQ.sub rfl ⟨by omega, by omega⟩ ?_ | refine XQ.inc rfl rfl rfl ⟨by omega, by omega⟩ ?_)
        exact XQ.ret rfl rfl ⟨rfl, hC0, hw, CFr.rf⟩
  · rw [bad (by omega)]
    repeat (first | refine XQ.go rfl rfl ?_ | refine XQ.zeq0 rfl ?_ | refine XQ.zeq1 rfl ?_ | refine XQ.zne0 rfl ?_ | refine XQ.zne1 rfl ?_ | refine XQ.add rfl ⟨by omega, by omega⟩ ?_ | refine XQ.sub rfl ⟨by omega, by omega⟩ ?_ | refine XQ.inc rfl rfl rfl ⟨by omega, by omega⟩ ?_)
    exact XQ.ret rfl rfl ⟨rfl, hC0, hw, CFr.rf⟩
end G5
