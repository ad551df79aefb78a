/-! the class's methods, walked: register, next -/
theorem aIn_t {M : MM} {j : Nat} {h : Int} : ∀ n : Nat, aIn M j h n = true ↔ ∃ q : Nat, q < n ∧ M j (q : Int) = h
  | 0 => ⟨fun z => (by cases z), fun ⟨q, a, _⟩ => absurd a (Nat.not_lt_zero q)⟩
  | n + 1 => by
    unfold aIn
    rw [Bool.or_eq_true, decide_eq_true_iff, aIn_t n]
    constructor
    · rintro (z | ⟨q, a, b⟩)
      · exact ⟨n, by omega, z⟩
      · exact ⟨q, by omega, b⟩
    · rintro ⟨q, a, b⟩
      by_cases e : q = n
      · subst e; exact Or.inl b
      · exact Or.inr ⟨q, by omega, b⟩
theorem aIn_i {M : MM} {j : Nat} {h N : Int} : aIn M j h N.toNat = true ↔ ∃ q, 0 ≤ q ∧ q < N ∧ M j q = h := by
  rw [aIn_t]
  constructor
  · rintro ⟨q, a, b⟩
    exact ⟨q, by omega, by omega, b⟩
  · rintro ⟨q, a, b, c⟩
    exact ⟨q.toNat, by omega, by rw [Int.toNat_of_nonneg a]; exact c⟩
theorem bI_eq {a b : Bool} (h : a = true ↔ b = true) : bI a = bI b := by rw [Bool.eq_iff_iff.mpr h]
section G7
variable {d x : Nat} {S S' : MS} {A : Int → Nat} {M M' : MM}
/-- only the rows of the registered and the waiting change -/
theorem CL.rows (hC : CL x S A M) (hw : WF M) (hz : zS S' = zS S) (ht : tS S' = tS S) (hl : lS S' = lS S) (hv : ∀ b j, ¬ (x + 4 ≤ b ∧ b ≤ x + 7) → ¬ (x + 22 ≤ b ∧ TG S b ∧ 4 ≤ j ∧ j ≤ 5) → vS S' b j = vS S b j) (h40 : vS S' (x + 4) 0 = vS S (x + 4) 0) (h60 : vS S' (x + 6) 0 = vS S (x + 6) 0) (ho : offS [9, 10, 11, 12, 13] M M') (e0 : M' 13 0 = M 13 0) (e1 : M' 13 1 = M 13 1) (e4 : M' 13 4 = M 13 4) (hr4 : cRow S' (x + 4) (M' 13 2) (fun q => A (M' 9 q))) (hr6 : cRow S' (x + 6) (M' 13 3) (fun q => A (M' 11 q))) (hT : cTg S' A M') : CL x S' A M' := by
  obtain ⟨hF, hN, hRs, hV, hO, hPl, hTg, hMk⟩ := hC
  have hA : AgO x S S' := ⟨fun b _ => by rw [ht, hl]; exact ⟨rfl, rfl⟩, fun b j h1 _ h3 => hv b j (by omega) (fun z => h3 ⟨z.2.1, by omega, by omega⟩)⟩
  have hx : ∀ b, b < x + 4 → vS S' b = vS S b := fun b h1 => funext fun j => hv b j (by omega) (by omega)
  have hcb : ∀ k : Nat, aCb M' k = aCb M k := aCb_off ho rfl rfl
  refine ⟨hF.tr ht hl hz (fun j _ => by rw [hx x (by omega)]) (by rw [hx _ (by omega)]) h40 h60, ?_, ⟨?_, hr4, hr6⟩, ?_, ?_, ?_, hT, ?_⟩
  · unfold cNum
    rw [hx x (by omega), e1, e4]
    exact hN
  · rw [e0]
    have f2 : (fun o => A (M' 2 o)) = fun o => A (M 2 o) := by funext o; rw [ho 2 o rfl]
    rw [f2]
    exact hRs.1.tr (by rw [hx _ (by omega)]) (hx _ (by omega))
  · intro w w0 w5
    rw [ho 0 w rfl, ho 1 w rfl, hx _ (by omega)]
    obtain ⟨r', z1, z2⟩ := hV w w0 w5
    exact ⟨r', z1, z2.tr hA⟩
  · intro o z1 z2
    rw [e0] at z2
    exact (hO o z1 z2).tr hA (EqO.of ho rfl rfl rfl rfl rfl rfl o) (hw.1.2.2.1 o z1 z2).2.1
  · unfold cPl aUsed
    rw [hx x (by omega), e0, hcb]
    refine ⟨hPl.1, fun o z1 z2 => ?_⟩
    rw [ho 2 o rfl, hv _ 2 (by have := (hO o z1 z2).1; omega) (by omega), hcb]
    exact hPl.2 o z1 z2
  · intro o z1 z2
    rw [e0] at z2
    rw [ho 2 o rfl, hv _ 3 (by have := (hO o z1 z2).1; omega) (by omega)]
    exact hMk o z1 z2
theorem WF.rows (hw : WF M) (ho : offS [9, 10, 11, 12, 13] M M') (e0 : M' 13 0 = M 13 0) (e1 : M' 13 1 = M 13 1) (e4 : M' 13 4 = M 13 4) (hb : 0 ≤ M' 13 2 ∧ 0 ≤ M' 13 3 ∧ M' 13 2 + M' 13 3 ≤ 8) (hR : wR M') : WF M' := by
  obtain ⟨⟨b1, b2, b3, b4⟩, h2, h3, h4, h5, h6, h7, h8⟩ := hw
  have ok := fun {is has : Int} (z : OKV M is has) => OKV_off ho rfl e0 z
  have lv := fun {h : Int} (z : live M h) => live_off ho rfl e0 z
  refine ⟨?_, ?_, ?_, ?_, ?_, ?_, hR, ?_⟩
  · unfold BW
    rw [e0, e1, e4]
    refine ⟨b1, hb, fun o a b => ?_, b4⟩
    rw [ho 4 o rfl, ho 3 o rfl]
    exact b3 o a b
  · unfold wN
    rw [e0, e1]
    exact ⟨fun o o' a b c => by rw [ho 2 o rfl, ho 2 o' rfl]; exact h2.1 o o' a b c, fun o a b => by rw [ho 2 o rfl]; exact h2.2 o a b⟩
  · intro w w0 w5
    rw [ho 0 w rfl, ho 1 w rfl]
    exact ok (h3 w w0 w5)
  · intro o f a1 a2 a3 a4
    rw [e0] at a2
    rw [ho 4 o rfl] at a4
    rw [ho 5 _ rfl, ho 6 _ rfl, ho 3 o rfl, ho 7 _ rfl]
    obtain ⟨z1, z2, z3⟩ := h4 o f a1 a2 a3 a4
    exact ⟨ok z1, z2, fun z => lv (z3 z)⟩
  · intro o a1 a2
    rw [e0] at a2
    rw [ho 3 o rfl, ho 4 o rfl]
    exact h5 o a1 a2
  · intro o f f' a1 a2 a3 a4 a5 a6
    rw [e0] at a2
    rw [ho 3 o rfl] at a3
    rw [ho 4 o rfl] at a6
    rw [ho 7 _ rfl, ho 7 _ rfl]
    exact h6 o f f' a1 a2 a3 a4 a5 a6
  · unfold aUsed
    rw [e0, aCb_off ho rfl rfl]
    exact h8
theorem C_append {rw a : Nat} {n l : Int} (ht : tS S rw = 6) (h0 : vS S rw 0 = .inr (some (rw + 1))) (ht2 : tS S (rw + 1) = 22) (hl : lS S (rw + 1) = l) (hv : vS S rw 1 = .inl n) (n0 : 0 ≤ n) (n1 : n < l) (hl2 : l ≤ 20) (ha : TG S a) : XQ d k_R_append 0 (mentry (mL k_R_append) [.inr (some rw), .inr (some a)]) [] S (fun q S' => S' = mset (mset S (rw + 1) n (.inr (some a))) rw 1 (.inl (n + 1)) ∧ q = none) := by
  repeat (first | refine XQ.go rfl rfl ?_ | refine XQ.zeq0 rfl ?_ | refine XQ.zeq1 rfl ?_ | refine XQ.zne0 rfl ?_ | refine XQ.zne1 rfl ?_ | refine XQ.add rfl ⟨by omega, by omega⟩ ?_ | refine XQ.sub rfl ⟨by omega, by omega⟩ ?_ | refine XQ.inc rfl rfl rfl ⟨by omega, by omega⟩ ?_)
  refine XQ.gx rfl ht hv ?_
  repeat (first | refine XQ.go rfl rfl ?_ | refine XQ.zeq0 rfl ?_ | refine XQ.zeq1 rfl ?_ | refine XQ.zne0 rfl ?_ | refine XQ.zne1 rfl ?_ | refine XQ.add rfl ⟨by omega, by omega⟩ ?_ | refine XQ.sub rfl ⟨by omega, by omega⟩ ?_ | refine XQ.inc rfl rfl rfl ⟨by omega, by omega⟩ ?_)
  refine XQ.gx rfl ht h0 ?_
  refine XQ.len rfl (by rw [ht2]; decide) hl ?_
  refine XQ.cge rfl (fun q => by omega) (fun q => ?_)
  repeat (first | refine XQ.go rfl rfl ?_ | refine XQ.zeq0 rfl ?_ | refine XQ.zeq1 rfl ?_ | refine XQ.zne0 rfl ?_ | refine XQ.zne1 rfl ?_ | refine XQ.add rfl ⟨by omega, by omega⟩ ?_ | refine XQ.sub rfl ⟨by omega, by omega⟩ ?_ | refine XQ.inc rfl rfl rfl ⟨by omega, by omega⟩ ?_)
  refine XQ.gx rfl ht h0 ?_
  repeat (first | refine XQ.go rfl rfl ?_ | refine XQ.zeq0 rfl ?_ | refine XQ.zeq1 rfl ?_ | refine XQ.zne0 rfl ?_ | refine XQ.zne1 rfl ?_ | refine XQ.add rfl ⟨by omega, by omega⟩ ?_ | refine XQ.sub rfl ⟨by omega, by omega⟩ ?_ | refine XQ.inc rfl rfl rfl ⟨by omega, by omega⟩ ?_)
  refine XQ.gx rfl ht hv ?_
  repeat (first | refine XQ.go rfl rfl ?_ | refine XQ.zeq0 rfl ?_ | refine XQ.zeq1 rfl ?_ | refine XQ.zne0 rfl ?_ | refine XQ.zne1 rfl ?_ | refine XQ.add rfl ⟨by omega, by omega⟩ ?_ | refine XQ.sub rfl ⟨by omega, by omega⟩ ?_ | refine XQ.inc rfl rfl rfl ⟨by omega, by omega⟩ ?_)
  refine XQ.ast rfl (ha.ast ht2) n0 (by omega) ?_
  repeat (first | refine XQ.go rfl rfl ?_ | refine XQ.zeq0 rfl ?_ | refine XQ.zeq1 rfl ?_ | refine XQ.zne0 rfl ?_ | refine XQ.zne1 rfl ?_ | refine XQ.add rfl ⟨by omega, by omega⟩ ?_ | refine XQ.sub rfl ⟨by omega, by omega⟩ ?_ | refine XQ.inc rfl rfl rfl ⟨by omega, by omega⟩ ?_)
  refine XQ.gx rfl ht (v := .inl n) (by rw [mset_v _ _ _ _ (by omega)]; exact hv) ?_
  repeat (first | refine XQ.go rfl rfl ?_ | refine XQ.zeq0 rfl ?_ | refine XQ.zeq1 rfl ?_ | refine XQ.zne0 rfl ?_ | refine XQ.zne1 rfl ?_ | refine XQ.add rfl ⟨by omega, by omega⟩ ?_ | refine XQ.sub rfl ⟨by omega, by omega⟩ ?_ | refine XQ.inc rfl rfl rfl ⟨by omega, by omega⟩ ?_)
  refine XQ.put rfl (by show [6].contains (tS S rw) = true; rw [ht]; rfl) rfl ?_
  exact XQ.ret rfl rfl ⟨rfl, rfl⟩
theorem C_register {v tag : Int} (hC : CL x S A M) (hw : WF M) : XQ (d + 3) k_H_register 0 (mentry (mL k_H_register) [.inr (some x), .inl v, .inl tag]) [] S (fun q S' => q = some (.inl (aReg M v tag).1) ∧ CL x S' A (aReg M v tag).2 ∧ WF (aReg M v tag).2 ∧ CFr x 3 30 S S') := by
  have hC0 := hC
  obtain ⟨hF, hN, hRs, hV, hO, hPl, hTg, hMk⟩ := hC
  have bad : (aObj M v < 0 ∨ tag < 0 ∨ 99 < tag ∨ 8 ≤ M 13 2 + M 13 3 ∨ aIn M 9 (M 2 (aObj M v)) (M 13 2).toNat = true ∨ aIn M 11 (M 2 (aObj M v)) (M 13 3).toNat = true) → aReg M v tag = (0, M) := fun q => by unfold aReg; rw [if_pos q]
  have hb := hw.1.2.1
  obtain ⟨r41, r42, r43, r44⟩ := hF.2.2.2.2.2.2.2.1
  obtain ⟨r61, r62, r63, r64⟩ := hF.2.2.2.2.2.2.2.2.1
  repeat (first | refine XQ.go rfl rfl ?_ | refine XQ.zeq0 rfl ?_ | refine XQ.zeq1 rfl ?_ | refine XQ.zne0 rfl ?_ | refine XQ.zne1 rfl ?_ | refine XQ.add rfl ⟨by omega, by omega⟩ ?_ | refine XQ.sub rfl ⟨by omega, by omega⟩ ?_ | refine XQ.inc rfl rfl rfl ⟨by omega, by omega⟩ ?_)
  refine XQ.v2 rfl hF.1 rfl (le8 rfl) (C_heldThing (v := v) hF hV hO hw.2.2.1) (fun q S' hq => ?_)
  obtain ⟨rfl, rfl⟩ := hq
  rcases hT_cases hO hw v with ⟨e, e2⟩ | ⟨e, h0, h5, h9, hl, ht, g0, g1, g2⟩
  · rw [bad (by omega), e]
    repeat (first | refine XQ.go rfl rfl ?_ | refine XQ.zeq0 rfl ?_ | refine XQ.zeq1 rfl ?_ | refine XQ.zne0 rfl ?_ | refine XQ.zne1 rfl ?_ | refine XQ.add rfl ⟨by omega, by omega⟩ ?_ | refine XQ.sub rfl ⟨by omega, by omega⟩ ?_ | refine XQ.inc rfl rfl rfl ⟨by omega, by omega⟩ ?_)
    exact XQ.ret rfl rfl ⟨rfl, hC0, hw, CFr.rf⟩
  · rw [e]
    repeat (first | refine XQ.go rfl rfl ?_ | refine XQ.zeq0 rfl ?_ | refine XQ.zeq1 rfl ?_ | refine XQ.zne0 rfl ?_ | refine XQ.zne1 rfl ?_ | refine XQ.add rfl ⟨by omega, by omega⟩ ?_ | refine XQ.sub rfl ⟨by omega, by omega⟩ ?_ | refine XQ.inc rfl rfl rfl ⟨by omega, by omega⟩ ?_)
    refine XQ.zlt rfl (fun q => ?_) (fun q => ?_)
    · rw [bad (by omega)]
      repeat (first | refine XQ.go rfl rfl ?_ | refine XQ.zeq0 rfl ?_ | refine XQ.zeq1 rfl ?_ | refine XQ.zne0 rfl ?_ | refine XQ.zne1 rfl ?_ | refine XQ.add rfl ⟨by omega, by omega⟩ ?_ | refine XQ.sub rfl ⟨by omega, by omega⟩ ?_ | refine XQ.inc rfl rfl rfl ⟨by omega, by omega⟩ ?_)
      exact XQ.ret rfl rfl ⟨rfl, hC0, hw, CFr.rf⟩
    · repeat (first | refine XQ.go rfl rfl ?_ | refine XQ.zeq0 rfl ?_ | refine XQ.zeq1 rfl ?_ | refine XQ.zne0 rfl ?_ | refine XQ.zne1 rfl ?_ | refine XQ.add rfl ⟨by omega, by omega⟩ ?_ | refine XQ.sub rfl ⟨by omega, by omega⟩ ?_ | refine XQ.inc rfl rfl rfl ⟨by omega, by omega⟩ ?_)
      refine XQ.cle rfl (fun q2 => ?_) (fun q2 => ?_)
      · have htg := hTg.1 _ g0 g1
        rw [g2] at htg
        repeat (first | refine XQ.go rfl rfl ?_ | refine XQ.zeq0 rfl ?_ | refine XQ.zeq1 rfl ?_ | refine XQ.zne0 rfl ?_ | refine XQ.zne1 rfl ?_ | refine XQ.add rfl ⟨by omega, by omega⟩ ?_ | refine XQ.sub rfl ⟨by omega, by omega⟩ ?_ | refine XQ.inc rfl rfl rfl ⟨by omega, by omega⟩ ?_)
        refine XQ.gt rfl ht htg ?_
        cases hin : (aIn M 9 (M 1 v) (M 13 2).toNat || aIn M 11 (M 1 v) (M 13 3).toNat)
        · have hin2 := hin
          rw [Bool.or_eq_false_iff] at hin
          show XQ _ _ _ _ (.inl 0 :: _) _ _
          repeat (first | refine XQ.go rfl rfl ?_ | refine XQ.zeq0 rfl ?_ | refine XQ.zeq1 rfl ?_ | refine XQ.zne0 rfl ?_ | refine XQ.zne1 rfl ?_ | refine XQ.add rfl ⟨by omega, by omega⟩ ?_ | refine XQ.sub rfl ⟨by omega, by omega⟩ ?_ | refine XQ.inc rfl rfl rfl ⟨by omega, by omega⟩ ?_)
          refine XQ.gx rfl hF.1 hF.2.2.2.1 ?_
          refine XQ.v1 rfl r41 rfl (le8 rfl) (C_length (d := d + 2) r41 hRs.2.1.1) (fun q S' hq => ?_)
          obtain ⟨rfl, rfl⟩ := hq
          repeat (first | refine XQ.go rfl rfl ?_ | refine XQ.zeq0 rfl ?_ | refine XQ.zeq1 rfl ?_ | refine XQ.zne0 rfl ?_ | refine XQ.zne1 rfl ?_ | refine XQ.add rfl ⟨by omega, by omega⟩ ?_ | refine XQ.sub rfl ⟨by omega, by omega⟩ ?_ | refine XQ.inc rfl rfl rfl ⟨by omega, by omega⟩ ?_)
          refine XQ.gx rfl hF.1 hF.2.2.2.2.1 ?_
          refine XQ.v1 rfl r61 rfl (le8 rfl) (C_length (d := d + 2) r61 hRs.2.2.1) (fun q S' hq => ?_)
          obtain ⟨rfl, rfl⟩ := hq
          repeat (first | refine XQ.go rfl rfl ?_ | refine XQ.zeq0 rfl ?_ | refine XQ.zeq1 rfl ?_ | refine XQ.zne0 rfl ?_ | refine XQ.zne1 rfl ?_ | refine XQ.add rfl ⟨by omega, by omega⟩ ?_ | refine XQ.sub rfl ⟨by omega, by omega⟩ ?_ | refine XQ.inc rfl rfl rfl ⟨by omega, by omega⟩ ?_)
          refine XQ.clt rfl (fun q3 => ?_) (fun q3 => ?_)
          · have good : aReg M v tag = (1, u2 (u2 (u2 M 9 (M 13 2) (M 1 v)) 10 (M 13 2) tag) 13 2 (M 13 2 + 1)) := by
              unfold aReg
              rw [g2, if_neg (fun z => ?_)]
              rcases z with z | z | z | z | z | z
              · omega
              · omega
              · omega
              · omega
              · rw [hin.1] at z; cases z
              · rw [hin.2] at z; cases z
            rw [good]
            repeat (first | refine XQ.go rfl rfl ?_ | refine XQ.zeq0 rfl ?_ | refine XQ.zeq1 rfl ?_ | refine XQ.zne0 rfl ?_ | refine XQ.zne1 rfl ?_ | refine XQ.add rfl ⟨by omega, by omega⟩ ?_ | refine XQ.sub rfl ⟨by omega, by omega⟩ ?_ | refine XQ.inc rfl rfl rfl ⟨by omega, by omega⟩ ?_)
            refine XQ.put rfl ht.c rfl ?_
            repeat (first | refine XQ.go rfl rfl ?_ | refine XQ.zeq0 rfl ?_ | refine XQ.zeq1 rfl ?_ | refine XQ.zne0 rfl ?_ | refine XQ.zne1 rfl ?_ | refine XQ.add rfl ⟨by omega, by omega⟩ ?_ | refine XQ.sub rfl ⟨by omega, by omega⟩ ?_ | refine XQ.inc rfl rfl rfl ⟨by omega, by omega⟩ ?_)
            refine XQ.put rfl (TG.c (S := S') ht) rfl ?_
            have hge := live_ge hO hl
            have hx : ∀ b, b < x + 22 → vS (mset (mset S' (A (M 1 v)) 4 (.inl 1)) (A (M 1 v)) 5 (.inl tag)) b = vS S' b := fun b hb => by rw [mset_v _ _ _ _ (by omega), mset_v _ _ _ _ (by omega)]
            repeat (first | refine XQ.go rfl rfl ?_ | refine XQ.zeq0 rfl ?_ | refine XQ.zeq1 rfl ?_ | refine XQ.zne0 rfl ?_ | refine XQ.zne1 rfl ?_ | refine XQ.add rfl ⟨by omega, by omega⟩ ?_ | refine XQ.sub rfl ⟨by omega, by omega⟩ ?_ | refine XQ.inc rfl rfl rfl ⟨by omega, by omega⟩ ?_)
            refine XQ.gx rfl hF.1 (v := .inr (some (x + 4))) (by rw [hx x (by omega)]; exact hF.2.2.2.1) ?_
            repeat (first | refine XQ.go rfl rfl ?_ | refine XQ.zeq0 rfl ?_ | refine XQ.zeq1 rfl ?_ | refine XQ.zne0 rfl ?_ | refine XQ.zne1 rfl ?_ | refine XQ.add rfl ⟨by omega, by omega⟩ ?_ | refine XQ.sub rfl ⟨by omega, by omega⟩ ?_ | refine XQ.inc rfl rfl rfl ⟨by omega, by omega⟩ ?_)
            refine XQ.v2 rfl r41 rfl (le8 rfl) (C_append (d := d + 2) (S := mset (mset S' (A (M 1 v)) 4 (.inl 1)) (A (M 1 v)) 5 (.inl tag)) (rw := x + 4) (n := M 13 2) (l := 8) r41 (by rw [hx _ (by omega)]; exact r42) r43 r44 (by rw [hx _ (by omega)]; exact hRs.2.1.1) hb.1 (by omega) (by decide) ht) (fun q S2 hq => ?_)
            obtain ⟨rfl, rfl⟩ := hq
            repeat (first | refine XQ.go rfl rfl ?_ | refine XQ.zeq0 rfl ?_ | refine XQ.zeq1 rfl ?_ | refine XQ.zne0 rfl ?_ | refine XQ.zne1 rfl ?_ | refine XQ.add rfl ⟨by omega, by omega⟩ ?_ | refine XQ.sub rfl ⟨by omega, by omega⟩ ?_ | refine XQ.inc rfl rfl rfl ⟨by omega, by omega⟩ ?_)
            have hf : CFr x 3 30 S' (mset (mset (mset (mset S' (A (M 1 v)) 4 (.inl 1)) (A (M 1 v)) 5 (.inl tag)) (x + 4 + 1) (M 13 2) (.inr (some (A (M 1 v))))) (x + 4) 1 (.inl (M 13 2 + 1))) := (((CFr.rf.set (Or.inr hge) _ _).set (Or.inr hge) _ _).set (Or.inl ⟨by omega, by omega⟩) _ _).set (Or.inl ⟨by omega, by omega⟩) _ _
            have hsv : ∀ b j, vS (mset (mset (mset (mset S' (A (M 1 v)) 4 (.inl 1)) (A (M 1 v)) 5 (.inl tag)) (x + 4 + 1) (M 13 2) (.inr (some (A (M 1 v))))) (x + 4) 1 (.inl (M 13 2 + 1))) b j = if b = x + 4 then (if j = 1 then .inl (M 13 2 + 1) else vS S' b j) else if b = x + 5 then (if j = M 13 2 then .inr (some (A (M 1 v))) else vS S' b j) else if b = A (M 1 v) then (if j = 5 then .inl tag else if j = 4 then .inl 1 else vS S' b j) else vS S' b j := fun b j => by
              by_cases c1 : b = x + 4
              · rw [if_pos c1, c1, mset_s, mset_v _ _ _ _ (by omega), hx _ (by omega)]
              · rw [if_neg c1, mset_v _ _ _ _ c1]
                by_cases c2 : b = x + 5
                · rw [if_pos c2, c2]
                  show vS (mset _ (x + 5) _ _) (x + 5) j = _
                  rw [mset_s, hx _ (by omega)]
                · rw [if_neg c2, mset_v _ _ _ _ c2]
                  by_cases c3 : b = A (M 1 v)
                  · rw [if_pos c3, c3, mset_s]
                    by_cases c4 : j = 5
                    · rw [if_pos c4, if_pos c4]
                    · rw [if_neg c4, if_neg c4, mset_s]
                  · rw [if_neg c3, mset_v _ _ _ _ c3, mset_v _ _ _ _ c3]
            have hst : tS (mset (mset (mset (mset S' (A (M 1 v)) 4 (.inl 1)) (A (M 1 v)) 5 (.inl tag)) (x + 4 + 1) (M 13 2) (.inr (some (A (M 1 v))))) (x + 4) 1 (.inl (M 13 2 + 1))) = tS S' := rfl
            have hsl : lS (mset (mset (mset (mset S' (A (M 1 v)) 4 (.inl 1)) (A (M 1 v)) 5 (.inl tag)) (x + 4 + 1) (M 13 2) (.inr (some (A (M 1 v))))) (x + 4) 1 (.inl (M 13 2 + 1))) = lS S' := rfl
            have hsz : zS (mset (mset (mset (mset S' (A (M 1 v)) 4 (.inl 1)) (A (M 1 v)) 5 (.inl tag)) (x + 4 + 1) (M 13 2) (.inr (some (A (M 1 v))))) (x + 4) 1 (.inl (M 13 2 + 1))) = zS S' := rfl
            generalize mset (mset (mset (mset S' (A (M 1 v)) 4 (.inl 1)) (A (M 1 v)) 5 (.inl tag)) (x + 4 + 1) (M 13 2) (.inr (some (A (M 1 v))))) (x + 4) 1 (.inl (M 13 2 + 1)) = S2 at hf hsv hst hsl hsz ⊢
            have ho : offS [9, 10, 11, 12, 13] M (u2 (u2 (u2 M 9 (M 13 2) (M 1 v)) 10 (M 13 2) tag) 13 2 (M 13 2 + 1)) := ((offS.rf.u rfl _ _).u rfl _ _).u rfl _ _
            have p13 : ∀ i, u2 (u2 (u2 M 9 (M 13 2) (M 1 v)) 10 (M 13 2) tag) 13 2 (M 13 2 + 1) 13 i = if i = 2 then M 13 2 + 1 else M 13 i := fun i => by
              by_cases c : i = 2
              · rw [if_pos c, c, u2_s]
              · rw [if_neg c, u2_n _ _ (Or.inr c), u2_n _ _ (Or.inl (by decide)), u2_n _ _ (Or.inl (by decide))]
            have p9 : ∀ i, u2 (u2 (u2 M 9 (M 13 2) (M 1 v)) 10 (M 13 2) tag) 13 2 (M 13 2 + 1) 9 i = if i = M 13 2 then M 1 v else M 9 i := fun i => by
              rw [u2_n _ _ (Or.inl (by decide)), u2_n _ _ (Or.inl (by decide))]
              by_cases c : i = M 13 2
              · rw [if_pos c, c, u2_s]
              · rw [if_neg c, u2_n _ _ (Or.inr c)]
            have p10 : ∀ i, u2 (u2 (u2 M 9 (M 13 2) (M 1 v)) 10 (M 13 2) tag) 13 2 (M 13 2 + 1) 10 i = if i = M 13 2 then tag else M 10 i := fun i => by
              rw [u2_n _ _ (Or.inl (by decide))]
              by_cases c : i = M 13 2
              · rw [if_pos c, c, u2_s]
              · rw [if_neg c, u2_n _ _ (Or.inr c), u2_n _ _ (Or.inl (by decide))]
            have p11 : ∀ j i, (j = 11 ∨ j = 12) → u2 (u2 (u2 M 9 (M 13 2) (M 1 v)) 10 (M 13 2) tag) 13 2 (M 13 2 + 1) j i = M j i := fun j i hj => by
              rw [u2_n _ _ (Or.inl (by omega)), u2_n _ _ (Or.inl (by omega)), u2_n _ _ (Or.inl (by omega))]
            generalize u2 (u2 (u2 M 9 (M 13 2) (M 1 v)) 10 (M 13 2) tag) 13 2 (M 13 2 + 1) = M' at ho p13 p9 p10 p11 ⊢
            have n9 : ∀ q, 0 ≤ q → q < M 13 2 → M 9 q ≠ M 1 v := fun q a b c => by
              have := (aIn_i (M := M) (j := 9) (h := M 1 v) (N := M 13 2)).mpr ⟨q, a, b, c⟩
              rw [hin.1] at this; cases this
            have n11 : ∀ q, 0 ≤ q → q < M 13 3 → M 11 q ≠ M 1 v := fun q a b c => by
              have := (aIn_i (M := M) (j := 11) (h := M 1 v) (N := M 13 3)).mpr ⟨q, a, b, c⟩
              rw [hin.2] at this; cases this
            have q0 : M' 13 0 = M 13 0 := by rw [p13, if_neg (by decide)]
            have q2' : M' 13 2 = M 13 2 + 1 := by rw [p13, if_pos rfl]
            have q3' : M' 13 3 = M 13 3 := by rw [p13, if_neg (by decide)]
            have lvm := fun {h : Int} (z : live M h) => live_off ho rfl q0 z
            have hR := hw.2.2.2.2.2.2.1
            refine XQ.ret rfl rfl ⟨rfl, ?_, ?_, hf⟩
            · show CL x S2 A M'
              refine hC0.rows hw hsz hst hsl (fun b j c1 c2 => ?_) ?_ ?_ ho q0 (by rw [p13, if_neg (by decide)]) (by rw [p13, if_neg (by decide)]) ⟨?_, ?_⟩ ⟨?_, ?_⟩ ⟨?_, ?_, ?_⟩
              · rw [hsv, if_neg (by omega), if_neg (by omega)]
                split
                · rename_i c3
                  rw [if_neg (fun z => c2 ⟨by omega, by rw [c3]; exact ht, by omega, by omega⟩), if_neg (fun z => c2 ⟨by omega, by rw [c3]; exact ht, by omega, by omega⟩)]
                · rfl
              · rw [hsv, if_pos rfl, if_neg (by decide)]
              · rw [hsv, if_neg (by omega), if_neg (by omega), if_neg (by omega)]
              · rw [hsv, if_pos rfl, if_pos rfl, q2']
              · intro i i0 i1
                rw [q2'] at i1
                show vS S2 (x + 5) i = .inr (some (A (M' 9 i)))
                rw [hsv, if_neg (by omega), if_pos rfl, p9]
                by_cases c : i = M 13 2
                · rw [if_pos c, if_pos c]
                · rw [if_neg c, if_neg c]; exact hRs.2.1.2 i i0 (by omega)
              · rw [hsv, if_neg (by omega), if_neg (by omega), if_neg (by omega), q3']
                exact hRs.2.2.1
              · intro i i0 i1
                rw [q3'] at i1
                show vS S2 (x + 7) i = .inr (some (A (M' 11 i)))
                rw [hsv, if_neg (by omega), if_neg (by omega), if_neg (by omega), p11 11 i (Or.inl rfl)]
                exact hRs.2.2.2 i i0 i1
              · intro o o0 o1
                rw [q0] at o1
                have hgo := (hO o o0 o1).1
                rw [ho 2 o rfl, hsv, if_neg (by omega), if_neg (by omega)]
                by_cases c : M 2 o = M 1 v
                · rw [c, if_pos rfl, if_neg (by decide), if_pos rfl]
                  have : aIn M' 9 (M 1 v) (M' 13 2).toNat = true := aIn_i.mpr ⟨M 13 2, hb.1, by omega, by rw [p9, if_pos rfl]⟩
                  rw [this]; rfl
                · rw [if_neg (fun z => c (A_inj hO (live_o o0 o1) hl z)), hTg.1 o o0 o1]
                  congr 1
                  apply bI_eq
                  rw [Bool.or_eq_true, Bool.or_eq_true, aIn_i, aIn_i, aIn_i, aIn_i, q2', q3']
                  constructor
                  · rintro (⟨q, a, b, c2⟩ | ⟨q, a, b, c2⟩)
                    · exact Or.inl ⟨q, a, by omega, by rw [p9, if_neg (by omega)]; exact c2⟩
                    · exact Or.inr ⟨q, a, b, by rw [p11 11 q (Or.inl rfl)]; exact c2⟩
                  · rintro (⟨q, a, b, c2⟩ | ⟨q, a, b, c2⟩)
                    · rw [p9] at c2
                      by_cases c3 : q = M 13 2
                      · rw [if_pos c3] at c2; exact absurd c2.symm c
                      · rw [if_neg c3] at c2; exact Or.inl ⟨q, a, by omega, c2⟩
                    · rw [p11 11 q (Or.inl rfl)] at c2
                      exact Or.inr ⟨q, a, b, c2⟩
              · intro q z0 z1
                rw [q2'] at z1
                rw [p9, p10]
                by_cases c : q = M 13 2
                · rw [if_pos c, if_pos c, hsv, if_neg (by omega), if_neg (by omega), if_pos rfl, if_pos rfl]
                · rw [if_neg c, if_neg c]
                  have lq := hR.1 q z0 (by omega)
                  have gq := live_ge hO lq
                  rw [hsv, if_neg (by omega), if_neg (by omega), if_neg (fun z => n9 q z0 (by omega) (A_inj hO lq hl z))]
                  exact hTg.2.1 q z0 (by omega)
              · intro q z0 z1
                rw [q3'] at z1
                rw [p11 11 q (Or.inl rfl), p11 12 q (Or.inr rfl)]
                have lq := hR.2.1 q z0 (by omega)
                have gq := live_ge hO lq
                rw [hsv, if_neg (by omega), if_neg (by omega), if_neg (fun z => n11 q z0 (by omega) (A_inj hO lq hl z))]
                exact hTg.2.2 q z0 (by omega)
            · show WF M'
              refine hw.rows ho q0 (by rw [p13, if_neg (by decide)]) (by rw [p13, if_neg (by decide)]) (by omega) ⟨?_, ?_, ?_, ?_, ?_⟩
              · intro q z0 z1
                rw [p9]
                by_cases c : q = M 13 2
                · rw [if_pos c]; exact lvm hl
                · rw [if_neg c]; exact lvm (hR.1 q z0 (by omega))
              · intro q z0 z1
                rw [p11 11 q (Or.inl rfl)]
                exact lvm (hR.2.1 q z0 (by omega))
              · intro q q' z0 z1 z2
                rw [p9, p9, if_neg (by omega)]
                by_cases c : q' = M 13 2
                · rw [if_pos c]; exact n9 q z0 (by omega)
                · rw [if_neg c]; exact hR.2.2.1 q q' z0 z1 (by omega)
              · intro q q' z0 z1 z2
                rw [p11 11 q (Or.inl rfl), p11 11 q' (Or.inl rfl)]
                exact hR.2.2.2.1 q q' z0 z1 (by omega)
              · intro q q' z0 z1 z2 z3
                rw [p9, p11 11 q' (Or.inl rfl)]
                by_cases c : q = M 13 2
                · rw [if_pos c]; exact fun z => n11 q' z2 (by omega) z.symm
                · rw [if_neg c]; exact hR.2.2.2.2 q q' z0 (by omega) z2 (by omega)
          · rw [bad (by omega)]
            repeat (first | refine XQ.go rfl rfl ?_ | refine XQ.zeq0 rfl ?_ | refine XQ.zeq1 rfl ?_ | refine XQ.zne0 rfl ?_ | refine XQ.zne1 rfl ?_ | refine XQ.add rfl ⟨by omega, by omega⟩ ?_ | refine XQ.sub rfl ⟨by omega, by omega⟩ ?_ | refine XQ.inc rfl rfl rfl ⟨by omega, by omega⟩ ?_)
            exact XQ.ret rfl rfl ⟨rfl, hC0, hw, CFr.rf⟩
        · rw [bad (by rw [g2]; rw [Bool.or_eq_true] at hin; rcases hin with z | z; exact Or.inr (Or.inr (Or.inr (Or.inr (Or.inl z)))); exact Or.inr (Or.inr (Or.inr (Or.inr (Or.inr z)))))]
          show XQ _ _ _ _ (.inl 1 :: _) _ _
          repeat (first | refine XQ.go rfl rfl ?_ | refine XQ.zeq0 rfl ?_ | refine XQ.zeq1 rfl ?_ | refine XQ.zne0 rfl ?_ | refine XQ.zne1 rfl ?_ | refine XQ.add rfl ⟨by omega, by omega⟩ ?_ | refine XQ.sub rfl ⟨by omega, by omega⟩ ?_ | refine XQ.inc rfl rfl rfl ⟨by omega, by omega⟩ ?_)
          exact XQ.ret rfl rfl ⟨rfl, hC0, hw, CFr.rf⟩
      · rw [bad (by omega)]
        repeat (first | refine XQ.go rfl rfl ?_ | refine XQ.zeq0 rfl ?_ | refine XQ.zeq1 rfl ?_ | refine XQ.zne0 rfl ?_ | refine XQ.zne1 rfl ?_ | refine XQ.add rfl ⟨by omega, by omega⟩ ?_ | refine XQ.sub rfl ⟨by omega, by omega⟩ ?_ | refine XQ.inc rfl rfl rfl ⟨by omega, by omega⟩ ?_)
        exact XQ.ret rfl rfl ⟨rfl, hC0, hw, CFr.rf⟩
end G7
