/-! the class's methods, walked: table -/
def tabS (S : MS) (h : Int) : MS := mset (mnew (mset (mnew (mset (mset (mnew S 5 9 df_T) (zS S) 0 (.inl h)) (zS S) 1 (.inl 8)) 22 3 (fun _ => .inr none)) (zS S) 6 (.inr (some (zS S + 1)))) 23 3 (fun _ => .inr none)) (zS S) 7 (.inr (some (zS S + 2)))
theorem tabS_ok (S : MS) (h : Int) : (∀ b, b < zS S → tS (tabS S h) b = tS S b ∧ lS (tabS S h) b = lS S b ∧ vS (tabS S h) b = vS S b) ∧ ((∀ b, zS S ≤ b → tS S b = 0) → ∀ b, zS S + 3 ≤ b → tS (tabS S h) b = 0) ∧ tS (tabS S h) (zS S) = 5 ∧ (∀ j, vS (tabS S h) (zS S) j = if j = 7 then .inr (some (zS S + 2)) else if j = 6 then .inr (some (zS S + 1)) else if j = 1 then .inl 8 else if j = 0 then .inl h else df_T j) ∧ (tS (tabS S h) (zS S + 1) = 22 ∧ lS (tabS S h) (zS S + 1) = 3) ∧ (tS (tabS S h) (zS S + 2) = 23 ∧ lS (tabS S h) (zS S + 2) = 3) ∧ zS (tabS S h) = zS S + 3 ∧ qS (tabS S h) = qS S + 15 := by
  have s1 := mnew_s S 5 9 df_T
  have s2 := mnew_s (mset (mset (mnew S 5 9 df_T) (zS S) 0 (.inl h)) (zS S) 1 (.inl 8)) 22 3 (fun _ => .inr none)
  have s3 := mnew_s (mset (mnew (mset (mset (mnew S 5 9 df_T) (zS S) 0 (.inl h)) (zS S) 1 (.inl 8)) 22 3 (fun _ => .inr none)) (zS S) 6 (.inr (some (zS S + 1)))) 23 3 (fun _ => .inr none)
  have t2 := mnew_t (mset (mset (mnew S 5 9 df_T) (zS S) 0 (.inl h)) (zS S) 1 (.inl 8)) 22 3 (fun _ => .inr none) (show zS S ≠ zS S + 1 by omega)
  have t3 := mnew_t (mset (mnew (mset (mset (mnew S 5 9 df_T) (zS S) 0 (.inl h)) (zS S) 1 (.inl 8)) 22 3 (fun _ => .inr none)) (zS S) 6 (.inr (some (zS S + 1)))) 23 3 (fun _ => .inr none) (show zS S ≠ zS S + 2 by omega)
  have t4 := mnew_t (mset (mnew (mset (mset (mnew S 5 9 df_T) (zS S) 0 (.inl h)) (zS S) 1 (.inl 8)) 22 3 (fun _ => .inr none)) (zS S) 6 (.inr (some (zS S + 1)))) 23 3 (fun _ => .inr none) (show zS S + 1 ≠ zS S + 2 by omega)
  refine ⟨new_s _ _ (Nat.le_refl _) (new_n _ _ _ (show zS S ≤ zS S + 1 + 1 by omega) (new_s _ _ (Nat.le_refl _) (new_n _ _ _ (Nat.le_succ _) (new_s _ _ (Nat.le_refl _) (new_s _ _ (Nat.le_refl _) (new_n 5 9 df_T (Nat.le_refl _) (fun b _ => ⟨rfl, rfl, rfl⟩))))))), fun hfr => ?_, ?_, fun j => ?_, ⟨?_, ?_⟩, ⟨s3.1, s3.2.1⟩, rfl, rfl⟩
  · exact fr_n 23 3 (fun _ => .inr none) (S' := mset (mnew (mset (mset (mnew S 5 9 df_T) (zS S) 0 (.inl h)) (zS S) 1 (.inl 8)) 22 3 (fun _ => .inr none)) (zS S) 6 (.inr (some (zS S + 1)))) (fr_n 22 3 (fun _ => .inr none) (S' := mset (mset (mnew S 5 9 df_T) (zS S) 0 (.inl h)) (zS S) 1 (.inl 8)) (fr_n 5 9 df_T hfr))
  · exact t3.1.trans (t2.1.trans s1.1)
  · unfold tabS
    rw [mset_s]
    by_cases e : j = 7
    · rw [if_pos e, if_pos e]
    · rw [if_neg e, if_neg e, t3.2.2, mset_s]
      by_cases e1 : j = 6
      · rw [if_pos e1, if_pos e1]
      · rw [if_neg e1, if_neg e1, t2.2.2, mset_s]
        by_cases e2 : j = 1
        · rw [if_pos e2, if_pos e2]
        · rw [if_neg e2, if_neg e2, mset_s]
          by_cases e3 : j = 0
          · rw [if_pos e3, if_pos e3]
          · rw [if_neg e3, if_neg e3]
            exact congrFun s1.2.2 j
  · exact t4.1.trans s2.1
  · exact t4.2.1.trans s2.2.1
section I1
variable {d x : Nat} {S S' : MS} {A A' : Int → Nat} {M M' N : MM}
theorem C_table {v : Int} (hC : CL x S A M) (hw : WF M) (hr : M 13 4 < 100000) (hm : M 13 1 < 100000) : XQ (d + 6) k_H_table 0 (mentry (mL k_H_table) [.inr (some x), .inl v]) [] S (fun q S' => q = some (.inl (aTable M v).1) ∧ ∃ A', CL x S' A' (aTable M v).2 ∧ WF (aTable M v).2 ∧ CFr x 3 30 S S') := by
  have bad : (v < 0 ∨ 5 < v) → aTable M v = (-1, M) := fun q => by unfold aTable; rw [if_pos q]
  repeat (first | refine XQ.go rfl rfl ?_ | refine XQ.zeq0 rfl ?_ | refine XQ.zeq1 rfl ?_ | refine XQ.zne0 rfl ?_ | refine XQ.zne1 rfl ?_ | refine XQ.add rfl ⟨by omega, by omega⟩ ?_ | refine XQ.sub rfl ⟨by omega, by omega⟩ ?_ | refine XQ.inc rfl rfl rfl ⟨by omega, by omega⟩ ?_)
  refine XQ.s1 rfl rfl (le8 rfl) (C_isVariable (v := v)) (fun r S' hq => ?_)
  obtain ⟨rfl, ⟨rfl, hv⟩ | ⟨rfl, hv⟩⟩ := hq
  · have good : aTable M v = aNew M v 4 0 8 (fun M _ => M) := by unfold aTable; rw [if_neg (by omega)]
    rw [good]
    repeat (first | refine XQ.go rfl rfl ?_ | refine XQ.zeq0 rfl ?_ | refine XQ.zeq1 rfl ?_ | refine XQ.zne0 rfl ?_ | refine XQ.zne1 rfl ?_ | refine XQ.add rfl ⟨by omega, by omega⟩ ?_ | refine XQ.sub rfl ⟨by omega, by omega⟩ ?_ | refine XQ.inc rfl rfl rfl ⟨by omega, by omega⟩ ?_)
    refine XQ.v2 rfl hC.1.1 rfl (le8 rfl) (C_makeRoom (d := d) (room := 8) hC hw hr (by omega) (by omega)) (fun r S1 hq => ?_)
    obtain ⟨hq, c1, f1⟩ := hq
    have hW1 := (aRoom_wf hw hr 8).1
    have hm1 : aRoom M 8 13 1 < 100000 := by rw [(aRoom_ok hw.1 hr 8).2]; exact hm
    rcases hq with ⟨rfl, hq⟩ | ⟨rfl, hq⟩
    · rw [aNew_y hq hW1.1.1.1]
      generalize aRoom M 8 = R at c1 hW1 hm1 hq ⊢
      have hF := c1.1
      have hfr := hF.2.2.2.2.2.2.2.2.2.1
      have hle := hF.2.2.2.2.2.2.2.2.2.2
      have hb4 := hW1.1.2.2.2
      have hu1 := hW1.1.used
      obtain ⟨hN, hz⟩ := aMkO_ch R 4 0
      repeat (first | refine XQ.go rfl rfl ?_ | refine XQ.zeq0 rfl ?_ | refine XQ.zeq1 rfl ?_ | refine XQ.zne0 rfl ?_ | refine XQ.zne1 rfl ?_ | refine XQ.add rfl ⟨by omega, by omega⟩ ?_ | refine XQ.sub rfl ⟨by omega, by omega⟩ ?_ | refine XQ.inc rfl rfl rfl ⟨by omega, by omega⟩ ?_)
      obtain ⟨m1, m2, m3⟩ := mnew_s S1 5 9 df_T
      have mx := mnew_t S1 5 9 df_T (show x ≠ zS S1 by omega)
      refine XQ.gx rfl (mx.1.trans hF.1) (v := .inl (R 13 1)) ((congrFun mx.2.2 5).trans c1.2.1.1) ?_
      repeat (first | refine XQ.go rfl rfl ?_ | refine XQ.zeq0 rfl ?_ | refine XQ.zeq1 rfl ?_ | refine XQ.zne0 rfl ?_ | refine XQ.zne1 rfl ?_ | refine XQ.add rfl ⟨by omega, by omega⟩ ?_ | refine XQ.sub rfl ⟨by omega, by omega⟩ ?_ | refine XQ.inc rfl rfl rfl ⟨by omega, by omega⟩ ?_)
      refine XQ.v2 rfl m1 rfl (le8 rfl) ((C_Tinit (d := d) (S := mnew S1 5 9 df_T) (a := zS S1) (h := R 13 1 + 1) m1 (Nat.lt_succ_self _)).deepn (by omega)) (fun r S2 hq2 => ?_)
      obtain ⟨rfl, rfl⟩ := hq2
      show XQ _ _ _ _ _ (tabS S1 (R 13 1 + 1)) _
      obtain ⟨hs2, hf2, ta, va, ⟨tb, lb⟩, ⟨tc, lc⟩, zb, qb⟩ := tabS_ok S1 (R 13 1 + 1)
      generalize tabS S1 (R 13 1 + 1) = S2 at hs2 hf2 ta va tb lb tc lc zb qb ⊢
      have c2 := c1.con hW1 (S' := S2) (by omega) (fun b hb => hf2 hfr b (by omega)) hs2
      have hf : CFr x 3 30 S1 S2 := ⟨by omega, by omega, by omega, by omega, fun a ha => ⟨(hs2 a ha).1, (hs2 a ha).2.1⟩, fun a ha => (hs2 a (by omega)).2.2⟩
      have n2 : aMkO R 4 0 2 (R 13 0) = R 13 1 + 1 := by rw [hN.2.2.1, if_pos rfl]
      have n3 : aMkO R 4 0 3 (R 13 0) = 4 := by rw [hN.2.2.2.1, if_pos rfl]
      have n4 : aMkO R 4 0 4 (R 13 0) = 0 := by rw [hN.2.2.2.2.1, if_pos rfl]
      have nc : aCells (aMkO R 4 0) (R 13 0) = 8 := by unfold aCells; rw [n3, if_neg (by decide), if_neg (by decide)]
      have h20 : R 13 0 < 20 := by omega
      have hWN : WF (aMkO R 4 0) := hW1.nw hN h20 hm1 (Or.inr (Or.inr ⟨rfl, rfl⟩)) (fun f f0 f1 => by omega) (by rw [nc]; exact hq)
      have hob : cObj x S2 (updA A (R 13 1 + 1) (zS S1)) (aMkO R 4 0) (R 13 0) := by
        unfold cObj
        rw [n2, n3, n4, nc, updA_s]
        refine ⟨hle, by rw [va, if_neg (by decide), if_neg (by decide), if_neg (by decide), if_pos rfl], by rw [va, if_neg (by decide), if_neg (by decide), if_pos rfl], Or.inr (Or.inr ⟨ta, rfl, by rw [va, if_neg (by decide), if_pos rfl], by rw [va, if_pos rfl], by rw [va, if_neg (by decide), if_neg (by decide), if_neg (by decide), if_neg (by decide)]; rfl, tb, lb, tc, lc, fun f f0 f1 => by omega⟩)⟩
      refine XQ.v3 rfl c2.1.1 rfl (le8 rfl) ((C_settle (d := d) (v := v) c2 hW1 hN hWN h20 hm1 (by decide) updA_s hob ⟨0, by rw [va, if_neg (by decide), if_neg (by decide), if_neg (by decide), if_neg (by decide)]; rfl⟩ (by rw [va, if_neg (by decide), if_neg (by decide), if_neg (by decide), if_neg (by decide)]; rfl) hv.1 hv.2).deepn (by omega)) (fun r S3 hq3 => ?_)
      obtain ⟨rfl, c3, w3, f3⟩ := hq3
      exact XQ.ret rfl rfl ⟨rfl, _, c3, w3, (f1.tl hf).tr f3⟩
    · rw [aNew_n hq]
      repeat (first | refine XQ.go rfl rfl ?_ | refine XQ.zeq0 rfl ?_ | refine XQ.zeq1 rfl ?_ | refine XQ.zne0 rfl ?_ | refine XQ.zne1 rfl ?_ | refine XQ.add rfl ⟨by omega, by omega⟩ ?_ | refine XQ.sub rfl ⟨by omega, by omega⟩ ?_ | refine XQ.inc rfl rfl rfl ⟨by omega, by omega⟩ ?_)
      exact XQ.ret rfl rfl ⟨rfl, A, c1, hW1, f1.tl CFr.rf⟩
  · rw [bad (by omega)]
    repeat (first | refine XQ.go rfl rfl ?_ | refine XQ.zeq0 rfl ?_ | refine XQ.zeq1 rfl ?_ | refine XQ.zne0 rfl ?_ | refine XQ.zne1 rfl ?_ | refine XQ.add rfl ⟨by omega, by omega⟩ ?_ | refine XQ.sub rfl ⟨by omega, by omega⟩ ?_ | refine XQ.inc rfl rfl rfl ⟨by omega, by omega⟩ ?_)
    exact XQ.ret rfl rfl ⟨rfl, A, hC, hw, CFr.rf⟩
end I1
