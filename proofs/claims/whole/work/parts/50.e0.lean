/-! the class's methods, walked: vector, weak, table -/
theorem aMake_n {M : MM} {s n room : Int} (h : 60 < aUsed (aRoom M room) + room) : aMake M s n room = (-1, aRoom M room) := by unfold aMake; rw [if_pos h]
theorem aMake_y {M : MM} {s n room : Int} (h : aUsed (aRoom M room) + room ≤ 60) : aMake M s n room = ((aRoom M room) 13 0, aMkO (aRoom M room) s n) := by unfold aMake; rw [if_neg (by omega)]
theorem aNew_n {M : MM} {v s n room : Int} {f : MM → Int → MM} (h : 60 < aUsed (aRoom M room) + room) : aNew M v s n room f = (-2, aRoom M room) := by
  unfold aNew
  rw [aMake_n h, if_pos (show (-1 : Int) < 0 by decide)]
theorem aNew_y {M : MM} {v s n room : Int} {f : MM → Int → MM} (h : aUsed (aRoom M room) + room ≤ 60) (h0 : 0 ≤ aRoom M room 13 0) : aNew M v s n room f = (aRoom M room 13 1 + 1, aHold (f (aMkO (aRoom M room) s n) (aRoom M room 13 0)) v 9 (aRoom M room 13 1 + 1)) := by
  have e : aMkO (aRoom M room) s n 2 (aRoom M room 13 0) = aRoom M room 13 1 + 1 := by rw [(aMkO_ch (aRoom M room) s n).1.2.2.1, if_pos rfl]
  unfold aNew
  rw [aMake_y h, if_neg (by omega)]
  dsimp only
  rw [e]
section I0
variable {d x : Nat} {S S' : MS} {A A' : Int → Nat} {M M' N : MM}
theorem updA_s {h : Int} {a : Nat} : updA A h a h = a := if_pos rfl
/-- three facts about a store with new cells -/
theorem new_s {S S' : MS} {a : Nat} (k : Int) (v : MV) (ha : zS S ≤ a) (h : ∀ b, b < zS S → tS S' b = tS S b ∧ lS S' b = lS S b ∧ vS S' b = vS S b) : ∀ b, b < zS S → tS (mset S' a k v) b = tS S b ∧ lS (mset S' a k v) b = lS S b ∧ vS (mset S' a k v) b = vS S b := fun b hb => ⟨(h b hb).1, (h b hb).2.1, by rw [mset_v _ _ _ _ (by omega)]; exact (h b hb).2.2⟩
theorem new_n {S S' : MS} (t : Nat) (n : Int) (f : Int → MV) (hz : zS S ≤ zS S') (h : ∀ b, b < zS S → tS S' b = tS S b ∧ lS S' b = lS S b ∧ vS S' b = vS S b) : ∀ b, b < zS S → tS (mnew S' t n f) b = tS S b ∧ lS (mnew S' t n f) b = lS S b ∧ vS (mnew S' t n f) b = vS S b := fun b hb => by
  obtain ⟨m1, m2, m3⟩ := mnew_t S' t n f (show b ≠ zS S' by omega)
  rw [m1, m2, m3]
  exact h b hb
theorem fr_n {S' : MS} (t : Nat) (n : Int) (f : Int → MV) (h : ∀ b, zS S' ≤ b → tS S' b = 0) : ∀ b, zS (mnew S' t n f) ≤ b → tS (mnew S' t n f) b = 0 := fun b hb => by
  have hb : zS S' + 1 ≤ b := hb
  rw [(mnew_t S' t n f (show b ≠ zS S' by omega)).1]
  exact h b (by omega)
theorem C_vector {v n : Int} (hC : CL x S A M) (hw : WF M) (hr : M 13 4 < 100000) (hm : M 13 1 < 100000) : XQ (d + 6) k_H_vector 0 (mentry (mL k_H_vector) [.inr (some x), .inl v, .inl n]) [] S (fun q S' => q = some (.inl (aVector M v n).1) ∧ ∃ A', CL x S' A' (aVector M v n).2 ∧ WF (aVector M v n).2 ∧ CFr x 3 30 S S') := by
  have bad : (v < 0 ∨ 5 < v ∨ n < 1 ∨ 4 < n) → aVector M v n = (-1, M) := fun q => by unfold aVector; rw [if_pos q]
  repeat (first | refine XQ.go rfl rfl ?_ | refine XQ.zeq0 rfl ?_ | refine XQ.zeq1 rfl ?_ | refine XQ.zne0 rfl ?_ | refine XQ.zne1 rfl ?_ | refine XQ.add rfl ⟨by omega, by omega⟩ ?_ | refine XQ.sub rfl ⟨by omega, by omega⟩ ?_ | refine XQ.inc rfl rfl rfl ⟨by omega, by omega⟩ ?_)
  refine XQ.s1 rfl rfl (le8 rfl) (C_isVariable (v := v)) (fun r S' hq => ?_)
  obtain ⟨rfl, ⟨rfl, hv⟩ | ⟨rfl, hv⟩⟩ := hq
  · repeat (first | refine XQ.go rfl rfl ?_ | refine XQ.zeq0 rfl ?_ | refine XQ.zeq1 rfl ?_ | refine XQ.zne0 rfl ?_ | refine XQ.zne1 rfl ?_ | refine XQ.add rfl ⟨by omega, by omega⟩ ?_ | refine XQ.sub rfl ⟨by omega, by omega⟩ ?_ | refine XQ.inc rfl rfl rfl ⟨by omega, by omega⟩ ?_)
    refine XQ.clt rfl (fun q => ?_) (fun q => ?_)
    · rw [bad (by omega)]
      repeat (first | refine XQ.go rfl rfl ?_ | refine XQ.zeq0 rfl ?_ | refine XQ.zeq1 rfl ?_ | refine XQ.zne0 rfl ?_ | refine XQ.zne1 rfl ?_ | refine XQ.add rfl ⟨by omega, by omega⟩ ?_ | refine XQ.sub rfl ⟨by omega, by omega⟩ ?_ | refine XQ.inc rfl rfl rfl ⟨by omega, by omega⟩ ?_)
      exact XQ.ret rfl rfl ⟨rfl, A, hC, hw, CFr.rf⟩
    · repeat (first | refine XQ.go rfl rfl ?_ | refine XQ.zeq0 rfl ?_ | refine XQ.zeq1 rfl ?_ | refine XQ.zne0 rfl ?_ | refine XQ.zne1 rfl ?_ | refine XQ.add rfl ⟨by omega, by omega⟩ ?_ | refine XQ.sub rfl ⟨by omega, by omega⟩ ?_ | refine XQ.inc rfl rfl rfl ⟨by omega, by omega⟩ ?_)
      refine XQ.cle rfl (fun q2 => ?_) (fun q2 => ?_)
      · have good : aVector M v n = aNew M v 2 n (2 + n) (fun M _ => M) := by unfold aVector; rw [if_neg (by omega)]
        rw [good]
        repeat (first | refine XQ.go rfl rfl ?_ | refine XQ.zeq0 rfl ?_ | refine XQ.zeq1 rfl ?_ | refine XQ.zne0 rfl ?_ | refine XQ.zne1 rfl ?_ | refine XQ.add rfl ⟨by omega, by omega⟩ ?_ | refine XQ.sub rfl ⟨by omega, by omega⟩ ?_ | refine XQ.inc rfl rfl rfl ⟨by omega, by omega⟩ ?_)
        refine XQ.v2 rfl hC.1.1 rfl (le8 rfl) (C_makeRoom (d := d) (room := 2 + n) hC hw hr (by omega) (by omega)) (fun r S1 hq => ?_)
        obtain ⟨hq, c1, f1⟩ := hq
        have hW1 := (aRoom_wf hw hr (2 + n)).1
        have hm1 : aRoom M (2 + n) 13 1 < 100000 := by rw [(aRoom_ok hw.1 hr (2 + n)).2]; exact hm
        rcases hq with ⟨rfl, hq⟩ | ⟨rfl, hq⟩
        · rw [aNew_y hq hW1.1.1.1]
          generalize aRoom M (2 + n) = R at c1 hW1 hm1 hq ⊢
          have hF := c1.1
          have hfr := hF.2.2.2.2.2.2.2.2.2.1
          have hle := hF.2.2.2.2.2.2.2.2.2.2
          have hb4 := hW1.1.2.2.2
          have hu1 := hW1.1.used
          obtain ⟨hN, hz⟩ := aMkO_ch R 2 n
          repeat (first | refine XQ.go rfl rfl ?_ | refine XQ.zeq0 rfl ?_ | refine XQ.zeq1 rfl ?_ | refine XQ.zne0 rfl ?_ | refine XQ.zne1 rfl ?_ | refine XQ.add rfl ⟨by omega, by omega⟩ ?_ | refine XQ.sub rfl ⟨by omega, by omega⟩ ?_ | refine XQ.inc rfl rfl rfl ⟨by omega, by omega⟩ ?_)
          obtain ⟨m1, m2, m3⟩ := mnew_s S1 3 7 df_V
          have mx := mnew_t S1 3 7 df_V (show x ≠ zS S1 by omega)
          refine XQ.gx rfl (mx.1.trans hF.1) (v := .inl (R 13 1)) ((congrFun mx.2.2 5).trans c1.2.1.1) ?_
          repeat (first | refine XQ.go rfl rfl ?_ | refine XQ.zeq0 rfl ?_ | refine XQ.zeq1 rfl ?_ | refine XQ.zne0 rfl ?_ | refine XQ.zne1 rfl ?_ | refine XQ.add rfl ⟨by omega, by omega⟩ ?_ | refine XQ.sub rfl ⟨by omega, by omega⟩ ?_ | refine XQ.inc rfl rfl rfl ⟨by omega, by omega⟩ ?_)
          refine XQ.v3 rfl m1 rfl (le8 rfl) ((C_Vinit (d := d) (S := mnew S1 3 7 df_V) (a := zS S1) (h := R 13 1 + 1) (n := n) m1 (Nat.lt_succ_self _) q q2).deepn (by omega)) (fun r S2 hq2 => ?_)
          obtain ⟨rfl, rfl⟩ := hq2
          have hs2 : ∀ b, b < zS S1 → tS (mset (mnew (mset (mset (mnew S1 3 7 df_V) (zS S1) 0 (.inl (R 13 1 + 1))) (zS S1) 1 (.inl (2 + n))) 23 n (fun _ => .inr none)) (zS S1) 6 (.inr (some (zS (mnew S1 3 7 df_V))))) b = tS S1 b ∧ lS (mset (mnew (mset (mset (mnew S1 3 7 df_V) (zS S1) 0 (.inl (R 13 1 + 1))) (zS S1) 1 (.inl (2 + n))) 23 n (fun _ => .inr none)) (zS S1) 6 (.inr (some (zS (mnew S1 3 7 df_V))))) b = lS S1 b ∧ vS (mset (mnew (mset (mset (mnew S1 3 7 df_V) (zS S1) 0 (.inl (R 13 1 + 1))) (zS S1) 1 (.inl (2 + n))) 23 n (fun _ => .inr none)) (zS S1) 6 (.inr (some (zS (mnew S1 3 7 df_V))))) b = vS S1 b :=
            new_s _ _ (Nat.le_refl _) (new_n _ _ _ (Nat.le_succ _) (new_s _ _ (Nat.le_refl _) (new_s _ _ (Nat.le_refl _) (new_n 3 7 df_V (Nat.le_refl _) (fun b _ => ⟨rfl, rfl, rfl⟩)))))
          have hf2 : ∀ b, zS S1 + 2 ≤ b → tS (mset (mnew (mset (mset (mnew S1 3 7 df_V) (zS S1) 0 (.inl (R 13 1 + 1))) (zS S1) 1 (.inl (2 + n))) 23 n (fun _ => .inr none)) (zS S1) 6 (.inr (some (zS (mnew S1 3 7 df_V))))) b = 0 := fr_n 23 n (fun _ => .inr none) (S' := mset (mset (mnew S1 3 7 df_V) (zS S1) 0 (.inl (R 13 1 + 1))) (zS S1) 1 (.inl (2 + n))) (fr_n 3 7 df_V hfr)
          have ta : tS (mset (mnew (mset (mset (mnew S1 3 7 df_V) (zS S1) 0 (.inl (R 13 1 + 1))) (zS S1) 1 (.inl (2 + n))) 23 n (fun _ => .inr none)) (zS S1) 6 (.inr (some (zS (mnew S1 3 7 df_V))))) (zS S1) = 3 := (mnew_t (mset (mset (mnew S1 3 7 df_V) (zS S1) 0 (.inl (R 13 1 + 1))) (zS S1) 1 (.inl (2 + n))) 23 n (fun _ => .inr none) (show zS S1 ≠ zS S1 + 1 by omega)).1.trans m1
          have va : ∀ j, vS (mset (mnew (mset (mset (mnew S1 3 7 df_V) (zS S1) 0 (.inl (R 13 1 + 1))) (zS S1) 1 (.inl (2 + n))) 23 n (fun _ => .inr none)) (zS S1) 6 (.inr (some (zS (mnew S1 3 7 df_V))))) (zS S1) j = if j = 6 then .inr (some (zS S1 + 1)) else if j = 1 then .inl (2 + n) else if j = 0 then .inl (R 13 1 + 1) else df_V j := fun j => by
            rw [mset_s]
            by_cases e : j = 6
            · rw [if_pos e, if_pos e]; rfl
            · rw [if_neg e, if_neg e, (mnew_t (mset (mset (mnew S1 3 7 df_V) (zS S1) 0 (.inl (R 13 1 + 1))) (zS S1) 1 (.inl (2 + n))) 23 n (fun _ => .inr none) (show zS S1 ≠ zS S1 + 1 by omega)).2.2, mset_s]
              by_cases e1 : j = 1
              · rw [if_pos e1, if_pos e1]
              · rw [if_neg e1, if_neg e1, mset_s]
                by_cases e0 : j = 0
                · rw [if_pos e0, if_pos e0]
                · rw [if_neg e0, if_neg e0]
                  exact congrFun m3 j
          have hA1 := mnew_s (mset (mset (mnew S1 3 7 df_V) (zS S1) 0 (.inl (R 13 1 + 1))) (zS S1) 1 (.inl (2 + n))) 23 n (fun _ => .inr none)
          have tb : tS (mset (mnew (mset (mset (mnew S1 3 7 df_V) (zS S1) 0 (.inl (R 13 1 + 1))) (zS S1) 1 (.inl (2 + n))) 23 n (fun _ => .inr none)) (zS S1) 6 (.inr (some (zS (mnew S1 3 7 df_V))))) (zS S1 + 1) = 23 := hA1.1
          have lb : lS (mset (mnew (mset (mset (mnew S1 3 7 df_V) (zS S1) 0 (.inl (R 13 1 + 1))) (zS S1) 1 (.inl (2 + n))) 23 n (fun _ => .inr none)) (zS S1) 6 (.inr (some (zS (mnew S1 3 7 df_V))))) (zS S1 + 1) = n := hA1.2.1
          have vb : ∀ j, vS (mset (mnew (mset (mset (mnew S1 3 7 df_V) (zS S1) 0 (.inl (R 13 1 + 1))) (zS S1) 1 (.inl (2 + n))) 23 n (fun _ => .inr none)) (zS S1) 6 (.inr (some (zS (mnew S1 3 7 df_V))))) (zS S1 + 1) j = .inr none := fun j => by
            rw [mset_v _ _ _ _ (by omega)]
            exact congrFun hA1.2.2 j
          have zb : zS (mset (mnew (mset (mset (mnew S1 3 7 df_V) (zS S1) 0 (.inl (R 13 1 + 1))) (zS S1) 1 (.inl (2 + n))) 23 n (fun _ => .inr none)) (zS S1) 6 (.inr (some (zS (mnew S1 3 7 df_V))))) = zS S1 + 2 := rfl
          have qb : qS (mset (mnew (mset (mset (mnew S1 3 7 df_V) (zS S1) 0 (.inl (R 13 1 + 1))) (zS S1) 1 (.inl (2 + n))) 23 n (fun _ => .inr none)) (zS S1) 6 (.inr (some (zS (mnew S1 3 7 df_V))))) = qS S1 + 7 + n.toNat := rfl
          generalize mset (mnew (mset (mset (mnew S1 3 7 df_V) (zS S1) 0 (.inl (R 13 1 + 1))) (zS S1) 1 (.inl (2 + n))) 23 n (fun _ => .inr none)) (zS S1) 6 (.inr (some (zS (mnew S1 3 7 df_V)))) = S2 at hs2 hf2 ta va tb lb vb zb qb ⊢
          have c2 := c1.con hW1 (S' := S2) (by omega) (fun b hb => hf2 b (by omega)) hs2
          have hf : CFr x 3 30 S1 S2 := ⟨by omega, by omega, by omega, by omega, fun a ha => ⟨(hs2 a ha).1, (hs2 a ha).2.1⟩, fun a ha => (hs2 a (by omega)).2.2⟩
          have n2 : aMkO R 2 n 2 (R 13 0) = R 13 1 + 1 := by rw [hN.2.2.1, if_pos rfl]
          have n3 : aMkO R 2 n 3 (R 13 0) = 2 := by rw [hN.2.2.2.1, if_pos rfl]
          have n4 : aMkO R 2 n 4 (R 13 0) = n := by rw [hN.2.2.2.2.1, if_pos rfl]
          have nc : aCells (aMkO R 2 n) (R 13 0) = 2 + n := by unfold aCells; rw [n3, n4, if_pos rfl]
          have h20 : R 13 0 < 20 := by omega
          have hWN : WF (aMkO R 2 n) := hW1.nw hN h20 hm1 (Or.inl ⟨rfl, q, q2⟩) (fun f f0 f1 => by
            rw [hz 5 f (by omega) f0 (by omega)]
            exact ⟨Or.inl rfl, fun z => by omega⟩) (by rw [nc]; exact hq)
          have hob : cObj x S2 (updA A (R 13 1 + 1) (zS S1)) (aMkO R 2 n) (R 13 0) := by
            unfold cObj
            rw [n2, n3, n4, nc, updA_s]
            refine ⟨hle, by rw [va, if_neg (by decide), if_neg (by decide), if_pos rfl], by rw [va, if_neg (by decide), if_pos rfl], Or.inl ⟨ta, rfl, by rw [va, if_pos rfl], tb, lb, fun f f0 f1 => ⟨none, vb f, ?_⟩⟩⟩
            rw [hz 5 f (by omega) f0 (by omega)]
            exact Or.inl ⟨rfl, rfl⟩
          refine XQ.v3 rfl c2.1.1 rfl (le8 rfl) ((C_settle (d := d) (v := v) c2 hW1 hN hWN h20 hm1 q2 updA_s hob ⟨0, by rw [va, if_neg (by decide), if_neg (by decide), if_neg (by decide)]; rfl⟩ (by rw [va, if_neg (by decide), if_neg (by decide), if_neg (by decide)]; rfl) hv.1 hv.2).deepn (by omega)) (fun r S3 hq3 => ?_)
          obtain ⟨rfl, c3, w3, f3⟩ := hq3
          exact XQ.ret rfl rfl ⟨rfl, _, c3, w3, (f1.tl hf).tr f3⟩
        · rw [aNew_n hq]
          repeat (first | refine XQ.go rfl rfl ?_ | refine XQ.zeq0 rfl ?_ | refine XQ.zeq1 rfl ?_ | refine XQ.zne0 rfl ?_ | refine XQ.zne1 rfl ?_ | refine XQ.add rfl ⟨by omega, by omega⟩ ?_ | refine XQ.sub rfl ⟨by omega, by omega⟩ ?_ | refine XQ.inc rfl rfl rfl ⟨by omega, by omega⟩ ?_)
          exact XQ.ret rfl rfl ⟨rfl, A, c1, hW1, f1.tl CFr.rf⟩
      · rw [bad (by omega)]
        repeat (first | refine XQ.go rfl rfl ?_ | refine XQ.zeq0 rfl ?_ | refine XQ.zeq1 rfl ?_ | refine XQ.zne0 rfl ?_ | refine XQ.zne1 rfl ?_ | refine XQ.add rfl ⟨by omega, by omega⟩ ?_ | refine XQ.sub rfl ⟨by omega, by omega⟩ ?_ | refine XQ.inc rfl rfl rfl ⟨by omega, by omega⟩ ?_)
        exact XQ.ret rfl rfl ⟨rfl, A, hC, hw, CFr.rf⟩
  · rw [bad (by omega)]
    repeat (first | refine XQ.go rfl rfl ?_ | refine XQ.zeq0 rfl ?_ | refine XQ.zeq1 rfl ?_ | refine XQ.zne0 rfl ?_ | refine XQ.zne1 rfl ?_ | refine XQ.add rfl ⟨by omega, by omega⟩ ?_ | refine XQ.sub rfl ⟨by omega, by omega⟩ ?_ | refine XQ.inc rfl rfl rfl ⟨by omega, by omega⟩ ?_)
    exact XQ.ret rfl rfl ⟨rfl, A, hC, hw, CFr.rf⟩
theorem C_weak {v w : Int} (hC : CL x S A M) (hw : WF M) (hr : M 13 4 < 100000) (hm : M 13 1 < 100000) : XQ (d + 6) k_H_weak 0 (mentry (mL k_H_weak) [.inr (some x), .inl v, .inl w]) [] S (fun q S' => q = some (.inl (aWeak M v w).1) ∧ ∃ A', CL x S' A' (aWeak M v w).2 ∧ WF (aWeak M v w).2 ∧ CFr x 3 30 S S') := by
  have bad : (v < 0 ∨ 5 < v ∨ aObj M w < 0) → aWeak M v w = (-1, M) := fun q => by unfold aWeak; rw [if_pos q]
  repeat (first | refine XQ.go rfl rfl ?_ | refine XQ.zeq0 rfl ?_ | refine XQ.zeq1 rfl ?_ | refine XQ.zne0 rfl ?_ | refine XQ.zne1 rfl ?_ | refine XQ.add rfl ⟨by omega, by omega⟩ ?_ | refine XQ.sub rfl ⟨by omega, by omega⟩ ?_ | refine XQ.inc rfl rfl rfl ⟨by omega, by omega⟩ ?_)
  refine XQ.v2 rfl hC.1.1 rfl (le8 rfl) ((C_heldThing (d := d) (v := w) hC.1 hC.2.2.2.1 hC.2.2.2.2.1 hw.2.2.1).deepn (by omega)) (fun q S' hq => ?_)
  obtain ⟨rfl, rfl⟩ := hq
  repeat (first | refine XQ.go rfl rfl ?_ | refine XQ.zeq0 rfl ?_ | refine XQ.zeq1 rfl ?_ | refine XQ.zne0 rfl ?_ | refine XQ.zne1 rfl ?_ | refine XQ.add rfl ⟨by omega, by omega⟩ ?_ | refine XQ.sub rfl ⟨by omega, by omega⟩ ?_ | refine XQ.inc rfl rfl rfl ⟨by omega, by omega⟩ ?_)
  refine XQ.s1 rfl rfl (le8 rfl) (C_isVariable (v := v)) (fun r S' hq => ?_)
  obtain ⟨rfl, ⟨rfl, hv⟩ | ⟨rfl, hv⟩⟩ := hq
  · rcases hT_cases hC.2.2.2.2.1 hw w with ⟨e, e2⟩ | ⟨e, w0, w5, w9, hl, htw, g0, g1, g2⟩
    · rw [bad (by omega), e]
      repeat (first | refine XQ.go rfl rfl ?_ | refine XQ.zeq0 rfl ?_ | refine XQ.zeq1 rfl ?_ | refine XQ.zne0 rfl ?_ | refine XQ.zne1 rfl ?_ | refine XQ.add rfl ⟨by omega, by omega⟩ ?_ | refine XQ.sub rfl ⟨by omega, by omega⟩ ?_ | refine XQ.inc rfl rfl rfl ⟨by omega, by omega⟩ ?_)
      exact XQ.ret rfl rfl ⟨rfl, A, hC, hw, CFr.rf⟩
    · rw [e]
      have good : aWeak M v w = aNew M v 3 1 3 (fun M' o => u2 (u2 M' 5 (4 * o) 9) 6 (4 * o) (M' 1 w)) := by unfold aWeak; rw [if_neg (by omega)]
      rw [good]
      repeat (first | refine XQ.go rfl rfl ?_ | refine XQ.zeq0 rfl ?_ | refine XQ.zeq1 rfl ?_ | refine XQ.zne0 rfl ?_ | refine XQ.zne1 rfl ?_ | refine XQ.add rfl ⟨by omega, by omega⟩ ?_ | refine XQ.sub rfl ⟨by omega, by omega⟩ ?_ | refine XQ.inc rfl rfl rfl ⟨by omega, by omega⟩ ?_)
      refine XQ.v2 rfl hC.1.1 rfl (le8 rfl) (C_makeRoom (d := d) (room := 3) hC hw hr (by omega) (by omega)) (fun r S1 hq => ?_)
      obtain ⟨hq, c1, f1⟩ := hq
      obtain ⟨hW1, h01⟩ := aRoom_wf hw hr 3
      have hm1 : aRoom M 3 13 1 < 100000 := by rw [(aRoom_ok hw.1 hr 3).2]; exact hm
      have hw9 : aRoom M 3 0 w = 9 := by rw [h01 0 w (Or.inl rfl)]; exact w9
      have hw1 : aRoom M 3 1 w = M 1 w := h01 1 w (Or.inr rfl)
      rcases hq with ⟨rfl, hq⟩ | ⟨rfl, hq⟩
      · rw [aNew_y hq hW1.1.1.1]
        rw [← hw1]
        generalize aRoom M 3 = R at c1 hW1 hm1 hq hw9 ⊢
        have hF := c1.1
        have hfr := hF.2.2.2.2.2.2.2.2.2.1
        have hle := hF.2.2.2.2.2.2.2.2.2.2
        have hb4 := hW1.1.2.2.2
        have hu1 := hW1.1.used
        have lw : live R (R 1 w) := by
          rcases hW1.2.2.1 w w0 w5 with z | z | z
          · omega
          · omega
          · exact z.2
        obtain ⟨hN0, hz⟩ := aMkO_ch R 3 1
        have e1w : aMkO R 3 1 1 w = R 1 w := hN0.1 1 w rfl
        rw [e1w]
        have hN : NW R (u2 (u2 (aMkO R 3 1) 5 (4 * R 13 0) 9) 6 (4 * R 13 0) (R 1 w)) 3 1 := by
          obtain ⟨y1, y2, y3, y4, y5, y6⟩ := hN0
          refine ⟨(y1.u rfl _ _).u rfl _ _, fun i => ?_, fun i => ?_, fun i => ?_, fun i => ?_, fun j i hj hi => ?_⟩
          · rw [u2_n _ _ (Or.inl (by decide)), u2_n _ _ (Or.inl (by decide)), y2]
          · rw [u2_n _ _ (Or.inl (by decide)), u2_n _ _ (Or.inl (by decide)), y3]
          · rw [u2_n _ _ (Or.inl (by decide)), u2_n _ _ (Or.inl (by decide)), y4]
          · rw [u2_n _ _ (Or.inl (by decide)), u2_n _ _ (Or.inl (by decide)), y5]
          · rw [u2_n _ _ (Or.inr (by omega)), u2_n _ _ (Or.inr (by omega)), y6 j i hj hi]
        have k5 : u2 (u2 (aMkO R 3 1) 5 (4 * R 13 0) 9) 6 (4 * R 13 0) (R 1 w) 5 (4 * R 13 0) = 9 := by rw [u2_n _ _ (Or.inl (by decide)), u2_s]
        have k6 : u2 (u2 (aMkO R 3 1) 5 (4 * R 13 0) 9) 6 (4 * R 13 0) (R 1 w) 6 (4 * R 13 0) = R 1 w := u2_s _ _ _ _
        generalize u2 (u2 (aMkO R 3 1) 5 (4 * R 13 0) 9) 6 (4 * R 13 0) (R 1 w) = N at hN k5 k6 ⊢
        repeat (first | refine XQ.go rfl rfl ?_ | refine XQ.zeq0 rfl ?_ | refine XQ.zeq1 rfl ?_ | refine XQ.zne0 rfl ?_ | refine XQ.zne1 rfl ?_ | refine XQ.add rfl ⟨by omega, by omega⟩ ?_ | refine XQ.sub rfl ⟨by omega, by omega⟩ ?_ | refine XQ.inc rfl rfl rfl ⟨by omega, by omega⟩ ?_)
        obtain ⟨m1, m2, m3⟩ := mnew_s S1 4 7 df_K
        have mx := mnew_t S1 4 7 df_K (show x ≠ zS S1 by omega)
        refine XQ.gx rfl (mx.1.trans hF.1) (v := .inl (R 13 1)) ((congrFun mx.2.2 5).trans c1.2.1.1) ?_
        repeat (first | refine XQ.go rfl rfl ?_ | refine XQ.zeq0 rfl ?_ | refine XQ.zeq1 rfl ?_ | refine XQ.zne0 rfl ?_ | refine XQ.zne1 rfl ?_ | refine XQ.add rfl ⟨by omega, by omega⟩ ?_ | refine XQ.sub rfl ⟨by omega, by omega⟩ ?_ | refine XQ.inc rfl rfl rfl ⟨by omega, by omega⟩ ?_)
        refine XQ.v3 rfl m1 rfl (le8 rfl) ((C_Kinit (d := d) (S := mnew S1 4 7 df_K) (a := zS S1) (h := R 13 1 + 1) (r := some (A (R 1 w))) m1).deepn (by omega)) (fun r S2 hq2 => ?_)
        obtain ⟨rfl, rfl⟩ := hq2
        have hs2 : ∀ b, b < zS S1 → tS (mset (mset (mset (mnew S1 4 7 df_K) (zS S1) 0 (.inl (R 13 1 + 1))) (zS S1) 1 (.inl 3)) (zS S1) 6 (.inr (some (A (R 1 w))))) b = tS S1 b ∧ lS (mset (mset (mset (mnew S1 4 7 df_K) (zS S1) 0 (.inl (R 13 1 + 1))) (zS S1) 1 (.inl 3)) (zS S1) 6 (.inr (some (A (R 1 w))))) b = lS S1 b ∧ vS (mset (mset (mset (mnew S1 4 7 df_K) (zS S1) 0 (.inl (R 13 1 + 1))) (zS S1) 1 (.inl 3)) (zS S1) 6 (.inr (some (A (R 1 w))))) b = vS S1 b :=
          new_s _ _ (Nat.le_refl _) (new_s _ _ (Nat.le_refl _) (new_s _ _ (Nat.le_refl _) (new_n 4 7 df_K (Nat.le_refl _) (fun b _ => ⟨rfl, rfl, rfl⟩))))
        have hf2 : ∀ b, zS S1 + 1 ≤ b → tS (mset (mset (mset (mnew S1 4 7 df_K) (zS S1) 0 (.inl (R 13 1 + 1))) (zS S1) 1 (.inl 3)) (zS S1) 6 (.inr (some (A (R 1 w))))) b = 0 := fr_n 4 7 df_K hfr
        have ta : tS (mset (mset (mset (mnew S1 4 7 df_K) (zS S1) 0 (.inl (R 13 1 + 1))) (zS S1) 1 (.inl 3)) (zS S1) 6 (.inr (some (A (R 1 w))))) (zS S1) = 4 := m1
        have va : ∀ j, vS (mset (mset (mset (mnew S1 4 7 df_K) (zS S1) 0 (.inl (R 13 1 + 1))) (zS S1) 1 (.inl 3)) (zS S1) 6 (.inr (some (A (R 1 w))))) (zS S1) j = if j = 6 then .inr (some (A (R 1 w))) else if j = 1 then .inl 3 else if j = 0 then .inl (R 13 1 + 1) else df_K j := fun j => by
          rw [mset_s]
          by_cases e : j = 6
          · rw [if_pos e, if_pos e]
          · rw [if_neg e, if_neg e, mset_s]
            by_cases e1 : j = 1
            · rw [if_pos e1, if_pos e1]
            · rw [if_neg e1, if_neg e1, mset_s]
              by_cases e0 : j = 0
              · rw [if_pos e0, if_pos e0]
              · rw [if_neg e0, if_neg e0]
                exact congrFun m3 j
        have zb : zS (mset (mset (mset (mnew S1 4 7 df_K) (zS S1) 0 (.inl (R 13 1 + 1))) (zS S1) 1 (.inl 3)) (zS S1) 6 (.inr (some (A (R 1 w))))) = zS S1 + 1 := rfl
        have qb : qS (mset (mset (mset (mnew S1 4 7 df_K) (zS S1) 0 (.inl (R 13 1 + 1))) (zS S1) 1 (.inl 3)) (zS S1) 6 (.inr (some (A (R 1 w))))) = qS S1 + 7 := rfl
        generalize mset (mset (mset (mnew S1 4 7 df_K) (zS S1) 0 (.inl (R 13 1 + 1))) (zS S1) 1 (.inl 3)) (zS S1) 6 (.inr (some (A (R 1 w)))) = S2 at hs2 hf2 ta va zb qb ⊢
        have c2 := c1.con hW1 (S' := S2) (by omega) (fun b hb => hf2 b (by omega)) hs2
        have hf : CFr x 3 30 S1 S2 := ⟨by omega, by omega, by omega, by omega, fun a ha => ⟨(hs2 a ha).1, (hs2 a ha).2.1⟩, fun a ha => (hs2 a (by omega)).2.2⟩
        have n2 : N 2 (R 13 0) = R 13 1 + 1 := by rw [hN.2.2.1, if_pos rfl]
        have n3 : N 3 (R 13 0) = 3 := by rw [hN.2.2.2.1, if_pos rfl]
        have n4 : N 4 (R 13 0) = 1 := by rw [hN.2.2.2.2.1, if_pos rfl]
        have nc : aCells N (R 13 0) = 3 := by unfold aCells; rw [n3, if_neg (by decide), if_pos rfl]
        have h20 : R 13 0 < 20 := by omega
        have hWN : WF N := hW1.nw hN h20 hm1 (Or.inr (Or.inl ⟨rfl, rfl⟩)) (fun f f0 f1 => by
          have hf0 : f = 0 := by omega
          subst hf0
          rw [Int.add_zero, k5, k6]
          exact ⟨Or.inr (Or.inr ⟨rfl, lw⟩), fun _ => by decide⟩) (by rw [nc]; exact hq)
        have hAw : updA A (R 13 1 + 1) (zS S1) (R 1 w) = A (R 1 w) := by
          obtain ⟨o, o0, o1, o2⟩ := lw
          have := (hW1.2.1.2 o o0 o1).2
          unfold updA
          rw [if_neg (by omega)]
        have hob : cObj x S2 (updA A (R 13 1 + 1) (zS S1)) N (R 13 0) := by
          unfold cObj
          rw [n2, n3, n4, nc, updA_s, k5, k6]
          exact ⟨hle, by rw [va, if_neg (by decide), if_neg (by decide), if_pos rfl], by rw [va, if_neg (by decide), if_pos rfl], Or.inr (Or.inl ⟨ta, rfl, some (A (R 1 w)), by rw [va, if_pos rfl], Or.inr (Or.inr ⟨rfl, by rw [hAw]⟩)⟩)⟩
        refine XQ.v3 rfl c2.1.1 rfl (le8 rfl) ((C_settle (d := d) (v := v) c2 hW1 hN hWN h20 hm1 (by decide) updA_s hob ⟨0, by rw [va, if_neg (by decide), if_neg (by decide), if_neg (by decide)]; rfl⟩ (by rw [va, if_neg (by decide), if_neg (by decide), if_neg (by decide)]; rfl) hv.1 hv.2).deepn (by omega)) (fun r S3 hq3 => ?_)
        obtain ⟨rfl, c3, w3, f3⟩ := hq3
        exact XQ.ret rfl rfl ⟨rfl, _, c3, w3, (f1.tl hf).tr f3⟩
      · rw [aNew_n hq]
        repeat (first | refine XQ.go rfl rfl ?_ | refine XQ.zeq0 rfl ?_ | refine XQ.zeq1 rfl ?_ | refine XQ.zne0 rfl ?_ | refine XQ.zne1 rfl ?_ | refine XQ.add rfl ⟨by omega, by omega⟩ ?_ | refine XQ.sub rfl ⟨by omega, by omega⟩ ?_ | refine XQ.inc rfl rfl rfl ⟨by omega, by omega⟩ ?_)
        exact XQ.ret rfl rfl ⟨rfl, A, c1, hW1, f1.tl CFr.rf⟩
  · rw [bad (by omega)]
    repeat (first | refine XQ.go rfl rfl ?_ | refine XQ.zeq0 rfl ?_ | refine XQ.zeq1 rfl ?_ | refine XQ.zne0 rfl ?_ | refine XQ.zne1 rfl ?_ | refine XQ.add rfl ⟨by omega, by omega⟩ ?_ | refine XQ.sub rfl ⟨by omega, by omega⟩ ?_ | refine XQ.inc rfl rfl rfl ⟨by omega, by omega⟩ ?_)
    exact XQ.ret rfl rfl ⟨rfl, A, hC, hw, CFr.rf⟩
end I0
