/-! the reference's methods, walked: the small ones -/
section M1
variable {d m : Nat} {S0 S : MS} {M : MM}
theorem M_isVar {v : Int} : XQ d k_M_isVar 0 (mentry (mL k_M_isVar) [.inl v]) [] S (fun r S' => r = some (.inl (if 0 ≤ v ∧ v ≤ 5 then 1 else 0)) ∧ S' = S) := by
  refine XQ.go rfl rfl ?_
  refine XQ.zlt rfl (fun h => ?_) (fun h => ?_)
  · rw [if_neg (by omega)]
    repeat refine XQ.go rfl rfl ?_
    exact XQ.ret rfl rfl ⟨rfl, rfl⟩
  · repeat refine XQ.go rfl rfl ?_
    refine XQ.cgt rfl (fun h2 => ?_) (fun h2 => ?_)
    · rw [if_neg (by omega)]
      repeat refine XQ.go rfl rfl ?_
      exact XQ.ret rfl rfl ⟨rfl, rfl⟩
    · rw [if_pos (by omega)]
      repeat refine XQ.go rfl rfl ?_
      exact XQ.ret rfl rfl ⟨rfl, rfl⟩
theorem M_at_l {h : Int} (hM : MO m S0 S M) (hB : BW M) : ∀ (j o : Nat), ((o + j : Nat) : Int) = M 13 0 → XQ d k_M_at 4 [some (.inr (some m)), some (.inl h), some (.inl (atR M h o)), some (.inl (o : Int))] [] S (fun v S' => v = some (.inl (aAt M h)) ∧ S' = S) := by
  intro j
  induction j with
  | zero =>
    intro o ho
    repeat (first | refine XQ.go rfl rfl ?_ | refine XQ.mg hM rfl rfl ?_)
    refine XQ.cge rfl (fun q => ?_) (fun q => by omega)
    repeat refine XQ.go rfl rfl ?_
    refine XQ.ret rfl rfl ⟨?_, rfl⟩
    unfold aAt
    rw [← ho]
    rfl
  | succ j ih =>
    intro o ho
    have hb := hB.1
    repeat (first | refine XQ.go rfl rfl ?_ | refine XQ.mg hM rfl rfl ?_)
    refine XQ.cge rfl (fun q => by omega) (fun q => ?_)
    repeat (first | refine XQ.go rfl rfl ?_ | refine XQ.mg hM rfl rfl ?_)
    refine XQ.ml hM rfl rfl (by decide) (by omega) (show (o : Int) < 20 by omega) ?_
    repeat (first | refine XQ.go rfl rfl ?_ | refine XQ.mg hM rfl rfl ?_)
    have ih2 := ih (o + 1) (by omega)
    refine XQ.cne rfl (fun q2 => ?_) (fun q2 => ?_)
    · repeat refine XQ.go rfl rfl ?_
      refine XQ.inc rfl rfl rfl ⟨by omega, by omega⟩ ?_
      have e : atR M h (o + 1) = atR M h o := by show (if M 2 (o : Int) = h then (o : Int) else atR M h o) = _; rw [if_neg q2]
      rw [e] at ih2
      repeat (first | exact ih2 | refine XQ.go rfl rfl ?_)
    · repeat refine XQ.go rfl rfl ?_
      refine XQ.inc rfl rfl rfl ⟨by omega, by omega⟩ ?_
      have e : atR M h (o + 1) = (o : Int) := by show (if M 2 (o : Int) = h then (o : Int) else atR M h o) = _; rw [if_pos q2]
      rw [e] at ih2
      repeat (first | exact ih2 | refine XQ.go rfl rfl ?_)
theorem M_at {h : Int} (hM : MO m S0 S M) (hB : BW M) : XQ d k_M_at 0 (mentry (mL k_M_at) [.inr (some m), .inl h]) [] S (fun v S' => v = some (.inl (aAt M h)) ∧ S' = S) := by
  have h0 := M_at_l (d := d) (h := h) hM hB (M 13 0).toNat 0 (by have := hB.1; omega)
  repeat (first | exact h0 | refine XQ.go rfl rfl ?_)
end M1
