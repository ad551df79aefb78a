/-! the reference's methods, walked: the small ones -/
/-- the answer of isVar -/
def isV (v : Int) (r : Option MV) : Prop := (r = some (.inl 1) ∧ 0 ≤ v ∧ v ≤ 5) ∨ (r = some (.inl 0) ∧ (v < 0 ∨ 5 < v))
section M1
variable {d m : Nat} {S0 S : MS} {M : MM}
theorem M_isVar {v : Int} : XQ d k_M_isVar 0 (mentry (mL k_M_isVar) [.inl v]) [] S (fun r S' => S' = S ∧ isV v r) := by
  refine XQ.go rfl rfl ?_
  refine XQ.zlt rfl (fun h => ?_) (fun h => ?_)
  · repeat refine XQ.go rfl rfl ?_
    exact XQ.ret rfl rfl ⟨rfl, Or.inr ⟨rfl, by omega⟩⟩
  · repeat refine XQ.go rfl rfl ?_
    refine XQ.cgt rfl (fun h2 => ?_) (fun h2 => ?_)
    · repeat refine XQ.go rfl rfl ?_
      exact XQ.ret rfl rfl ⟨rfl, Or.inr ⟨rfl, by omega⟩⟩
    · repeat refine XQ.go rfl rfl ?_
      exact XQ.ret rfl rfl ⟨rfl, Or.inl ⟨rfl, by omega⟩⟩
theorem M_at_l {h : Int} (hM : MO m S0 S M) (hB : BN M) : ∀ (j o : Nat), ((o + j : Nat) : Int) = M 13 0 → XQ d k_M_at 4 [some (.inr (some m)), some (.inl h), some (.inl (atR M h o)), some (.inl (o : Int))] [] S (fun v S' => S' = S ∧ v = some (.inl (aAt M h))) := by
  intro j
  induction j with
  | zero =>
    intro o ho
    repeat (first | refine XQ.go rfl rfl ?_ | refine XQ.zeq0 rfl ?_ | refine XQ.zeq1 rfl ?_ | refine XQ.zne0 rfl ?_ | refine XQ.zne1 rfl ?_ | refine XQ.mg hM rfl rfl ?_ | refine XQ.ml hM rfl rfl (by decide) (by omega) (by simp only [mLen]; omega) ?_ | refine XQ.add rfl ⟨by omega, by omega⟩ ?_ | refine XQ.sub rfl ⟨by omega, by omega⟩ ?_ | refine XQ.mul rfl ⟨by omega, by omega⟩ ?_ | refine XQ.inc rfl rfl rfl ⟨by omega, by omega⟩ ?_ | refine XQ.ms hM rfl rfl (by decide) (by omega) (by simp only [mLen]; omega) (fun S hM => ?_) | refine XQ.mp hM rfl rfl (fun S hM => ?_))
    refine XQ.cge rfl (fun q => ?_) (fun q => by omega)
    repeat (first | refine XQ.go rfl rfl ?_ | refine XQ.zeq0 rfl ?_ | refine XQ.zeq1 rfl ?_ | refine XQ.zne0 rfl ?_ | refine XQ.zne1 rfl ?_ | refine XQ.mg hM rfl rfl ?_ | refine XQ.ml hM rfl rfl (by decide) (by omega) (by simp only [mLen]; omega) ?_ | refine XQ.add rfl ⟨by omega, by omega⟩ ?_ | refine XQ.sub rfl ⟨by omega, by omega⟩ ?_ | refine XQ.mul rfl ⟨by omega, by omega⟩ ?_ | refine XQ.inc rfl rfl rfl ⟨by omega, by omega⟩ ?_ | refine XQ.ms hM rfl rfl (by decide) (by omega) (by simp only [mLen]; omega) (fun S hM => ?_) | refine XQ.mp hM rfl rfl (fun S hM => ?_))
    refine XQ.ret rfl rfl ⟨rfl, ?_⟩
    unfold aAt
    rw [← ho]
    rfl
  | succ j ih =>
    intro o ho
    have hb := hB
    unfold BN at hb
    repeat (first | refine XQ.go rfl rfl ?_ | refine XQ.zeq0 rfl ?_ | refine XQ.zeq1 rfl ?_ | refine XQ.zne0 rfl ?_ | refine XQ.zne1 rfl ?_ | refine XQ.mg hM rfl rfl ?_ | refine XQ.ml hM rfl rfl (by decide) (by omega) (by simp only [mLen]; omega) ?_ | refine XQ.add rfl ⟨by omega, by omega⟩ ?_ | refine XQ.sub rfl ⟨by omega, by omega⟩ ?_ | refine XQ.mul rfl ⟨by omega, by omega⟩ ?_ | refine XQ.inc rfl rfl rfl ⟨by omega, by omega⟩ ?_ | refine XQ.ms hM rfl rfl (by decide) (by omega) (by simp only [mLen]; omega) (fun S hM => ?_) | refine XQ.mp hM rfl rfl (fun S hM => ?_))
    refine XQ.cge rfl (fun q => by omega) (fun q => ?_)
    repeat (first | refine XQ.go rfl rfl ?_ | refine XQ.zeq0 rfl ?_ | refine XQ.zeq1 rfl ?_ | refine XQ.zne0 rfl ?_ | refine XQ.zne1 rfl ?_ | refine XQ.mg hM rfl rfl ?_ | refine XQ.ml hM rfl rfl (by decide) (by omega) (by simp only [mLen]; omega) ?_ | refine XQ.add rfl ⟨by omega, by omega⟩ ?_ | refine XQ.sub rfl ⟨by omega, by omega⟩ ?_ | refine XQ.mul rfl ⟨by omega, by omega⟩ ?_ | refine XQ.inc rfl rfl rfl ⟨by omega, by omega⟩ ?_ | refine XQ.ms hM rfl rfl (by decide) (by omega) (by simp only [mLen]; omega) (fun S hM => ?_) | refine XQ.mp hM rfl rfl (fun S hM => ?_))
    have ih2 := ih (o + 1) (by omega)
    refine XQ.cne rfl (fun q2 => ?_) (fun q2 => ?_)
    · have e : atR M h (o + 1) = atR M h o := by show (if M 2 (o : Int) = h then (o : Int) else atR M h o) = _; rw [if_neg q2]
      rw [e] at ih2
      repeat (first | exact ih2 | refine XQ.go rfl rfl ?_ | refine XQ.zeq0 rfl ?_ | refine XQ.zeq1 rfl ?_ | refine XQ.zne0 rfl ?_ | refine XQ.zne1 rfl ?_ | refine XQ.mg hM rfl rfl ?_ | refine XQ.ml hM rfl rfl (by decide) (by omega) (by simp only [mLen]; omega) ?_ | refine XQ.add rfl ⟨by omega, by omega⟩ ?_ | refine XQ.sub rfl ⟨by omega, by omega⟩ ?_ | refine XQ.mul rfl ⟨by omega, by omega⟩ ?_ | refine XQ.inc rfl rfl rfl ⟨by omega, by omega⟩ ?_ | refine XQ.ms hM rfl rfl (by decide) (by omega) (by simp only [mLen]; omega) (fun S hM => ?_) | refine XQ.mp hM rfl rfl (fun S hM => ?_))
    · have e : atR M h (o + 1) = (o : Int) := by show (if M 2 (o : Int) = h then (o : Int) else atR M h o) = _; rw [if_pos q2]
      rw [e] at ih2
      repeat (first | exact ih2 | refine XQ.go rfl rfl ?_ | refine XQ.zeq0 rfl ?_ | refine XQ.zeq1 rfl ?_ | refine XQ.zne0 rfl ?_ | refine XQ.zne1 rfl ?_ | refine XQ.mg hM rfl rfl ?_ | refine XQ.ml hM rfl rfl (by decide) (by omega) (by simp only [mLen]; omega) ?_ | refine XQ.add rfl ⟨by omega, by omega⟩ ?_ | refine XQ.sub rfl ⟨by omega, by omega⟩ ?_ | refine XQ.mul rfl ⟨by omega, by omega⟩ ?_ | refine XQ.inc rfl rfl rfl ⟨by omega, by omega⟩ ?_ | refine XQ.ms hM rfl rfl (by decide) (by omega) (by simp only [mLen]; omega) (fun S hM => ?_) | refine XQ.mp hM rfl rfl (fun S hM => ?_))
theorem M_at {h : Int} (hM : MO m S0 S M) (hB : BN M) : XQ d k_M_at 0 (mentry (mL k_M_at) [.inr (some m), .inl h]) [] S (fun v S' => S' = S ∧ v = some (.inl (aAt M h))) := by
  have h0 := M_at_l (d := d) (h := h) hM hB (M 13 0).toNat 0 (by have := hB.1; omega)
  repeat (first | exact h0 | refine XQ.go rfl rfl ?_ | refine XQ.zeq0 rfl ?_ | refine XQ.zeq1 rfl ?_ | refine XQ.zne0 rfl ?_ | refine XQ.zne1 rfl ?_ | refine XQ.mg hM rfl rfl ?_ | refine XQ.ml hM rfl rfl (by decide) (by omega) (by simp only [mLen]; omega) ?_ | refine XQ.add rfl ⟨by omega, by omega⟩ ?_ | refine XQ.sub rfl ⟨by omega, by omega⟩ ?_ | refine XQ.mul rfl ⟨by omega, by omega⟩ ?_ | refine XQ.inc rfl rfl rfl ⟨by omega, by omega⟩ ?_ | refine XQ.ms hM rfl rfl (by decide) (by omega) (by simp only [mLen]; omega) (fun S hM => ?_) | refine XQ.mp hM rfl rfl (fun S hM => ?_))
theorem M_object {v : Int} (hM : MO m S0 S M) (hB : BW M) : XQ (d + 1) k_M_object 0 (mentry (mL k_M_object) [.inr (some m), .inl v]) [] S (fun r S' => S' = S ∧ r = some (.inl (aObj M v))) := by
  repeat (first | refine XQ.go rfl rfl ?_ | refine XQ.zeq0 rfl ?_ | refine XQ.zeq1 rfl ?_ | refine XQ.zne0 rfl ?_ | refine XQ.zne1 rfl ?_ | refine XQ.mg hM rfl rfl ?_ | refine XQ.ml hM rfl rfl (by decide) (by omega) (by simp only [mLen]; omega) ?_ | refine XQ.add rfl ⟨by omega, by omega⟩ ?_ | refine XQ.sub rfl ⟨by omega, by omega⟩ ?_ | refine XQ.mul rfl ⟨by omega, by omega⟩ ?_ | refine XQ.inc rfl rfl rfl ⟨by omega, by omega⟩ ?_ | refine XQ.ms hM rfl rfl (by decide) (by omega) (by simp only [mLen]; omega) (fun S hM => ?_) | refine XQ.mp hM rfl rfl (fun S hM => ?_))
  refine XQ.s1 rfl rfl (le8 rfl) (M_isVar (v := v)) (fun r S' hq => ?_)
  obtain ⟨rfl, ⟨rfl, hv⟩ | ⟨rfl, hv⟩⟩ := hq
  · repeat (first | refine XQ.go rfl rfl ?_ | refine XQ.zeq0 rfl ?_ | refine XQ.zeq1 rfl ?_ | refine XQ.zne0 rfl ?_ | refine XQ.zne1 rfl ?_ | refine XQ.mg hM rfl rfl ?_ | refine XQ.ml hM rfl rfl (by decide) (by omega) (by simp only [mLen]; omega) ?_ | refine XQ.add rfl ⟨by omega, by omega⟩ ?_ | refine XQ.sub rfl ⟨by omega, by omega⟩ ?_ | refine XQ.mul rfl ⟨by omega, by omega⟩ ?_ | refine XQ.inc rfl rfl rfl ⟨by omega, by omega⟩ ?_ | refine XQ.ms hM rfl rfl (by decide) (by omega) (by simp only [mLen]; omega) (fun S hM => ?_) | refine XQ.mp hM rfl rfl (fun S hM => ?_))
    refine XQ.cne rfl (fun q => ?_) (fun q => ?_)
    · repeat (first | refine XQ.go rfl rfl ?_ | refine XQ.zeq0 rfl ?_ | refine XQ.zeq1 rfl ?_ | refine XQ.zne0 rfl ?_ | refine XQ.zne1 rfl ?_ | refine XQ.mg hM rfl rfl ?_ | refine XQ.ml hM rfl rfl (by decide) (by omega) (by simp only [mLen]; omega) ?_ | refine XQ.add rfl ⟨by omega, by omega⟩ ?_ | refine XQ.sub rfl ⟨by omega, by omega⟩ ?_ | refine XQ.mul rfl ⟨by omega, by omega⟩ ?_ | refine XQ.inc rfl rfl rfl ⟨by omega, by omega⟩ ?_ | refine XQ.ms hM rfl rfl (by decide) (by omega) (by simp only [mLen]; omega) (fun S hM => ?_) | refine XQ.mp hM rfl rfl (fun S hM => ?_))
      refine XQ.ret rfl rfl ⟨rfl, ?_⟩
      unfold aObj
      rw [if_neg (fun z => q z.2.2)]
    · repeat (first | refine XQ.go rfl rfl ?_ | refine XQ.zeq0 rfl ?_ | refine XQ.zeq1 rfl ?_ | refine XQ.zne0 rfl ?_ | refine XQ.zne1 rfl ?_ | refine XQ.mg hM rfl rfl ?_ | refine XQ.ml hM rfl rfl (by decide) (by omega) (by simp only [mLen]; omega) ?_ | refine XQ.add rfl ⟨by omega, by omega⟩ ?_ | refine XQ.sub rfl ⟨by omega, by omega⟩ ?_ | refine XQ.mul rfl ⟨by omega, by omega⟩ ?_ | refine XQ.inc rfl rfl rfl ⟨by omega, by omega⟩ ?_ | refine XQ.ms hM rfl rfl (by decide) (by omega) (by simp only [mLen]; omega) (fun S hM => ?_) | refine XQ.mp hM rfl rfl (fun S hM => ?_))
      refine XQ.v2 rfl hM.1.1 rfl (le8 rfl) (M_at hM hB.1) (fun r S' hq => ?_)
      obtain ⟨rfl, rfl⟩ := hq
      repeat (first | refine XQ.go rfl rfl ?_ | refine XQ.zeq0 rfl ?_ | refine XQ.zeq1 rfl ?_ | refine XQ.zne0 rfl ?_ | refine XQ.zne1 rfl ?_ | refine XQ.mg hM rfl rfl ?_ | refine XQ.ml hM rfl rfl (by decide) (by omega) (by simp only [mLen]; omega) ?_ | refine XQ.add rfl ⟨by omega, by omega⟩ ?_ | refine XQ.sub rfl ⟨by omega, by omega⟩ ?_ | refine XQ.mul rfl ⟨by omega, by omega⟩ ?_ | refine XQ.inc rfl rfl rfl ⟨by omega, by omega⟩ ?_ | refine XQ.ms hM rfl rfl (by decide) (by omega) (by simp only [mLen]; omega) (fun S hM => ?_) | refine XQ.mp hM rfl rfl (fun S hM => ?_))
      refine XQ.ret rfl rfl ⟨rfl, ?_⟩
      unfold aObj
      rw [if_pos ⟨hv.1, hv.2, q⟩]
  · repeat (first | refine XQ.go rfl rfl ?_ | refine XQ.zeq0 rfl ?_ | refine XQ.zeq1 rfl ?_ | refine XQ.zne0 rfl ?_ | refine XQ.zne1 rfl ?_ | refine XQ.mg hM rfl rfl ?_ | refine XQ.ml hM rfl rfl (by decide) (by omega) (by simp only [mLen]; omega) ?_ | refine XQ.add rfl ⟨by omega, by omega⟩ ?_ | refine XQ.sub rfl ⟨by omega, by omega⟩ ?_ | refine XQ.mul rfl ⟨by omega, by omega⟩ ?_ | refine XQ.inc rfl rfl rfl ⟨by omega, by omega⟩ ?_ | refine XQ.ms hM rfl rfl (by decide) (by omega) (by simp only [mLen]; omega) (fun S hM => ?_) | refine XQ.mp hM rfl rfl (fun S hM => ?_))
    refine XQ.ret rfl rfl ⟨rfl, ?_⟩
    unfold aObj
    rw [if_neg (fun z => by omega)]
theorem aAt_in (hB : BN M) (h : Int) : aAt M h = -1 ∨ (0 ≤ aAt M h ∧ aAt M h < M 13 0 ∧ M 2 (aAt M h) = h) := by
  unfold aAt
  by_cases e : ∃ o : Nat, o < (M 13 0).toNat ∧ M 2 (o : Int) = h
  · obtain ⟨o, h1, h2, h3⟩ := atR_some _ e
    rw [h3]
    exact Or.inr ⟨by omega, by omega, h2⟩
  · exact Or.inl (atR_none _ (fun o ho q => e ⟨o, ho, q⟩))
theorem aObj_in (hB : BN M) (v : Int) : aObj M v = -1 ∨ (0 ≤ aObj M v ∧ aObj M v < M 13 0 ∧ 0 ≤ v ∧ v ≤ 5 ∧ M 0 v = 9 ∧ M 2 (aObj M v) = M 1 v) := by
  unfold aObj
  split
  · rename_i hc
    rcases aAt_in hB (M 1 v) with h | h
    · exact Or.inl h
    · exact Or.inr ⟨h.1, h.2.1, hc.1, hc.2.1, hc.2.2, h.2.2⟩
  · exact Or.inl rfl
theorem aObjOf_in (hB : BN M) (v s : Int) : aObjOf M v s = -1 ∨ (aObjOf M v s = aObj M v ∧ 0 ≤ aObj M v ∧ M 3 (aObj M v) = s) := by
  unfold aObjOf
  split
  · rename_i hc
    exact Or.inr ⟨rfl, hc.1, hc.2⟩
  · exact Or.inl rfl
theorem M_objectOf {v s : Int} (hM : MO m S0 S M) (hB : BW M) : XQ (d + 2) k_M_objectOf 0 (mentry (mL k_M_objectOf) [.inr (some m), .inl v, .inl s]) [] S (fun r S' => S' = S ∧ r = some (.inl (aObjOf M v s))) := by
  have hb := hB.1
  have hi := aObj_in hB.1 v
  repeat (first | refine XQ.go rfl rfl ?_ | refine XQ.zeq0 rfl ?_ | refine XQ.zeq1 rfl ?_ | refine XQ.zne0 rfl ?_ | refine XQ.zne1 rfl ?_ | refine XQ.mg hM rfl rfl ?_ | refine XQ.ml hM rfl rfl (by decide) (by omega) (by simp only [mLen]; omega) ?_ | refine XQ.add rfl ⟨by omega, by omega⟩ ?_ | refine XQ.sub rfl ⟨by omega, by omega⟩ ?_ | refine XQ.mul rfl ⟨by omega, by omega⟩ ?_ | refine XQ.inc rfl rfl rfl ⟨by omega, by omega⟩ ?_ | refine XQ.ms hM rfl rfl (by decide) (by omega) (by simp only [mLen]; omega) (fun S hM => ?_) | refine XQ.mp hM rfl rfl (fun S hM => ?_))
  refine XQ.v2 rfl hM.1.1 rfl (le8 rfl) (M_object hM hB) (fun r S' hq => ?_)
  obtain ⟨rfl, rfl⟩ := hq
  repeat (first | refine XQ.go rfl rfl ?_ | refine XQ.zeq0 rfl ?_ | refine XQ.zeq1 rfl ?_ | refine XQ.zne0 rfl ?_ | refine XQ.zne1 rfl ?_ | refine XQ.mg hM rfl rfl ?_ | refine XQ.ml hM rfl rfl (by decide) (by omega) (by simp only [mLen]; omega) ?_ | refine XQ.add rfl ⟨by omega, by omega⟩ ?_ | refine XQ.sub rfl ⟨by omega, by omega⟩ ?_ | refine XQ.mul rfl ⟨by omega, by omega⟩ ?_ | refine XQ.inc rfl rfl rfl ⟨by omega, by omega⟩ ?_ | refine XQ.ms hM rfl rfl (by decide) (by omega) (by simp only [mLen]; omega) (fun S hM => ?_) | refine XQ.mp hM rfl rfl (fun S hM => ?_))
  refine XQ.zlt rfl (fun q => ?_) (fun q => ?_)
  · repeat (first | refine XQ.go rfl rfl ?_ | refine XQ.zeq0 rfl ?_ | refine XQ.zeq1 rfl ?_ | refine XQ.zne0 rfl ?_ | refine XQ.zne1 rfl ?_ | refine XQ.mg hM rfl rfl ?_ | refine XQ.ml hM rfl rfl (by decide) (by omega) (by simp only [mLen]; omega) ?_ | refine XQ.add rfl ⟨by omega, by omega⟩ ?_ | refine XQ.sub rfl ⟨by omega, by omega⟩ ?_ | refine XQ.mul rfl ⟨by omega, by omega⟩ ?_ | refine XQ.inc rfl rfl rfl ⟨by omega, by omega⟩ ?_ | refine XQ.ms hM rfl rfl (by decide) (by omega) (by simp only [mLen]; omega) (fun S hM => ?_) | refine XQ.mp hM rfl rfl (fun S hM => ?_))
    refine XQ.ret rfl rfl ⟨rfl, ?_⟩
    unfold aObjOf
    rw [if_neg (fun z => by omega)]
  · repeat (first | refine XQ.go rfl rfl ?_ | refine XQ.zeq0 rfl ?_ | refine XQ.zeq1 rfl ?_ | refine XQ.zne0 rfl ?_ | refine XQ.zne1 rfl ?_ | refine XQ.mg hM rfl rfl ?_ | refine XQ.ml hM rfl rfl (by decide) (by omega) (by simp only [mLen]; omega) ?_ | refine XQ.add rfl ⟨by omega, by omega⟩ ?_ | refine XQ.sub rfl ⟨by omega, by omega⟩ ?_ | refine XQ.mul rfl ⟨by omega, by omega⟩ ?_ | refine XQ.inc rfl rfl rfl ⟨by omega, by omega⟩ ?_ | refine XQ.ms hM rfl rfl (by decide) (by omega) (by simp only [mLen]; omega) (fun S hM => ?_) | refine XQ.mp hM rfl rfl (fun S hM => ?_))
    refine XQ.cne rfl (fun q2 => ?_) (fun q2 => ?_)
    · repeat (first | refine XQ.go rfl rfl ?_ | refine XQ.zeq0 rfl ?_ | refine XQ.zeq1 rfl ?_ | refine XQ.zne0 rfl ?_ | refine XQ.zne1 rfl ?_ | refine XQ.mg hM rfl rfl ?_ | refine XQ.ml hM rfl rfl (by decide) (by omega) (by simp only [mLen]; omega) ?_ | refine XQ.add rfl ⟨by omega, by omega⟩ ?_ | refine XQ.sub rfl ⟨by omega, by omega⟩ ?_ | refine XQ.mul rfl ⟨by omega, by omega⟩ ?_ | refine XQ.inc rfl rfl rfl ⟨by omega, by omega⟩ ?_ | refine XQ.ms hM rfl rfl (by decide) (by omega) (by simp only [mLen]; omega) (fun S hM => ?_) | refine XQ.mp hM rfl rfl (fun S hM => ?_))
      refine XQ.ret rfl rfl ⟨rfl, ?_⟩
      unfold aObjOf
      rw [if_neg (fun z => q2 z.2)]
    · repeat (first | refine XQ.go rfl rfl ?_ | refine XQ.zeq0 rfl ?_ | refine XQ.zeq1 rfl ?_ | refine XQ.zne0 rfl ?_ | refine XQ.zne1 rfl ?_ | refine XQ.mg hM rfl rfl ?_ | refine XQ.ml hM rfl rfl (by decide) (by omega) (by simp only [mLen]; omega) ?_ | refine XQ.add rfl ⟨by omega, by omega⟩ ?_ | refine XQ.sub rfl ⟨by omega, by omega⟩ ?_ | refine XQ.mul rfl ⟨by omega, by omega⟩ ?_ | refine XQ.inc rfl rfl rfl ⟨by omega, by omega⟩ ?_ | refine XQ.ms hM rfl rfl (by decide) (by omega) (by simp only [mLen]; omega) (fun S hM => ?_) | refine XQ.mp hM rfl rfl (fun S hM => ?_))
      refine XQ.ret rfl rfl ⟨rfl, ?_⟩
      unfold aObjOf
      rw [if_pos ⟨q, q2⟩]
theorem M_hold {v a b : Int} (hM : MO m S0 S M) (h0 : 0 ≤ v) (h5 : v ≤ 5) : XQ d k_M_hold 0 (mentry (mL k_M_hold) [.inr (some m), .inl v, .inl a, .inl b]) [] S (fun r S' => r = none ∧ MO m S0 S' (aHold M v a b)) := by
  repeat (first | refine XQ.go rfl rfl ?_ | refine XQ.zeq0 rfl ?_ | refine XQ.zeq1 rfl ?_ | refine XQ.zne0 rfl ?_ | refine XQ.zne1 rfl ?_ | refine XQ.mg hM rfl rfl ?_ | refine XQ.ml hM rfl rfl (by decide) (by omega) (by simp only [mLen]; omega) ?_ | refine XQ.add rfl ⟨by omega, by omega⟩ ?_ | refine XQ.sub rfl ⟨by omega, by omega⟩ ?_ | refine XQ.mul rfl ⟨by omega, by omega⟩ ?_ | refine XQ.inc rfl rfl rfl ⟨by omega, by omega⟩ ?_ | refine XQ.ms hM rfl rfl (by decide) (by omega) (by simp only [mLen]; omega) (fun S hM => ?_) | refine XQ.mp hM rfl rfl (fun S hM => ?_))
  exact XQ.ret rfl rfl ⟨rfl, hM⟩
theorem M_number {v n : Int} (hM : MO m S0 S M) : XQ (d + 1) k_M_number 0 (mentry (mL k_M_number) [.inr (some m), .inl v, .inl n]) [] S (fun r S' => r = some (.inl (aNumber M v n).1) ∧ MO m S0 S' (aNumber M v n).2) := by
  repeat (first | refine XQ.go rfl rfl ?_ | refine XQ.zeq0 rfl ?_ | refine XQ.zeq1 rfl ?_ | refine XQ.zne0 rfl ?_ | refine XQ.zne1 rfl ?_ | refine XQ.mg hM rfl rfl ?_ | refine XQ.ml hM rfl rfl (by decide) (by omega) (by simp only [mLen]; omega) ?_ | refine XQ.add rfl ⟨by omega, by omega⟩ ?_ | refine XQ.sub rfl ⟨by omega, by omega⟩ ?_ | refine XQ.mul rfl ⟨by omega, by omega⟩ ?_ | refine XQ.inc rfl rfl rfl ⟨by omega, by omega⟩ ?_ | refine XQ.ms hM rfl rfl (by decide) (by omega) (by simp only [mLen]; omega) (fun S hM => ?_) | refine XQ.mp hM rfl rfl (fun S hM => ?_))
  refine XQ.s1 rfl rfl (le8 rfl) (M_isVar (v := v)) (fun r S' hq => ?_)
  obtain ⟨rfl, ⟨rfl, hv⟩ | ⟨rfl, hv⟩⟩ := hq
  · repeat (first | refine XQ.go rfl rfl ?_ | refine XQ.zeq0 rfl ?_ | refine XQ.zeq1 rfl ?_ | refine XQ.zne0 rfl ?_ | refine XQ.zne1 rfl ?_ | refine XQ.mg hM rfl rfl ?_ | refine XQ.ml hM rfl rfl (by decide) (by omega) (by simp only [mLen]; omega) ?_ | refine XQ.add rfl ⟨by omega, by omega⟩ ?_ | refine XQ.sub rfl ⟨by omega, by omega⟩ ?_ | refine XQ.mul rfl ⟨by omega, by omega⟩ ?_ | refine XQ.inc rfl rfl rfl ⟨by omega, by omega⟩ ?_ | refine XQ.ms hM rfl rfl (by decide) (by omega) (by simp only [mLen]; omega) (fun S hM => ?_) | refine XQ.mp hM rfl rfl (fun S hM => ?_))
    refine XQ.clt rfl (fun q => ?_) (fun q => ?_)
    · repeat (first | refine XQ.go rfl rfl ?_ | refine XQ.zeq0 rfl ?_ | refine XQ.zeq1 rfl ?_ | refine XQ.zne0 rfl ?_ | refine XQ.zne1 rfl ?_ | refine XQ.mg hM rfl rfl ?_ | refine XQ.ml hM rfl rfl (by decide) (by omega) (by simp only [mLen]; omega) ?_ | refine XQ.add rfl ⟨by omega, by omega⟩ ?_ | refine XQ.sub rfl ⟨by omega, by omega⟩ ?_ | refine XQ.mul rfl ⟨by omega, by omega⟩ ?_ | refine XQ.inc rfl rfl rfl ⟨by omega, by omega⟩ ?_ | refine XQ.ms hM rfl rfl (by decide) (by omega) (by simp only [mLen]; omega) (fun S hM => ?_) | refine XQ.mp hM rfl rfl (fun S hM => ?_))
      refine XQ.ret rfl rfl ?_
      unfold aNumber
      rw [if_pos (by omega)]
      exact ⟨rfl, hM⟩
    · repeat (first | refine XQ.go rfl rfl ?_ | refine XQ.zeq0 rfl ?_ | refine XQ.zeq1 rfl ?_ | refine XQ.zne0 rfl ?_ | refine XQ.zne1 rfl ?_ | refine XQ.mg hM rfl rfl ?_ | refine XQ.ml hM rfl rfl (by decide) (by omega) (by simp only [mLen]; omega) ?_ | refine XQ.add rfl ⟨by omega, by omega⟩ ?_ | refine XQ.sub rfl ⟨by omega, by omega⟩ ?_ | refine XQ.mul rfl ⟨by omega, by omega⟩ ?_ | refine XQ.inc rfl rfl rfl ⟨by omega, by omega⟩ ?_ | refine XQ.ms hM rfl rfl (by decide) (by omega) (by simp only [mLen]; omega) (fun S hM => ?_) | refine XQ.mp hM rfl rfl (fun S hM => ?_))
      refine XQ.cle rfl (fun q2 => ?_) (fun q2 => ?_)
      · repeat (first | refine XQ.go rfl rfl ?_ | refine XQ.zeq0 rfl ?_ | refine XQ.zeq1 rfl ?_ | refine XQ.zne0 rfl ?_ | refine XQ.zne1 rfl ?_ | refine XQ.mg hM rfl rfl ?_ | refine XQ.ml hM rfl rfl (by decide) (by omega) (by simp only [mLen]; omega) ?_ | refine XQ.add rfl ⟨by omega, by omega⟩ ?_ | refine XQ.sub rfl ⟨by omega, by omega⟩ ?_ | refine XQ.mul rfl ⟨by omega, by omega⟩ ?_ | refine XQ.inc rfl rfl rfl ⟨by omega, by omega⟩ ?_ | refine XQ.ms hM rfl rfl (by decide) (by omega) (by simp only [mLen]; omega) (fun S hM => ?_) | refine XQ.mp hM rfl rfl (fun S hM => ?_))
        refine XQ.v4 rfl hM.1.1 rfl (le8 rfl) (M_hold hM hv.1 hv.2) (fun r S hq => ?_)
        obtain ⟨rfl, hM⟩ := hq
        repeat (first | refine XQ.go rfl rfl ?_ | refine XQ.zeq0 rfl ?_ | refine XQ.zeq1 rfl ?_ | refine XQ.zne0 rfl ?_ | refine XQ.zne1 rfl ?_ | refine XQ.mg hM rfl rfl ?_ | refine XQ.ml hM rfl rfl (by decide) (by omega) (by simp only [mLen]; omega) ?_ | refine XQ.add rfl ⟨by omega, by omega⟩ ?_ | refine XQ.sub rfl ⟨by omega, by omega⟩ ?_ | refine XQ.mul rfl ⟨by omega, by omega⟩ ?_ | refine XQ.inc rfl rfl rfl ⟨by omega, by omega⟩ ?_ | refine XQ.ms hM rfl rfl (by decide) (by omega) (by simp only [mLen]; omega) (fun S hM => ?_) | refine XQ.mp hM rfl rfl (fun S hM => ?_))
        refine XQ.ret rfl rfl ?_
        unfold aNumber
        rw [if_neg (by omega)]
        exact ⟨rfl, hM⟩
      · repeat (first | refine XQ.go rfl rfl ?_ | refine XQ.zeq0 rfl ?_ | refine XQ.zeq1 rfl ?_ | refine XQ.zne0 rfl ?_ | refine XQ.zne1 rfl ?_ | refine XQ.mg hM rfl rfl ?_ | refine XQ.ml hM rfl rfl (by decide) (by omega) (by simp only [mLen]; omega) ?_ | refine XQ.add rfl ⟨by omega, by omega⟩ ?_ | refine XQ.sub rfl ⟨by omega, by omega⟩ ?_ | refine XQ.mul rfl ⟨by omega, by omega⟩ ?_ | refine XQ.inc rfl rfl rfl ⟨by omega, by omega⟩ ?_ | refine XQ.ms hM rfl rfl (by decide) (by omega) (by simp only [mLen]; omega) (fun S hM => ?_) | refine XQ.mp hM rfl rfl (fun S hM => ?_))
        refine XQ.ret rfl rfl ?_
        unfold aNumber
        rw [if_pos (by omega)]
        exact ⟨rfl, hM⟩
  · repeat (first | refine XQ.go rfl rfl ?_ | refine XQ.zeq0 rfl ?_ | refine XQ.zeq1 rfl ?_ | refine XQ.zne0 rfl ?_ | refine XQ.zne1 rfl ?_ | refine XQ.mg hM rfl rfl ?_ | refine XQ.ml hM rfl rfl (by decide) (by omega) (by simp only [mLen]; omega) ?_ | refine XQ.add rfl ⟨by omega, by omega⟩ ?_ | refine XQ.sub rfl ⟨by omega, by omega⟩ ?_ | refine XQ.mul rfl ⟨by omega, by omega⟩ ?_ | refine XQ.inc rfl rfl rfl ⟨by omega, by omega⟩ ?_ | refine XQ.ms hM rfl rfl (by decide) (by omega) (by simp only [mLen]; omega) (fun S hM => ?_) | refine XQ.mp hM rfl rfl (fun S hM => ?_))
    refine XQ.ret rfl rfl ?_
    unfold aNumber
    rw [if_pos (by omega)]
    exact ⟨rfl, hM⟩
theorem M_assign {v w : Int} (hM : MO m S0 S M) : XQ (d + 1) k_M_assign 0 (mentry (mL k_M_assign) [.inr (some m), .inl v, .inl w]) [] S (fun r S' => r = some (.inl (aAssign M v w).1) ∧ MO m S0 S' (aAssign M v w).2) := by
  have bad : (v < 0 ∨ 5 < v ∨ w < -1 ∨ 5 < w) → aAssign M v w = (0, M) := fun q => by unfold aAssign; rw [if_pos q]
  have good : 0 ≤ v ∧ v ≤ 5 ∧ -1 ≤ w ∧ w ≤ 5 → aAssign M v w = (1, if w < 0 then aHold M v 0 0 else aHold M v (M 0 w) (M 1 w)) := fun q => by unfold aAssign; rw [if_neg (by omega)]
  repeat (first | refine XQ.go rfl rfl ?_ | refine XQ.zeq0 rfl ?_ | refine XQ.zeq1 rfl ?_ | refine XQ.zne0 rfl ?_ | refine XQ.zne1 rfl ?_ | refine XQ.mg hM rfl rfl ?_ | refine XQ.ml hM rfl rfl (by decide) (by omega) (by simp only [mLen]; omega) ?_ | refine XQ.add rfl ⟨by omega, by omega⟩ ?_ | refine XQ.sub rfl ⟨by omega, by omega⟩ ?_ | refine XQ.mul rfl ⟨by omega, by omega⟩ ?_ | refine XQ.inc rfl rfl rfl ⟨by omega, by omega⟩ ?_ | refine XQ.ms hM rfl rfl (by decide) (by omega) (by simp only [mLen]; omega) (fun S hM => ?_) | refine XQ.mp hM rfl rfl (fun S hM => ?_))
  refine XQ.s1 rfl rfl (le8 rfl) (M_isVar (v := v)) (fun r S' hq => ?_)
  obtain ⟨rfl, ⟨rfl, hv⟩ | ⟨rfl, hv⟩⟩ := hq
  · repeat (first | refine XQ.go rfl rfl ?_ | refine XQ.zeq0 rfl ?_ | refine XQ.zeq1 rfl ?_ | refine XQ.zne0 rfl ?_ | refine XQ.zne1 rfl ?_ | refine XQ.mg hM rfl rfl ?_ | refine XQ.ml hM rfl rfl (by decide) (by omega) (by simp only [mLen]; omega) ?_ | refine XQ.add rfl ⟨by omega, by omega⟩ ?_ | refine XQ.sub rfl ⟨by omega, by omega⟩ ?_ | refine XQ.mul rfl ⟨by omega, by omega⟩ ?_ | refine XQ.inc rfl rfl rfl ⟨by omega, by omega⟩ ?_ | refine XQ.ms hM rfl rfl (by decide) (by omega) (by simp only [mLen]; omega) (fun S hM => ?_) | refine XQ.mp hM rfl rfl (fun S hM => ?_))
    refine XQ.ceq rfl (fun q => ?_) (fun q => ?_)
    · repeat (first | refine XQ.go rfl rfl ?_ | refine XQ.zeq0 rfl ?_ | refine XQ.zeq1 rfl ?_ | refine XQ.zne0 rfl ?_ | refine XQ.zne1 rfl ?_ | refine XQ.mg hM rfl rfl ?_ | refine XQ.ml hM rfl rfl (by decide) (by omega) (by simp only [mLen]; omega) ?_ | refine XQ.add rfl ⟨by omega, by omega⟩ ?_ | refine XQ.sub rfl ⟨by omega, by omega⟩ ?_ | refine XQ.mul rfl ⟨by omega, by omega⟩ ?_ | refine XQ.inc rfl rfl rfl ⟨by omega, by omega⟩ ?_ | refine XQ.ms hM rfl rfl (by decide) (by omega) (by simp only [mLen]; omega) (fun S hM => ?_) | refine XQ.mp hM rfl rfl (fun S hM => ?_))
      refine XQ.zge rfl (fun q2 => by omega) (fun q2 => ?_)
      repeat (first | refine XQ.go rfl rfl ?_ | refine XQ.zeq0 rfl ?_ | refine XQ.zeq1 rfl ?_ | refine XQ.zne0 rfl ?_ | refine XQ.zne1 rfl ?_ | refine XQ.mg hM rfl rfl ?_ | refine XQ.ml hM rfl rfl (by decide) (by omega) (by simp only [mLen]; omega) ?_ | refine XQ.add rfl ⟨by omega, by omega⟩ ?_ | refine XQ.sub rfl ⟨by omega, by omega⟩ ?_ | refine XQ.mul rfl ⟨by omega, by omega⟩ ?_ | refine XQ.inc rfl rfl rfl ⟨by omega, by omega⟩ ?_ | refine XQ.ms hM rfl rfl (by decide) (by omega) (by simp only [mLen]; omega) (fun S hM => ?_) | refine XQ.mp hM rfl rfl (fun S hM => ?_))
      refine XQ.v4 rfl hM.1.1 rfl (le8 rfl) (M_hold hM hv.1 hv.2) (fun r S hq => ?_)
      obtain ⟨rfl, hM⟩ := hq
      repeat (first | refine XQ.go rfl rfl ?_ | refine XQ.zeq0 rfl ?_ | refine XQ.zeq1 rfl ?_ | refine XQ.zne0 rfl ?_ | refine XQ.zne1 rfl ?_ | refine XQ.mg hM rfl rfl ?_ | refine XQ.ml hM rfl rfl (by decide) (by omega) (by simp only [mLen]; omega) ?_ | refine XQ.add rfl ⟨by omega, by omega⟩ ?_ | refine XQ.sub rfl ⟨by omega, by omega⟩ ?_ | refine XQ.mul rfl ⟨by omega, by omega⟩ ?_ | refine XQ.inc rfl rfl rfl ⟨by omega, by omega⟩ ?_ | refine XQ.ms hM rfl rfl (by decide) (by omega) (by simp only [mLen]; omega) (fun S hM => ?_) | refine XQ.mp hM rfl rfl (fun S hM => ?_))
      refine XQ.ret rfl rfl ?_
      rw [good (by omega), if_pos q2]
      exact ⟨rfl, hM⟩
    · repeat (first | refine XQ.go rfl rfl ?_ | refine XQ.zeq0 rfl ?_ | refine XQ.zeq1 rfl ?_ | refine XQ.zne0 rfl ?_ | refine XQ.zne1 rfl ?_ | refine XQ.mg hM rfl rfl ?_ | refine XQ.ml hM rfl rfl (by decide) (by omega) (by simp only [mLen]; omega) ?_ | refine XQ.add rfl ⟨by omega, by omega⟩ ?_ | refine XQ.sub rfl ⟨by omega, by omega⟩ ?_ | refine XQ.mul rfl ⟨by omega, by omega⟩ ?_ | refine XQ.inc rfl rfl rfl ⟨by omega, by omega⟩ ?_ | refine XQ.ms hM rfl rfl (by decide) (by omega) (by simp only [mLen]; omega) (fun S hM => ?_) | refine XQ.mp hM rfl rfl (fun S hM => ?_))
      refine XQ.s1 rfl rfl (le8 rfl) (M_isVar (v := w)) (fun r S' hq => ?_)
      obtain ⟨rfl, ⟨rfl, hw⟩ | ⟨rfl, hw⟩⟩ := hq
      · repeat (first | refine XQ.go rfl rfl ?_ | refine XQ.zeq0 rfl ?_ | refine XQ.zeq1 rfl ?_ | refine XQ.zne0 rfl ?_ | refine XQ.zne1 rfl ?_ | refine XQ.mg hM rfl rfl ?_ | refine XQ.ml hM rfl rfl (by decide) (by omega) (by simp only [mLen]; omega) ?_ | refine XQ.add rfl ⟨by omega, by omega⟩ ?_ | refine XQ.sub rfl ⟨by omega, by omega⟩ ?_ | refine XQ.mul rfl ⟨by omega, by omega⟩ ?_ | refine XQ.inc rfl rfl rfl ⟨by omega, by omega⟩ ?_ | refine XQ.ms hM rfl rfl (by decide) (by omega) (by simp only [mLen]; omega) (fun S hM => ?_) | refine XQ.mp hM rfl rfl (fun S hM => ?_))
        refine XQ.zge rfl (fun q2 => ?_) (fun q2 => by omega)
        repeat (first | refine XQ.go rfl rfl ?_ | refine XQ.zeq0 rfl ?_ | refine XQ.zeq1 rfl ?_ | refine XQ.zne0 rfl ?_ | refine XQ.zne1 rfl ?_ | refine XQ.mg hM rfl rfl ?_ | refine XQ.ml hM rfl rfl (by decide) (by omega) (by simp only [mLen]; omega) ?_ | refine XQ.add rfl ⟨by omega, by omega⟩ ?_ | refine XQ.sub rfl ⟨by omega, by omega⟩ ?_ | refine XQ.mul rfl ⟨by omega, by omega⟩ ?_ | refine XQ.inc rfl rfl rfl ⟨by omega, by omega⟩ ?_ | refine XQ.ms hM rfl rfl (by decide) (by omega) (by simp only [mLen]; omega) (fun S hM => ?_) | refine XQ.mp hM rfl rfl (fun S hM => ?_))
        refine XQ.v4 rfl hM.1.1 rfl (le8 rfl) (M_hold hM hv.1 hv.2) (fun r S hq => ?_)
        obtain ⟨rfl, hM⟩ := hq
        repeat (first | refine XQ.go rfl rfl ?_ | refine XQ.zeq0 rfl ?_ | refine XQ.zeq1 rfl ?_ | refine XQ.zne0 rfl ?_ | refine XQ.zne1 rfl ?_ | refine XQ.mg hM rfl rfl ?_ | refine XQ.ml hM rfl rfl (by decide) (by omega) (by simp only [mLen]; omega) ?_ | refine XQ.add rfl ⟨by omega, by omega⟩ ?_ | refine XQ.sub rfl ⟨by omega, by omega⟩ ?_ | refine XQ.mul rfl ⟨by omega, by omega⟩ ?_ | refine XQ.inc rfl rfl rfl ⟨by omega, by omega⟩ ?_ | refine XQ.ms hM rfl rfl (by decide) (by omega) (by simp only [mLen]; omega) (fun S hM => ?_) | refine XQ.mp hM rfl rfl (fun S hM => ?_))
        refine XQ.ret rfl rfl ?_
        rw [good (by omega), if_neg (by omega)]
        exact ⟨rfl, hM⟩
      · repeat (first | refine XQ.go rfl rfl ?_ | refine XQ.zeq0 rfl ?_ | refine XQ.zeq1 rfl ?_ | refine XQ.zne0 rfl ?_ | refine XQ.zne1 rfl ?_ | refine XQ.mg hM rfl rfl ?_ | refine XQ.ml hM rfl rfl (by decide) (by omega) (by simp only [mLen]; omega) ?_ | refine XQ.add rfl ⟨by omega, by omega⟩ ?_ | refine XQ.sub rfl ⟨by omega, by omega⟩ ?_ | refine XQ.mul rfl ⟨by omega, by omega⟩ ?_ | refine XQ.inc rfl rfl rfl ⟨by omega, by omega⟩ ?_ | refine XQ.ms hM rfl rfl (by decide) (by omega) (by simp only [mLen]; omega) (fun S hM => ?_) | refine XQ.mp hM rfl rfl (fun S hM => ?_))
        refine XQ.ret rfl rfl ?_
        rw [bad (by omega)]
        exact ⟨rfl, hM⟩
  · repeat (first | refine XQ.go rfl rfl ?_ | refine XQ.zeq0 rfl ?_ | refine XQ.zeq1 rfl ?_ | refine XQ.zne0 rfl ?_ | refine XQ.zne1 rfl ?_ | refine XQ.mg hM rfl rfl ?_ | refine XQ.ml hM rfl rfl (by decide) (by omega) (by simp only [mLen]; omega) ?_ | refine XQ.add rfl ⟨by omega, by omega⟩ ?_ | refine XQ.sub rfl ⟨by omega, by omega⟩ ?_ | refine XQ.mul rfl ⟨by omega, by omega⟩ ?_ | refine XQ.inc rfl rfl rfl ⟨by omega, by omega⟩ ?_ | refine XQ.ms hM rfl rfl (by decide) (by omega) (by simp only [mLen]; omega) (fun S hM => ?_) | refine XQ.mp hM rfl rfl (fun S hM => ?_))
    refine XQ.ret rfl rfl ?_
    rw [bad (by omega)]
    exact ⟨rfl, hM⟩
theorem M_cells {o : Int} (hM : MO m S0 S M) (hB : BW M) (h0 : 0 ≤ o) (h1 : o < M 13 0) : XQ d k_M_cells 0 (mentry (mL k_M_cells) [.inr (some m), .inl o]) [] S (fun r S' => S' = S ∧ r = some (.inl (aCells M o))) := by
  have hb := hB.1
  have hm := hB.2.2.1 o h0 h1
  repeat (first | refine XQ.go rfl rfl ?_ | refine XQ.zeq0 rfl ?_ | refine XQ.zeq1 rfl ?_ | refine XQ.zne0 rfl ?_ | refine XQ.zne1 rfl ?_ | refine XQ.mg hM rfl rfl ?_ | refine XQ.ml hM rfl rfl (by decide) (by omega) (by simp only [mLen]; omega) ?_ | refine XQ.add rfl ⟨by omega, by omega⟩ ?_ | refine XQ.sub rfl ⟨by omega, by omega⟩ ?_ | refine XQ.mul rfl ⟨by omega, by omega⟩ ?_ | refine XQ.inc rfl rfl rfl ⟨by omega, by omega⟩ ?_ | refine XQ.ms hM rfl rfl (by decide) (by omega) (by simp only [mLen]; omega) (fun S hM => ?_) | refine XQ.mp hM rfl rfl (fun S hM => ?_))
  refine XQ.cne rfl (fun q => ?_) (fun q => ?_)
  · repeat (first | refine XQ.go rfl rfl ?_ | refine XQ.zeq0 rfl ?_ | refine XQ.zeq1 rfl ?_ | refine XQ.zne0 rfl ?_ | refine XQ.zne1 rfl ?_ | refine XQ.mg hM rfl rfl ?_ | refine XQ.ml hM rfl rfl (by decide) (by omega) (by simp only [mLen]; omega) ?_ | refine XQ.add rfl ⟨by omega, by omega⟩ ?_ | refine XQ.sub rfl ⟨by omega, by omega⟩ ?_ | refine XQ.mul rfl ⟨by omega, by omega⟩ ?_ | refine XQ.inc rfl rfl rfl ⟨by omega, by omega⟩ ?_ | refine XQ.ms hM rfl rfl (by decide) (by omega) (by simp only [mLen]; omega) (fun S hM => ?_) | refine XQ.mp hM rfl rfl (fun S hM => ?_))
    refine XQ.cne rfl (fun q2 => ?_) (fun q2 => ?_)
    · repeat (first | refine XQ.go rfl rfl ?_ | refine XQ.zeq0 rfl ?_ | refine XQ.zeq1 rfl ?_ | refine XQ.zne0 rfl ?_ | refine XQ.zne1 rfl ?_ | refine XQ.mg hM rfl rfl ?_ | refine XQ.ml hM rfl rfl (by decide) (by omega) (by simp only [mLen]; omega) ?_ | refine XQ.add rfl ⟨by omega, by omega⟩ ?_ | refine XQ.sub rfl ⟨by omega, by omega⟩ ?_ | refine XQ.mul rfl ⟨by omega, by omega⟩ ?_ | refine XQ.inc rfl rfl rfl ⟨by omega, by omega⟩ ?_ | refine XQ.ms hM rfl rfl (by decide) (by omega) (by simp only [mLen]; omega) (fun S hM => ?_) | refine XQ.mp hM rfl rfl (fun S hM => ?_))
      refine XQ.ret rfl rfl ⟨rfl, ?_⟩
      unfold aCells
      rw [if_neg q, if_neg q2]
    · repeat (first | refine XQ.go rfl rfl ?_ | refine XQ.zeq0 rfl ?_ | refine XQ.zeq1 rfl ?_ | refine XQ.zne0 rfl ?_ | refine XQ.zne1 rfl ?_ | refine XQ.mg hM rfl rfl ?_ | refine XQ.ml hM rfl rfl (by decide) (by omega) (by simp only [mLen]; omega) ?_ | refine XQ.add rfl ⟨by omega, by omega⟩ ?_ | refine XQ.sub rfl ⟨by omega, by omega⟩ ?_ | refine XQ.mul rfl ⟨by omega, by omega⟩ ?_ | refine XQ.inc rfl rfl rfl ⟨by omega, by omega⟩ ?_ | refine XQ.ms hM rfl rfl (by decide) (by omega) (by simp only [mLen]; omega) (fun S hM => ?_) | refine XQ.mp hM rfl rfl (fun S hM => ?_))
      refine XQ.ret rfl rfl ⟨rfl, ?_⟩
      unfold aCells
      rw [if_neg q, if_pos q2]
  · repeat (first | refine XQ.go rfl rfl ?_ | refine XQ.zeq0 rfl ?_ | refine XQ.zeq1 rfl ?_ | refine XQ.zne0 rfl ?_ | refine XQ.zne1 rfl ?_ | refine XQ.mg hM rfl rfl ?_ | refine XQ.ml hM rfl rfl (by decide) (by omega) (by simp only [mLen]; omega) ?_ | refine XQ.add rfl ⟨by omega, by omega⟩ ?_ | refine XQ.sub rfl ⟨by omega, by omega⟩ ?_ | refine XQ.mul rfl ⟨by omega, by omega⟩ ?_ | refine XQ.inc rfl rfl rfl ⟨by omega, by omega⟩ ?_ | refine XQ.ms hM rfl rfl (by decide) (by omega) (by simp only [mLen]; omega) (fun S hM => ?_) | refine XQ.mp hM rfl rfl (fun S hM => ?_))
    refine XQ.ret rfl rfl ⟨rfl, ?_⟩
    unfold aCells
    rw [if_pos q]
theorem M_cb_l {o : Int} (hM : MO m S0 S M) (hB : BW M) (h1 : o ≤ M 13 0) : ∀ (j k : Nat), ((k + j : Nat) : Int) = o → XQ (d + 1) k_M_cellsBefore 4 [some (.inr (some m)), some (.inl o), some (.inl (aCb M k)), some (.inl (k : Int))] [] S (fun r S' => S' = S ∧ r = some (.inl (aCb M o.toNat))) := by
  have hb := hB.1
  intro j
  induction j with
  | zero =>
    intro k hk
    repeat (first | refine XQ.go rfl rfl ?_ | refine XQ.zeq0 rfl ?_ | refine XQ.zeq1 rfl ?_ | refine XQ.zne0 rfl ?_ | refine XQ.zne1 rfl ?_ | refine XQ.mg hM rfl rfl ?_ | refine XQ.ml hM rfl rfl (by decide) (by omega) (by simp only [mLen]; omega) ?_ | refine XQ.add rfl ⟨by omega, by omega⟩ ?_ | refine XQ.sub rfl ⟨by omega, by omega⟩ ?_ | refine XQ.mul rfl ⟨by omega, by omega⟩ ?_ | refine XQ.inc rfl rfl rfl ⟨by omega, by omega⟩ ?_ | refine XQ.ms hM rfl rfl (by decide) (by omega) (by simp only [mLen]; omega) (fun S hM => ?_) | refine XQ.mp hM rfl rfl (fun S hM => ?_))
    refine XQ.cge rfl (fun q => ?_) (fun q => by omega)
    repeat (first | refine XQ.go rfl rfl ?_ | refine XQ.zeq0 rfl ?_ | refine XQ.zeq1 rfl ?_ | refine XQ.zne0 rfl ?_ | refine XQ.zne1 rfl ?_ | refine XQ.mg hM rfl rfl ?_ | refine XQ.ml hM rfl rfl (by decide) (by omega) (by simp only [mLen]; omega) ?_ | refine XQ.add rfl ⟨by omega, by omega⟩ ?_ | refine XQ.sub rfl ⟨by omega, by omega⟩ ?_ | refine XQ.mul rfl ⟨by omega, by omega⟩ ?_ | refine XQ.inc rfl rfl rfl ⟨by omega, by omega⟩ ?_ | refine XQ.ms hM rfl rfl (by decide) (by omega) (by simp only [mLen]; omega) (fun S hM => ?_) | refine XQ.mp hM rfl rfl (fun S hM => ?_))
    refine XQ.ret rfl rfl ⟨rfl, ?_⟩
    rw [← hk]
    rfl
  | succ j ih =>
    intro k hk
    have ih2 := ih (k + 1) (by omega)
    have hc := hB.cells (o := (k : Int)) (by omega) (by omega)
    have hd := hB.cb k (by omega)
    repeat (first | refine XQ.go rfl rfl ?_ | refine XQ.zeq0 rfl ?_ | refine XQ.zeq1 rfl ?_ | refine XQ.zne0 rfl ?_ | refine XQ.zne1 rfl ?_ | refine XQ.mg hM rfl rfl ?_ | refine XQ.ml hM rfl rfl (by decide) (by omega) (by simp only [mLen]; omega) ?_ | refine XQ.add rfl ⟨by omega, by omega⟩ ?_ | refine XQ.sub rfl ⟨by omega, by omega⟩ ?_ | refine XQ.mul rfl ⟨by omega, by omega⟩ ?_ | refine XQ.inc rfl rfl rfl ⟨by omega, by omega⟩ ?_ | refine XQ.ms hM rfl rfl (by decide) (by omega) (by simp only [mLen]; omega) (fun S hM => ?_) | refine XQ.mp hM rfl rfl (fun S hM => ?_))
    refine XQ.cge rfl (fun q => by omega) (fun q => ?_)
    repeat (first | refine XQ.go rfl rfl ?_ | refine XQ.zeq0 rfl ?_ | refine XQ.zeq1 rfl ?_ | refine XQ.zne0 rfl ?_ | refine XQ.zne1 rfl ?_ | refine XQ.mg hM rfl rfl ?_ | refine XQ.ml hM rfl rfl (by decide) (by omega) (by simp only [mLen]; omega) ?_ | refine XQ.add rfl ⟨by omega, by omega⟩ ?_ | refine XQ.sub rfl ⟨by omega, by omega⟩ ?_ | refine XQ.mul rfl ⟨by omega, by omega⟩ ?_ | refine XQ.inc rfl rfl rfl ⟨by omega, by omega⟩ ?_ | refine XQ.ms hM rfl rfl (by decide) (by omega) (by simp only [mLen]; omega) (fun S hM => ?_) | refine XQ.mp hM rfl rfl (fun S hM => ?_))
    refine XQ.v2 rfl hM.1.1 rfl (le8 rfl) (M_cells hM hB (by omega) (by omega)) (fun r S' hq => ?_)
    obtain ⟨rfl, rfl⟩ := hq
    repeat (first | exact ih2 | refine XQ.go rfl rfl ?_ | refine XQ.zeq0 rfl ?_ | refine XQ.zeq1 rfl ?_ | refine XQ.zne0 rfl ?_ | refine XQ.zne1 rfl ?_ | refine XQ.mg hM rfl rfl ?_ | refine XQ.ml hM rfl rfl (by decide) (by omega) (by simp only [mLen]; omega) ?_ | refine XQ.add rfl ⟨by omega, by omega⟩ ?_ | refine XQ.sub rfl ⟨by omega, by omega⟩ ?_ | refine XQ.mul rfl ⟨by omega, by omega⟩ ?_ | refine XQ.inc rfl rfl rfl ⟨by omega, by omega⟩ ?_ | refine XQ.ms hM rfl rfl (by decide) (by omega) (by simp only [mLen]; omega) (fun S hM => ?_) | refine XQ.mp hM rfl rfl (fun S hM => ?_))
theorem M_cellsBefore {o : Int} (hM : MO m S0 S M) (hB : BW M) (h0 : 0 ≤ o) (h1 : o ≤ M 13 0) : XQ (d + 1) k_M_cellsBefore 0 (mentry (mL k_M_cellsBefore) [.inr (some m), .inl o]) [] S (fun r S' => S' = S ∧ r = some (.inl (aCb M o.toNat))) := by
  have h9 := M_cb_l (d := d) hM hB h1 o.toNat 0 (by omega)
  repeat (first | exact h9 | refine XQ.go rfl rfl ?_ | refine XQ.zeq0 rfl ?_ | refine XQ.zeq1 rfl ?_ | refine XQ.zne0 rfl ?_ | refine XQ.zne1 rfl ?_ | refine XQ.mg hM rfl rfl ?_ | refine XQ.ml hM rfl rfl (by decide) (by omega) (by simp only [mLen]; omega) ?_ | refine XQ.add rfl ⟨by omega, by omega⟩ ?_ | refine XQ.sub rfl ⟨by omega, by omega⟩ ?_ | refine XQ.mul rfl ⟨by omega, by omega⟩ ?_ | refine XQ.inc rfl rfl rfl ⟨by omega, by omega⟩ ?_ | refine XQ.ms hM rfl rfl (by decide) (by omega) (by simp only [mLen]; omega) (fun S hM => ?_) | refine XQ.mp hM rfl rfl (fun S hM => ?_))
end M1
