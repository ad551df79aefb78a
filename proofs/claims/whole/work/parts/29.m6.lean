/-! the reference's methods, walked: tables, registering, reading -/
theorem entR_in {M : MM} {o key : Int} : ∀ n : Nat, entR M o key n = -1 ∨ (0 ≤ entR M o key n ∧ entR M o key n < (n : Int))
  | 0 => Or.inl rfl
  | n + 1 => by
    unfold entR
    split
    · exact Or.inr ⟨by omega, by omega⟩
    · rcases entR_in (M := M) (o := o) (key := key) n with h | h
      · exact Or.inl h
      · exact Or.inr ⟨h.1, by omega⟩
section M7
variable {d m : Nat} {S0 S : MS} {M : MM} {Q : Option MV → MS → Prop}
theorem M_ent_l {o key : Int} (hM : MO m S0 S M) (hB : BW M) (h0 : 0 ≤ o) (h1 : o < M 13 0) : ∀ (j e : Nat), ((e + j : Nat) : Int) = M 4 o → XQ d k_M_entry 5 [some (.inr (some m)), some (.inl o), some (.inl key), some (.inl (entR M o key e)), some (.inl (e : Int))] [] S (fun r S' => S' = S ∧ r = some (.inl (aEnt M o key))) := by
  have hb := hB.1
  have hm := hB.2.2.1 o h0 h1
  intro j
  induction j with
  | zero =>
    intro e he
    have ee : aEnt M o key = entR M o key e := by unfold aEnt; rw [← he]; rfl
    rw [ee]
    repeat (first | refine XQ.go rfl rfl ?_ | refine XQ.zeq0 rfl ?_ | refine XQ.zeq1 rfl ?_ | refine XQ.zne0 rfl ?_ | refine XQ.zne1 rfl ?_ | refine XQ.mg hM rfl rfl ?_ | refine XQ.ml hM rfl rfl (by decide) (by omega) (by simp only [mLen]; omega) ?_ | refine XQ.add rfl ⟨by omega, by omega⟩ ?_ | refine XQ.sub rfl ⟨by omega, by omega⟩ ?_ | refine XQ.mul rfl ⟨by omega, by omega⟩ ?_ | refine XQ.inc rfl rfl rfl ⟨by omega, by omega⟩ ?_ | refine XQ.ms hM rfl rfl (by decide) (by omega) (by simp only [mLen]; omega) (fun S hM => ?_) | refine XQ.mp hM rfl rfl (fun S hM => ?_))
    refine XQ.cge rfl (fun q => ?_) (fun q => by omega)
    repeat (first | refine XQ.go rfl rfl ?_ | refine XQ.zeq0 rfl ?_ | refine XQ.zeq1 rfl ?_ | refine XQ.zne0 rfl ?_ | refine XQ.zne1 rfl ?_ | refine XQ.mg hM rfl rfl ?_ | refine XQ.ml hM rfl rfl (by decide) (by omega) (by simp only [mLen]; omega) ?_ | refine XQ.add rfl ⟨by omega, by omega⟩ ?_ | refine XQ.sub rfl ⟨by omega, by omega⟩ ?_ | refine XQ.mul rfl ⟨by omega, by omega⟩ ?_ | refine XQ.inc rfl rfl rfl ⟨by omega, by omega⟩ ?_ | refine XQ.ms hM rfl rfl (by decide) (by omega) (by simp only [mLen]; omega) (fun S hM => ?_) | refine XQ.mp hM rfl rfl (fun S hM => ?_))
    exact XQ.ret rfl rfl ⟨rfl, rfl⟩
  | succ j ih =>
    intro e he
    have ih2 := ih (e + 1) (by omega)
    repeat (first | refine XQ.go rfl rfl ?_ | refine XQ.zeq0 rfl ?_ | refine XQ.zeq1 rfl ?_ | refine XQ.zne0 rfl ?_ | refine XQ.zne1 rfl ?_ | refine XQ.mg hM rfl rfl ?_ | refine XQ.ml hM rfl rfl (by decide) (by omega) (by simp only [mLen]; omega) ?_ | refine XQ.add rfl ⟨by omega, by omega⟩ ?_ | refine XQ.sub rfl ⟨by omega, by omega⟩ ?_ | refine XQ.mul rfl ⟨by omega, by omega⟩ ?_ | refine XQ.inc rfl rfl rfl ⟨by omega, by omega⟩ ?_ | refine XQ.ms hM rfl rfl (by decide) (by omega) (by simp only [mLen]; omega) (fun S hM => ?_) | refine XQ.mp hM rfl rfl (fun S hM => ?_))
    refine XQ.cge rfl (fun q => by omega) (fun q => ?_)
    repeat (first | refine XQ.go rfl rfl ?_ | refine XQ.zeq0 rfl ?_ | refine XQ.zeq1 rfl ?_ | refine XQ.zne0 rfl ?_ | refine XQ.zne1 rfl ?_ | refine XQ.mg hM rfl rfl ?_ | refine XQ.ml hM rfl rfl (by decide) (by omega) (by simp only [mLen]; omega) ?_ | refine XQ.add rfl ⟨by omega, by omega⟩ ?_ | refine XQ.sub rfl ⟨by omega, by omega⟩ ?_ | refine XQ.mul rfl ⟨by omega, by omega⟩ ?_ | refine XQ.inc rfl rfl rfl ⟨by omega, by omega⟩ ?_ | refine XQ.ms hM rfl rfl (by decide) (by omega) (by simp only [mLen]; omega) (fun S hM => ?_) | refine XQ.mp hM rfl rfl (fun S hM => ?_))
    refine XQ.cne rfl (fun q2 => ?_) (fun q2 => ?_)
    · have e1 : entR M o key (e + 1) = entR M o key e := by show (if M 7 (4 * o + e) = key then (e : Int) else entR M o key e) = _; rw [if_neg q2]
      rw [e1] at ih2
      repeat (first | exact ih2 | refine XQ.go rfl rfl ?_ | refine XQ.zeq0 rfl ?_ | refine XQ.zeq1 rfl ?_ | refine XQ.zne0 rfl ?_ | refine XQ.zne1 rfl ?_ | refine XQ.mg hM rfl rfl ?_ | refine XQ.ml hM rfl rfl (by decide) (by omega) (by simp only [mLen]; omega) ?_ | refine XQ.add rfl ⟨by omega, by omega⟩ ?_ | refine XQ.sub rfl ⟨by omega, by omega⟩ ?_ | refine XQ.mul rfl ⟨by omega, by omega⟩ ?_ | refine XQ.inc rfl rfl rfl ⟨by omega, by omega⟩ ?_ | refine XQ.ms hM rfl rfl (by decide) (by omega) (by simp only [mLen]; omega) (fun S hM => ?_) | refine XQ.mp hM rfl rfl (fun S hM => ?_))
    · have e1 : entR M o key (e + 1) = (e : Int) := by show (if M 7 (4 * o + e) = key then (e : Int) else entR M o key e) = _; rw [if_pos q2]
      rw [e1] at ih2
      repeat (first | exact ih2 | refine XQ.go rfl rfl ?_ | refine XQ.zeq0 rfl ?_ | refine XQ.zeq1 rfl ?_ | refine XQ.zne0 rfl ?_ | refine XQ.zne1 rfl ?_ | refine XQ.mg hM rfl rfl ?_ | refine XQ.ml hM rfl rfl (by decide) (by omega) (by simp only [mLen]; omega) ?_ | refine XQ.add rfl ⟨by omega, by omega⟩ ?_ | refine XQ.sub rfl ⟨by omega, by omega⟩ ?_ | refine XQ.mul rfl ⟨by omega, by omega⟩ ?_ | refine XQ.inc rfl rfl rfl ⟨by omega, by omega⟩ ?_ | refine XQ.ms hM rfl rfl (by decide) (by omega) (by simp only [mLen]; omega) (fun S hM => ?_) | refine XQ.mp hM rfl rfl (fun S hM => ?_))
theorem M_entry {o key : Int} (hM : MO m S0 S M) (hB : BW M) (h0 : 0 ≤ o) (h1 : o < M 13 0) : XQ d k_M_entry 0 (mentry (mL k_M_entry) [.inr (some m), .inl o, .inl key]) [] S (fun r S' => S' = S ∧ r = some (.inl (aEnt M o key))) := by
  have hm := hB.2.2.1 o h0 h1
  have h9 := M_ent_l (d := d) (key := key) hM hB h0 h1 (M 4 o).toNat 0 (by omega)
  repeat (first | exact h9 | refine XQ.go rfl rfl ?_ | refine XQ.zeq0 rfl ?_ | refine XQ.zeq1 rfl ?_ | refine XQ.zne0 rfl ?_ | refine XQ.zne1 rfl ?_ | refine XQ.mg hM rfl rfl ?_ | refine XQ.ml hM rfl rfl (by decide) (by omega) (by simp only [mLen]; omega) ?_ | refine XQ.add rfl ⟨by omega, by omega⟩ ?_ | refine XQ.sub rfl ⟨by omega, by omega⟩ ?_ | refine XQ.mul rfl ⟨by omega, by omega⟩ ?_ | refine XQ.inc rfl rfl rfl ⟨by omega, by omega⟩ ?_ | refine XQ.ms hM rfl rfl (by decide) (by omega) (by simp only [mLen]; omega) (fun S hM => ?_) | refine XQ.mp hM rfl rfl (fun S hM => ?_))
theorem aEnt_in {o key : Int} (h0 : 0 ≤ M 4 o) : aEnt M o key = -1 ∨ (0 ≤ aEnt M o key ∧ aEnt M o key < M 4 o) := by
  unfold aEnt
  rcases entR_in (M := M) (o := o) (key := key) (M 4 o).toNat with h | h
  · exact Or.inl h
  · exact Or.inr ⟨h.1, by omega⟩
theorem M_put {t k w : Int} (hM : MO m S0 S M) (hB : BW M) : XQ (d + 3) k_M_put 0 (mentry (mL k_M_put) [.inr (some m), .inl t, .inl k, .inl w]) [] S (fun r S' => r = some (.inl (aPut M t k w).1) ∧ MO m S0 S' (aPut M t k w).2) := by
  have bad : (aObjOf M t 4 < 0 ∨ aObj M k < 0 ∨ w < 0 ∨ 5 < w) → aPut M t k w = (0, M) := fun q => by unfold aPut; rw [if_pos q]
  have hb := hB.1
  have hi := aObjOf_in hB.1 t 4
  have hi2 := aObj_in hB.1 t
  have hk := aObj_in hB.1 k
  repeat (first | refine XQ.go rfl rfl ?_ | refine XQ.zeq0 rfl ?_ | refine XQ.zeq1 rfl ?_ | refine XQ.zne0 rfl ?_ | refine XQ.zne1 rfl ?_ | refine XQ.mg hM rfl rfl ?_ | refine XQ.ml hM rfl rfl (by decide) (by omega) (by simp only [mLen]; omega) ?_ | refine XQ.add rfl ⟨by omega, by omega⟩ ?_ | refine XQ.sub rfl ⟨by omega, by omega⟩ ?_ | refine XQ.mul rfl ⟨by omega, by omega⟩ ?_ | refine XQ.inc rfl rfl rfl ⟨by omega, by omega⟩ ?_ | refine XQ.ms hM rfl rfl (by decide) (by omega) (by simp only [mLen]; omega) (fun S hM => ?_) | refine XQ.mp hM rfl rfl (fun S hM => ?_))
  refine XQ.v3 rfl hM.1.1 rfl (le8 rfl) (M_objectOf hM hB) (fun r S' hq => ?_)
  obtain ⟨rfl, rfl⟩ := hq
  repeat (first | refine XQ.go rfl rfl ?_ | refine XQ.zeq0 rfl ?_ | refine XQ.zeq1 rfl ?_ | refine XQ.zne0 rfl ?_ | refine XQ.zne1 rfl ?_ | refine XQ.mg hM rfl rfl ?_ | refine XQ.ml hM rfl rfl (by decide) (by omega) (by simp only [mLen]; omega) ?_ | refine XQ.add rfl ⟨by omega, by omega⟩ ?_ | refine XQ.sub rfl ⟨by omega, by omega⟩ ?_ | refine XQ.mul rfl ⟨by omega, by omega⟩ ?_ | refine XQ.inc rfl rfl rfl ⟨by omega, by omega⟩ ?_ | refine XQ.ms hM rfl rfl (by decide) (by omega) (by simp only [mLen]; omega) (fun S hM => ?_) | refine XQ.mp hM rfl rfl (fun S hM => ?_))
  refine XQ.zlt rfl (fun q => ?_) (fun q => ?_)
  · rw [bad (by omega)]
    repeat (first | refine XQ.go rfl rfl ?_ | refine XQ.zeq0 rfl ?_ | refine XQ.zeq1 rfl ?_ | refine XQ.zne0 rfl ?_ | refine XQ.zne1 rfl ?_ | refine XQ.mg hM rfl rfl ?_ | refine XQ.ml hM rfl rfl (by decide) (by omega) (by simp only [mLen]; omega) ?_ | refine XQ.add rfl ⟨by omega, by omega⟩ ?_ | refine XQ.sub rfl ⟨by omega, by omega⟩ ?_ | refine XQ.mul rfl ⟨by omega, by omega⟩ ?_ | refine XQ.inc rfl rfl rfl ⟨by omega, by omega⟩ ?_ | refine XQ.ms hM rfl rfl (by decide) (by omega) (by simp only [mLen]; omega) (fun S hM => ?_) | refine XQ.mp hM rfl rfl (fun S hM => ?_))
    exact XQ.ret rfl rfl ⟨rfl, hM⟩
  · have hm := hB.2.2.1 (aObjOf M t 4) (by omega) (by omega)
    repeat (first | refine XQ.go rfl rfl ?_ | refine XQ.zeq0 rfl ?_ | refine XQ.zeq1 rfl ?_ | refine XQ.zne0 rfl ?_ | refine XQ.zne1 rfl ?_ | refine XQ.mg hM rfl rfl ?_ | refine XQ.ml hM rfl rfl (by decide) (by omega) (by simp only [mLen]; omega) ?_ | refine XQ.add rfl ⟨by omega, by omega⟩ ?_ | refine XQ.sub rfl ⟨by omega, by omega⟩ ?_ | refine XQ.mul rfl ⟨by omega, by omega⟩ ?_ | refine XQ.inc rfl rfl rfl ⟨by omega, by omega⟩ ?_ | refine XQ.ms hM rfl rfl (by decide) (by omega) (by simp only [mLen]; omega) (fun S hM => ?_) | refine XQ.mp hM rfl rfl (fun S hM => ?_))
    refine XQ.v2 rfl hM.1.1 rfl (le8 rfl) (M_object (d := d + 1) hM hB) (fun r S' hq => ?_)
    obtain ⟨rfl, rfl⟩ := hq
    refine XQ.zlt rfl (fun q1 => ?_) (fun q1 => ?_)
    · rw [bad (by omega)]
      repeat (first | refine XQ.go rfl rfl ?_ | refine XQ.zeq0 rfl ?_ | refine XQ.zeq1 rfl ?_ | refine XQ.zne0 rfl ?_ | refine XQ.zne1 rfl ?_ | refine XQ.mg hM rfl rfl ?_ | refine XQ.ml hM rfl rfl (by decide) (by omega) (by simp only [mLen]; omega) ?_ | refine XQ.add rfl ⟨by omega, by omega⟩ ?_ | refine XQ.sub rfl ⟨by omega, by omega⟩ ?_ | refine XQ.mul rfl ⟨by omega, by omega⟩ ?_ | refine XQ.inc rfl rfl rfl ⟨by omega, by omega⟩ ?_ | refine XQ.ms hM rfl rfl (by decide) (by omega) (by simp only [mLen]; omega) (fun S hM => ?_) | refine XQ.mp hM rfl rfl (fun S hM => ?_))
      exact XQ.ret rfl rfl ⟨rfl, hM⟩
    · repeat (first | refine XQ.go rfl rfl ?_ | refine XQ.zeq0 rfl ?_ | refine XQ.zeq1 rfl ?_ | refine XQ.zne0 rfl ?_ | refine XQ.zne1 rfl ?_ | refine XQ.mg hM rfl rfl ?_ | refine XQ.ml hM rfl rfl (by decide) (by omega) (by simp only [mLen]; omega) ?_ | refine XQ.add rfl ⟨by omega, by omega⟩ ?_ | refine XQ.sub rfl ⟨by omega, by omega⟩ ?_ | refine XQ.mul rfl ⟨by omega, by omega⟩ ?_ | refine XQ.inc rfl rfl rfl ⟨by omega, by omega⟩ ?_ | refine XQ.ms hM rfl rfl (by decide) (by omega) (by simp only [mLen]; omega) (fun S hM => ?_) | refine XQ.mp hM rfl rfl (fun S hM => ?_))
      refine XQ.s1 rfl rfl (le8 rfl) (M_isVar (v := w)) (fun r S' hq => ?_)
      obtain ⟨rfl, ⟨rfl, hw⟩ | ⟨rfl, hw⟩⟩ := hq
      · have good : aPut M t k w = if aEnt M (aObjOf M t 4) (M 1 k) < 0 then (if M 4 (aObjOf M t 4) = 3 then (0, M) else (1, aPutAt (u2 M 4 (aObjOf M t 4) (M 4 (aObjOf M t 4) + 1)) (aObjOf M t 4) (M 4 (aObjOf M t 4)) k w)) else (1, aPutAt M (aObjOf M t 4) (aEnt M (aObjOf M t 4) (M 1 k)) k w) := by unfold aPut; rw [if_neg (by omega)]
        have hsort : M 3 (aObjOf M t 4) = 4 := by
          rcases hi with h | h
          · omega
          · rw [h.1]; exact h.2.2
        have hm3 := hm.2.2.2.2 hsort
        rw [good]
        repeat (first | refine XQ.go rfl rfl ?_ | refine XQ.zeq0 rfl ?_ | refine XQ.zeq1 rfl ?_ | refine XQ.zne0 rfl ?_ | refine XQ.zne1 rfl ?_ | refine XQ.mg hM rfl rfl ?_ | refine XQ.ml hM rfl rfl (by decide) (by omega) (by simp only [mLen]; omega) ?_ | refine XQ.add rfl ⟨by omega, by omega⟩ ?_ | refine XQ.sub rfl ⟨by omega, by omega⟩ ?_ | refine XQ.mul rfl ⟨by omega, by omega⟩ ?_ | refine XQ.inc rfl rfl rfl ⟨by omega, by omega⟩ ?_ | refine XQ.ms hM rfl rfl (by decide) (by omega) (by simp only [mLen]; omega) (fun S hM => ?_) | refine XQ.mp hM rfl rfl (fun S hM => ?_))
        have he := aEnt_in (M := M) (o := aObjOf M t 4) (key := M 1 k) hm.1
        refine XQ.v3 rfl hM.1.1 rfl (le8 rfl) (M_entry (d := d + 2) hM hB (by omega) (by omega)) (fun r S' hq => ?_)
        obtain ⟨rfl, rfl⟩ := hq
        generalize aObjOf M t 4 = o at *
        generalize aEnt M o (M 1 k) = e at *
        repeat (first | refine XQ.go rfl rfl ?_ | refine XQ.zeq0 rfl ?_ | refine XQ.zeq1 rfl ?_ | refine XQ.zne0 rfl ?_ | refine XQ.zne1 rfl ?_ | refine XQ.mg hM rfl rfl ?_ | refine XQ.ml hM rfl rfl (by decide) (by omega) (by simp only [mLen]; omega) ?_ | refine XQ.add rfl ⟨by omega, by omega⟩ ?_ | refine XQ.sub rfl ⟨by omega, by omega⟩ ?_ | refine XQ.mul rfl ⟨by omega, by omega⟩ ?_ | refine XQ.inc rfl rfl rfl ⟨by omega, by omega⟩ ?_ | refine XQ.ms hM rfl rfl (by decide) (by omega) (by simp only [mLen]; omega) (fun S hM => ?_) | refine XQ.mp hM rfl rfl (fun S hM => ?_))
        refine XQ.zge rfl (fun q2 => ?_) (fun q2 => ?_)
        · rw [if_neg (by omega)]
          repeat (first | refine XQ.go rfl rfl ?_ | refine XQ.zeq0 rfl ?_ | refine XQ.zeq1 rfl ?_ | refine XQ.zne0 rfl ?_ | refine XQ.zne1 rfl ?_ | refine XQ.mg hM rfl rfl ?_ | refine XQ.ml hM rfl rfl (by decide) (by omega) (by simp only [mLen]; omega) ?_ | refine XQ.add rfl ⟨by omega, by omega⟩ ?_ | refine XQ.sub rfl ⟨by omega, by omega⟩ ?_ | refine XQ.mul rfl ⟨by omega, by omega⟩ ?_ | refine XQ.inc rfl rfl rfl ⟨by omega, by omega⟩ ?_ | refine XQ.ms hM rfl rfl (by decide) (by omega) (by simp only [mLen]; omega) (fun S hM => ?_) | refine XQ.mp hM rfl rfl (fun S hM => ?_))
          exact XQ.ret rfl rfl ⟨rfl, hM⟩
        · rw [if_pos q2]
          repeat (first | refine XQ.go rfl rfl ?_ | refine XQ.zeq0 rfl ?_ | refine XQ.zeq1 rfl ?_ | refine XQ.zne0 rfl ?_ | refine XQ.zne1 rfl ?_ | refine XQ.mg hM rfl rfl ?_ | refine XQ.ml hM rfl rfl (by decide) (by omega) (by simp only [mLen]; omega) ?_ | refine XQ.add rfl ⟨by omega, by omega⟩ ?_ | refine XQ.sub rfl ⟨by omega, by omega⟩ ?_ | refine XQ.mul rfl ⟨by omega, by omega⟩ ?_ | refine XQ.inc rfl rfl rfl ⟨by omega, by omega⟩ ?_ | refine XQ.ms hM rfl rfl (by decide) (by omega) (by simp only [mLen]; omega) (fun S hM => ?_) | refine XQ.mp hM rfl rfl (fun S hM => ?_))
          refine XQ.cne rfl (fun q3 => ?_) (fun q3 => ?_)
          · rw [if_neg q3]
            repeat (first | refine XQ.go rfl rfl ?_ | refine XQ.zeq0 rfl ?_ | refine XQ.zeq1 rfl ?_ | refine XQ.zne0 rfl ?_ | refine XQ.zne1 rfl ?_ | refine XQ.mg hM rfl rfl ?_ | refine XQ.ml hM rfl rfl (by decide) (by omega) (by simp only [mLen]; omega) ?_ | refine XQ.add rfl ⟨by omega, by omega⟩ ?_ | refine XQ.sub rfl ⟨by omega, by omega⟩ ?_ | refine XQ.mul rfl ⟨by omega, by omega⟩ ?_ | refine XQ.inc rfl rfl rfl ⟨by omega, by omega⟩ ?_ | refine XQ.ms hM rfl rfl (by decide) (by omega) (by simp only [mLen]; omega) (fun S hM => ?_) | refine XQ.mp hM rfl rfl (fun S hM => ?_))
            exact XQ.ret rfl rfl ⟨rfl, hM⟩
          · rw [if_pos q3]
            repeat (first | refine XQ.go rfl rfl ?_ | refine XQ.zeq0 rfl ?_ | refine XQ.zeq1 rfl ?_ | refine XQ.zne0 rfl ?_ | refine XQ.zne1 rfl ?_ | refine XQ.mg hM rfl rfl ?_ | refine XQ.ml hM rfl rfl (by decide) (by omega) (by simp only [mLen]; omega) ?_ | refine XQ.add rfl ⟨by omega, by omega⟩ ?_ | refine XQ.sub rfl ⟨by omega, by omega⟩ ?_ | refine XQ.mul rfl ⟨by omega, by omega⟩ ?_ | refine XQ.inc rfl rfl rfl ⟨by omega, by omega⟩ ?_ | refine XQ.ms hM rfl rfl (by decide) (by omega) (by simp only [mLen]; omega) (fun S hM => ?_) | refine XQ.mp hM rfl rfl (fun S hM => ?_))
            exact XQ.ret rfl rfl ⟨rfl, hM⟩
      · rw [bad (by omega)]
        repeat (first | refine XQ.go rfl rfl ?_ | refine XQ.zeq0 rfl ?_ | refine XQ.zeq1 rfl ?_ | refine XQ.zne0 rfl ?_ | refine XQ.zne1 rfl ?_ | refine XQ.mg hM rfl rfl ?_ | refine XQ.ml hM rfl rfl (by decide) (by omega) (by simp only [mLen]; omega) ?_ | refine XQ.add rfl ⟨by omega, by omega⟩ ?_ | refine XQ.sub rfl ⟨by omega, by omega⟩ ?_ | refine XQ.mul rfl ⟨by omega, by omega⟩ ?_ | refine XQ.inc rfl rfl rfl ⟨by omega, by omega⟩ ?_ | refine XQ.ms hM rfl rfl (by decide) (by omega) (by simp only [mLen]; omega) (fun S hM => ?_) | refine XQ.mp hM rfl rfl (fun S hM => ?_))
        exact XQ.ret rfl rfl ⟨rfl, hM⟩
theorem M_find {w t k : Int} (hM : MO m S0 S M) (hB : BW M) : XQ (d + 3) k_M_find 0 (mentry (mL k_M_find) [.inr (some m), .inl w, .inl t, .inl k]) [] S (fun r S' => r = some (.inl (aFind M w t k).1) ∧ MO m S0 S' (aFind M w t k).2) := by
  have bad : (aObjOf M t 4 < 0 ∨ aObj M k < 0 ∨ w < 0 ∨ 5 < w) → aFind M w t k = (0, M) := fun q => by unfold aFind; rw [if_pos q]
  have hb := hB.1
  have hi := aObjOf_in hB.1 t 4
  have hi2 := aObj_in hB.1 t
  have hk := aObj_in hB.1 k
  repeat (first | refine XQ.go rfl rfl ?_ | refine XQ.zeq0 rfl ?_ | refine XQ.zeq1 rfl ?_ | refine XQ.zne0 rfl ?_ | refine XQ.zne1 rfl ?_ | refine XQ.mg hM rfl rfl ?_ | refine XQ.ml hM rfl rfl (by decide) (by omega) (by simp only [mLen]; omega) ?_ | refine XQ.add rfl ⟨by omega, by omega⟩ ?_ | refine XQ.sub rfl ⟨by omega, by omega⟩ ?_ | refine XQ.mul rfl ⟨by omega, by omega⟩ ?_ | refine XQ.inc rfl rfl rfl ⟨by omega, by omega⟩ ?_ | refine XQ.ms hM rfl rfl (by decide) (by omega) (by simp only [mLen]; omega) (fun S hM => ?_) | refine XQ.mp hM rfl rfl (fun S hM => ?_))
  refine XQ.v3 rfl hM.1.1 rfl (le8 rfl) (M_objectOf hM hB) (fun r S' hq => ?_)
  obtain ⟨rfl, rfl⟩ := hq
  repeat (first | refine XQ.go rfl rfl ?_ | refine XQ.zeq0 rfl ?_ | refine XQ.zeq1 rfl ?_ | refine XQ.zne0 rfl ?_ | refine XQ.zne1 rfl ?_ | refine XQ.mg hM rfl rfl ?_ | refine XQ.ml hM rfl rfl (by decide) (by omega) (by simp only [mLen]; omega) ?_ | refine XQ.add rfl ⟨by omega, by omega⟩ ?_ | refine XQ.sub rfl ⟨by omega, by omega⟩ ?_ | refine XQ.mul rfl ⟨by omega, by omega⟩ ?_ | refine XQ.inc rfl rfl rfl ⟨by omega, by omega⟩ ?_ | refine XQ.ms hM rfl rfl (by decide) (by omega) (by simp only [mLen]; omega) (fun S hM => ?_) | refine XQ.mp hM rfl rfl (fun S hM => ?_))
  refine XQ.zlt rfl (fun q => ?_) (fun q => ?_)
  · rw [bad (by omega)]
    repeat (first | refine XQ.go rfl rfl ?_ | refine XQ.zeq0 rfl ?_ | refine XQ.zeq1 rfl ?_ | refine XQ.zne0 rfl ?_ | refine XQ.zne1 rfl ?_ | refine XQ.mg hM rfl rfl ?_ | refine XQ.ml hM rfl rfl (by decide) (by omega) (by simp only [mLen]; omega) ?_ | refine XQ.add rfl ⟨by omega, by omega⟩ ?_ | refine XQ.sub rfl ⟨by omega, by omega⟩ ?_ | refine XQ.mul rfl ⟨by omega, by omega⟩ ?_ | refine XQ.inc rfl rfl rfl ⟨by omega, by omega⟩ ?_ | refine XQ.ms hM rfl rfl (by decide) (by omega) (by simp only [mLen]; omega) (fun S hM => ?_) | refine XQ.mp hM rfl rfl (fun S hM => ?_))
    exact XQ.ret rfl rfl ⟨rfl, hM⟩
  · have hm := hB.2.2.1 (aObjOf M t 4) (by omega) (by omega)
    repeat (first | refine XQ.go rfl rfl ?_ | refine XQ.zeq0 rfl ?_ | refine XQ.zeq1 rfl ?_ | refine XQ.zne0 rfl ?_ | refine XQ.zne1 rfl ?_ | refine XQ.mg hM rfl rfl ?_ | refine XQ.ml hM rfl rfl (by decide) (by omega) (by simp only [mLen]; omega) ?_ | refine XQ.add rfl ⟨by omega, by omega⟩ ?_ | refine XQ.sub rfl ⟨by omega, by omega⟩ ?_ | refine XQ.mul rfl ⟨by omega, by omega⟩ ?_ | refine XQ.inc rfl rfl rfl ⟨by omega, by omega⟩ ?_ | refine XQ.ms hM rfl rfl (by decide) (by omega) (by simp only [mLen]; omega) (fun S hM => ?_) | refine XQ.mp hM rfl rfl (fun S hM => ?_))
    refine XQ.v2 rfl hM.1.1 rfl (le8 rfl) (M_object (d := d + 1) hM hB) (fun r S' hq => ?_)
    obtain ⟨rfl, rfl⟩ := hq
    refine XQ.zlt rfl (fun q1 => ?_) (fun q1 => ?_)
    · rw [bad (by omega)]
      repeat (first | refine XQ.go rfl rfl ?_ | refine XQ.zeq0 rfl ?_ | refine XQ.zeq1 rfl ?_ | refine XQ.zne0 rfl ?_ | refine XQ.zne1 rfl ?_ | refine XQ.mg hM rfl rfl ?_ | refine XQ.ml hM rfl rfl (by decide) (by omega) (by simp only [mLen]; omega) ?_ | refine XQ.add rfl ⟨by omega, by omega⟩ ?_ | refine XQ.sub rfl ⟨by omega, by omega⟩ ?_ | refine XQ.mul rfl ⟨by omega, by omega⟩ ?_ | refine XQ.inc rfl rfl rfl ⟨by omega, by omega⟩ ?_ | refine XQ.ms hM rfl rfl (by decide) (by omega) (by simp only [mLen]; omega) (fun S hM => ?_) | refine XQ.mp hM rfl rfl (fun S hM => ?_))
      exact XQ.ret rfl rfl ⟨rfl, hM⟩
    · repeat (first | refine XQ.go rfl rfl ?_ | refine XQ.zeq0 rfl ?_ | refine XQ.zeq1 rfl ?_ | refine XQ.zne0 rfl ?_ | refine XQ.zne1 rfl ?_ | refine XQ.mg hM rfl rfl ?_ | refine XQ.ml hM rfl rfl (by decide) (by omega) (by simp only [mLen]; omega) ?_ | refine XQ.add rfl ⟨by omega, by omega⟩ ?_ | refine XQ.sub rfl ⟨by omega, by omega⟩ ?_ | refine XQ.mul rfl ⟨by omega, by omega⟩ ?_ | refine XQ.inc rfl rfl rfl ⟨by omega, by omega⟩ ?_ | refine XQ.ms hM rfl rfl (by decide) (by omega) (by simp only [mLen]; omega) (fun S hM => ?_) | refine XQ.mp hM rfl rfl (fun S hM => ?_))
      refine XQ.s1 rfl rfl (le8 rfl) (M_isVar (v := w)) (fun r S' hq => ?_)
      obtain ⟨rfl, ⟨rfl, hw⟩ | ⟨rfl, hw⟩⟩ := hq
      · have good : aFind M w t k = if aEnt M (aObjOf M t 4) (M 1 k) < 0 then (1, aHold M w 0 0) else (1, aHold M w (M 5 (4 * aObjOf M t 4 + aEnt M (aObjOf M t 4) (M 1 k))) (M 6 (4 * aObjOf M t 4 + aEnt M (aObjOf M t 4) (M 1 k)))) := by unfold aFind; rw [if_neg (by omega)]
        rw [good]
        repeat (first | refine XQ.go rfl rfl ?_ | refine XQ.zeq0 rfl ?_ | refine XQ.zeq1 rfl ?_ | refine XQ.zne0 rfl ?_ | refine XQ.zne1 rfl ?_ | refine XQ.mg hM rfl rfl ?_ | refine XQ.ml hM rfl rfl (by decide) (by omega) (by simp only [mLen]; omega) ?_ | refine XQ.add rfl ⟨by omega, by omega⟩ ?_ | refine XQ.sub rfl ⟨by omega, by omega⟩ ?_ | refine XQ.mul rfl ⟨by omega, by omega⟩ ?_ | refine XQ.inc rfl rfl rfl ⟨by omega, by omega⟩ ?_ | refine XQ.ms hM rfl rfl (by decide) (by omega) (by simp only [mLen]; omega) (fun S hM => ?_) | refine XQ.mp hM rfl rfl (fun S hM => ?_))
        have he := aEnt_in (M := M) (o := aObjOf M t 4) (key := M 1 k) hm.1
        refine XQ.v3 rfl hM.1.1 rfl (le8 rfl) (M_entry (d := d + 2) hM hB (by omega) (by omega)) (fun r S' hq => ?_)
        obtain ⟨rfl, rfl⟩ := hq
        generalize aObjOf M t 4 = o at *
        generalize aEnt M o (M 1 k) = e at *
        repeat (first | refine XQ.go rfl rfl ?_ | refine XQ.zeq0 rfl ?_ | refine XQ.zeq1 rfl ?_ | refine XQ.zne0 rfl ?_ | refine XQ.zne1 rfl ?_ | refine XQ.mg hM rfl rfl ?_ | refine XQ.ml hM rfl rfl (by decide) (by omega) (by simp only [mLen]; omega) ?_ | refine XQ.add rfl ⟨by omega, by omega⟩ ?_ | refine XQ.sub rfl ⟨by omega, by omega⟩ ?_ | refine XQ.mul rfl ⟨by omega, by omega⟩ ?_ | refine XQ.inc rfl rfl rfl ⟨by omega, by omega⟩ ?_ | refine XQ.ms hM rfl rfl (by decide) (by omega) (by simp only [mLen]; omega) (fun S hM => ?_) | refine XQ.mp hM rfl rfl (fun S hM => ?_))
        refine XQ.zge rfl (fun q2 => ?_) (fun q2 => ?_)
        · rw [if_neg (by omega)]
          repeat (first | refine XQ.go rfl rfl ?_ | refine XQ.zeq0 rfl ?_ | refine XQ.zeq1 rfl ?_ | refine XQ.zne0 rfl ?_ | refine XQ.zne1 rfl ?_ | refine XQ.mg hM rfl rfl ?_ | refine XQ.ml hM rfl rfl (by decide) (by omega) (by simp only [mLen]; omega) ?_ | refine XQ.add rfl ⟨by omega, by omega⟩ ?_ | refine XQ.sub rfl ⟨by omega, by omega⟩ ?_ | refine XQ.mul rfl ⟨by omega, by omega⟩ ?_ | refine XQ.inc rfl rfl rfl ⟨by omega, by omega⟩ ?_ | refine XQ.ms hM rfl rfl (by decide) (by omega) (by simp only [mLen]; omega) (fun S hM => ?_) | refine XQ.mp hM rfl rfl (fun S hM => ?_))
          refine XQ.v4 rfl hM.1.1 rfl (le8 rfl) (M_hold hM hw.1 hw.2) (fun r S hq => ?_)
          obtain ⟨rfl, hM⟩ := hq
          repeat (first | refine XQ.go rfl rfl ?_ | refine XQ.zeq0 rfl ?_ | refine XQ.zeq1 rfl ?_ | refine XQ.zne0 rfl ?_ | refine XQ.zne1 rfl ?_ | refine XQ.mg hM rfl rfl ?_ | refine XQ.ml hM rfl rfl (by decide) (by omega) (by simp only [mLen]; omega) ?_ | refine XQ.add rfl ⟨by omega, by omega⟩ ?_ | refine XQ.sub rfl ⟨by omega, by omega⟩ ?_ | refine XQ.mul rfl ⟨by omega, by omega⟩ ?_ | refine XQ.inc rfl rfl rfl ⟨by omega, by omega⟩ ?_ | refine XQ.ms hM rfl rfl (by decide) (by omega) (by simp only [mLen]; omega) (fun S hM => ?_) | refine XQ.mp hM rfl rfl (fun S hM => ?_))
          exact XQ.ret rfl rfl ⟨rfl, hM⟩
        · rw [if_pos q2]
          repeat (first | refine XQ.go rfl rfl ?_ | refine XQ.zeq0 rfl ?_ | refine XQ.zeq1 rfl ?_ | refine XQ.zne0 rfl ?_ | refine XQ.zne1 rfl ?_ | refine XQ.mg hM rfl rfl ?_ | refine XQ.ml hM rfl rfl (by decide) (by omega) (by simp only [mLen]; omega) ?_ | refine XQ.add rfl ⟨by omega, by omega⟩ ?_ | refine XQ.sub rfl ⟨by omega, by omega⟩ ?_ | refine XQ.mul rfl ⟨by omega, by omega⟩ ?_ | refine XQ.inc rfl rfl rfl ⟨by omega, by omega⟩ ?_ | refine XQ.ms hM rfl rfl (by decide) (by omega) (by simp only [mLen]; omega) (fun S hM => ?_) | refine XQ.mp hM rfl rfl (fun S hM => ?_))
          refine XQ.v4 rfl hM.1.1 rfl (le8 rfl) (M_hold hM hw.1 hw.2) (fun r S hq => ?_)
          obtain ⟨rfl, hM⟩ := hq
          repeat (first | refine XQ.go rfl rfl ?_ | refine XQ.zeq0 rfl ?_ | refine XQ.zeq1 rfl ?_ | refine XQ.zne0 rfl ?_ | refine XQ.zne1 rfl ?_ | refine XQ.mg hM rfl rfl ?_ | refine XQ.ml hM rfl rfl (by decide) (by omega) (by simp only [mLen]; omega) ?_ | refine XQ.add rfl ⟨by omega, by omega⟩ ?_ | refine XQ.sub rfl ⟨by omega, by omega⟩ ?_ | refine XQ.mul rfl ⟨by omega, by omega⟩ ?_ | refine XQ.inc rfl rfl rfl ⟨by omega, by omega⟩ ?_ | refine XQ.ms hM rfl rfl (by decide) (by omega) (by simp only [mLen]; omega) (fun S hM => ?_) | refine XQ.mp hM rfl rfl (fun S hM => ?_))
          exact XQ.ret rfl rfl ⟨rfl, hM⟩
      · rw [bad (by omega)]
        repeat (first | refine XQ.go rfl rfl ?_ | refine XQ.zeq0 rfl ?_ | refine XQ.zeq1 rfl ?_ | refine XQ.zne0 rfl ?_ | refine XQ.zne1 rfl ?_ | refine XQ.mg hM rfl rfl ?_ | refine XQ.ml hM rfl rfl (by decide) (by omega) (by simp only [mLen]; omega) ?_ | refine XQ.add rfl ⟨by omega, by omega⟩ ?_ | refine XQ.sub rfl ⟨by omega, by omega⟩ ?_ | refine XQ.mul rfl ⟨by omega, by omega⟩ ?_ | refine XQ.inc rfl rfl rfl ⟨by omega, by omega⟩ ?_ | refine XQ.ms hM rfl rfl (by decide) (by omega) (by simp only [mLen]; omega) (fun S hM => ?_) | refine XQ.mp hM rfl rfl (fun S hM => ?_))
        exact XQ.ret rfl rfl ⟨rfl, hM⟩
theorem M_next_l {t v : Int} {M : MM} {n : Int} (hn : n ≤ 7) (h3 : M 13 3 = n) (h0 : 0 ≤ n) : ∀ (j k : Nat) (S : MS), ((k + j : Nat) : Int) = n → MO m S0 S (lp aNxF k M) → XQ d k_M_next 48 [some (.inr (some m)), some (.inl v), some (.inl t), some (.inl (k : Int))] [] S (fun r S' => r = some (.inl t) ∧ MO m S0 S' (lp aNxF n.toNat M)) := by
  intro j
  induction j with
  | zero =>
    intro k S hk hM
    have hoff : offS [11, 12] M (lp aNxF k M) := lp_inv (fun _ q => offS [11, 12] M q) offS.rf k (fun i x _ hx => (hx.u rfl _ _).u rfl _ _)
    have e3 := hoff 13 3 rfl
    rw [show n.toNat = k by omega]
    repeat (first | refine XQ.go rfl rfl ?_ | refine XQ.zeq0 rfl ?_ | refine XQ.zeq1 rfl ?_ | refine XQ.zne0 rfl ?_ | refine XQ.zne1 rfl ?_ | refine XQ.mg hM rfl rfl ?_ | refine XQ.ml hM rfl rfl (by decide) (by omega) (by simp only [mLen]; omega) ?_ | refine XQ.add rfl ⟨by omega, by omega⟩ ?_ | refine XQ.sub rfl ⟨by omega, by omega⟩ ?_ | refine XQ.mul rfl ⟨by omega, by omega⟩ ?_ | refine XQ.inc rfl rfl rfl ⟨by omega, by omega⟩ ?_ | refine XQ.ms hM rfl rfl (by decide) (by omega) (by simp only [mLen]; omega) (fun S hM => ?_) | refine XQ.mp hM rfl rfl (fun S hM => ?_))
    refine XQ.cge rfl (fun q => ?_) (fun q => by omega)
    repeat (first | refine XQ.go rfl rfl ?_ | refine XQ.zeq0 rfl ?_ | refine XQ.zeq1 rfl ?_ | refine XQ.zne0 rfl ?_ | refine XQ.zne1 rfl ?_ | refine XQ.mg hM rfl rfl ?_ | refine XQ.ml hM rfl rfl (by decide) (by omega) (by simp only [mLen]; omega) ?_ | refine XQ.add rfl ⟨by omega, by omega⟩ ?_ | refine XQ.sub rfl ⟨by omega, by omega⟩ ?_ | refine XQ.mul rfl ⟨by omega, by omega⟩ ?_ | refine XQ.inc rfl rfl rfl ⟨by omega, by omega⟩ ?_ | refine XQ.ms hM rfl rfl (by decide) (by omega) (by simp only [mLen]; omega) (fun S hM => ?_) | refine XQ.mp hM rfl rfl (fun S hM => ?_))
    exact XQ.ret rfl rfl ⟨rfl, hM⟩
  | succ j ih =>
    intro k S hk hM
    have hoff : offS [11, 12] M (lp aNxF k M) := lp_inv (fun _ q => offS [11, 12] M q) offS.rf k (fun i x _ hx => (hx.u rfl _ _).u rfl _ _)
    have e3 := hoff 13 3 rfl
    have en : lp aNxF (k + 1) M = aNxF k (lp aNxF k M) := rfl
    have ih2 := fun S hM => ih (k + 1) S (by omega) hM
    rw [en] at ih2
    generalize lp aNxF k M = N at hM hoff e3 ih2
    repeat (first | refine XQ.go rfl rfl ?_ | refine XQ.zeq0 rfl ?_ | refine XQ.zeq1 rfl ?_ | refine XQ.zne0 rfl ?_ | refine XQ.zne1 rfl ?_ | refine XQ.mg hM rfl rfl ?_ | refine XQ.ml hM rfl rfl (by decide) (by omega) (by simp only [mLen]; omega) ?_ | refine XQ.add rfl ⟨by omega, by omega⟩ ?_ | refine XQ.sub rfl ⟨by omega, by omega⟩ ?_ | refine XQ.mul rfl ⟨by omega, by omega⟩ ?_ | refine XQ.inc rfl rfl rfl ⟨by omega, by omega⟩ ?_ | refine XQ.ms hM rfl rfl (by decide) (by omega) (by simp only [mLen]; omega) (fun S hM => ?_) | refine XQ.mp hM rfl rfl (fun S hM => ?_))
    refine XQ.cge rfl (fun q => by omega) (fun q => ?_)
    repeat (first | exact ih2 _ hM | refine XQ.go rfl rfl ?_ | refine XQ.zeq0 rfl ?_ | refine XQ.zeq1 rfl ?_ | refine XQ.zne0 rfl ?_ | refine XQ.zne1 rfl ?_ | refine XQ.mg hM rfl rfl ?_ | refine XQ.ml hM rfl rfl (by decide) (by omega) (by simp only [mLen]; omega) ?_ | refine XQ.add rfl ⟨by omega, by omega⟩ ?_ | refine XQ.sub rfl ⟨by omega, by omega⟩ ?_ | refine XQ.mul rfl ⟨by omega, by omega⟩ ?_ | refine XQ.inc rfl rfl rfl ⟨by omega, by omega⟩ ?_ | refine XQ.ms hM rfl rfl (by decide) (by omega) (by simp only [mLen]; omega) (fun S hM => ?_) | refine XQ.mp hM rfl rfl (fun S hM => ?_))
theorem M_next {v : Int} (hM : MO m S0 S M) (hB : BW M) : XQ (d + 1) k_M_next 0 (mentry (mL k_M_next) [.inr (some m), .inl v]) [] S (fun r S' => r = some (.inl (aNext M v).1) ∧ MO m S0 S' (aNext M v).2) := by
  have bad : (v < 0 ∨ 5 < v ∨ M 13 3 = 0) → aNext M v = (-1, M) := fun q => by unfold aNext; rw [if_pos q]
  have hb := hB.2.1
  repeat (first | refine XQ.go rfl rfl ?_ | refine XQ.zeq0 rfl ?_ | refine XQ.zeq1 rfl ?_ | refine XQ.zne0 rfl ?_ | refine XQ.zne1 rfl ?_ | refine XQ.mg hM rfl rfl ?_ | refine XQ.ml hM rfl rfl (by decide) (by omega) (by simp only [mLen]; omega) ?_ | refine XQ.add rfl ⟨by omega, by omega⟩ ?_ | refine XQ.sub rfl ⟨by omega, by omega⟩ ?_ | refine XQ.mul rfl ⟨by omega, by omega⟩ ?_ | refine XQ.inc rfl rfl rfl ⟨by omega, by omega⟩ ?_ | refine XQ.ms hM rfl rfl (by decide) (by omega) (by simp only [mLen]; omega) (fun S hM => ?_) | refine XQ.mp hM rfl rfl (fun S hM => ?_))
  refine XQ.s1 rfl rfl (le8 rfl) (M_isVar (v := v)) (fun r S' hq => ?_)
  obtain ⟨rfl, ⟨rfl, hv⟩ | ⟨rfl, hv⟩⟩ := hq
  · repeat (first | refine XQ.go rfl rfl ?_ | refine XQ.zeq0 rfl ?_ | refine XQ.zeq1 rfl ?_ | refine XQ.zne0 rfl ?_ | refine XQ.zne1 rfl ?_ | refine XQ.mg hM rfl rfl ?_ | refine XQ.ml hM rfl rfl (by decide) (by omega) (by simp only [mLen]; omega) ?_ | refine XQ.add rfl ⟨by omega, by omega⟩ ?_ | refine XQ.sub rfl ⟨by omega, by omega⟩ ?_ | refine XQ.mul rfl ⟨by omega, by omega⟩ ?_ | refine XQ.inc rfl rfl rfl ⟨by omega, by omega⟩ ?_ | refine XQ.ms hM rfl rfl (by decide) (by omega) (by simp only [mLen]; omega) (fun S hM => ?_) | refine XQ.mp hM rfl rfl (fun S hM => ?_))
    refine XQ.zne rfl (fun q => ?_) (fun q => ?_)
    · have good : aNext M v = (M 12 0, lp aNxF (M 13 3 - 1).toNat (u2 (aHold M v 9 (M 11 0)) 13 3 (M 13 3 - 1))) := by unfold aNext; rw [if_neg (by omega)]
      rw [good]
      repeat (first | refine XQ.go rfl rfl ?_ | refine XQ.zeq0 rfl ?_ | refine XQ.zeq1 rfl ?_ | refine XQ.zne0 rfl ?_ | refine XQ.zne1 rfl ?_ | refine XQ.mg hM rfl rfl ?_ | refine XQ.ml hM rfl rfl (by decide) (by omega) (by simp only [mLen]; omega) ?_ | refine XQ.add rfl ⟨by omega, by omega⟩ ?_ | refine XQ.sub rfl ⟨by omega, by omega⟩ ?_ | refine XQ.mul rfl ⟨by omega, by omega⟩ ?_ | refine XQ.inc rfl rfl rfl ⟨by omega, by omega⟩ ?_ | refine XQ.ms hM rfl rfl (by decide) (by omega) (by simp only [mLen]; omega) (fun S hM => ?_) | refine XQ.mp hM rfl rfl (fun S hM => ?_))
      refine XQ.v4 rfl hM.1.1 rfl (le8 rfl) (M_hold hM hv.1 hv.2) (fun r S hq => ?_)
      obtain ⟨rfl, hM⟩ := hq
      repeat (first | refine XQ.go rfl rfl ?_ | refine XQ.mg hM rfl rfl ?_)
      refine XQ.sub rfl (show inR (M 13 3 - 1) from ⟨by omega, by omega⟩) ?_
      refine XQ.mp hM rfl rfl (fun S hM => ?_)
      have h0 := M_next_l (d := d + 1) (m := m) (S0 := S0) (t := M 12 0) (v := v) (M := u2 (aHold M v 9 (M 11 0)) 13 3 (M 13 3 - 1)) (n := M 13 3 - 1) (by omega) (u2_s _ _ _ _) (by omega) (M 13 3 - 1).toNat 0 S (by omega) hM
      repeat (first | exact h0 | refine XQ.go rfl rfl ?_)
    · rw [bad (by omega)]
      repeat (first | refine XQ.go rfl rfl ?_ | refine XQ.zeq0 rfl ?_ | refine XQ.zeq1 rfl ?_ | refine XQ.zne0 rfl ?_ | refine XQ.zne1 rfl ?_ | refine XQ.mg hM rfl rfl ?_ | refine XQ.ml hM rfl rfl (by decide) (by omega) (by simp only [mLen]; omega) ?_ | refine XQ.add rfl ⟨by omega, by omega⟩ ?_ | refine XQ.sub rfl ⟨by omega, by omega⟩ ?_ | refine XQ.mul rfl ⟨by omega, by omega⟩ ?_ | refine XQ.inc rfl rfl rfl ⟨by omega, by omega⟩ ?_ | refine XQ.ms hM rfl rfl (by decide) (by omega) (by simp only [mLen]; omega) (fun S hM => ?_) | refine XQ.mp hM rfl rfl (fun S hM => ?_))
      exact XQ.ret rfl rfl ⟨rfl, hM⟩
  · rw [bad (by omega)]
    repeat (first | refine XQ.go rfl rfl ?_ | refine XQ.zeq0 rfl ?_ | refine XQ.zeq1 rfl ?_ | refine XQ.zne0 rfl ?_ | refine XQ.zne1 rfl ?_ | refine XQ.mg hM rfl rfl ?_ | refine XQ.ml hM rfl rfl (by decide) (by omega) (by simp only [mLen]; omega) ?_ | refine XQ.add rfl ⟨by omega, by omega⟩ ?_ | refine XQ.sub rfl ⟨by omega, by omega⟩ ?_ | refine XQ.mul rfl ⟨by omega, by omega⟩ ?_ | refine XQ.inc rfl rfl rfl ⟨by omega, by omega⟩ ?_ | refine XQ.ms hM rfl rfl (by decide) (by omega) (by simp only [mLen]; omega) (fun S hM => ?_) | refine XQ.mp hM rfl rfl (fun S hM => ?_))
    exact XQ.ret rfl rfl ⟨rfl, hM⟩
theorem M_kind {v : Int} (hM : MO m S0 S M) (hB : BW M) : XQ (d + 2) k_M_kind 0 (mentry (mL k_M_kind) [.inr (some m), .inl v]) [] S (fun r S' => S' = S ∧ r = some (.inl (aKind M v))) := by
  have hb := hB.1
  have hi := aObj_in hB.1 v
  repeat (first | refine XQ.go rfl rfl ?_ | refine XQ.zeq0 rfl ?_ | refine XQ.zeq1 rfl ?_ | refine XQ.zne0 rfl ?_ | refine XQ.zne1 rfl ?_ | refine XQ.mg hM rfl rfl ?_ | refine XQ.ml hM rfl rfl (by decide) (by omega) (by simp only [mLen]; omega) ?_ | refine XQ.add rfl ⟨by omega, by omega⟩ ?_ | refine XQ.sub rfl ⟨by omega, by omega⟩ ?_ | refine XQ.mul rfl ⟨by omega, by omega⟩ ?_ | refine XQ.inc rfl rfl rfl ⟨by omega, by omega⟩ ?_ | refine XQ.ms hM rfl rfl (by decide) (by omega) (by simp only [mLen]; omega) (fun S hM => ?_) | refine XQ.mp hM rfl rfl (fun S hM => ?_))
  refine XQ.s1 rfl rfl (le8 rfl) (M_isVar (v := v)) (fun r S' hq => ?_)
  obtain ⟨rfl, ⟨rfl, hv⟩ | ⟨rfl, hv⟩⟩ := hq
  · repeat (first | refine XQ.go rfl rfl ?_ | refine XQ.zeq0 rfl ?_ | refine XQ.zeq1 rfl ?_ | refine XQ.zne0 rfl ?_ | refine XQ.zne1 rfl ?_ | refine XQ.mg hM rfl rfl ?_ | refine XQ.ml hM rfl rfl (by decide) (by omega) (by simp only [mLen]; omega) ?_ | refine XQ.add rfl ⟨by omega, by omega⟩ ?_ | refine XQ.sub rfl ⟨by omega, by omega⟩ ?_ | refine XQ.mul rfl ⟨by omega, by omega⟩ ?_ | refine XQ.inc rfl rfl rfl ⟨by omega, by omega⟩ ?_ | refine XQ.ms hM rfl rfl (by decide) (by omega) (by simp only [mLen]; omega) (fun S hM => ?_) | refine XQ.mp hM rfl rfl (fun S hM => ?_))
    refine XQ.v2 rfl hM.1.1 rfl (le8 rfl) (M_object hM hB) (fun r S' hq => ?_)
    obtain ⟨rfl, rfl⟩ := hq
    repeat (first | refine XQ.go rfl rfl ?_ | refine XQ.zeq0 rfl ?_ | refine XQ.zeq1 rfl ?_ | refine XQ.zne0 rfl ?_ | refine XQ.zne1 rfl ?_ | refine XQ.mg hM rfl rfl ?_ | refine XQ.ml hM rfl rfl (by decide) (by omega) (by simp only [mLen]; omega) ?_ | refine XQ.add rfl ⟨by omega, by omega⟩ ?_ | refine XQ.sub rfl ⟨by omega, by omega⟩ ?_ | refine XQ.mul rfl ⟨by omega, by omega⟩ ?_ | refine XQ.inc rfl rfl rfl ⟨by omega, by omega⟩ ?_ | refine XQ.ms hM rfl rfl (by decide) (by omega) (by simp only [mLen]; omega) (fun S hM => ?_) | refine XQ.mp hM rfl rfl (fun S hM => ?_))
    refine XQ.zlt rfl (fun q => ?_) (fun q => ?_)
    · have e : aKind M v = M 0 v := by unfold aKind; rw [if_neg (by omega), if_neg (by omega)]
      rw [e]
      repeat (first | refine XQ.go rfl rfl ?_ | refine XQ.zeq0 rfl ?_ | refine XQ.zeq1 rfl ?_ | refine XQ.zne0 rfl ?_ | refine XQ.zne1 rfl ?_ | refine XQ.mg hM rfl rfl ?_ | refine XQ.ml hM rfl rfl (by decide) (by omega) (by simp only [mLen]; omega) ?_ | refine XQ.add rfl ⟨by omega, by omega⟩ ?_ | refine XQ.sub rfl ⟨by omega, by omega⟩ ?_ | refine XQ.mul rfl ⟨by omega, by omega⟩ ?_ | refine XQ.inc rfl rfl rfl ⟨by omega, by omega⟩ ?_ | refine XQ.ms hM rfl rfl (by decide) (by omega) (by simp only [mLen]; omega) (fun S hM => ?_) | refine XQ.mp hM rfl rfl (fun S hM => ?_))
      exact XQ.ret rfl rfl ⟨rfl, rfl⟩
    · have e : aKind M v = M 3 (aObj M v) := by unfold aKind; rw [if_neg (by omega), if_pos q]
      rw [e]
      repeat (first | refine XQ.go rfl rfl ?_ | refine XQ.zeq0 rfl ?_ | refine XQ.zeq1 rfl ?_ | refine XQ.zne0 rfl ?_ | refine XQ.zne1 rfl ?_ | refine XQ.mg hM rfl rfl ?_ | refine XQ.ml hM rfl rfl (by decide) (by omega) (by simp only [mLen]; omega) ?_ | refine XQ.add rfl ⟨by omega, by omega⟩ ?_ | refine XQ.sub rfl ⟨by omega, by omega⟩ ?_ | refine XQ.mul rfl ⟨by omega, by omega⟩ ?_ | refine XQ.inc rfl rfl rfl ⟨by omega, by omega⟩ ?_ | refine XQ.ms hM rfl rfl (by decide) (by omega) (by simp only [mLen]; omega) (fun S hM => ?_) | refine XQ.mp hM rfl rfl (fun S hM => ?_))
      exact XQ.ret rfl rfl ⟨rfl, rfl⟩
  · have e : aKind M v = -1 := by unfold aKind; rw [if_pos (by omega)]
    rw [e]
    repeat (first | refine XQ.go rfl rfl ?_ | refine XQ.zeq0 rfl ?_ | refine XQ.zeq1 rfl ?_ | refine XQ.zne0 rfl ?_ | refine XQ.zne1 rfl ?_ | refine XQ.mg hM rfl rfl ?_ | refine XQ.ml hM rfl rfl (by decide) (by omega) (by simp only [mLen]; omega) ?_ | refine XQ.add rfl ⟨by omega, by omega⟩ ?_ | refine XQ.sub rfl ⟨by omega, by omega⟩ ?_ | refine XQ.mul rfl ⟨by omega, by omega⟩ ?_ | refine XQ.inc rfl rfl rfl ⟨by omega, by omega⟩ ?_ | refine XQ.ms hM rfl rfl (by decide) (by omega) (by simp only [mLen]; omega) (fun S hM => ?_) | refine XQ.mp hM rfl rfl (fun S hM => ?_))
    exact XQ.ret rfl rfl ⟨rfl, rfl⟩
theorem M_value {v : Int} (hM : MO m S0 S M) : XQ (d + 1) k_M_value 0 (mentry (mL k_M_value) [.inr (some m), .inl v]) [] S (fun r S' => S' = S ∧ r = some (.inl (aValue M v))) := by
  repeat (first | refine XQ.go rfl rfl ?_ | refine XQ.zeq0 rfl ?_ | refine XQ.zeq1 rfl ?_ | refine XQ.zne0 rfl ?_ | refine XQ.zne1 rfl ?_ | refine XQ.mg hM rfl rfl ?_ | refine XQ.ml hM rfl rfl (by decide) (by omega) (by simp only [mLen]; omega) ?_ | refine XQ.add rfl ⟨by omega, by omega⟩ ?_ | refine XQ.sub rfl ⟨by omega, by omega⟩ ?_ | refine XQ.mul rfl ⟨by omega, by omega⟩ ?_ | refine XQ.inc rfl rfl rfl ⟨by omega, by omega⟩ ?_ | refine XQ.ms hM rfl rfl (by decide) (by omega) (by simp only [mLen]; omega) (fun S hM => ?_) | refine XQ.mp hM rfl rfl (fun S hM => ?_))
  refine XQ.s1 rfl rfl (le8 rfl) (M_isVar (v := v)) (fun r S' hq => ?_)
  obtain ⟨rfl, ⟨rfl, hv⟩ | ⟨rfl, hv⟩⟩ := hq
  · repeat (first | refine XQ.go rfl rfl ?_ | refine XQ.zeq0 rfl ?_ | refine XQ.zeq1 rfl ?_ | refine XQ.zne0 rfl ?_ | refine XQ.zne1 rfl ?_ | refine XQ.mg hM rfl rfl ?_ | refine XQ.ml hM rfl rfl (by decide) (by omega) (by simp only [mLen]; omega) ?_ | refine XQ.add rfl ⟨by omega, by omega⟩ ?_ | refine XQ.sub rfl ⟨by omega, by omega⟩ ?_ | refine XQ.mul rfl ⟨by omega, by omega⟩ ?_ | refine XQ.inc rfl rfl rfl ⟨by omega, by omega⟩ ?_ | refine XQ.ms hM rfl rfl (by decide) (by omega) (by simp only [mLen]; omega) (fun S hM => ?_) | refine XQ.mp hM rfl rfl (fun S hM => ?_))
    refine XQ.cne rfl (fun q => ?_) (fun q => ?_)
    · have e : aValue M v = 0 := by unfold aValue; rw [if_neg (fun z => q z.2.2)]
      rw [e]
      repeat (first | refine XQ.go rfl rfl ?_ | refine XQ.zeq0 rfl ?_ | refine XQ.zeq1 rfl ?_ | refine XQ.zne0 rfl ?_ | refine XQ.zne1 rfl ?_ | refine XQ.mg hM rfl rfl ?_ | refine XQ.ml hM rfl rfl (by decide) (by omega) (by simp only [mLen]; omega) ?_ | refine XQ.add rfl ⟨by omega, by omega⟩ ?_ | refine XQ.sub rfl ⟨by omega, by omega⟩ ?_ | refine XQ.mul rfl ⟨by omega, by omega⟩ ?_ | refine XQ.inc rfl rfl rfl ⟨by omega, by omega⟩ ?_ | refine XQ.ms hM rfl rfl (by decide) (by omega) (by simp only [mLen]; omega) (fun S hM => ?_) | refine XQ.mp hM rfl rfl (fun S hM => ?_))
      exact XQ.ret rfl rfl ⟨rfl, rfl⟩
    · have e : aValue M v = M 1 v := by unfold aValue; rw [if_pos ⟨hv.1, hv.2, q⟩]
      rw [e]
      repeat (first | refine XQ.go rfl rfl ?_ | refine XQ.zeq0 rfl ?_ | refine XQ.zeq1 rfl ?_ | refine XQ.zne0 rfl ?_ | refine XQ.zne1 rfl ?_ | refine XQ.mg hM rfl rfl ?_ | refine XQ.ml hM rfl rfl (by decide) (by omega) (by simp only [mLen]; omega) ?_ | refine XQ.add rfl ⟨by omega, by omega⟩ ?_ | refine XQ.sub rfl ⟨by omega, by omega⟩ ?_ | refine XQ.mul rfl ⟨by omega, by omega⟩ ?_ | refine XQ.inc rfl rfl rfl ⟨by omega, by omega⟩ ?_ | refine XQ.ms hM rfl rfl (by decide) (by omega) (by simp only [mLen]; omega) (fun S hM => ?_) | refine XQ.mp hM rfl rfl (fun S hM => ?_))
      exact XQ.ret rfl rfl ⟨rfl, rfl⟩
  · have e : aValue M v = 0 := by unfold aValue; rw [if_neg (fun z => by omega)]
    rw [e]
    repeat (first | refine XQ.go rfl rfl ?_ | refine XQ.zeq0 rfl ?_ | refine XQ.zeq1 rfl ?_ | refine XQ.zne0 rfl ?_ | refine XQ.zne1 rfl ?_ | refine XQ.mg hM rfl rfl ?_ | refine XQ.ml hM rfl rfl (by decide) (by omega) (by simp only [mLen]; omega) ?_ | refine XQ.add rfl ⟨by omega, by omega⟩ ?_ | refine XQ.sub rfl ⟨by omega, by omega⟩ ?_ | refine XQ.mul rfl ⟨by omega, by omega⟩ ?_ | refine XQ.inc rfl rfl rfl ⟨by omega, by omega⟩ ?_ | refine XQ.ms hM rfl rfl (by decide) (by omega) (by simp only [mLen]; omega) (fun S hM => ?_) | refine XQ.mp hM rfl rfl (fun S hM => ?_))
    exact XQ.ret rfl rfl ⟨rfl, rfl⟩
theorem M_hash {v : Int} (hM : MO m S0 S M) (hB : BW M) : XQ (d + 2) k_M_hash 0 (mentry (mL k_M_hash) [.inr (some m), .inl v]) [] S (fun r S' => S' = S ∧ r = some (.inl (aHash M v))) := by
  have hi := aObj_in hB.1 v
  repeat (first | refine XQ.go rfl rfl ?_ | refine XQ.zeq0 rfl ?_ | refine XQ.zeq1 rfl ?_ | refine XQ.zne0 rfl ?_ | refine XQ.zne1 rfl ?_ | refine XQ.mg hM rfl rfl ?_ | refine XQ.ml hM rfl rfl (by decide) (by omega) (by simp only [mLen]; omega) ?_ | refine XQ.add rfl ⟨by omega, by omega⟩ ?_ | refine XQ.sub rfl ⟨by omega, by omega⟩ ?_ | refine XQ.mul rfl ⟨by omega, by omega⟩ ?_ | refine XQ.inc rfl rfl rfl ⟨by omega, by omega⟩ ?_ | refine XQ.ms hM rfl rfl (by decide) (by omega) (by simp only [mLen]; omega) (fun S hM => ?_) | refine XQ.mp hM rfl rfl (fun S hM => ?_))
  refine XQ.v2 rfl hM.1.1 rfl (le8 rfl) (M_object hM hB) (fun r S' hq => ?_)
  obtain ⟨rfl, rfl⟩ := hq
  refine XQ.zlt rfl (fun q => ?_) (fun q => ?_)
  · have e : aHash M v = 0 := by unfold aHash; rw [if_neg (by omega)]
    rw [e]
    repeat (first | refine XQ.go rfl rfl ?_ | refine XQ.zeq0 rfl ?_ | refine XQ.zeq1 rfl ?_ | refine XQ.zne0 rfl ?_ | refine XQ.zne1 rfl ?_ | refine XQ.mg hM rfl rfl ?_ | refine XQ.ml hM rfl rfl (by decide) (by omega) (by simp only [mLen]; omega) ?_ | refine XQ.add rfl ⟨by omega, by omega⟩ ?_ | refine XQ.sub rfl ⟨by omega, by omega⟩ ?_ | refine XQ.mul rfl ⟨by omega, by omega⟩ ?_ | refine XQ.inc rfl rfl rfl ⟨by omega, by omega⟩ ?_ | refine XQ.ms hM rfl rfl (by decide) (by omega) (by simp only [mLen]; omega) (fun S hM => ?_) | refine XQ.mp hM rfl rfl (fun S hM => ?_))
    exact XQ.ret rfl rfl ⟨rfl, rfl⟩
  · have e : aHash M v = M 1 v := by unfold aHash; rw [if_pos q]
    rw [e]
    repeat (first | refine XQ.go rfl rfl ?_ | refine XQ.zeq0 rfl ?_ | refine XQ.zeq1 rfl ?_ | refine XQ.zne0 rfl ?_ | refine XQ.zne1 rfl ?_ | refine XQ.mg hM rfl rfl ?_ | refine XQ.ml hM rfl rfl (by decide) (by omega) (by simp only [mLen]; omega) ?_ | refine XQ.add rfl ⟨by omega, by omega⟩ ?_ | refine XQ.sub rfl ⟨by omega, by omega⟩ ?_ | refine XQ.mul rfl ⟨by omega, by omega⟩ ?_ | refine XQ.inc rfl rfl rfl ⟨by omega, by omega⟩ ?_ | refine XQ.ms hM rfl rfl (by decide) (by omega) (by simp only [mLen]; omega) (fun S hM => ?_) | refine XQ.mp hM rfl rfl (fun S hM => ?_))
    exact XQ.ret rfl rfl ⟨rfl, rfl⟩
theorem M_place {v : Int} (hM : MO m S0 S M) (hB : BW M) : XQ (d + 2) k_M_place 0 (mentry (mL k_M_place) [.inr (some m), .inl v]) [] S (fun r S' => S' = S ∧ r = some (.inl (aPlace M v))) := by
  have hi := aObj_in hB.1 v
  repeat (first | refine XQ.go rfl rfl ?_ | refine XQ.zeq0 rfl ?_ | refine XQ.zeq1 rfl ?_ | refine XQ.zne0 rfl ?_ | refine XQ.zne1 rfl ?_ | refine XQ.mg hM rfl rfl ?_ | refine XQ.ml hM rfl rfl (by decide) (by omega) (by simp only [mLen]; omega) ?_ | refine XQ.add rfl ⟨by omega, by omega⟩ ?_ | refine XQ.sub rfl ⟨by omega, by omega⟩ ?_ | refine XQ.mul rfl ⟨by omega, by omega⟩ ?_ | refine XQ.inc rfl rfl rfl ⟨by omega, by omega⟩ ?_ | refine XQ.ms hM rfl rfl (by decide) (by omega) (by simp only [mLen]; omega) (fun S hM => ?_) | refine XQ.mp hM rfl rfl (fun S hM => ?_))
  refine XQ.v2 rfl hM.1.1 rfl (le8 rfl) (M_object hM hB) (fun r S' hq => ?_)
  obtain ⟨rfl, rfl⟩ := hq
  repeat (first | refine XQ.go rfl rfl ?_ | refine XQ.zeq0 rfl ?_ | refine XQ.zeq1 rfl ?_ | refine XQ.zne0 rfl ?_ | refine XQ.zne1 rfl ?_ | refine XQ.mg hM rfl rfl ?_ | refine XQ.ml hM rfl rfl (by decide) (by omega) (by simp only [mLen]; omega) ?_ | refine XQ.add rfl ⟨by omega, by omega⟩ ?_ | refine XQ.sub rfl ⟨by omega, by omega⟩ ?_ | refine XQ.mul rfl ⟨by omega, by omega⟩ ?_ | refine XQ.inc rfl rfl rfl ⟨by omega, by omega⟩ ?_ | refine XQ.ms hM rfl rfl (by decide) (by omega) (by simp only [mLen]; omega) (fun S hM => ?_) | refine XQ.mp hM rfl rfl (fun S hM => ?_))
  refine XQ.zge rfl (fun q => ?_) (fun q => ?_)
  · have e : aPlace M v = aCb M (aObj M v).toNat := by unfold aPlace; rw [if_neg (by omega)]
    rw [e]
    repeat (first | refine XQ.go rfl rfl ?_ | refine XQ.zeq0 rfl ?_ | refine XQ.zeq1 rfl ?_ | refine XQ.zne0 rfl ?_ | refine XQ.zne1 rfl ?_ | refine XQ.mg hM rfl rfl ?_ | refine XQ.ml hM rfl rfl (by decide) (by omega) (by simp only [mLen]; omega) ?_ | refine XQ.add rfl ⟨by omega, by omega⟩ ?_ | refine XQ.sub rfl ⟨by omega, by omega⟩ ?_ | refine XQ.mul rfl ⟨by omega, by omega⟩ ?_ | refine XQ.inc rfl rfl rfl ⟨by omega, by omega⟩ ?_ | refine XQ.ms hM rfl rfl (by decide) (by omega) (by simp only [mLen]; omega) (fun S hM => ?_) | refine XQ.mp hM rfl rfl (fun S hM => ?_))
    refine XQ.v2 rfl hM.1.1 rfl (le8 rfl) (M_cellsBefore hM hB q (by omega)) (fun r S' hq => ?_)
    obtain ⟨rfl, rfl⟩ := hq
    exact XQ.ret rfl rfl ⟨rfl, rfl⟩
  · have e : aPlace M v = -1 := by unfold aPlace; rw [if_pos q]
    rw [e]
    repeat (first | refine XQ.go rfl rfl ?_ | refine XQ.zeq0 rfl ?_ | refine XQ.zeq1 rfl ?_ | refine XQ.zne0 rfl ?_ | refine XQ.zne1 rfl ?_ | refine XQ.mg hM rfl rfl ?_ | refine XQ.ml hM rfl rfl (by decide) (by omega) (by simp only [mLen]; omega) ?_ | refine XQ.add rfl ⟨by omega, by omega⟩ ?_ | refine XQ.sub rfl ⟨by omega, by omega⟩ ?_ | refine XQ.mul rfl ⟨by omega, by omega⟩ ?_ | refine XQ.inc rfl rfl rfl ⟨by omega, by omega⟩ ?_ | refine XQ.ms hM rfl rfl (by decide) (by omega) (by simp only [mLen]; omega) (fun S hM => ?_) | refine XQ.mp hM rfl rfl (fun S hM => ?_))
    exact XQ.ret rfl rfl ⟨rfl, rfl⟩
theorem M_size {v : Int} (hM : MO m S0 S M) (hB : BW M) : XQ (d + 2) k_M_size 0 (mentry (mL k_M_size) [.inr (some m), .inl v]) [] S (fun r S' => S' = S ∧ r = some (.inl (aSize M v))) := by
  have hi := aObj_in hB.1 v
  have hb := hB.1
  repeat (first | refine XQ.go rfl rfl ?_ | refine XQ.zeq0 rfl ?_ | refine XQ.zeq1 rfl ?_ | refine XQ.zne0 rfl ?_ | refine XQ.zne1 rfl ?_ | refine XQ.mg hM rfl rfl ?_ | refine XQ.ml hM rfl rfl (by decide) (by omega) (by simp only [mLen]; omega) ?_ | refine XQ.add rfl ⟨by omega, by omega⟩ ?_ | refine XQ.sub rfl ⟨by omega, by omega⟩ ?_ | refine XQ.mul rfl ⟨by omega, by omega⟩ ?_ | refine XQ.inc rfl rfl rfl ⟨by omega, by omega⟩ ?_ | refine XQ.ms hM rfl rfl (by decide) (by omega) (by simp only [mLen]; omega) (fun S hM => ?_) | refine XQ.mp hM rfl rfl (fun S hM => ?_))
  refine XQ.v2 rfl hM.1.1 rfl (le8 rfl) (M_object hM hB) (fun r S' hq => ?_)
  obtain ⟨rfl, rfl⟩ := hq
  repeat (first | refine XQ.go rfl rfl ?_ | refine XQ.zeq0 rfl ?_ | refine XQ.zeq1 rfl ?_ | refine XQ.zne0 rfl ?_ | refine XQ.zne1 rfl ?_ | refine XQ.mg hM rfl rfl ?_ | refine XQ.ml hM rfl rfl (by decide) (by omega) (by simp only [mLen]; omega) ?_ | refine XQ.add rfl ⟨by omega, by omega⟩ ?_ | refine XQ.sub rfl ⟨by omega, by omega⟩ ?_ | refine XQ.mul rfl ⟨by omega, by omega⟩ ?_ | refine XQ.inc rfl rfl rfl ⟨by omega, by omega⟩ ?_ | refine XQ.ms hM rfl rfl (by decide) (by omega) (by simp only [mLen]; omega) (fun S hM => ?_) | refine XQ.mp hM rfl rfl (fun S hM => ?_))
  refine XQ.zge rfl (fun q => ?_) (fun q => ?_)
  · have e : aSize M v = if M 3 (aObj M v) = 3 then (if M 5 (4 * aObj M v) = 9 then 1 else 0) else M 4 (aObj M v) := by unfold aSize; rw [if_neg (by omega)]
    rw [e]
    repeat (first | refine XQ.go rfl rfl ?_ | refine XQ.zeq0 rfl ?_ | refine XQ.zeq1 rfl ?_ | refine XQ.zne0 rfl ?_ | refine XQ.zne1 rfl ?_ | refine XQ.mg hM rfl rfl ?_ | refine XQ.ml hM rfl rfl (by decide) (by omega) (by simp only [mLen]; omega) ?_ | refine XQ.add rfl ⟨by omega, by omega⟩ ?_ | refine XQ.sub rfl ⟨by omega, by omega⟩ ?_ | refine XQ.mul rfl ⟨by omega, by omega⟩ ?_ | refine XQ.inc rfl rfl rfl ⟨by omega, by omega⟩ ?_ | refine XQ.ms hM rfl rfl (by decide) (by omega) (by simp only [mLen]; omega) (fun S hM => ?_) | refine XQ.mp hM rfl rfl (fun S hM => ?_))
    refine XQ.cne rfl (fun q1 => ?_) (fun q1 => ?_)
    · rw [if_neg q1]
      repeat (first | refine XQ.go rfl rfl ?_ | refine XQ.zeq0 rfl ?_ | refine XQ.zeq1 rfl ?_ | refine XQ.zne0 rfl ?_ | refine XQ.zne1 rfl ?_ | refine XQ.mg hM rfl rfl ?_ | refine XQ.ml hM rfl rfl (by decide) (by omega) (by simp only [mLen]; omega) ?_ | refine XQ.add rfl ⟨by omega, by omega⟩ ?_ | refine XQ.sub rfl ⟨by omega, by omega⟩ ?_ | refine XQ.mul rfl ⟨by omega, by omega⟩ ?_ | refine XQ.inc rfl rfl rfl ⟨by omega, by omega⟩ ?_ | refine XQ.ms hM rfl rfl (by decide) (by omega) (by simp only [mLen]; omega) (fun S hM => ?_) | refine XQ.mp hM rfl rfl (fun S hM => ?_))
      exact XQ.ret rfl rfl ⟨rfl, rfl⟩
    · rw [if_pos q1]
      repeat (first | refine XQ.go rfl rfl ?_ | refine XQ.zeq0 rfl ?_ | refine XQ.zeq1 rfl ?_ | refine XQ.zne0 rfl ?_ | refine XQ.zne1 rfl ?_ | refine XQ.mg hM rfl rfl ?_ | refine XQ.ml hM rfl rfl (by decide) (by omega) (by simp only [mLen]; omega) ?_ | refine XQ.add rfl ⟨by omega, by omega⟩ ?_ | refine XQ.sub rfl ⟨by omega, by omega⟩ ?_ | refine XQ.mul rfl ⟨by omega, by omega⟩ ?_ | refine XQ.inc rfl rfl rfl ⟨by omega, by omega⟩ ?_ | refine XQ.ms hM rfl rfl (by decide) (by omega) (by simp only [mLen]; omega) (fun S hM => ?_) | refine XQ.mp hM rfl rfl (fun S hM => ?_))
      refine XQ.cne rfl (fun q2 => ?_) (fun q2 => ?_)
      · rw [if_neg q2]
        repeat (first | refine XQ.go rfl rfl ?_ | refine XQ.zeq0 rfl ?_ | refine XQ.zeq1 rfl ?_ | refine XQ.zne0 rfl ?_ | refine XQ.zne1 rfl ?_ | refine XQ.mg hM rfl rfl ?_ | refine XQ.ml hM rfl rfl (by decide) (by omega) (by simp only [mLen]; omega) ?_ | refine XQ.add rfl ⟨by omega, by omega⟩ ?_ | refine XQ.sub rfl ⟨by omega, by omega⟩ ?_ | refine XQ.mul rfl ⟨by omega, by omega⟩ ?_ | refine XQ.inc rfl rfl rfl ⟨by omega, by omega⟩ ?_ | refine XQ.ms hM rfl rfl (by decide) (by omega) (by simp only [mLen]; omega) (fun S hM => ?_) | refine XQ.mp hM rfl rfl (fun S hM => ?_))
        exact XQ.ret rfl rfl ⟨rfl, rfl⟩
      · rw [if_pos q2]
        repeat (first | refine XQ.go rfl rfl ?_ | refine XQ.zeq0 rfl ?_ | refine XQ.zeq1 rfl ?_ | refine XQ.zne0 rfl ?_ | refine XQ.zne1 rfl ?_ | refine XQ.mg hM rfl rfl ?_ | refine XQ.ml hM rfl rfl (by decide) (by omega) (by simp only [mLen]; omega) ?_ | refine XQ.add rfl ⟨by omega, by omega⟩ ?_ | refine XQ.sub rfl ⟨by omega, by omega⟩ ?_ | refine XQ.mul rfl ⟨by omega, by omega⟩ ?_ | refine XQ.inc rfl rfl rfl ⟨by omega, by omega⟩ ?_ | refine XQ.ms hM rfl rfl (by decide) (by omega) (by simp only [mLen]; omega) (fun S hM => ?_) | refine XQ.mp hM rfl rfl (fun S hM => ?_))
        exact XQ.ret rfl rfl ⟨rfl, rfl⟩
  · have e : aSize M v = -1 := by unfold aSize; rw [if_pos q]
    rw [e]
    repeat (first | refine XQ.go rfl rfl ?_ | refine XQ.zeq0 rfl ?_ | refine XQ.zeq1 rfl ?_ | refine XQ.zne0 rfl ?_ | refine XQ.zne1 rfl ?_ | refine XQ.mg hM rfl rfl ?_ | refine XQ.ml hM rfl rfl (by decide) (by omega) (by simp only [mLen]; omega) ?_ | refine XQ.add rfl ⟨by omega, by omega⟩ ?_ | refine XQ.sub rfl ⟨by omega, by omega⟩ ?_ | refine XQ.mul rfl ⟨by omega, by omega⟩ ?_ | refine XQ.inc rfl rfl rfl ⟨by omega, by omega⟩ ?_ | refine XQ.ms hM rfl rfl (by decide) (by omega) (by simp only [mLen]; omega) (fun S hM => ?_) | refine XQ.mp hM rfl rfl (fun S hM => ?_))
    exact XQ.ret rfl rfl ⟨rfl, rfl⟩
theorem M_used (hM : MO m S0 S M) (hB : BW M) : XQ (d + 2) k_M_used 0 (mentry (mL k_M_used) [.inr (some m)]) [] S (fun r S' => S' = S ∧ r = some (.inl (aUsed M))) := by
  repeat (first | refine XQ.go rfl rfl ?_ | refine XQ.zeq0 rfl ?_ | refine XQ.zeq1 rfl ?_ | refine XQ.zne0 rfl ?_ | refine XQ.zne1 rfl ?_ | refine XQ.mg hM rfl rfl ?_ | refine XQ.ml hM rfl rfl (by decide) (by omega) (by simp only [mLen]; omega) ?_ | refine XQ.add rfl ⟨by omega, by omega⟩ ?_ | refine XQ.sub rfl ⟨by omega, by omega⟩ ?_ | refine XQ.mul rfl ⟨by omega, by omega⟩ ?_ | refine XQ.inc rfl rfl rfl ⟨by omega, by omega⟩ ?_ | refine XQ.ms hM rfl rfl (by decide) (by omega) (by simp only [mLen]; omega) (fun S hM => ?_) | refine XQ.mp hM rfl rfl (fun S hM => ?_))
  refine XQ.v2 rfl hM.1.1 rfl (le8 rfl) (M_cellsBefore hM hB hB.1.1 (Int.le_refl _)) (fun r S' hq => ?_)
  obtain ⟨rfl, rfl⟩ := hq
  exact XQ.ret rfl rfl ⟨rfl, rfl⟩
theorem M_waiting (hM : MO m S0 S M) : XQ d k_M_waiting 0 (mentry (mL k_M_waiting) [.inr (some m)]) [] S (fun r S' => S' = S ∧ r = some (.inl (M 13 3))) := by
  repeat (first | refine XQ.go rfl rfl ?_ | refine XQ.zeq0 rfl ?_ | refine XQ.zeq1 rfl ?_ | refine XQ.zne0 rfl ?_ | refine XQ.zne1 rfl ?_ | refine XQ.mg hM rfl rfl ?_ | refine XQ.ml hM rfl rfl (by decide) (by omega) (by simp only [mLen]; omega) ?_ | refine XQ.add rfl ⟨by omega, by omega⟩ ?_ | refine XQ.sub rfl ⟨by omega, by omega⟩ ?_ | refine XQ.mul rfl ⟨by omega, by omega⟩ ?_ | refine XQ.inc rfl rfl rfl ⟨by omega, by omega⟩ ?_ | refine XQ.ms hM rfl rfl (by decide) (by omega) (by simp only [mLen]; omega) (fun S hM => ?_) | refine XQ.mp hM rfl rfl (fun S hM => ?_))
  exact XQ.ret rfl rfl ⟨rfl, rfl⟩
theorem M_collections (hM : MO m S0 S M) : XQ d k_M_collections 0 (mentry (mL k_M_collections) [.inr (some m)]) [] S (fun r S' => S' = S ∧ r = some (.inl (M 13 4))) := by
  repeat (first | refine XQ.go rfl rfl ?_ | refine XQ.zeq0 rfl ?_ | refine XQ.zeq1 rfl ?_ | refine XQ.zne0 rfl ?_ | refine XQ.zne1 rfl ?_ | refine XQ.mg hM rfl rfl ?_ | refine XQ.ml hM rfl rfl (by decide) (by omega) (by simp only [mLen]; omega) ?_ | refine XQ.add rfl ⟨by omega, by omega⟩ ?_ | refine XQ.sub rfl ⟨by omega, by omega⟩ ?_ | refine XQ.mul rfl ⟨by omega, by omega⟩ ?_ | refine XQ.inc rfl rfl rfl ⟨by omega, by omega⟩ ?_ | refine XQ.ms hM rfl rfl (by decide) (by omega) (by simp only [mLen]; omega) (fun S hM => ?_) | refine XQ.mp hM rfl rfl (fun S hM => ?_))
  exact XQ.ret rfl rfl ⟨rfl, rfl⟩
end M7
