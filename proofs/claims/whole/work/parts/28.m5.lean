/-! the reference's methods, walked: the calls that the law makes -/
theorem aRoom_ok {M : MM} (hB : BW M) (hr : M 13 4 < 100000) (room : Int) : BW (aRoom M room) ∧ aRoom M room 13 1 = M 13 1 := by
  unfold aRoom
  split
  · exact ⟨aColl_ok hB hr, (aColl_13 hB hr).1⟩
  · exact ⟨hB, rfl⟩
theorem BW.used {M : MM} (h : BW M) : 3 * M 13 0 ≤ aUsed M ∧ aUsed M ≤ 8 * M 13 0 := by
  have h1 := h.cb (M 13 0).toNat (by have := h.1; omega)
  have h2 := h.1
  unfold aUsed
  omega
section M6
variable {d m : Nat} {S0 S : MS} {M : MM} {Q : Option MV → MS → Prop}
theorem M_make {s n room : Int} (hM : MO m S0 S M) (hB : BW M) (hr : M 13 4 < 100000) (hm : M 13 1 < 100000) (h3 : 3 ≤ room) (h8 : room ≤ 8) : XQ (d + 5) k_M_make 0 (mentry (mL k_M_make) [.inr (some m), .inl s, .inl n, .inl room]) [] S (fun r S' => r = some (.inl (aMake M s n room).1) ∧ MO m S0 S' (aMake M s n room).2) := by
  have hb := hB.1
  have hu := hB.used
  obtain ⟨hB2, hm2⟩ := aRoom_ok hB hr room
  have hb2 := hB2.1
  have hu2 := hB2.used
  have fin : ∀ S x4 x5, MO m S0 S (aRoom M room) → ¬ 60 < aUsed (aRoom M room) + room → XQ (d + 5) k_M_make 37 [some (.inr (some m)), some (.inl s), some (.inl n), some (.inl room), x4, x5] [] S (fun r S' => r = some (.inl (aMake M s n room).1) ∧ MO m S0 S' (aMake M s n room).2) := by
    intro S x4 x5 hM q
    have e : aMake M s n room = ((aRoom M room) 13 0, aMkO (aRoom M room) s n) := by unfold aMake; rw [if_neg q]
    rw [e]
    have n20 : aRoom M room 13 0 < 20 := by omega
    have m1 : aRoom M room 13 1 < 100000 := by omega
    exact M_mk2 (M := aRoom M room) hM hB2 n20 m1
  repeat (first | refine XQ.go rfl rfl ?_ | refine XQ.zeq0 rfl ?_ | refine XQ.zeq1 rfl ?_ | refine XQ.zne0 rfl ?_ | refine XQ.zne1 rfl ?_ | refine XQ.mg hM rfl rfl ?_ | refine XQ.ml hM rfl rfl (by decide) (by omega) (by simp only [mLen]; omega) ?_ | refine XQ.add rfl ⟨by omega, by omega⟩ ?_ | refine XQ.sub rfl ⟨by omega, by omega⟩ ?_ | refine XQ.mul rfl ⟨by omega, by omega⟩ ?_ | refine XQ.inc rfl rfl rfl ⟨by omega, by omega⟩ ?_ | refine XQ.ms hM rfl rfl (by decide) (by omega) (by simp only [mLen]; omega) (fun S hM => ?_) | refine XQ.mp hM rfl rfl (fun S hM => ?_))
  refine XQ.v2 rfl hM.1.1 rfl (le8 rfl) (M_cellsBefore (d := d + 3) hM hB hb.1 (Int.le_refl _)) (fun r S' hq => ?_)
  obtain ⟨rfl, rfl⟩ := hq
  have eu : aCb M (M 13 0).toNat = aUsed M := rfl
  rw [eu]
  repeat (first | refine XQ.go rfl rfl ?_ | refine XQ.zeq0 rfl ?_ | refine XQ.zeq1 rfl ?_ | refine XQ.zne0 rfl ?_ | refine XQ.zne1 rfl ?_ | refine XQ.mg hM rfl rfl ?_ | refine XQ.ml hM rfl rfl (by decide) (by omega) (by simp only [mLen]; omega) ?_ | refine XQ.add rfl ⟨by omega, by omega⟩ ?_ | refine XQ.sub rfl ⟨by omega, by omega⟩ ?_ | refine XQ.mul rfl ⟨by omega, by omega⟩ ?_ | refine XQ.inc rfl rfl rfl ⟨by omega, by omega⟩ ?_ | refine XQ.ms hM rfl rfl (by decide) (by omega) (by simp only [mLen]; omega) (fun S hM => ?_) | refine XQ.mp hM rfl rfl (fun S hM => ?_))
  refine XQ.cle rfl (fun q => ?_) (fun q => ?_)
  · have e : aRoom M room = M := by unfold aRoom; rw [if_neg (by omega)]
    rw [e] at fin
    exact fin _ _ _ hM (by omega)
  · have e : aRoom M room = (aColl M).2 := by unfold aRoom; rw [if_pos q]
    rw [e] at fin hB2 hb2 hu2
    repeat (first | refine XQ.go rfl rfl ?_ | refine XQ.zeq0 rfl ?_ | refine XQ.zeq1 rfl ?_ | refine XQ.zne0 rfl ?_ | refine XQ.zne1 rfl ?_ | refine XQ.mg hM rfl rfl ?_ | refine XQ.ml hM rfl rfl (by decide) (by omega) (by simp only [mLen]; omega) ?_ | refine XQ.add rfl ⟨by omega, by omega⟩ ?_ | refine XQ.sub rfl ⟨by omega, by omega⟩ ?_ | refine XQ.mul rfl ⟨by omega, by omega⟩ ?_ | refine XQ.inc rfl rfl rfl ⟨by omega, by omega⟩ ?_ | refine XQ.ms hM rfl rfl (by decide) (by omega) (by simp only [mLen]; omega) (fun S hM => ?_) | refine XQ.mp hM rfl rfl (fun S hM => ?_))
    refine XQ.v1 rfl hM.1.1 rfl (le8 rfl) (M_collect hM hB hr) (fun r S hq => ?_)
    obtain ⟨rfl, hM⟩ := hq
    repeat (first | refine XQ.go rfl rfl ?_ | refine XQ.zeq0 rfl ?_ | refine XQ.zeq1 rfl ?_ | refine XQ.zne0 rfl ?_ | refine XQ.zne1 rfl ?_ | refine XQ.mg hM rfl rfl ?_ | refine XQ.ml hM rfl rfl (by decide) (by omega) (by simp only [mLen]; omega) ?_ | refine XQ.add rfl ⟨by omega, by omega⟩ ?_ | refine XQ.sub rfl ⟨by omega, by omega⟩ ?_ | refine XQ.mul rfl ⟨by omega, by omega⟩ ?_ | refine XQ.inc rfl rfl rfl ⟨by omega, by omega⟩ ?_ | refine XQ.ms hM rfl rfl (by decide) (by omega) (by simp only [mLen]; omega) (fun S hM => ?_) | refine XQ.mp hM rfl rfl (fun S hM => ?_))
    refine XQ.v2 rfl hM.1.1 rfl (le8 rfl) (M_cellsBefore (d := d + 3) hM hB2 hb2.1 (Int.le_refl _)) (fun r S' hq => ?_)
    obtain ⟨rfl, rfl⟩ := hq
    have eu : aCb (aColl M).2 ((aColl M).2 13 0).toNat = aUsed (aColl M).2 := rfl
    rw [eu]
    repeat (first | refine XQ.go rfl rfl ?_ | refine XQ.zeq0 rfl ?_ | refine XQ.zeq1 rfl ?_ | refine XQ.zne0 rfl ?_ | refine XQ.zne1 rfl ?_ | refine XQ.mg hM rfl rfl ?_ | refine XQ.ml hM rfl rfl (by decide) (by omega) (by simp only [mLen]; omega) ?_ | refine XQ.add rfl ⟨by omega, by omega⟩ ?_ | refine XQ.sub rfl ⟨by omega, by omega⟩ ?_ | refine XQ.mul rfl ⟨by omega, by omega⟩ ?_ | refine XQ.inc rfl rfl rfl ⟨by omega, by omega⟩ ?_ | refine XQ.ms hM rfl rfl (by decide) (by omega) (by simp only [mLen]; omega) (fun S hM => ?_) | refine XQ.mp hM rfl rfl (fun S hM => ?_))
    refine XQ.cle rfl (fun q2 => ?_) (fun q2 => ?_)
    · exact fin _ _ _ hM (by omega)
    · have e2 : aMake M s n room = (-1, (aColl M).2) := by unfold aMake; rw [e, if_pos (by omega)]
      rw [e2]
      repeat (first | refine XQ.go rfl rfl ?_ | refine XQ.zeq0 rfl ?_ | refine XQ.zeq1 rfl ?_ | refine XQ.zne0 rfl ?_ | refine XQ.zne1 rfl ?_ | refine XQ.mg hM rfl rfl ?_ | refine XQ.ml hM rfl rfl (by decide) (by omega) (by simp only [mLen]; omega) ?_ | refine XQ.add rfl ⟨by omega, by omega⟩ ?_ | refine XQ.sub rfl ⟨by omega, by omega⟩ ?_ | refine XQ.mul rfl ⟨by omega, by omega⟩ ?_ | refine XQ.inc rfl rfl rfl ⟨by omega, by omega⟩ ?_ | refine XQ.ms hM rfl rfl (by decide) (by omega) (by simp only [mLen]; omega) (fun S hM => ?_) | refine XQ.mp hM rfl rfl (fun S hM => ?_))
      exact XQ.ret rfl rfl ⟨rfl, hM⟩
/-- what a making gives: full, or a place that is free -/
theorem aMake_in {s n room : Int} (hB : BW M) (hr : M 13 4 < 100000) (h3 : 3 ≤ room) : (aMake M s n room).1 = -1 ∨ (0 ≤ (aMake M s n room).1 ∧ (aMake M s n room).1 < 20) := by
  obtain ⟨hB2, hm2⟩ := aRoom_ok hB hr room
  have hu2 := hB2.used
  have hb2 := hB2.1
  unfold aMake
  split
  · exact Or.inl rfl
  · exact Or.inr ⟨hb2.1, by show (aRoom M room) 13 0 < 20; omega⟩
theorem M_vector {v n : Int} (hM : MO m S0 S M) (hB : BW M) (hr : M 13 4 < 100000) (hm : M 13 1 < 100000) : XQ (d + 6) k_M_vector 0 (mentry (mL k_M_vector) [.inr (some m), .inl v, .inl n]) [] S (fun r S' => r = some (.inl (aVector M v n).1) ∧ MO m S0 S' (aVector M v n).2) := by
  have bad : (v < 0 ∨ 5 < v ∨ n < 1 ∨ 4 < n) → aVector M v n = (-1, M) := fun q => by unfold aVector; rw [if_pos q]
  repeat (first | refine XQ.go rfl rfl ?_ | refine XQ.zeq0 rfl ?_ | refine XQ.zeq1 rfl ?_ | refine XQ.zne0 rfl ?_ | refine XQ.zne1 rfl ?_ | refine XQ.mg hM rfl rfl ?_ | refine XQ.ml hM rfl rfl (by decide) (by omega) (by simp only [mLen]; omega) ?_ | refine XQ.add rfl ⟨by omega, by omega⟩ ?_ | refine XQ.sub rfl ⟨by omega, by omega⟩ ?_ | refine XQ.mul rfl ⟨by omega, by omega⟩ ?_ | refine XQ.inc rfl rfl rfl ⟨by omega, by omega⟩ ?_ | refine XQ.ms hM rfl rfl (by decide) (by omega) (by simp only [mLen]; omega) (fun S hM => ?_) | refine XQ.mp hM rfl rfl (fun S hM => ?_))
  refine XQ.s1 rfl rfl (le8 rfl) (M_isVar (v := v)) (fun r S' hq => ?_)
  obtain ⟨rfl, ⟨rfl, hv⟩ | ⟨rfl, hv⟩⟩ := hq
  · repeat (first | refine XQ.go rfl rfl ?_ | refine XQ.zeq0 rfl ?_ | refine XQ.zeq1 rfl ?_ | refine XQ.zne0 rfl ?_ | refine XQ.zne1 rfl ?_ | refine XQ.mg hM rfl rfl ?_ | refine XQ.ml hM rfl rfl (by decide) (by omega) (by simp only [mLen]; omega) ?_ | refine XQ.add rfl ⟨by omega, by omega⟩ ?_ | refine XQ.sub rfl ⟨by omega, by omega⟩ ?_ | refine XQ.mul rfl ⟨by omega, by omega⟩ ?_ | refine XQ.inc rfl rfl rfl ⟨by omega, by omega⟩ ?_ | refine XQ.ms hM rfl rfl (by decide) (by omega) (by simp only [mLen]; omega) (fun S hM => ?_) | refine XQ.mp hM rfl rfl (fun S hM => ?_))
    refine XQ.clt rfl (fun q => ?_) (fun q => ?_)
    · rw [bad (by omega)]
      repeat (first | refine XQ.go rfl rfl ?_ | refine XQ.zeq0 rfl ?_ | refine XQ.zeq1 rfl ?_ | refine XQ.zne0 rfl ?_ | refine XQ.zne1 rfl ?_ | refine XQ.mg hM rfl rfl ?_ | refine XQ.ml hM rfl rfl (by decide) (by omega) (by simp only [mLen]; omega) ?_ | refine XQ.add rfl ⟨by omega, by omega⟩ ?_ | refine XQ.sub rfl ⟨by omega, by omega⟩ ?_ | refine XQ.mul rfl ⟨by omega, by omega⟩ ?_ | refine XQ.inc rfl rfl rfl ⟨by omega, by omega⟩ ?_ | refine XQ.ms hM rfl rfl (by decide) (by omega) (by simp only [mLen]; omega) (fun S hM => ?_) | refine XQ.mp hM rfl rfl (fun S hM => ?_))
      exact XQ.ret rfl rfl ⟨rfl, hM⟩
    · repeat (first | refine XQ.go rfl rfl ?_ | refine XQ.zeq0 rfl ?_ | refine XQ.zeq1 rfl ?_ | refine XQ.zne0 rfl ?_ | refine XQ.zne1 rfl ?_ | refine XQ.mg hM rfl rfl ?_ | refine XQ.ml hM rfl rfl (by decide) (by omega) (by simp only [mLen]; omega) ?_ | refine XQ.add rfl ⟨by omega, by omega⟩ ?_ | refine XQ.sub rfl ⟨by omega, by omega⟩ ?_ | refine XQ.mul rfl ⟨by omega, by omega⟩ ?_ | refine XQ.inc rfl rfl rfl ⟨by omega, by omega⟩ ?_ | refine XQ.ms hM rfl rfl (by decide) (by omega) (by simp only [mLen]; omega) (fun S hM => ?_) | refine XQ.mp hM rfl rfl (fun S hM => ?_))
      refine XQ.cle rfl (fun q2 => ?_) (fun q2 => ?_)
      · have good : aVector M v n = aNew M v 2 n (2 + n) (fun M _ => M) := by unfold aVector; rw [if_neg (by omega)]
        rw [good]
        repeat (first | refine XQ.go rfl rfl ?_ | refine XQ.zeq0 rfl ?_ | refine XQ.zeq1 rfl ?_ | refine XQ.zne0 rfl ?_ | refine XQ.zne1 rfl ?_ | refine XQ.mg hM rfl rfl ?_ | refine XQ.ml hM rfl rfl (by decide) (by omega) (by simp only [mLen]; omega) ?_ | refine XQ.add rfl ⟨by omega, by omega⟩ ?_ | refine XQ.sub rfl ⟨by omega, by omega⟩ ?_ | refine XQ.mul rfl ⟨by omega, by omega⟩ ?_ | refine XQ.inc rfl rfl rfl ⟨by omega, by omega⟩ ?_ | refine XQ.ms hM rfl rfl (by decide) (by omega) (by simp only [mLen]; omega) (fun S hM => ?_) | refine XQ.mp hM rfl rfl (fun S hM => ?_))
        refine XQ.v4 rfl hM.1.1 rfl (le8 rfl) (M_make (d := d) (s := 2) (n := n) (room := 2 + n) hM hB hr hm (by omega) (by omega)) (fun r S hq => ?_)
        obtain ⟨rfl, hM⟩ := hq
        have hi := aMake_in (s := 2) (n := n) (room := 2 + n) hB hr (by omega)
        unfold aNew
        generalize aMake M 2 n (2 + n) = p at hM hi ⊢
        repeat (first | refine XQ.go rfl rfl ?_ | refine XQ.zeq0 rfl ?_ | refine XQ.zeq1 rfl ?_ | refine XQ.zne0 rfl ?_ | refine XQ.zne1 rfl ?_ | refine XQ.mg hM rfl rfl ?_ | refine XQ.ml hM rfl rfl (by decide) (by omega) (by simp only [mLen]; omega) ?_ | refine XQ.add rfl ⟨by omega, by omega⟩ ?_ | refine XQ.sub rfl ⟨by omega, by omega⟩ ?_ | refine XQ.mul rfl ⟨by omega, by omega⟩ ?_ | refine XQ.inc rfl rfl rfl ⟨by omega, by omega⟩ ?_ | refine XQ.ms hM rfl rfl (by decide) (by omega) (by simp only [mLen]; omega) (fun S hM => ?_) | refine XQ.mp hM rfl rfl (fun S hM => ?_))
        refine XQ.zge rfl (fun q3 => ?_) (fun q3 => ?_)
        · rw [if_neg (by omega)]
          repeat (first | refine XQ.go rfl rfl ?_ | refine XQ.zeq0 rfl ?_ | refine XQ.zeq1 rfl ?_ | refine XQ.zne0 rfl ?_ | refine XQ.zne1 rfl ?_ | refine XQ.mg hM rfl rfl ?_ | refine XQ.ml hM rfl rfl (by decide) (by omega) (by simp only [mLen]; omega) ?_ | refine XQ.add rfl ⟨by omega, by omega⟩ ?_ | refine XQ.sub rfl ⟨by omega, by omega⟩ ?_ | refine XQ.mul rfl ⟨by omega, by omega⟩ ?_ | refine XQ.inc rfl rfl rfl ⟨by omega, by omega⟩ ?_ | refine XQ.ms hM rfl rfl (by decide) (by omega) (by simp only [mLen]; omega) (fun S hM => ?_) | refine XQ.mp hM rfl rfl (fun S hM => ?_))
          refine XQ.v4 rfl hM.1.1 rfl (le8 rfl) (M_hold hM hv.1 hv.2) (fun r S hq => ?_)
          obtain ⟨rfl, hM⟩ := hq
          repeat (first | refine XQ.go rfl rfl ?_ | refine XQ.zeq0 rfl ?_ | refine XQ.zeq1 rfl ?_ | refine XQ.zne0 rfl ?_ | refine XQ.zne1 rfl ?_ | refine XQ.mg hM rfl rfl ?_ | refine XQ.ml hM rfl rfl (by decide) (by omega) (by simp only [mLen]; omega) ?_ | refine XQ.add rfl ⟨by omega, by omega⟩ ?_ | refine XQ.sub rfl ⟨by omega, by omega⟩ ?_ | refine XQ.mul rfl ⟨by omega, by omega⟩ ?_ | refine XQ.inc rfl rfl rfl ⟨by omega, by omega⟩ ?_ | refine XQ.ms hM rfl rfl (by decide) (by omega) (by simp only [mLen]; omega) (fun S hM => ?_) | refine XQ.mp hM rfl rfl (fun S hM => ?_))
          exact XQ.ret rfl rfl ⟨rfl, hM⟩
        · rw [if_pos q3]
          repeat (first | refine XQ.go rfl rfl ?_ | refine XQ.zeq0 rfl ?_ | refine XQ.zeq1 rfl ?_ | refine XQ.zne0 rfl ?_ | refine XQ.zne1 rfl ?_ | refine XQ.mg hM rfl rfl ?_ | refine XQ.ml hM rfl rfl (by decide) (by omega) (by simp only [mLen]; omega) ?_ | refine XQ.add rfl ⟨by omega, by omega⟩ ?_ | refine XQ.sub rfl ⟨by omega, by omega⟩ ?_ | refine XQ.mul rfl ⟨by omega, by omega⟩ ?_ | refine XQ.inc rfl rfl rfl ⟨by omega, by omega⟩ ?_ | refine XQ.ms hM rfl rfl (by decide) (by omega) (by simp only [mLen]; omega) (fun S hM => ?_) | refine XQ.mp hM rfl rfl (fun S hM => ?_))
          exact XQ.ret rfl rfl ⟨rfl, hM⟩
      · rw [bad (by omega)]
        repeat (first | refine XQ.go rfl rfl ?_ | refine XQ.zeq0 rfl ?_ | refine XQ.zeq1 rfl ?_ | refine XQ.zne0 rfl ?_ | refine XQ.zne1 rfl ?_ | refine XQ.mg hM rfl rfl ?_ | refine XQ.ml hM rfl rfl (by decide) (by omega) (by simp only [mLen]; omega) ?_ | refine XQ.add rfl ⟨by omega, by omega⟩ ?_ | refine XQ.sub rfl ⟨by omega, by omega⟩ ?_ | refine XQ.mul rfl ⟨by omega, by omega⟩ ?_ | refine XQ.inc rfl rfl rfl ⟨by omega, by omega⟩ ?_ | refine XQ.ms hM rfl rfl (by decide) (by omega) (by simp only [mLen]; omega) (fun S hM => ?_) | refine XQ.mp hM rfl rfl (fun S hM => ?_))
        exact XQ.ret rfl rfl ⟨rfl, hM⟩
  · rw [bad (by omega)]
    repeat (first | refine XQ.go rfl rfl ?_ | refine XQ.zeq0 rfl ?_ | refine XQ.zeq1 rfl ?_ | refine XQ.zne0 rfl ?_ | refine XQ.zne1 rfl ?_ | refine XQ.mg hM rfl rfl ?_ | refine XQ.ml hM rfl rfl (by decide) (by omega) (by simp only [mLen]; omega) ?_ | refine XQ.add rfl ⟨by omega, by omega⟩ ?_ | refine XQ.sub rfl ⟨by omega, by omega⟩ ?_ | refine XQ.mul rfl ⟨by omega, by omega⟩ ?_ | refine XQ.inc rfl rfl rfl ⟨by omega, by omega⟩ ?_ | refine XQ.ms hM rfl rfl (by decide) (by omega) (by simp only [mLen]; omega) (fun S hM => ?_) | refine XQ.mp hM rfl rfl (fun S hM => ?_))
    exact XQ.ret rfl rfl ⟨rfl, hM⟩
theorem M_weak {v w : Int} (hM : MO m S0 S M) (hB : BW M) (hr : M 13 4 < 100000) (hm : M 13 1 < 100000) : XQ (d + 6) k_M_weak 0 (mentry (mL k_M_weak) [.inr (some m), .inl v, .inl w]) [] S (fun r S' => r = some (.inl (aWeak M v w).1) ∧ MO m S0 S' (aWeak M v w).2) := by
  have bad : (v < 0 ∨ 5 < v ∨ aObj M w < 0) → aWeak M v w = (-1, M) := fun q => by unfold aWeak; rw [if_pos q]
  have hw := aObj_in hB.1 w
  repeat (first | refine XQ.go rfl rfl ?_ | refine XQ.zeq0 rfl ?_ | refine XQ.zeq1 rfl ?_ | refine XQ.zne0 rfl ?_ | refine XQ.zne1 rfl ?_ | refine XQ.mg hM rfl rfl ?_ | refine XQ.ml hM rfl rfl (by decide) (by omega) (by simp only [mLen]; omega) ?_ | refine XQ.add rfl ⟨by omega, by omega⟩ ?_ | refine XQ.sub rfl ⟨by omega, by omega⟩ ?_ | refine XQ.mul rfl ⟨by omega, by omega⟩ ?_ | refine XQ.inc rfl rfl rfl ⟨by omega, by omega⟩ ?_ | refine XQ.ms hM rfl rfl (by decide) (by omega) (by simp only [mLen]; omega) (fun S hM => ?_) | refine XQ.mp hM rfl rfl (fun S hM => ?_))
  refine XQ.s1 rfl rfl (le8 rfl) (M_isVar (v := v)) (fun r S' hq => ?_)
  obtain ⟨rfl, ⟨rfl, hv⟩ | ⟨rfl, hv⟩⟩ := hq
  · repeat (first | refine XQ.go rfl rfl ?_ | refine XQ.zeq0 rfl ?_ | refine XQ.zeq1 rfl ?_ | refine XQ.zne0 rfl ?_ | refine XQ.zne1 rfl ?_ | refine XQ.mg hM rfl rfl ?_ | refine XQ.ml hM rfl rfl (by decide) (by omega) (by simp only [mLen]; omega) ?_ | refine XQ.add rfl ⟨by omega, by omega⟩ ?_ | refine XQ.sub rfl ⟨by omega, by omega⟩ ?_ | refine XQ.mul rfl ⟨by omega, by omega⟩ ?_ | refine XQ.inc rfl rfl rfl ⟨by omega, by omega⟩ ?_ | refine XQ.ms hM rfl rfl (by decide) (by omega) (by simp only [mLen]; omega) (fun S hM => ?_) | refine XQ.mp hM rfl rfl (fun S hM => ?_))
    refine XQ.v2 rfl hM.1.1 rfl (le8 rfl) (M_object (d := d + 4) hM hB) (fun r S' hq => ?_)
    obtain ⟨rfl, rfl⟩ := hq
    refine XQ.zge rfl (fun q => ?_) (fun q => ?_)
    · have good : aWeak M v w = aNew M v 3 1 3 (fun M' o => u2 (u2 M' 5 (4 * o) 9) 6 (4 * o) (M' 1 w)) := by unfold aWeak; rw [if_neg (by omega)]
      rw [good]
      repeat (first | refine XQ.go rfl rfl ?_ | refine XQ.zeq0 rfl ?_ | refine XQ.zeq1 rfl ?_ | refine XQ.zne0 rfl ?_ | refine XQ.zne1 rfl ?_ | refine XQ.mg hM rfl rfl ?_ | refine XQ.ml hM rfl rfl (by decide) (by omega) (by simp only [mLen]; omega) ?_ | refine XQ.add rfl ⟨by omega, by omega⟩ ?_ | refine XQ.sub rfl ⟨by omega, by omega⟩ ?_ | refine XQ.mul rfl ⟨by omega, by omega⟩ ?_ | refine XQ.inc rfl rfl rfl ⟨by omega, by omega⟩ ?_ | refine XQ.ms hM rfl rfl (by decide) (by omega) (by simp only [mLen]; omega) (fun S hM => ?_) | refine XQ.mp hM rfl rfl (fun S hM => ?_))
      refine XQ.v4 rfl hM.1.1 rfl (le8 rfl) (M_make (d := d) (s := 3) (n := 1) (room := 3) hM hB hr hm (by omega) (by omega)) (fun r S hq => ?_)
      obtain ⟨rfl, hM⟩ := hq
      have hi := aMake_in (s := 3) (n := 1) (room := 3) hB hr (by omega)
      unfold aNew
      generalize aMake M 3 1 3 = p at hM hi ⊢
      repeat (first | refine XQ.go rfl rfl ?_ | refine XQ.zeq0 rfl ?_ | refine XQ.zeq1 rfl ?_ | refine XQ.zne0 rfl ?_ | refine XQ.zne1 rfl ?_ | refine XQ.mg hM rfl rfl ?_ | refine XQ.ml hM rfl rfl (by decide) (by omega) (by simp only [mLen]; omega) ?_ | refine XQ.add rfl ⟨by omega, by omega⟩ ?_ | refine XQ.sub rfl ⟨by omega, by omega⟩ ?_ | refine XQ.mul rfl ⟨by omega, by omega⟩ ?_ | refine XQ.inc rfl rfl rfl ⟨by omega, by omega⟩ ?_ | refine XQ.ms hM rfl rfl (by decide) (by omega) (by simp only [mLen]; omega) (fun S hM => ?_) | refine XQ.mp hM rfl rfl (fun S hM => ?_))
      refine XQ.zge rfl (fun q3 => ?_) (fun q3 => ?_)
      · rw [if_neg (by omega)]
        repeat (first | refine XQ.go rfl rfl ?_ | refine XQ.zeq0 rfl ?_ | refine XQ.zeq1 rfl ?_ | refine XQ.zne0 rfl ?_ | refine XQ.zne1 rfl ?_ | refine XQ.mg hM rfl rfl ?_ | refine XQ.ml hM rfl rfl (by decide) (by omega) (by simp only [mLen]; omega) ?_ | refine XQ.add rfl ⟨by omega, by omega⟩ ?_ | refine XQ.sub rfl ⟨by omega, by omega⟩ ?_ | refine XQ.mul rfl ⟨by omega, by omega⟩ ?_ | refine XQ.inc rfl rfl rfl ⟨by omega, by omega⟩ ?_ | refine XQ.ms hM rfl rfl (by decide) (by omega) (by simp only [mLen]; omega) (fun S hM => ?_) | refine XQ.mp hM rfl rfl (fun S hM => ?_))
        refine XQ.v4 rfl hM.1.1 rfl (le8 rfl) (M_hold hM hv.1 hv.2) (fun r S hq => ?_)
        obtain ⟨rfl, hM⟩ := hq
        repeat (first | refine XQ.go rfl rfl ?_ | refine XQ.zeq0 rfl ?_ | refine XQ.zeq1 rfl ?_ | refine XQ.zne0 rfl ?_ | refine XQ.zne1 rfl ?_ | refine XQ.mg hM rfl rfl ?_ | refine XQ.ml hM rfl rfl (by decide) (by omega) (by simp only [mLen]; omega) ?_ | refine XQ.add rfl ⟨by omega, by omega⟩ ?_ | refine XQ.sub rfl ⟨by omega, by omega⟩ ?_ | refine XQ.mul rfl ⟨by omega, by omega⟩ ?_ | refine XQ.inc rfl rfl rfl ⟨by omega, by omega⟩ ?_ | refine XQ.ms hM rfl rfl (by decide) (by omega) (by simp only [mLen]; omega) (fun S hM => ?_) | refine XQ.mp hM rfl rfl (fun S hM => ?_))
        exact XQ.ret rfl rfl ⟨rfl, hM⟩
      · rw [if_pos q3]
        repeat (first | refine XQ.go rfl rfl ?_ | refine XQ.zeq0 rfl ?_ | refine XQ.zeq1 rfl ?_ | refine XQ.zne0 rfl ?_ | refine XQ.zne1 rfl ?_ | refine XQ.mg hM rfl rfl ?_ | refine XQ.ml hM rfl rfl (by decide) (by omega) (by simp only [mLen]; omega) ?_ | refine XQ.add rfl ⟨by omega, by omega⟩ ?_ | refine XQ.sub rfl ⟨by omega, by omega⟩ ?_ | refine XQ.mul rfl ⟨by omega, by omega⟩ ?_ | refine XQ.inc rfl rfl rfl ⟨by omega, by omega⟩ ?_ | refine XQ.ms hM rfl rfl (by decide) (by omega) (by simp only [mLen]; omega) (fun S hM => ?_) | refine XQ.mp hM rfl rfl (fun S hM => ?_))
        exact XQ.ret rfl rfl ⟨rfl, hM⟩
    · rw [bad (by omega)]
      repeat (first | refine XQ.go rfl rfl ?_ | refine XQ.zeq0 rfl ?_ | refine XQ.zeq1 rfl ?_ | refine XQ.zne0 rfl ?_ | refine XQ.zne1 rfl ?_ | refine XQ.mg hM rfl rfl ?_ | refine XQ.ml hM rfl rfl (by decide) (by omega) (by simp only [mLen]; omega) ?_ | refine XQ.add rfl ⟨by omega, by omega⟩ ?_ | refine XQ.sub rfl ⟨by omega, by omega⟩ ?_ | refine XQ.mul rfl ⟨by omega, by omega⟩ ?_ | refine XQ.inc rfl rfl rfl ⟨by omega, by omega⟩ ?_ | refine XQ.ms hM rfl rfl (by decide) (by omega) (by simp only [mLen]; omega) (fun S hM => ?_) | refine XQ.mp hM rfl rfl (fun S hM => ?_))
      exact XQ.ret rfl rfl ⟨rfl, hM⟩
  · rw [bad (by omega)]
    repeat (first | refine XQ.go rfl rfl ?_ | refine XQ.zeq0 rfl ?_ | refine XQ.zeq1 rfl ?_ | refine XQ.zne0 rfl ?_ | refine XQ.zne1 rfl ?_ | refine XQ.mg hM rfl rfl ?_ | refine XQ.ml hM rfl rfl (by decide) (by omega) (by simp only [mLen]; omega) ?_ | refine XQ.add rfl ⟨by omega, by omega⟩ ?_ | refine XQ.sub rfl ⟨by omega, by omega⟩ ?_ | refine XQ.mul rfl ⟨by omega, by omega⟩ ?_ | refine XQ.inc rfl rfl rfl ⟨by omega, by omega⟩ ?_ | refine XQ.ms hM rfl rfl (by decide) (by omega) (by simp only [mLen]; omega) (fun S hM => ?_) | refine XQ.mp hM rfl rfl (fun S hM => ?_))
    exact XQ.ret rfl rfl ⟨rfl, hM⟩
theorem M_table {v : Int} (hM : MO m S0 S M) (hB : BW M) (hr : M 13 4 < 100000) (hm : M 13 1 < 100000) : XQ (d + 6) k_M_table 0 (mentry (mL k_M_table) [.inr (some m), .inl v]) [] S (fun r S' => r = some (.inl (aTable M v).1) ∧ MO m S0 S' (aTable M v).2) := by
  have bad : (v < 0 ∨ 5 < v) → aTable M v = (-1, M) := fun q => by unfold aTable; rw [if_pos q]
  repeat (first | refine XQ.go rfl rfl ?_ | refine XQ.zeq0 rfl ?_ | refine XQ.zeq1 rfl ?_ | refine XQ.zne0 rfl ?_ | refine XQ.zne1 rfl ?_ | refine XQ.mg hM rfl rfl ?_ | refine XQ.ml hM rfl rfl (by decide) (by omega) (by simp only [mLen]; omega) ?_ | refine XQ.add rfl ⟨by omega, by omega⟩ ?_ | refine XQ.sub rfl ⟨by omega, by omega⟩ ?_ | refine XQ.mul rfl ⟨by omega, by omega⟩ ?_ | refine XQ.inc rfl rfl rfl ⟨by omega, by omega⟩ ?_ | refine XQ.ms hM rfl rfl (by decide) (by omega) (by simp only [mLen]; omega) (fun S hM => ?_) | refine XQ.mp hM rfl rfl (fun S hM => ?_))
  refine XQ.s1 rfl rfl (le8 rfl) (M_isVar (v := v)) (fun r S' hq => ?_)
  obtain ⟨rfl, ⟨rfl, hv⟩ | ⟨rfl, hv⟩⟩ := hq
  · have good : aTable M v = aNew M v 4 0 8 (fun M _ => M) := by unfold aTable; rw [if_neg (by omega)]
    rw [good]
    repeat (first | refine XQ.go rfl rfl ?_ | refine XQ.zeq0 rfl ?_ | refine XQ.zeq1 rfl ?_ | refine XQ.zne0 rfl ?_ | refine XQ.zne1 rfl ?_ | refine XQ.mg hM rfl rfl ?_ | refine XQ.ml hM rfl rfl (by decide) (by omega) (by simp only [mLen]; omega) ?_ | refine XQ.add rfl ⟨by omega, by omega⟩ ?_ | refine XQ.sub rfl ⟨by omega, by omega⟩ ?_ | refine XQ.mul rfl ⟨by omega, by omega⟩ ?_ | refine XQ.inc rfl rfl rfl ⟨by omega, by omega⟩ ?_ | refine XQ.ms hM rfl rfl (by decide) (by omega) (by simp only [mLen]; omega) (fun S hM => ?_) | refine XQ.mp hM rfl rfl (fun S hM => ?_))
    refine XQ.v4 rfl hM.1.1 rfl (le8 rfl) (M_make (d := d) (s := 4) (n := 0) (room := 8) hM hB hr hm (by omega) (by omega)) (fun r S hq => ?_)
    obtain ⟨rfl, hM⟩ := hq
    have hi := aMake_in (s := 4) (n := 0) (room := 8) hB hr (by omega)
    unfold aNew
    generalize aMake M 4 0 8 = p at hM hi ⊢
    repeat (first | refine XQ.go rfl rfl ?_ | refine XQ.zeq0 rfl ?_ | refine XQ.zeq1 rfl ?_ | refine XQ.zne0 rfl ?_ | refine XQ.zne1 rfl ?_ | refine XQ.mg hM rfl rfl ?_ | refine XQ.ml hM rfl rfl (by decide) (by omega) (by simp only [mLen]; omega) ?_ | refine XQ.add rfl ⟨by omega, by omega⟩ ?_ | refine XQ.sub rfl ⟨by omega, by omega⟩ ?_ | refine XQ.mul rfl ⟨by omega, by omega⟩ ?_ | refine XQ.inc rfl rfl rfl ⟨by omega, by omega⟩ ?_ | refine XQ.ms hM rfl rfl (by decide) (by omega) (by simp only [mLen]; omega) (fun S hM => ?_) | refine XQ.mp hM rfl rfl (fun S hM => ?_))
    refine XQ.zge rfl (fun q3 => ?_) (fun q3 => ?_)
    · rw [if_neg (by omega)]
      repeat (first | refine XQ.go rfl rfl ?_ | refine XQ.zeq0 rfl ?_ | refine XQ.zeq1 rfl ?_ | refine XQ.zne0 rfl ?_ | refine XQ.zne1 rfl ?_ | refine XQ.mg hM rfl rfl ?_ | refine XQ.ml hM rfl rfl (by decide) (by omega) (by simp only [mLen]; omega) ?_ | refine XQ.add rfl ⟨by omega, by omega⟩ ?_ | refine XQ.sub rfl ⟨by omega, by omega⟩ ?_ | refine XQ.mul rfl ⟨by omega, by omega⟩ ?_ | refine XQ.inc rfl rfl rfl ⟨by omega, by omega⟩ ?_ | refine XQ.ms hM rfl rfl (by decide) (by omega) (by simp only [mLen]; omega) (fun S hM => ?_) | refine XQ.mp hM rfl rfl (fun S hM => ?_))
      refine XQ.v4 rfl hM.1.1 rfl (le8 rfl) (M_hold hM hv.1 hv.2) (fun r S hq => ?_)
      obtain ⟨rfl, hM⟩ := hq
      repeat (first | refine XQ.go rfl rfl ?_ | refine XQ.zeq0 rfl ?_ | refine XQ.zeq1 rfl ?_ | refine XQ.zne0 rfl ?_ | refine XQ.zne1 rfl ?_ | refine XQ.mg hM rfl rfl ?_ | refine XQ.ml hM rfl rfl (by decide) (by omega) (by simp only [mLen]; omega) ?_ | refine XQ.add rfl ⟨by omega, by omega⟩ ?_ | refine XQ.sub rfl ⟨by omega, by omega⟩ ?_ | refine XQ.mul rfl ⟨by omega, by omega⟩ ?_ | refine XQ.inc rfl rfl rfl ⟨by omega, by omega⟩ ?_ | refine XQ.ms hM rfl rfl (by decide) (by omega) (by simp only [mLen]; omega) (fun S hM => ?_) | refine XQ.mp hM rfl rfl (fun S hM => ?_))
      exact XQ.ret rfl rfl ⟨rfl, hM⟩
    · rw [if_pos q3]
      repeat (first | refine XQ.go rfl rfl ?_ | refine XQ.zeq0 rfl ?_ | refine XQ.zeq1 rfl ?_ | refine XQ.zne0 rfl ?_ | refine XQ.zne1 rfl ?_ | refine XQ.mg hM rfl rfl ?_ | refine XQ.ml hM rfl rfl (by decide) (by omega) (by simp only [mLen]; omega) ?_ | refine XQ.add rfl ⟨by omega, by omega⟩ ?_ | refine XQ.sub rfl ⟨by omega, by omega⟩ ?_ | refine XQ.mul rfl ⟨by omega, by omega⟩ ?_ | refine XQ.inc rfl rfl rfl ⟨by omega, by omega⟩ ?_ | refine XQ.ms hM rfl rfl (by decide) (by omega) (by simp only [mLen]; omega) (fun S hM => ?_) | refine XQ.mp hM rfl rfl (fun S hM => ?_))
      exact XQ.ret rfl rfl ⟨rfl, hM⟩
  · rw [bad (by omega)]
    repeat (first | refine XQ.go rfl rfl ?_ | refine XQ.zeq0 rfl ?_ | refine XQ.zeq1 rfl ?_ | refine XQ.zne0 rfl ?_ | refine XQ.zne1 rfl ?_ | refine XQ.mg hM rfl rfl ?_ | refine XQ.ml hM rfl rfl (by decide) (by omega) (by simp only [mLen]; omega) ?_ | refine XQ.add rfl ⟨by omega, by omega⟩ ?_ | refine XQ.sub rfl ⟨by omega, by omega⟩ ?_ | refine XQ.mul rfl ⟨by omega, by omega⟩ ?_ | refine XQ.inc rfl rfl rfl ⟨by omega, by omega⟩ ?_ | refine XQ.ms hM rfl rfl (by decide) (by omega) (by simp only [mLen]; omega) (fun S hM => ?_) | refine XQ.mp hM rfl rfl (fun S hM => ?_))
    exact XQ.ret rfl rfl ⟨rfl, hM⟩
theorem M_set {v k w : Int} (hM : MO m S0 S M) (hB : BW M) : XQ (d + 3) k_M_set 0 (mentry (mL k_M_set) [.inr (some m), .inl v, .inl k, .inl w]) [] S (fun r S' => r = some (.inl (aSet M v k w).1) ∧ MO m S0 S' (aSet M v k w).2) := by
  have bad : (aObjOf M v 2 < 0 ∨ k < 0 ∨ M 4 (aObjOf M v 2) ≤ k ∨ w < 0 ∨ 5 < w) → aSet M v k w = (0, M) := fun q => by unfold aSet; rw [if_pos q]
  have hb := hB.1
  have hi := aObjOf_in hB.1 v 2
  have hi2 := aObj_in hB.1 v
  repeat (first | refine XQ.go rfl rfl ?_ | refine XQ.zeq0 rfl ?_ | refine XQ.zeq1 rfl ?_ | refine XQ.zne0 rfl ?_ | refine XQ.zne1 rfl ?_ | refine XQ.mg hM rfl rfl ?_ | refine XQ.ml hM rfl rfl (by decide) (by omega) (by simp only [mLen]; omega) ?_ | refine XQ.add rfl ⟨by omega, by omega⟩ ?_ | refine XQ.sub rfl ⟨by omega, by omega⟩ ?_ | refine XQ.mul rfl ⟨by omega, by omega⟩ ?_ | refine XQ.inc rfl rfl rfl ⟨by omega, by omega⟩ ?_ | refine XQ.ms hM rfl rfl (by decide) (by omega) (by simp only [mLen]; omega) (fun S hM => ?_) | refine XQ.mp hM rfl rfl (fun S hM => ?_))
  refine XQ.v3 rfl hM.1.1 rfl (le8 rfl) (M_objectOf hM hB) (fun r S' hq => ?_)
  obtain ⟨rfl, rfl⟩ := hq
  repeat (first | refine XQ.go rfl rfl ?_ | refine XQ.zeq0 rfl ?_ | refine XQ.zeq1 rfl ?_ | refine XQ.zne0 rfl ?_ | refine XQ.zne1 rfl ?_ | refine XQ.mg hM rfl rfl ?_ | refine XQ.ml hM rfl rfl (by decide) (by omega) (by simp only [mLen]; omega) ?_ | refine XQ.add rfl ⟨by omega, by omega⟩ ?_ | refine XQ.sub rfl ⟨by omega, by omega⟩ ?_ | refine XQ.mul rfl ⟨by omega, by omega⟩ ?_ | refine XQ.inc rfl rfl rfl ⟨by omega, by omega⟩ ?_ | refine XQ.ms hM rfl rfl (by decide) (by omega) (by simp only [mLen]; omega) (fun S hM => ?_) | refine XQ.mp hM rfl rfl (fun S hM => ?_))
  refine XQ.zlt rfl (fun q => ?_) (fun q => ?_)
  · rw [bad (by omega)]
    repeat (first | refine XQ.go rfl rfl ?_ | refine XQ.zeq0 rfl ?_ | refine XQ.zeq1 rfl ?_ | refine XQ.zne0 rfl ?_ | refine XQ.zne1 rfl ?_ | refine XQ.mg hM rfl rfl ?_ | refine XQ.ml hM rfl rfl (by decide) (by omega) (by simp only [mLen]; omega) ?_ | refine XQ.add rfl ⟨by omega, by omega⟩ ?_ | refine XQ.sub rfl ⟨by omega, by omega⟩ ?_ | refine XQ.mul rfl ⟨by omega, by omega⟩ ?_ | refine XQ.inc rfl rfl rfl ⟨by omega, by omega⟩ ?_ | refine XQ.ms hM rfl rfl (by decide) (by omega) (by simp only [mLen]; omega) (fun S hM => ?_) | refine XQ.mp hM rfl rfl (fun S hM => ?_))
    exact XQ.ret rfl rfl ⟨rfl, hM⟩
  · have hm := hB.2.2.1 (aObjOf M v 2) (by omega) (by omega)
    repeat (first | refine XQ.go rfl rfl ?_ | refine XQ.zeq0 rfl ?_ | refine XQ.zeq1 rfl ?_ | refine XQ.zne0 rfl ?_ | refine XQ.zne1 rfl ?_ | refine XQ.mg hM rfl rfl ?_ | refine XQ.ml hM rfl rfl (by decide) (by omega) (by simp only [mLen]; omega) ?_ | refine XQ.add rfl ⟨by omega, by omega⟩ ?_ | refine XQ.sub rfl ⟨by omega, by omega⟩ ?_ | refine XQ.mul rfl ⟨by omega, by omega⟩ ?_ | refine XQ.inc rfl rfl rfl ⟨by omega, by omega⟩ ?_ | refine XQ.ms hM rfl rfl (by decide) (by omega) (by simp only [mLen]; omega) (fun S hM => ?_) | refine XQ.mp hM rfl rfl (fun S hM => ?_))
    refine XQ.zlt rfl (fun q1 => ?_) (fun q1 => ?_)
    · rw [bad (by omega)]
      repeat (first | refine XQ.go rfl rfl ?_ | refine XQ.zeq0 rfl ?_ | refine XQ.zeq1 rfl ?_ | refine XQ.zne0 rfl ?_ | refine XQ.zne1 rfl ?_ | refine XQ.mg hM rfl rfl ?_ | refine XQ.ml hM rfl rfl (by decide) (by omega) (by simp only [mLen]; omega) ?_ | refine XQ.add rfl ⟨by omega, by omega⟩ ?_ | refine XQ.sub rfl ⟨by omega, by omega⟩ ?_ | refine XQ.mul rfl ⟨by omega, by omega⟩ ?_ | refine XQ.inc rfl rfl rfl ⟨by omega, by omega⟩ ?_ | refine XQ.ms hM rfl rfl (by decide) (by omega) (by simp only [mLen]; omega) (fun S hM => ?_) | refine XQ.mp hM rfl rfl (fun S hM => ?_))
      exact XQ.ret rfl rfl ⟨rfl, hM⟩
    · repeat (first | refine XQ.go rfl rfl ?_ | refine XQ.zeq0 rfl ?_ | refine XQ.zeq1 rfl ?_ | refine XQ.zne0 rfl ?_ | refine XQ.zne1 rfl ?_ | refine XQ.mg hM rfl rfl ?_ | refine XQ.ml hM rfl rfl (by decide) (by omega) (by simp only [mLen]; omega) ?_ | refine XQ.add rfl ⟨by omega, by omega⟩ ?_ | refine XQ.sub rfl ⟨by omega, by omega⟩ ?_ | refine XQ.mul rfl ⟨by omega, by omega⟩ ?_ | refine XQ.inc rfl rfl rfl ⟨by omega, by omega⟩ ?_ | refine XQ.ms hM rfl rfl (by decide) (by omega) (by simp only [mLen]; omega) (fun S hM => ?_) | refine XQ.mp hM rfl rfl (fun S hM => ?_))
      refine XQ.cge rfl (fun q2 => ?_) (fun q2 => ?_)
      · rw [bad (by omega)]
        repeat (first | refine XQ.go rfl rfl ?_ | refine XQ.zeq0 rfl ?_ | refine XQ.zeq1 rfl ?_ | refine XQ.zne0 rfl ?_ | refine XQ.zne1 rfl ?_ | refine XQ.mg hM rfl rfl ?_ | refine XQ.ml hM rfl rfl (by decide) (by omega) (by simp only [mLen]; omega) ?_ | refine XQ.add rfl ⟨by omega, by omega⟩ ?_ | refine XQ.sub rfl ⟨by omega, by omega⟩ ?_ | refine XQ.mul rfl ⟨by omega, by omega⟩ ?_ | refine XQ.inc rfl rfl rfl ⟨by omega, by omega⟩ ?_ | refine XQ.ms hM rfl rfl (by decide) (by omega) (by simp only [mLen]; omega) (fun S hM => ?_) | refine XQ.mp hM rfl rfl (fun S hM => ?_))
        exact XQ.ret rfl rfl ⟨rfl, hM⟩
      · repeat (first | refine XQ.go rfl rfl ?_ | refine XQ.zeq0 rfl ?_ | refine XQ.zeq1 rfl ?_ | refine XQ.zne0 rfl ?_ | refine XQ.zne1 rfl ?_ | refine XQ.mg hM rfl rfl ?_ | refine XQ.ml hM rfl rfl (by decide) (by omega) (by simp only [mLen]; omega) ?_ | refine XQ.add rfl ⟨by omega, by omega⟩ ?_ | refine XQ.sub rfl ⟨by omega, by omega⟩ ?_ | refine XQ.mul rfl ⟨by omega, by omega⟩ ?_ | refine XQ.inc rfl rfl rfl ⟨by omega, by omega⟩ ?_ | refine XQ.ms hM rfl rfl (by decide) (by omega) (by simp only [mLen]; omega) (fun S hM => ?_) | refine XQ.mp hM rfl rfl (fun S hM => ?_))
        refine XQ.s1 rfl rfl (le8 rfl) (M_isVar (v := w)) (fun r S' hq => ?_)
        obtain ⟨rfl, ⟨rfl, hw⟩ | ⟨rfl, hw⟩⟩ := hq
        · have good : aSet M v k w = (1, u2 (u2 M 5 (4 * aObjOf M v 2 + k) (M 0 w)) 6 (4 * aObjOf M v 2 + k) (M 1 w)) := by unfold aSet; rw [if_neg (by omega)]
          rw [good]
          repeat (first | refine XQ.go rfl rfl ?_ | refine XQ.zeq0 rfl ?_ | refine XQ.zeq1 rfl ?_ | refine XQ.zne0 rfl ?_ | refine XQ.zne1 rfl ?_ | refine XQ.mg hM rfl rfl ?_ | refine XQ.ml hM rfl rfl (by decide) (by omega) (by simp only [mLen]; omega) ?_ | refine XQ.add rfl ⟨by omega, by omega⟩ ?_ | refine XQ.sub rfl ⟨by omega, by omega⟩ ?_ | refine XQ.mul rfl ⟨by omega, by omega⟩ ?_ | refine XQ.inc rfl rfl rfl ⟨by omega, by omega⟩ ?_ | refine XQ.ms hM rfl rfl (by decide) (by omega) (by simp only [mLen]; omega) (fun S hM => ?_) | refine XQ.mp hM rfl rfl (fun S hM => ?_))
          exact XQ.ret rfl rfl ⟨rfl, hM⟩
        · rw [bad (by omega)]
          repeat (first | refine XQ.go rfl rfl ?_ | refine XQ.zeq0 rfl ?_ | refine XQ.zeq1 rfl ?_ | refine XQ.zne0 rfl ?_ | refine XQ.zne1 rfl ?_ | refine XQ.mg hM rfl rfl ?_ | refine XQ.ml hM rfl rfl (by decide) (by omega) (by simp only [mLen]; omega) ?_ | refine XQ.add rfl ⟨by omega, by omega⟩ ?_ | refine XQ.sub rfl ⟨by omega, by omega⟩ ?_ | refine XQ.mul rfl ⟨by omega, by omega⟩ ?_ | refine XQ.inc rfl rfl rfl ⟨by omega, by omega⟩ ?_ | refine XQ.ms hM rfl rfl (by decide) (by omega) (by simp only [mLen]; omega) (fun S hM => ?_) | refine XQ.mp hM rfl rfl (fun S hM => ?_))
          exact XQ.ret rfl rfl ⟨rfl, hM⟩
theorem M_get {w v k : Int} (hM : MO m S0 S M) (hB : BW M) : XQ (d + 2) k_M_get 0 (mentry (mL k_M_get) [.inr (some m), .inl w, .inl v, .inl k]) [] S (fun r S' => r = some (.inl (aGet M w v k).1) ∧ MO m S0 S' (aGet M w v k).2) := by
  have bad : (w < 0 ∨ 5 < w ∨ aObj M v < 0 ∨ M 3 (aObj M v) = 4 ∨ k < 0 ∨ M 4 (aObj M v) ≤ k) → aGet M w v k = (0, M) := fun q => by unfold aGet; rw [if_pos q]
  have hb := hB.1
  have hi2 := aObj_in hB.1 v
  repeat (first | refine XQ.go rfl rfl ?_ | refine XQ.zeq0 rfl ?_ | refine XQ.zeq1 rfl ?_ | refine XQ.zne0 rfl ?_ | refine XQ.zne1 rfl ?_ | refine XQ.mg hM rfl rfl ?_ | refine XQ.ml hM rfl rfl (by decide) (by omega) (by simp only [mLen]; omega) ?_ | refine XQ.add rfl ⟨by omega, by omega⟩ ?_ | refine XQ.sub rfl ⟨by omega, by omega⟩ ?_ | refine XQ.mul rfl ⟨by omega, by omega⟩ ?_ | refine XQ.inc rfl rfl rfl ⟨by omega, by omega⟩ ?_ | refine XQ.ms hM rfl rfl (by decide) (by omega) (by simp only [mLen]; omega) (fun S hM => ?_) | refine XQ.mp hM rfl rfl (fun S hM => ?_))
  refine XQ.v2 rfl hM.1.1 rfl (le8 rfl) (M_object hM hB) (fun r S' hq => ?_)
  obtain ⟨rfl, rfl⟩ := hq
  repeat (first | refine XQ.go rfl rfl ?_ | refine XQ.zeq0 rfl ?_ | refine XQ.zeq1 rfl ?_ | refine XQ.zne0 rfl ?_ | refine XQ.zne1 rfl ?_ | refine XQ.mg hM rfl rfl ?_ | refine XQ.ml hM rfl rfl (by decide) (by omega) (by simp only [mLen]; omega) ?_ | refine XQ.add rfl ⟨by omega, by omega⟩ ?_ | refine XQ.sub rfl ⟨by omega, by omega⟩ ?_ | refine XQ.mul rfl ⟨by omega, by omega⟩ ?_ | refine XQ.inc rfl rfl rfl ⟨by omega, by omega⟩ ?_ | refine XQ.ms hM rfl rfl (by decide) (by omega) (by simp only [mLen]; omega) (fun S hM => ?_) | refine XQ.mp hM rfl rfl (fun S hM => ?_))
  refine XQ.s1 rfl rfl (le8 rfl) (M_isVar (v := w)) (fun r S' hq => ?_)
  obtain ⟨rfl, ⟨rfl, hw⟩ | ⟨rfl, hw⟩⟩ := hq
  · repeat (first | refine XQ.go rfl rfl ?_ | refine XQ.zeq0 rfl ?_ | refine XQ.zeq1 rfl ?_ | refine XQ.zne0 rfl ?_ | refine XQ.zne1 rfl ?_ | refine XQ.mg hM rfl rfl ?_ | refine XQ.ml hM rfl rfl (by decide) (by omega) (by simp only [mLen]; omega) ?_ | refine XQ.add rfl ⟨by omega, by omega⟩ ?_ | refine XQ.sub rfl ⟨by omega, by omega⟩ ?_ | refine XQ.mul rfl ⟨by omega, by omega⟩ ?_ | refine XQ.inc rfl rfl rfl ⟨by omega, by omega⟩ ?_ | refine XQ.ms hM rfl rfl (by decide) (by omega) (by simp only [mLen]; omega) (fun S hM => ?_) | refine XQ.mp hM rfl rfl (fun S hM => ?_))
    refine XQ.zlt rfl (fun q => ?_) (fun q => ?_)
    · rw [bad (by omega)]
      repeat (first | refine XQ.go rfl rfl ?_ | refine XQ.zeq0 rfl ?_ | refine XQ.zeq1 rfl ?_ | refine XQ.zne0 rfl ?_ | refine XQ.zne1 rfl ?_ | refine XQ.mg hM rfl rfl ?_ | refine XQ.ml hM rfl rfl (by decide) (by omega) (by simp only [mLen]; omega) ?_ | refine XQ.add rfl ⟨by omega, by omega⟩ ?_ | refine XQ.sub rfl ⟨by omega, by omega⟩ ?_ | refine XQ.mul rfl ⟨by omega, by omega⟩ ?_ | refine XQ.inc rfl rfl rfl ⟨by omega, by omega⟩ ?_ | refine XQ.ms hM rfl rfl (by decide) (by omega) (by simp only [mLen]; omega) (fun S hM => ?_) | refine XQ.mp hM rfl rfl (fun S hM => ?_))
      exact XQ.ret rfl rfl ⟨rfl, hM⟩
    · have hm := hB.2.2.1 (aObj M v) (by omega) (by omega)
      repeat (first | refine XQ.go rfl rfl ?_ | refine XQ.zeq0 rfl ?_ | refine XQ.zeq1 rfl ?_ | refine XQ.zne0 rfl ?_ | refine XQ.zne1 rfl ?_ | refine XQ.mg hM rfl rfl ?_ | refine XQ.ml hM rfl rfl (by decide) (by omega) (by simp only [mLen]; omega) ?_ | refine XQ.add rfl ⟨by omega, by omega⟩ ?_ | refine XQ.sub rfl ⟨by omega, by omega⟩ ?_ | refine XQ.mul rfl ⟨by omega, by omega⟩ ?_ | refine XQ.inc rfl rfl rfl ⟨by omega, by omega⟩ ?_ | refine XQ.ms hM rfl rfl (by decide) (by omega) (by simp only [mLen]; omega) (fun S hM => ?_) | refine XQ.mp hM rfl rfl (fun S hM => ?_))
      refine XQ.ceq rfl (fun q1 => ?_) (fun q1 => ?_)
      · rw [bad (by omega)]
        repeat (first | refine XQ.go rfl rfl ?_ | refine XQ.zeq0 rfl ?_ | refine XQ.zeq1 rfl ?_ | refine XQ.zne0 rfl ?_ | refine XQ.zne1 rfl ?_ | refine XQ.mg hM rfl rfl ?_ | refine XQ.ml hM rfl rfl (by decide) (by omega) (by simp only [mLen]; omega) ?_ | refine XQ.add rfl ⟨by omega, by omega⟩ ?_ | refine XQ.sub rfl ⟨by omega, by omega⟩ ?_ | refine XQ.mul rfl ⟨by omega, by omega⟩ ?_ | refine XQ.inc rfl rfl rfl ⟨by omega, by omega⟩ ?_ | refine XQ.ms hM rfl rfl (by decide) (by omega) (by simp only [mLen]; omega) (fun S hM => ?_) | refine XQ.mp hM rfl rfl (fun S hM => ?_))
        exact XQ.ret rfl rfl ⟨rfl, hM⟩
      · repeat (first | refine XQ.go rfl rfl ?_ | refine XQ.zeq0 rfl ?_ | refine XQ.zeq1 rfl ?_ | refine XQ.zne0 rfl ?_ | refine XQ.zne1 rfl ?_ | refine XQ.mg hM rfl rfl ?_ | refine XQ.ml hM rfl rfl (by decide) (by omega) (by simp only [mLen]; omega) ?_ | refine XQ.add rfl ⟨by omega, by omega⟩ ?_ | refine XQ.sub rfl ⟨by omega, by omega⟩ ?_ | refine XQ.mul rfl ⟨by omega, by omega⟩ ?_ | refine XQ.inc rfl rfl rfl ⟨by omega, by omega⟩ ?_ | refine XQ.ms hM rfl rfl (by decide) (by omega) (by simp only [mLen]; omega) (fun S hM => ?_) | refine XQ.mp hM rfl rfl (fun S hM => ?_))
        refine XQ.zlt rfl (fun q2 => ?_) (fun q2 => ?_)
        · rw [bad (by omega)]
          repeat (first | refine XQ.go rfl rfl ?_ | refine XQ.zeq0 rfl ?_ | refine XQ.zeq1 rfl ?_ | refine XQ.zne0 rfl ?_ | refine XQ.zne1 rfl ?_ | refine XQ.mg hM rfl rfl ?_ | refine XQ.ml hM rfl rfl (by decide) (by omega) (by simp only [mLen]; omega) ?_ | refine XQ.add rfl ⟨by omega, by omega⟩ ?_ | refine XQ.sub rfl ⟨by omega, by omega⟩ ?_ | refine XQ.mul rfl ⟨by omega, by omega⟩ ?_ | refine XQ.inc rfl rfl rfl ⟨by omega, by omega⟩ ?_ | refine XQ.ms hM rfl rfl (by decide) (by omega) (by simp only [mLen]; omega) (fun S hM => ?_) | refine XQ.mp hM rfl rfl (fun S hM => ?_))
          exact XQ.ret rfl rfl ⟨rfl, hM⟩
        · repeat (first | refine XQ.go rfl rfl ?_ | refine XQ.zeq0 rfl ?_ | refine XQ.zeq1 rfl ?_ | refine XQ.zne0 rfl ?_ | refine XQ.zne1 rfl ?_ | refine XQ.mg hM rfl rfl ?_ | refine XQ.ml hM rfl rfl (by decide) (by omega) (by simp only [mLen]; omega) ?_ | refine XQ.add rfl ⟨by omega, by omega⟩ ?_ | refine XQ.sub rfl ⟨by omega, by omega⟩ ?_ | refine XQ.mul rfl ⟨by omega, by omega⟩ ?_ | refine XQ.inc rfl rfl rfl ⟨by omega, by omega⟩ ?_ | refine XQ.ms hM rfl rfl (by decide) (by omega) (by simp only [mLen]; omega) (fun S hM => ?_) | refine XQ.mp hM rfl rfl (fun S hM => ?_))
          refine XQ.clt rfl (fun q3 => ?_) (fun q3 => ?_)
          · have good : aGet M w v k = (1, aHold M w (M 5 (4 * aObj M v + k)) (M 6 (4 * aObj M v + k))) := by unfold aGet; rw [if_neg (by omega)]
            rw [good]
            repeat (first | refine XQ.go rfl rfl ?_ | refine XQ.zeq0 rfl ?_ | refine XQ.zeq1 rfl ?_ | refine XQ.zne0 rfl ?_ | refine XQ.zne1 rfl ?_ | refine XQ.mg hM rfl rfl ?_ | refine XQ.ml hM rfl rfl (by decide) (by omega) (by simp only [mLen]; omega) ?_ | refine XQ.add rfl ⟨by omega, by omega⟩ ?_ | refine XQ.sub rfl ⟨by omega, by omega⟩ ?_ | refine XQ.mul rfl ⟨by omega, by omega⟩ ?_ | refine XQ.inc rfl rfl rfl ⟨by omega, by omega⟩ ?_ | refine XQ.ms hM rfl rfl (by decide) (by omega) (by simp only [mLen]; omega) (fun S hM => ?_) | refine XQ.mp hM rfl rfl (fun S hM => ?_))
            refine XQ.v4 rfl hM.1.1 rfl (le8 rfl) (M_hold hM hw.1 hw.2) (fun r S hq => ?_)
            obtain ⟨rfl, hM⟩ := hq
            repeat (first | refine XQ.go rfl rfl ?_ | refine XQ.zeq0 rfl ?_ | refine XQ.zeq1 rfl ?_ | refine XQ.zne0 rfl ?_ | refine XQ.zne1 rfl ?_ | refine XQ.mg hM rfl rfl ?_ | refine XQ.ml hM rfl rfl (by decide) (by omega) (by simp only [mLen]; omega) ?_ | refine XQ.add rfl ⟨by omega, by omega⟩ ?_ | refine XQ.sub rfl ⟨by omega, by omega⟩ ?_ | refine XQ.mul rfl ⟨by omega, by omega⟩ ?_ | refine XQ.inc rfl rfl rfl ⟨by omega, by omega⟩ ?_ | refine XQ.ms hM rfl rfl (by decide) (by omega) (by simp only [mLen]; omega) (fun S hM => ?_) | refine XQ.mp hM rfl rfl (fun S hM => ?_))
            exact XQ.ret rfl rfl ⟨rfl, hM⟩
          · rw [bad (by omega)]
            repeat (first | refine XQ.go rfl rfl ?_ | refine XQ.zeq0 rfl ?_ | refine XQ.zeq1 rfl ?_ | refine XQ.zne0 rfl ?_ | refine XQ.zne1 rfl ?_ | refine XQ.mg hM rfl rfl ?_ | refine XQ.ml hM rfl rfl (by decide) (by omega) (by simp only [mLen]; omega) ?_ | refine XQ.add rfl ⟨by omega, by omega⟩ ?_ | refine XQ.sub rfl ⟨by omega, by omega⟩ ?_ | refine XQ.mul rfl ⟨by omega, by omega⟩ ?_ | refine XQ.inc rfl rfl rfl ⟨by omega, by omega⟩ ?_ | refine XQ.ms hM rfl rfl (by decide) (by omega) (by simp only [mLen]; omega) (fun S hM => ?_) | refine XQ.mp hM rfl rfl (fun S hM => ?_))
            exact XQ.ret rfl rfl ⟨rfl, hM⟩
  · rw [bad (by omega)]
    repeat (first | refine XQ.go rfl rfl ?_ | refine XQ.zeq0 rfl ?_ | refine XQ.zeq1 rfl ?_ | refine XQ.zne0 rfl ?_ | refine XQ.zne1 rfl ?_ | refine XQ.mg hM rfl rfl ?_ | refine XQ.ml hM rfl rfl (by decide) (by omega) (by simp only [mLen]; omega) ?_ | refine XQ.add rfl ⟨by omega, by omega⟩ ?_ | refine XQ.sub rfl ⟨by omega, by omega⟩ ?_ | refine XQ.mul rfl ⟨by omega, by omega⟩ ?_ | refine XQ.inc rfl rfl rfl ⟨by omega, by omega⟩ ?_ | refine XQ.ms hM rfl rfl (by decide) (by omega) (by simp only [mLen]; omega) (fun S hM => ?_) | refine XQ.mp hM rfl rfl (fun S hM => ?_))
    exact XQ.ret rfl rfl ⟨rfl, hM⟩
end M6
