/-! the reference's methods, walked: a whole collection, making -/
theorem aClear_off (M : MM) : offM M (aClear M) := lp_off (fun i M => offM.rf.u _ _) _
theorem BW.run {M : MM} (h : BW M) (hr : M 13 4 < 100000) : BW (u2 M 13 4 (M 13 4 + 1)) := by
  obtain ⟨h1, h2, h3, h4⟩ := h
  exact ⟨h1, h2, h3, h4.1, h4.2.1, by show 0 ≤ M 13 4 + 1; omega, by show M 13 4 + 1 ≤ 100000; omega⟩
theorem aC1_ok {M : MM} (hB : BW M) (hr : M 13 4 < 100000) : BW (aC1 M) := (hB.run hr).off (aClear_off _)
theorem aC2_ok {M : MM} (hB : BW M) (hr : M 13 4 < 100000) : BW (aC2 M) := ((aC1_ok hB hr).off (aRoots_off _)).off (aClo_off _ _ _)
theorem aLoose_ok {M : MM} (hB : BW M) : BW (aLoose M) ∧ offS [4, 5, 6, 7] M (aLoose M) := aLoose_lp hB (M 13 0).toNat (by have := hB.1; omega)
theorem aC3_ok {M : MM} (hB : BW M) (hr : M 13 4 < 100000) : BW (aC3 M) := (aCallW_ok (aLoose_ok (aC2_ok hB hr)).1).1
theorem aC4_ok {M : MM} (hB : BW M) (hr : M 13 4 < 100000) : BW (aC4 M) := ((aC3_ok hB hr).off (aWaits_off _)).off (aClo_off _ _ _)
theorem aColl_ok {M : MM} (hB : BW M) (hr : M 13 4 < 100000) : BW (aColl M).2 := (aSweep_ok (aC4_ok hB hr)).1
theorem aC4_13 {M : MM} (hB : BW M) (hr : M 13 4 < 100000) : aC4 M 13 1 = M 13 1 ∧ aC4 M 13 4 = M 13 4 + 1 := by
  have a1 := (aClear_off (u2 M 13 4 (M 13 4 + 1))).tr ((aRoots_off _).tr (aClo_off false 21 _))
  have a2 := (aLoose_ok (aC2_ok hB hr)).2
  have a3 := (aCallW_ok (aLoose_ok (aC2_ok hB hr)).1).2.2
  have a4 := (aWaits_off (aC3 M)).tr (aClo_off true 21 _)
  refine ⟨?_, ?_⟩
  · exact (a4 13 1 (by decide)).trans (a3.2.1.trans ((a2 13 1 rfl).trans ((a1 13 1 (by decide)).trans (u2_n _ _ (Or.inr (by decide))))))
  · exact (a4 13 4 (by decide)).trans (a3.2.2.trans ((a2 13 4 rfl).trans ((a1 13 4 (by decide)).trans (u2_s _ _ _ _))))
theorem aColl_13 {M : MM} (hB : BW M) (hr : M 13 4 < 100000) : (aColl M).2 13 1 = M 13 1 ∧ (aColl M).2 13 4 = M 13 4 + 1 := by
  have h1 := (aSweep_ok (aC4_ok hB hr)).2
  have h2 := aC4_13 hB hr
  exact ⟨(h1 1 (by decide)).trans h2.1, (h1 4 (by decide)).trans h2.2⟩
section M5
variable {d m : Nat} {S0 S : MS} {M : MM} {Q : Option MV → MS → Prop}
theorem M_clr {M : MM} (hB : BW M) (K : ∀ (S : MS) (x1 : Option MV), MO m S0 S (aClear M) → XQ d k_M_collect 33 [some (.inr (some m)), x1] [] S Q) : ∀ (j o : Nat) (S : MS), ((o + j : Nat) : Int) = M 13 0 → MO m S0 S (lp (fun o M => u2 M 8 (o : Int) 0) o M) → XQ d k_M_collect 12 [some (.inr (some m)), some (.inl (o : Int))] [] S Q := by
  have hb := hB.1
  intro j
  induction j with
  | zero =>
    intro o S ho hM
    have e : aClear M = lp (fun o M => u2 M 8 (o : Int) 0) o M := by unfold aClear; rw [← ho]; rfl
    rw [e] at K
    have hoff : offM M (lp (fun o M => u2 M 8 (o : Int) 0) o M) := lp_off (fun i M => offM.rf.u _ _) _
    have e0 := hoff 13 0 (by decide)
    repeat (first | refine XQ.go rfl rfl ?_ | refine XQ.zeq0 rfl ?_ | refine XQ.zeq1 rfl ?_ | refine XQ.zne0 rfl ?_ | refine XQ.zne1 rfl ?_ | refine XQ.mg hM rfl rfl ?_ | refine XQ.ml hM rfl rfl (by decide) (by omega) (by simp only [mLen]; omega) ?_ | refine XQ.add rfl ⟨by omega, by omega⟩ ?_ | refine XQ.sub rfl ⟨by omega, by omega⟩ ?_ | refine XQ.mul rfl ⟨by omega, by omega⟩ ?_ | refine XQ.inc rfl rfl rfl ⟨by omega, by omega⟩ ?_ | refine XQ.ms hM rfl rfl (by decide) (by omega) (by simp only [mLen]; omega) (fun S hM => ?_) | refine XQ.mp hM rfl rfl (fun S hM => ?_))
    refine XQ.cge rfl (fun q => ?_) (fun q => by omega)
    exact K _ _ hM
  | succ j ih =>
    intro o S ho hM
    have hoff : offM M (lp (fun o M => u2 M 8 (o : Int) 0) o M) := lp_off (fun i M => offM.rf.u _ _) _
    have e0 := hoff 13 0 (by decide)
    have ih2 := fun S hM => ih (o + 1) S (by omega) hM
    repeat (first | refine XQ.go rfl rfl ?_ | refine XQ.zeq0 rfl ?_ | refine XQ.zeq1 rfl ?_ | refine XQ.zne0 rfl ?_ | refine XQ.zne1 rfl ?_ | refine XQ.mg hM rfl rfl ?_ | refine XQ.ml hM rfl rfl (by decide) (by omega) (by simp only [mLen]; omega) ?_ | refine XQ.add rfl ⟨by omega, by omega⟩ ?_ | refine XQ.sub rfl ⟨by omega, by omega⟩ ?_ | refine XQ.mul rfl ⟨by omega, by omega⟩ ?_ | refine XQ.inc rfl rfl rfl ⟨by omega, by omega⟩ ?_ | refine XQ.ms hM rfl rfl (by decide) (by omega) (by simp only [mLen]; omega) (fun S hM => ?_) | refine XQ.mp hM rfl rfl (fun S hM => ?_))
    refine XQ.cge rfl (fun q => by omega) (fun q => ?_)
    repeat (first | refine XQ.go rfl rfl ?_ | refine XQ.zeq0 rfl ?_ | refine XQ.zeq1 rfl ?_ | refine XQ.zne0 rfl ?_ | refine XQ.zne1 rfl ?_ | refine XQ.mg hM rfl rfl ?_ | refine XQ.ml hM rfl rfl (by decide) (by omega) (by simp only [mLen]; omega) ?_ | refine XQ.add rfl ⟨by omega, by omega⟩ ?_ | refine XQ.sub rfl ⟨by omega, by omega⟩ ?_ | refine XQ.mul rfl ⟨by omega, by omega⟩ ?_ | refine XQ.inc rfl rfl rfl ⟨by omega, by omega⟩ ?_ | refine XQ.ms hM rfl rfl (by decide) (by omega) (by simp only [mLen]; omega) (fun S hM => ?_) | refine XQ.mp hM rfl rfl (fun S hM => ?_))
    refine XQ.mz hM rfl (Or.inl rfl) (by omega) (by omega) (fun S hM => ?_)
    have ih3 := ih2 S hM
    repeat (first | exact ih3 | refine XQ.go rfl rfl ?_ | refine XQ.zeq0 rfl ?_ | refine XQ.zeq1 rfl ?_ | refine XQ.zne0 rfl ?_ | refine XQ.zne1 rfl ?_ | refine XQ.mg hM rfl rfl ?_ | refine XQ.ml hM rfl rfl (by decide) (by omega) (by simp only [mLen]; omega) ?_ | refine XQ.add rfl ⟨by omega, by omega⟩ ?_ | refine XQ.sub rfl ⟨by omega, by omega⟩ ?_ | refine XQ.mul rfl ⟨by omega, by omega⟩ ?_ | refine XQ.inc rfl rfl rfl ⟨by omega, by omega⟩ ?_ | refine XQ.ms hM rfl rfl (by decide) (by omega) (by simp only [mLen]; omega) (fun S hM => ?_) | refine XQ.mp hM rfl rfl (fun S hM => ?_))
theorem M_collect (hM : MO m S0 S M) (hB : BW M) (hr : M 13 4 < 100000) : XQ (d + 4) k_M_collect 0 (mentry (mL k_M_collect) [.inr (some m)]) [] S (fun r S' => r = some (.inl (aColl M).1) ∧ MO m S0 S' (aColl M).2) := by
  have hb := hB.1
  have h4 := hB.2.2.2
  have h1 := aC1_ok hB hr
  have h2 := aC2_ok hB hr
  have hL := (aLoose_ok h2).1
  have h3 := aC3_ok hB hr
  have h5 := aC4_ok hB hr
  have K : ∀ (S : MS) (x1 : Option MV), MO m S0 S (aC1 M) → XQ (d + 4) k_M_collect 33 [some (.inr (some m)), x1] [] S (fun r S' => r = some (.inl (aColl M).1) ∧ MO m S0 S' (aColl M).2) := by
    intro S x1 hM
    repeat (first | refine XQ.go rfl rfl ?_ | refine XQ.zeq0 rfl ?_ | refine XQ.zeq1 rfl ?_ | refine XQ.zne0 rfl ?_ | refine XQ.zne1 rfl ?_ | refine XQ.mg hM rfl rfl ?_ | refine XQ.ml hM rfl rfl (by decide) (by omega) (by simp only [mLen]; omega) ?_ | refine XQ.add rfl ⟨by omega, by omega⟩ ?_ | refine XQ.sub rfl ⟨by omega, by omega⟩ ?_ | refine XQ.mul rfl ⟨by omega, by omega⟩ ?_ | refine XQ.inc rfl rfl rfl ⟨by omega, by omega⟩ ?_ | refine XQ.ms hM rfl rfl (by decide) (by omega) (by simp only [mLen]; omega) (fun S hM => ?_) | refine XQ.mp hM rfl rfl (fun S hM => ?_))
    refine XQ.v1 rfl hM.1.1 rfl (le8 rfl) (M_addRoots hM h1) (fun r S hq => ?_)
    obtain ⟨rfl, hM⟩ := hq
    repeat (first | refine XQ.go rfl rfl ?_ | refine XQ.zeq0 rfl ?_ | refine XQ.zeq1 rfl ?_ | refine XQ.zne0 rfl ?_ | refine XQ.zne1 rfl ?_ | refine XQ.mg hM rfl rfl ?_ | refine XQ.ml hM rfl rfl (by decide) (by omega) (by simp only [mLen]; omega) ?_ | refine XQ.add rfl ⟨by omega, by omega⟩ ?_ | refine XQ.sub rfl ⟨by omega, by omega⟩ ?_ | refine XQ.mul rfl ⟨by omega, by omega⟩ ?_ | refine XQ.inc rfl rfl rfl ⟨by omega, by omega⟩ ?_ | refine XQ.ms hM rfl rfl (by decide) (by omega) (by simp only [mLen]; omega) (fun S hM => ?_) | refine XQ.mp hM rfl rfl (fun S hM => ?_))
    refine XQ.v2 rfl hM.1.1 rfl (le8 rfl) (M_close (all := false) hM (h1.off (aRoots_off _))) (fun r S hq => ?_)
    obtain ⟨rfl, hM⟩ := hq
    repeat (first | refine XQ.go rfl rfl ?_ | refine XQ.zeq0 rfl ?_ | refine XQ.zeq1 rfl ?_ | refine XQ.zne0 rfl ?_ | refine XQ.zne1 rfl ?_ | refine XQ.mg hM rfl rfl ?_ | refine XQ.ml hM rfl rfl (by decide) (by omega) (by simp only [mLen]; omega) ?_ | refine XQ.add rfl ⟨by omega, by omega⟩ ?_ | refine XQ.sub rfl ⟨by omega, by omega⟩ ?_ | refine XQ.mul rfl ⟨by omega, by omega⟩ ?_ | refine XQ.inc rfl rfl rfl ⟨by omega, by omega⟩ ?_ | refine XQ.ms hM rfl rfl (by decide) (by omega) (by simp only [mLen]; omega) (fun S hM => ?_) | refine XQ.mp hM rfl rfl (fun S hM => ?_))
    refine XQ.v1 rfl hM.1.1 rfl (le8 rfl) (M_loosen (d := d + 1) hM h2) (fun r S hq => ?_)
    obtain ⟨rfl, hM⟩ := hq
    repeat (first | refine XQ.go rfl rfl ?_ | refine XQ.zeq0 rfl ?_ | refine XQ.zeq1 rfl ?_ | refine XQ.zne0 rfl ?_ | refine XQ.zne1 rfl ?_ | refine XQ.mg hM rfl rfl ?_ | refine XQ.ml hM rfl rfl (by decide) (by omega) (by simp only [mLen]; omega) ?_ | refine XQ.add rfl ⟨by omega, by omega⟩ ?_ | refine XQ.sub rfl ⟨by omega, by omega⟩ ?_ | refine XQ.mul rfl ⟨by omega, by omega⟩ ?_ | refine XQ.inc rfl rfl rfl ⟨by omega, by omega⟩ ?_ | refine XQ.ms hM rfl rfl (by decide) (by omega) (by simp only [mLen]; omega) (fun S hM => ?_) | refine XQ.mp hM rfl rfl (fun S hM => ?_))
    refine XQ.v1 rfl hM.1.1 rfl (le8 rfl) (M_callWaiting (d := d + 1) hM hL) (fun r S hq => ?_)
    obtain ⟨rfl, hM⟩ := hq
    repeat (first | refine XQ.go rfl rfl ?_ | refine XQ.zeq0 rfl ?_ | refine XQ.zeq1 rfl ?_ | refine XQ.zne0 rfl ?_ | refine XQ.zne1 rfl ?_ | refine XQ.mg hM rfl rfl ?_ | refine XQ.ml hM rfl rfl (by decide) (by omega) (by simp only [mLen]; omega) ?_ | refine XQ.add rfl ⟨by omega, by omega⟩ ?_ | refine XQ.sub rfl ⟨by omega, by omega⟩ ?_ | refine XQ.mul rfl ⟨by omega, by omega⟩ ?_ | refine XQ.inc rfl rfl rfl ⟨by omega, by omega⟩ ?_ | refine XQ.ms hM rfl rfl (by decide) (by omega) (by simp only [mLen]; omega) (fun S hM => ?_) | refine XQ.mp hM rfl rfl (fun S hM => ?_))
    refine XQ.v1 rfl hM.1.1 rfl (le8 rfl) (M_addWaiting (d := d + 1) hM h3) (fun r S hq => ?_)
    obtain ⟨rfl, hM⟩ := hq
    repeat (first | refine XQ.go rfl rfl ?_ | refine XQ.zeq0 rfl ?_ | refine XQ.zeq1 rfl ?_ | refine XQ.zne0 rfl ?_ | refine XQ.zne1 rfl ?_ | refine XQ.mg hM rfl rfl ?_ | refine XQ.ml hM rfl rfl (by decide) (by omega) (by simp only [mLen]; omega) ?_ | refine XQ.add rfl ⟨by omega, by omega⟩ ?_ | refine XQ.sub rfl ⟨by omega, by omega⟩ ?_ | refine XQ.mul rfl ⟨by omega, by omega⟩ ?_ | refine XQ.inc rfl rfl rfl ⟨by omega, by omega⟩ ?_ | refine XQ.ms hM rfl rfl (by decide) (by omega) (by simp only [mLen]; omega) (fun S hM => ?_) | refine XQ.mp hM rfl rfl (fun S hM => ?_))
    refine XQ.v2 rfl hM.1.1 rfl (le8 rfl) (M_close (all := true) hM (h3.off (aWaits_off _))) (fun r S hq => ?_)
    obtain ⟨rfl, hM⟩ := hq
    repeat (first | refine XQ.go rfl rfl ?_ | refine XQ.zeq0 rfl ?_ | refine XQ.zeq1 rfl ?_ | refine XQ.zne0 rfl ?_ | refine XQ.zne1 rfl ?_ | refine XQ.mg hM rfl rfl ?_ | refine XQ.ml hM rfl rfl (by decide) (by omega) (by simp only [mLen]; omega) ?_ | refine XQ.add rfl ⟨by omega, by omega⟩ ?_ | refine XQ.sub rfl ⟨by omega, by omega⟩ ?_ | refine XQ.mul rfl ⟨by omega, by omega⟩ ?_ | refine XQ.inc rfl rfl rfl ⟨by omega, by omega⟩ ?_ | refine XQ.ms hM rfl rfl (by decide) (by omega) (by simp only [mLen]; omega) (fun S hM => ?_) | refine XQ.mp hM rfl rfl (fun S hM => ?_))
    refine XQ.v1 rfl hM.1.1 rfl (le8 rfl) (M_sweep (d := d + 3) hM h5) (fun r S hq => ?_)
    obtain ⟨rfl, hM⟩ := hq
    exact XQ.ret rfl rfl ⟨rfl, hM⟩
  have h0 := fun S hM => M_clr (d := d + 4) (m := m) (S0 := S0) (hB.run hr) K (M 13 0).toNat 0 S (by show ((0 + (M 13 0).toNat : Nat) : Int) = M 13 0; omega) hM
  repeat (first | exact h0 _ hM | refine XQ.go rfl rfl ?_ | refine XQ.zeq0 rfl ?_ | refine XQ.zeq1 rfl ?_ | refine XQ.zne0 rfl ?_ | refine XQ.zne1 rfl ?_ | refine XQ.mg hM rfl rfl ?_ | refine XQ.ml hM rfl rfl (by decide) (by omega) (by simp only [mLen]; omega) ?_ | refine XQ.add rfl ⟨by omega, by omega⟩ ?_ | refine XQ.sub rfl ⟨by omega, by omega⟩ ?_ | refine XQ.mul rfl ⟨by omega, by omega⟩ ?_ | refine XQ.inc rfl rfl rfl ⟨by omega, by omega⟩ ?_ | refine XQ.ms hM rfl rfl (by decide) (by omega) (by simp only [mLen]; omega) (fun S hM => ?_) | refine XQ.mp hM rfl rfl (fun S hM => ?_))
theorem M_mk_l {M : MM} {o s n r0 : Int} (ho : 0 ≤ o) (ho2 : o < 20) : ∀ (j f : Nat) (S : MS), f + j = 4 → MO m S0 S (lp (aMkF o) f M) → XQ d k_M_make 93 [some (.inr (some m)), some (.inl s), some (.inl n), some (.inl r0), some (.inl o), some (.inl (f : Int))] [] S (fun r S' => r = some (.inl o) ∧ MO m S0 S' (lp (aMkF o) 4 M)) := by
  intro j
  induction j with
  | zero =>
    intro f S hf hM
    have ef : f = 4 := by omega
    subst ef
    repeat (first | refine XQ.go rfl rfl ?_ | refine XQ.zeq0 rfl ?_ | refine XQ.zeq1 rfl ?_ | refine XQ.zne0 rfl ?_ | refine XQ.zne1 rfl ?_ | refine XQ.mg hM rfl rfl ?_ | refine XQ.ml hM rfl rfl (by decide) (by omega) (by simp only [mLen]; omega) ?_ | refine XQ.add rfl ⟨by omega, by omega⟩ ?_ | refine XQ.sub rfl ⟨by omega, by omega⟩ ?_ | refine XQ.mul rfl ⟨by omega, by omega⟩ ?_ | refine XQ.inc rfl rfl rfl ⟨by omega, by omega⟩ ?_ | refine XQ.ms hM rfl rfl (by decide) (by omega) (by simp only [mLen]; omega) (fun S hM => ?_) | refine XQ.mp hM rfl rfl (fun S hM => ?_))
    refine XQ.cge rfl (fun q => ?_) (fun q => by omega)
    repeat (first | refine XQ.go rfl rfl ?_ | refine XQ.zeq0 rfl ?_ | refine XQ.zeq1 rfl ?_ | refine XQ.zne0 rfl ?_ | refine XQ.zne1 rfl ?_ | refine XQ.mg hM rfl rfl ?_ | refine XQ.ml hM rfl rfl (by decide) (by omega) (by simp only [mLen]; omega) ?_ | refine XQ.add rfl ⟨by omega, by omega⟩ ?_ | refine XQ.sub rfl ⟨by omega, by omega⟩ ?_ | refine XQ.mul rfl ⟨by omega, by omega⟩ ?_ | refine XQ.inc rfl rfl rfl ⟨by omega, by omega⟩ ?_ | refine XQ.ms hM rfl rfl (by decide) (by omega) (by simp only [mLen]; omega) (fun S hM => ?_) | refine XQ.mp hM rfl rfl (fun S hM => ?_))
    exact XQ.ret rfl rfl ⟨rfl, hM⟩
  | succ j ih =>
    intro f S hf hM
    have en : lp (aMkF o) (f + 1) M = aMkF o f (lp (aMkF o) f M) := rfl
    have ih2 := fun S hM => ih (f + 1) S (by omega) hM
    rw [en] at ih2
    generalize lp (aMkF o) f M = N at hM ih2
    repeat (first | refine XQ.go rfl rfl ?_ | refine XQ.zeq0 rfl ?_ | refine XQ.zeq1 rfl ?_ | refine XQ.zne0 rfl ?_ | refine XQ.zne1 rfl ?_ | refine XQ.mg hM rfl rfl ?_ | refine XQ.ml hM rfl rfl (by decide) (by omega) (by simp only [mLen]; omega) ?_ | refine XQ.add rfl ⟨by omega, by omega⟩ ?_ | refine XQ.sub rfl ⟨by omega, by omega⟩ ?_ | refine XQ.mul rfl ⟨by omega, by omega⟩ ?_ | refine XQ.inc rfl rfl rfl ⟨by omega, by omega⟩ ?_ | refine XQ.ms hM rfl rfl (by decide) (by omega) (by simp only [mLen]; omega) (fun S hM => ?_) | refine XQ.mp hM rfl rfl (fun S hM => ?_))
    refine XQ.cge rfl (fun q => by omega) (fun q => ?_)
    repeat (first | exact ih2 _ hM | refine XQ.go rfl rfl ?_ | refine XQ.zeq0 rfl ?_ | refine XQ.zeq1 rfl ?_ | refine XQ.zne0 rfl ?_ | refine XQ.zne1 rfl ?_ | refine XQ.mg hM rfl rfl ?_ | refine XQ.ml hM rfl rfl (by decide) (by omega) (by simp only [mLen]; omega) ?_ | refine XQ.add rfl ⟨by omega, by omega⟩ ?_ | refine XQ.sub rfl ⟨by omega, by omega⟩ ?_ | refine XQ.mul rfl ⟨by omega, by omega⟩ ?_ | refine XQ.inc rfl rfl rfl ⟨by omega, by omega⟩ ?_ | refine XQ.ms hM rfl rfl (by decide) (by omega) (by simp only [mLen]; omega) (fun S hM => ?_) | refine XQ.mp hM rfl rfl (fun S hM => ?_))
theorem M_mk2 {M : MM} {s n r0 : Int} {x4 x5 : Option MV} (hM : MO m S0 S M) (hB : BW M) (hn : M 13 0 < 20) (hm : M 13 1 < 100000) : XQ d k_M_make 37 [some (.inr (some m)), some (.inl s), some (.inl n), some (.inl r0), x4, x5] [] S (fun r S' => r = some (.inl (M 13 0)) ∧ MO m S0 S' (aMkO M s n)) := by
  have hb := hB.1
  have h4 := hB.2.2.2
  repeat (first | refine XQ.go rfl rfl ?_ | refine XQ.mg hM rfl rfl ?_)
  refine XQ.add rfl ⟨by omega, by omega⟩ ?_
  refine XQ.mp hM rfl rfl (fun S hM => ?_)
  repeat (first | refine XQ.go rfl rfl ?_ | refine XQ.mg hM rfl rfl ?_)
  refine XQ.add rfl (show inR (M 13 1 + 1) from ⟨by omega, by omega⟩) ?_
  refine XQ.mp hM rfl rfl (fun S hM => ?_)
  repeat (first | refine XQ.go rfl rfl ?_ | refine XQ.mg hM rfl rfl ?_)
  refine XQ.ms hM rfl rfl (by decide) (by omega) (by simp only [mLen]; omega) (fun S hM => ?_)
  repeat (first | refine XQ.go rfl rfl ?_ | refine XQ.mg hM rfl rfl ?_)
  refine XQ.ms hM rfl rfl (by decide) (by omega) (by simp only [mLen]; omega) (fun S hM => ?_)
  repeat (first | refine XQ.go rfl rfl ?_ | refine XQ.mg hM rfl rfl ?_)
  refine XQ.ms hM rfl rfl (by decide) (by omega) (by simp only [mLen]; omega) (fun S hM => ?_)
  have h0 := M_mk_l (d := d) (m := m) (S0 := S0) (s := s) (n := n) (r0 := r0) (M := u2 (u2 (u2 (u2 (u2 M 13 0 (M 13 0 + 1)) 13 1 (M 13 1 + 1)) 2 (M 13 0) (M 13 1 + 1)) 3 (M 13 0) s) 4 (M 13 0) n) hb.1 hn 4 0 S rfl hM
  repeat (first | exact h0 | refine XQ.go rfl rfl ?_)
end M5
