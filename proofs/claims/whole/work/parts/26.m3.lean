/-! the reference's methods, walked: loosening, calling, sweeping, a whole collection -/
section M4
variable {d m : Nat} {S0 S : MS} {M : MM} {Q : Option MV → MS → Prop}
set_option maxHeartbeats 1000000 in
theorem M_ls_i {o : Nat} (hB : BW M) (ho : (o : Int) < M 13 0)
    (K : ∀ (S : MS) (x3 : Option MV), MO m S0 S (lp (aLsE o) (M 4 (o : Int)).toNat (0, M)).2 → XQ (d + 2) k_M_loosen 176 [some (.inr (some m)), some (.inl (o : Int)), some (.inl (lp (aLsE o) (M 4 (o : Int)).toNat (0, M)).1), x3] [] S Q) :
    ∀ (j e : Nat) (S : MS), ((e + j : Nat) : Int) = M 4 (o : Int) → MO m S0 S (lp (aLsE o) e (0, M)).2 → XQ (d + 2) k_M_loosen 80 [some (.inr (some m)), some (.inl (o : Int)), some (.inl (lp (aLsE o) e (0, M)).1), some (.inl (e : Int))] [] S Q := by
  have hb := hB.1
  have hm := hB.2.2.1 o (by omega) ho
  intro j
  induction j with
  | zero =>
    intro e S he hM
    have ee : (M 4 (o : Int)).toNat = e := by omega
    rw [ee] at K
    obtain ⟨hoff, -, -⟩ := aLsE_lp o M e
    have e4 := hoff 4 (o : Int) rfl
    have K2 := K S (some (.inl (e : Int))) hM
    repeat (first | refine XQ.go rfl rfl ?_ | refine XQ.zeq0 rfl ?_ | refine XQ.zeq1 rfl ?_ | refine XQ.zne0 rfl ?_ | refine XQ.zne1 rfl ?_ | refine XQ.mg hM rfl rfl ?_ | refine XQ.ml hM rfl rfl (by decide) (by omega) (by simp only [mLen]; omega) ?_ | refine XQ.add rfl ⟨by omega, by omega⟩ ?_ | refine XQ.sub rfl ⟨by omega, by omega⟩ ?_ | refine XQ.mul rfl ⟨by omega, by omega⟩ ?_ | refine XQ.inc rfl rfl rfl ⟨by omega, by omega⟩ ?_ | refine XQ.ms hM rfl rfl (by decide) (by omega) (by simp only [mLen]; omega) (fun S hM => ?_) | refine XQ.mp hM rfl rfl (fun S hM => ?_))
    refine XQ.cge rfl (fun q => ?_) (fun q => by omega)
    exact K2
  | succ j ih =>
    intro e S he hM
    obtain ⟨hoff, hl0, hl1⟩ := aLsE_lp o M e
    have e4 := hoff 4 (o : Int) rfl
    have hBp := hB.offS hoff rfl rfl rfl
    have en : lp (aLsE o) (e + 1) (0, M) = aLsE o e (lp (aLsE o) e (0, M)) := rfl
    have ih2 := fun S hM => ih (e + 1) S (by omega) hM
    rw [en] at ih2
    generalize lp (aLsE o) e (0, M) = p at hM hoff hl0 hl1 e4 hBp ih2 ⊢
    repeat (first | refine XQ.go rfl rfl ?_ | refine XQ.zeq0 rfl ?_ | refine XQ.zeq1 rfl ?_ | refine XQ.zne0 rfl ?_ | refine XQ.zne1 rfl ?_ | refine XQ.mg hM rfl rfl ?_ | refine XQ.ml hM rfl rfl (by decide) (by omega) (by simp only [mLen]; omega) ?_ | refine XQ.add rfl ⟨by omega, by omega⟩ ?_ | refine XQ.sub rfl ⟨by omega, by omega⟩ ?_ | refine XQ.mul rfl ⟨by omega, by omega⟩ ?_ | refine XQ.inc rfl rfl rfl ⟨by omega, by omega⟩ ?_ | refine XQ.ms hM rfl rfl (by decide) (by omega) (by simp only [mLen]; omega) (fun S hM => ?_) | refine XQ.mp hM rfl rfl (fun S hM => ?_))
    refine XQ.cge rfl (fun q => by omega) (fun q => ?_)
    repeat (first | refine XQ.go rfl rfl ?_ | refine XQ.zeq0 rfl ?_ | refine XQ.zeq1 rfl ?_ | refine XQ.zne0 rfl ?_ | refine XQ.zne1 rfl ?_ | refine XQ.mg hM rfl rfl ?_ | refine XQ.ml hM rfl rfl (by decide) (by omega) (by simp only [mLen]; omega) ?_ | refine XQ.add rfl ⟨by omega, by omega⟩ ?_ | refine XQ.sub rfl ⟨by omega, by omega⟩ ?_ | refine XQ.mul rfl ⟨by omega, by omega⟩ ?_ | refine XQ.inc rfl rfl rfl ⟨by omega, by omega⟩ ?_ | refine XQ.ms hM rfl rfl (by decide) (by omega) (by simp only [mLen]; omega) (fun S hM => ?_) | refine XQ.mp hM rfl rfl (fun S hM => ?_))
    refine XQ.v2 rfl hM.1.1 rfl (le8 rfl) (M_isMarked hM hBp.1) (fun r S' hq => ?_)
    obtain ⟨rfl, rfl⟩ := hq
    refine XQ.zeq rfl (fun q1 => ?_) (fun q1 => ?_)
    · have e1 : aLsE o e p = p := by unfold aLsE; rw [if_neg (by rw [bI_0 q1]; decide)]
      rw [e1] at ih2
      have ih3 := ih2 _ hM
      repeat (first | exact ih3 | refine XQ.go rfl rfl ?_ | refine XQ.zeq0 rfl ?_ | refine XQ.zeq1 rfl ?_ | refine XQ.zne0 rfl ?_ | refine XQ.zne1 rfl ?_ | refine XQ.mg hM rfl rfl ?_ | refine XQ.ml hM rfl rfl (by decide) (by omega) (by simp only [mLen]; omega) ?_ | refine XQ.add rfl ⟨by omega, by omega⟩ ?_ | refine XQ.sub rfl ⟨by omega, by omega⟩ ?_ | refine XQ.mul rfl ⟨by omega, by omega⟩ ?_ | refine XQ.inc rfl rfl rfl ⟨by omega, by omega⟩ ?_ | refine XQ.ms hM rfl rfl (by decide) (by omega) (by simp only [mLen]; omega) (fun S hM => ?_) | refine XQ.mp hM rfl rfl (fun S hM => ?_))
    · have e1 : aLsE o e p = (p.1 + 1, u2 (u2 (u2 p.2 7 (4 * (o : Int) + p.1) (p.2 7 (4 * (o : Int) + e))) 5 (4 * (o : Int) + p.1) (p.2 5 (4 * (o : Int) + e))) 6 (4 * (o : Int) + p.1) (p.2 6 (4 * (o : Int) + e))) := by unfold aLsE; rw [if_pos (bI_1 q1)]
      rw [e1] at ih2
      repeat (first | exact ih2 _ hM | refine XQ.go rfl rfl ?_ | refine XQ.zeq0 rfl ?_ | refine XQ.zeq1 rfl ?_ | refine XQ.zne0 rfl ?_ | refine XQ.zne1 rfl ?_ | refine XQ.mg hM rfl rfl ?_ | refine XQ.ml hM rfl rfl (by decide) (by omega) (by simp only [mLen]; omega) ?_ | refine XQ.add rfl ⟨by omega, by omega⟩ ?_ | refine XQ.sub rfl ⟨by omega, by omega⟩ ?_ | refine XQ.mul rfl ⟨by omega, by omega⟩ ?_ | refine XQ.inc rfl rfl rfl ⟨by omega, by omega⟩ ?_ | refine XQ.ms hM rfl rfl (by decide) (by omega) (by simp only [mLen]; omega) (fun S hM => ?_) | refine XQ.mp hM rfl rfl (fun S hM => ?_))
theorem M_ls_o (hB : BW M) : ∀ (j o : Nat) (S : MS) (x2 x3 : Option MV), ((o + j : Nat) : Int) = M 13 0 → MO m S0 S (lp aLsS o M) → XQ (d + 2) k_M_loosen 2 [some (.inr (some m)), some (.inl (o : Int)), x2, x3] [] S (fun r S' => r = none ∧ MO m S0 S' (aLoose M)) := by
  have hb := hB.1
  intro j
  induction j with
  | zero =>
    intro o S x2 x3 ho hM
    have e : aLoose M = lp aLsS o M := by unfold aLoose; rw [← ho]; rfl
    obtain ⟨-, hoff⟩ := aLoose_lp hB o (by omega)
    have e0 := hoff 13 0 rfl
    rw [e]
    repeat (first | refine XQ.go rfl rfl ?_ | refine XQ.zeq0 rfl ?_ | refine XQ.zeq1 rfl ?_ | refine XQ.zne0 rfl ?_ | refine XQ.zne1 rfl ?_ | refine XQ.mg hM rfl rfl ?_ | refine XQ.ml hM rfl rfl (by decide) (by omega) (by simp only [mLen]; omega) ?_ | refine XQ.add rfl ⟨by omega, by omega⟩ ?_ | refine XQ.sub rfl ⟨by omega, by omega⟩ ?_ | refine XQ.mul rfl ⟨by omega, by omega⟩ ?_ | refine XQ.inc rfl rfl rfl ⟨by omega, by omega⟩ ?_ | refine XQ.ms hM rfl rfl (by decide) (by omega) (by simp only [mLen]; omega) (fun S hM => ?_) | refine XQ.mp hM rfl rfl (fun S hM => ?_))
    refine XQ.cge rfl (fun q => ?_) (fun q => by omega)
    exact XQ.ret rfl rfl ⟨rfl, hM⟩
  | succ j ih =>
    intro o S x2 x3 ho hM
    obtain ⟨hBp, hoff⟩ := aLoose_lp hB o (by omega)
    have e0 := hoff 13 0 rfl
    have en : lp aLsS (o + 1) M = aLsT o (aLsW o (lp aLsS o M)) := rfl
    have ih2 := fun S x2 x3 hM => ih (o + 1) S x2 x3 (by omega) hM
    rw [en] at ih2
    generalize lp aLsS o M = N at hM hoff hBp e0 ih2 ⊢
    have hk := hBp.1
    have w0 := aLsW_off o N
    have hBw := hBp.offS w0 rfl rfl rfl
    have hmw := hBw.2.2.1 o (by omega) (by rw [w0 13 0 rfl]; omega)
    -- the second half, from 66 on
    have k66 : ∀ S x2 x3, MO m S0 S (aLsW o N) → XQ (d + 2) k_M_loosen 66 [some (.inr (some m)), some (.inl (o : Int)), x2, x3] [] S (fun r S' => r = none ∧ MO m S0 S' (aLoose M)) := by
      intro S x2 x3 hM
      have w13 := w0 13 0 rfl
      generalize aLsW o N = N1 at hM ih2 hBw hmw w13
      repeat (first | refine XQ.go rfl rfl ?_ | refine XQ.zeq0 rfl ?_ | refine XQ.zeq1 rfl ?_ | refine XQ.zne0 rfl ?_ | refine XQ.zne1 rfl ?_ | refine XQ.mg hM rfl rfl ?_ | refine XQ.ml hM rfl rfl (by decide) (by omega) (by simp only [mLen]; omega) ?_ | refine XQ.add rfl ⟨by omega, by omega⟩ ?_ | refine XQ.sub rfl ⟨by omega, by omega⟩ ?_ | refine XQ.mul rfl ⟨by omega, by omega⟩ ?_ | refine XQ.inc rfl rfl rfl ⟨by omega, by omega⟩ ?_ | refine XQ.ms hM rfl rfl (by decide) (by omega) (by simp only [mLen]; omega) (fun S hM => ?_) | refine XQ.mp hM rfl rfl (fun S hM => ?_))
      refine XQ.cne rfl (fun q => ?_) (fun q => ?_)
      · have e1 : aLsT o N1 = N1 := by unfold aLsT; rw [if_neg q]
        rw [e1] at ih2
        have ih3 := ih2 S x2 x3 hM
        repeat (first | exact ih3 | refine XQ.go rfl rfl ?_ | refine XQ.zeq0 rfl ?_ | refine XQ.zeq1 rfl ?_ | refine XQ.zne0 rfl ?_ | refine XQ.zne1 rfl ?_ | refine XQ.mg hM rfl rfl ?_ | refine XQ.ml hM rfl rfl (by decide) (by omega) (by simp only [mLen]; omega) ?_ | refine XQ.add rfl ⟨by omega, by omega⟩ ?_ | refine XQ.sub rfl ⟨by omega, by omega⟩ ?_ | refine XQ.mul rfl ⟨by omega, by omega⟩ ?_ | refine XQ.inc rfl rfl rfl ⟨by omega, by omega⟩ ?_ | refine XQ.ms hM rfl rfl (by decide) (by omega) (by simp only [mLen]; omega) (fun S hM => ?_) | refine XQ.mp hM rfl rfl (fun S hM => ?_))
      · have e1 : aLsT o N1 = u2 (lp (aLsE o) (N1 4 (o : Int)).toNat (0, N1)).2 4 (o : Int) (lp (aLsE o) (N1 4 (o : Int)).toNat (0, N1)).1 := by unfold aLsT; rw [if_pos q]
        rw [e1] at ih2
        have hi := M_ls_i (d := d) (m := m) (S0 := S0) (Q := fun r S' => r = none ∧ MO m S0 S' (aLoose M)) (o := o) hBw (by omega) (fun S x3 hM => by
          repeat (first | refine XQ.go rfl rfl ?_ | refine XQ.mg hM rfl rfl ?_)
          refine XQ.ms hM rfl rfl (by decide) (by omega) (by simp only [mLen]; omega) (fun S hM => ?_)
          have ih3 := ih2 S (some (.inl (lp (aLsE o) (N1 4 (o : Int)).toNat (0, N1)).1)) x3 hM
          refine XQ.inc rfl rfl rfl ⟨by omega, by omega⟩ ?_
          refine XQ.go rfl rfl ?_
          exact ih3) (N1 4 (o : Int)).toNat 0 S (by omega) hM
        repeat (first | exact hi | refine XQ.go rfl rfl ?_ | refine XQ.zeq0 rfl ?_ | refine XQ.zeq1 rfl ?_ | refine XQ.zne0 rfl ?_ | refine XQ.zne1 rfl ?_ | refine XQ.mg hM rfl rfl ?_ | refine XQ.ml hM rfl rfl (by decide) (by omega) (by simp only [mLen]; omega) ?_ | refine XQ.add rfl ⟨by omega, by omega⟩ ?_ | refine XQ.sub rfl ⟨by omega, by omega⟩ ?_ | refine XQ.mul rfl ⟨by omega, by omega⟩ ?_ | refine XQ.inc rfl rfl rfl ⟨by omega, by omega⟩ ?_ | refine XQ.ms hM rfl rfl (by decide) (by omega) (by simp only [mLen]; omega) (fun S hM => ?_) | refine XQ.mp hM rfl rfl (fun S hM => ?_))
    repeat (first | refine XQ.go rfl rfl ?_ | refine XQ.zeq0 rfl ?_ | refine XQ.zeq1 rfl ?_ | refine XQ.zne0 rfl ?_ | refine XQ.zne1 rfl ?_ | refine XQ.mg hM rfl rfl ?_ | refine XQ.ml hM rfl rfl (by decide) (by omega) (by simp only [mLen]; omega) ?_ | refine XQ.add rfl ⟨by omega, by omega⟩ ?_ | refine XQ.sub rfl ⟨by omega, by omega⟩ ?_ | refine XQ.mul rfl ⟨by omega, by omega⟩ ?_ | refine XQ.inc rfl rfl rfl ⟨by omega, by omega⟩ ?_ | refine XQ.ms hM rfl rfl (by decide) (by omega) (by simp only [mLen]; omega) (fun S hM => ?_) | refine XQ.mp hM rfl rfl (fun S hM => ?_))
    refine XQ.cge rfl (fun q => by omega) (fun q => ?_)
    repeat (first | refine XQ.go rfl rfl ?_ | refine XQ.zeq0 rfl ?_ | refine XQ.zeq1 rfl ?_ | refine XQ.zne0 rfl ?_ | refine XQ.zne1 rfl ?_ | refine XQ.mg hM rfl rfl ?_ | refine XQ.ml hM rfl rfl (by decide) (by omega) (by simp only [mLen]; omega) ?_ | refine XQ.add rfl ⟨by omega, by omega⟩ ?_ | refine XQ.sub rfl ⟨by omega, by omega⟩ ?_ | refine XQ.mul rfl ⟨by omega, by omega⟩ ?_ | refine XQ.inc rfl rfl rfl ⟨by omega, by omega⟩ ?_ | refine XQ.ms hM rfl rfl (by decide) (by omega) (by simp only [mLen]; omega) (fun S hM => ?_) | refine XQ.mp hM rfl rfl (fun S hM => ?_))
    refine XQ.cne rfl (fun q1 => ?_) (fun q1 => ?_)
    · have e1 : aLsW o N = N := by unfold aLsW; rw [if_neg (fun z => q1 z.1)]
      rw [e1] at k66
      exact k66 _ _ _ hM
    · repeat (first | refine XQ.go rfl rfl ?_ | refine XQ.zeq0 rfl ?_ | refine XQ.zeq1 rfl ?_ | refine XQ.zne0 rfl ?_ | refine XQ.zne1 rfl ?_ | refine XQ.mg hM rfl rfl ?_ | refine XQ.ml hM rfl rfl (by decide) (by omega) (by simp only [mLen]; omega) ?_ | refine XQ.add rfl ⟨by omega, by omega⟩ ?_ | refine XQ.sub rfl ⟨by omega, by omega⟩ ?_ | refine XQ.mul rfl ⟨by omega, by omega⟩ ?_ | refine XQ.inc rfl rfl rfl ⟨by omega, by omega⟩ ?_ | refine XQ.ms hM rfl rfl (by decide) (by omega) (by simp only [mLen]; omega) (fun S hM => ?_) | refine XQ.mp hM rfl rfl (fun S hM => ?_))
      refine XQ.cne rfl (fun q2 => ?_) (fun q2 => ?_)
      · have e1 : aLsW o N = N := by unfold aLsW; rw [if_neg (fun z => q2 z.2.1)]
        rw [e1] at k66
        exact k66 _ _ _ hM
      · repeat (first | refine XQ.go rfl rfl ?_ | refine XQ.zeq0 rfl ?_ | refine XQ.zeq1 rfl ?_ | refine XQ.zne0 rfl ?_ | refine XQ.zne1 rfl ?_ | refine XQ.mg hM rfl rfl ?_ | refine XQ.ml hM rfl rfl (by decide) (by omega) (by simp only [mLen]; omega) ?_ | refine XQ.add rfl ⟨by omega, by omega⟩ ?_ | refine XQ.sub rfl ⟨by omega, by omega⟩ ?_ | refine XQ.mul rfl ⟨by omega, by omega⟩ ?_ | refine XQ.inc rfl rfl rfl ⟨by omega, by omega⟩ ?_ | refine XQ.ms hM rfl rfl (by decide) (by omega) (by simp only [mLen]; omega) (fun S hM => ?_) | refine XQ.mp hM rfl rfl (fun S hM => ?_))
        refine XQ.v2 rfl hM.1.1 rfl (le8 rfl) (M_isMarked hM hBp.1) (fun r S' hq => ?_)
        obtain ⟨rfl, rfl⟩ := hq
        refine XQ.zne rfl (fun q3 => ?_) (fun q3 => ?_)
        · have e1 : aLsW o N = N := by unfold aLsW; rw [if_neg (fun z => by rw [bI_1 q3] at z; cases z.2.2)]
          rw [e1] at k66
          exact k66 _ _ _ hM
        · have e1 : aLsW o N = u2 (u2 N 5 (4 * (o : Int)) 0) 6 (4 * (o : Int)) 0 := by unfold aLsW; rw [if_pos ⟨q1, q2, bI_0 q3⟩]
          rw [e1] at k66
          repeat (first | exact k66 _ _ _ hM | refine XQ.go rfl rfl ?_ | refine XQ.zeq0 rfl ?_ | refine XQ.zeq1 rfl ?_ | refine XQ.zne0 rfl ?_ | refine XQ.zne1 rfl ?_ | refine XQ.mg hM rfl rfl ?_ | refine XQ.ml hM rfl rfl (by decide) (by omega) (by simp only [mLen]; omega) ?_ | refine XQ.add rfl ⟨by omega, by omega⟩ ?_ | refine XQ.sub rfl ⟨by omega, by omega⟩ ?_ | refine XQ.mul rfl ⟨by omega, by omega⟩ ?_ | refine XQ.inc rfl rfl rfl ⟨by omega, by omega⟩ ?_ | refine XQ.ms hM rfl rfl (by decide) (by omega) (by simp only [mLen]; omega) (fun S hM => ?_) | refine XQ.mp hM rfl rfl (fun S hM => ?_))
theorem M_loosen (hM : MO m S0 S M) (hB : BW M) : XQ (d + 2) k_M_loosen 0 (mentry (mL k_M_loosen) [.inr (some m)]) [] S (fun r S' => r = none ∧ MO m S0 S' (aLoose M)) := by
  have h0 := M_ls_o (d := d) (m := m) (S0 := S0) hB (M 13 0).toNat 0 S none none (by have := hB.1; omega) hM
  repeat (first | exact h0 | refine XQ.go rfl rfl ?_ | refine XQ.zeq0 rfl ?_ | refine XQ.zeq1 rfl ?_ | refine XQ.zne0 rfl ?_ | refine XQ.zne1 rfl ?_ | refine XQ.mg hM rfl rfl ?_ | refine XQ.ml hM rfl rfl (by decide) (by omega) (by simp only [mLen]; omega) ?_ | refine XQ.add rfl ⟨by omega, by omega⟩ ?_ | refine XQ.sub rfl ⟨by omega, by omega⟩ ?_ | refine XQ.mul rfl ⟨by omega, by omega⟩ ?_ | refine XQ.inc rfl rfl rfl ⟨by omega, by omega⟩ ?_ | refine XQ.ms hM rfl rfl (by decide) (by omega) (by simp only [mLen]; omega) (fun S hM => ?_) | refine XQ.mp hM rfl rfl (fun S hM => ?_))
theorem M_cw_l (hB : BW M) : ∀ (j k : Nat) (S : MS), ((k + j : Nat) : Int) = M 13 2 → MO m S0 S (lp aCwK k (0, M)).2 → XQ (d + 2) k_M_callWaiting 4 [some (.inr (some m)), some (.inl (lp aCwK k (0, M)).1), some (.inl (k : Int))] [] S (fun r S' => r = none ∧ MO m S0 S' (aCallW M)) := by
  have hb := hB.1
  have hb2 := hB.2.1
  intro j
  induction j with
  | zero =>
    intro k S hk hM
    have e : aCallW M = u2 (lp aCwK k (0, M)).2 13 2 (lp aCwK k (0, M)).1 := by unfold aCallW; rw [← hk]; rfl
    obtain ⟨g1, g2, g3, g4, g5⟩ := aCwK_lp (M := M) k
    have e2 := g4 2 (by decide)
    rw [e]
    repeat (first | refine XQ.go rfl rfl ?_ | refine XQ.mg hM rfl rfl ?_)
    refine XQ.cge rfl (fun q => ?_) (fun q => by omega)
    repeat (first | refine XQ.go rfl rfl ?_ | refine XQ.zeq0 rfl ?_ | refine XQ.zeq1 rfl ?_ | refine XQ.zne0 rfl ?_ | refine XQ.zne1 rfl ?_ | refine XQ.mg hM rfl rfl ?_ | refine XQ.ml hM rfl rfl (by decide) (by omega) (by simp only [mLen]; omega) ?_ | refine XQ.add rfl ⟨by omega, by omega⟩ ?_ | refine XQ.sub rfl ⟨by omega, by omega⟩ ?_ | refine XQ.mul rfl ⟨by omega, by omega⟩ ?_ | refine XQ.inc rfl rfl rfl ⟨by omega, by omega⟩ ?_ | refine XQ.ms hM rfl rfl (by decide) (by omega) (by simp only [mLen]; omega) (fun S hM => ?_) | refine XQ.mp hM rfl rfl (fun S hM => ?_))
    exact XQ.ret rfl rfl ⟨rfl, hM⟩
  | succ j ih =>
    intro k S hk hM
    obtain ⟨g1, g2, g3, g4, g5⟩ := aCwK_lp (M := M) k
    have e2 := g4 2 (by decide)
    have e0 := g4 0 (by decide)
    have en : lp aCwK (k + 1) (0, M) = aCwK k (lp aCwK k (0, M)) := rfl
    have ih2 := fun S hM => ih (k + 1) S (by omega) hM
    rw [en] at ih2
    generalize lp aCwK k (0, M) = p at hM g1 g2 g3 g5 e2 e0 ih2 ⊢
    have hN : BN p.2 := by unfold BN; omega
    repeat (first | refine XQ.go rfl rfl ?_ | refine XQ.zeq0 rfl ?_ | refine XQ.zeq1 rfl ?_ | refine XQ.zne0 rfl ?_ | refine XQ.zne1 rfl ?_ | refine XQ.mg hM rfl rfl ?_ | refine XQ.ml hM rfl rfl (by decide) (by omega) (by simp only [mLen]; omega) ?_ | refine XQ.add rfl ⟨by omega, by omega⟩ ?_ | refine XQ.sub rfl ⟨by omega, by omega⟩ ?_ | refine XQ.mul rfl ⟨by omega, by omega⟩ ?_ | refine XQ.inc rfl rfl rfl ⟨by omega, by omega⟩ ?_ | refine XQ.ms hM rfl rfl (by decide) (by omega) (by simp only [mLen]; omega) (fun S hM => ?_) | refine XQ.mp hM rfl rfl (fun S hM => ?_))
    refine XQ.cge rfl (fun q => by omega) (fun q => ?_)
    repeat (first | refine XQ.go rfl rfl ?_ | refine XQ.zeq0 rfl ?_ | refine XQ.zeq1 rfl ?_ | refine XQ.zne0 rfl ?_ | refine XQ.zne1 rfl ?_ | refine XQ.mg hM rfl rfl ?_ | refine XQ.ml hM rfl rfl (by decide) (by omega) (by simp only [mLen]; omega) ?_ | refine XQ.add rfl ⟨by omega, by omega⟩ ?_ | refine XQ.sub rfl ⟨by omega, by omega⟩ ?_ | refine XQ.mul rfl ⟨by omega, by omega⟩ ?_ | refine XQ.inc rfl rfl rfl ⟨by omega, by omega⟩ ?_ | refine XQ.ms hM rfl rfl (by decide) (by omega) (by simp only [mLen]; omega) (fun S hM => ?_) | refine XQ.mp hM rfl rfl (fun S hM => ?_))
    refine XQ.v2 rfl hM.1.1 rfl (le8 rfl) (M_isMarked hM hN) (fun r S' hq => ?_)
    obtain ⟨rfl, rfl⟩ := hq
    refine XQ.zeq rfl (fun q1 => ?_) (fun q1 => ?_)
    · have e1 : aCwK k p = (p.1, u2 (u2 (u2 p.2 11 (p.2 13 3) (p.2 9 (k : Int))) 12 (p.2 13 3) (p.2 10 (k : Int))) 13 3 (p.2 13 3 + 1)) := by unfold aCwK; rw [if_neg (by rw [bI_0 q1]; decide)]
      rw [e1] at ih2
      repeat (first | refine XQ.go rfl rfl ?_ | refine XQ.mg hM rfl rfl ?_)
      refine XQ.ml hM rfl rfl (by decide) (by omega) (by simp only [mLen]; omega) ?_
      refine XQ.ms hM rfl rfl (by decide) (by omega) (by simp only [mLen]; omega) (fun S hM => ?_)
      have u3 : u2 p.2 11 (p.2 13 3) (p.2 9 (k : Int)) 13 3 = p.2 13 3 := rfl
      repeat (first | refine XQ.go rfl rfl ?_ | refine XQ.mg hM rfl rfl ?_)
      refine XQ.ml hM rfl rfl (by decide) (by omega) (by simp only [mLen]; omega) ?_
      refine XQ.ms hM rfl rfl (by decide) (by omega) (by simp only [mLen]; omega) (fun S hM => ?_)
      have u4 : u2 (u2 p.2 11 (p.2 13 3) (p.2 9 (k : Int))) 12 (p.2 13 3) (p.2 10 (k : Int)) 13 3 = p.2 13 3 := rfl
      repeat (first | refine XQ.go rfl rfl ?_ | refine XQ.mg hM rfl rfl ?_)
      refine XQ.add rfl (show inR (p.2 13 3 + 1) from ⟨by omega, by omega⟩) ?_
      refine XQ.mp hM rfl rfl (fun S hM => ?_)
      have ih3 := ih2 S hM
      repeat (first | exact ih3 | refine XQ.go rfl rfl ?_ | refine XQ.zeq0 rfl ?_ | refine XQ.zeq1 rfl ?_ | refine XQ.zne0 rfl ?_ | refine XQ.zne1 rfl ?_ | refine XQ.mg hM rfl rfl ?_ | refine XQ.ml hM rfl rfl (by decide) (by omega) (by simp only [mLen]; omega) ?_ | refine XQ.add rfl ⟨by omega, by omega⟩ ?_ | refine XQ.sub rfl ⟨by omega, by omega⟩ ?_ | refine XQ.mul rfl ⟨by omega, by omega⟩ ?_ | refine XQ.inc rfl rfl rfl ⟨by omega, by omega⟩ ?_ | refine XQ.ms hM rfl rfl (by decide) (by omega) (by simp only [mLen]; omega) (fun S hM => ?_) | refine XQ.mp hM rfl rfl (fun S hM => ?_))
    · have e1 : aCwK k p = (p.1 + 1, u2 (u2 p.2 9 p.1 (p.2 9 (k : Int))) 10 p.1 (p.2 10 (k : Int))) := by unfold aCwK; rw [if_pos (bI_1 q1)]
      rw [e1] at ih2
      repeat (first | exact ih2 _ hM | refine XQ.go rfl rfl ?_ | refine XQ.zeq0 rfl ?_ | refine XQ.zeq1 rfl ?_ | refine XQ.zne0 rfl ?_ | refine XQ.zne1 rfl ?_ | refine XQ.mg hM rfl rfl ?_ | refine XQ.ml hM rfl rfl (by decide) (by omega) (by simp only [mLen]; omega) ?_ | refine XQ.add rfl ⟨by omega, by omega⟩ ?_ | refine XQ.sub rfl ⟨by omega, by omega⟩ ?_ | refine XQ.mul rfl ⟨by omega, by omega⟩ ?_ | refine XQ.inc rfl rfl rfl ⟨by omega, by omega⟩ ?_ | refine XQ.ms hM rfl rfl (by decide) (by omega) (by simp only [mLen]; omega) (fun S hM => ?_) | refine XQ.mp hM rfl rfl (fun S hM => ?_))
theorem M_callWaiting (hM : MO m S0 S M) (hB : BW M) : XQ (d + 2) k_M_callWaiting 0 (mentry (mL k_M_callWaiting) [.inr (some m)]) [] S (fun r S' => r = none ∧ MO m S0 S' (aCallW M)) := by
  have h0 := M_cw_l (d := d) (m := m) (S0 := S0) hB (M 13 2).toNat 0 S (by have := hB.2.1; omega) hM
  repeat (first | exact h0 | refine XQ.go rfl rfl ?_ | refine XQ.zeq0 rfl ?_ | refine XQ.zeq1 rfl ?_ | refine XQ.zne0 rfl ?_ | refine XQ.zne1 rfl ?_ | refine XQ.mg hM rfl rfl ?_ | refine XQ.ml hM rfl rfl (by decide) (by omega) (by simp only [mLen]; omega) ?_ | refine XQ.add rfl ⟨by omega, by omega⟩ ?_ | refine XQ.sub rfl ⟨by omega, by omega⟩ ?_ | refine XQ.mul rfl ⟨by omega, by omega⟩ ?_ | refine XQ.inc rfl rfl rfl ⟨by omega, by omega⟩ ?_ | refine XQ.ms hM rfl rfl (by decide) (by omega) (by simp only [mLen]; omega) (fun S hM => ?_) | refine XQ.mp hM rfl rfl (fun S hM => ?_))
theorem M_sw_i {o : Nat} {l : Int} (ho : (o : Int) < 20) (hl0 : 0 ≤ l) (hl1 : l ≤ (o : Int))
    (K : ∀ (S : MS) (x3 : Option MV), MO m S0 S (lp (aSwF o l) 4 M) → XQ d k_M_sweep 130 [some (.inr (some m)), some (.inl l), some (.inl (o : Int)), x3] [] S Q) :
    ∀ (j f : Nat) (S : MS), f + j = 4 → MO m S0 S (lp (aSwF o l) f M) → XQ d k_M_sweep 59 [some (.inr (some m)), some (.inl l), some (.inl (o : Int)), some (.inl (f : Int))] [] S Q := by
  intro j
  induction j with
  | zero =>
    intro f S hf hM
    have ef : f = 4 := by omega
    subst ef
    have K2 := K S (some (.inl ((4 : Nat) : Int))) hM
    repeat (first | refine XQ.go rfl rfl ?_ | refine XQ.zeq0 rfl ?_ | refine XQ.zeq1 rfl ?_ | refine XQ.zne0 rfl ?_ | refine XQ.zne1 rfl ?_ | refine XQ.mg hM rfl rfl ?_ | refine XQ.ml hM rfl rfl (by decide) (by omega) (by simp only [mLen]; omega) ?_ | refine XQ.add rfl ⟨by omega, by omega⟩ ?_ | refine XQ.sub rfl ⟨by omega, by omega⟩ ?_ | refine XQ.mul rfl ⟨by omega, by omega⟩ ?_ | refine XQ.inc rfl rfl rfl ⟨by omega, by omega⟩ ?_ | refine XQ.ms hM rfl rfl (by decide) (by omega) (by simp only [mLen]; omega) (fun S hM => ?_) | refine XQ.mp hM rfl rfl (fun S hM => ?_))
    refine XQ.cge rfl (fun q => ?_) (fun q => by omega)
    exact K2
  | succ j ih =>
    intro f S hf hM
    have en : lp (aSwF o l) (f + 1) M = aSwF o l f (lp (aSwF o l) f M) := rfl
    have ih2 := fun S hM => ih (f + 1) S (by omega) hM
    rw [en] at ih2
    generalize lp (aSwF o l) f M = N at hM ih2
    repeat (first | refine XQ.go rfl rfl ?_ | refine XQ.zeq0 rfl ?_ | refine XQ.zeq1 rfl ?_ | refine XQ.zne0 rfl ?_ | refine XQ.zne1 rfl ?_ | refine XQ.mg hM rfl rfl ?_ | refine XQ.ml hM rfl rfl (by decide) (by omega) (by simp only [mLen]; omega) ?_ | refine XQ.add rfl ⟨by omega, by omega⟩ ?_ | refine XQ.sub rfl ⟨by omega, by omega⟩ ?_ | refine XQ.mul rfl ⟨by omega, by omega⟩ ?_ | refine XQ.inc rfl rfl rfl ⟨by omega, by omega⟩ ?_ | refine XQ.ms hM rfl rfl (by decide) (by omega) (by simp only [mLen]; omega) (fun S hM => ?_) | refine XQ.mp hM rfl rfl (fun S hM => ?_))
    refine XQ.cge rfl (fun q => by omega) (fun q => ?_)
    repeat (first | exact ih2 _ hM | refine XQ.go rfl rfl ?_ | refine XQ.zeq0 rfl ?_ | refine XQ.zeq1 rfl ?_ | refine XQ.zne0 rfl ?_ | refine XQ.zne1 rfl ?_ | refine XQ.mg hM rfl rfl ?_ | refine XQ.ml hM rfl rfl (by decide) (by omega) (by simp only [mLen]; omega) ?_ | refine XQ.add rfl ⟨by omega, by omega⟩ ?_ | refine XQ.sub rfl ⟨by omega, by omega⟩ ?_ | refine XQ.mul rfl ⟨by omega, by omega⟩ ?_ | refine XQ.inc rfl rfl rfl ⟨by omega, by omega⟩ ?_ | refine XQ.ms hM rfl rfl (by decide) (by omega) (by simp only [mLen]; omega) (fun S hM => ?_) | refine XQ.mp hM rfl rfl (fun S hM => ?_))
theorem M_sw_o (hB : BW M) : ∀ (j o : Nat) (S : MS) (x3 : Option MV), ((o + j : Nat) : Int) = M 13 0 → MO m S0 S (lp aSwO o (0, M)).2 → XQ d k_M_sweep 4 [some (.inr (some m)), some (.inl (lp aSwO o (0, M)).1), some (.inl (o : Int)), x3] [] S (fun r S' => r = some (.inl (aSweep M).1) ∧ MO m S0 S' (aSweep M).2) := by
  have hb := hB.1
  intro j
  induction j with
  | zero =>
    intro o S x3 ho hM
    have e : aSweep M = (M 13 0 - (lp aSwO o (0, M)).1, u2 (lp aSwO o (0, M)).2 13 0 (lp aSwO o (0, M)).1) := by unfold aSweep; rw [show (M 13 0).toNat = o by omega]
    obtain ⟨g1, g2, g3, -, -⟩ := aSwO_lp (M := M) o
    have e0 := g1 13 0 rfl
    rw [e, ← e0]
    repeat (first | refine XQ.go rfl rfl ?_ | refine XQ.mg hM rfl rfl ?_)
    refine XQ.cge rfl (fun q => ?_) (fun q => by omega)
    repeat (first | refine XQ.go rfl rfl ?_ | refine XQ.zeq0 rfl ?_ | refine XQ.zeq1 rfl ?_ | refine XQ.zne0 rfl ?_ | refine XQ.zne1 rfl ?_ | refine XQ.mg hM rfl rfl ?_ | refine XQ.ml hM rfl rfl (by decide) (by omega) (by simp only [mLen]; omega) ?_ | refine XQ.add rfl ⟨by omega, by omega⟩ ?_ | refine XQ.sub rfl ⟨by omega, by omega⟩ ?_ | refine XQ.mul rfl ⟨by omega, by omega⟩ ?_ | refine XQ.inc rfl rfl rfl ⟨by omega, by omega⟩ ?_ | refine XQ.ms hM rfl rfl (by decide) (by omega) (by simp only [mLen]; omega) (fun S hM => ?_) | refine XQ.mp hM rfl rfl (fun S hM => ?_))
    exact XQ.ret rfl rfl ⟨rfl, hM⟩
  | succ j ih =>
    intro o S x3 ho hM
    obtain ⟨g1, g2, g3, -, -⟩ := aSwO_lp (M := M) o
    have e0 := g1 13 0 rfl
    have en : lp aSwO (o + 1) (0, M) = aSwO o (lp aSwO o (0, M)) := rfl
    have ih2 := fun S x3 hM => ih (o + 1) S x3 (by omega) hM
    rw [en] at ih2
    generalize lp aSwO o (0, M) = p at hM g1 g2 g3 e0 ih2 ⊢
    repeat (first | refine XQ.go rfl rfl ?_ | refine XQ.zeq0 rfl ?_ | refine XQ.zeq1 rfl ?_ | refine XQ.zne0 rfl ?_ | refine XQ.zne1 rfl ?_ | refine XQ.mg hM rfl rfl ?_ | refine XQ.ml hM rfl rfl (by decide) (by omega) (by simp only [mLen]; omega) ?_ | refine XQ.add rfl ⟨by omega, by omega⟩ ?_ | refine XQ.sub rfl ⟨by omega, by omega⟩ ?_ | refine XQ.mul rfl ⟨by omega, by omega⟩ ?_ | refine XQ.inc rfl rfl rfl ⟨by omega, by omega⟩ ?_ | refine XQ.ms hM rfl rfl (by decide) (by omega) (by simp only [mLen]; omega) (fun S hM => ?_) | refine XQ.mp hM rfl rfl (fun S hM => ?_))
    refine XQ.cge rfl (fun q => by omega) (fun q => ?_)
    repeat (first | refine XQ.go rfl rfl ?_ | refine XQ.zeq0 rfl ?_ | refine XQ.zeq1 rfl ?_ | refine XQ.zne0 rfl ?_ | refine XQ.zne1 rfl ?_ | refine XQ.mg hM rfl rfl ?_ | refine XQ.ml hM rfl rfl (by decide) (by omega) (by simp only [mLen]; omega) ?_ | refine XQ.add rfl ⟨by omega, by omega⟩ ?_ | refine XQ.sub rfl ⟨by omega, by omega⟩ ?_ | refine XQ.mul rfl ⟨by omega, by omega⟩ ?_ | refine XQ.inc rfl rfl rfl ⟨by omega, by omega⟩ ?_ | refine XQ.ms hM rfl rfl (by decide) (by omega) (by simp only [mLen]; omega) (fun S hM => ?_) | refine XQ.mp hM rfl rfl (fun S hM => ?_))
    refine XQ.zeq rfl (fun q1 => ?_) (fun q1 => ?_)
    · have e1 : aSwO o p = p := by unfold aSwO; rw [if_neg (fun z => z q1)]
      rw [e1] at ih2
      have ih3 := ih2 S x3 hM
      repeat (first | exact ih3 | refine XQ.go rfl rfl ?_ | refine XQ.zeq0 rfl ?_ | refine XQ.zeq1 rfl ?_ | refine XQ.zne0 rfl ?_ | refine XQ.zne1 rfl ?_ | refine XQ.mg hM rfl rfl ?_ | refine XQ.ml hM rfl rfl (by decide) (by omega) (by simp only [mLen]; omega) ?_ | refine XQ.add rfl ⟨by omega, by omega⟩ ?_ | refine XQ.sub rfl ⟨by omega, by omega⟩ ?_ | refine XQ.mul rfl ⟨by omega, by omega⟩ ?_ | refine XQ.inc rfl rfl rfl ⟨by omega, by omega⟩ ?_ | refine XQ.ms hM rfl rfl (by decide) (by omega) (by simp only [mLen]; omega) (fun S hM => ?_) | refine XQ.mp hM rfl rfl (fun S hM => ?_))
    · have e1 : aSwO o p = (p.1 + 1, lp (aSwF o p.1) 4 (u2 (u2 (u2 p.2 2 p.1 (p.2 2 (o : Int))) 3 p.1 (p.2 3 (o : Int))) 4 p.1 (p.2 4 (o : Int)))) := by unfold aSwO; rw [if_pos q1]
      rw [e1] at ih2
      have hi := fun S hM => M_sw_i (d := d) (m := m) (S0 := S0) (M := u2 (u2 (u2 p.2 2 p.1 (p.2 2 (o : Int))) 3 p.1 (p.2 3 (o : Int))) 4 p.1 (p.2 4 (o : Int))) (Q := fun r S' => r = some (.inl (aSweep M).1) ∧ MO m S0 S' (aSweep M).2) (o := o) (l := p.1) (by omega) g2 g3 (fun S x3 hM => by
        have ih3 := ih2 S x3 hM
        refine XQ.inc rfl rfl rfl ⟨by omega, by omega⟩ ?_
        refine XQ.inc rfl rfl rfl ⟨by omega, by omega⟩ ?_
        refine XQ.go rfl rfl ?_
        exact ih3) 4 0 S rfl hM
      repeat (first | exact hi _ hM | refine XQ.go rfl rfl ?_ | refine XQ.zeq0 rfl ?_ | refine XQ.zeq1 rfl ?_ | refine XQ.zne0 rfl ?_ | refine XQ.zne1 rfl ?_ | refine XQ.mg hM rfl rfl ?_ | refine XQ.ml hM rfl rfl (by decide) (by omega) (by simp only [mLen]; omega) ?_ | refine XQ.add rfl ⟨by omega, by omega⟩ ?_ | refine XQ.sub rfl ⟨by omega, by omega⟩ ?_ | refine XQ.mul rfl ⟨by omega, by omega⟩ ?_ | refine XQ.inc rfl rfl rfl ⟨by omega, by omega⟩ ?_ | refine XQ.ms hM rfl rfl (by decide) (by omega) (by simp only [mLen]; omega) (fun S hM => ?_) | refine XQ.mp hM rfl rfl (fun S hM => ?_))
theorem M_sweep (hM : MO m S0 S M) (hB : BW M) : XQ d k_M_sweep 0 (mentry (mL k_M_sweep) [.inr (some m)]) [] S (fun r S' => r = some (.inl (aSweep M).1) ∧ MO m S0 S' (aSweep M).2) := by
  have h0 := M_sw_o (d := d) (m := m) (S0 := S0) hB (M 13 0).toNat 0 S none (by have := hB.1; omega) hM
  repeat (first | exact h0 | refine XQ.go rfl rfl ?_ | refine XQ.zeq0 rfl ?_ | refine XQ.zeq1 rfl ?_ | refine XQ.zne0 rfl ?_ | refine XQ.zne1 rfl ?_ | refine XQ.mg hM rfl rfl ?_ | refine XQ.ml hM rfl rfl (by decide) (by omega) (by simp only [mLen]; omega) ?_ | refine XQ.add rfl ⟨by omega, by omega⟩ ?_ | refine XQ.sub rfl ⟨by omega, by omega⟩ ?_ | refine XQ.mul rfl ⟨by omega, by omega⟩ ?_ | refine XQ.inc rfl rfl rfl ⟨by omega, by omega⟩ ?_ | refine XQ.ms hM rfl rfl (by decide) (by omega) (by simp only [mLen]; omega) (fun S hM => ?_) | refine XQ.mp hM rfl rfl (fun S hM => ?_))
end M4
