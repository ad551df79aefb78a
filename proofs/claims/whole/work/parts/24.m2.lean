/-! the reference's methods, walked: marking -/
/-- nothing but marks differs -/
def offM (M M' : MM) : Prop := ∀ j i, j ≠ 8 → M' j i = M j i
theorem offM.rf {M : MM} : offM M M := fun _ _ _ => rfl
theorem offM.tr {M M1 M2 : MM} (h : offM M M1) (h2 : offM M1 M2) : offM M M2 := fun j i hj => (h2 j i hj).trans (h j i hj)
theorem offM.u {M M1 : MM} (h : offM M M1) (i v : Int) : offM M (u2 M1 8 i v) := fun j i' hj => (u2_n M1 v (Or.inl hj)).trans (h j i' hj)
theorem BW.off {M M' : MM} (h : BW M) (ho : offM M M') : BW M' := by
  obtain ⟨h1, h2, h3, h4⟩ := h
  unfold BW
  rw [ho 13 0 (by decide), ho 13 1 (by decide), ho 13 2 (by decide), ho 13 3 (by decide), ho 13 4 (by decide)]
  refine ⟨h1, h2, fun o a b => ?_, h4⟩
  rw [ho 4 o (by decide), ho 3 o (by decide)]
  exact h3 o a b
theorem aAdd_off (M : MM) (h : Int) : offM M (aAdd M h).2 := by
  unfold aAdd
  split
  · exact offM.rf
  · exact offM.rf.u _ _
theorem atR_off {M M' : MM} (ho : offM M M') (h : Int) : ∀ n, atR M' h n = atR M h n
  | 0 => rfl
  | n + 1 => by
    unfold atR
    rw [ho 2 _ (by decide), atR_off ho h n]
theorem aAt_off {M M' : MM} (ho : offM M M') (h : Int) : aAt M' h = aAt M h := by
  unfold aAt
  rw [ho 13 0 (by decide), atR_off ho]
theorem lp_off {f : Nat → MM → MM} {M : MM} (hf : ∀ i M, offM M (f i M)) (n : Nat) : offM M (lp f n M) := lp_inv (fun _ M' => offM M M') offM.rf n (fun i x _ hx => hx.tr (hf i x))
section M2
variable {d m : Nat} {S0 S : MS} {M : MM}
theorem M_isMarked {h : Int} (hM : MO m S0 S M) (hB : BN M) : XQ (d + 1) k_M_isMarked 0 (mentry (mL k_M_isMarked) [.inr (some m), .inl h]) [] S (fun r S' => S' = S ∧ r = some (.inl (bI (aIsM M h)))) := by
  have hb := hB
  unfold BN at hb
  have hi := aAt_in hB h
  repeat (first | refine XQ.go rfl rfl ?_ | refine XQ.zeq0 rfl ?_ | refine XQ.zeq1 rfl ?_ | refine XQ.zne0 rfl ?_ | refine XQ.zne1 rfl ?_ | refine XQ.mg hM rfl rfl ?_ | refine XQ.ml hM rfl rfl (by decide) (by omega) (by simp only [mLen]; omega) ?_ | refine XQ.add rfl ⟨by omega, by omega⟩ ?_ | refine XQ.sub rfl ⟨by omega, by omega⟩ ?_ | refine XQ.mul rfl ⟨by omega, by omega⟩ ?_ | refine XQ.inc rfl rfl rfl ⟨by omega, by omega⟩ ?_ | refine XQ.ms hM rfl rfl (by decide) (by omega) (by simp only [mLen]; omega) (fun S hM => ?_) | refine XQ.mp hM rfl rfl (fun S hM => ?_))
  refine XQ.v2 rfl hM.1.1 rfl (le8 rfl) (M_at hM hB) (fun r S' hq => ?_)
  obtain ⟨rfl, rfl⟩ := hq
  repeat (first | refine XQ.go rfl rfl ?_ | refine XQ.zeq0 rfl ?_ | refine XQ.zeq1 rfl ?_ | refine XQ.zne0 rfl ?_ | refine XQ.zne1 rfl ?_ | refine XQ.mg hM rfl rfl ?_ | refine XQ.ml hM rfl rfl (by decide) (by omega) (by simp only [mLen]; omega) ?_ | refine XQ.add rfl ⟨by omega, by omega⟩ ?_ | refine XQ.sub rfl ⟨by omega, by omega⟩ ?_ | refine XQ.mul rfl ⟨by omega, by omega⟩ ?_ | refine XQ.inc rfl rfl rfl ⟨by omega, by omega⟩ ?_ | refine XQ.ms hM rfl rfl (by decide) (by omega) (by simp only [mLen]; omega) (fun S hM => ?_) | refine XQ.mp hM rfl rfl (fun S hM => ?_))
  refine XQ.zlt rfl (fun q => ?_) (fun q => ?_)
  · have e : aIsM M h = false := by unfold aIsM; exact decide_eq_false (fun z => by omega)
    rw [e]
    repeat (first | refine XQ.go rfl rfl ?_ | refine XQ.zeq0 rfl ?_ | refine XQ.zeq1 rfl ?_ | refine XQ.zne0 rfl ?_ | refine XQ.zne1 rfl ?_ | refine XQ.mg hM rfl rfl ?_ | refine XQ.ml hM rfl rfl (by decide) (by omega) (by simp only [mLen]; omega) ?_ | refine XQ.add rfl ⟨by omega, by omega⟩ ?_ | refine XQ.sub rfl ⟨by omega, by omega⟩ ?_ | refine XQ.mul rfl ⟨by omega, by omega⟩ ?_ | refine XQ.inc rfl rfl rfl ⟨by omega, by omega⟩ ?_ | refine XQ.ms hM rfl rfl (by decide) (by omega) (by simp only [mLen]; omega) (fun S hM => ?_) | refine XQ.mp hM rfl rfl (fun S hM => ?_))
    exact XQ.ret rfl rfl ⟨rfl, rfl⟩
  · repeat (first | refine XQ.go rfl rfl ?_ | refine XQ.zeq0 rfl ?_ | refine XQ.zeq1 rfl ?_ | refine XQ.zne0 rfl ?_ | refine XQ.zne1 rfl ?_ | refine XQ.mg hM rfl rfl ?_ | refine XQ.ml hM rfl rfl (by decide) (by omega) (by simp only [mLen]; omega) ?_ | refine XQ.add rfl ⟨by omega, by omega⟩ ?_ | refine XQ.sub rfl ⟨by omega, by omega⟩ ?_ | refine XQ.mul rfl ⟨by omega, by omega⟩ ?_ | refine XQ.inc rfl rfl rfl ⟨by omega, by omega⟩ ?_ | refine XQ.ms hM rfl rfl (by decide) (by omega) (by simp only [mLen]; omega) (fun S hM => ?_) | refine XQ.mp hM rfl rfl (fun S hM => ?_))
    refine XQ.zeq rfl (fun q2 => ?_) (fun q2 => ?_)
    · have e : aIsM M h = false := by unfold aIsM; exact decide_eq_false (fun z => z.2 q2)
      rw [e]
      repeat (first | refine XQ.go rfl rfl ?_ | refine XQ.zeq0 rfl ?_ | refine XQ.zeq1 rfl ?_ | refine XQ.zne0 rfl ?_ | refine XQ.zne1 rfl ?_ | refine XQ.mg hM rfl rfl ?_ | refine XQ.ml hM rfl rfl (by decide) (by omega) (by simp only [mLen]; omega) ?_ | refine XQ.add rfl ⟨by omega, by omega⟩ ?_ | refine XQ.sub rfl ⟨by omega, by omega⟩ ?_ | refine XQ.mul rfl ⟨by omega, by omega⟩ ?_ | refine XQ.inc rfl rfl rfl ⟨by omega, by omega⟩ ?_ | refine XQ.ms hM rfl rfl (by decide) (by omega) (by simp only [mLen]; omega) (fun S hM => ?_) | refine XQ.mp hM rfl rfl (fun S hM => ?_))
      exact XQ.ret rfl rfl ⟨rfl, rfl⟩
    · have e : aIsM M h = true := by unfold aIsM; exact decide_eq_true ⟨q, q2⟩
      rw [e]
      repeat (first | refine XQ.go rfl rfl ?_ | refine XQ.zeq0 rfl ?_ | refine XQ.zeq1 rfl ?_ | refine XQ.zne0 rfl ?_ | refine XQ.zne1 rfl ?_ | refine XQ.mg hM rfl rfl ?_ | refine XQ.ml hM rfl rfl (by decide) (by omega) (by simp only [mLen]; omega) ?_ | refine XQ.add rfl ⟨by omega, by omega⟩ ?_ | refine XQ.sub rfl ⟨by omega, by omega⟩ ?_ | refine XQ.mul rfl ⟨by omega, by omega⟩ ?_ | refine XQ.inc rfl rfl rfl ⟨by omega, by omega⟩ ?_ | refine XQ.ms hM rfl rfl (by decide) (by omega) (by simp only [mLen]; omega) (fun S hM => ?_) | refine XQ.mp hM rfl rfl (fun S hM => ?_))
      exact XQ.ret rfl rfl ⟨rfl, rfl⟩
theorem M_add {h : Int} (hM : MO m S0 S M) (hB : BN M) : XQ (d + 1) k_M_add 0 (mentry (mL k_M_add) [.inr (some m), .inl h]) [] S (fun r S' => r = some (.inl (bI (aAdd M h).1)) ∧ MO m S0 S' (aAdd M h).2) := by
  have hb := hB
  unfold BN at hb
  have hi := aAt_in hB h
  repeat (first | refine XQ.go rfl rfl ?_ | refine XQ.zeq0 rfl ?_ | refine XQ.zeq1 rfl ?_ | refine XQ.zne0 rfl ?_ | refine XQ.zne1 rfl ?_ | refine XQ.mg hM rfl rfl ?_ | refine XQ.ml hM rfl rfl (by decide) (by omega) (by simp only [mLen]; omega) ?_ | refine XQ.add rfl ⟨by omega, by omega⟩ ?_ | refine XQ.sub rfl ⟨by omega, by omega⟩ ?_ | refine XQ.mul rfl ⟨by omega, by omega⟩ ?_ | refine XQ.inc rfl rfl rfl ⟨by omega, by omega⟩ ?_ | refine XQ.ms hM rfl rfl (by decide) (by omega) (by simp only [mLen]; omega) (fun S hM => ?_) | refine XQ.mp hM rfl rfl (fun S hM => ?_))
  refine XQ.v2 rfl hM.1.1 rfl (le8 rfl) (M_at hM hB) (fun r S' hq => ?_)
  obtain ⟨rfl, rfl⟩ := hq
  repeat (first | refine XQ.go rfl rfl ?_ | refine XQ.zeq0 rfl ?_ | refine XQ.zeq1 rfl ?_ | refine XQ.zne0 rfl ?_ | refine XQ.zne1 rfl ?_ | refine XQ.mg hM rfl rfl ?_ | refine XQ.ml hM rfl rfl (by decide) (by omega) (by simp only [mLen]; omega) ?_ | refine XQ.add rfl ⟨by omega, by omega⟩ ?_ | refine XQ.sub rfl ⟨by omega, by omega⟩ ?_ | refine XQ.mul rfl ⟨by omega, by omega⟩ ?_ | refine XQ.inc rfl rfl rfl ⟨by omega, by omega⟩ ?_ | refine XQ.ms hM rfl rfl (by decide) (by omega) (by simp only [mLen]; omega) (fun S hM => ?_) | refine XQ.mp hM rfl rfl (fun S hM => ?_))
  refine XQ.zlt rfl (fun q => ?_) (fun q => ?_)
  · have e : aAdd M h = (false, M) := by unfold aAdd; rw [if_pos (Or.inl q)]
    rw [e]
    repeat (first | refine XQ.go rfl rfl ?_ | refine XQ.zeq0 rfl ?_ | refine XQ.zeq1 rfl ?_ | refine XQ.zne0 rfl ?_ | refine XQ.zne1 rfl ?_ | refine XQ.mg hM rfl rfl ?_ | refine XQ.ml hM rfl rfl (by decide) (by omega) (by simp only [mLen]; omega) ?_ | refine XQ.add rfl ⟨by omega, by omega⟩ ?_ | refine XQ.sub rfl ⟨by omega, by omega⟩ ?_ | refine XQ.mul rfl ⟨by omega, by omega⟩ ?_ | refine XQ.inc rfl rfl rfl ⟨by omega, by omega⟩ ?_ | refine XQ.ms hM rfl rfl (by decide) (by omega) (by simp only [mLen]; omega) (fun S hM => ?_) | refine XQ.mp hM rfl rfl (fun S hM => ?_))
    exact XQ.ret rfl rfl ⟨rfl, hM⟩
  · repeat (first | refine XQ.go rfl rfl ?_ | refine XQ.zeq0 rfl ?_ | refine XQ.zeq1 rfl ?_ | refine XQ.zne0 rfl ?_ | refine XQ.zne1 rfl ?_ | refine XQ.mg hM rfl rfl ?_ | refine XQ.ml hM rfl rfl (by decide) (by omega) (by simp only [mLen]; omega) ?_ | refine XQ.add rfl ⟨by omega, by omega⟩ ?_ | refine XQ.sub rfl ⟨by omega, by omega⟩ ?_ | refine XQ.mul rfl ⟨by omega, by omega⟩ ?_ | refine XQ.inc rfl rfl rfl ⟨by omega, by omega⟩ ?_ | refine XQ.ms hM rfl rfl (by decide) (by omega) (by simp only [mLen]; omega) (fun S hM => ?_) | refine XQ.mp hM rfl rfl (fun S hM => ?_))
    refine XQ.zeq rfl (fun q2 => ?_) (fun q2 => ?_)
    · have e : aAdd M h = (true, u2 M 8 (aAt M h) 1) := by unfold aAdd; rw [if_neg (fun z => by omega)]
      rw [e]
      repeat (first | refine XQ.go rfl rfl ?_ | refine XQ.zeq0 rfl ?_ | refine XQ.zeq1 rfl ?_ | refine XQ.zne0 rfl ?_ | refine XQ.zne1 rfl ?_ | refine XQ.mg hM rfl rfl ?_ | refine XQ.ml hM rfl rfl (by decide) (by omega) (by simp only [mLen]; omega) ?_ | refine XQ.add rfl ⟨by omega, by omega⟩ ?_ | refine XQ.sub rfl ⟨by omega, by omega⟩ ?_ | refine XQ.mul rfl ⟨by omega, by omega⟩ ?_ | refine XQ.inc rfl rfl rfl ⟨by omega, by omega⟩ ?_ | refine XQ.ms hM rfl rfl (by decide) (by omega) (by simp only [mLen]; omega) (fun S hM => ?_) | refine XQ.mp hM rfl rfl (fun S hM => ?_))
      refine XQ.mz hM rfl (Or.inr rfl) (by omega) (by omega) (fun S hM => ?_)
      repeat (first | refine XQ.go rfl rfl ?_ | refine XQ.zeq0 rfl ?_ | refine XQ.zeq1 rfl ?_ | refine XQ.zne0 rfl ?_ | refine XQ.zne1 rfl ?_ | refine XQ.mg hM rfl rfl ?_ | refine XQ.ml hM rfl rfl (by decide) (by omega) (by simp only [mLen]; omega) ?_ | refine XQ.add rfl ⟨by omega, by omega⟩ ?_ | refine XQ.sub rfl ⟨by omega, by omega⟩ ?_ | refine XQ.mul rfl ⟨by omega, by omega⟩ ?_ | refine XQ.inc rfl rfl rfl ⟨by omega, by omega⟩ ?_ | refine XQ.ms hM rfl rfl (by decide) (by omega) (by simp only [mLen]; omega) (fun S hM => ?_) | refine XQ.mp hM rfl rfl (fun S hM => ?_))
      exact XQ.ret rfl rfl ⟨rfl, hM⟩
    · have e : aAdd M h = (false, M) := by unfold aAdd; rw [if_pos (Or.inr q2)]
      rw [e]
      repeat (first | refine XQ.go rfl rfl ?_ | refine XQ.zeq0 rfl ?_ | refine XQ.zeq1 rfl ?_ | refine XQ.zne0 rfl ?_ | refine XQ.zne1 rfl ?_ | refine XQ.mg hM rfl rfl ?_ | refine XQ.ml hM rfl rfl (by decide) (by omega) (by simp only [mLen]; omega) ?_ | refine XQ.add rfl ⟨by omega, by omega⟩ ?_ | refine XQ.sub rfl ⟨by omega, by omega⟩ ?_ | refine XQ.mul rfl ⟨by omega, by omega⟩ ?_ | refine XQ.inc rfl rfl rfl ⟨by omega, by omega⟩ ?_ | refine XQ.ms hM rfl rfl (by decide) (by omega) (by simp only [mLen]; omega) (fun S hM => ?_) | refine XQ.mp hM rfl rfl (fun S hM => ?_))
      exact XQ.ret rfl rfl ⟨rfl, hM⟩
theorem M_aw_l (hB : BW M) : ∀ (j k : Nat) (S : MS), ((k + j : Nat) : Int) = M 13 3 → MO m S0 S (lp (fun k M => (aAdd M (M 11 (k : Int))).2) k M) → XQ (d + 2) k_M_addWaiting 2 [some (.inr (some m)), some (.inl (k : Int))] [] S (fun r S' => r = none ∧ MO m S0 S' (aWaits M)) := by
  intro j
  induction j with
  | zero =>
    intro k S hk hM
    have e : aWaits M = lp (fun k M => (aAdd M (M 11 (k : Int))).2) k M := by unfold aWaits; rw [← hk]; rfl
    have ho : offM M (lp (fun k M => (aAdd M (M 11 (k : Int))).2) k M) := lp_off (fun i M => aAdd_off M _) k
    have e3 := ho 13 3 (by decide)
    rw [e]
    repeat (first | refine XQ.go rfl rfl ?_ | refine XQ.zeq0 rfl ?_ | refine XQ.zeq1 rfl ?_ | refine XQ.zne0 rfl ?_ | refine XQ.zne1 rfl ?_ | refine XQ.mg hM rfl rfl ?_ | refine XQ.ml hM rfl rfl (by decide) (by omega) (by simp only [mLen]; omega) ?_ | refine XQ.add rfl ⟨by omega, by omega⟩ ?_ | refine XQ.sub rfl ⟨by omega, by omega⟩ ?_ | refine XQ.mul rfl ⟨by omega, by omega⟩ ?_ | refine XQ.inc rfl rfl rfl ⟨by omega, by omega⟩ ?_ | refine XQ.ms hM rfl rfl (by decide) (by omega) (by simp only [mLen]; omega) (fun S hM => ?_) | refine XQ.mp hM rfl rfl (fun S hM => ?_))
    refine XQ.cge rfl (fun q => ?_) (fun q => by omega)
    exact XQ.ret rfl rfl ⟨rfl, hM⟩
  | succ j ih =>
    intro k S hk hM
    have ho : offM M (lp (fun k M => (aAdd M (M 11 (k : Int))).2) k M) := lp_off (fun i M => aAdd_off M _) k
    have e3 := ho 13 3 (by decide)
    have hb := hB.2.1
    repeat (first | refine XQ.go rfl rfl ?_ | refine XQ.zeq0 rfl ?_ | refine XQ.zeq1 rfl ?_ | refine XQ.zne0 rfl ?_ | refine XQ.zne1 rfl ?_ | refine XQ.mg hM rfl rfl ?_ | refine XQ.ml hM rfl rfl (by decide) (by omega) (by simp only [mLen]; omega) ?_ | refine XQ.add rfl ⟨by omega, by omega⟩ ?_ | refine XQ.sub rfl ⟨by omega, by omega⟩ ?_ | refine XQ.mul rfl ⟨by omega, by omega⟩ ?_ | refine XQ.inc rfl rfl rfl ⟨by omega, by omega⟩ ?_ | refine XQ.ms hM rfl rfl (by decide) (by omega) (by simp only [mLen]; omega) (fun S hM => ?_) | refine XQ.mp hM rfl rfl (fun S hM => ?_))
    refine XQ.cge rfl (fun q => by omega) (fun q => ?_)
    repeat (first | refine XQ.go rfl rfl ?_ | refine XQ.zeq0 rfl ?_ | refine XQ.zeq1 rfl ?_ | refine XQ.zne0 rfl ?_ | refine XQ.zne1 rfl ?_ | refine XQ.mg hM rfl rfl ?_ | refine XQ.ml hM rfl rfl (by decide) (by omega) (by simp only [mLen]; omega) ?_ | refine XQ.add rfl ⟨by omega, by omega⟩ ?_ | refine XQ.sub rfl ⟨by omega, by omega⟩ ?_ | refine XQ.mul rfl ⟨by omega, by omega⟩ ?_ | refine XQ.inc rfl rfl rfl ⟨by omega, by omega⟩ ?_ | refine XQ.ms hM rfl rfl (by decide) (by omega) (by simp only [mLen]; omega) (fun S hM => ?_) | refine XQ.mp hM rfl rfl (fun S hM => ?_))
    refine XQ.v2 rfl hM.1.1 rfl (le8 rfl) (M_add hM (hB.off ho).1) (fun r S hq => ?_)
    obtain ⟨rfl, hM⟩ := hq
    have ih2 := ih (k + 1) S (by omega) hM
    repeat (first | exact ih2 | refine XQ.go rfl rfl ?_ | refine XQ.zeq0 rfl ?_ | refine XQ.zeq1 rfl ?_ | refine XQ.zne0 rfl ?_ | refine XQ.zne1 rfl ?_ | refine XQ.mg hM rfl rfl ?_ | refine XQ.ml hM rfl rfl (by decide) (by omega) (by simp only [mLen]; omega) ?_ | refine XQ.add rfl ⟨by omega, by omega⟩ ?_ | refine XQ.sub rfl ⟨by omega, by omega⟩ ?_ | refine XQ.mul rfl ⟨by omega, by omega⟩ ?_ | refine XQ.inc rfl rfl rfl ⟨by omega, by omega⟩ ?_ | refine XQ.ms hM rfl rfl (by decide) (by omega) (by simp only [mLen]; omega) (fun S hM => ?_) | refine XQ.mp hM rfl rfl (fun S hM => ?_))
theorem M_addWaiting (hM : MO m S0 S M) (hB : BW M) : XQ (d + 2) k_M_addWaiting 0 (mentry (mL k_M_addWaiting) [.inr (some m)]) [] S (fun r S' => r = none ∧ MO m S0 S' (aWaits M)) := by
  have h0 := M_aw_l (d := d) hB (M 13 3).toNat 0 S (by have := hB.2.1; omega) hM
  repeat (first | exact h0 | refine XQ.go rfl rfl ?_ | refine XQ.zeq0 rfl ?_ | refine XQ.zeq1 rfl ?_ | refine XQ.zne0 rfl ?_ | refine XQ.zne1 rfl ?_ | refine XQ.mg hM rfl rfl ?_ | refine XQ.ml hM rfl rfl (by decide) (by omega) (by simp only [mLen]; omega) ?_ | refine XQ.add rfl ⟨by omega, by omega⟩ ?_ | refine XQ.sub rfl ⟨by omega, by omega⟩ ?_ | refine XQ.mul rfl ⟨by omega, by omega⟩ ?_ | refine XQ.inc rfl rfl rfl ⟨by omega, by omega⟩ ?_ | refine XQ.ms hM rfl rfl (by decide) (by omega) (by simp only [mLen]; omega) (fun S hM => ?_) | refine XQ.mp hM rfl rfl (fun S hM => ?_))
theorem aWaits_off (M : MM) : offM M (aWaits M) := lp_off (fun i M => aAdd_off M _) _
theorem aVr_off (v : Nat) (M : MM) : offM M (aVr v M) := by
  unfold aVr
  split
  · exact aAdd_off M _
  · exact offM.rf
theorem aVars_off (M : MM) : offM M (aVars M) := lp_off (fun i M => aVr_off i M) 6
theorem M_ar_l (hB : BW M) : ∀ (j k : Nat) (S : MS), k + j = 6 → MO m S0 S (lp aVr k M) → XQ (d + 3) k_M_addRoots 2 [some (.inr (some m)), some (.inl (k : Int))] [] S (fun r S' => r = none ∧ MO m S0 S' (aRoots M)) := by
  intro j
  induction j with
  | zero =>
    intro k S hk hM
    have hk6 : k = 6 := by omega
    subst hk6
    have ho : offM M (lp aVr 6 M) := lp_off (fun i M => aVr_off i M) 6
    repeat (first | refine XQ.go rfl rfl ?_ | refine XQ.zeq0 rfl ?_ | refine XQ.zeq1 rfl ?_ | refine XQ.zne0 rfl ?_ | refine XQ.zne1 rfl ?_ | refine XQ.mg hM rfl rfl ?_ | refine XQ.ml hM rfl rfl (by decide) (by omega) (by simp only [mLen]; omega) ?_ | refine XQ.add rfl ⟨by omega, by omega⟩ ?_ | refine XQ.sub rfl ⟨by omega, by omega⟩ ?_ | refine XQ.mul rfl ⟨by omega, by omega⟩ ?_ | refine XQ.inc rfl rfl rfl ⟨by omega, by omega⟩ ?_ | refine XQ.ms hM rfl rfl (by decide) (by omega) (by simp only [mLen]; omega) (fun S hM => ?_) | refine XQ.mp hM rfl rfl (fun S hM => ?_))
    refine XQ.cge rfl (fun q => ?_) (fun q => by omega)
    repeat (first | refine XQ.go rfl rfl ?_ | refine XQ.zeq0 rfl ?_ | refine XQ.zeq1 rfl ?_ | refine XQ.zne0 rfl ?_ | refine XQ.zne1 rfl ?_ | refine XQ.mg hM rfl rfl ?_ | refine XQ.ml hM rfl rfl (by decide) (by omega) (by simp only [mLen]; omega) ?_ | refine XQ.add rfl ⟨by omega, by omega⟩ ?_ | refine XQ.sub rfl ⟨by omega, by omega⟩ ?_ | refine XQ.mul rfl ⟨by omega, by omega⟩ ?_ | refine XQ.inc rfl rfl rfl ⟨by omega, by omega⟩ ?_ | refine XQ.ms hM rfl rfl (by decide) (by omega) (by simp only [mLen]; omega) (fun S hM => ?_) | refine XQ.mp hM rfl rfl (fun S hM => ?_))
    refine XQ.v1 rfl hM.1.1 rfl (le8 rfl) (M_addWaiting hM (hB.off ho)) (fun r S hq => ?_)
    obtain ⟨rfl, hM⟩ := hq
    exact XQ.ret rfl rfl ⟨rfl, hM⟩
  | succ j ih =>
    intro k S hk hM
    have ho : offM M (lp aVr k M) := lp_off (fun i M => aVr_off i M) k
    repeat (first | refine XQ.go rfl rfl ?_ | refine XQ.zeq0 rfl ?_ | refine XQ.zeq1 rfl ?_ | refine XQ.zne0 rfl ?_ | refine XQ.zne1 rfl ?_ | refine XQ.mg hM rfl rfl ?_ | refine XQ.ml hM rfl rfl (by decide) (by omega) (by simp only [mLen]; omega) ?_ | refine XQ.add rfl ⟨by omega, by omega⟩ ?_ | refine XQ.sub rfl ⟨by omega, by omega⟩ ?_ | refine XQ.mul rfl ⟨by omega, by omega⟩ ?_ | refine XQ.inc rfl rfl rfl ⟨by omega, by omega⟩ ?_ | refine XQ.ms hM rfl rfl (by decide) (by omega) (by simp only [mLen]; omega) (fun S hM => ?_) | refine XQ.mp hM rfl rfl (fun S hM => ?_))
    refine XQ.cge rfl (fun q => by omega) (fun q => ?_)
    repeat (first | refine XQ.go rfl rfl ?_ | refine XQ.zeq0 rfl ?_ | refine XQ.zeq1 rfl ?_ | refine XQ.zne0 rfl ?_ | refine XQ.zne1 rfl ?_ | refine XQ.mg hM rfl rfl ?_ | refine XQ.ml hM rfl rfl (by decide) (by omega) (by simp only [mLen]; omega) ?_ | refine XQ.add rfl ⟨by omega, by omega⟩ ?_ | refine XQ.sub rfl ⟨by omega, by omega⟩ ?_ | refine XQ.mul rfl ⟨by omega, by omega⟩ ?_ | refine XQ.inc rfl rfl rfl ⟨by omega, by omega⟩ ?_ | refine XQ.ms hM rfl rfl (by decide) (by omega) (by simp only [mLen]; omega) (fun S hM => ?_) | refine XQ.mp hM rfl rfl (fun S hM => ?_))
    refine XQ.cne rfl (fun q2 => ?_) (fun q2 => ?_)
    · have e : lp aVr (k + 1) M = lp aVr k M := (if_neg q2 : aVr k (lp aVr k M) = _)
      have ih2 := ih (k + 1) S (by omega) (by rw [e]; exact hM)
      repeat (first | exact ih2 | refine XQ.go rfl rfl ?_ | refine XQ.zeq0 rfl ?_ | refine XQ.zeq1 rfl ?_ | refine XQ.zne0 rfl ?_ | refine XQ.zne1 rfl ?_ | refine XQ.mg hM rfl rfl ?_ | refine XQ.ml hM rfl rfl (by decide) (by omega) (by simp only [mLen]; omega) ?_ | refine XQ.add rfl ⟨by omega, by omega⟩ ?_ | refine XQ.sub rfl ⟨by omega, by omega⟩ ?_ | refine XQ.mul rfl ⟨by omega, by omega⟩ ?_ | refine XQ.inc rfl rfl rfl ⟨by omega, by omega⟩ ?_ | refine XQ.ms hM rfl rfl (by decide) (by omega) (by simp only [mLen]; omega) (fun S hM => ?_) | refine XQ.mp hM rfl rfl (fun S hM => ?_))
    · have e : lp aVr (k + 1) M = (aAdd (lp aVr k M) ((lp aVr k M) 1 (k : Int))).2 := (if_pos q2 : aVr k (lp aVr k M) = _)
      repeat (first | refine XQ.go rfl rfl ?_ | refine XQ.zeq0 rfl ?_ | refine XQ.zeq1 rfl ?_ | refine XQ.zne0 rfl ?_ | refine XQ.zne1 rfl ?_ | refine XQ.mg hM rfl rfl ?_ | refine XQ.ml hM rfl rfl (by decide) (by omega) (by simp only [mLen]; omega) ?_ | refine XQ.add rfl ⟨by omega, by omega⟩ ?_ | refine XQ.sub rfl ⟨by omega, by omega⟩ ?_ | refine XQ.mul rfl ⟨by omega, by omega⟩ ?_ | refine XQ.inc rfl rfl rfl ⟨by omega, by omega⟩ ?_ | refine XQ.ms hM rfl rfl (by decide) (by omega) (by simp only [mLen]; omega) (fun S hM => ?_) | refine XQ.mp hM rfl rfl (fun S hM => ?_))
      refine XQ.v2 rfl hM.1.1 rfl (le8 rfl) (M_add hM (hB.off ho).1) (fun r S hq => ?_)
      obtain ⟨rfl, hM⟩ := hq
      have ih2 := ih (k + 1) S (by omega) (by rw [e]; exact hM)
      repeat (first | exact ih2 | refine XQ.go rfl rfl ?_ | refine XQ.zeq0 rfl ?_ | refine XQ.zeq1 rfl ?_ | refine XQ.zne0 rfl ?_ | refine XQ.zne1 rfl ?_ | refine XQ.mg hM rfl rfl ?_ | refine XQ.ml hM rfl rfl (by decide) (by omega) (by simp only [mLen]; omega) ?_ | refine XQ.add rfl ⟨by omega, by omega⟩ ?_ | refine XQ.sub rfl ⟨by omega, by omega⟩ ?_ | refine XQ.mul rfl ⟨by omega, by omega⟩ ?_ | refine XQ.inc rfl rfl rfl ⟨by omega, by omega⟩ ?_ | refine XQ.ms hM rfl rfl (by decide) (by omega) (by simp only [mLen]; omega) (fun S hM => ?_) | refine XQ.mp hM rfl rfl (fun S hM => ?_))
theorem M_addRoots (hM : MO m S0 S M) (hB : BW M) : XQ (d + 3) k_M_addRoots 0 (mentry (mL k_M_addRoots) [.inr (some m)]) [] S (fun r S' => r = none ∧ MO m S0 S' (aRoots M)) := by
  have h0 := M_ar_l (d := d) hB 6 0 S rfl hM
  repeat (first | exact h0 | refine XQ.go rfl rfl ?_ | refine XQ.zeq0 rfl ?_ | refine XQ.zeq1 rfl ?_ | refine XQ.zne0 rfl ?_ | refine XQ.zne1 rfl ?_ | refine XQ.mg hM rfl rfl ?_ | refine XQ.ml hM rfl rfl (by decide) (by omega) (by simp only [mLen]; omega) ?_ | refine XQ.add rfl ⟨by omega, by omega⟩ ?_ | refine XQ.sub rfl ⟨by omega, by omega⟩ ?_ | refine XQ.mul rfl ⟨by omega, by omega⟩ ?_ | refine XQ.inc rfl rfl rfl ⟨by omega, by omega⟩ ?_ | refine XQ.ms hM rfl rfl (by decide) (by omega) (by simp only [mLen]; omega) (fun S hM => ?_) | refine XQ.mp hM rfl rfl (fun S hM => ?_))
theorem aRoots_off (M : MM) : offM M (aRoots M) := (aVars_off M).tr (aWaits_off _)
end M2
