/-! the reference's methods, walked: spreading -/
theorem bI_0 {b : Bool} (h : bI b = 0) : b = false := by cases b; rfl; cases h
theorem bI_1 {b : Bool} (h : ¬ bI b = 0) : b = true := by cases b; exact absurd rfl h; rfl
theorem aSprF_off (all : Bool) (o f : Nat) (p : Bool × MM) : offM p.2 (aSprF all o f p).2 := by
  unfold aSprF
  split
  · exact aAdd_off _ _
  · exact offM.rf
theorem lp_off2 {f : Nat → Bool × MM → Bool × MM} {p : Bool × MM} (hf : ∀ i p, offM p.2 (f i p).2) (n : Nat) : offM p.2 (lp f n p).2 := lp_inv (fun _ q => offM p.2 q.2) offM.rf n (fun i x _ hx => hx.tr (hf i x))
theorem aSprO_off (all : Bool) (o : Nat) (p : Bool × MM) : offM p.2 (aSprO all o p).2 := lp_off2 (fun f p => aSprF_off all o f p) _
theorem aSpr_off (all : Bool) (M : MM) : offM M (aSpr all M).2 := lp_off2 (p := (false, M)) (fun o p => aSprO_off all o p) _
theorem aClo_off (all : Bool) : ∀ (r : Nat) (M : MM), offM M (aClo all r M)
  | 0, _ => offM.rf
  | r + 1, M => by
    unfold aClo
    split
    · exact (aSpr_off all M).tr (aClo_off all r _)
    · exact aSpr_off all M
section M3
variable {d m : Nat} {S0 S : MS} {M : MM} {Q : Option MV → MS → Prop}
set_option maxHeartbeats 1000000 in
theorem M_spr_i {all : Bool} {o : Nat} {p0 : Bool × MM} (hB : BW p0.2) (ho : (o : Int) < p0.2 13 0)
    (K : ∀ (S : MS) (x4 x5 x6 : Option MV), MO m S0 S (aSprO all o p0).2 → XQ (d + 2) k_M_spread 143 [some (.inr (some m)), some (.inl (bI all)), some (.inl (bI (aSprO all o p0).1)), some (.inl (o : Int)), x4, x5, x6] [] S Q) :
    ∀ (j f : Nat) (S : MS) (x5 x6 : Option MV), ((f + j : Nat) : Int) = p0.2 4 (o : Int) → MO m S0 S (lp (aSprF all o) f p0).2 → XQ (d + 2) k_M_spread 15 [some (.inr (some m)), some (.inl (bI all)), some (.inl (bI (lp (aSprF all o) f p0).1)), some (.inl (o : Int)), some (.inl (f : Int)), x5, x6] [] S Q := by
  have hb := hB.1
  have hm := hB.2.2.1 o (by omega) ho
  intro j
  induction j with
  | zero =>
    intro f S x5 x6 hf hM
    have e : aSprO all o p0 = lp (aSprF all o) f p0 := by unfold aSprO; rw [← hf]; rfl
    have hoff : offM p0.2 (lp (aSprF all o) f p0).2 := lp_off2 (fun f p => aSprF_off all o f p) f
    have e4 := hoff 4 (o : Int) (by decide)
    have K2 := K S (some (.inl (f : Int))) x5 x6 (by rw [e]; exact hM)
    rw [e] at K2
    repeat (first | refine XQ.go rfl rfl ?_ | refine XQ.zeq0 rfl ?_ | refine XQ.zeq1 rfl ?_ | refine XQ.zne0 rfl ?_ | refine XQ.zne1 rfl ?_ | refine XQ.mg hM rfl rfl ?_ | refine XQ.ml hM rfl rfl (by decide) (by omega) (by simp only [mLen]; omega) ?_ | refine XQ.add rfl ⟨by omega, by omega⟩ ?_ | refine XQ.sub rfl ⟨by omega, by omega⟩ ?_ | refine XQ.mul rfl ⟨by omega, by omega⟩ ?_ | refine XQ.inc rfl rfl rfl ⟨by omega, by omega⟩ ?_ | refine XQ.ms hM rfl rfl (by decide) (by omega) (by simp only [mLen]; omega) (fun S hM => ?_) | refine XQ.mp hM rfl rfl (fun S hM => ?_))
    refine XQ.cge rfl (fun q => ?_) (fun q => by omega)
    repeat (first | exact K2 | refine XQ.go rfl rfl ?_ | refine XQ.zeq0 rfl ?_ | refine XQ.zeq1 rfl ?_ | refine XQ.zne0 rfl ?_ | refine XQ.zne1 rfl ?_ | refine XQ.mg hM rfl rfl ?_ | refine XQ.ml hM rfl rfl (by decide) (by omega) (by simp only [mLen]; omega) ?_ | refine XQ.add rfl ⟨by omega, by omega⟩ ?_ | refine XQ.sub rfl ⟨by omega, by omega⟩ ?_ | refine XQ.mul rfl ⟨by omega, by omega⟩ ?_ | refine XQ.inc rfl rfl rfl ⟨by omega, by omega⟩ ?_ | refine XQ.ms hM rfl rfl (by decide) (by omega) (by simp only [mLen]; omega) (fun S hM => ?_) | refine XQ.mp hM rfl rfl (fun S hM => ?_))
  | succ j ih =>
    intro f S x5 x6 hf hM
    have hoff : offM p0.2 (lp (aSprF all o) f p0).2 := lp_off2 (fun f p => aSprF_off all o f p) f
    have e4 := hoff 4 (o : Int) (by decide)
    have en : lp (aSprF all o) (f + 1) p0 = aSprF all o f (lp (aSprF all o) f p0) := rfl
    have ih2 := fun S x5 x6 hM => ih (f + 1) S x5 x6 (by omega) hM
    rw [en] at ih2
    generalize lp (aSprF all o) f p0 = p at hM hoff e4 ih2 ⊢
    have hBp := hB.off hoff
    have k73 : ∀ x5, XQ (d + 2) k_M_spread 73 [some (.inr (some m)), some (.inl (bI all)), some (.inl (bI p.1)), some (.inl (o : Int)), some (.inl (f : Int)), x5, x6] [.inl (bI (aCnt all p.2 o f))] S Q := by
      intro x5
      repeat (first | refine XQ.go rfl rfl ?_ | refine XQ.zeq0 rfl ?_ | refine XQ.zeq1 rfl ?_ | refine XQ.zne0 rfl ?_ | refine XQ.zne1 rfl ?_ | refine XQ.mg hM rfl rfl ?_ | refine XQ.ml hM rfl rfl (by decide) (by omega) (by simp only [mLen]; omega) ?_ | refine XQ.add rfl ⟨by omega, by omega⟩ ?_ | refine XQ.sub rfl ⟨by omega, by omega⟩ ?_ | refine XQ.mul rfl ⟨by omega, by omega⟩ ?_ | refine XQ.inc rfl rfl rfl ⟨by omega, by omega⟩ ?_ | refine XQ.ms hM rfl rfl (by decide) (by omega) (by simp only [mLen]; omega) (fun S hM => ?_) | refine XQ.mp hM rfl rfl (fun S hM => ?_))
      refine XQ.zeq rfl (fun q1 => ?_) (fun q1 => ?_)
      · have e : aSprF all o f p = p := by unfold aSprF; rw [if_neg (fun z => z.1 q1)]
        have ih3 := ih2 S (some (.inl (bI (aCnt all p.2 o f)))) x6 (by rw [e]; exact hM)
        rw [e] at ih3
        repeat (first | exact ih3 | refine XQ.go rfl rfl ?_ | refine XQ.zeq0 rfl ?_ | refine XQ.zeq1 rfl ?_ | refine XQ.zne0 rfl ?_ | refine XQ.zne1 rfl ?_ | refine XQ.mg hM rfl rfl ?_ | refine XQ.ml hM rfl rfl (by decide) (by omega) (by simp only [mLen]; omega) ?_ | refine XQ.add rfl ⟨by omega, by omega⟩ ?_ | refine XQ.sub rfl ⟨by omega, by omega⟩ ?_ | refine XQ.mul rfl ⟨by omega, by omega⟩ ?_ | refine XQ.inc rfl rfl rfl ⟨by omega, by omega⟩ ?_ | refine XQ.ms hM rfl rfl (by decide) (by omega) (by simp only [mLen]; omega) (fun S hM => ?_) | refine XQ.mp hM rfl rfl (fun S hM => ?_))
      · repeat (first | refine XQ.go rfl rfl ?_ | refine XQ.zeq0 rfl ?_ | refine XQ.zeq1 rfl ?_ | refine XQ.zne0 rfl ?_ | refine XQ.zne1 rfl ?_ | refine XQ.mg hM rfl rfl ?_ | refine XQ.ml hM rfl rfl (by decide) (by omega) (by simp only [mLen]; omega) ?_ | refine XQ.add rfl ⟨by omega, by omega⟩ ?_ | refine XQ.sub rfl ⟨by omega, by omega⟩ ?_ | refine XQ.mul rfl ⟨by omega, by omega⟩ ?_ | refine XQ.inc rfl rfl rfl ⟨by omega, by omega⟩ ?_ | refine XQ.ms hM rfl rfl (by decide) (by omega) (by simp only [mLen]; omega) (fun S hM => ?_) | refine XQ.mp hM rfl rfl (fun S hM => ?_))
        refine XQ.zeq rfl (fun q2 => ?_) (fun q2 => ?_)
        · have e : aSprF all o f p = p := by unfold aSprF; rw [if_neg (fun z => by rw [bI_0 q2] at z; cases z.2.1)]
          have ih3 := ih2 S (some (.inl (bI (aCnt all p.2 o f)))) x6 (by rw [e]; exact hM)
          rw [e] at ih3
          repeat (first | exact ih3 | refine XQ.go rfl rfl ?_ | refine XQ.zeq0 rfl ?_ | refine XQ.zeq1 rfl ?_ | refine XQ.zne0 rfl ?_ | refine XQ.zne1 rfl ?_ | refine XQ.mg hM rfl rfl ?_ | refine XQ.ml hM rfl rfl (by decide) (by omega) (by simp only [mLen]; omega) ?_ | refine XQ.add rfl ⟨by omega, by omega⟩ ?_ | refine XQ.sub rfl ⟨by omega, by omega⟩ ?_ | refine XQ.mul rfl ⟨by omega, by omega⟩ ?_ | refine XQ.inc rfl rfl rfl ⟨by omega, by omega⟩ ?_ | refine XQ.ms hM rfl rfl (by decide) (by omega) (by simp only [mLen]; omega) (fun S hM => ?_) | refine XQ.mp hM rfl rfl (fun S hM => ?_))
        · repeat (first | refine XQ.go rfl rfl ?_ | refine XQ.zeq0 rfl ?_ | refine XQ.zeq1 rfl ?_ | refine XQ.zne0 rfl ?_ | refine XQ.zne1 rfl ?_ | refine XQ.mg hM rfl rfl ?_ | refine XQ.ml hM rfl rfl (by decide) (by omega) (by simp only [mLen]; omega) ?_ | refine XQ.add rfl ⟨by omega, by omega⟩ ?_ | refine XQ.sub rfl ⟨by omega, by omega⟩ ?_ | refine XQ.mul rfl ⟨by omega, by omega⟩ ?_ | refine XQ.inc rfl rfl rfl ⟨by omega, by omega⟩ ?_ | refine XQ.ms hM rfl rfl (by decide) (by omega) (by simp only [mLen]; omega) (fun S hM => ?_) | refine XQ.mp hM rfl rfl (fun S hM => ?_))
          refine XQ.cne rfl (fun q3 => ?_) (fun q3 => ?_)
          · have e : aSprF all o f p = p := by unfold aSprF; rw [if_neg (fun z => q3 z.2.2)]
            have ih3 := ih2 S (some (.inl (bI (aCnt all p.2 o f)))) x6 (by rw [e]; exact hM)
            rw [e] at ih3
            repeat (first | exact ih3 | refine XQ.go rfl rfl ?_ | refine XQ.zeq0 rfl ?_ | refine XQ.zeq1 rfl ?_ | refine XQ.zne0 rfl ?_ | refine XQ.zne1 rfl ?_ | refine XQ.mg hM rfl rfl ?_ | refine XQ.ml hM rfl rfl (by decide) (by omega) (by simp only [mLen]; omega) ?_ | refine XQ.add rfl ⟨by omega, by omega⟩ ?_ | refine XQ.sub rfl ⟨by omega, by omega⟩ ?_ | refine XQ.mul rfl ⟨by omega, by omega⟩ ?_ | refine XQ.inc rfl rfl rfl ⟨by omega, by omega⟩ ?_ | refine XQ.ms hM rfl rfl (by decide) (by omega) (by simp only [mLen]; omega) (fun S hM => ?_) | refine XQ.mp hM rfl rfl (fun S hM => ?_))
          · have e : aSprF all o f p = (p.1 || (aAdd p.2 (p.2 6 (4 * (o : Int) + f))).1, (aAdd p.2 (p.2 6 (4 * (o : Int) + f))).2) := by unfold aSprF; rw [if_pos ⟨q1, bI_1 q2, q3⟩]
            repeat (first | refine XQ.go rfl rfl ?_ | refine XQ.zeq0 rfl ?_ | refine XQ.zeq1 rfl ?_ | refine XQ.zne0 rfl ?_ | refine XQ.zne1 rfl ?_ | refine XQ.mg hM rfl rfl ?_ | refine XQ.ml hM rfl rfl (by decide) (by omega) (by simp only [mLen]; omega) ?_ | refine XQ.add rfl ⟨by omega, by omega⟩ ?_ | refine XQ.sub rfl ⟨by omega, by omega⟩ ?_ | refine XQ.mul rfl ⟨by omega, by omega⟩ ?_ | refine XQ.inc rfl rfl rfl ⟨by omega, by omega⟩ ?_ | refine XQ.ms hM rfl rfl (by decide) (by omega) (by simp only [mLen]; omega) (fun S hM => ?_) | refine XQ.mp hM rfl rfl (fun S hM => ?_))
            refine XQ.v2 rfl hM.1.1 rfl (le8 rfl) (M_add hM hBp.1) (fun r S hq => ?_)
            obtain ⟨rfl, hM⟩ := hq
            have ih3 := fun x5 x6 => ih2 S x5 x6 (by rw [e]; exact hM)
            rw [e] at ih3
            repeat (first | refine XQ.go rfl rfl ?_ | refine XQ.zeq0 rfl ?_ | refine XQ.zeq1 rfl ?_ | refine XQ.zne0 rfl ?_ | refine XQ.zne1 rfl ?_ | refine XQ.mg hM rfl rfl ?_ | refine XQ.ml hM rfl rfl (by decide) (by omega) (by simp only [mLen]; omega) ?_ | refine XQ.add rfl ⟨by omega, by omega⟩ ?_ | refine XQ.sub rfl ⟨by omega, by omega⟩ ?_ | refine XQ.mul rfl ⟨by omega, by omega⟩ ?_ | refine XQ.inc rfl rfl rfl ⟨by omega, by omega⟩ ?_ | refine XQ.ms hM rfl rfl (by decide) (by omega) (by simp only [mLen]; omega) (fun S hM => ?_) | refine XQ.mp hM rfl rfl (fun S hM => ?_))
            refine XQ.zne rfl (fun q4 => ?_) (fun q4 => ?_)
            · rw [bI_1 q4] at ih3
              repeat (first | exact ih3 _ _ | refine XQ.go rfl rfl ?_ | refine XQ.zeq0 rfl ?_ | refine XQ.zeq1 rfl ?_ | refine XQ.zne0 rfl ?_ | refine XQ.zne1 rfl ?_ | refine XQ.mg hM rfl rfl ?_ | refine XQ.ml hM rfl rfl (by decide) (by omega) (by simp only [mLen]; omega) ?_ | refine XQ.add rfl ⟨by omega, by omega⟩ ?_ | refine XQ.sub rfl ⟨by omega, by omega⟩ ?_ | refine XQ.mul rfl ⟨by omega, by omega⟩ ?_ | refine XQ.inc rfl rfl rfl ⟨by omega, by omega⟩ ?_ | refine XQ.ms hM rfl rfl (by decide) (by omega) (by simp only [mLen]; omega) (fun S hM => ?_) | refine XQ.mp hM rfl rfl (fun S hM => ?_))
            · rw [bI_0 q4] at ih3
              repeat (first | refine XQ.go rfl rfl ?_ | refine XQ.zeq0 rfl ?_ | refine XQ.zeq1 rfl ?_ | refine XQ.zne0 rfl ?_ | refine XQ.zne1 rfl ?_ | refine XQ.mg hM rfl rfl ?_ | refine XQ.ml hM rfl rfl (by decide) (by omega) (by simp only [mLen]; omega) ?_ | refine XQ.add rfl ⟨by omega, by omega⟩ ?_ | refine XQ.sub rfl ⟨by omega, by omega⟩ ?_ | refine XQ.mul rfl ⟨by omega, by omega⟩ ?_ | refine XQ.inc rfl rfl rfl ⟨by omega, by omega⟩ ?_ | refine XQ.ms hM rfl rfl (by decide) (by omega) (by simp only [mLen]; omega) (fun S hM => ?_) | refine XQ.mp hM rfl rfl (fun S hM => ?_))
              refine XQ.zeq rfl (fun q5 => ?_) (fun q5 => ?_)
              · rw [bI_0 q5] at ih3
                repeat (first | exact ih3 _ _ | refine XQ.go rfl rfl ?_ | refine XQ.zeq0 rfl ?_ | refine XQ.zeq1 rfl ?_ | refine XQ.zne0 rfl ?_ | refine XQ.zne1 rfl ?_ | refine XQ.mg hM rfl rfl ?_ | refine XQ.ml hM rfl rfl (by decide) (by omega) (by simp only [mLen]; omega) ?_ | refine XQ.add rfl ⟨by omega, by omega⟩ ?_ | refine XQ.sub rfl ⟨by omega, by omega⟩ ?_ | refine XQ.mul rfl ⟨by omega, by omega⟩ ?_ | refine XQ.inc rfl rfl rfl ⟨by omega, by omega⟩ ?_ | refine XQ.ms hM rfl rfl (by decide) (by omega) (by simp only [mLen]; omega) (fun S hM => ?_) | refine XQ.mp hM rfl rfl (fun S hM => ?_))
              · rw [bI_1 q5] at ih3
                repeat (first | exact ih3 _ _ | refine XQ.go rfl rfl ?_ | refine XQ.zeq0 rfl ?_ | refine XQ.zeq1 rfl ?_ | refine XQ.zne0 rfl ?_ | refine XQ.zne1 rfl ?_ | refine XQ.mg hM rfl rfl ?_ | refine XQ.ml hM rfl rfl (by decide) (by omega) (by simp only [mLen]; omega) ?_ | refine XQ.add rfl ⟨by omega, by omega⟩ ?_ | refine XQ.sub rfl ⟨by omega, by omega⟩ ?_ | refine XQ.mul rfl ⟨by omega, by omega⟩ ?_ | refine XQ.inc rfl rfl rfl ⟨by omega, by omega⟩ ?_ | refine XQ.ms hM rfl rfl (by decide) (by omega) (by simp only [mLen]; omega) (fun S hM => ?_) | refine XQ.mp hM rfl rfl (fun S hM => ?_))
    repeat (first | refine XQ.go rfl rfl ?_ | refine XQ.zeq0 rfl ?_ | refine XQ.zeq1 rfl ?_ | refine XQ.zne0 rfl ?_ | refine XQ.zne1 rfl ?_ | refine XQ.mg hM rfl rfl ?_ | refine XQ.ml hM rfl rfl (by decide) (by omega) (by simp only [mLen]; omega) ?_ | refine XQ.add rfl ⟨by omega, by omega⟩ ?_ | refine XQ.sub rfl ⟨by omega, by omega⟩ ?_ | refine XQ.mul rfl ⟨by omega, by omega⟩ ?_ | refine XQ.inc rfl rfl rfl ⟨by omega, by omega⟩ ?_ | refine XQ.ms hM rfl rfl (by decide) (by omega) (by simp only [mLen]; omega) (fun S hM => ?_) | refine XQ.mp hM rfl rfl (fun S hM => ?_))
    refine XQ.cge rfl (fun q => by omega) (fun q => ?_)
    repeat (first | refine XQ.go rfl rfl ?_ | refine XQ.zeq0 rfl ?_ | refine XQ.zeq1 rfl ?_ | refine XQ.zne0 rfl ?_ | refine XQ.zne1 rfl ?_ | refine XQ.mg hM rfl rfl ?_ | refine XQ.ml hM rfl rfl (by decide) (by omega) (by simp only [mLen]; omega) ?_ | refine XQ.add rfl ⟨by omega, by omega⟩ ?_ | refine XQ.sub rfl ⟨by omega, by omega⟩ ?_ | refine XQ.mul rfl ⟨by omega, by omega⟩ ?_ | refine XQ.inc rfl rfl rfl ⟨by omega, by omega⟩ ?_ | refine XQ.ms hM rfl rfl (by decide) (by omega) (by simp only [mLen]; omega) (fun S hM => ?_) | refine XQ.mp hM rfl rfl (fun S hM => ?_))
    refine XQ.ceq rfl (fun q1 => ?_) (fun q1 => ?_)
    · have e : aCnt all p.2 o f = true := by unfold aCnt; rw [decide_eq_true q1]; rfl
      rw [e] at k73
      repeat (first | exact k73 _ | refine XQ.go rfl rfl ?_ | refine XQ.zeq0 rfl ?_ | refine XQ.zeq1 rfl ?_ | refine XQ.zne0 rfl ?_ | refine XQ.zne1 rfl ?_ | refine XQ.mg hM rfl rfl ?_ | refine XQ.ml hM rfl rfl (by decide) (by omega) (by simp only [mLen]; omega) ?_ | refine XQ.add rfl ⟨by omega, by omega⟩ ?_ | refine XQ.sub rfl ⟨by omega, by omega⟩ ?_ | refine XQ.mul rfl ⟨by omega, by omega⟩ ?_ | refine XQ.inc rfl rfl rfl ⟨by omega, by omega⟩ ?_ | refine XQ.ms hM rfl rfl (by decide) (by omega) (by simp only [mLen]; omega) (fun S hM => ?_) | refine XQ.mp hM rfl rfl (fun S hM => ?_))
    · repeat (first | refine XQ.go rfl rfl ?_ | refine XQ.zeq0 rfl ?_ | refine XQ.zeq1 rfl ?_ | refine XQ.zne0 rfl ?_ | refine XQ.zne1 rfl ?_ | refine XQ.mg hM rfl rfl ?_ | refine XQ.ml hM rfl rfl (by decide) (by omega) (by simp only [mLen]; omega) ?_ | refine XQ.add rfl ⟨by omega, by omega⟩ ?_ | refine XQ.sub rfl ⟨by omega, by omega⟩ ?_ | refine XQ.mul rfl ⟨by omega, by omega⟩ ?_ | refine XQ.inc rfl rfl rfl ⟨by omega, by omega⟩ ?_ | refine XQ.ms hM rfl rfl (by decide) (by omega) (by simp only [mLen]; omega) (fun S hM => ?_) | refine XQ.mp hM rfl rfl (fun S hM => ?_))
      refine XQ.cne rfl (fun q2 => ?_) (fun q2 => ?_)
      · have e : aCnt all p.2 o f = false := by unfold aCnt; rw [decide_eq_false q1, decide_eq_false q2]; rfl
        rw [e] at k73
        repeat (first | exact k73 _ | refine XQ.go rfl rfl ?_ | refine XQ.zeq0 rfl ?_ | refine XQ.zeq1 rfl ?_ | refine XQ.zne0 rfl ?_ | refine XQ.zne1 rfl ?_ | refine XQ.mg hM rfl rfl ?_ | refine XQ.ml hM rfl rfl (by decide) (by omega) (by simp only [mLen]; omega) ?_ | refine XQ.add rfl ⟨by omega, by omega⟩ ?_ | refine XQ.sub rfl ⟨by omega, by omega⟩ ?_ | refine XQ.mul rfl ⟨by omega, by omega⟩ ?_ | refine XQ.inc rfl rfl rfl ⟨by omega, by omega⟩ ?_ | refine XQ.ms hM rfl rfl (by decide) (by omega) (by simp only [mLen]; omega) (fun S hM => ?_) | refine XQ.mp hM rfl rfl (fun S hM => ?_))
      · repeat (first | refine XQ.go rfl rfl ?_ | refine XQ.zeq0 rfl ?_ | refine XQ.zeq1 rfl ?_ | refine XQ.zne0 rfl ?_ | refine XQ.zne1 rfl ?_ | refine XQ.mg hM rfl rfl ?_ | refine XQ.ml hM rfl rfl (by decide) (by omega) (by simp only [mLen]; omega) ?_ | refine XQ.add rfl ⟨by omega, by omega⟩ ?_ | refine XQ.sub rfl ⟨by omega, by omega⟩ ?_ | refine XQ.mul rfl ⟨by omega, by omega⟩ ?_ | refine XQ.inc rfl rfl rfl ⟨by omega, by omega⟩ ?_ | refine XQ.ms hM rfl rfl (by decide) (by omega) (by simp only [mLen]; omega) (fun S hM => ?_) | refine XQ.mp hM rfl rfl (fun S hM => ?_))
        refine XQ.zne rfl (fun q3 => ?_) (fun q3 => ?_)
        · have e : aCnt all p.2 o f = true := by unfold aCnt; rw [decide_eq_false q1, decide_eq_true q2, bI_1 q3]; rfl
          rw [e] at k73
          repeat (first | exact k73 _ | refine XQ.go rfl rfl ?_ | refine XQ.zeq0 rfl ?_ | refine XQ.zeq1 rfl ?_ | refine XQ.zne0 rfl ?_ | refine XQ.zne1 rfl ?_ | refine XQ.mg hM rfl rfl ?_ | refine XQ.ml hM rfl rfl (by decide) (by omega) (by simp only [mLen]; omega) ?_ | refine XQ.add rfl ⟨by omega, by omega⟩ ?_ | refine XQ.sub rfl ⟨by omega, by omega⟩ ?_ | refine XQ.mul rfl ⟨by omega, by omega⟩ ?_ | refine XQ.inc rfl rfl rfl ⟨by omega, by omega⟩ ?_ | refine XQ.ms hM rfl rfl (by decide) (by omega) (by simp only [mLen]; omega) (fun S hM => ?_) | refine XQ.mp hM rfl rfl (fun S hM => ?_))
        · repeat (first | refine XQ.go rfl rfl ?_ | refine XQ.zeq0 rfl ?_ | refine XQ.zeq1 rfl ?_ | refine XQ.zne0 rfl ?_ | refine XQ.zne1 rfl ?_ | refine XQ.mg hM rfl rfl ?_ | refine XQ.ml hM rfl rfl (by decide) (by omega) (by simp only [mLen]; omega) ?_ | refine XQ.add rfl ⟨by omega, by omega⟩ ?_ | refine XQ.sub rfl ⟨by omega, by omega⟩ ?_ | refine XQ.mul rfl ⟨by omega, by omega⟩ ?_ | refine XQ.inc rfl rfl rfl ⟨by omega, by omega⟩ ?_ | refine XQ.ms hM rfl rfl (by decide) (by omega) (by simp only [mLen]; omega) (fun S hM => ?_) | refine XQ.mp hM rfl rfl (fun S hM => ?_))
          refine XQ.v2 rfl hM.1.1 rfl (le8 rfl) (M_isMarked hM hBp.1) (fun r S' hq => ?_)
          obtain ⟨rfl, rfl⟩ := hq
          have e : aCnt all p.2 o f = aIsM p.2 (p.2 7 (4 * (o : Int) + f)) := by unfold aCnt; rw [decide_eq_false q1, decide_eq_true q2, bI_0 q3]; simp
          refine XQ.zeq rfl (fun q4 => ?_) (fun q4 => ?_)
          · rw [e, bI_0 q4] at k73
            repeat (first | exact k73 _ | refine XQ.go rfl rfl ?_ | refine XQ.zeq0 rfl ?_ | refine XQ.zeq1 rfl ?_ | refine XQ.zne0 rfl ?_ | refine XQ.zne1 rfl ?_ | refine XQ.mg hM rfl rfl ?_ | refine XQ.ml hM rfl rfl (by decide) (by omega) (by simp only [mLen]; omega) ?_ | refine XQ.add rfl ⟨by omega, by omega⟩ ?_ | refine XQ.sub rfl ⟨by omega, by omega⟩ ?_ | refine XQ.mul rfl ⟨by omega, by omega⟩ ?_ | refine XQ.inc rfl rfl rfl ⟨by omega, by omega⟩ ?_ | refine XQ.ms hM rfl rfl (by decide) (by omega) (by simp only [mLen]; omega) (fun S hM => ?_) | refine XQ.mp hM rfl rfl (fun S hM => ?_))
          · rw [e, bI_1 q4] at k73
            repeat (first | exact k73 _ | refine XQ.go rfl rfl ?_ | refine XQ.zeq0 rfl ?_ | refine XQ.zeq1 rfl ?_ | refine XQ.zne0 rfl ?_ | refine XQ.zne1 rfl ?_ | refine XQ.mg hM rfl rfl ?_ | refine XQ.ml hM rfl rfl (by decide) (by omega) (by simp only [mLen]; omega) ?_ | refine XQ.add rfl ⟨by omega, by omega⟩ ?_ | refine XQ.sub rfl ⟨by omega, by omega⟩ ?_ | refine XQ.mul rfl ⟨by omega, by omega⟩ ?_ | refine XQ.inc rfl rfl rfl ⟨by omega, by omega⟩ ?_ | refine XQ.ms hM rfl rfl (by decide) (by omega) (by simp only [mLen]; omega) (fun S hM => ?_) | refine XQ.mp hM rfl rfl (fun S hM => ?_))
theorem M_spr_o {all : Bool} (hB : BW M) : ∀ (j o : Nat) (S : MS) (x4 x5 x6 : Option MV), ((o + j : Nat) : Int) = M 13 0 → MO m S0 S (lp (aSprO all) o (false, M)).2 → XQ (d + 2) k_M_spread 4 [some (.inr (some m)), some (.inl (bI all)), some (.inl (bI (lp (aSprO all) o (false, M)).1)), some (.inl (o : Int)), x4, x5, x6] [] S (fun r S' => r = some (.inl (bI (aSpr all M).1)) ∧ MO m S0 S' (aSpr all M).2) := by
  have hb := hB.1
  intro j
  induction j with
  | zero =>
    intro o S x4 x5 x6 ho hM
    have e : aSpr all M = lp (aSprO all) o (false, M) := by unfold aSpr; rw [← ho]; rfl
    have hoff : offM M (lp (aSprO all) o (false, M)).2 := lp_off2 (p := (false, M)) (fun o p => aSprO_off all o p) o
    have e0 := hoff 13 0 (by decide)
    rw [e]
    repeat (first | refine XQ.go rfl rfl ?_ | refine XQ.zeq0 rfl ?_ | refine XQ.zeq1 rfl ?_ | refine XQ.zne0 rfl ?_ | refine XQ.zne1 rfl ?_ | refine XQ.mg hM rfl rfl ?_ | refine XQ.ml hM rfl rfl (by decide) (by omega) (by simp only [mLen]; omega) ?_ | refine XQ.add rfl ⟨by omega, by omega⟩ ?_ | refine XQ.sub rfl ⟨by omega, by omega⟩ ?_ | refine XQ.mul rfl ⟨by omega, by omega⟩ ?_ | refine XQ.inc rfl rfl rfl ⟨by omega, by omega⟩ ?_ | refine XQ.ms hM rfl rfl (by decide) (by omega) (by simp only [mLen]; omega) (fun S hM => ?_) | refine XQ.mp hM rfl rfl (fun S hM => ?_))
    refine XQ.cge rfl (fun q => ?_) (fun q => by omega)
    repeat (first | refine XQ.go rfl rfl ?_ | refine XQ.zeq0 rfl ?_ | refine XQ.zeq1 rfl ?_ | refine XQ.zne0 rfl ?_ | refine XQ.zne1 rfl ?_ | refine XQ.mg hM rfl rfl ?_ | refine XQ.ml hM rfl rfl (by decide) (by omega) (by simp only [mLen]; omega) ?_ | refine XQ.add rfl ⟨by omega, by omega⟩ ?_ | refine XQ.sub rfl ⟨by omega, by omega⟩ ?_ | refine XQ.mul rfl ⟨by omega, by omega⟩ ?_ | refine XQ.inc rfl rfl rfl ⟨by omega, by omega⟩ ?_ | refine XQ.ms hM rfl rfl (by decide) (by omega) (by simp only [mLen]; omega) (fun S hM => ?_) | refine XQ.mp hM rfl rfl (fun S hM => ?_))
    refine XQ.ret rfl ?_ ⟨rfl, hM⟩
    cases (lp (aSprO all) o (false, M)).1 <;> rfl
  | succ j ih =>
    intro o S x4 x5 x6 ho hM
    have hoff : offM M (lp (aSprO all) o (false, M)).2 := lp_off2 (p := (false, M)) (fun o p => aSprO_off all o p) o
    have e0 := hoff 13 0 (by decide)
    have hBp := hB.off hoff
    have en : lp (aSprO all) (o + 1) (false, M) = aSprO all o (lp (aSprO all) o (false, M)) := rfl
    have ih2 := fun S x4 x5 x6 hM => ih (o + 1) S x4 x5 x6 (by omega) hM
    rw [en] at ih2
    generalize lp (aSprO all) o (false, M) = p at hM hoff e0 ih2 hBp ⊢
    have hm := hBp.2.2.1 o (by omega) (by omega)
    have K : ∀ (S : MS) (x4 x5 x6 : Option MV), MO m S0 S (aSprO all o p).2 → XQ (d + 2) k_M_spread 143 [some (.inr (some m)), some (.inl (bI all)), some (.inl (bI (aSprO all o p).1)), some (.inl (o : Int)), x4, x5, x6] [] S (fun r S' => r = some (.inl (bI (aSpr all M).1)) ∧ MO m S0 S' (aSpr all M).2) := by
      intro S x4 x5 x6 hM
      have ih3 := ih2 S x4 x5 x6 hM
      repeat (first | exact ih3 | refine XQ.go rfl rfl ?_ | refine XQ.zeq0 rfl ?_ | refine XQ.zeq1 rfl ?_ | refine XQ.zne0 rfl ?_ | refine XQ.zne1 rfl ?_ | refine XQ.mg hM rfl rfl ?_ | refine XQ.ml hM rfl rfl (by decide) (by omega) (by simp only [mLen]; omega) ?_ | refine XQ.add rfl ⟨by omega, by omega⟩ ?_ | refine XQ.sub rfl ⟨by omega, by omega⟩ ?_ | refine XQ.mul rfl ⟨by omega, by omega⟩ ?_ | refine XQ.inc rfl rfl rfl ⟨by omega, by omega⟩ ?_ | refine XQ.ms hM rfl rfl (by decide) (by omega) (by simp only [mLen]; omega) (fun S hM => ?_) | refine XQ.mp hM rfl rfl (fun S hM => ?_))
    have hi := M_spr_i hBp (by omega) K (p.2 4 (o : Int)).toNat 0 S x5 x6 (by omega) hM
    repeat (first | refine XQ.go rfl rfl ?_ | refine XQ.zeq0 rfl ?_ | refine XQ.zeq1 rfl ?_ | refine XQ.zne0 rfl ?_ | refine XQ.zne1 rfl ?_ | refine XQ.mg hM rfl rfl ?_ | refine XQ.ml hM rfl rfl (by decide) (by omega) (by simp only [mLen]; omega) ?_ | refine XQ.add rfl ⟨by omega, by omega⟩ ?_ | refine XQ.sub rfl ⟨by omega, by omega⟩ ?_ | refine XQ.mul rfl ⟨by omega, by omega⟩ ?_ | refine XQ.inc rfl rfl rfl ⟨by omega, by omega⟩ ?_ | refine XQ.ms hM rfl rfl (by decide) (by omega) (by simp only [mLen]; omega) (fun S hM => ?_) | refine XQ.mp hM rfl rfl (fun S hM => ?_))
    refine XQ.cge rfl (fun q => by omega) (fun q => ?_)
    repeat (first | exact hi | refine XQ.go rfl rfl ?_ | refine XQ.zeq0 rfl ?_ | refine XQ.zeq1 rfl ?_ | refine XQ.zne0 rfl ?_ | refine XQ.zne1 rfl ?_ | refine XQ.mg hM rfl rfl ?_ | refine XQ.ml hM rfl rfl (by decide) (by omega) (by simp only [mLen]; omega) ?_ | refine XQ.add rfl ⟨by omega, by omega⟩ ?_ | refine XQ.sub rfl ⟨by omega, by omega⟩ ?_ | refine XQ.mul rfl ⟨by omega, by omega⟩ ?_ | refine XQ.inc rfl rfl rfl ⟨by omega, by omega⟩ ?_ | refine XQ.ms hM rfl rfl (by decide) (by omega) (by simp only [mLen]; omega) (fun S hM => ?_) | refine XQ.mp hM rfl rfl (fun S hM => ?_))
theorem M_spread {all : Bool} (hM : MO m S0 S M) (hB : BW M) : XQ (d + 2) k_M_spread 0 (mentry (mL k_M_spread) [.inr (some m), .inl (bI all)]) [] S (fun r S' => r = some (.inl (bI (aSpr all M).1)) ∧ MO m S0 S' (aSpr all M).2) := by
  have h0 := M_spr_o (d := d) (m := m) (S0 := S0) (all := all) hB (M 13 0).toNat 0 S none none none (by have := hB.1; omega) hM
  repeat (first | exact h0 | refine XQ.go rfl rfl ?_ | refine XQ.zeq0 rfl ?_ | refine XQ.zeq1 rfl ?_ | refine XQ.zne0 rfl ?_ | refine XQ.zne1 rfl ?_ | refine XQ.mg hM rfl rfl ?_ | refine XQ.ml hM rfl rfl (by decide) (by omega) (by simp only [mLen]; omega) ?_ | refine XQ.add rfl ⟨by omega, by omega⟩ ?_ | refine XQ.sub rfl ⟨by omega, by omega⟩ ?_ | refine XQ.mul rfl ⟨by omega, by omega⟩ ?_ | refine XQ.inc rfl rfl rfl ⟨by omega, by omega⟩ ?_ | refine XQ.ms hM rfl rfl (by decide) (by omega) (by simp only [mLen]; omega) (fun S hM => ?_) | refine XQ.mp hM rfl rfl (fun S hM => ?_))
theorem M_clo_l {all : Bool} : ∀ (j r : Nat) (M : MM) (S : MS), r + j = 21 → BW M → MO m S0 S M → XQ (d + 3) k_M_close 2 [some (.inr (some m)), some (.inl (bI all)), some (.inl (r : Int))] [] S (fun q S' => q = none ∧ MO m S0 S' (aClo all j M)) := by
  intro j
  induction j with
  | zero =>
    intro r M S hr hB hM
    repeat (first | refine XQ.go rfl rfl ?_ | refine XQ.zeq0 rfl ?_ | refine XQ.zeq1 rfl ?_ | refine XQ.zne0 rfl ?_ | refine XQ.zne1 rfl ?_ | refine XQ.mg hM rfl rfl ?_ | refine XQ.ml hM rfl rfl (by decide) (by omega) (by simp only [mLen]; omega) ?_ | refine XQ.add rfl ⟨by omega, by omega⟩ ?_ | refine XQ.sub rfl ⟨by omega, by omega⟩ ?_ | refine XQ.mul rfl ⟨by omega, by omega⟩ ?_ | refine XQ.inc rfl rfl rfl ⟨by omega, by omega⟩ ?_ | refine XQ.ms hM rfl rfl (by decide) (by omega) (by simp only [mLen]; omega) (fun S hM => ?_) | refine XQ.mp hM rfl rfl (fun S hM => ?_))
    refine XQ.cge rfl (fun q => ?_) (fun q => by omega)
    exact XQ.ret rfl rfl ⟨rfl, hM⟩
  | succ j ih =>
    intro r M S hr hB hM
    repeat (first | refine XQ.go rfl rfl ?_ | refine XQ.zeq0 rfl ?_ | refine XQ.zeq1 rfl ?_ | refine XQ.zne0 rfl ?_ | refine XQ.zne1 rfl ?_ | refine XQ.mg hM rfl rfl ?_ | refine XQ.ml hM rfl rfl (by decide) (by omega) (by simp only [mLen]; omega) ?_ | refine XQ.add rfl ⟨by omega, by omega⟩ ?_ | refine XQ.sub rfl ⟨by omega, by omega⟩ ?_ | refine XQ.mul rfl ⟨by omega, by omega⟩ ?_ | refine XQ.inc rfl rfl rfl ⟨by omega, by omega⟩ ?_ | refine XQ.ms hM rfl rfl (by decide) (by omega) (by simp only [mLen]; omega) (fun S hM => ?_) | refine XQ.mp hM rfl rfl (fun S hM => ?_))
    refine XQ.cge rfl (fun q => by omega) (fun q => ?_)
    repeat (first | refine XQ.go rfl rfl ?_ | refine XQ.zeq0 rfl ?_ | refine XQ.zeq1 rfl ?_ | refine XQ.zne0 rfl ?_ | refine XQ.zne1 rfl ?_ | refine XQ.mg hM rfl rfl ?_ | refine XQ.ml hM rfl rfl (by decide) (by omega) (by simp only [mLen]; omega) ?_ | refine XQ.add rfl ⟨by omega, by omega⟩ ?_ | refine XQ.sub rfl ⟨by omega, by omega⟩ ?_ | refine XQ.mul rfl ⟨by omega, by omega⟩ ?_ | refine XQ.inc rfl rfl rfl ⟨by omega, by omega⟩ ?_ | refine XQ.ms hM rfl rfl (by decide) (by omega) (by simp only [mLen]; omega) (fun S hM => ?_) | refine XQ.mp hM rfl rfl (fun S hM => ?_))
    refine XQ.v2 rfl hM.1.1 rfl (le8 rfl) (M_spread hM hB) (fun x S hq => ?_)
    obtain ⟨rfl, hM⟩ := hq
    refine XQ.zne rfl (fun q2 => ?_) (fun q2 => ?_)
    · have e : aClo all (j + 1) M = aClo all j (aSpr all M).2 := by rw [aClo, if_pos (bI_1 q2)]
      rw [e]
      have ih2 := ih (r + 1) (aSpr all M).2 S (by omega) (hB.off (aSpr_off all M)) hM
      repeat (first | exact ih2 | refine XQ.go rfl rfl ?_ | refine XQ.zeq0 rfl ?_ | refine XQ.zeq1 rfl ?_ | refine XQ.zne0 rfl ?_ | refine XQ.zne1 rfl ?_ | refine XQ.mg hM rfl rfl ?_ | refine XQ.ml hM rfl rfl (by decide) (by omega) (by simp only [mLen]; omega) ?_ | refine XQ.add rfl ⟨by omega, by omega⟩ ?_ | refine XQ.sub rfl ⟨by omega, by omega⟩ ?_ | refine XQ.mul rfl ⟨by omega, by omega⟩ ?_ | refine XQ.inc rfl rfl rfl ⟨by omega, by omega⟩ ?_ | refine XQ.ms hM rfl rfl (by decide) (by omega) (by simp only [mLen]; omega) (fun S hM => ?_) | refine XQ.mp hM rfl rfl (fun S hM => ?_))
    · have e : aClo all (j + 1) M = (aSpr all M).2 := by rw [aClo, if_neg (by rw [bI_0 q2]; decide)]
      rw [e]
      exact XQ.ret rfl rfl ⟨rfl, hM⟩
theorem M_close {all : Bool} (hM : MO m S0 S M) (hB : BW M) : XQ (d + 3) k_M_close 0 (mentry (mL k_M_close) [.inr (some m), .inl (bI all)]) [] S (fun q S' => q = none ∧ MO m S0 S' (aClo all 21 M)) := by
  have h0 := M_clo_l (d := d) (m := m) (S0 := S0) (all := all) 21 0 M S rfl hB hM
  repeat (first | exact h0 | refine XQ.go rfl rfl ?_ | refine XQ.zeq0 rfl ?_ | refine XQ.zeq1 rfl ?_ | refine XQ.zne0 rfl ?_ | refine XQ.zne1 rfl ?_ | refine XQ.mg hM rfl rfl ?_ | refine XQ.ml hM rfl rfl (by decide) (by omega) (by simp only [mLen]; omega) ?_ | refine XQ.add rfl ⟨by omega, by omega⟩ ?_ | refine XQ.sub rfl ⟨by omega, by omega⟩ ?_ | refine XQ.mul rfl ⟨by omega, by omega⟩ ?_ | refine XQ.inc rfl rfl rfl ⟨by omega, by omega⟩ ?_ | refine XQ.ms hM rfl rfl (by decide) (by omega) (by simp only [mLen]; omega) (fun S hM => ?_) | refine XQ.mp hM rfl rfl (fun S hM => ?_))
end M3
