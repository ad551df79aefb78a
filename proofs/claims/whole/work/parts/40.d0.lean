/-! clearing and spreading the marks -/
theorem aSprF_lin (all : Bool) (o f : Nat) (g : Bool) (N : MM) : aSprF all o f (g, N) = (g || (aSprF all o f (false, N)).1, (aSprF all o f (false, N)).2) := by
  unfold aSprF
  by_cases h : ¬ N 8 (o : Int) = 0 ∧ aCnt all N o f = true ∧ N 5 (4 * (o : Int) + f) = 9
  · rw [if_pos h, if_pos h]; simp
  · rw [if_neg h, if_neg h]; simp
theorem aSprF_lin' (all : Bool) (o f : Nat) (p : Bool × MM) : aSprF all o f p = (p.1 || (aSprF all o f (false, p.2)).1, (aSprF all o f (false, p.2)).2) := aSprF_lin all o f p.1 p.2
theorem aSprF_lpl (all : Bool) (o : Nat) (g : Bool) (N : MM) : ∀ n, lp (aSprF all o) n (g, N) = (g || (lp (aSprF all o) n (false, N)).1, (lp (aSprF all o) n (false, N)).2)
  | 0 => by show (g, N) = (g || false, N); rw [Bool.or_false]
  | n + 1 => by
    show aSprF all o n (lp (aSprF all o) n (g, N)) = (g || (aSprF all o n (lp (aSprF all o) n (false, N))).1, (aSprF all o n (lp (aSprF all o) n (false, N))).2)
    rw [aSprF_lpl all o g N n, aSprF_lin, aSprF_lin' all o n (lp (aSprF all o) n (false, N))]
    simp [Bool.or_assoc]
theorem aSprO_lin (all : Bool) (o : Nat) (p : Bool × MM) : aSprO all o p = (p.1 || (aSprO all o (false, p.2)).1, (aSprO all o (false, p.2)).2) := aSprF_lpl all o p.1 p.2 _
theorem lp_id {α : Type} {f : Nat → α → α} {a : α} : ∀ n, (∀ i, i < n → f i a = a) → lp f n a = a
  | 0, _ => rfl
  | n + 1, h => by
    show f n (lp f n a) = a
    rw [lp_id n (fun i hi => h i (by omega)), h n (by omega)]
theorem aSprO_n {all : Bool} {o : Nat} {p : Bool × MM} (h : p.2 8 o = 0 ∨ p.2 3 o = 3) : aSprO all o p = p := by
  unfold aSprO
  exact lp_id _ (fun i _ => aSprF_n (by rcases h with h | h; exact Or.inl h; exact Or.inr (aCnt_3 h)))
section H0
variable {d x : Nat} {S S' : MS} {A : Int → Nat} {M M' : MM}
theorem cF.r2 (h : cF x S) : tS S (x + 2) = 6 ∧ vS S (x + 2) 0 = .inr (some (x + 3)) ∧ tS S (x + 3) = 22 ∧ lS S (x + 3) = 20 := h.2.2.2.2.2.2.1
theorem C_clearMarks (hC : CL x S A M) (hw : WF M) : XQ (d + 1) k_H_clearMarks 0 (mentry (mL k_H_clearMarks) [.inr (some x)]) [] S (fun q S' => q = none ∧ CM x S' A (aClear M) ∧ CFr x 0 0 S S') := by
  have hb := hw.1.1
  have loop : ∀ (j k : Nat) (S' : MS) (t : Option MV), ((k + j : Nat) : Int) = M 13 0 → CL x S' A (lp (fun o M => u2 M 8 (o : Int) 0) k M) → (∀ o, 0 ≤ o → o < (k : Int) → vS S' (A (M 2 o)) 3 = .inl 0 ∧ lp (fun o M => u2 M 8 (o : Int) 0) k M 8 o = 0) → CFr x 0 0 S S' → XQ (d + 1) k_H_clearMarks 2 [some (.inr (some x)), some (.inl (k : Int)), t] [] S' (fun q S' => q = none ∧ CM x S' A (aClear M) ∧ CFr x 0 0 S S') := by
    intro j
    induction j with
    | zero =>
      intro k S' t hk hc hm hf
      have ho : offM M (lp (fun o M => u2 M 8 (o : Int) 0) k M) := lp_off (fun i M => offM.rf.u _ _) _
      have hF := hc.1
      obtain ⟨r1, r2, r3, r4⟩ := hF.r2
      have hr := hc.2.2.1.1.1
      rw [ho 13 0 (by decide)] at hr
      have e : aClear M = lp (fun o M => u2 M 8 (o : Int) 0) k M := by unfold aClear; rw [show (M 13 0).toNat = k by omega]
      rw [e]
      repeat (first | refine XQ.go rfl rfl ?_ | refine XQ.zeq0 rfl ?_ | refine XQ.zeq1 rfl ?_ | refine XQ.zne0 rfl ?_ | refine XQ.zne1 rfl ?_ | refine XQ.add rfl ⟨by omega, by omega⟩ ?_ | refine XQ.sub rfl ⟨by omega, by omega⟩ ?_ | refine XQ.inc rfl rfl rfl ⟨by omega, by omega⟩ ?_)
      refine XQ.gx rfl hF.1 hF.2.2.1 ?_
      refine XQ.v1 rfl r1 rfl (le8 rfl) (C_length (d := d) r1 hr) (fun q S2 hq => ?_)
      obtain ⟨rfl, rfl⟩ := hq
      refine XQ.cge rfl (fun _ => ?_) (fun q => by omega)
      refine XQ.ret rfl rfl ⟨rfl, ⟨hc, hw.off8 (offS.of ho), fun o z1 z2 => ?_⟩, hf⟩
      rw [ho 13 0 (by decide)] at z2
      obtain ⟨y1, y2⟩ := hm o z1 (by omega)
      rw [ho 2 o (by decide), y2]
      exact ⟨y1, Or.inl rfl⟩
    | succ j ih =>
      intro k S' t hk hc hm hf
      have ho : offM M (lp (fun o M => u2 M 8 (o : Int) 0) k M) := lp_off (fun i M => offM.rf.u _ _) _
      have hF := hc.1
      obtain ⟨r1, r2, r3, r4⟩ := hF.r2
      have hrow := hc.2.2.1.1
      have hr := hrow.1
      have hO := hc.2.2.2.2.1
      have hob := hO k (by omega) (by rw [ho 13 0 (by decide)]; omega)
      have htg := hob.tg
      have hge := hob.1
      have hwk : WF (lp (fun o M => u2 M 8 (o : Int) 0) k M) := hw.off8 (offS.of ho)
      rw [ho 13 0 (by decide)] at hr
      repeat (first | refine XQ.go rfl rfl ?_ | refine XQ.zeq0 rfl ?_ | refine XQ.zeq1 rfl ?_ | refine XQ.zne0 rfl ?_ | refine XQ.zne1 rfl ?_ | refine XQ.add rfl ⟨by omega, by omega⟩ ?_ | refine XQ.sub rfl ⟨by omega, by omega⟩ ?_ | refine XQ.inc rfl rfl rfl ⟨by omega, by omega⟩ ?_)
      refine XQ.gx rfl hF.1 hF.2.2.1 ?_
      refine XQ.v1 rfl r1 rfl (le8 rfl) (C_length (d := d) r1 hr) (fun q S2 hq => ?_)
      obtain ⟨rfl, rfl⟩ := hq
      refine XQ.cge rfl (fun q => by omega) (fun _ => ?_)
      repeat (first | refine XQ.go rfl rfl ?_ | refine XQ.zeq0 rfl ?_ | refine XQ.zeq1 rfl ?_ | refine XQ.zne0 rfl ?_ | refine XQ.zne1 rfl ?_ | refine XQ.add rfl ⟨by omega, by omega⟩ ?_ | refine XQ.sub rfl ⟨by omega, by omega⟩ ?_ | refine XQ.inc rfl rfl rfl ⟨by omega, by omega⟩ ?_)
      refine XQ.gx rfl hF.1 hF.2.2.1 ?_
      repeat (first | refine XQ.go rfl rfl ?_ | refine XQ.zeq0 rfl ?_ | refine XQ.zeq1 rfl ?_ | refine XQ.zne0 rfl ?_ | refine XQ.zne1 rfl ?_ | refine XQ.add rfl ⟨by omega, by omega⟩ ?_ | refine XQ.sub rfl ⟨by omega, by omega⟩ ?_ | refine XQ.inc rfl rfl rfl ⟨by omega, by omega⟩ ?_)
      refine XQ.v2 rfl r1 rfl (le8 rfl) (C_at (d := d) (i := (k : Int)) r1 r2 r3 r4 hrow (by rw [ho 13 0 (by decide)]; omega) (by omega) (by rw [ho 13 0 (by decide)]; omega)) (fun q S3 hq => ?_)
      obtain ⟨rfl, rfl⟩ := hq
      repeat (first | refine XQ.go rfl rfl ?_ | refine XQ.zeq0 rfl ?_ | refine XQ.zeq1 rfl ?_ | refine XQ.zne0 rfl ?_ | refine XQ.zne1 rfl ?_ | refine XQ.add rfl ⟨by omega, by omega⟩ ?_ | refine XQ.sub rfl ⟨by omega, by omega⟩ ?_ | refine XQ.inc rfl rfl rfl ⟨by omega, by omega⟩ ?_)
      refine XQ.put rfl htg.c rfl ?_
      have hc2 := hc.mk (b := 0) hwk (o := (k : Int)) (by omega) (by rw [ho 13 0 (by decide)]; omega)
      have ih' := fun t => ih (k + 1) _ t (by omega) hc2 (fun o z1 z2 => ?_) (hf.set (Or.inr hge) _ _)
      · repeat (first | exact ih' _ | refine XQ.go rfl rfl ?_ | refine XQ.zeq0 rfl ?_ | refine XQ.zeq1 rfl ?_ | refine XQ.zne0 rfl ?_ | refine XQ.zne1 rfl ?_ | refine XQ.add rfl ⟨by omega, by omega⟩ ?_ | refine XQ.sub rfl ⟨by omega, by omega⟩ ?_ | refine XQ.inc rfl rfl rfl ⟨by omega, by omega⟩ ?_)
      · show _ ∧ u2 (lp (fun o M => u2 M 8 (o : Int) 0) k M) 8 (k : Int) 0 8 o = 0
        by_cases e : o = (k : Int)
        · rw [e, u2_s, ho 2 _ (by decide), mset_s, if_pos rfl]; exact ⟨rfl, rfl⟩
        · obtain ⟨y1, y2⟩ := hm o z1 (by omega)
          have hne := A_ne hO hwk z1 (by rw [ho 13 0 (by decide)]; omega) (by omega) (by rw [ho 13 0 (by decide)]; omega) e
          rw [ho 2 o (by decide)] at hne
          rw [u2_n _ _ (Or.inr e), mset_v _ _ _ _ hne]
          exact ⟨y1, y2⟩
  have k0 := loop (M 13 0).toNat 0 S none (by omega) hC (fun o a b => by omega) CFr.rf
  repeat (first | exact k0 | refine XQ.go rfl rfl ?_ | refine XQ.zeq0 rfl ?_ | refine XQ.zeq1 rfl ?_ | refine XQ.zne0 rfl ?_ | refine XQ.zne1 rfl ?_ | refine XQ.add rfl ⟨by omega, by omega⟩ ?_ | refine XQ.sub rfl ⟨by omega, by omega⟩ ?_ | refine XQ.inc rfl rfl rfl ⟨by omega, by omega⟩ ?_)
theorem C_spreadOnce (hM : CM x S A M) : XQ (d + 2) k_H_spreadOnce 0 (mentry (mL k_H_spreadOnce) [.inr (some x)]) [] S (fun q S' => q = some (.inl (bI (aSpr false M).1)) ∧ CM x S' A (aSpr false M).2 ∧ CFr x 0 0 S S') := by
  have hb := hM.2.1.1.1
  have loop : ∀ (j k : Nat) (S' : MS) (t : Option MV), ((k + j : Nat) : Int) = M 13 0 → CM x S' A (lp (aSprO false) k (false, M)).2 → CFr x 0 0 S S' → XQ (d + 2) k_H_spreadOnce 4 [some (.inr (some x)), some (.inl (bI (lp (aSprO false) k (false, M)).1)), some (.inl (k : Int)), t] [] S' (fun q S' => q = some (.inl (bI (aSpr false M).1)) ∧ CM x S' A (aSpr false M).2 ∧ CFr x 0 0 S S') := by
    intro j
    induction j with
    | zero =>
      intro k S' t hk hm hf
      have ho : offM M (lp (aSprO false) k (false, M)).2 := lp_off2 (p := (false, M)) (fun o p => aSprO_off false o p) _
      have hF := hm.1.1
      obtain ⟨r1, r2, r3, r4⟩ := hF.r2
      have hr := hm.1.2.2.1.1.1
      rw [ho 13 0 (by decide)] at hr
      have e : aSpr false M = lp (aSprO false) k (false, M) := by unfold aSpr; rw [show (M 13 0).toNat = k by omega]
      rw [e]
      repeat (first | refine XQ.go rfl rfl ?_ | refine XQ.zeq0 rfl ?_ | refine XQ.zeq1 rfl ?_ | refine XQ.zne0 rfl ?_ | refine XQ.zne1 rfl ?_ | refine XQ.add rfl ⟨by omega, by omega⟩ ?_ | refine XQ.sub rfl ⟨by omega, by omega⟩ ?_ | refine XQ.inc rfl rfl rfl ⟨by omega, by omega⟩ ?_)
      refine XQ.gx rfl hF.1 hF.2.2.1 ?_
      refine XQ.v1 rfl r1 rfl (le8 rfl) (C_length (d := d + 1) r1 hr) (fun q S2 hq => ?_)
      obtain ⟨rfl, rfl⟩ := hq
      refine XQ.cge rfl (fun _ => ?_) (fun q => by omega)
      repeat (first | refine XQ.go rfl rfl ?_ | refine XQ.zeq0 rfl ?_ | refine XQ.zeq1 rfl ?_ | refine XQ.zne0 rfl ?_ | refine XQ.zne1 rfl ?_ | refine XQ.add rfl ⟨by omega, by omega⟩ ?_ | refine XQ.sub rfl ⟨by omega, by omega⟩ ?_ | refine XQ.inc rfl rfl rfl ⟨by omega, by omega⟩ ?_)
      refine XQ.ret rfl ?_ ⟨rfl, hm, hf⟩
      cases (lp (aSprO false) k (false, M)).1 <;> rfl
    | succ j ih =>
      intro k S' t hk hm hf
      have ho : offM M (lp (aSprO false) k (false, M)).2 := lp_off2 (p := (false, M)) (fun o p => aSprO_off false o p) _
      have hF := hm.1.1
      obtain ⟨r1, r2, r3, r4⟩ := hF.r2
      have hrow := hm.1.2.2.1.1
      have hr := hrow.1
      have hkn : (k : Int) < (lp (aSprO false) k (false, M)).2 13 0 := by rw [ho 13 0 (by decide)]; omega
      have hob := hm.1.2.2.2.2.1 k (by omega) hkn
      have htg := hob.tg
      rw [ho 13 0 (by decide)] at hr
      have st : lp (aSprO false) (k + 1) (false, M) = aSprO false k (lp (aSprO false) k (false, M)) := rfl
      repeat (first | refine XQ.go rfl rfl ?_ | refine XQ.zeq0 rfl ?_ | refine XQ.zeq1 rfl ?_ | refine XQ.zne0 rfl ?_ | refine XQ.zne1 rfl ?_ | refine XQ.add rfl ⟨by omega, by omega⟩ ?_ | refine XQ.sub rfl ⟨by omega, by omega⟩ ?_ | refine XQ.inc rfl rfl rfl ⟨by omega, by omega⟩ ?_)
      refine XQ.gx rfl hF.1 hF.2.2.1 ?_
      refine XQ.v1 rfl r1 rfl (le8 rfl) (C_length (d := d + 1) r1 hr) (fun q S2 hq => ?_)
      obtain ⟨rfl, rfl⟩ := hq
      refine XQ.cge rfl (fun q => by omega) (fun _ => ?_)
      repeat (first | refine XQ.go rfl rfl ?_ | refine XQ.zeq0 rfl ?_ | refine XQ.zeq1 rfl ?_ | refine XQ.zne0 rfl ?_ | refine XQ.zne1 rfl ?_ | refine XQ.add rfl ⟨by omega, by omega⟩ ?_ | refine XQ.sub rfl ⟨by omega, by omega⟩ ?_ | refine XQ.inc rfl rfl rfl ⟨by omega, by omega⟩ ?_)
      refine XQ.gx rfl hF.1 hF.2.2.1 ?_
      repeat (first | refine XQ.go rfl rfl ?_ | refine XQ.zeq0 rfl ?_ | refine XQ.zeq1 rfl ?_ | refine XQ.zne0 rfl ?_ | refine XQ.zne1 rfl ?_ | refine XQ.add rfl ⟨by omega, by omega⟩ ?_ | refine XQ.sub rfl ⟨by omega, by omega⟩ ?_ | refine XQ.inc rfl rfl rfl ⟨by omega, by omega⟩ ?_)
      refine XQ.v2 rfl r1 rfl (le8 rfl) (C_at (d := d + 1) (i := (k : Int)) r1 r2 r3 r4 hrow (by rw [ho 13 0 (by decide)]; omega) (by omega) (by rw [ho 13 0 (by decide)]; omega)) (fun q S3 hq => ?_)
      obtain ⟨rfl, rfl⟩ := hq
      repeat (first | refine XQ.go rfl rfl ?_ | refine XQ.zeq0 rfl ?_ | refine XQ.zeq1 rfl ?_ | refine XQ.zne0 rfl ?_ | refine XQ.zne1 rfl ?_ | refine XQ.add rfl ⟨by omega, by omega⟩ ?_ | refine XQ.sub rfl ⟨by omega, by omega⟩ ?_ | refine XQ.inc rfl rfl rfl ⟨by omega, by omega⟩ ?_)
      refine XQ.gt rfl htg (hm.2.2 k (by omega) hkn).1 ?_
      refine XQ.zeq rfl (fun q => ?_) (fun q => ?_)
      · have ih' := fun t => ih (k + 1) _ t (by omega) (by rw [st, aSprO_n (Or.inl q)]; exact hm) hf
        rw [st, aSprO_n (Or.inl q)] at ih'
        repeat (first | exact ih' _ | refine XQ.go rfl rfl ?_ | refine XQ.zeq0 rfl ?_ | refine XQ.zeq1 rfl ?_ | refine XQ.zne0 rfl ?_ | refine XQ.zne1 rfl ?_ | refine XQ.add rfl ⟨by omega, by omega⟩ ?_ | refine XQ.sub rfl ⟨by omega, by omega⟩ ?_ | refine XQ.inc rfl rfl rfl ⟨by omega, by omega⟩ ?_)
      · have fin : ∀ (b : Bool) (S2 : MS), b = (aSprO false k (false, (lp (aSprO false) k (false, M)).2)).1 → CM x S2 A (aSprO false k (false, (lp (aSprO false) k (false, M)).2)).2 → CFr x 0 0 S3 S2 → ∀ t, XQ (d + 2) k_H_spreadOnce 39 [some (.inr (some x)), some (.inl (bI (lp (aSprO false) k (false, M)).1)), some (.inl (k : Int)), t] [.inl (bI b)] S2 (fun q S' => q = some (.inl (bI (aSpr false M).1)) ∧ CM x S' A (aSpr false M).2 ∧ CFr x 0 0 S S') := by
          intro b S2 hb2 hm2 hf2 t
          have ih' := fun t => ih (k + 1) S2 t (by omega) (by rw [st, aSprO_lin]; exact hm2) (hf.tr hf2)
          rw [st, aSprO_lin, ← hb2] at ih'
          cases b
          · rw [Bool.or_false] at ih'
            show XQ _ _ _ _ (.inl 0 :: _) _ _
            repeat (first | exact ih' _ | refine XQ.go rfl rfl ?_ | refine XQ.zeq0 rfl ?_ | refine XQ.zeq1 rfl ?_ | refine XQ.zne0 rfl ?_ | refine XQ.zne1 rfl ?_ | refine XQ.add rfl ⟨by omega, by omega⟩ ?_ | refine XQ.sub rfl ⟨by omega, by omega⟩ ?_ | refine XQ.inc rfl rfl rfl ⟨by omega, by omega⟩ ?_)
          · rw [Bool.or_true] at ih'
            show XQ _ _ _ _ (.inl 1 :: _) _ _
            repeat (first | exact ih' _ | refine XQ.go rfl rfl ?_ | refine XQ.zeq0 rfl ?_ | refine XQ.zeq1 rfl ?_ | refine XQ.zne0 rfl ?_ | refine XQ.zne1 rfl ?_ | refine XQ.add rfl ⟨by omega, by omega⟩ ?_ | refine XQ.sub rfl ⟨by omega, by omega⟩ ?_ | refine XQ.inc rfl rfl rfl ⟨by omega, by omega⟩ ?_)
        repeat (first | refine XQ.go rfl rfl ?_ | refine XQ.zeq0 rfl ?_ | refine XQ.zeq1 rfl ?_ | refine XQ.zne0 rfl ?_ | refine XQ.zne1 rfl ?_ | refine XQ.add rfl ⟨by omega, by omega⟩ ?_ | refine XQ.sub rfl ⟨by omega, by omega⟩ ?_ | refine XQ.inc rfl rfl rfl ⟨by omega, by omega⟩ ?_)
        rcases hob.2.2.2 with ⟨z1, z2, -⟩ | ⟨z1, z2, -⟩ | ⟨z1, z2, -⟩
        · refine XQ.v1 rfl z1 rfl (le8 rfl) (C_Vmark (d := d) hm hkn z2 q) (fun q S2 hq => ?_)
          obtain ⟨rfl, hm2, hf2⟩ := hq
          exact fin _ S2 rfl hm2 hf2 _
        · refine XQ.v1 rfl z1 rfl (le8 rfl) (Q' := fun q S'' => S'' = S3 ∧ q = some (.inl 0)) ?_ (fun q S2 hq => ?_)
          · repeat (first | refine XQ.go rfl rfl ?_ | refine XQ.zeq0 rfl ?_ | refine XQ.zeq1 rfl ?_ | refine XQ.zne0 rfl ?_ | refine XQ.zne1 rfl ?_ | refine XQ.add rfl ⟨by omega, by omega⟩ ?_ | refine XQ.sub rfl ⟨by omega, by omega⟩ ?_ | refine XQ.inc rfl rfl rfl ⟨by omega, by omega⟩ ?_)
            exact XQ.ret rfl rfl ⟨rfl, rfl⟩
          · obtain ⟨rfl, rfl⟩ := hq
            refine fin false S2 ?_ ?_ CFr.rf _
            · rw [aSprO_n (p := (false, (lp (aSprO false) k (false, M)).2)) (Or.inr z2)]
            · rw [aSprO_n (p := (false, (lp (aSprO false) k (false, M)).2)) (Or.inr z2)]; exact hm
        · refine XQ.v1 rfl z1 rfl (le8 rfl) (C_Tmark (d := d) hm hkn z2 q) (fun q S2 hq => ?_)
          obtain ⟨rfl, hm2, hf2⟩ := hq
          exact fin _ S2 rfl hm2 hf2 _
  have k0 := loop (M 13 0).toNat 0 S none (by omega) hM CFr.rf
  repeat (first | exact k0 | refine XQ.go rfl rfl ?_ | refine XQ.zeq0 rfl ?_ | refine XQ.zeq1 rfl ?_ | refine XQ.zne0 rfl ?_ | refine XQ.zne1 rfl ?_ | refine XQ.add rfl ⟨by omega, by omega⟩ ?_ | refine XQ.sub rfl ⟨by omega, by omega⟩ ?_ | refine XQ.inc rfl rfl rfl ⟨by omega, by omega⟩ ?_)
theorem C_spreadMarks (hM : CM x S A M) : XQ (d + 3) k_H_spreadMarks 0 (mentry (mL k_H_spreadMarks) [.inr (some x)]) [] S (fun q S' => q = none ∧ CM x S' A (aClo false 21 M) ∧ CFr x 0 0 S S') := by
  have loop : ∀ (j k : Nat) (S' : MS) (M' T : MM), k + j = 21 → CM x S' A M' → aClo false j M' = T → CFr x 0 0 S S' → XQ (d + 3) k_H_spreadMarks 4 [some (.inr (some x)), some (.inl 1), some (.inl (k : Int))] [] S' (fun q S' => q = none ∧ CM x S' A T ∧ CFr x 0 0 S S') := by
    intro j
    induction j with
    | zero =>
      intro k S' M' T hk hm ht hf
      subst ht
      repeat (first | refine XQ.go rfl rfl ?_ | refine XQ.zeq0 rfl ?_ | refine XQ.zeq1 rfl ?_ | refine XQ.zne0 rfl ?_ | refine XQ.zne1 rfl ?_ | refine XQ.add rfl ⟨by omega, by omega⟩ ?_ | refine XQ.sub rfl ⟨by omega, by omega⟩ ?_ | refine XQ.inc rfl rfl rfl ⟨by omega, by omega⟩ ?_)
      refine XQ.cgt rfl (fun _ => ?_) (fun q => by omega)
      exact XQ.ret rfl rfl ⟨rfl, hm, hf⟩
    | succ j ih =>
      intro k S' M' T hk hm ht hf
      subst ht
      repeat (first | refine XQ.go rfl rfl ?_ | refine XQ.zeq0 rfl ?_ | refine XQ.zeq1 rfl ?_ | refine XQ.zne0 rfl ?_ | refine XQ.zne1 rfl ?_ | refine XQ.add rfl ⟨by omega, by omega⟩ ?_ | refine XQ.sub rfl ⟨by omega, by omega⟩ ?_ | refine XQ.inc rfl rfl rfl ⟨by omega, by omega⟩ ?_)
      refine XQ.cgt rfl (fun q => by omega) (fun _ => ?_)
      repeat (first | refine XQ.go rfl rfl ?_ | refine XQ.zeq0 rfl ?_ | refine XQ.zeq1 rfl ?_ | refine XQ.zne0 rfl ?_ | refine XQ.zne1 rfl ?_ | refine XQ.add rfl ⟨by omega, by omega⟩ ?_ | refine XQ.sub rfl ⟨by omega, by omega⟩ ?_ | refine XQ.inc rfl rfl rfl ⟨by omega, by omega⟩ ?_)
      refine XQ.v1 rfl hm.1.1.1 rfl (le8 rfl) (C_spreadOnce (d := d) hm) (fun q S2 hq => ?_)
      obtain ⟨rfl, hm2, hf2⟩ := hq
      cases hb : (aSpr false M').1
      · have e : aClo false (j + 1) M' = (aSpr false M').2 := by rw [aClo, hb]; rfl
        rw [e]
        show XQ _ _ _ _ (.inl 0 :: _) _ _
        repeat (first | refine XQ.go rfl rfl ?_ | refine XQ.zeq0 rfl ?_ | refine XQ.zeq1 rfl ?_ | refine XQ.zne0 rfl ?_ | refine XQ.zne1 rfl ?_ | refine XQ.add rfl ⟨by omega, by omega⟩ ?_ | refine XQ.sub rfl ⟨by omega, by omega⟩ ?_ | refine XQ.inc rfl rfl rfl ⟨by omega, by omega⟩ ?_)
        exact XQ.ret rfl rfl ⟨rfl, hm2, hf.tr hf2⟩
      · have e : aClo false (j + 1) M' = aClo false j (aSpr false M').2 := by rw [aClo, hb]; rfl
        have ih' := ih (k + 1) S2 (aSpr false M').2 _ (by omega) hm2 rfl (hf.tr hf2)
        rw [e]
        show XQ _ _ _ _ (.inl 1 :: _) _ _
        repeat (first | exact ih' | refine XQ.go rfl rfl ?_ | refine XQ.zeq0 rfl ?_ | refine XQ.zeq1 rfl ?_ | refine XQ.zne0 rfl ?_ | refine XQ.zne1 rfl ?_ | refine XQ.add rfl ⟨by omega, by omega⟩ ?_ | refine XQ.sub rfl ⟨by omega, by omega⟩ ?_ | refine XQ.inc rfl rfl rfl ⟨by omega, by omega⟩ ?_)
  have k0 := loop 21 0 S M _ (by omega) hM rfl CFr.rf
  repeat (first | exact k0 | refine XQ.go rfl rfl ?_ | refine XQ.zeq0 rfl ?_ | refine XQ.zeq1 rfl ?_ | refine XQ.zne0 rfl ?_ | refine XQ.zne1 rfl ?_ | refine XQ.add rfl ⟨by omega, by omega⟩ ?_ | refine XQ.sub rfl ⟨by omega, by omega⟩ ?_ | refine XQ.inc rfl rfl rfl ⟨by omega, by omega⟩ ?_)
end H0
