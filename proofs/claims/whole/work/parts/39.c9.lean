/-! marking: the class and the reference in step -/
def CM (x : Nat) (S : MS) (A : Int → Nat) (M : MM) : Prop := CL x S A M ∧ WF M ∧ ∀ o, 0 ≤ o → o < M 13 0 → vS S (A (M 2 o)) 3 = .inl (M 8 o) ∧ (M 8 o = 0 ∨ M 8 o = 1)
def mk1 (M : MM) (is has : Int) : Bool × MM := if is = 9 then aAdd M has else (false, M)
/-- marks only grow -/
def gM (M M' : MM) : Prop := ∀ i, M 8 i ≠ 0 → M' 8 i ≠ 0
theorem gM.rf {M : MM} : gM M M := fun _ h => h
theorem gM.tr {M M1 M2 : MM} (h : gM M M1) (h2 : gM M1 M2) : gM M M2 := fun i hi => h2 i (h i hi)
theorem aAdd_g (M : MM) (h : Int) : gM M (aAdd M h).2 := by
  unfold aAdd
  split
  · exact gM.rf
  · intro i hi
    by_cases e : i = aAt M h
    · show u2 M 8 (aAt M h) 1 8 i ≠ 0
      rw [e, u2_s]; decide
    · show u2 M 8 (aAt M h) 1 8 i ≠ 0
      rw [u2_n _ _ (Or.inr e)]; exact hi
theorem aSprF_g (all : Bool) (o f : Nat) (p : Bool × MM) : gM p.2 (aSprF all o f p).2 := by
  unfold aSprF
  split
  · exact aAdd_g _ _
  · exact gM.rf
theorem aSprO_g (all : Bool) (o : Nat) (p : Bool × MM) : gM p.2 (aSprO all o p).2 := lp_inv (fun _ q => gM p.2 q.2) gM.rf _ (fun i x _ hx => hx.tr (aSprF_g all o i x))
theorem aSpr_g (all : Bool) (M : MM) : gM M (aSpr all M).2 := lp_inv (fun _ (q : Bool × MM) => gM M q.2) gM.rf _ (fun i x _ hx => hx.tr (aSprO_g all i x))
theorem aClo_g (all : Bool) : ∀ (r : Nat) (M : MM), gM M (aClo all r M)
  | 0, M => gM.rf
  | r + 1, M => by
    unfold aClo
    split
    · exact (aSpr_g all M).tr (aClo_g all r _)
    · exact aSpr_g all M
theorem CFr.tr {x c q : Nat} {S S1 S2 : MS} (h : CFr x c q S S1) (h2 : CFr x 0 0 S1 S2) : CFr x c q S S2 := by
  obtain ⟨a1, a2, a3, a4, a5, a6⟩ := h
  obtain ⟨b1, b2, b3, b4, b5, b6⟩ := h2
  exact ⟨by omega, by omega, by omega, by omega, fun a ha => ⟨(b5 a (by omega)).1.trans (a5 a ha).1, (b5 a (by omega)).2.trans (a5 a ha).2⟩, fun a ha => (b6 a ha).trans (a6 a ha)⟩
section G9
variable {d x : Nat} {S S' : MS} {A : Int → Nat} {M M' : MM}
theorem CL.mk (hC : CL x S A M) (hw : WF M) {o b : Int} (h0 : 0 ≤ o) (h1 : o < M 13 0) : CL x (mset S (A (M 2 o)) 3 (.inl b)) A (u2 M 8 o b) := by
  have hO := hC.2.2.2.2.1
  have hge := (hO o h0 h1).1
  have htg := (hO o h0 h1).tg
  refine hC.sto hw (Nat.le_refl _) hC.1.2.2.2.2.2.2.2.2.2.1 (fun _ _ => ⟨rfl, rfl⟩) (fun b' j hb hn => ?_) (offS.rf.u rfl _ _) (fun o' z1 z2 => ?_)
  · by_cases e : b' = A (M 2 o)
    · rw [e, mset_s, if_neg (fun z => hn ⟨by omega, by rw [e]; exact htg, z⟩)]
    · rw [mset_v _ _ _ _ e]
  · have z2 : o' < M 13 0 := by rw [u2_n _ _ (Or.inl (by decide))] at z2; exact z2
    rw [u2_n _ _ (Or.inl (by decide))]
    by_cases e : A (M 2 o') = A (M 2 o)
    · rw [e, mset_s, if_pos rfl]; exact ⟨b, rfl⟩
    · rw [mset_v _ _ _ _ e]; exact hC.2.2.2.2.2.2.2 o' z1 z2
theorem CM.mk (hM : CM x S A M) {o b : Int} (h0 : 0 ≤ o) (h1 : o < M 13 0) (hb : b = 0 ∨ b = 1) : CM x (mset S (A (M 2 o)) 3 (.inl b)) A (u2 M 8 o b) := by
  obtain ⟨hC, hw, hm⟩ := hM
  refine ⟨hC.mk hw h0 h1, hw.off8 (offS.rf.u rfl _ _), fun o' z1 z2 => ?_⟩
  have z2 : o' < M 13 0 := by rw [u2_n _ _ (Or.inl (by decide))] at z2; exact z2
  rw [u2_n (j' := 2) _ _ (Or.inl (by decide))]
  by_cases e : o' = o
  · rw [e, mset_s, if_pos rfl, u2_s]; exact ⟨rfl, hb⟩
  · rw [mset_v _ _ _ _ (A_ne hC.2.2.2.2.1 hw z1 z2 h0 h1 e), u2_n _ _ (Or.inr e)]
    exact hm o' z1 z2
theorem C_mark {r : Option Nat} {is has : Int} (hM : CM x S A M) (hv : VR x S A r is has) (ok : OKV M is has) : XQ d k_H_markIfThing 0 (mentry (mL k_H_markIfThing) [.inr r]) [] S (fun q S' => q = some (.inl (bI (mk1 M is has).1)) ∧ CM x S' A (mk1 M is has).2 ∧ CFr x 0 0 S S') := by
  have hO := hM.1.2.2.2.2.1
  rcases hv.cases hO ok with ⟨e, rfl⟩ | ⟨e, a, rfl, e2, e3⟩ | ⟨e, rfl, e2, e3⟩
  · have em : mk1 M is has = (false, M) := by unfold mk1; rw [if_neg (by omega)]
    rw [em]
    repeat (first | refine XQ.go rfl rfl ?_ | refine XQ.zeq0 rfl ?_ | refine XQ.zeq1 rfl ?_ | refine XQ.zne0 rfl ?_ | refine XQ.zne1 rfl ?_ | refine XQ.add rfl ⟨by omega, by omega⟩ ?_ | refine XQ.sub rfl ⟨by omega, by omega⟩ ?_ | refine XQ.inc rfl rfl rfl ⟨by omega, by omega⟩ ?_)
    exact XQ.ret rfl rfl ⟨rfl, hM, CFr.rf⟩
  · have em : mk1 M is has = (false, M) := by unfold mk1; rw [if_neg (by omega)]
    rw [em]
    repeat (first | refine XQ.go rfl rfl ?_ | refine XQ.zeq0 rfl ?_ | refine XQ.zeq1 rfl ?_ | refine XQ.zne0 rfl ?_ | refine XQ.zne1 rfl ?_ | refine XQ.add rfl ⟨by omega, by omega⟩ ?_ | refine XQ.sub rfl ⟨by omega, by omega⟩ ?_ | refine XQ.inc rfl rfl rfl ⟨by omega, by omega⟩ ?_)
    refine XQ.insN rfl (by rw [e2]; rfl) (by rw [e2]; rfl) ?_
    repeat (first | refine XQ.go rfl rfl ?_ | refine XQ.zeq0 rfl ?_ | refine XQ.zeq1 rfl ?_ | refine XQ.zne0 rfl ?_ | refine XQ.zne1 rfl ?_ | refine XQ.add rfl ⟨by omega, by omega⟩ ?_ | refine XQ.sub rfl ⟨by omega, by omega⟩ ?_ | refine XQ.inc rfl rfl rfl ⟨by omega, by omega⟩ ?_)
    exact XQ.ret rfl rfl ⟨rfl, hM, CFr.rf⟩
  · obtain ⟨o, o0, o1, o2⟩ := e2
    subst o2
    have em : mk1 M is (M 2 o) = if M 8 o = 0 then (true, u2 M 8 o 1) else (false, M) := by
      unfold mk1
      rw [if_pos e]
      unfold aAdd
      rw [aAt_live hM.2.1.2.1 o0 o1]
      by_cases z : M 8 o = 0
      · rw [if_neg (by omega), if_pos z]
      · rw [if_pos (by omega), if_neg z]
    rw [em]
    repeat (first | refine XQ.go rfl rfl ?_ | refine XQ.zeq0 rfl ?_ | refine XQ.zeq1 rfl ?_ | refine XQ.zne0 rfl ?_ | refine XQ.zne1 rfl ?_ | refine XQ.add rfl ⟨by omega, by omega⟩ ?_ | refine XQ.sub rfl ⟨by omega, by omega⟩ ?_ | refine XQ.inc rfl rfl rfl ⟨by omega, by omega⟩ ?_)
    refine XQ.insY rfl e3.c ?_
    repeat (first | refine XQ.go rfl rfl ?_ | refine XQ.zeq0 rfl ?_ | refine XQ.zeq1 rfl ?_ | refine XQ.zne0 rfl ?_ | refine XQ.zne1 rfl ?_ | refine XQ.add rfl ⟨by omega, by omega⟩ ?_ | refine XQ.sub rfl ⟨by omega, by omega⟩ ?_ | refine XQ.inc rfl rfl rfl ⟨by omega, by omega⟩ ?_)
    refine XQ.cst rfl e3.c ?_
    repeat (first | refine XQ.go rfl rfl ?_ | refine XQ.zeq0 rfl ?_ | refine XQ.zeq1 rfl ?_ | refine XQ.zne0 rfl ?_ | refine XQ.zne1 rfl ?_ | refine XQ.add rfl ⟨by omega, by omega⟩ ?_ | refine XQ.sub rfl ⟨by omega, by omega⟩ ?_ | refine XQ.inc rfl rfl rfl ⟨by omega, by omega⟩ ?_)
    refine XQ.gt rfl e3 (hM.2.2 o o0 o1).1 ?_
    refine XQ.zne rfl (fun q => ?_) (fun q => ?_)
    · rw [if_neg q]
      repeat (first | refine XQ.go rfl rfl ?_ | refine XQ.zeq0 rfl ?_ | refine XQ.zeq1 rfl ?_ | refine XQ.zne0 rfl ?_ | refine XQ.zne1 rfl ?_ | refine XQ.add rfl ⟨by omega, by omega⟩ ?_ | refine XQ.sub rfl ⟨by omega, by omega⟩ ?_ | refine XQ.inc rfl rfl rfl ⟨by omega, by omega⟩ ?_)
      exact XQ.ret rfl rfl ⟨rfl, hM, CFr.rf⟩
    · rw [if_pos q]
      repeat (first | refine XQ.go rfl rfl ?_ | refine XQ.zeq0 rfl ?_ | refine XQ.zeq1 rfl ?_ | refine XQ.zne0 rfl ?_ | refine XQ.zne1 rfl ?_ | refine XQ.add rfl ⟨by omega, by omega⟩ ?_ | refine XQ.sub rfl ⟨by omega, by omega⟩ ?_ | refine XQ.inc rfl rfl rfl ⟨by omega, by omega⟩ ?_)
      refine XQ.put rfl e3.c rfl ?_
      repeat (first | refine XQ.go rfl rfl ?_ | refine XQ.zeq0 rfl ?_ | refine XQ.zeq1 rfl ?_ | refine XQ.zne0 rfl ?_ | refine XQ.zne1 rfl ?_ | refine XQ.add rfl ⟨by omega, by omega⟩ ?_ | refine XQ.sub rfl ⟨by omega, by omega⟩ ?_ | refine XQ.inc rfl rfl rfl ⟨by omega, by omega⟩ ?_)
      exact XQ.ret rfl rfl ⟨rfl, hM.mk o0 o1 (Or.inr rfl), CFr.rf.set (Or.inr (hO o o0 o1).1) _ _⟩
theorem mk1_off (M : MM) (is has : Int) : offM M (mk1 M is has).2 := by
  unfold mk1
  split
  · exact aAdd_off _ _
  · exact offM.rf
theorem C_at {rw : Nat} {n l i : Int} {g : Int → Nat} (ht : tS S rw = 6) (h0 : vS S rw 0 = .inr (some (rw + 1))) (ht2 : tS S (rw + 1) = 22) (hl : lS S (rw + 1) = l) (hr : cRow S rw n g) (n1 : n ≤ l) (i0 : 0 ≤ i) (i1 : i < n) : XQ d k_R_at 0 (mentry (mL k_R_at) [.inr (some rw), .inl i]) [] S (fun q S' => S' = S ∧ q = some (.inr (some (g i)))) := by
  repeat (first | refine XQ.go rfl rfl ?_ | refine XQ.zeq0 rfl ?_ | refine XQ.zeq1 rfl ?_ | refine XQ.zne0 rfl ?_ | refine XQ.zne1 rfl ?_ | refine XQ.add rfl ⟨by omega, by omega⟩ ?_ | refine XQ.sub rfl ⟨by omega, by omega⟩ ?_ | refine XQ.inc rfl rfl rfl ⟨by omega, by omega⟩ ?_)
  refine XQ.zlt rfl (fun q => by omega) (fun _ => ?_)
  repeat (first | refine XQ.go rfl rfl ?_ | refine XQ.zeq0 rfl ?_ | refine XQ.zeq1 rfl ?_ | refine XQ.zne0 rfl ?_ | refine XQ.zne1 rfl ?_ | refine XQ.add rfl ⟨by omega, by omega⟩ ?_ | refine XQ.sub rfl ⟨by omega, by omega⟩ ?_ | refine XQ.inc rfl rfl rfl ⟨by omega, by omega⟩ ?_)
  refine XQ.gx rfl ht hr.1 ?_
  refine XQ.cge rfl (fun q => by omega) (fun _ => ?_)
  repeat (first | refine XQ.go rfl rfl ?_ | refine XQ.zeq0 rfl ?_ | refine XQ.zeq1 rfl ?_ | refine XQ.zne0 rfl ?_ | refine XQ.zne1 rfl ?_ | refine XQ.add rfl ⟨by omega, by omega⟩ ?_ | refine XQ.sub rfl ⟨by omega, by omega⟩ ?_ | refine XQ.inc rfl rfl rfl ⟨by omega, by omega⟩ ?_)
  refine XQ.gx rfl ht h0 ?_
  repeat (first | refine XQ.go rfl rfl ?_ | refine XQ.zeq0 rfl ?_ | refine XQ.zeq1 rfl ?_ | refine XQ.zne0 rfl ?_ | refine XQ.zne1 rfl ?_ | refine XQ.add rfl ⟨by omega, by omega⟩ ?_ | refine XQ.sub rfl ⟨by omega, by omega⟩ ?_ | refine XQ.inc rfl rfl rfl ⟨by omega, by omega⟩ ?_)
  refine XQ.lx rfl (Or.inl ht2) i0 (by rw [hl]; omega) (hr.2 i i0 i1) ?_
  repeat (first | refine XQ.go rfl rfl ?_ | refine XQ.zeq0 rfl ?_ | refine XQ.zeq1 rfl ?_ | refine XQ.zne0 rfl ?_ | refine XQ.zne1 rfl ?_ | refine XQ.add rfl ⟨by omega, by omega⟩ ?_ | refine XQ.sub rfl ⟨by omega, by omega⟩ ?_ | refine XQ.inc rfl rfl rfl ⟨by omega, by omega⟩ ?_)
  exact XQ.ret rfl rfl ⟨rfl, rfl⟩
theorem C_markVariables (hM : CM x S A M) : XQ (d + 1) k_H_markVariables 0 (mentry (mL k_H_markVariables) [.inr (some x)]) [] S (fun q S' => q = none ∧ CM x S' A (aVars M) ∧ CFr x 0 0 S S') := by
  have loop : ∀ (j k : Nat) (S' : MS), k + j = 6 → CM x S' A (lp aVr k M) → CFr x 0 0 S S' → XQ (d + 1) k_H_markVariables 2 [some (.inr (some x)), some (.inl (k : Int))] [] S' (fun q S' => q = none ∧ CM x S' A (aVars M) ∧ CFr x 0 0 S S') := by
    intro j
    induction j with
    | zero =>
      intro k S' hk hm hf
      have hk : k = 6 := by omega
      subst hk
      repeat (first | refine XQ.go rfl rfl ?_ | refine XQ.zeq0 rfl ?_ | refine XQ.zeq1 rfl ?_ | refine XQ.zne0 rfl ?_ | refine XQ.zne1 rfl ?_ | refine XQ.add rfl ⟨by omega, by omega⟩ ?_ | refine XQ.sub rfl ⟨by omega, by omega⟩ ?_ | refine XQ.inc rfl rfl rfl ⟨by omega, by omega⟩ ?_)
      refine XQ.cge rfl (fun _ => ?_) (fun q => by omega)
      exact XQ.ret rfl rfl ⟨rfl, hm, hf⟩
    | succ j ih =>
      intro k S' hk hm hf
      have hF := hm.1.1
      obtain ⟨r, h1, h2⟩ := hm.1.2.2.2.1 (k : Int) (by omega) (by omega)
      have ok := hm.2.1.2.2.1 (k : Int) (by omega) (by omega)
      repeat (first | refine XQ.go rfl rfl ?_ | refine XQ.zeq0 rfl ?_ | refine XQ.zeq1 rfl ?_ | refine XQ.zne0 rfl ?_ | refine XQ.zne1 rfl ?_ | refine XQ.add rfl ⟨by omega, by omega⟩ ?_ | refine XQ.sub rfl ⟨by omega, by omega⟩ ?_ | refine XQ.inc rfl rfl rfl ⟨by omega, by omega⟩ ?_)
      refine XQ.cge rfl (fun q => by omega) (fun _ => ?_)
      repeat (first | refine XQ.go rfl rfl ?_ | refine XQ.zeq0 rfl ?_ | refine XQ.zeq1 rfl ?_ | refine XQ.zne0 rfl ?_ | refine XQ.zne1 rfl ?_ | refine XQ.add rfl ⟨by omega, by omega⟩ ?_ | refine XQ.sub rfl ⟨by omega, by omega⟩ ?_ | refine XQ.inc rfl rfl rfl ⟨by omega, by omega⟩ ?_)
      refine XQ.gx rfl hF.1 hF.2.1 ?_
      repeat (first | refine XQ.go rfl rfl ?_ | refine XQ.zeq0 rfl ?_ | refine XQ.zeq1 rfl ?_ | refine XQ.zne0 rfl ?_ | refine XQ.zne1 rfl ?_ | refine XQ.add rfl ⟨by omega, by omega⟩ ?_ | refine XQ.sub rfl ⟨by omega, by omega⟩ ?_ | refine XQ.inc rfl rfl rfl ⟨by omega, by omega⟩ ?_)
      refine XQ.lx rfl (Or.inr hF.2.2.2.2.2.1.1) (by omega) (by rw [hF.2.2.2.2.2.1.2]; omega) h1 ?_
      refine XQ.s1 rfl rfl (le8 rfl) (C_mark (d := d) hm h2 ok) (fun q S2 hq => ?_)
      obtain ⟨rfl, hm2, hf2⟩ := hq
      have e : (mk1 (lp aVr k M) (lp aVr k M 0 k) (lp aVr k M 1 k)).2 = lp aVr (k + 1) M := by
        show _ = aVr k (lp aVr k M)
        unfold mk1 aVr
        split <;> rfl
      rw [e] at hm2
      have ih' := ih (k + 1) S2 (by omega) hm2 (hf.tr hf2)
      repeat (first | exact ih' | refine XQ.go rfl rfl ?_ | refine XQ.zeq0 rfl ?_ | refine XQ.zeq1 rfl ?_ | refine XQ.zne0 rfl ?_ | refine XQ.zne1 rfl ?_ | refine XQ.add rfl ⟨by omega, by omega⟩ ?_ | refine XQ.sub rfl ⟨by omega, by omega⟩ ?_ | refine XQ.inc rfl rfl rfl ⟨by omega, by omega⟩ ?_)
  have k0 := loop 6 0 S (by omega) hM CFr.rf
  repeat (first | exact k0 | refine XQ.go rfl rfl ?_ | refine XQ.zeq0 rfl ?_ | refine XQ.zeq1 rfl ?_ | refine XQ.zne0 rfl ?_ | refine XQ.zne1 rfl ?_ | refine XQ.add rfl ⟨by omega, by omega⟩ ?_ | refine XQ.sub rfl ⟨by omega, by omega⟩ ?_ | refine XQ.inc rfl rfl rfl ⟨by omega, by omega⟩ ?_)
theorem C_markAll (hM : CM x S A M) : XQ (d + 1) k_R_markAll 0 (mentry (mL k_R_markAll) [.inr (some (x + 6))]) [] S (fun q S' => q = none ∧ CM x S' A (aWaits M) ∧ CFr x 0 0 S S') := by
  have hb := hM.2.1.1.2.1
  have loop : ∀ (j k : Nat) (S' : MS), ((k + j : Nat) : Int) = M 13 3 → CM x S' A (lp (fun k M => (aAdd M (M 11 (k : Int))).2) k M) → CFr x 0 0 S S' → XQ (d + 1) k_R_markAll 2 [some (.inr (some (x + 6))), some (.inl (k : Int))] [] S' (fun q S' => q = none ∧ CM x S' A (aWaits M) ∧ CFr x 0 0 S S') := by
    intro j
    induction j with
    | zero =>
      intro k S' hk hm hf
      have ho : offM M (lp (fun k M => (aAdd M (M 11 (k : Int))).2) k M) := lp_off (fun i M => aAdd_off M _) _
      have hF := hm.1.1
      have hr := hm.1.2.2.1.2.2
      rw [ho 13 3 (by decide)] at hr
      obtain ⟨r61, r62, r63, r64⟩ := hF.2.2.2.2.2.2.2.2.1
      repeat (first | refine XQ.go rfl rfl ?_ | refine XQ.zeq0 rfl ?_ | refine XQ.zeq1 rfl ?_ | refine XQ.zne0 rfl ?_ | refine XQ.zne1 rfl ?_ | refine XQ.add rfl ⟨by omega, by omega⟩ ?_ | refine XQ.sub rfl ⟨by omega, by omega⟩ ?_ | refine XQ.inc rfl rfl rfl ⟨by omega, by omega⟩ ?_)
      refine XQ.gx rfl r61 hr.1 ?_
      refine XQ.cge rfl (fun _ => ?_) (fun q => by omega)
      refine XQ.ret rfl rfl ⟨rfl, ?_, hf⟩
      unfold aWaits
      have e : (M 13 3).toNat = k := by omega
      rw [e]
      exact hm
    | succ j ih =>
      intro k S' hk hm hf
      have ho : offM M (lp (fun k M => (aAdd M (M 11 (k : Int))).2) k M) := lp_off (fun i M => aAdd_off M _) _
      have hF := hm.1.1
      have hr := hm.1.2.2.1.2.2
      have lv := hm.2.1.2.2.2.2.2.2.1.2.1 (k : Int) (by omega) (by rw [ho 13 3 (by decide)]; omega)
      have vr : VR x S' A (some (A (lp (fun k M => (aAdd M (M 11 (k : Int))).2) k M 11 k))) 9 (lp (fun k M => (aAdd M (M 11 (k : Int))).2) k M 11 k) := Or.inr (Or.inr ⟨rfl, rfl⟩)
      have hr2 := hr.2 (k : Int) (by omega) (by rw [ho 13 3 (by decide)]; omega)
      have hr1 := hr.1
      rw [ho 13 3 (by decide)] at hr1
      obtain ⟨r61, r62, r63, r64⟩ := hF.2.2.2.2.2.2.2.2.1
      repeat (first | refine XQ.go rfl rfl ?_ | refine XQ.zeq0 rfl ?_ | refine XQ.zeq1 rfl ?_ | refine XQ.zne0 rfl ?_ | refine XQ.zne1 rfl ?_ | refine XQ.add rfl ⟨by omega, by omega⟩ ?_ | refine XQ.sub rfl ⟨by omega, by omega⟩ ?_ | refine XQ.inc rfl rfl rfl ⟨by omega, by omega⟩ ?_)
      refine XQ.gx rfl r61 hr1 ?_
      refine XQ.cge rfl (fun q => by omega) (fun _ => ?_)
      repeat (first | refine XQ.go rfl rfl ?_ | refine XQ.zeq0 rfl ?_ | refine XQ.zeq1 rfl ?_ | refine XQ.zne0 rfl ?_ | refine XQ.zne1 rfl ?_ | refine XQ.add rfl ⟨by omega, by omega⟩ ?_ | refine XQ.sub rfl ⟨by omega, by omega⟩ ?_ | refine XQ.inc rfl rfl rfl ⟨by omega, by omega⟩ ?_)
      refine XQ.gx rfl r61 r62 ?_
      repeat (first | refine XQ.go rfl rfl ?_ | refine XQ.zeq0 rfl ?_ | refine XQ.zeq1 rfl ?_ | refine XQ.zne0 rfl ?_ | refine XQ.zne1 rfl ?_ | refine XQ.add rfl ⟨by omega, by omega⟩ ?_ | refine XQ.sub rfl ⟨by omega, by omega⟩ ?_ | refine XQ.inc rfl rfl rfl ⟨by omega, by omega⟩ ?_)
      refine XQ.lx rfl (Or.inl r63) (by omega) (by rw [r64]; omega) hr2 ?_
      refine XQ.s1 rfl rfl (le8 rfl) (C_mark (d := d) hm vr (Or.inr (Or.inr ⟨rfl, lv⟩))) (fun q S2 hq => ?_)
      obtain ⟨rfl, hm2, hf2⟩ := hq
      have ih' := ih (k + 1) S2 (by omega) hm2 (hf.tr hf2)
      repeat (first | exact ih' | refine XQ.go rfl rfl ?_ | refine XQ.zeq0 rfl ?_ | refine XQ.zeq1 rfl ?_ | refine XQ.zne0 rfl ?_ | refine XQ.zne1 rfl ?_ | refine XQ.add rfl ⟨by omega, by omega⟩ ?_ | refine XQ.sub rfl ⟨by omega, by omega⟩ ?_ | refine XQ.inc rfl rfl rfl ⟨by omega, by omega⟩ ?_)
  have k0 := loop (M 13 3).toNat 0 S (by omega) hM CFr.rf
  repeat (first | exact k0 | refine XQ.go rfl rfl ?_ | refine XQ.zeq0 rfl ?_ | refine XQ.zeq1 rfl ?_ | refine XQ.zne0 rfl ?_ | refine XQ.zne1 rfl ?_ | refine XQ.add rfl ⟨by omega, by omega⟩ ?_ | refine XQ.sub rfl ⟨by omega, by omega⟩ ?_ | refine XQ.inc rfl rfl rfl ⟨by omega, by omega⟩ ?_)
theorem aSprF_y {o f : Nat} {p : Bool × MM} (h1 : p.2 8 o ≠ 0) (h2 : aCnt false p.2 o f = true) : aSprF false o f p = (p.1 || (mk1 p.2 (p.2 5 (4 * (o : Int) + f)) (p.2 6 (4 * (o : Int) + f))).1, (mk1 p.2 (p.2 5 (4 * (o : Int) + f)) (p.2 6 (4 * (o : Int) + f))).2) := by
  unfold aSprF mk1
  by_cases h : p.2 5 (4 * (o : Int) + f) = 9
  · rw [if_pos ⟨h1, h2, h⟩, if_pos h]
  · rw [if_neg (fun z => h z.2.2), if_neg h, Bool.or_false]
theorem aSprF_n {all : Bool} {o f : Nat} {p : Bool × MM} (h2 : p.2 8 o = 0 ∨ aCnt all p.2 o f = false) : aSprF all o f p = p := by
  unfold aSprF
  rw [if_neg (fun z => ?_)]
  rcases h2 with h | h
  · exact z.1 h
  · rw [h] at z; cases z.2.1
theorem aCnt_2 {all : Bool} {M : MM} {o f : Int} (h : M 3 o = 2) : aCnt all M o f = true := by unfold aCnt; rw [h]; rfl
theorem aCnt_3 {all : Bool} {M : MM} {o f : Int} (h : M 3 o = 3) : aCnt all M o f = false := by unfold aCnt; rw [h]; rfl
theorem aCnt_4 {M : MM} {o f : Int} (h : M 3 o = 4) : aCnt false M o f = aIsM M (M 7 (4 * o + f)) := by unfold aCnt; rw [h]; simp
/-- whether a live object is marked -/
theorem aIsM_live {M : MM} (hw : wN M) {o : Int} (h0 : 0 ≤ o) (h1 : o < M 13 0) : aIsM M (M 2 o) = decide (¬ M 8 o = 0) := by
  unfold aIsM
  rw [aAt_live hw h0 h1]
  congr 1
  exact propext ⟨fun z => z.2, fun z => ⟨h0, z⟩⟩
theorem C_Vmark {o : Nat} (hM : CM x S A M) (ho : (o : Int) < M 13 0) (h2 : M 3 o = 2) (hm8 : M 8 o ≠ 0) : XQ (d + 1) k_V_markHeld 0 (mentry (mL k_V_markHeld) [.inr (some (A (M 2 o)))]) [] S (fun q S' => q = some (.inl (bI (aSprO false o (false, M)).1)) ∧ CM x S' A (aSprO false o (false, M)).2 ∧ CFr x 0 0 S S') := by
  have hmb := hM.2.1.1.2.2.1 o (by omega) ho
  have loop : ∀ (j f : Nat) (S' : MS), ((f + j : Nat) : Int) = M 4 o → CM x S' A (lp (aSprF false o) f (false, M)).2 → CFr x 0 0 S S' → XQ (d + 1) k_V_markHeld 4 [some (.inr (some (A (M 2 o)))), some (.inl (bI (lp (aSprF false o) f (false, M)).1)), some (.inl (f : Int))] [] S' (fun q S' => q = some (.inl (bI (aSprO false o (false, M)).1)) ∧ CM x S' A (aSprO false o (false, M)).2 ∧ CFr x 0 0 S S') := by
    intro j
    induction j with
    | zero =>
      intro f S' hk hm hf
      have hoff : offM M (lp (aSprF false o) f (false, M)).2 := lp_off2 (p := (false, M)) (fun f p => aSprF_off false o f p) _
      have hob := hm.1.2.2.2.2.1 o (by omega) (by rw [hoff 13 0 (by decide)]; exact ho)
      unfold cObj at hob
      rw [hoff 2 o (by decide), hoff 3 o (by decide), hoff 4 o (by decide)] at hob
      have e : (M 4 o).toNat = f := by omega
      have e2 : aSprO false o (false, M) = lp (aSprF false o) f (false, M) := by unfold aSprO; rw [e]
      rw [e2]
      rcases hob.2.2.2 with ⟨z1, z2, z3, z4, z5, -⟩ | z | z
      · repeat (first | refine XQ.go rfl rfl ?_ | refine XQ.zeq0 rfl ?_ | refine XQ.zeq1 rfl ?_ | refine XQ.zne0 rfl ?_ | refine XQ.zne1 rfl ?_ | refine XQ.add rfl ⟨by omega, by omega⟩ ?_ | refine XQ.sub rfl ⟨by omega, by omega⟩ ?_ | refine XQ.inc rfl rfl rfl ⟨by omega, by omega⟩ ?_)
        refine XQ.gx rfl z1 z3 ?_
        refine XQ.len rfl (by rw [z4]; decide) z5 ?_
        refine XQ.cge rfl (fun _ => ?_) (fun q => by omega)
        repeat (first | refine XQ.go rfl rfl ?_ | refine XQ.zeq0 rfl ?_ | refine XQ.zeq1 rfl ?_ | refine XQ.zne0 rfl ?_ | refine XQ.zne1 rfl ?_ | refine XQ.add rfl ⟨by omega, by omega⟩ ?_ | refine XQ.sub rfl ⟨by omega, by omega⟩ ?_ | refine XQ.inc rfl rfl rfl ⟨by omega, by omega⟩ ?_)
        refine XQ.ret rfl ?_ ⟨rfl, hm, hf⟩
        cases (lp (aSprF false o) f (false, M)).1 <;> rfl
      · omega
      · omega
    | succ j ih =>
      intro f S' hk hm hf
      have hoff : offM M (lp (aSprF false o) f (false, M)).2 := lp_off2 (p := (false, M)) (fun f p => aSprF_off false o f p) _
      have hgr : gM M (lp (aSprF false o) f (false, M)).2 := lp_inv (fun _ (q : Bool × MM) => gM M q.2) gM.rf _ (fun i x _ hx => hx.tr (aSprF_g false o i x))
      have hob := hm.1.2.2.2.2.1 o (by omega) (by rw [hoff 13 0 (by decide)]; exact ho)
      unfold cObj at hob
      rw [hoff 2 o (by decide), hoff 3 o (by decide), hoff 4 o (by decide)] at hob
      have st : lp (aSprF false o) (f + 1) (false, M) = _ := aSprF_y (f := f) (p := lp (aSprF false o) f (false, M)) (hgr o hm8) (aCnt_2 (by rw [hoff 3 o (by decide)]; exact h2))
      have hwf := (hm.2.1.2.2.2.1 o f (by omega) (by rw [hoff 13 0 (by decide)]; exact ho) (by omega) (by rw [hoff 4 o (by decide)]; omega)).1
      rcases hob.2.2.2 with ⟨z1, z2, z3, z4, z5, z6⟩ | z | z
      · obtain ⟨r, y1, y2⟩ := z6 f (by omega) (by omega)
        repeat (first | refine XQ.go rfl rfl ?_ | refine XQ.zeq0 rfl ?_ | refine XQ.zeq1 rfl ?_ | refine XQ.zne0 rfl ?_ | refine XQ.zne1 rfl ?_ | refine XQ.add rfl ⟨by omega, by omega⟩ ?_ | refine XQ.sub rfl ⟨by omega, by omega⟩ ?_ | refine XQ.inc rfl rfl rfl ⟨by omega, by omega⟩ ?_)
        refine XQ.gx rfl z1 z3 ?_
        refine XQ.len rfl (by rw [z4]; decide) z5 ?_
        refine XQ.cge rfl (fun q => by omega) (fun _ => ?_)
        repeat (first | refine XQ.go rfl rfl ?_ | refine XQ.zeq0 rfl ?_ | refine XQ.zeq1 rfl ?_ | refine XQ.zne0 rfl ?_ | refine XQ.zne1 rfl ?_ | refine XQ.add rfl ⟨by omega, by omega⟩ ?_ | refine XQ.sub rfl ⟨by omega, by omega⟩ ?_ | refine XQ.inc rfl rfl rfl ⟨by omega, by omega⟩ ?_)
        refine XQ.gx rfl z1 z3 ?_
        repeat (first | refine XQ.go rfl rfl ?_ | refine XQ.zeq0 rfl ?_ | refine XQ.zeq1 rfl ?_ | refine XQ.zne0 rfl ?_ | refine XQ.zne1 rfl ?_ | refine XQ.add rfl ⟨by omega, by omega⟩ ?_ | refine XQ.sub rfl ⟨by omega, by omega⟩ ?_ | refine XQ.inc rfl rfl rfl ⟨by omega, by omega⟩ ?_)
        refine XQ.lx rfl (Or.inr z4) (by omega) (by rw [z5]; omega) y1 ?_
        refine XQ.s1 rfl rfl (le8 rfl) (C_mark (d := d) hm y2 hwf) (fun q S2 hq => ?_)
        obtain ⟨rfl, hm2, hf2⟩ := hq
        have ih' := ih (f + 1) S2 (by omega) (by rw [st]; exact hm2) (hf.tr hf2)
        rw [st] at ih'
        cases hb : (mk1 (lp (aSprF false o) f (false, M)).2 ((lp (aSprF false o) f (false, M)).2 5 (4 * (o : Int) + f)) ((lp (aSprF false o) f (false, M)).2 6 (4 * (o : Int) + f))).1
        · rw [hb, Bool.or_false] at ih'
          show XQ _ _ _ _ (.inl 0 :: _) _ _
          repeat (first | exact ih' | refine XQ.go rfl rfl ?_ | refine XQ.zeq0 rfl ?_ | refine XQ.zeq1 rfl ?_ | refine XQ.zne0 rfl ?_ | refine XQ.zne1 rfl ?_ | refine XQ.add rfl ⟨by omega, by omega⟩ ?_ | refine XQ.sub rfl ⟨by omega, by omega⟩ ?_ | refine XQ.inc rfl rfl rfl ⟨by omega, by omega⟩ ?_)
        · rw [hb, Bool.or_true] at ih'
          show XQ _ _ _ _ (.inl 1 :: _) _ _
          repeat (first | exact ih' | refine XQ.go rfl rfl ?_ | refine XQ.zeq0 rfl ?_ | refine XQ.zeq1 rfl ?_ | refine XQ.zne0 rfl ?_ | refine XQ.zne1 rfl ?_ | refine XQ.add rfl ⟨by omega, by omega⟩ ?_ | refine XQ.sub rfl ⟨by omega, by omega⟩ ?_ | refine XQ.inc rfl rfl rfl ⟨by omega, by omega⟩ ?_)
      · omega
      · omega
  have k0 := loop (M 4 o).toNat 0 S (by omega) hM CFr.rf
  repeat (first | exact k0 | refine XQ.go rfl rfl ?_ | refine XQ.zeq0 rfl ?_ | refine XQ.zeq1 rfl ?_ | refine XQ.zne0 rfl ?_ | refine XQ.zne1 rfl ?_ | refine XQ.add rfl ⟨by omega, by omega⟩ ?_ | refine XQ.sub rfl ⟨by omega, by omega⟩ ?_ | refine XQ.inc rfl rfl rfl ⟨by omega, by omega⟩ ?_)
theorem C_Tmark {o : Nat} (hM : CM x S A M) (ho : (o : Int) < M 13 0) (h4 : M 3 o = 4) (hm8 : M 8 o ≠ 0) : XQ (d + 1) k_T_markHeld 0 (mentry (mL k_T_markHeld) [.inr (some (A (M 2 o)))]) [] S (fun q S' => q = some (.inl (bI (aSprO false o (false, M)).1)) ∧ CM x S' A (aSprO false o (false, M)).2 ∧ CFr x 0 0 S S') := by
  have hmb := hM.2.1.1.2.2.1 o (by omega) ho
  have loop : ∀ (j f : Nat) (S' : MS) (t : Option MV), ((f + j : Nat) : Int) = M 4 o → CM x S' A (lp (aSprF false o) f (false, M)).2 → CFr x 0 0 S S' → XQ (d + 1) k_T_markHeld 4 [some (.inr (some (A (M 2 o)))), some (.inl (bI (lp (aSprF false o) f (false, M)).1)), some (.inl (f : Int)), t] [] S' (fun q S' => q = some (.inl (bI (aSprO false o (false, M)).1)) ∧ CM x S' A (aSprO false o (false, M)).2 ∧ CFr x 0 0 S S') := by
    intro j
    induction j with
    | zero =>
      intro f S' t hk hm hf
      have hoff : offM M (lp (aSprF false o) f (false, M)).2 := lp_off2 (p := (false, M)) (fun f p => aSprF_off false o f p) _
      have hob := hm.1.2.2.2.2.1 o (by omega) (by rw [hoff 13 0 (by decide)]; exact ho)
      unfold cObj at hob
      rw [hoff 2 o (by decide), hoff 3 o (by decide), hoff 4 o (by decide)] at hob
      have e : (M 4 o).toNat = f := by omega
      have e2 : aSprO false o (false, M) = lp (aSprF false o) f (false, M) := by unfold aSprO; rw [e]
      rw [e2]
      rcases hob.2.2.2 with z | z | ⟨z1, z2, z3, z4, z5, -⟩
      · omega
      · omega
      · repeat (first | refine XQ.go rfl rfl ?_ | refine XQ.zeq0 rfl ?_ | refine XQ.zeq1 rfl ?_ | refine XQ.zne0 rfl ?_ | refine XQ.zne1 rfl ?_ | refine XQ.add rfl ⟨by omega, by omega⟩ ?_ | refine XQ.sub rfl ⟨by omega, by omega⟩ ?_ | refine XQ.inc rfl rfl rfl ⟨by omega, by omega⟩ ?_)
        refine XQ.gx rfl z1 z5 ?_
        refine XQ.cge rfl (fun _ => ?_) (fun q => by omega)
        repeat (first | refine XQ.go rfl rfl ?_ | refine XQ.zeq0 rfl ?_ | refine XQ.zeq1 rfl ?_ | refine XQ.zne0 rfl ?_ | refine XQ.zne1 rfl ?_ | refine XQ.add rfl ⟨by omega, by omega⟩ ?_ | refine XQ.sub rfl ⟨by omega, by omega⟩ ?_ | refine XQ.inc rfl rfl rfl ⟨by omega, by omega⟩ ?_)
        refine XQ.ret rfl ?_ ⟨rfl, hm, hf⟩
        cases (lp (aSprF false o) f (false, M)).1 <;> rfl
    | succ j ih =>
      intro f S' t hk hm hf
      have hoff : offM M (lp (aSprF false o) f (false, M)).2 := lp_off2 (p := (false, M)) (fun f p => aSprF_off false o f p) _
      have hgr : gM M (lp (aSprF false o) f (false, M)).2 := lp_inv (fun _ (q : Bool × MM) => gM M q.2) gM.rf _ (fun i x _ hx => hx.tr (aSprF_g false o i x))
      have hO := hm.1.2.2.2.2.1
      have hob := hO o (by omega) (by rw [hoff 13 0 (by decide)]; exact ho)
      unfold cObj at hob
      rw [hoff 2 o (by decide), hoff 3 o (by decide), hoff 4 o (by decide)] at hob
      have h4' : (lp (aSprF false o) f (false, M)).2 3 o = 4 := by rw [hoff 3 o (by decide)]; exact h4
      have hwf := hm.2.1.2.2.2.1 o f (by omega) (by rw [hoff 13 0 (by decide)]; exact ho) (by omega) (by rw [hoff 4 o (by decide)]; omega)
      have hlk := hwf.2.2 h4'
      have htk := live_tg hO hlk
      rcases hob.2.2.2 with z | z | ⟨z1, z2, z3, z4, z5, z6, z7, z8, z9, z10⟩
      · omega
      · omega
      · obtain ⟨y0, r, y1, y2⟩ := z10 f (by omega) (by omega)
        repeat (first | refine XQ.go rfl rfl ?_ | refine XQ.zeq0 rfl ?_ | refine XQ.zeq1 rfl ?_ | refine XQ.zne0 rfl ?_ | refine XQ.zne1 rfl ?_ | refine XQ.add rfl ⟨by omega, by omega⟩ ?_ | refine XQ.sub rfl ⟨by omega, by omega⟩ ?_ | refine XQ.inc rfl rfl rfl ⟨by omega, by omega⟩ ?_)
        refine XQ.gx rfl z1 z5 ?_
        refine XQ.cge rfl (fun q => by omega) (fun _ => ?_)
        repeat (first | refine XQ.go rfl rfl ?_ | refine XQ.zeq0 rfl ?_ | refine XQ.zeq1 rfl ?_ | refine XQ.zne0 rfl ?_ | refine XQ.zne1 rfl ?_ | refine XQ.add rfl ⟨by omega, by omega⟩ ?_ | refine XQ.sub rfl ⟨by omega, by omega⟩ ?_ | refine XQ.inc rfl rfl rfl ⟨by omega, by omega⟩ ?_)
        refine XQ.gx rfl z1 z3 ?_
        repeat (first | refine XQ.go rfl rfl ?_ | refine XQ.zeq0 rfl ?_ | refine XQ.zeq1 rfl ?_ | refine XQ.zne0 rfl ?_ | refine XQ.zne1 rfl ?_ | refine XQ.add rfl ⟨by omega, by omega⟩ ?_ | refine XQ.sub rfl ⟨by omega, by omega⟩ ?_ | refine XQ.inc rfl rfl rfl ⟨by omega, by omega⟩ ?_)
        refine XQ.lx rfl (Or.inl z6) (by omega) (by rw [z7]; omega) y0 ?_
        repeat (first | refine XQ.go rfl rfl ?_ | refine XQ.zeq0 rfl ?_ | refine XQ.zeq1 rfl ?_ | refine XQ.zne0 rfl ?_ | refine XQ.zne1 rfl ?_ | refine XQ.add rfl ⟨by omega, by omega⟩ ?_ | refine XQ.sub rfl ⟨by omega, by omega⟩ ?_ | refine XQ.inc rfl rfl rfl ⟨by omega, by omega⟩ ?_)
        obtain ⟨ko, k0, k1, k2⟩ := hlk
        have hmk := (hm.2.2 ko k0 k1)
        rw [k2] at hmk
        have hism := aIsM_live hm.2.1.2.1 k0 k1
        rw [k2] at hism
        refine XQ.gt rfl htk hmk.1 ?_
        refine XQ.zeq rfl (fun q => ?_) (fun q => ?_)
        · have st : lp (aSprF false o) (f + 1) (false, M) = lp (aSprF false o) f (false, M) := aSprF_n (f := f) (p := lp (aSprF false o) f (false, M)) (Or.inr (by rw [aCnt_4 h4', hism, q]; rfl))
          have ih' := fun t => ih (f + 1) S' t (by omega) (by rw [st]; exact hm) hf
          rw [st] at ih'
          repeat (first | exact ih' _ | refine XQ.go rfl rfl ?_ | refine XQ.zeq0 rfl ?_ | refine XQ.zeq1 rfl ?_ | refine XQ.zne0 rfl ?_ | refine XQ.zne1 rfl ?_ | refine XQ.add rfl ⟨by omega, by omega⟩ ?_ | refine XQ.sub rfl ⟨by omega, by omega⟩ ?_ | refine XQ.inc rfl rfl rfl ⟨by omega, by omega⟩ ?_)
        · have st : lp (aSprF false o) (f + 1) (false, M) = _ := aSprF_y (f := f) (p := lp (aSprF false o) f (false, M)) (hgr o hm8) (by rw [aCnt_4 h4', hism]; exact decide_eq_true q)
          repeat (first | refine XQ.go rfl rfl ?_ | refine XQ.zeq0 rfl ?_ | refine XQ.zeq1 rfl ?_ | refine XQ.zne0 rfl ?_ | refine XQ.zne1 rfl ?_ | refine XQ.add rfl ⟨by omega, by omega⟩ ?_ | refine XQ.sub rfl ⟨by omega, by omega⟩ ?_ | refine XQ.inc rfl rfl rfl ⟨by omega, by omega⟩ ?_)
          refine XQ.gx rfl z1 z4 ?_
          repeat (first | refine XQ.go rfl rfl ?_ | refine XQ.zeq0 rfl ?_ | refine XQ.zeq1 rfl ?_ | refine XQ.zne0 rfl ?_ | refine XQ.zne1 rfl ?_ | refine XQ.add rfl ⟨by omega, by omega⟩ ?_ | refine XQ.sub rfl ⟨by omega, by omega⟩ ?_ | refine XQ.inc rfl rfl rfl ⟨by omega, by omega⟩ ?_)
          refine XQ.lx rfl (Or.inr z8) (by omega) (by rw [z9]; omega) y1 ?_
          refine XQ.s1 rfl rfl (le8 rfl) (C_mark (d := d) hm y2 hwf.1) (fun q S2 hq => ?_)
          obtain ⟨rfl, hm2, hf2⟩ := hq
          have ih' := fun t => ih (f + 1) S2 t (by omega) (by rw [st]; exact hm2) (hf.tr hf2)
          rw [st] at ih'
          cases hb : (mk1 (lp (aSprF false o) f (false, M)).2 ((lp (aSprF false o) f (false, M)).2 5 (4 * (o : Int) + f)) ((lp (aSprF false o) f (false, M)).2 6 (4 * (o : Int) + f))).1
          · rw [hb, Bool.or_false] at ih'
            show XQ _ _ _ _ (.inl 0 :: _) _ _
            repeat (first | exact ih' _ | refine XQ.go rfl rfl ?_ | refine XQ.zeq0 rfl ?_ | refine XQ.zeq1 rfl ?_ | refine XQ.zne0 rfl ?_ | refine XQ.zne1 rfl ?_ | refine XQ.add rfl ⟨by omega, by omega⟩ ?_ | refine XQ.sub rfl ⟨by omega, by omega⟩ ?_ | refine XQ.inc rfl rfl rfl ⟨by omega, by omega⟩ ?_)
          · rw [hb, Bool.or_true] at ih'
            show XQ _ _ _ _ (.inl 1 :: _) _ _
            repeat (first | exact ih' _ | refine XQ.go rfl rfl ?_ | refine XQ.zeq0 rfl ?_ | refine XQ.zeq1 rfl ?_ | refine XQ.zne0 rfl ?_ | refine XQ.zne1 rfl ?_ | refine XQ.add rfl ⟨by omega, by omega⟩ ?_ | refine XQ.sub rfl ⟨by omega, by omega⟩ ?_ | refine XQ.inc rfl rfl rfl ⟨by omega, by omega⟩ ?_)
  have k0 := loop (M 4 o).toNat 0 S none (by omega) hM CFr.rf
  repeat (first | exact k0 | refine XQ.go rfl rfl ?_ | refine XQ.zeq0 rfl ?_ | refine XQ.zeq1 rfl ?_ | refine XQ.zne0 rfl ?_ | refine XQ.zne1 rfl ?_ | refine XQ.add rfl ⟨by omega, by omega⟩ ?_ | refine XQ.sub rfl ⟨by omega, by omega⟩ ?_ | refine XQ.inc rfl rfl rfl ⟨by omega, by omega⟩ ?_)
end G9
