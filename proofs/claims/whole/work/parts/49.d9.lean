/-! the class's methods, walked: makeRoom, settle, vector, weak, table, collect -/
theorem CFr.tl {x c q : Nat} {S S1 S2 : MS} (h : CFr x 0 0 S S1) (h2 : CFr x c q S1 S2) : CFr x c q S S2 := by
  obtain ⟨a1, a2, a3, a4, a5, a6⟩ := h
  obtain ⟨b1, b2, b3, b4, b5, b6⟩ := h2
  exact ⟨by omega, by omega, by omega, by omega, fun a ha => ⟨(b5 a (by omega)).1.trans (a5 a ha).1, (b5 a (by omega)).2.trans (a5 a ha).2⟩, fun a ha => (b6 a ha).trans (a6 a ha)⟩
def updA (A : Int → Nat) (h : Int) (a : Nat) : Int → Nat := fun h' => if h' = h then a else A h'
theorem aColl_01 {M : MM} (hw : WF M) (hr : M 13 4 < 100000) (j : Nat) (hj : j = 0 ∨ j = 1) (i : Int) : (aColl M).2 j i = M j i := by
  obtain ⟨w1, w1r, w2⟩ := aC2_wf hw hr
  obtain ⟨l1, l2, l3⟩ := aLoose_wf w2
  obtain ⟨-, co, -⟩ := aCallW_ok l2.1
  obtain ⟨w3, -, w4, -⟩ := aC4_ch hw hr
  obtain ⟨-, so, -⟩ := aSweep_ch (M := aC4 M) w4.1.1.1
  have e1 : (aColl M).2 j i = aC4 M j i := so j i (by rcases hj with rfl | rfl <;> rfl)
  have e2 : aC4 M j i = aC3 M j i := ((aWaits_off (aC3 M)).tr (aClo_off true 21 _)) j i (by omega)
  have e3 : aC3 M j i = aLoose (aC2 M) j i := co j i (by rcases hj with rfl | rfl <;> rfl)
  have e4 : aLoose (aC2 M) j i = aC2 M j i := l1 j i (by rcases hj with rfl | rfl <;> rfl)
  have e5 : aC2 M j i = aC1 M j i := ((aRoots_off (aC1 M)).tr (aClo_off false 21 _)) j i (by omega)
  have e6 : aC1 M j i = u2 M 13 4 (M 13 4 + 1) j i := aClear_off _ j i (by omega)
  rw [e1, e2, e3, e4, e5, e6, u2_n _ _ (Or.inl (by omega))]
theorem aRoom_wf {M : MM} (hw : WF M) (hr : M 13 4 < 100000) (room : Int) : WF (aRoom M room) ∧ ∀ j i, (j = 0 ∨ j = 1) → aRoom M room j i = M j i := by
  unfold aRoom
  split
  · exact ⟨aColl_wf hw hr, fun j i hj => aColl_01 hw hr j hj i⟩
  · exact ⟨hw, fun _ _ _ => rfl⟩
section H9
variable {d x : Nat} {S S' : MS} {A A' : Int → Nat} {M M' N : MM}
theorem C_collect (hC : CL x S A M) (hw : WF M) (hr : M 13 4 < 100000) : XQ (d + 5) k_H_collect 0 (mentry (mL k_H_collect) [.inr (some x)]) [] S (fun q S' => q = some (.inl (aColl M).1) ∧ CL x S' A (aColl M).2 ∧ WF (aColl M).2 ∧ CFr x 3 30 S S') := by
  repeat (first | refine XQ.go rfl rfl ?_ | refine XQ.zeq0 rfl ?_ | refine XQ.zeq1 rfl ?_ | refine XQ.zne0 rfl ?_ | refine XQ.zne1 rfl ?_ | refine XQ.add rfl ⟨by omega, by omega⟩ ?_ | refine XQ.sub rfl ⟨by omega, by omega⟩ ?_ | refine XQ.inc rfl rfl rfl ⟨by omega, by omega⟩ ?_)
  refine XQ.v1 rfl hC.1.1 rfl (le8 rfl) (C_runCollection (d := d) hC hw hr) (fun q S2 hq => ?_)
  obtain ⟨rfl, c2, f2⟩ := hq
  exact XQ.ret rfl rfl ⟨rfl, c2, aColl_wf hw hr, f2.tl CFr.rf⟩
theorem C_makeRoom {room : Int} (hC : CL x S A M) (hw : WF M) (hr : M 13 4 < 100000) (h3 : 3 ≤ room) (h8 : room ≤ 8) : XQ (d + 5) k_H_makeRoom 0 (mentry (mL k_H_makeRoom) [.inr (some x), .inl room]) [] S (fun q S' => ((q = some (.inl 1) ∧ aUsed (aRoom M room) + room ≤ 60) ∨ (q = some (.inl 0) ∧ 60 < aUsed (aRoom M room) + room)) ∧ CL x S' A (aRoom M room) ∧ CFr x 0 0 S S') := by
  have hu := hw.1.used
  have hb := hw.1.1
  have fin : ∀ (S2 : MS), CL x S2 A (aRoom M room) → CFr x 0 0 S S2 → XQ (d + 5) k_H_makeRoom 16 [some (.inr (some x)), some (.inl room)] [] S2 (fun q S' => ((q = some (.inl 1) ∧ aUsed (aRoom M room) + room ≤ 60) ∨ (q = some (.inl 0) ∧ 60 < aUsed (aRoom M room) + room)) ∧ CL x S' A (aRoom M room) ∧ CFr x 0 0 S S') := by
    intro S2 c2 f2
    have hW := (aRoom_wf hw hr room).1
    have hu2 := hW.1.used
    have hb2 := hW.1.1
    repeat (first | refine XQ.go rfl rfl ?_ | refine XQ.zeq0 rfl ?_ | refine XQ.zeq1 rfl ?_ | refine XQ.zne0 rfl ?_ | refine XQ.zne1 rfl ?_ | refine XQ.add rfl ⟨by omega, by omega⟩ ?_ | refine XQ.sub rfl ⟨by omega, by omega⟩ ?_ | refine XQ.inc rfl rfl rfl ⟨by omega, by omega⟩ ?_)
    refine XQ.gx rfl c2.1.1 c2.2.2.2.2.2.1.1 ?_
    repeat (first | refine XQ.go rfl rfl ?_ | refine XQ.zeq0 rfl ?_ | refine XQ.zeq1 rfl ?_ | refine XQ.zne0 rfl ?_ | refine XQ.zne1 rfl ?_ | refine XQ.add rfl ⟨by omega, by omega⟩ ?_ | refine XQ.sub rfl ⟨by omega, by omega⟩ ?_ | refine XQ.inc rfl rfl rfl ⟨by omega, by omega⟩ ?_)
    refine XQ.clt rfl (fun q => ?_) (fun q => ?_)
    · repeat (first | refine XQ.go rfl rfl ?_ | refine XQ.zeq0 rfl ?_ | refine XQ.zeq1 rfl ?_ | refine XQ.zne0 rfl ?_ | refine XQ.zne1 rfl ?_ | refine XQ.add rfl ⟨by omega, by omega⟩ ?_ | refine XQ.sub rfl ⟨by omega, by omega⟩ ?_ | refine XQ.inc rfl rfl rfl ⟨by omega, by omega⟩ ?_)
      exact XQ.ret rfl rfl ⟨Or.inr ⟨rfl, by omega⟩, c2, f2⟩
    · repeat (first | refine XQ.go rfl rfl ?_ | refine XQ.zeq0 rfl ?_ | refine XQ.zeq1 rfl ?_ | refine XQ.zne0 rfl ?_ | refine XQ.zne1 rfl ?_ | refine XQ.add rfl ⟨by omega, by omega⟩ ?_ | refine XQ.sub rfl ⟨by omega, by omega⟩ ?_ | refine XQ.inc rfl rfl rfl ⟨by omega, by omega⟩ ?_)
      exact XQ.ret rfl rfl ⟨Or.inl ⟨rfl, by omega⟩, c2, f2⟩
  repeat (first | refine XQ.go rfl rfl ?_ | refine XQ.zeq0 rfl ?_ | refine XQ.zeq1 rfl ?_ | refine XQ.zne0 rfl ?_ | refine XQ.zne1 rfl ?_ | refine XQ.add rfl ⟨by omega, by omega⟩ ?_ | refine XQ.sub rfl ⟨by omega, by omega⟩ ?_ | refine XQ.inc rfl rfl rfl ⟨by omega, by omega⟩ ?_)
  refine XQ.gx rfl hC.1.1 hC.2.2.2.2.2.1.1 ?_
  repeat (first | refine XQ.go rfl rfl ?_ | refine XQ.zeq0 rfl ?_ | refine XQ.zeq1 rfl ?_ | refine XQ.zne0 rfl ?_ | refine XQ.zne1 rfl ?_ | refine XQ.add rfl ⟨by omega, by omega⟩ ?_ | refine XQ.sub rfl ⟨by omega, by omega⟩ ?_ | refine XQ.inc rfl rfl rfl ⟨by omega, by omega⟩ ?_)
  refine XQ.cge rfl (fun q => ?_) (fun q => ?_)
  · have e : aRoom M room = M := by unfold aRoom; rw [if_neg (by omega)]
    rw [e] at fin ⊢
    exact fin S hC CFr.rf
  · have e : aRoom M room = (aColl M).2 := by unfold aRoom; rw [if_pos (by omega)]
    rw [e] at fin ⊢
    repeat (first | refine XQ.go rfl rfl ?_ | refine XQ.zeq0 rfl ?_ | refine XQ.zeq1 rfl ?_ | refine XQ.zne0 rfl ?_ | refine XQ.zne1 rfl ?_ | refine XQ.add rfl ⟨by omega, by omega⟩ ?_ | refine XQ.sub rfl ⟨by omega, by omega⟩ ?_ | refine XQ.inc rfl rfl rfl ⟨by omega, by omega⟩ ?_)
    refine XQ.v1 rfl hC.1.1 rfl (le8 rfl) (C_runCollection (d := d) hC hw hr) (fun q S2 hq => ?_)
    obtain ⟨rfl, c2, f2⟩ := hq
    have k := fin S2 c2 f2
    repeat (first | exact k | refine XQ.go rfl rfl ?_ | refine XQ.zeq0 rfl ?_ | refine XQ.zeq1 rfl ?_ | refine XQ.zne0 rfl ?_ | refine XQ.zne1 rfl ?_ | refine XQ.add rfl ⟨by omega, by omega⟩ ?_ | refine XQ.sub rfl ⟨by omega, by omega⟩ ?_ | refine XQ.inc rfl rfl rfl ⟨by omega, by omega⟩ ?_)
/-- only cells that were not there -/
theorem CL.con (hC : CL x S A M) (hw : WF M) (hz : zS S ≤ zS S') (hfr : ∀ b, zS S' ≤ b → tS S' b = 0) (hs : ∀ b, b < zS S → tS S' b = tS S b ∧ lS S' b = lS S b ∧ vS S' b = vS S b) : CL x S' (updA A (M 13 1 + 1) (zS S)) M := by
  have hlt : ∀ b, tS S b ≠ 0 → b < zS S := fun b hb => by
    by_cases c : b < zS S
    · exact c
    · exact absurd (hC.1.2.2.2.2.2.2.2.2.2.1 b (by omega)) hb
  have h1 : CL x S (updA A (M 13 1 + 1) (zS S)) M := hC.chA hw (fun h hl => by
    obtain ⟨o, a, b, c⟩ := hl
    have := (hw.2.1.2 o a b).2
    unfold updA
    rw [if_neg (by omega)])
  refine h1.sto hw hz hfr (fun b hb => ⟨(hs b (hlt b hb)).1, (hs b (hlt b hb)).2.1⟩) (fun b j hb _ => by rw [(hs b (hlt b hb)).2.2]) offS.rf (fun o a b => ?_)
  rw [(hs _ (hlt _ (h1.2.2.2.2.1 o a b).tg.nz)).2.2]
  exact h1.2.2.2.2.2.2.2 o a b
theorem C_settle {s n v : Int} {a : Nat} (hC : CL x S A M) (hw : WF M) (hN : NW M N s n) (hWN : WF N) (h20 : M 13 0 < 20) (hm : M 13 1 < 100000) (hn4 : n ≤ 4) (ha : A (M 13 1 + 1) = a) (hob : cObj x S A N (M 13 0)) (h3 : ∃ b, vS S a 3 = .inl b) (h4 : vS S a 4 = .inl 0) (v0 : 0 ≤ v) (v5 : v ≤ 5) : XQ (d + 1) k_H_settle 0 (mentry (mL k_H_settle) [.inr (some x), .inl v, .inr (some a)]) [] S (fun q S' => q = some (.inl (M 13 1 + 1)) ∧ CL x S' A (aHold N v 9 (M 13 1 + 1)) ∧ WF (aHold N v 9 (M 13 1 + 1)) ∧ CFr x 0 0 S S') := by
  have hn2 : N 2 (M 13 0) = M 13 1 + 1 := by rw [hN.2.2.1, if_pos rfl]
  have hge : x + 22 ≤ a := by have := hob.1; rw [hn2, ha] at this; exact this
  have hta : TG S a := by have := hob.tg; rw [hn2, ha] at this; exact this
  have hva : vS S a 0 = .inl (M 13 1 + 1) := by have := hob.2.1; rw [hn2, ha] at this; exact this
  have hv1 : vS S a 1 = .inl (aCells N (M 13 0)) := by have := hob.2.2.1; rw [hn2, ha] at this; exact this
  have hF := hC.1
  obtain ⟨r1, r2, r3, r4⟩ := hF.r2
  have hRs := hC.2.2.1.1
  have hb := hw.1.1
  have hb4 := hw.1.2.2.2
  have hu := hw.1.used
  have hc := hWN.1.cells (o := M 13 0) hb.1 (by rw [hN.2.1, if_pos rfl]; omega)
  repeat (first | refine XQ.go rfl rfl ?_ | refine XQ.zeq0 rfl ?_ | refine XQ.zeq1 rfl ?_ | refine XQ.zne0 rfl ?_ | refine XQ.zne1 rfl ?_ | refine XQ.add rfl ⟨by omega, by omega⟩ ?_ | refine XQ.sub rfl ⟨by omega, by omega⟩ ?_ | refine XQ.inc rfl rfl rfl ⟨by omega, by omega⟩ ?_)
  refine XQ.gx rfl hF.1 hC.2.1.1 ?_
  repeat (first | refine XQ.go rfl rfl ?_ | refine XQ.zeq0 rfl ?_ | refine XQ.zeq1 rfl ?_ | refine XQ.zne0 rfl ?_ | refine XQ.zne1 rfl ?_ | refine XQ.add rfl ⟨by omega, by omega⟩ ?_ | refine XQ.sub rfl ⟨by omega, by omega⟩ ?_ | refine XQ.inc rfl rfl rfl ⟨by omega, by omega⟩ ?_)
  refine XQ.put rfl (by rw [hF.1]; rfl) rfl ?_
  repeat (first | refine XQ.go rfl rfl ?_ | refine XQ.zeq0 rfl ?_ | refine XQ.zeq1 rfl ?_ | refine XQ.zne0 rfl ?_ | refine XQ.zne1 rfl ?_ | refine XQ.add rfl ⟨by omega, by omega⟩ ?_ | refine XQ.sub rfl ⟨by omega, by omega⟩ ?_ | refine XQ.inc rfl rfl rfl ⟨by omega, by omega⟩ ?_)
  refine XQ.gx rfl hF.1 (v := .inr (some (x + 2))) (by rw [mset_s, if_neg (by decide)]; exact hF.2.2.1) ?_
  repeat (first | refine XQ.go rfl rfl ?_ | refine XQ.zeq0 rfl ?_ | refine XQ.zeq1 rfl ?_ | refine XQ.zne0 rfl ?_ | refine XQ.zne1 rfl ?_ | refine XQ.add rfl ⟨by omega, by omega⟩ ?_ | refine XQ.sub rfl ⟨by omega, by omega⟩ ?_ | refine XQ.inc rfl rfl rfl ⟨by omega, by omega⟩ ?_)
  refine XQ.v2 rfl r1 rfl (le8 rfl) (C_append (d := d) (S := mset S x 5 (.inl (M 13 1 + 1))) (rw := x + 2) (n := M 13 0) (l := 20) (a := a) r1 (by rw [mset_v _ _ _ _ (by omega)]; exact r2) r3 r4 (by rw [mset_v _ _ _ _ (by omega)]; exact hRs.1) hb.1 h20 (by decide) hta) (fun q S2 hq => ?_)
  obtain ⟨rfl, rfl⟩ := hq
  repeat (first | refine XQ.go rfl rfl ?_ | refine XQ.zeq0 rfl ?_ | refine XQ.zeq1 rfl ?_ | refine XQ.zne0 rfl ?_ | refine XQ.zne1 rfl ?_ | refine XQ.add rfl ⟨by omega, by omega⟩ ?_ | refine XQ.sub rfl ⟨by omega, by omega⟩ ?_ | refine XQ.inc rfl rfl rfl ⟨by omega, by omega⟩ ?_)
  refine XQ.gx rfl hF.1 (v := .inl (aUsed M)) (by rw [mset_v _ _ _ _ (by omega), mset_v _ _ _ _ (by omega), mset_s, if_neg (by decide)]; exact hC.2.2.2.2.2.1.1) ?_
  refine XQ.put rfl (TG.c (S := S) hta) rfl ?_
  repeat (first | refine XQ.go rfl rfl ?_ | refine XQ.zeq0 rfl ?_ | refine XQ.zeq1 rfl ?_ | refine XQ.zne0 rfl ?_ | refine XQ.zne1 rfl ?_ | refine XQ.add rfl ⟨by omega, by omega⟩ ?_ | refine XQ.sub rfl ⟨by omega, by omega⟩ ?_ | refine XQ.inc rfl rfl rfl ⟨by omega, by omega⟩ ?_)
  refine XQ.gx rfl hF.1 (v := .inl (aUsed M)) (by rw [mset_v _ _ _ _ (by omega), mset_v _ _ _ _ (by omega), mset_v _ _ _ _ (by omega), mset_s, if_neg (by decide)]; exact hC.2.2.2.2.2.1.1) ?_
  repeat (first | refine XQ.go rfl rfl ?_ | refine XQ.zeq0 rfl ?_ | refine XQ.zeq1 rfl ?_ | refine XQ.zne0 rfl ?_ | refine XQ.zne1 rfl ?_ | refine XQ.add rfl ⟨by omega, by omega⟩ ?_ | refine XQ.sub rfl ⟨by omega, by omega⟩ ?_ | refine XQ.inc rfl rfl rfl ⟨by omega, by omega⟩ ?_)
  refine XQ.gt rfl (by exact hta) (v := .inl (aCells N (M 13 0))) (by rw [mset_s, if_neg (by decide), mset_v _ _ _ _ (by omega), mset_v _ _ _ _ (by omega), mset_v _ _ _ _ (by omega)]; exact hv1) ?_
  refine XQ.add rfl ⟨by omega, by omega⟩ ?_
  refine XQ.put rfl (by show [1].contains (tS S x) = true; rw [hF.1]; rfl) rfl ?_
  have hC3 := hC.stl hw hN h20 hn4 ha hob h3 h4
  have hv := fun b j => stl_v (x := x) (S := S) (M := M) (c := aCells N (M 13 0)) hge b j
  show XQ _ _ _ _ _ (stlS x S M a (aCells N (M 13 0))) _
  have hf3 : CFr x 0 0 S (stlS x S M a (aCells N (M 13 0))) := ((((CFr.rf.set (Or.inl ⟨by omega, by omega⟩) _ _).set (Or.inl ⟨by omega, by omega⟩) _ _).set (Or.inl ⟨by omega, by omega⟩) _ _).set (Or.inr hge) _ _).set (Or.inl ⟨by omega, by omega⟩) _ _
  have ht3 : TG (stlS x S M a (aCells N (M 13 0))) a := hta
  generalize stlS x S M a (aCells N (M 13 0)) = S3 at hC3 hv hf3 ht3 ⊢
  have vr : VR x S3 A (some a) 9 (M 13 1 + 1) := Or.inr (Or.inr ⟨rfl, by rw [ha]⟩)
  have ok : OKV N 9 (M 13 1 + 1) := Or.inr (Or.inr ⟨rfl, M 13 0, hb.1, by rw [hN.2.1, if_pos rfl]; omega, hn2⟩)
  repeat (first | refine XQ.go rfl rfl ?_ | refine XQ.zeq0 rfl ?_ | refine XQ.zeq1 rfl ?_ | refine XQ.zne0 rfl ?_ | refine XQ.zne1 rfl ?_ | refine XQ.add rfl ⟨by omega, by omega⟩ ?_ | refine XQ.sub rfl ⟨by omega, by omega⟩ ?_ | refine XQ.inc rfl rfl rfl ⟨by omega, by omega⟩ ?_)
  refine XQ.gx rfl hC3.1.1 hC3.1.2.1 ?_
  repeat (first | refine XQ.go rfl rfl ?_ | refine XQ.zeq0 rfl ?_ | refine XQ.zeq1 rfl ?_ | refine XQ.zne0 rfl ?_ | refine XQ.zne1 rfl ?_ | refine XQ.add rfl ⟨by omega, by omega⟩ ?_ | refine XQ.sub rfl ⟨by omega, by omega⟩ ?_ | refine XQ.inc rfl rfl rfl ⟨by omega, by omega⟩ ?_)
  refine XQ.ast rfl (vr.ast hC3.2.2.2.2.1 ok hC3.1.2.2.2.2.2.1.1) v0 (by rw [hC3.1.2.2.2.2.2.1.2]; omega) ?_
  repeat (first | refine XQ.go rfl rfl ?_ | refine XQ.zeq0 rfl ?_ | refine XQ.zeq1 rfl ?_ | refine XQ.zne0 rfl ?_ | refine XQ.zne1 rfl ?_ | refine XQ.add rfl ⟨by omega, by omega⟩ ?_ | refine XQ.sub rfl ⟨by omega, by omega⟩ ?_ | refine XQ.inc rfl rfl rfl ⟨by omega, by omega⟩ ?_)
  refine XQ.gt rfl (by exact ht3) (v := .inl (M 13 1 + 1)) (by rw [mset_v _ _ _ _ (by omega), hv, if_neg (by omega), if_neg (by omega), if_neg (by omega), if_pos rfl, if_neg (by decide)]; exact hva) ?_
  exact XQ.ret rfl rfl ⟨rfl, hC3.hold hWN v0 v5 vr, hWN.hold ok, hf3.set (Or.inl ⟨by omega, by omega⟩) _ _⟩
theorem C_Ginit {a t : Nat} {h c : Int} (ht : tS S a = t) (h345 : t = 3 ∨ t = 4 ∨ t = 5) : XQ (d + 1) k_G_init 0 (mentry (mL k_G_init) [.inr (some a), .inl h, .inl c]) [] S (fun q S' => S' = mset (mset S a 0 (.inl h)) a 1 (.inl c) ∧ q = none) := by
  have htg : TG S a := by unfold TG; rw [ht]; exact h345
  have hc := htg.c
  have fin : XQ (d + 1) k_G_init 4 [some (.inr (some a)), some (.inl h), some (.inl c)] [] S (fun q S' => S' = mset (mset S a 0 (.inl h)) a 1 (.inl c) ∧ q = none) := by
    repeat (first | refine XQ.go rfl rfl ?_ | refine XQ.zeq0 rfl ?_ | refine XQ.zeq1 rfl ?_ | refine XQ.zne0 rfl ?_ | refine XQ.zne1 rfl ?_ | refine XQ.add rfl ⟨by omega, by omega⟩ ?_ | refine XQ.sub rfl ⟨by omega, by omega⟩ ?_ | refine XQ.inc rfl rfl rfl ⟨by omega, by omega⟩ ?_)
    refine XQ.put rfl hc rfl ?_
    repeat (first | refine XQ.go rfl rfl ?_ | refine XQ.zeq0 rfl ?_ | refine XQ.zeq1 rfl ?_ | refine XQ.zne0 rfl ?_ | refine XQ.zne1 rfl ?_ | refine XQ.add rfl ⟨by omega, by omega⟩ ?_ | refine XQ.sub rfl ⟨by omega, by omega⟩ ?_ | refine XQ.inc rfl rfl rfl ⟨by omega, by omega⟩ ?_)
    refine XQ.put rfl (TG.c (S := S) htg) rfl ?_
    exact XQ.ret rfl rfl ⟨rfl, rfl⟩
  repeat (first | refine XQ.go rfl rfl ?_ | refine XQ.zeq0 rfl ?_ | refine XQ.zeq1 rfl ?_ | refine XQ.zne0 rfl ?_ | refine XQ.zne1 rfl ?_ | refine XQ.add rfl ⟨by omega, by omega⟩ ?_ | refine XQ.sub rfl ⟨by omega, by omega⟩ ?_ | refine XQ.inc rfl rfl rfl ⟨by omega, by omega⟩ ?_)
  rcases h345 with rfl | rfl | rfl
  · refine XQ.v1 rfl ht rfl (le8 rfl) C_Uinit (fun q S' hq => ?_)
    obtain ⟨rfl, rfl⟩ := hq
    exact fin
  · refine XQ.v1 rfl ht rfl (le8 rfl) C_Uinit (fun q S' hq => ?_)
    obtain ⟨rfl, rfl⟩ := hq
    exact fin
  · refine XQ.v1 rfl ht rfl (le8 rfl) C_Uinit (fun q S' hq => ?_)
    obtain ⟨rfl, rfl⟩ := hq
    exact fin
theorem C_Vinit {a : Nat} {h n : Int} (ht : tS S a = 3) (hlt : a < zS S) (n0 : 1 ≤ n) (n4 : n ≤ 4) : XQ (d + 2) k_V_init 0 (mentry (mL k_V_init) [.inr (some a), .inl h, .inl n]) [] S (fun q S' => S' = mset (mnew (mset (mset S a 0 (.inl h)) a 1 (.inl (2 + n))) 23 n (fun _ => .inr none)) a 6 (.inr (some (zS S))) ∧ q = none) := by
  repeat (first | refine XQ.go rfl rfl ?_ | refine XQ.zeq0 rfl ?_ | refine XQ.zeq1 rfl ?_ | refine XQ.zne0 rfl ?_ | refine XQ.zne1 rfl ?_ | refine XQ.add rfl ⟨by omega, by omega⟩ ?_ | refine XQ.sub rfl ⟨by omega, by omega⟩ ?_ | refine XQ.inc rfl rfl rfl ⟨by omega, by omega⟩ ?_)
  refine XQ.v3 rfl ht rfl (le8 rfl) (C_Ginit (d := d) (h := h) (c := 2 + n) ht (Or.inl rfl)) (fun q S' hq => ?_)
  obtain ⟨rfl, rfl⟩ := hq
  repeat (first | refine XQ.go rfl rfl ?_ | refine XQ.zeq0 rfl ?_ | refine XQ.zeq1 rfl ?_ | refine XQ.zne0 rfl ?_ | refine XQ.zne1 rfl ?_ | refine XQ.add rfl ⟨by omega, by omega⟩ ?_ | refine XQ.sub rfl ⟨by omega, by omega⟩ ?_ | refine XQ.inc rfl rfl rfl ⟨by omega, by omega⟩ ?_)
  refine XQ.newa rfl (by omega) (by omega) ?_
  refine XQ.put rfl ?_ rfl ?_
  · show [3].contains (if a = zS S then 23 else tS S a) = true
    rw [if_neg (by omega), ht]; rfl
  exact XQ.ret rfl rfl ⟨rfl, rfl⟩
theorem C_Kinit {a : Nat} {h : Int} {r : Option Nat} (ht : tS S a = 4) : XQ (d + 2) k_K_init 0 (mentry (mL k_K_init) [.inr (some a), .inl h, .inr r]) [] S (fun q S' => S' = mset (mset (mset S a 0 (.inl h)) a 1 (.inl 3)) a 6 (.inr r) ∧ q = none) := by
  repeat (first | refine XQ.go rfl rfl ?_ | refine XQ.zeq0 rfl ?_ | refine XQ.zeq1 rfl ?_ | refine XQ.zne0 rfl ?_ | refine XQ.zne1 rfl ?_ | refine XQ.add rfl ⟨by omega, by omega⟩ ?_ | refine XQ.sub rfl ⟨by omega, by omega⟩ ?_ | refine XQ.inc rfl rfl rfl ⟨by omega, by omega⟩ ?_)
  refine XQ.v3 rfl ht rfl (le8 rfl) (C_Ginit (d := d) (h := h) (c := 3) ht (Or.inr (Or.inl rfl))) (fun q S' hq => ?_)
  obtain ⟨rfl, rfl⟩ := hq
  repeat (first | refine XQ.go rfl rfl ?_ | refine XQ.zeq0 rfl ?_ | refine XQ.zeq1 rfl ?_ | refine XQ.zne0 rfl ?_ | refine XQ.zne1 rfl ?_ | refine XQ.add rfl ⟨by omega, by omega⟩ ?_ | refine XQ.sub rfl ⟨by omega, by omega⟩ ?_ | refine XQ.inc rfl rfl rfl ⟨by omega, by omega⟩ ?_)
  refine XQ.put rfl (by show [4].contains (tS S a) = true; rw [ht]; rfl) rfl ?_
  exact XQ.ret rfl rfl ⟨rfl, rfl⟩
theorem C_Tinit {a : Nat} {h : Int} (ht : tS S a = 5) (hlt : a < zS S) : XQ (d + 2) k_T_init 0 (mentry (mL k_T_init) [.inr (some a), .inl h]) [] S (fun q S' => S' = mset (mnew (mset (mnew (mset (mset S a 0 (.inl h)) a 1 (.inl 8)) 22 3 (fun _ => .inr none)) a 6 (.inr (some (zS S)))) 23 3 (fun _ => .inr none)) a 7 (.inr (some (zS S + 1))) ∧ q = none) := by
  repeat (first | refine XQ.go rfl rfl ?_ | refine XQ.zeq0 rfl ?_ | refine XQ.zeq1 rfl ?_ | refine XQ.zne0 rfl ?_ | refine XQ.zne1 rfl ?_ | refine XQ.add rfl ⟨by omega, by omega⟩ ?_ | refine XQ.sub rfl ⟨by omega, by omega⟩ ?_ | refine XQ.inc rfl rfl rfl ⟨by omega, by omega⟩ ?_)
  refine XQ.v3 rfl ht rfl (le8 rfl) (C_Ginit (d := d) (h := h) (c := 8) ht (Or.inr (Or.inr rfl))) (fun q S' hq => ?_)
  obtain ⟨rfl, rfl⟩ := hq
  repeat (first | refine XQ.go rfl rfl ?_ | refine XQ.zeq0 rfl ?_ | refine XQ.zeq1 rfl ?_ | refine XQ.zne0 rfl ?_ | refine XQ.zne1 rfl ?_ | refine XQ.add rfl ⟨by omega, by omega⟩ ?_ | refine XQ.sub rfl ⟨by omega, by omega⟩ ?_ | refine XQ.inc rfl rfl rfl ⟨by omega, by omega⟩ ?_)
  refine XQ.put rfl ?_ rfl ?_
  · show [5].contains (if a = zS S then 22 else tS S a) = true
    rw [if_neg (by omega), ht]; rfl
  repeat (first | refine XQ.go rfl rfl ?_ | refine XQ.zeq0 rfl ?_ | refine XQ.zeq1 rfl ?_ | refine XQ.zne0 rfl ?_ | refine XQ.zne1 rfl ?_ | refine XQ.add rfl ⟨by omega, by omega⟩ ?_ | refine XQ.sub rfl ⟨by omega, by omega⟩ ?_ | refine XQ.inc rfl rfl rfl ⟨by omega, by omega⟩ ?_)
  refine XQ.put rfl ?_ rfl ?_
  · show [5].contains (if a = zS S + 1 then 23 else if a = zS S then 22 else tS S a) = true
    rw [if_neg (by omega), if_neg (by omega), ht]; rfl
  exact XQ.ret rfl rfl ⟨rfl, rfl⟩
end H9
