/-! the law: its twenty calls, its loop -/
-- how far a call lifts the two counters
def up1 (M N : MM) : Prop := N 13 1 ≤ M 13 1 + 1 ∧ N 13 4 ≤ M 13 4 + 1
theorem up1.eq {M N : MM} (h1 : N 13 1 = M 13 1) (h4 : N 13 4 = M 13 4) : up1 M N := ⟨by omega, by omega⟩
theorem aHold_13 (M : MM) (v a b i : Int) : aHold M v a b 13 i = M 13 i := by
  unfold aHold
  rw [u2_n _ _ (Or.inl (by decide)), u2_n _ _ (Or.inl (by decide))]
theorem up_hold {M : MM} {v a b : Int} : up1 M (aHold M v a b) := up1.eq (aHold_13 M v a b 1) (aHold_13 M v a b 4)
theorem up_number {M : MM} {v n : Int} : up1 M (aNumber M v n).2 := by
  unfold aNumber
  split
  · exact up1.eq rfl rfl
  · exact up_hold
theorem up_assign {M : MM} {v w : Int} : up1 M (aAssign M v w).2 := by
  unfold aAssign
  split
  · exact up1.eq rfl rfl
  · dsimp only
    split
    · exact up_hold
    · exact up_hold
theorem up_set {M : MM} {v k w : Int} : up1 M (aSet M v k w).2 := by
  unfold aSet
  split
  · exact up1.eq rfl rfl
  · refine up1.eq ?_ ?_
    · dsimp only; rw [u2_n _ _ (Or.inl (by decide)), u2_n _ _ (Or.inl (by decide))]
    · dsimp only; rw [u2_n _ _ (Or.inl (by decide)), u2_n _ _ (Or.inl (by decide))]
theorem up_get {M : MM} {w v k : Int} : up1 M (aGet M w v k).2 := by
  unfold aGet
  split
  · exact up1.eq rfl rfl
  · exact up_hold
theorem aPutAt_13 (M : MM) (o e k w i : Int) : aPutAt M o e k w 13 i = M 13 i := by
  unfold aPutAt
  rw [u2_n _ _ (Or.inl (by decide)), u2_n _ _ (Or.inl (by decide)), u2_n _ _ (Or.inl (by decide))]
theorem up_putAt {M : MM} {o e k w : Int} : up1 M (aPutAt M o e k w) := up1.eq (aPutAt_13 M o e k w 1) (aPutAt_13 M o e k w 4)
theorem up_put {M : MM} {t k w : Int} : up1 M (aPut M t k w).2 := by
  unfold aPut
  split
  · exact up1.eq rfl rfl
  · split
    · split
      · exact up1.eq rfl rfl
      · refine up1.eq ?_ ?_
        · dsimp only; rw [aPutAt_13, u2_n _ _ (Or.inl (by decide))]
        · dsimp only; rw [aPutAt_13, u2_n _ _ (Or.inl (by decide))]
    · exact up_putAt
theorem up_find {M : MM} {w t k : Int} : up1 M (aFind M w t k).2 := by
  unfold aFind
  split
  · exact up1.eq rfl rfl
  · split
    · exact up_hold
    · exact up_hold
theorem up_register {M : MM} {v tag : Int} : up1 M (aReg M v tag).2 := by
  unfold aReg
  split
  · exact up1.eq rfl rfl
  · refine up1.eq ?_ ?_
    · dsimp only; rw [u2_n _ _ (Or.inr (by decide)), u2_n _ _ (Or.inl (by decide)), u2_n _ _ (Or.inl (by decide))]
    · dsimp only; rw [u2_n _ _ (Or.inr (by decide)), u2_n _ _ (Or.inl (by decide)), u2_n _ _ (Or.inl (by decide))]
theorem aNxF_13 (M : MM) (i : Int) : ∀ n, lp aNxF n M 13 i = M 13 i
  | 0 => rfl
  | n + 1 => by
    show aNxF n (lp aNxF n M) 13 i = _
    unfold aNxF
    rw [u2_n _ _ (Or.inl (by decide)), u2_n _ _ (Or.inl (by decide))]
    exact aNxF_13 M i n
theorem up_next {M : MM} {v : Int} : up1 M (aNext M v).2 := by
  unfold aNext
  split
  · exact up1.eq rfl rfl
  · refine up1.eq ?_ ?_
    · dsimp only; rw [aNxF_13, u2_n _ _ (Or.inr (by decide)), aHold_13]
    · dsimp only; rw [aNxF_13, u2_n _ _ (Or.inr (by decide)), aHold_13]
theorem up_collect {M : MM} (hB : BW M) (hr : M 13 4 < 100000) : up1 M (aColl M).2 := by
  obtain ⟨h1, h4⟩ := aColl_13 hB hr
  exact ⟨by omega, by omega⟩
theorem up_room {M : MM} (hB : BW M) (hr : M 13 4 < 100000) (room : Int) : aRoom M room 13 1 = M 13 1 ∧ aRoom M room 13 4 ≤ M 13 4 + 1 := by
  unfold aRoom
  split
  · obtain ⟨h1, h4⟩ := aColl_13 hB hr
    exact ⟨h1, by omega⟩
  · exact ⟨rfl, by omega⟩
theorem up_new {M : MM} {v s n room : Int} {f : MM → Int → MM} (hw : WF M) (hr : M 13 4 < 100000) (hf : ∀ N o i, f N o 13 i = N 13 i) : up1 M (aNew M v s n room f).2 := by
  obtain ⟨h1, h4⟩ := up_room hw.1 hr room
  by_cases q : 60 < aUsed (aRoom M room) + room
  · rw [aNew_n q]
    exact ⟨by show aRoom M room 13 1 ≤ _; omega, h4⟩
  · rw [aNew_y (by omega) (aRoom_wf hw hr room).1.1.1.1]
    have e := (aMkO_ch (aRoom M room) s n).1.2.1
    refine ⟨?_, ?_⟩
    · dsimp only; rw [aHold_13, hf, e, if_neg (by decide), if_pos rfl]; omega
    · dsimp only; rw [aHold_13, hf, e, if_neg (by decide), if_neg (by decide)]; exact h4
theorem up_vector {M : MM} {v n : Int} (hw : WF M) (hr : M 13 4 < 100000) : up1 M (aVector M v n).2 := by
  unfold aVector
  split
  · exact up1.eq rfl rfl
  · exact up_new hw hr (fun _ _ _ => rfl)
theorem up_weak {M : MM} {v w : Int} (hw : WF M) (hr : M 13 4 < 100000) : up1 M (aWeak M v w).2 := by
  unfold aWeak
  split
  · exact up1.eq rfl rfl
  · exact up_new hw hr (fun N o i => by rw [u2_n _ _ (Or.inl (by decide)), u2_n _ _ (Or.inl (by decide))])
theorem up_table {M : MM} {v : Int} (hw : WF M) (hr : M 13 4 < 100000) : up1 M (aTable M v).2 := by
  unfold aTable
  split
  · exact up1.eq rfl rfl
  · exact up_new hw hr (fun _ _ _ => rfl)
-- the script
def SX (sc : Nat) (n : Int) (f : Int → Int) (S : MS) : Prop := tS S sc = 30 ∧ lS S sc = n ∧ ∀ i, 0 ≤ i → i < n → vS S sc i = .inl (f i)
/-- what the loop keeps -/
def LI (x sc : Nat) (n : Int) (f : Int → Int) (z q c : Nat) (S : MS) (A : Int → Nat) (M : MM) : Prop := CL x S A M ∧ WF M ∧ MOD (x + 8) S M ∧ (sc < x ∧ SX sc n f S) ∧ (M 13 1 ≤ (c : Int) ∧ M 13 4 ≤ (c : Int)) ∧ zS S ≤ z + 3 * c ∧ qS S ≤ q + 30 * c
section LW
variable {x sc z q c : Nat} {n i : Int} {f : Int → Int} {S S1 S2 : MS} {A A' : Int → Nat} {M M' : MM} {Q : Option MV → MS → Prop}
theorem LI.up (h : LI x sc n f z q c S A M) : LI x sc n f z q (c + 1) S A M := ⟨h.1, h.2.1, h.2.2.1, h.2.2.2.1, ⟨by have := h.2.2.2.2.1.1; omega, by have := h.2.2.2.2.1.2; omega⟩, by have := h.2.2.2.2.2.1; omega, by have := h.2.2.2.2.2.2; omega⟩
theorem SX.cfr (hs : SX sc n f S) (hsc : sc < x) (hz : x ≤ zS S) (hf : CFr x 3 30 S S1) : SX sc n f S1 := ⟨(hf.2.2.2.2.1 sc (by omega)).1.trans hs.1, (hf.2.2.2.2.1 sc (by omega)).2.trans hs.2.1, fun i a b => by rw [hf.2.2.2.2.2 sc (Or.inl hsc)]; exact hs.2.2 i a b⟩
theorem SX.mfr (hs : SX sc n f S) (hsc : sc < x) (hf : MFr (x + 8) S S1) : SX sc n f S1 := ⟨by rw [hf.2.2.1]; exact hs.1, by rw [hf.2.2.2.1]; exact hs.2.1, fun i a b => by rw [hf.2.2.2.2 sc (by omega)]; exact hs.2.2 i a b⟩
theorem LI.step (h : LI x sc n f z q c S A M) (hC : CL x S1 A' M') (hW : WF M') (hf : CFr x 3 30 S S1) (hM : MO (x + 8) S1 S2 M') (hb : up1 M M') : LI x sc n f z q (c + 1) S2 A' M' := by
  obtain ⟨h1, h2, h3, ⟨h4, h5⟩, h6, h7⟩ := h
  have hz := h1.1.2.2.2.2.2.2.2.2.2.2
  have e1 := hf.2.1
  have e2 := hf.2.2.2.1
  have e3 := hM.2.1
  have e4 := hM.2.2.1
  exact ⟨hC.mfr hW hM.2, hW, hM.1, ⟨h4, (h5.cfr h4 (by omega) hf).mfr h4 hM.2⟩, ⟨by have := hb.1; omega, by have := hb.2; omega⟩, by omega, by omega⟩
theorem XQ.arg {d k pc nx : Nat} {L : ML} {st : List MV} (hs : SX sc n f S) (h2 : mcd k pc = some (.inl (i_ld [20, 30] nx))) (i0 : 0 ≤ i) (i1 : i < n) (kk : XQ d k nx L (.inl (f i) :: st) S Q) : XQ d k pc L (.inl i :: .inr (some sc) :: st) S Q :=
  XQ.ld h2 (by rw [hs.1]; rfl) i0 (by rw [hs.2.1]; exact i1) (hs.2.2 _ i0 i1) kk
abbrev lL (sc x : Nat) (i : Int) : ML := [some (.inr (some sc)), some (.inr (some x)), some (.inr (some (x + 8))), some (.inl i)]
set_option maxRecDepth 20000 in
theorem law_number (h : LI x sc n f z q c S A M) (i0 : 0 ≤ i) (i4 : i + 4 ≤ n) (hn : n ≤ 100000) (hc : c < 100000) (K : ∀ S' A' M', LI x sc n f z q (c + 1) S' A' M' → XQ 7 k_L_law 678 (lL sc x i) [] S' Q) : XQ 7 k_L_law 128 (lL sc x i) [] S Q := by
  obtain ⟨hC, hw, hM, ⟨s1, s2⟩, ⟨hb1, hb4⟩, hz⟩ := id h
  have hzx := hC.1.2.2.2.2.2.2.2.2.2.2
  have hr : M 13 4 < 100000 := by omega
  have hm : M 13 1 < 100000 := by omega
  repeat (first | refine XQ.go rfl rfl ?_ | refine XQ.zeq0 rfl ?_ | refine XQ.zeq1 rfl ?_ | refine XQ.zne0 rfl ?_ | refine XQ.zne1 rfl ?_ | refine XQ.add rfl ⟨by omega, by omega⟩ ?_ | refine XQ.sub rfl ⟨by omega, by omega⟩ ?_ | refine XQ.inc rfl rfl rfl ⟨by omega, by omega⟩ ?_)
  refine XQ.arg s2 rfl (by omega) (by omega) ?_
  repeat (first | refine XQ.go rfl rfl ?_ | refine XQ.zeq0 rfl ?_ | refine XQ.zeq1 rfl ?_ | refine XQ.zne0 rfl ?_ | refine XQ.zne1 rfl ?_ | refine XQ.add rfl ⟨by omega, by omega⟩ ?_ | refine XQ.sub rfl ⟨by omega, by omega⟩ ?_ | refine XQ.inc rfl rfl rfl ⟨by omega, by omega⟩ ?_)
  refine XQ.arg s2 rfl (by omega) (by omega) ?_
  refine XQ.v3 rfl hC.1.1 rfl (le8 rfl) ((C_number (d := 0) (v := f (i + 1)) (n := f (i + 2)) hC hw).deepn (by omega)) (fun r S1 hq => ?_)
  obtain ⟨rfl, hC1, hW1, f1⟩ := hq
  have hM1 := hM.cfr hzx f1
  have s3 := s2.cfr s1 (by omega) f1
  repeat (first | refine XQ.go rfl rfl ?_ | refine XQ.zeq0 rfl ?_ | refine XQ.zeq1 rfl ?_ | refine XQ.zne0 rfl ?_ | refine XQ.zne1 rfl ?_ | refine XQ.add rfl ⟨by omega, by omega⟩ ?_ | refine XQ.sub rfl ⟨by omega, by omega⟩ ?_ | refine XQ.inc rfl rfl rfl ⟨by omega, by omega⟩ ?_)
  refine XQ.arg s3 rfl (by omega) (by omega) ?_
  repeat (first | refine XQ.go rfl rfl ?_ | refine XQ.zeq0 rfl ?_ | refine XQ.zeq1 rfl ?_ | refine XQ.zne0 rfl ?_ | refine XQ.zne1 rfl ?_ | refine XQ.add rfl ⟨by omega, by omega⟩ ?_ | refine XQ.sub rfl ⟨by omega, by omega⟩ ?_ | refine XQ.inc rfl rfl rfl ⟨by omega, by omega⟩ ?_)
  refine XQ.arg s3 rfl (by omega) (by omega) ?_
  refine XQ.v3 rfl hM1.1 rfl (le8 rfl) ((M_number (d := 0) (v := f (i + 1)) (n := f (i + 2)) (MO.rf hM1)).deepn (by omega)) (fun r S2 hq => ?_)
  obtain ⟨rfl, hM2⟩ := hq
  exact XQ.ceq rfl (fun _ => K _ _ _ (h.step hC1 hW1 f1 hM2 up_number)) (fun q => absurd rfl q)
set_option maxRecDepth 20000 in
theorem law_assign (h : LI x sc n f z q c S A M) (i0 : 0 ≤ i) (i4 : i + 4 ≤ n) (hn : n ≤ 100000) (hc : c < 100000) (K : ∀ S' A' M', LI x sc n f z q (c + 1) S' A' M' → XQ 7 k_L_law 678 (lL sc x i) [] S' Q) : XQ 7 k_L_law 161 (lL sc x i) [] S Q := by
  obtain ⟨hC, hw, hM, ⟨s1, s2⟩, ⟨hb1, hb4⟩, hz⟩ := id h
  have hzx := hC.1.2.2.2.2.2.2.2.2.2.2
  have hr : M 13 4 < 100000 := by omega
  have hm : M 13 1 < 100000 := by omega
  repeat (first | refine XQ.go rfl rfl ?_ | refine XQ.zeq0 rfl ?_ | refine XQ.zeq1 rfl ?_ | refine XQ.zne0 rfl ?_ | refine XQ.zne1 rfl ?_ | refine XQ.add rfl ⟨by omega, by omega⟩ ?_ | refine XQ.sub rfl ⟨by omega, by omega⟩ ?_ | refine XQ.inc rfl rfl rfl ⟨by omega, by omega⟩ ?_)
  refine XQ.arg s2 rfl (by omega) (by omega) ?_
  repeat (first | refine XQ.go rfl rfl ?_ | refine XQ.zeq0 rfl ?_ | refine XQ.zeq1 rfl ?_ | refine XQ.zne0 rfl ?_ | refine XQ.zne1 rfl ?_ | refine XQ.add rfl ⟨by omega, by omega⟩ ?_ | refine XQ.sub rfl ⟨by omega, by omega⟩ ?_ | refine XQ.inc rfl rfl rfl ⟨by omega, by omega⟩ ?_)
  refine XQ.arg s2 rfl (by omega) (by omega) ?_
  refine XQ.v3 rfl hC.1.1 rfl (le8 rfl) ((C_assign (d := 0) (v := f (i + 1)) (w := f (i + 2)) hC hw).deepn (by omega)) (fun r S1 hq => ?_)
  obtain ⟨rfl, hC1, hW1, f1⟩ := hq
  have hM1 := hM.cfr hzx f1
  have s3 := s2.cfr s1 (by omega) f1
  repeat (first | refine XQ.go rfl rfl ?_ | refine XQ.zeq0 rfl ?_ | refine XQ.zeq1 rfl ?_ | refine XQ.zne0 rfl ?_ | refine XQ.zne1 rfl ?_ | refine XQ.add rfl ⟨by omega, by omega⟩ ?_ | refine XQ.sub rfl ⟨by omega, by omega⟩ ?_ | refine XQ.inc rfl rfl rfl ⟨by omega, by omega⟩ ?_)
  refine XQ.arg s3 rfl (by omega) (by omega) ?_
  repeat (first | refine XQ.go rfl rfl ?_ | refine XQ.zeq0 rfl ?_ | refine XQ.zeq1 rfl ?_ | refine XQ.zne0 rfl ?_ | refine XQ.zne1 rfl ?_ | refine XQ.add rfl ⟨by omega, by omega⟩ ?_ | refine XQ.sub rfl ⟨by omega, by omega⟩ ?_ | refine XQ.inc rfl rfl rfl ⟨by omega, by omega⟩ ?_)
  refine XQ.arg s3 rfl (by omega) (by omega) ?_
  refine XQ.v3 rfl hM1.1 rfl (le8 rfl) ((M_assign (d := 0) (v := f (i + 1)) (w := f (i + 2)) (MO.rf hM1)).deepn (by omega)) (fun r S2 hq => ?_)
  obtain ⟨rfl, hM2⟩ := hq
  exact XQ.ceq rfl (fun _ => K _ _ _ (h.step hC1 hW1 f1 hM2 up_assign)) (fun q => absurd rfl q)
set_option maxRecDepth 20000 in
theorem law_vector (h : LI x sc n f z q c S A M) (i0 : 0 ≤ i) (i4 : i + 4 ≤ n) (hn : n ≤ 100000) (hc : c < 100000) (K : ∀ S' A' M', LI x sc n f z q (c + 1) S' A' M' → XQ 7 k_L_law 678 (lL sc x i) [] S' Q) : XQ 7 k_L_law 194 (lL sc x i) [] S Q := by
  obtain ⟨hC, hw, hM, ⟨s1, s2⟩, ⟨hb1, hb4⟩, hz⟩ := id h
  have hzx := hC.1.2.2.2.2.2.2.2.2.2.2
  have hr : M 13 4 < 100000 := by omega
  have hm : M 13 1 < 100000 := by omega
  repeat (first | refine XQ.go rfl rfl ?_ | refine XQ.zeq0 rfl ?_ | refine XQ.zeq1 rfl ?_ | refine XQ.zne0 rfl ?_ | refine XQ.zne1 rfl ?_ | refine XQ.add rfl ⟨by omega, by omega⟩ ?_ | refine XQ.sub rfl ⟨by omega, by omega⟩ ?_ | refine XQ.inc rfl rfl rfl ⟨by omega, by omega⟩ ?_)
  refine XQ.arg s2 rfl (by omega) (by omega) ?_
  repeat (first | refine XQ.go rfl rfl ?_ | refine XQ.zeq0 rfl ?_ | refine XQ.zeq1 rfl ?_ | refine XQ.zne0 rfl ?_ | refine XQ.zne1 rfl ?_ | refine XQ.add rfl ⟨by omega, by omega⟩ ?_ | refine XQ.sub rfl ⟨by omega, by omega⟩ ?_ | refine XQ.inc rfl rfl rfl ⟨by omega, by omega⟩ ?_)
  refine XQ.arg s2 rfl (by omega) (by omega) ?_
  refine XQ.v3 rfl hC.1.1 rfl (le8 rfl) ((C_vector (d := 0) (v := f (i + 1)) (n := f (i + 2)) hC hw hr hm).deepn (by omega)) (fun r S1 hq => ?_)
  obtain ⟨rfl, A1, hC1, hW1, f1⟩ := hq
  have hM1 := hM.cfr hzx f1
  have s3 := s2.cfr s1 (by omega) f1
  repeat (first | refine XQ.go rfl rfl ?_ | refine XQ.zeq0 rfl ?_ | refine XQ.zeq1 rfl ?_ | refine XQ.zne0 rfl ?_ | refine XQ.zne1 rfl ?_ | refine XQ.add rfl ⟨by omega, by omega⟩ ?_ | refine XQ.sub rfl ⟨by omega, by omega⟩ ?_ | refine XQ.inc rfl rfl rfl ⟨by omega, by omega⟩ ?_)
  refine XQ.arg s3 rfl (by omega) (by omega) ?_
  repeat (first | refine XQ.go rfl rfl ?_ | refine XQ.zeq0 rfl ?_ | refine XQ.zeq1 rfl ?_ | refine XQ.zne0 rfl ?_ | refine XQ.zne1 rfl ?_ | refine XQ.add rfl ⟨by omega, by omega⟩ ?_ | refine XQ.sub rfl ⟨by omega, by omega⟩ ?_ | refine XQ.inc rfl rfl rfl ⟨by omega, by omega⟩ ?_)
  refine XQ.arg s3 rfl (by omega) (by omega) ?_
  refine XQ.v3 rfl hM1.1 rfl (le8 rfl) ((M_vector (d := 0) (v := f (i + 1)) (n := f (i + 2)) (MO.rf hM1) hw.1 hr hm).deepn (by omega)) (fun r S2 hq => ?_)
  obtain ⟨rfl, hM2⟩ := hq
  exact XQ.ceq rfl (fun _ => K _ _ _ (h.step hC1 hW1 f1 hM2 (up_vector hw hr))) (fun q => absurd rfl q)
set_option maxRecDepth 20000 in
theorem law_weak (h : LI x sc n f z q c S A M) (i0 : 0 ≤ i) (i4 : i + 4 ≤ n) (hn : n ≤ 100000) (hc : c < 100000) (K : ∀ S' A' M', LI x sc n f z q (c + 1) S' A' M' → XQ 7 k_L_law 678 (lL sc x i) [] S' Q) : XQ 7 k_L_law 227 (lL sc x i) [] S Q := by
  obtain ⟨hC, hw, hM, ⟨s1, s2⟩, ⟨hb1, hb4⟩, hz⟩ := id h
  have hzx := hC.1.2.2.2.2.2.2.2.2.2.2
  have hr : M 13 4 < 100000 := by omega
  have hm : M 13 1 < 100000 := by omega
  repeat (first | refine XQ.go rfl rfl ?_ | refine XQ.zeq0 rfl ?_ | refine XQ.zeq1 rfl ?_ | refine XQ.zne0 rfl ?_ | refine XQ.zne1 rfl ?_ | refine XQ.add rfl ⟨by omega, by omega⟩ ?_ | refine XQ.sub rfl ⟨by omega, by omega⟩ ?_ | refine XQ.inc rfl rfl rfl ⟨by omega, by omega⟩ ?_)
  refine XQ.arg s2 rfl (by omega) (by omega) ?_
  repeat (first | refine XQ.go rfl rfl ?_ | refine XQ.zeq0 rfl ?_ | refine XQ.zeq1 rfl ?_ | refine XQ.zne0 rfl ?_ | refine XQ.zne1 rfl ?_ | refine XQ.add rfl ⟨by omega, by omega⟩ ?_ | refine XQ.sub rfl ⟨by omega, by omega⟩ ?_ | refine XQ.inc rfl rfl rfl ⟨by omega, by omega⟩ ?_)
  refine XQ.arg s2 rfl (by omega) (by omega) ?_
  refine XQ.v3 rfl hC.1.1 rfl (le8 rfl) ((C_weak (d := 0) (v := f (i + 1)) (w := f (i + 2)) hC hw hr hm).deepn (by omega)) (fun r S1 hq => ?_)
  obtain ⟨rfl, A1, hC1, hW1, f1⟩ := hq
  have hM1 := hM.cfr hzx f1
  have s3 := s2.cfr s1 (by omega) f1
  repeat (first | refine XQ.go rfl rfl ?_ | refine XQ.zeq0 rfl ?_ | refine XQ.zeq1 rfl ?_ | refine XQ.zne0 rfl ?_ | refine XQ.zne1 rfl ?_ | refine XQ.add rfl ⟨by omega, by omega⟩ ?_ | refine XQ.sub rfl ⟨by omega, by omega⟩ ?_ | refine XQ.inc rfl rfl rfl ⟨by omega, by omega⟩ ?_)
  refine XQ.arg s3 rfl (by omega) (by omega) ?_
  repeat (first | refine XQ.go rfl rfl ?_ | refine XQ.zeq0 rfl ?_ | refine XQ.zeq1 rfl ?_ | refine XQ.zne0 rfl ?_ | refine XQ.zne1 rfl ?_ | refine XQ.add rfl ⟨by omega, by omega⟩ ?_ | refine XQ.sub rfl ⟨by omega, by omega⟩ ?_ | refine XQ.inc rfl rfl rfl ⟨by omega, by omega⟩ ?_)
  refine XQ.arg s3 rfl (by omega) (by omega) ?_
  refine XQ.v3 rfl hM1.1 rfl (le8 rfl) ((M_weak (d := 0) (v := f (i + 1)) (w := f (i + 2)) (MO.rf hM1) hw.1 hr hm).deepn (by omega)) (fun r S2 hq => ?_)
  obtain ⟨rfl, hM2⟩ := hq
  exact XQ.ceq rfl (fun _ => K _ _ _ (h.step hC1 hW1 f1 hM2 (up_weak hw hr))) (fun q => absurd rfl q)
set_option maxRecDepth 20000 in
theorem law_table (h : LI x sc n f z q c S A M) (i0 : 0 ≤ i) (i4 : i + 4 ≤ n) (hn : n ≤ 100000) (hc : c < 100000) (K : ∀ S' A' M', LI x sc n f z q (c + 1) S' A' M' → XQ 7 k_L_law 678 (lL sc x i) [] S' Q) : XQ 7 k_L_law 260 (lL sc x i) [] S Q := by
  obtain ⟨hC, hw, hM, ⟨s1, s2⟩, ⟨hb1, hb4⟩, hz⟩ := id h
  have hzx := hC.1.2.2.2.2.2.2.2.2.2.2
  have hr : M 13 4 < 100000 := by omega
  have hm : M 13 1 < 100000 := by omega
  repeat (first | refine XQ.go rfl rfl ?_ | refine XQ.zeq0 rfl ?_ | refine XQ.zeq1 rfl ?_ | refine XQ.zne0 rfl ?_ | refine XQ.zne1 rfl ?_ | refine XQ.add rfl ⟨by omega, by omega⟩ ?_ | refine XQ.sub rfl ⟨by omega, by omega⟩ ?_ | refine XQ.inc rfl rfl rfl ⟨by omega, by omega⟩ ?_)
  refine XQ.arg s2 rfl (by omega) (by omega) ?_
  refine XQ.v2 rfl hC.1.1 rfl (le8 rfl) ((C_table (d := 0) (v := f (i + 1)) hC hw hr hm).deepn (by omega)) (fun r S1 hq => ?_)
  obtain ⟨rfl, A1, hC1, hW1, f1⟩ := hq
  have hM1 := hM.cfr hzx f1
  have s3 := s2.cfr s1 (by omega) f1
  repeat (first | refine XQ.go rfl rfl ?_ | refine XQ.zeq0 rfl ?_ | refine XQ.zeq1 rfl ?_ | refine XQ.zne0 rfl ?_ | refine XQ.zne1 rfl ?_ | refine XQ.add rfl ⟨by omega, by omega⟩ ?_ | refine XQ.sub rfl ⟨by omega, by omega⟩ ?_ | refine XQ.inc rfl rfl rfl ⟨by omega, by omega⟩ ?_)
  refine XQ.arg s3 rfl (by omega) (by omega) ?_
  refine XQ.v2 rfl hM1.1 rfl (le8 rfl) ((M_table (d := 0) (v := f (i + 1)) (MO.rf hM1) hw.1 hr hm).deepn (by omega)) (fun r S2 hq => ?_)
  obtain ⟨rfl, hM2⟩ := hq
  exact XQ.ceq rfl (fun _ => K _ _ _ (h.step hC1 hW1 f1 hM2 (up_table hw hr))) (fun q => absurd rfl q)
set_option maxRecDepth 20000 in
theorem law_set (h : LI x sc n f z q c S A M) (i0 : 0 ≤ i) (i4 : i + 4 ≤ n) (hn : n ≤ 100000) (hc : c < 100000) (K : ∀ S' A' M', LI x sc n f z q (c + 1) S' A' M' → XQ 7 k_L_law 678 (lL sc x i) [] S' Q) : XQ 7 k_L_law 283 (lL sc x i) [] S Q := by
  obtain ⟨hC, hw, hM, ⟨s1, s2⟩, ⟨hb1, hb4⟩, hz⟩ := id h
  have hzx := hC.1.2.2.2.2.2.2.2.2.2.2
  have hr : M 13 4 < 100000 := by omega
  have hm : M 13 1 < 100000 := by omega
  repeat (first | refine XQ.go rfl rfl ?_ | refine XQ.zeq0 rfl ?_ | refine XQ.zeq1 rfl ?_ | refine XQ.zne0 rfl ?_ | refine XQ.zne1 rfl ?_ | refine XQ.add rfl ⟨by omega, by omega⟩ ?_ | refine XQ.sub rfl ⟨by omega, by omega⟩ ?_ | refine XQ.inc rfl rfl rfl ⟨by omega, by omega⟩ ?_)
  refine XQ.arg s2 rfl (by omega) (by omega) ?_
  repeat (first | refine XQ.go rfl rfl ?_ | refine XQ.zeq0 rfl ?_ | refine XQ.zeq1 rfl ?_ | refine XQ.zne0 rfl ?_ | refine XQ.zne1 rfl ?_ | refine XQ.add rfl ⟨by omega, by omega⟩ ?_ | refine XQ.sub rfl ⟨by omega, by omega⟩ ?_ | refine XQ.inc rfl rfl rfl ⟨by omega, by omega⟩ ?_)
  refine XQ.arg s2 rfl (by omega) (by omega) ?_
  repeat (first | refine XQ.go rfl rfl ?_ | refine XQ.zeq0 rfl ?_ | refine XQ.zeq1 rfl ?_ | refine XQ.zne0 rfl ?_ | refine XQ.zne1 rfl ?_ | refine XQ.add rfl ⟨by omega, by omega⟩ ?_ | refine XQ.sub rfl ⟨by omega, by omega⟩ ?_ | refine XQ.inc rfl rfl rfl ⟨by omega, by omega⟩ ?_)
  refine XQ.arg s2 rfl (by omega) (by omega) ?_
  refine XQ.v4 rfl hC.1.1 rfl (le8 rfl) ((C_set (d := 0) (v := f (i + 1)) (k := f (i + 2)) (w := f (i + 3)) hC hw).deepn (by omega)) (fun r S1 hq => ?_)
  obtain ⟨rfl, hC1, hW1, f1⟩ := hq
  have hM1 := hM.cfr hzx f1
  have s3 := s2.cfr s1 (by omega) f1
  repeat (first | refine XQ.go rfl rfl ?_ | refine XQ.zeq0 rfl ?_ | refine XQ.zeq1 rfl ?_ | refine XQ.zne0 rfl ?_ | refine XQ.zne1 rfl ?_ | refine XQ.add rfl ⟨by omega, by omega⟩ ?_ | refine XQ.sub rfl ⟨by omega, by omega⟩ ?_ | refine XQ.inc rfl rfl rfl ⟨by omega, by omega⟩ ?_)
  refine XQ.arg s3 rfl (by omega) (by omega) ?_
  repeat (first | refine XQ.go rfl rfl ?_ | refine XQ.zeq0 rfl ?_ | refine XQ.zeq1 rfl ?_ | refine XQ.zne0 rfl ?_ | refine XQ.zne1 rfl ?_ | refine XQ.add rfl ⟨by omega, by omega⟩ ?_ | refine XQ.sub rfl ⟨by omega, by omega⟩ ?_ | refine XQ.inc rfl rfl rfl ⟨by omega, by omega⟩ ?_)
  refine XQ.arg s3 rfl (by omega) (by omega) ?_
  repeat (first | refine XQ.go rfl rfl ?_ | refine XQ.zeq0 rfl ?_ | refine XQ.zeq1 rfl ?_ | refine XQ.zne0 rfl ?_ | refine XQ.zne1 rfl ?_ | refine XQ.add rfl ⟨by omega, by omega⟩ ?_ | refine XQ.sub rfl ⟨by omega, by omega⟩ ?_ | refine XQ.inc rfl rfl rfl ⟨by omega, by omega⟩ ?_)
  refine XQ.arg s3 rfl (by omega) (by omega) ?_
  refine XQ.v4 rfl hM1.1 rfl (le8 rfl) ((M_set (d := 0) (v := f (i + 1)) (k := f (i + 2)) (w := f (i + 3)) (MO.rf hM1) hw.1).deepn (by omega)) (fun r S2 hq => ?_)
  obtain ⟨rfl, hM2⟩ := hq
  exact XQ.ceq rfl (fun _ => K _ _ _ (h.step hC1 hW1 f1 hM2 up_set)) (fun q => absurd rfl q)
set_option maxRecDepth 20000 in
theorem law_get (h : LI x sc n f z q c S A M) (i0 : 0 ≤ i) (i4 : i + 4 ≤ n) (hn : n ≤ 100000) (hc : c < 100000) (K : ∀ S' A' M', LI x sc n f z q (c + 1) S' A' M' → XQ 7 k_L_law 678 (lL sc x i) [] S' Q) : XQ 7 k_L_law 326 (lL sc x i) [] S Q := by
  obtain ⟨hC, hw, hM, ⟨s1, s2⟩, ⟨hb1, hb4⟩, hz⟩ := id h
  have hzx := hC.1.2.2.2.2.2.2.2.2.2.2
  have hr : M 13 4 < 100000 := by omega
  have hm : M 13 1 < 100000 := by omega
  repeat (first | refine XQ.go rfl rfl ?_ | refine XQ.zeq0 rfl ?_ | refine XQ.zeq1 rfl ?_ | refine XQ.zne0 rfl ?_ | refine XQ.zne1 rfl ?_ | refine XQ.add rfl ⟨by omega, by omega⟩ ?_ | refine XQ.sub rfl ⟨by omega, by omega⟩ ?_ | refine XQ.inc rfl rfl rfl ⟨by omega, by omega⟩ ?_)
  refine XQ.arg s2 rfl (by omega) (by omega) ?_
  repeat (first | refine XQ.go rfl rfl ?_ | refine XQ.zeq0 rfl ?_ | refine XQ.zeq1 rfl ?_ | refine XQ.zne0 rfl ?_ | refine XQ.zne1 rfl ?_ | refine XQ.add rfl ⟨by omega, by omega⟩ ?_ | refine XQ.sub rfl ⟨by omega, by omega⟩ ?_ | refine XQ.inc rfl rfl rfl ⟨by omega, by omega⟩ ?_)
  refine XQ.arg s2 rfl (by omega) (by omega) ?_
  repeat (first | refine XQ.go rfl rfl ?_ | refine XQ.zeq0 rfl ?_ | refine XQ.zeq1 rfl ?_ | refine XQ.zne0 rfl ?_ | refine XQ.zne1 rfl ?_ | refine XQ.add rfl ⟨by omega, by omega⟩ ?_ | refine XQ.sub rfl ⟨by omega, by omega⟩ ?_ | refine XQ.inc rfl rfl rfl ⟨by omega, by omega⟩ ?_)
  refine XQ.arg s2 rfl (by omega) (by omega) ?_
  refine XQ.v4 rfl hC.1.1 rfl (le8 rfl) ((C_get (d := 0) (w := f (i + 1)) (v := f (i + 2)) (k := f (i + 3)) hC hw).deepn (by omega)) (fun r S1 hq => ?_)
  obtain ⟨rfl, hC1, hW1, f1⟩ := hq
  have hM1 := hM.cfr hzx f1
  have s3 := s2.cfr s1 (by omega) f1
  repeat (first | refine XQ.go rfl rfl ?_ | refine XQ.zeq0 rfl ?_ | refine XQ.zeq1 rfl ?_ | refine XQ.zne0 rfl ?_ | refine XQ.zne1 rfl ?_ | refine XQ.add rfl ⟨by omega, by omega⟩ ?_ | refine XQ.sub rfl ⟨by omega, by omega⟩ ?_ | refine XQ.inc rfl rfl rfl ⟨by omega, by omega⟩ ?_)
  refine XQ.arg s3 rfl (by omega) (by omega) ?_
  repeat (first | refine XQ.go rfl rfl ?_ | refine XQ.zeq0 rfl ?_ | refine XQ.zeq1 rfl ?_ | refine XQ.zne0 rfl ?_ | refine XQ.zne1 rfl ?_ | refine XQ.add rfl ⟨by omega, by omega⟩ ?_ | refine XQ.sub rfl ⟨by omega, by omega⟩ ?_ | refine XQ.inc rfl rfl rfl ⟨by omega, by omega⟩ ?_)
  refine XQ.arg s3 rfl (by omega) (by omega) ?_
  repeat (first | refine XQ.go rfl rfl ?_ | refine XQ.zeq0 rfl ?_ | refine XQ.zeq1 rfl ?_ | refine XQ.zne0 rfl ?_ | refine XQ.zne1 rfl ?_ | refine XQ.add rfl ⟨by omega, by omega⟩ ?_ | refine XQ.sub rfl ⟨by omega, by omega⟩ ?_ | refine XQ.inc rfl rfl rfl ⟨by omega, by omega⟩ ?_)
  refine XQ.arg s3 rfl (by omega) (by omega) ?_
  refine XQ.v4 rfl hM1.1 rfl (le8 rfl) ((M_get (d := 0) (w := f (i + 1)) (v := f (i + 2)) (k := f (i + 3)) (MO.rf hM1) hw.1).deepn (by omega)) (fun r S2 hq => ?_)
  obtain ⟨rfl, hM2⟩ := hq
  exact XQ.ceq rfl (fun _ => K _ _ _ (h.step hC1 hW1 f1 hM2 up_get)) (fun q => absurd rfl q)
set_option maxRecDepth 20000 in
theorem law_put (h : LI x sc n f z q c S A M) (i0 : 0 ≤ i) (i4 : i + 4 ≤ n) (hn : n ≤ 100000) (hc : c < 100000) (K : ∀ S' A' M', LI x sc n f z q (c + 1) S' A' M' → XQ 7 k_L_law 678 (lL sc x i) [] S' Q) : XQ 7 k_L_law 369 (lL sc x i) [] S Q := by
  obtain ⟨hC, hw, hM, ⟨s1, s2⟩, ⟨hb1, hb4⟩, hz⟩ := id h
  have hzx := hC.1.2.2.2.2.2.2.2.2.2.2
  have hr : M 13 4 < 100000 := by omega
  have hm : M 13 1 < 100000 := by omega
  repeat (first | refine XQ.go rfl rfl ?_ | refine XQ.zeq0 rfl ?_ | refine XQ.zeq1 rfl ?_ | refine XQ.zne0 rfl ?_ | refine XQ.zne1 rfl ?_ | refine XQ.add rfl ⟨by omega, by omega⟩ ?_ | refine XQ.sub rfl ⟨by omega, by omega⟩ ?_ | refine XQ.inc rfl rfl rfl ⟨by omega, by omega⟩ ?_)
  refine XQ.arg s2 rfl (by omega) (by omega) ?_
  repeat (first | refine XQ.go rfl rfl ?_ | refine XQ.zeq0 rfl ?_ | refine XQ.zeq1 rfl ?_ | refine XQ.zne0 rfl ?_ | refine XQ.zne1 rfl ?_ | refine XQ.add rfl ⟨by omega, by omega⟩ ?_ | refine XQ.sub rfl ⟨by omega, by omega⟩ ?_ | refine XQ.inc rfl rfl rfl ⟨by omega, by omega⟩ ?_)
  refine XQ.arg s2 rfl (by omega) (by omega) ?_
  repeat (first | refine XQ.go rfl rfl ?_ | refine XQ.zeq0 rfl ?_ | refine XQ.zeq1 rfl ?_ | refine XQ.zne0 rfl ?_ | refine XQ.zne1 rfl ?_ | refine XQ.add rfl ⟨by omega, by omega⟩ ?_ | refine XQ.sub rfl ⟨by omega, by omega⟩ ?_ | refine XQ.inc rfl rfl rfl ⟨by omega, by omega⟩ ?_)
  refine XQ.arg s2 rfl (by omega) (by omega) ?_
  refine XQ.v4 rfl hC.1.1 rfl (le8 rfl) ((C_put (d := 0) (t := f (i + 1)) (k := f (i + 2)) (w := f (i + 3)) hC hw).deepn (by omega)) (fun r S1 hq => ?_)
  obtain ⟨rfl, hC1, hW1, f1⟩ := hq
  have hM1 := hM.cfr hzx f1
  have s3 := s2.cfr s1 (by omega) f1
  repeat (first | refine XQ.go rfl rfl ?_ | refine XQ.zeq0 rfl ?_ | refine XQ.zeq1 rfl ?_ | refine XQ.zne0 rfl ?_ | refine XQ.zne1 rfl ?_ | refine XQ.add rfl ⟨by omega, by omega⟩ ?_ | refine XQ.sub rfl ⟨by omega, by omega⟩ ?_ | refine XQ.inc rfl rfl rfl ⟨by omega, by omega⟩ ?_)
  refine XQ.arg s3 rfl (by omega) (by omega) ?_
  repeat (first | refine XQ.go rfl rfl ?_ | refine XQ.zeq0 rfl ?_ | refine XQ.zeq1 rfl ?_ | refine XQ.zne0 rfl ?_ | refine XQ.zne1 rfl ?_ | refine XQ.add rfl ⟨by omega, by omega⟩ ?_ | refine XQ.sub rfl ⟨by omega, by omega⟩ ?_ | refine XQ.inc rfl rfl rfl ⟨by omega, by omega⟩ ?_)
  refine XQ.arg s3 rfl (by omega) (by omega) ?_
  repeat (first | refine XQ.go rfl rfl ?_ | refine XQ.zeq0 rfl ?_ | refine XQ.zeq1 rfl ?_ | refine XQ.zne0 rfl ?_ | refine XQ.zne1 rfl ?_ | refine XQ.add rfl ⟨by omega, by omega⟩ ?_ | refine XQ.sub rfl ⟨by omega, by omega⟩ ?_ | refine XQ.inc rfl rfl rfl ⟨by omega, by omega⟩ ?_)
  refine XQ.arg s3 rfl (by omega) (by omega) ?_
  refine XQ.v4 rfl hM1.1 rfl (le8 rfl) ((M_put (d := 0) (t := f (i + 1)) (k := f (i + 2)) (w := f (i + 3)) (MO.rf hM1) hw.1).deepn (by omega)) (fun r S2 hq => ?_)
  obtain ⟨rfl, hM2⟩ := hq
  exact XQ.ceq rfl (fun _ => K _ _ _ (h.step hC1 hW1 f1 hM2 up_put)) (fun q => absurd rfl q)
set_option maxRecDepth 20000 in
theorem law_find (h : LI x sc n f z q c S A M) (i0 : 0 ≤ i) (i4 : i + 4 ≤ n) (hn : n ≤ 100000) (hc : c < 100000) (K : ∀ S' A' M', LI x sc n f z q (c + 1) S' A' M' → XQ 7 k_L_law 678 (lL sc x i) [] S' Q) : XQ 7 k_L_law 412 (lL sc x i) [] S Q := by
  obtain ⟨hC, hw, hM, ⟨s1, s2⟩, ⟨hb1, hb4⟩, hz⟩ := id h
  have hzx := hC.1.2.2.2.2.2.2.2.2.2.2
  have hr : M 13 4 < 100000 := by omega
  have hm : M 13 1 < 100000 := by omega
  repeat (first | refine XQ.go rfl rfl ?_ | refine XQ.zeq0 rfl ?_ | refine XQ.zeq1 rfl ?_ | refine XQ.zne0 rfl ?_ | refine XQ.zne1 rfl ?_ | refine XQ.add rfl ⟨by omega, by omega⟩ ?_ | refine XQ.sub rfl ⟨by omega, by omega⟩ ?_ | refine XQ.inc rfl rfl rfl ⟨by omega, by omega⟩ ?_)
  refine XQ.arg s2 rfl (by omega) (by omega) ?_
  repeat (first | refine XQ.go rfl rfl ?_ | refine XQ.zeq0 rfl ?_ | refine XQ.zeq1 rfl ?_ | refine XQ.zne0 rfl ?_ | refine XQ.zne1 rfl ?_ | refine XQ.add rfl ⟨by omega, by omega⟩ ?_ | refine XQ.sub rfl ⟨by omega, by omega⟩ ?_ | refine XQ.inc rfl rfl rfl ⟨by omega, by omega⟩ ?_)
  refine XQ.arg s2 rfl (by omega) (by omega) ?_
  repeat (first | refine XQ.go rfl rfl ?_ | refine XQ.zeq0 rfl ?_ | refine XQ.zeq1 rfl ?_ | refine XQ.zne0 rfl ?_ | refine XQ.zne1 rfl ?_ | refine XQ.add rfl ⟨by omega, by omega⟩ ?_ | refine XQ.sub rfl ⟨by omega, by omega⟩ ?_ | refine XQ.inc rfl rfl rfl ⟨by omega, by omega⟩ ?_)
  refine XQ.arg s2 rfl (by omega) (by omega) ?_
  refine XQ.v4 rfl hC.1.1 rfl (le8 rfl) ((C_find (d := 0) (w := f (i + 1)) (t := f (i + 2)) (k := f (i + 3)) hC hw).deepn (by omega)) (fun r S1 hq => ?_)
  obtain ⟨rfl, hC1, hW1, f1⟩ := hq
  have hM1 := hM.cfr hzx f1
  have s3 := s2.cfr s1 (by omega) f1
  repeat (first | refine XQ.go rfl rfl ?_ | refine XQ.zeq0 rfl ?_ | refine XQ.zeq1 rfl ?_ | refine XQ.zne0 rfl ?_ | refine XQ.zne1 rfl ?_ | refine XQ.add rfl ⟨by omega, by omega⟩ ?_ | refine XQ.sub rfl ⟨by omega, by omega⟩ ?_ | refine XQ.inc rfl rfl rfl ⟨by omega, by omega⟩ ?_)
  refine XQ.arg s3 rfl (by omega) (by omega) ?_
  repeat (first | refine XQ.go rfl rfl ?_ | refine XQ.zeq0 rfl ?_ | refine XQ.zeq1 rfl ?_ | refine XQ.zne0 rfl ?_ | refine XQ.zne1 rfl ?_ | refine XQ.add rfl ⟨by omega, by omega⟩ ?_ | refine XQ.sub rfl ⟨by omega, by omega⟩ ?_ | refine XQ.inc rfl rfl rfl ⟨by omega, by omega⟩ ?_)
  refine XQ.arg s3 rfl (by omega) (by omega) ?_
  repeat (first | refine XQ.go rfl rfl ?_ | refine XQ.zeq0 rfl ?_ | refine XQ.zeq1 rfl ?_ | refine XQ.zne0 rfl ?_ | refine XQ.zne1 rfl ?_ | refine XQ.add rfl ⟨by omega, by omega⟩ ?_ | refine XQ.sub rfl ⟨by omega, by omega⟩ ?_ | refine XQ.inc rfl rfl rfl ⟨by omega, by omega⟩ ?_)
  refine XQ.arg s3 rfl (by omega) (by omega) ?_
  refine XQ.v4 rfl hM1.1 rfl (le8 rfl) ((M_find (d := 0) (w := f (i + 1)) (t := f (i + 2)) (k := f (i + 3)) (MO.rf hM1) hw.1).deepn (by omega)) (fun r S2 hq => ?_)
  obtain ⟨rfl, hM2⟩ := hq
  exact XQ.ceq rfl (fun _ => K _ _ _ (h.step hC1 hW1 f1 hM2 up_find)) (fun q => absurd rfl q)
set_option maxRecDepth 20000 in
theorem law_register (h : LI x sc n f z q c S A M) (i0 : 0 ≤ i) (i4 : i + 4 ≤ n) (hn : n ≤ 100000) (hc : c < 100000) (K : ∀ S' A' M', LI x sc n f z q (c + 1) S' A' M' → XQ 7 k_L_law 678 (lL sc x i) [] S' Q) : XQ 7 k_L_law 455 (lL sc x i) [] S Q := by
  obtain ⟨hC, hw, hM, ⟨s1, s2⟩, ⟨hb1, hb4⟩, hz⟩ := id h
  have hzx := hC.1.2.2.2.2.2.2.2.2.2.2
  have hr : M 13 4 < 100000 := by omega
  have hm : M 13 1 < 100000 := by omega
  repeat (first | refine XQ.go rfl rfl ?_ | refine XQ.zeq0 rfl ?_ | refine XQ.zeq1 rfl ?_ | refine XQ.zne0 rfl ?_ | refine XQ.zne1 rfl ?_ | refine XQ.add rfl ⟨by omega, by omega⟩ ?_ | refine XQ.sub rfl ⟨by omega, by omega⟩ ?_ | refine XQ.inc rfl rfl rfl ⟨by omega, by omega⟩ ?_)
  refine XQ.arg s2 rfl (by omega) (by omega) ?_
  repeat (first | refine XQ.go rfl rfl ?_ | refine XQ.zeq0 rfl ?_ | refine XQ.zeq1 rfl ?_ | refine XQ.zne0 rfl ?_ | refine XQ.zne1 rfl ?_ | refine XQ.add rfl ⟨by omega, by omega⟩ ?_ | refine XQ.sub rfl ⟨by omega, by omega⟩ ?_ | refine XQ.inc rfl rfl rfl ⟨by omega, by omega⟩ ?_)
  refine XQ.arg s2 rfl (by omega) (by omega) ?_
  refine XQ.v3 rfl hC.1.1 rfl (le8 rfl) ((C_register (d := 0) (v := f (i + 1)) (tag := f (i + 2)) hC hw).deepn (by omega)) (fun r S1 hq => ?_)
  obtain ⟨rfl, hC1, hW1, f1⟩ := hq
  have hM1 := hM.cfr hzx f1
  have s3 := s2.cfr s1 (by omega) f1
  repeat (first | refine XQ.go rfl rfl ?_ | refine XQ.zeq0 rfl ?_ | refine XQ.zeq1 rfl ?_ | refine XQ.zne0 rfl ?_ | refine XQ.zne1 rfl ?_ | refine XQ.add rfl ⟨by omega, by omega⟩ ?_ | refine XQ.sub rfl ⟨by omega, by omega⟩ ?_ | refine XQ.inc rfl rfl rfl ⟨by omega, by omega⟩ ?_)
  refine XQ.arg s3 rfl (by omega) (by omega) ?_
  repeat (first | refine XQ.go rfl rfl ?_ | refine XQ.zeq0 rfl ?_ | refine XQ.zeq1 rfl ?_ | refine XQ.zne0 rfl ?_ | refine XQ.zne1 rfl ?_ | refine XQ.add rfl ⟨by omega, by omega⟩ ?_ | refine XQ.sub rfl ⟨by omega, by omega⟩ ?_ | refine XQ.inc rfl rfl rfl ⟨by omega, by omega⟩ ?_)
  refine XQ.arg s3 rfl (by omega) (by omega) ?_
  refine XQ.v3 rfl hM1.1 rfl (le8 rfl) ((M_register (d := 0) (v := f (i + 1)) (tag := f (i + 2)) (MO.rf hM1) hw.1).deepn (by omega)) (fun r S2 hq => ?_)
  obtain ⟨rfl, hM2⟩ := hq
  exact XQ.ceq rfl (fun _ => K _ _ _ (h.step hC1 hW1 f1 hM2 up_register)) (fun q => absurd rfl q)
set_option maxRecDepth 20000 in
theorem law_next (h : LI x sc n f z q c S A M) (i0 : 0 ≤ i) (i4 : i + 4 ≤ n) (hn : n ≤ 100000) (hc : c < 100000) (K : ∀ S' A' M', LI x sc n f z q (c + 1) S' A' M' → XQ 7 k_L_law 678 (lL sc x i) [] S' Q) : XQ 7 k_L_law 488 (lL sc x i) [] S Q := by
  obtain ⟨hC, hw, hM, ⟨s1, s2⟩, ⟨hb1, hb4⟩, hz⟩ := id h
  have hzx := hC.1.2.2.2.2.2.2.2.2.2.2
  have hr : M 13 4 < 100000 := by omega
  have hm : M 13 1 < 100000 := by omega
  repeat (first | refine XQ.go rfl rfl ?_ | refine XQ.zeq0 rfl ?_ | refine XQ.zeq1 rfl ?_ | refine XQ.zne0 rfl ?_ | refine XQ.zne1 rfl ?_ | refine XQ.add rfl ⟨by omega, by omega⟩ ?_ | refine XQ.sub rfl ⟨by omega, by omega⟩ ?_ | refine XQ.inc rfl rfl rfl ⟨by omega, by omega⟩ ?_)
  refine XQ.arg s2 rfl (by omega) (by omega) ?_
  refine XQ.v2 rfl hC.1.1 rfl (le8 rfl) ((C_next (d := 0) (v := f (i + 1)) hC hw).deepn (by omega)) (fun r S1 hq => ?_)
  obtain ⟨rfl, hC1, hW1, f1⟩ := hq
  have hM1 := hM.cfr hzx f1
  have s3 := s2.cfr s1 (by omega) f1
  repeat (first | refine XQ.go rfl rfl ?_ | refine XQ.zeq0 rfl ?_ | refine XQ.zeq1 rfl ?_ | refine XQ.zne0 rfl ?_ | refine XQ.zne1 rfl ?_ | refine XQ.add rfl ⟨by omega, by omega⟩ ?_ | refine XQ.sub rfl ⟨by omega, by omega⟩ ?_ | refine XQ.inc rfl rfl rfl ⟨by omega, by omega⟩ ?_)
  refine XQ.arg s3 rfl (by omega) (by omega) ?_
  refine XQ.v2 rfl hM1.1 rfl (le8 rfl) ((M_next (d := 0) (v := f (i + 1)) (MO.rf hM1) hw.1).deepn (by omega)) (fun r S2 hq => ?_)
  obtain ⟨rfl, hM2⟩ := hq
  exact XQ.ceq rfl (fun _ => K _ _ _ (h.step hC1 hW1 f1 hM2 up_next)) (fun q => absurd rfl q)
set_option maxRecDepth 20000 in
theorem law_collect (h : LI x sc n f z q c S A M) (i0 : 0 ≤ i) (i4 : i + 4 ≤ n) (hn : n ≤ 100000) (hc : c < 100000) (K : ∀ S' A' M', LI x sc n f z q (c + 1) S' A' M' → XQ 7 k_L_law 678 (lL sc x i) [] S' Q) : XQ 7 k_L_law 511 (lL sc x i) [] S Q := by
  obtain ⟨hC, hw, hM, ⟨s1, s2⟩, ⟨hb1, hb4⟩, hz⟩ := id h
  have hzx := hC.1.2.2.2.2.2.2.2.2.2.2
  have hr : M 13 4 < 100000 := by omega
  have hm : M 13 1 < 100000 := by omega
  repeat (first | refine XQ.go rfl rfl ?_ | refine XQ.zeq0 rfl ?_ | refine XQ.zeq1 rfl ?_ | refine XQ.zne0 rfl ?_ | refine XQ.zne1 rfl ?_ | refine XQ.add rfl ⟨by omega, by omega⟩ ?_ | refine XQ.sub rfl ⟨by omega, by omega⟩ ?_ | refine XQ.inc rfl rfl rfl ⟨by omega, by omega⟩ ?_)
  refine XQ.v1 rfl hC.1.1 rfl (le8 rfl) ((C_collect (d := 0)  hC hw hr).deepn (by omega)) (fun r S1 hq => ?_)
  obtain ⟨rfl, hC1, hW1, f1⟩ := hq
  have hM1 := hM.cfr hzx f1
  have s3 := s2.cfr s1 (by omega) f1
  repeat (first | refine XQ.go rfl rfl ?_ | refine XQ.zeq0 rfl ?_ | refine XQ.zeq1 rfl ?_ | refine XQ.zne0 rfl ?_ | refine XQ.zne1 rfl ?_ | refine XQ.add rfl ⟨by omega, by omega⟩ ?_ | refine XQ.sub rfl ⟨by omega, by omega⟩ ?_ | refine XQ.inc rfl rfl rfl ⟨by omega, by omega⟩ ?_)
  refine XQ.v1 rfl hM1.1 rfl (le8 rfl) ((M_collect (d := 0)  (MO.rf hM1) hw.1 hr).deepn (by omega)) (fun r S2 hq => ?_)
  obtain ⟨rfl, hM2⟩ := hq
  exact XQ.ceq rfl (fun _ => K _ _ _ (h.step hC1 hW1 f1 hM2 (up_collect hw.1 hr))) (fun q => absurd rfl q)
set_option maxRecDepth 20000 in
theorem law_kind (h : LI x sc n f z q c S A M) (i0 : 0 ≤ i) (i4 : i + 4 ≤ n) (hn : n ≤ 100000) (hc : c < 100000) (K : ∀ S' A' M', LI x sc n f z q (c + 1) S' A' M' → XQ 7 k_L_law 678 (lL sc x i) [] S' Q) : XQ 7 k_L_law 524 (lL sc x i) [] S Q := by
  obtain ⟨hC, hw, hM, ⟨s1, s2⟩, ⟨hb1, hb4⟩, hz⟩ := id h
  have hzx := hC.1.2.2.2.2.2.2.2.2.2.2
  have hr : M 13 4 < 100000 := by omega
  have hm : M 13 1 < 100000 := by omega
  repeat (first | refine XQ.go rfl rfl ?_ | refine XQ.zeq0 rfl ?_ | refine XQ.zeq1 rfl ?_ | refine XQ.zne0 rfl ?_ | refine XQ.zne1 rfl ?_ | refine XQ.add rfl ⟨by omega, by omega⟩ ?_ | refine XQ.sub rfl ⟨by omega, by omega⟩ ?_ | refine XQ.inc rfl rfl rfl ⟨by omega, by omega⟩ ?_)
  refine XQ.arg s2 rfl (by omega) (by omega) ?_
  refine XQ.v2 rfl hC.1.1 rfl (le8 rfl) ((C_kind (d := 0) (v := f (i + 1)) hC hw).deepn (by omega)) (fun r S1 hq => ?_)
  obtain ⟨rfl, rfl⟩ := hq
  repeat (first | refine XQ.go rfl rfl ?_ | refine XQ.zeq0 rfl ?_ | refine XQ.zeq1 rfl ?_ | refine XQ.zne0 rfl ?_ | refine XQ.zne1 rfl ?_ | refine XQ.add rfl ⟨by omega, by omega⟩ ?_ | refine XQ.sub rfl ⟨by omega, by omega⟩ ?_ | refine XQ.inc rfl rfl rfl ⟨by omega, by omega⟩ ?_)
  refine XQ.arg s2 rfl (by omega) (by omega) ?_
  refine XQ.v2 rfl hM.1 rfl (le8 rfl) ((M_kind (d := 0) (v := f (i + 1)) (MO.rf hM) hw.1).deepn (by omega)) (fun r S2 hq => ?_)
  obtain ⟨rfl, rfl⟩ := hq
  exact XQ.ceq rfl (fun _ => K _ _ _ h.up) (fun q => absurd rfl q)
set_option maxRecDepth 20000 in
theorem law_value (h : LI x sc n f z q c S A M) (i0 : 0 ≤ i) (i4 : i + 4 ≤ n) (hn : n ≤ 100000) (hc : c < 100000) (K : ∀ S' A' M', LI x sc n f z q (c + 1) S' A' M' → XQ 7 k_L_law 678 (lL sc x i) [] S' Q) : XQ 7 k_L_law 547 (lL sc x i) [] S Q := by
  obtain ⟨hC, hw, hM, ⟨s1, s2⟩, ⟨hb1, hb4⟩, hz⟩ := id h
  have hzx := hC.1.2.2.2.2.2.2.2.2.2.2
  have hr : M 13 4 < 100000 := by omega
  have hm : M 13 1 < 100000 := by omega
  repeat (first | refine XQ.go rfl rfl ?_ | refine XQ.zeq0 rfl ?_ | refine XQ.zeq1 rfl ?_ | refine XQ.zne0 rfl ?_ | refine XQ.zne1 rfl ?_ | refine XQ.add rfl ⟨by omega, by omega⟩ ?_ | refine XQ.sub rfl ⟨by omega, by omega⟩ ?_ | refine XQ.inc rfl rfl rfl ⟨by omega, by omega⟩ ?_)
  refine XQ.arg s2 rfl (by omega) (by omega) ?_
  refine XQ.v2 rfl hC.1.1 rfl (le8 rfl) ((C_value (d := 0) (v := f (i + 1)) hC hw).deepn (by omega)) (fun r S1 hq => ?_)
  obtain ⟨rfl, rfl⟩ := hq
  repeat (first | refine XQ.go rfl rfl ?_ | refine XQ.zeq0 rfl ?_ | refine XQ.zeq1 rfl ?_ | refine XQ.zne0 rfl ?_ | refine XQ.zne1 rfl ?_ | refine XQ.add rfl ⟨by omega, by omega⟩ ?_ | refine XQ.sub rfl ⟨by omega, by omega⟩ ?_ | refine XQ.inc rfl rfl rfl ⟨by omega, by omega⟩ ?_)
  refine XQ.arg s2 rfl (by omega) (by omega) ?_
  refine XQ.v2 rfl hM.1 rfl (le8 rfl) ((M_value (d := 0) (v := f (i + 1)) (MO.rf hM)).deepn (by omega)) (fun r S2 hq => ?_)
  obtain ⟨rfl, rfl⟩ := hq
  exact XQ.ceq rfl (fun _ => K _ _ _ h.up) (fun q => absurd rfl q)
set_option maxRecDepth 20000 in
theorem law_hash (h : LI x sc n f z q c S A M) (i0 : 0 ≤ i) (i4 : i + 4 ≤ n) (hn : n ≤ 100000) (hc : c < 100000) (K : ∀ S' A' M', LI x sc n f z q (c + 1) S' A' M' → XQ 7 k_L_law 678 (lL sc x i) [] S' Q) : XQ 7 k_L_law 570 (lL sc x i) [] S Q := by
  obtain ⟨hC, hw, hM, ⟨s1, s2⟩, ⟨hb1, hb4⟩, hz⟩ := id h
  have hzx := hC.1.2.2.2.2.2.2.2.2.2.2
  have hr : M 13 4 < 100000 := by omega
  have hm : M 13 1 < 100000 := by omega
  repeat (first | refine XQ.go rfl rfl ?_ | refine XQ.zeq0 rfl ?_ | refine XQ.zeq1 rfl ?_ | refine XQ.zne0 rfl ?_ | refine XQ.zne1 rfl ?_ | refine XQ.add rfl ⟨by omega, by omega⟩ ?_ | refine XQ.sub rfl ⟨by omega, by omega⟩ ?_ | refine XQ.inc rfl rfl rfl ⟨by omega, by omega⟩ ?_)
  refine XQ.arg s2 rfl (by omega) (by omega) ?_
  refine XQ.v2 rfl hC.1.1 rfl (le8 rfl) ((C_hash (d := 0) (v := f (i + 1)) hC hw).deepn (by omega)) (fun r S1 hq => ?_)
  obtain ⟨rfl, rfl⟩ := hq
  repeat (first | refine XQ.go rfl rfl ?_ | refine XQ.zeq0 rfl ?_ | refine XQ.zeq1 rfl ?_ | refine XQ.zne0 rfl ?_ | refine XQ.zne1 rfl ?_ | refine XQ.add rfl ⟨by omega, by omega⟩ ?_ | refine XQ.sub rfl ⟨by omega, by omega⟩ ?_ | refine XQ.inc rfl rfl rfl ⟨by omega, by omega⟩ ?_)
  refine XQ.arg s2 rfl (by omega) (by omega) ?_
  refine XQ.v2 rfl hM.1 rfl (le8 rfl) ((M_hash (d := 0) (v := f (i + 1)) (MO.rf hM) hw.1).deepn (by omega)) (fun r S2 hq => ?_)
  obtain ⟨rfl, rfl⟩ := hq
  exact XQ.ceq rfl (fun _ => K _ _ _ h.up) (fun q => absurd rfl q)
set_option maxRecDepth 20000 in
theorem law_place (h : LI x sc n f z q c S A M) (i0 : 0 ≤ i) (i4 : i + 4 ≤ n) (hn : n ≤ 100000) (hc : c < 100000) (K : ∀ S' A' M', LI x sc n f z q (c + 1) S' A' M' → XQ 7 k_L_law 678 (lL sc x i) [] S' Q) : XQ 7 k_L_law 593 (lL sc x i) [] S Q := by
  obtain ⟨hC, hw, hM, ⟨s1, s2⟩, ⟨hb1, hb4⟩, hz⟩ := id h
  have hzx := hC.1.2.2.2.2.2.2.2.2.2.2
  have hr : M 13 4 < 100000 := by omega
  have hm : M 13 1 < 100000 := by omega
  repeat (first | refine XQ.go rfl rfl ?_ | refine XQ.zeq0 rfl ?_ | refine XQ.zeq1 rfl ?_ | refine XQ.zne0 rfl ?_ | refine XQ.zne1 rfl ?_ | refine XQ.add rfl ⟨by omega, by omega⟩ ?_ | refine XQ.sub rfl ⟨by omega, by omega⟩ ?_ | refine XQ.inc rfl rfl rfl ⟨by omega, by omega⟩ ?_)
  refine XQ.arg s2 rfl (by omega) (by omega) ?_
  refine XQ.v2 rfl hC.1.1 rfl (le8 rfl) ((C_place (d := 0) (v := f (i + 1)) hC hw).deepn (by omega)) (fun r S1 hq => ?_)
  obtain ⟨rfl, rfl⟩ := hq
  repeat (first | refine XQ.go rfl rfl ?_ | refine XQ.zeq0 rfl ?_ | refine XQ.zeq1 rfl ?_ | refine XQ.zne0 rfl ?_ | refine XQ.zne1 rfl ?_ | refine XQ.add rfl ⟨by omega, by omega⟩ ?_ | refine XQ.sub rfl ⟨by omega, by omega⟩ ?_ | refine XQ.inc rfl rfl rfl ⟨by omega, by omega⟩ ?_)
  refine XQ.arg s2 rfl (by omega) (by omega) ?_
  refine XQ.v2 rfl hM.1 rfl (le8 rfl) ((M_place (d := 0) (v := f (i + 1)) (MO.rf hM) hw.1).deepn (by omega)) (fun r S2 hq => ?_)
  obtain ⟨rfl, rfl⟩ := hq
  exact XQ.ceq rfl (fun _ => K _ _ _ h.up) (fun q => absurd rfl q)
set_option maxRecDepth 20000 in
theorem law_size (h : LI x sc n f z q c S A M) (i0 : 0 ≤ i) (i4 : i + 4 ≤ n) (hn : n ≤ 100000) (hc : c < 100000) (K : ∀ S' A' M', LI x sc n f z q (c + 1) S' A' M' → XQ 7 k_L_law 678 (lL sc x i) [] S' Q) : XQ 7 k_L_law 616 (lL sc x i) [] S Q := by
  obtain ⟨hC, hw, hM, ⟨s1, s2⟩, ⟨hb1, hb4⟩, hz⟩ := id h
  have hzx := hC.1.2.2.2.2.2.2.2.2.2.2
  have hr : M 13 4 < 100000 := by omega
  have hm : M 13 1 < 100000 := by omega
  repeat (first | refine XQ.go rfl rfl ?_ | refine XQ.zeq0 rfl ?_ | refine XQ.zeq1 rfl ?_ | refine XQ.zne0 rfl ?_ | refine XQ.zne1 rfl ?_ | refine XQ.add rfl ⟨by omega, by omega⟩ ?_ | refine XQ.sub rfl ⟨by omega, by omega⟩ ?_ | refine XQ.inc rfl rfl rfl ⟨by omega, by omega⟩ ?_)
  refine XQ.arg s2 rfl (by omega) (by omega) ?_
  refine XQ.v2 rfl hC.1.1 rfl (le8 rfl) ((C_size (d := 0) (v := f (i + 1)) hC hw).deepn (by omega)) (fun r S1 hq => ?_)
  obtain ⟨rfl, rfl⟩ := hq
  repeat (first | refine XQ.go rfl rfl ?_ | refine XQ.zeq0 rfl ?_ | refine XQ.zeq1 rfl ?_ | refine XQ.zne0 rfl ?_ | refine XQ.zne1 rfl ?_ | refine XQ.add rfl ⟨by omega, by omega⟩ ?_ | refine XQ.sub rfl ⟨by omega, by omega⟩ ?_ | refine XQ.inc rfl rfl rfl ⟨by omega, by omega⟩ ?_)
  refine XQ.arg s2 rfl (by omega) (by omega) ?_
  refine XQ.v2 rfl hM.1 rfl (le8 rfl) ((M_size (d := 0) (v := f (i + 1)) (MO.rf hM) hw.1).deepn (by omega)) (fun r S2 hq => ?_)
  obtain ⟨rfl, rfl⟩ := hq
  exact XQ.ceq rfl (fun _ => K _ _ _ h.up) (fun q => absurd rfl q)
set_option maxRecDepth 20000 in
theorem law_used (h : LI x sc n f z q c S A M) (i0 : 0 ≤ i) (i4 : i + 4 ≤ n) (hn : n ≤ 100000) (hc : c < 100000) (K : ∀ S' A' M', LI x sc n f z q (c + 1) S' A' M' → XQ 7 k_L_law 678 (lL sc x i) [] S' Q) : XQ 7 k_L_law 639 (lL sc x i) [] S Q := by
  obtain ⟨hC, hw, hM, ⟨s1, s2⟩, ⟨hb1, hb4⟩, hz⟩ := id h
  have hzx := hC.1.2.2.2.2.2.2.2.2.2.2
  have hr : M 13 4 < 100000 := by omega
  have hm : M 13 1 < 100000 := by omega
  repeat (first | refine XQ.go rfl rfl ?_ | refine XQ.zeq0 rfl ?_ | refine XQ.zeq1 rfl ?_ | refine XQ.zne0 rfl ?_ | refine XQ.zne1 rfl ?_ | refine XQ.add rfl ⟨by omega, by omega⟩ ?_ | refine XQ.sub rfl ⟨by omega, by omega⟩ ?_ | refine XQ.inc rfl rfl rfl ⟨by omega, by omega⟩ ?_)
  refine XQ.v1 rfl hC.1.1 rfl (le8 rfl) ((C_used (d := 0)  hC).deepn (by omega)) (fun r S1 hq => ?_)
  obtain ⟨rfl, rfl⟩ := hq
  repeat (first | refine XQ.go rfl rfl ?_ | refine XQ.zeq0 rfl ?_ | refine XQ.zeq1 rfl ?_ | refine XQ.zne0 rfl ?_ | refine XQ.zne1 rfl ?_ | refine XQ.add rfl ⟨by omega, by omega⟩ ?_ | refine XQ.sub rfl ⟨by omega, by omega⟩ ?_ | refine XQ.inc rfl rfl rfl ⟨by omega, by omega⟩ ?_)
  refine XQ.v1 rfl hM.1 rfl (le8 rfl) ((M_used (d := 0)  (MO.rf hM) hw.1).deepn (by omega)) (fun r S2 hq => ?_)
  obtain ⟨rfl, rfl⟩ := hq
  exact XQ.ceq rfl (fun _ => K _ _ _ h.up) (fun q => absurd rfl q)
set_option maxRecDepth 20000 in
theorem law_waiting (h : LI x sc n f z q c S A M) (i0 : 0 ≤ i) (i4 : i + 4 ≤ n) (hn : n ≤ 100000) (hc : c < 100000) (K : ∀ S' A' M', LI x sc n f z q (c + 1) S' A' M' → XQ 7 k_L_law 678 (lL sc x i) [] S' Q) : XQ 7 k_L_law 652 (lL sc x i) [] S Q := by
  obtain ⟨hC, hw, hM, ⟨s1, s2⟩, ⟨hb1, hb4⟩, hz⟩ := id h
  have hzx := hC.1.2.2.2.2.2.2.2.2.2.2
  have hr : M 13 4 < 100000 := by omega
  have hm : M 13 1 < 100000 := by omega
  repeat (first | refine XQ.go rfl rfl ?_ | refine XQ.zeq0 rfl ?_ | refine XQ.zeq1 rfl ?_ | refine XQ.zne0 rfl ?_ | refine XQ.zne1 rfl ?_ | refine XQ.add rfl ⟨by omega, by omega⟩ ?_ | refine XQ.sub rfl ⟨by omega, by omega⟩ ?_ | refine XQ.inc rfl rfl rfl ⟨by omega, by omega⟩ ?_)
  refine XQ.v1 rfl hC.1.1 rfl (le8 rfl) ((C_waiting (d := 0)  hC).deepn (by omega)) (fun r S1 hq => ?_)
  obtain ⟨rfl, rfl⟩ := hq
  repeat (first | refine XQ.go rfl rfl ?_ | refine XQ.zeq0 rfl ?_ | refine XQ.zeq1 rfl ?_ | refine XQ.zne0 rfl ?_ | refine XQ.zne1 rfl ?_ | refine XQ.add rfl ⟨by omega, by omega⟩ ?_ | refine XQ.sub rfl ⟨by omega, by omega⟩ ?_ | refine XQ.inc rfl rfl rfl ⟨by omega, by omega⟩ ?_)
  refine XQ.v1 rfl hM.1 rfl (le8 rfl) ((M_waiting (d := 0)  (MO.rf hM)).deepn (by omega)) (fun r S2 hq => ?_)
  obtain ⟨rfl, rfl⟩ := hq
  exact XQ.ceq rfl (fun _ => K _ _ _ h.up) (fun q => absurd rfl q)
set_option maxRecDepth 20000 in
theorem law_collections (h : LI x sc n f z q c S A M) (i0 : 0 ≤ i) (i4 : i + 4 ≤ n) (hn : n ≤ 100000) (hc : c < 100000) (K : ∀ S' A' M', LI x sc n f z q (c + 1) S' A' M' → XQ 7 k_L_law 678 (lL sc x i) [] S' Q) : XQ 7 k_L_law 665 (lL sc x i) [] S Q := by
  obtain ⟨hC, hw, hM, ⟨s1, s2⟩, ⟨hb1, hb4⟩, hz⟩ := id h
  have hzx := hC.1.2.2.2.2.2.2.2.2.2.2
  have hr : M 13 4 < 100000 := by omega
  have hm : M 13 1 < 100000 := by omega
  repeat (first | refine XQ.go rfl rfl ?_ | refine XQ.zeq0 rfl ?_ | refine XQ.zeq1 rfl ?_ | refine XQ.zne0 rfl ?_ | refine XQ.zne1 rfl ?_ | refine XQ.add rfl ⟨by omega, by omega⟩ ?_ | refine XQ.sub rfl ⟨by omega, by omega⟩ ?_ | refine XQ.inc rfl rfl rfl ⟨by omega, by omega⟩ ?_)
  refine XQ.v1 rfl hC.1.1 rfl (le8 rfl) ((C_collections (d := 0)  hC).deepn (by omega)) (fun r S1 hq => ?_)
  obtain ⟨rfl, rfl⟩ := hq
  repeat (first | refine XQ.go rfl rfl ?_ | refine XQ.zeq0 rfl ?_ | refine XQ.zeq1 rfl ?_ | refine XQ.zne0 rfl ?_ | refine XQ.zne1 rfl ?_ | refine XQ.add rfl ⟨by omega, by omega⟩ ?_ | refine XQ.sub rfl ⟨by omega, by omega⟩ ?_ | refine XQ.inc rfl rfl rfl ⟨by omega, by omega⟩ ?_)
  refine XQ.v1 rfl hM.1 rfl (le8 rfl) ((M_collections (d := 0)  (MO.rf hM)).deepn (by omega)) (fun r S2 hq => ?_)
  obtain ⟨rfl, rfl⟩ := hq
  exact XQ.ceq rfl (fun _ => K _ _ _ h.up) (fun q => absurd rfl q)
end LW
