/-! the law: from its entry to its end -/
section LV
variable {x sc z q c : Nat} {n i : Int} {f : Int → Int} {S S1 S2 : MS} {A A' : Int → Nat} {M M' : MM} {Q : Option MV → MS → Prop}
set_option maxRecDepth 20000 in
theorem law_call (h : LI x sc n f z q c S A M) (i0 : 0 ≤ i) (i4 : i + 4 ≤ n) (hn : n ≤ 100000) (hc : c < 100000) (K : ∀ S' A' M', LI x sc n f z q (c + 1) S' A' M' → XQ 7 k_L_law 678 (lL sc x i) [] S' Q) : XQ 7 k_L_law 26 (lL sc x i) [] S Q := by
  have s2 := h.2.2.2.1.2
  repeat (first | refine XQ.go rfl rfl ?_ | refine XQ.zeq0 rfl ?_ | refine XQ.zeq1 rfl ?_ | refine XQ.zne0 rfl ?_ | refine XQ.zne1 rfl ?_ | refine XQ.add rfl ⟨by omega, by omega⟩ ?_ | refine XQ.sub rfl ⟨by omega, by omega⟩ ?_ | refine XQ.inc rfl rfl rfl ⟨by omega, by omega⟩ ?_)
  refine XQ.arg s2 rfl i0 (by omega) ?_
  repeat (first | refine XQ.go rfl rfl ?_ | refine XQ.zeq0 rfl ?_ | refine XQ.zeq1 rfl ?_ | refine XQ.zne0 rfl ?_ | refine XQ.zne1 rfl ?_ | refine XQ.add rfl ⟨by omega, by omega⟩ ?_ | refine XQ.sub rfl ⟨by omega, by omega⟩ ?_ | refine XQ.inc rfl rfl rfl ⟨by omega, by omega⟩ ?_)
  have a0 := Int.emod_nonneg (f i) (show (32 : Int) ≠ 0 by decide)
  have a1 := Int.emod_lt_of_pos (f i) (show (0 : Int) < 32 by decide)
  generalize f i % 32 = a at a0 a1 ⊢
  have ha : a = 0 ∨ a = 1 ∨ a = 2 ∨ a = 3 ∨ a = 4 ∨ a = 5 ∨ a = 6 ∨ a = 7 ∨ a = 8 ∨ a = 9 ∨ a = 10 ∨ a = 11 ∨ a = 12 ∨ a = 13 ∨ a = 14 ∨ a = 15 ∨ a = 16 ∨ a = 17 ∨ a = 18 ∨ a = 19 ∨ 20 ≤ a := by omega
  rcases ha with rfl | rfl | rfl | rfl | rfl | rfl | rfl | rfl | rfl | rfl | rfl | rfl | rfl | rfl | rfl | rfl | rfl | rfl | rfl | rfl | ha
  · exact XQ.go rfl rfl (law_number h i0 i4 hn hc K)
  · exact XQ.go rfl rfl (law_assign h i0 i4 hn hc K)
  · exact XQ.go rfl rfl (law_vector h i0 i4 hn hc K)
  · exact XQ.go rfl rfl (law_weak h i0 i4 hn hc K)
  · exact XQ.go rfl rfl (law_table h i0 i4 hn hc K)
  · exact XQ.go rfl rfl (law_set h i0 i4 hn hc K)
  · exact XQ.go rfl rfl (law_get h i0 i4 hn hc K)
  · exact XQ.go rfl rfl (law_put h i0 i4 hn hc K)
  · exact XQ.go rfl rfl (law_find h i0 i4 hn hc K)
  · exact XQ.go rfl rfl (law_register h i0 i4 hn hc K)
  · exact XQ.go rfl rfl (law_next h i0 i4 hn hc K)
  · exact XQ.go rfl rfl (law_collect h i0 i4 hn hc K)
  · exact XQ.go rfl rfl (law_kind h i0 i4 hn hc K)
  · exact XQ.go rfl rfl (law_value h i0 i4 hn hc K)
  · exact XQ.go rfl rfl (law_hash h i0 i4 hn hc K)
  · exact XQ.go rfl rfl (law_place h i0 i4 hn hc K)
  · exact XQ.go rfl rfl (law_size h i0 i4 hn hc K)
  · exact XQ.go rfl rfl (law_used h i0 i4 hn hc K)
  · exact XQ.go rfl rfl (law_waiting h i0 i4 hn hc K)
  · exact XQ.go rfl rfl (law_collections h i0 i4 hn hc K)
  · exact XQ.go (pc' := 678) (st' := []) (S' := S) rfl (if_pos (Or.inr (by omega))) (K _ _ _ h.up)
set_option maxRecDepth 20000 in
theorem law_loop (n0 : 0 ≤ n) (hn : n ≤ 2048) : ∀ (j c : Nat) (S : MS) (A : Int → Nat) (M : MM), LI x sc n f z q c S A M → n ≤ 4 * (c : Int) + 4 * (j : Int) → c + j ≤ 512 → XQ 7 k_L_law 18 (lL sc x (4 * (c : Int))) [] S (fun r S' => r = some (.inl 1) ∧ zS S' ≤ z + 1536 ∧ qS S' ≤ q + 15360) := by
  intro j
  induction j with
  | zero =>
    intro c S A M h h1 h2
    have s2 := h.2.2.2.1.2
    have hz := h.2.2.2.2.2
    repeat (first | refine XQ.go rfl rfl ?_ | refine XQ.zeq0 rfl ?_ | refine XQ.zeq1 rfl ?_ | refine XQ.zne0 rfl ?_ | refine XQ.zne1 rfl ?_ | refine XQ.add rfl ⟨by omega, by omega⟩ ?_ | refine XQ.sub rfl ⟨by omega, by omega⟩ ?_ | refine XQ.inc rfl rfl rfl ⟨by omega, by omega⟩ ?_)
    refine XQ.len rfl (by rw [s2.1]; decide) s2.2.1 ?_
    repeat (first | refine XQ.go rfl rfl ?_ | refine XQ.zeq0 rfl ?_ | refine XQ.zeq1 rfl ?_ | refine XQ.zne0 rfl ?_ | refine XQ.zne1 rfl ?_ | refine XQ.add rfl ⟨by omega, by omega⟩ ?_ | refine XQ.sub rfl ⟨by omega, by omega⟩ ?_ | refine XQ.inc rfl rfl rfl ⟨by omega, by omega⟩ ?_)
    refine XQ.cgt rfl (fun q => ?_) (fun q => by omega)
    repeat (first | refine XQ.go rfl rfl ?_ | refine XQ.zeq0 rfl ?_ | refine XQ.zeq1 rfl ?_ | refine XQ.zne0 rfl ?_ | refine XQ.zne1 rfl ?_ | refine XQ.add rfl ⟨by omega, by omega⟩ ?_ | refine XQ.sub rfl ⟨by omega, by omega⟩ ?_ | refine XQ.inc rfl rfl rfl ⟨by omega, by omega⟩ ?_)
    exact XQ.ret rfl rfl ⟨rfl, by omega, by omega⟩
  | succ j ih =>
    intro c S A M h h1 h2
    have s2 := h.2.2.2.1.2
    have hz := h.2.2.2.2.2
    repeat (first | refine XQ.go rfl rfl ?_ | refine XQ.zeq0 rfl ?_ | refine XQ.zeq1 rfl ?_ | refine XQ.zne0 rfl ?_ | refine XQ.zne1 rfl ?_ | refine XQ.add rfl ⟨by omega, by omega⟩ ?_ | refine XQ.sub rfl ⟨by omega, by omega⟩ ?_ | refine XQ.inc rfl rfl rfl ⟨by omega, by omega⟩ ?_)
    refine XQ.len rfl (by rw [s2.1]; decide) s2.2.1 ?_
    repeat (first | refine XQ.go rfl rfl ?_ | refine XQ.zeq0 rfl ?_ | refine XQ.zeq1 rfl ?_ | refine XQ.zne0 rfl ?_ | refine XQ.zne1 rfl ?_ | refine XQ.add rfl ⟨by omega, by omega⟩ ?_ | refine XQ.sub rfl ⟨by omega, by omega⟩ ?_ | refine XQ.inc rfl rfl rfl ⟨by omega, by omega⟩ ?_)
    refine XQ.cgt rfl (fun q => ?_) (fun q => ?_)
    · repeat (first | refine XQ.go rfl rfl ?_ | refine XQ.zeq0 rfl ?_ | refine XQ.zeq1 rfl ?_ | refine XQ.zne0 rfl ?_ | refine XQ.zne1 rfl ?_ | refine XQ.add rfl ⟨by omega, by omega⟩ ?_ | refine XQ.sub rfl ⟨by omega, by omega⟩ ?_ | refine XQ.inc rfl rfl rfl ⟨by omega, by omega⟩ ?_)
      exact XQ.ret rfl rfl ⟨rfl, by omega, by omega⟩
    · refine law_call h (by omega) (by omega) (by omega) (by omega) (fun S' A' M' h' => ?_)
      refine XQ.inc rfl rfl (c := 4 * ((c + 1 : Nat) : Int)) (by omega) ⟨by omega, by omega⟩ ?_
      exact XQ.go rfl rfl (ih (c + 1) S' A' M' h' (by omega) (by omega))
set_option maxRecDepth 20000 in
theorem law_run {S0 : MS} (hs : SX sc n f S0) (hsc : sc < zS S0) (hfr : ∀ b, zS S0 ≤ b → tS S0 b = 0) (n0 : 0 ≤ n) (hn : n ≤ 2048) : XQ 7 k_L_law 0 (mentry (mL k_L_law) [.inr (some sc)]) [] S0 (fun r S' => r = some (.inl 1) ∧ zS S' ≤ zS S0 + 1558 ∧ qS S' ≤ qS S0 + 15797) := by
  repeat (first | refine XQ.go rfl rfl ?_ | refine XQ.zeq0 rfl ?_ | refine XQ.zeq1 rfl ?_ | refine XQ.zne0 rfl ?_ | refine XQ.zne1 rfl ?_ | refine XQ.add rfl ⟨by omega, by omega⟩ ?_ | refine XQ.sub rfl ⟨by omega, by omega⟩ ?_ | refine XQ.inc rfl rfl rfl ⟨by omega, by omega⟩ ?_)
  refine XQ.v1 rfl (mnew_s S0 1 7 df_H).1 rfl (le8 rfl) ((H_init (d := 0) (x := zS S0) (mnew_s S0 1 7 df_H).1 (Nat.lt_succ_self _)).deepn (by omega)) (fun r S1 hq => ?_)
  obtain ⟨rfl, rfl⟩ := hq
  obtain ⟨p1, p2, p3, p4, p5⟩ := iniH_ok S0
  generalize iniH (mnew S0 1 7 df_H) (zS S0) = S1 at p1 p2 p3 p4 p5 ⊢
  repeat (first | refine XQ.go rfl rfl ?_ | refine XQ.zeq0 rfl ?_ | refine XQ.zeq1 rfl ?_ | refine XQ.zne0 rfl ?_ | refine XQ.zne1 rfl ?_ | refine XQ.add rfl ⟨by omega, by omega⟩ ?_ | refine XQ.sub rfl ⟨by omega, by omega⟩ ?_ | refine XQ.inc rfl rfl rfl ⟨by omega, by omega⟩ ?_)
  refine XQ.v1 rfl (mnew_s S1 7 18 df_M).1 rfl (le8 rfl) ((M_init (d := 0) (m := zS S1) (mnew_s S1 7 18 df_M).1 (Nat.lt_succ_self _)).deepn (by omega)) (fun r S2 hq => ?_)
  obtain ⟨rfl, rfl⟩ := hq
  have hp := iniM_pm S1
  have hq2 : qS (iniM (mnew S1 7 18 df_M) (zS S1)) = qS S1 + 382 := rfl
  generalize iniM (mnew S1 7 18 df_M) (zS S1) = S2 at hp hq2 ⊢
  have hz2 := hp.1
  have ph : PH (zS S0) S2 := p1.keep (fun b hb => hp.2.2.2.2.1 b (by omega))
  have hf2 : ∀ a, zS S2 ≤ a → tS S2 a = 0 := hp.2.2.2.2.2 (fun b hb => p5 hfr b (by omega))
  have hmod := hp.mod
  rw [p2] at hmod
  have a1 := p4 sc hsc
  have a2 := hp.2.2.2.2.1 sc (by omega)
  have li : LI (zS S0) sc n f (zS S0 + 22) (qS S0 + 437) 0 S2 (fun _ => 0) M00 := ⟨ph.cl hf2 (by omega) _, M00_wf, hmod, ⟨hsc, a2.1.trans (a1.1.trans hs.1), a2.2.1.trans (a1.2.1.trans hs.2.1), fun i i0 i1 => by rw [a2.2.2, a1.2.2]; exact hs.2.2 i i0 i1⟩, ⟨by decide, by decide⟩, by omega, by omega⟩
  have k : XQ 7 k_L_law 18 [some (.inr (some sc)), some (.inr (some (zS S0))), some (.inr (some (zS S1))), some (.inl 0)] [] S2 (fun r S' => r = some (.inl 1) ∧ zS S' ≤ zS S0 + 1558 ∧ qS S' ≤ qS S0 + 15797) := by
    rw [p2]
    exact (law_loop n0 hn 512 0 S2 _ M00 li (by omega) (by omega)).mono (fun v S' h => ⟨h.1, by omega, by omega⟩)
  repeat (first | exact k | refine XQ.go rfl rfl ?_ | refine XQ.zeq0 rfl ?_ | refine XQ.zeq1 rfl ?_ | refine XQ.zne0 rfl ?_ | refine XQ.zne1 rfl ?_ | refine XQ.add rfl ⟨by omega, by omega⟩ ?_ | refine XQ.sub rfl ⟨by omega, by omega⟩ ?_ | refine XQ.inc rfl rfl rfl ⟨by omega, by omega⟩ ?_)
end LV
