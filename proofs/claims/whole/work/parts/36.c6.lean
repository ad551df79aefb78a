/-! the class's methods, walked: put, register, next -/
section G6
variable {d x : Nat} {S S' : MS} {A : Int → Nat} {M M' : MM}
theorem CL.ent (hC : CL x S A M) (hw : WF M) {o e key n' a b : Int} {r : Option Nat} (h0 : 0 ≤ o) (h1 : o < M 13 0) (h4 : M 3 o = 4) (e0 : 0 ≤ e) (n3 : n' ≤ 3) (hcase : (e < M 4 o ∧ n' = M 4 o) ∨ (e = M 4 o ∧ n' = M 4 o + 1)) (hdif : ∀ f, 0 ≤ f → f < M 4 o → f ≠ e → M 7 (4 * o + f) ≠ key) (hlk : live M key) (hr : VR x S A r a b) (ok : OKV M a b)
    (hz : zS S' = zS S) (ht : tS S' = tS S) (hl : lS S' = lS S) (hv1 : ∀ j, vS S' (A (M 2 o) + 1) j = if j = e then .inr (some (A key)) else vS S (A (M 2 o) + 1) j) (hv2 : ∀ j, vS S' (A (M 2 o) + 2) j = if j = e then .inr r else vS S (A (M 2 o) + 2) j) (hv8 : ∀ j, vS S' (A (M 2 o)) j = if j = 8 then .inl n' else vS S (A (M 2 o)) j) (hvo : ∀ b, b ≠ A (M 2 o) → b ≠ A (M 2 o) + 1 → b ≠ A (M 2 o) + 2 → vS S' b = vS S b)
    (ho1 : offS [4, 5, 6, 7] M M') (q4 : ∀ i, M' 4 i = if i = o then n' else M 4 i) (q5 : ∀ i, M' 5 i = if i = 4 * o + e then a else M 5 i) (q6 : ∀ i, M' 6 i = if i = 4 * o + e then b else M 6 i) (q7 : ∀ i, M' 7 i = if i = 4 * o + e then key else M 7 i) : CL x S' A M' ∧ WF M' := by
  have hO := hC.2.2.2.2.1
  have hob := hO o h0 h1
  have hB := hw.1.2.2.1
  have hm := hB o h0 h1
  have ho : offS [4, 5, 6, 7, 8] M M' := fun j i hj => ho1 j i (by simp at hj ⊢; omega)
  obtain ⟨k1, k2, k3, k4⟩ := hob
  rcases k4 with ⟨z1, z2, -⟩ | ⟨z1, z2, -⟩ | ⟨z1, z2, z3, z4, z5, z6, z7, z8, z9, z10⟩
  · omega
  · omega
  have hc : ∀ o', 0 ≤ o' → o' < M 13 0 → aCells M' o' = aCells M o' := fun o' a1 a2 => by
    unfold aCells
    rw [ho1 3 o' rfl, q4]
    by_cases q : o' = o
    · subst q; rw [h4]; rfl
    · rw [if_neg q]
  have hok := fun {is has : Int} (z : OKV M is has) => OKV_off ho1 rfl (ho1 13 0 rfl) z
  have hlv := fun {h : Int} (z : live M h) => live_off ho1 rfl (ho1 13 0 rfl) z
  have hnum : ∀ b, tS S b = 2 → vS S' b 0 = vS S b 0 := fun b hb => by rw [hvo b (fun q => by rw [q] at hb; omega) (fun q => by rw [q] at hb; omega) (fun q => by rw [q] at hb; omega)]
  constructor
  · refine hC.obj hw hz ht hl (fun b j hb => ?_) ho hc (fun o' a1 a2 => ?_)
    · rcases hb with hb | hb | hb
      · rw [hvo b (by omega) (by omega) (by omega)]
      · by_cases q : b = A (M 2 o)
        · rw [q, hv8, if_neg (by omega)]
        · rw [hvo b q (fun q => by rw [q] at hb; rcases hb.1 with y | y | y <;> omega) (fun q => by rw [q] at hb; rcases hb.1 with y | y | y <;> omega)]
      · rw [hvo b (fun q => by rw [q] at hb; omega) (fun q => by rw [q] at hb; omega) (fun q => by rw [q] at hb; omega)]
    · rw [ho1 13 0 rfl] at a2
      have hob' := hO o' a1 a2
      by_cases q : o' = o
      · subst q
        unfold cObj
        rw [ho1 2 _ rfl, ho1 3 _ rfl, q4, if_pos rfl, hc _ a1 a2, ht, hl]
        refine ⟨k1, by rw [hv8, if_neg (by decide)]; exact k2, by rw [hv8, if_neg (by decide)]; exact k3, Or.inr (Or.inr ⟨z1, z2, by rw [hv8, if_neg (by decide)]; exact z3, by rw [hv8, if_neg (by decide)]; exact z4, by rw [hv8, if_pos rfl], z6, z7, z8, z9, fun f f0 f1 => ?_⟩)⟩
        rw [hv1, hv2, q5, q6, q7]
        by_cases y : f = e
        · rw [if_pos y, if_pos y, if_pos (by omega), if_pos (by omega), if_pos (by omega)]
          exact ⟨rfl, r, rfl, hr.tr3 ht hnum⟩
        · rw [if_neg y, if_neg y, if_neg (by omega), if_neg (by omega), if_neg (by omega)]
          obtain ⟨w1, r', w2, w3⟩ := z10 f f0 (by omega)
          exact ⟨w1, r', w2, w3.tr3 ht hnum⟩
      · have hne := A_ne hO hw a1 a2 h0 h1 q
        have hm' := (hB o' a1 a2).2.1
        have n1 : A (M 2 o') ≠ A (M 2 o) + 1 := fun e => by have := hob'.tg; rw [e] at this; rcases this with y | y | y <;> omega
        have n2 : A (M 2 o') ≠ A (M 2 o) + 2 := fun e => by have := hob'.tg; rw [e] at this; rcases this with y | y | y <;> omega
        refine hob'.tr3 ht hl hnum (fun j hj => by rw [hvo _ hne n1 n2]) (fun y1 y2 j => by
            rw [hvo _ (fun q => by rw [q] at y1; omega) (by omega) (fun q => by
              have q' : A (M 2 o') = A (M 2 o) + 1 := by omega
              exact n1 q')]) (fun y1 y2 j => by
            rw [hvo _ (fun q => by rw [q] at y1; omega) (fun q => by rw [q] at y1; omega) (by omega)]) ⟨ho1 2 _ rfl, ho1 3 _ rfl, ?_, fun f f0 f1 => ⟨?_, ?_, ?_⟩⟩ hm'
        · rw [q4, if_neg q]
        · rw [q5, if_neg (by omega)]
        · rw [q6, if_neg (by omega)]
        · rw [q7, if_neg (by omega)]
  · refine hw.obj ho ?_ (fun o' f a1 a2 a3 a4 => ?_) (fun o' a1 a2 => ?_) (fun o' f f' a1 a2 a3 a4 a5 a6 => ?_) hc
    · obtain ⟨b1, b2, b3, b4⟩ := hw.1
      unfold BW
      rw [ho1 13 0 rfl, ho1 13 1 rfl, ho1 13 2 rfl, ho1 13 3 rfl, ho1 13 4 rfl]
      refine ⟨b1, b2, fun i i0 i1 => ?_, b4⟩
      rw [ho1 3 i rfl, q4]
      have := b3 i i0 i1
      by_cases q : i = o
      · subst q; rw [if_pos rfl]; exact ⟨by omega, by omega, this.2.2.1, fun y => by omega, fun _ => n3⟩
      · rw [if_neg q]; exact this
    · rw [ho1 13 0 rfl] at a2
      rw [q4] at a4
      have hm' := hB o' a1 a2
      rw [ho1 3 o' rfl, q5, q6, q7]
      by_cases q : o' = o
      · rw [if_pos q] at a4
        subst q
        by_cases y : f = e
        · rw [if_pos (by omega), if_pos (by omega), if_pos (by omega)]
          exact ⟨hok ok, fun y => by omega, fun _ => hlv hlk⟩
        · rw [if_neg (by omega), if_neg (by omega), if_neg (by omega)]
          obtain ⟨w1, w2, w3⟩ := hw.2.2.2.1 o' f a1 a2 a3 (by omega)
          exact ⟨hok w1, w2, fun y => hlv (w3 y)⟩
      · rw [if_neg q] at a4
        rw [if_neg (by omega), if_neg (by omega), if_neg (by omega)]
        obtain ⟨w1, w2, w3⟩ := hw.2.2.2.1 o' f a1 a2 a3 a4
        exact ⟨hok w1, w2, fun y => hlv (w3 y)⟩
    · rw [ho1 13 0 rfl] at a2
      rw [ho1 3 o' rfl, q4]
      intro y
      rw [if_neg (fun q => by subst q; omega)]
      exact hw.2.2.2.2.1 o' a1 a2 y
    · rw [ho1 13 0 rfl] at a2
      rw [ho1 3 o' rfl] at a3
      rw [q4] at a6
      rw [q7, q7]
      have hm' := hB o' a1 a2
      by_cases q : o' = o
      · rw [if_pos q] at a6
        subst q
        by_cases y : f = e
        · rw [if_pos (by omega), if_neg (by omega)]
          exact fun w => hdif f' (by omega) (by omega) (by omega) w.symm
        · rw [if_neg (by omega)]
          by_cases y2 : f' = e
          · rw [if_pos (by omega)]
            exact hdif f a4 (by omega) y
          · rw [if_neg (by omega)]
            exact hw.2.2.2.2.2.1 o' f f' a1 a2 a3 a4 a5 (by omega)
      · rw [if_neg q] at a6
        rw [if_neg (by omega), if_neg (by omega)]
        exact hw.2.2.2.2.2.1 o' f f' a1 a2 a3 a4 a5 a6
def aEnter (M : MM) (o k w : Int) : Int × MM := if aEnt M o (M 1 k) < 0 then (if M 4 o = 3 then (0, M) else (1, aPutAt (u2 M 4 o (M 4 o + 1)) o (M 4 o) k w)) else (1, aPutAt M o (aEnt M o (M 1 k)) k w)
theorem aPutAt_v (M : MM) (o e k w : Int) : offS [5, 6, 7] M (aPutAt M o e k w) ∧ (∀ i, aPutAt M o e k w 5 i = if i = 4 * o + e then M 0 w else M 5 i) ∧ (∀ i, aPutAt M o e k w 6 i = if i = 4 * o + e then M 1 w else M 6 i) ∧ (∀ i, aPutAt M o e k w 7 i = if i = 4 * o + e then M 1 k else M 7 i) := by
  refine ⟨((offS.rf.u rfl _ _).u rfl _ _).u rfl _ _, fun i => ?_, fun i => ?_, fun i => ?_⟩
  · unfold aPutAt
    rw [u2_n _ _ (Or.inl (by decide))]
    by_cases e : i = 4 * o + e
    · rw [if_pos e, e, u2_s]
    · rw [if_neg e, u2_n _ _ (Or.inr e), u2_n _ _ (Or.inl (by decide))]
  · unfold aPutAt
    by_cases e : i = 4 * o + e
    · rw [if_pos e, e, u2_s]
    · rw [if_neg e, u2_n _ _ (Or.inr e), u2_n _ _ (Or.inl (by decide)), u2_n _ _ (Or.inl (by decide))]
  · unfold aPutAt
    rw [u2_n _ _ (Or.inl (by decide)), u2_n _ _ (Or.inl (by decide))]
    by_cases e : i = 4 * o + e
    · rw [if_pos e, e, u2_s]
    · rw [if_neg e, u2_n _ _ (Or.inr e)]
theorem TG.ast {a b : Nat} (h : TG S b) (ht : tS S a = 22) : astOK [(22, [3, 4, 5]), (23, [2, 3, 4, 5])] S a (some b) = true := by
  unfold astOK; rw [ht]; show [3, 4, 5].contains (tS S b) = true; exact h.c
theorem C_enter {o k w : Int} {r : Option Nat} (hC : CL x S A M) (hw : WF M) (h0 : 0 ≤ o) (h1 : o < M 13 0) (h4 : M 3 o = 4) (hl : live M (M 1 k)) (hr : VR x S A r (M 0 w) (M 1 w)) (ok : OKV M (M 0 w) (M 1 w)) : XQ (d + 1) k_T_enter 0 (mentry (mL k_T_enter) [.inr (some (A (M 2 o))), .inr (some (A (M 1 k))), .inr r]) [] S (fun q S' => q = some (.inl (aEnter M o k w).1) ∧ CL x S' A (aEnter M o k w).2 ∧ WF (aEnter M o k w).2 ∧ CFr x 3 30 S S') := by
  have hO := hC.2.2.2.2.1
  have hob := hO o h0 h1
  have hm := hw.1.2.2.1 o h0 h1
  obtain ⟨k1, k2, k3, k4⟩ := hob
  rcases k4 with ⟨z1, z2, -⟩ | ⟨z1, z2, -⟩ | ⟨z1, z2, z3, z4, z5, z6, z7, z8, z9, z10⟩
  · omega
  · omega
  repeat (first | refine XQ.go rfl rfl ?_ | refine XQ.zeq0 rfl ?_ | refine XQ.zeq1 rfl ?_ | refine XQ.zne0 rfl ?_ | refine XQ.zne1 rfl ?_ | refine XQ.add rfl ⟨by omega, by omega⟩ ?_ | refine XQ.sub rfl ⟨by omega, by omega⟩ ?_ | refine XQ.inc rfl rfl rfl ⟨by omega, by omega⟩ ?_)
  refine XQ.v2 rfl z1 rfl (le8 rfl) (C_entryOf (d := d) hO hw h0 h1 h4 hl) (fun q S' hq => ?_)
  obtain ⟨rfl, e, rfl, ⟨e0, e1, e2, e3⟩ | ⟨rfl, e3⟩⟩ := hq
  · have good : aEnter M o k w = (1, aPutAt M o e k w) := by unfold aEnter; rw [e3, if_neg (by omega)]
    obtain ⟨y, y5, y6, y7⟩ := aPutAt_v M o e k w
    obtain ⟨y1, -⟩ := z10 e e0 e1
    have fin := hC.ent (S' := mset S' (A (M 2 o) + 2) e (.inr r)) (M' := aPutAt M o e k w) hw h0 h1 h4 e0 (hm.2.2.2.2 h4) (Or.inl ⟨e1, rfl⟩) (fun f f0 f1 f2 q => by
      have := aEnt_some hw h0 h1 h4 f0 f1 q
      omega) hl hr ok rfl rfl rfl (fun j => by
        rw [mset_v _ _ _ _ (by omega)]
        by_cases q : j = e
        · rw [if_pos q, q, y1, e2]
        · rw [if_neg q]) (fun j => by rw [mset_s]) (fun j => by
        rw [mset_v _ _ _ _ (by omega)]
        by_cases q : j = 8
        · rw [if_pos q, q, z5]
        · rw [if_neg q]) (fun b _ _ hb => mset_v _ _ _ _ hb) (fun j i hj => y j i (by simp at hj ⊢; omega)) (fun i => by
        rw [y 4 i rfl]
        by_cases q : i = o
        · rw [if_pos q, q]
        · rw [if_neg q]) y5 y6 y7
    rw [good]
    repeat (first | refine XQ.go rfl rfl ?_ | refine XQ.zeq0 rfl ?_ | refine XQ.zeq1 rfl ?_ | refine XQ.zne0 rfl ?_ | refine XQ.zne1 rfl ?_ | refine XQ.add rfl ⟨by omega, by omega⟩ ?_ | refine XQ.sub rfl ⟨by omega, by omega⟩ ?_ | refine XQ.inc rfl rfl rfl ⟨by omega, by omega⟩ ?_)
    refine XQ.clt rfl (fun _ => ?_) (fun q => by have := hm.2.2.2.2 h4; omega)
    repeat (first | refine XQ.go rfl rfl ?_ | refine XQ.zeq0 rfl ?_ | refine XQ.zeq1 rfl ?_ | refine XQ.zne0 rfl ?_ | refine XQ.zne1 rfl ?_ | refine XQ.add rfl ⟨by omega, by omega⟩ ?_ | refine XQ.sub rfl ⟨by omega, by omega⟩ ?_ | refine XQ.inc rfl rfl rfl ⟨by omega, by omega⟩ ?_)
    refine XQ.gx rfl z1 z5 ?_
    refine XQ.cne rfl (fun _ => ?_) (fun q => by omega)
    repeat (first | refine XQ.go rfl rfl ?_ | refine XQ.zeq0 rfl ?_ | refine XQ.zeq1 rfl ?_ | refine XQ.zne0 rfl ?_ | refine XQ.zne1 rfl ?_ | refine XQ.add rfl ⟨by omega, by omega⟩ ?_ | refine XQ.sub rfl ⟨by omega, by omega⟩ ?_ | refine XQ.inc rfl rfl rfl ⟨by omega, by omega⟩ ?_)
    refine XQ.gx rfl z1 z4 ?_
    repeat (first | refine XQ.go rfl rfl ?_ | refine XQ.zeq0 rfl ?_ | refine XQ.zeq1 rfl ?_ | refine XQ.zne0 rfl ?_ | refine XQ.zne1 rfl ?_ | refine XQ.add rfl ⟨by omega, by omega⟩ ?_ | refine XQ.sub rfl ⟨by omega, by omega⟩ ?_ | refine XQ.inc rfl rfl rfl ⟨by omega, by omega⟩ ?_)
    refine XQ.ast rfl (hr.ast hO ok z8) e0 (by have := hm.2.2.2.2 h4; omega) ?_
    repeat (first | refine XQ.go rfl rfl ?_ | refine XQ.zeq0 rfl ?_ | refine XQ.zeq1 rfl ?_ | refine XQ.zne0 rfl ?_ | refine XQ.zne1 rfl ?_ | refine XQ.add rfl ⟨by omega, by omega⟩ ?_ | refine XQ.sub rfl ⟨by omega, by omega⟩ ?_ | refine XQ.inc rfl rfl rfl ⟨by omega, by omega⟩ ?_)
    exact XQ.ret rfl rfl ⟨rfl, fin.1, fin.2, CFr.rf.set (Or.inr (by omega)) _ _⟩
  · repeat (first | refine XQ.go rfl rfl ?_ | refine XQ.zeq0 rfl ?_ | refine XQ.zeq1 rfl ?_ | refine XQ.zne0 rfl ?_ | refine XQ.zne1 rfl ?_ | refine XQ.add rfl ⟨by omega, by omega⟩ ?_ | refine XQ.sub rfl ⟨by omega, by omega⟩ ?_ | refine XQ.inc rfl rfl rfl ⟨by omega, by omega⟩ ?_)
    refine XQ.clt rfl (fun q => ?_) (fun q => ?_)
    · have good : aEnter M o k w = (1, aPutAt (u2 M 4 o (M 4 o + 1)) o (M 4 o) k w) := by unfold aEnter; rw [e3, if_pos (by omega), if_neg (by omega)]
      obtain ⟨y, y5, y6, y7⟩ := aPutAt_v (u2 M 4 o (M 4 o + 1)) o (M 4 o) k w
      have hu : ∀ j i, j ≠ 4 → u2 M 4 o (M 4 o + 1) j i = M j i := fun j i hj => u2_n _ _ (Or.inl hj)
      have fin := hC.ent (S' := mset (mset (mset S' (A (M 2 o) + 1) (M 4 o) (.inr (some (A (M 1 k))))) (A (M 2 o)) 8 (.inl (M 4 o + 1))) (A (M 2 o) + 2) (M 4 o) (.inr r)) (M' := aPutAt (u2 M 4 o (M 4 o + 1)) o (M 4 o) k w) hw h0 h1 h4 hm.1 (n' := M 4 o + 1) (by omega) (Or.inr ⟨rfl, rfl⟩) (fun f f0 f1 f2 q => by
        have := aEnt_some hw h0 h1 h4 f0 f1 q
        omega) hl hr ok rfl rfl rfl (fun j => by
          rw [mset_v _ _ _ _ (by omega), mset_v _ _ _ _ (by omega), mset_s]) (fun j => by
          rw [mset_s, mset_v _ _ _ _ (by omega), mset_v _ _ _ _ (by omega)]) (fun j => by
          rw [mset_v _ _ _ _ (by omega), mset_s, mset_v _ _ _ _ (by omega)]) (fun b b1 b2 b3 => by rw [mset_v _ _ _ _ b3, mset_v _ _ _ _ b1, mset_v _ _ _ _ b2]) (fun j i hj => by rw [y j i (by simp at hj ⊢; omega), hu j i (by simp at hj; omega)]) (fun i => by
          rw [y 4 i rfl]
          by_cases q : i = o
          · rw [if_pos q, q, u2_s]
          · rw [if_neg q, u2_n _ _ (Or.inr q)]) (fun i => by rw [y5, hu 0 w (by decide), hu 5 i (by decide)]) (fun i => by rw [y6, hu 1 w (by decide), hu 6 i (by decide)]) (fun i => by rw [y7, hu 1 k (by decide), hu 7 i (by decide)])
      rw [good]
      repeat (first | refine XQ.go rfl rfl ?_ | refine XQ.zeq0 rfl ?_ | refine XQ.zeq1 rfl ?_ | refine XQ.zne0 rfl ?_ | refine XQ.zne1 rfl ?_ | refine XQ.add rfl ⟨by omega, by omega⟩ ?_ | refine XQ.sub rfl ⟨by omega, by omega⟩ ?_ | refine XQ.inc rfl rfl rfl ⟨by omega, by omega⟩ ?_)
      refine XQ.gx rfl z1 z5 ?_
      refine XQ.cne rfl (fun q => absurd rfl q) (fun _ => ?_)
      repeat (first | refine XQ.go rfl rfl ?_ | refine XQ.zeq0 rfl ?_ | refine XQ.zeq1 rfl ?_ | refine XQ.zne0 rfl ?_ | refine XQ.zne1 rfl ?_ | refine XQ.add rfl ⟨by omega, by omega⟩ ?_ | refine XQ.sub rfl ⟨by omega, by omega⟩ ?_ | refine XQ.inc rfl rfl rfl ⟨by omega, by omega⟩ ?_)
      refine XQ.gx rfl z1 z3 ?_
      repeat (first | refine XQ.go rfl rfl ?_ | refine XQ.zeq0 rfl ?_ | refine XQ.zeq1 rfl ?_ | refine XQ.zne0 rfl ?_ | refine XQ.zne1 rfl ?_ | refine XQ.add rfl ⟨by omega, by omega⟩ ?_ | refine XQ.sub rfl ⟨by omega, by omega⟩ ?_ | refine XQ.inc rfl rfl rfl ⟨by omega, by omega⟩ ?_)
      refine XQ.ast rfl ((live_tg hO hl).ast z6) hm.1 (by omega) ?_
      repeat (first | refine XQ.go rfl rfl ?_ | refine XQ.zeq0 rfl ?_ | refine XQ.zeq1 rfl ?_ | refine XQ.zne0 rfl ?_ | refine XQ.zne1 rfl ?_ | refine XQ.add rfl ⟨by omega, by omega⟩ ?_ | refine XQ.sub rfl ⟨by omega, by omega⟩ ?_ | refine XQ.inc rfl rfl rfl ⟨by omega, by omega⟩ ?_)
      refine XQ.gx rfl z1 (v := .inl (M 4 o)) (by rw [mset_v _ _ _ _ (by omega)]; exact z5) ?_
      repeat (first | refine XQ.go rfl rfl ?_ | refine XQ.zeq0 rfl ?_ | refine XQ.zeq1 rfl ?_ | refine XQ.zne0 rfl ?_ | refine XQ.zne1 rfl ?_ | refine XQ.add rfl ⟨by omega, by omega⟩ ?_ | refine XQ.sub rfl ⟨by omega, by omega⟩ ?_ | refine XQ.inc rfl rfl rfl ⟨by omega, by omega⟩ ?_)
      refine XQ.put rfl (by show [5].contains (tS S' (A (M 2 o))) = true; rw [z1]; rfl) rfl ?_
      repeat (first | refine XQ.go rfl rfl ?_ | refine XQ.zeq0 rfl ?_ | refine XQ.zeq1 rfl ?_ | refine XQ.zne0 rfl ?_ | refine XQ.zne1 rfl ?_ | refine XQ.add rfl ⟨by omega, by omega⟩ ?_ | refine XQ.sub rfl ⟨by omega, by omega⟩ ?_ | refine XQ.inc rfl rfl rfl ⟨by omega, by omega⟩ ?_)
      refine XQ.gx rfl z1 (v := .inr (some (A (M 2 o) + 2))) (by rw [mset_s, if_neg (by decide), mset_v _ _ _ _ (by omega)]; exact z4) ?_
      repeat (first | refine XQ.go rfl rfl ?_ | refine XQ.zeq0 rfl ?_ | refine XQ.zeq1 rfl ?_ | refine XQ.zne0 rfl ?_ | refine XQ.zne1 rfl ?_ | refine XQ.add rfl ⟨by omega, by omega⟩ ?_ | refine XQ.sub rfl ⟨by omega, by omega⟩ ?_ | refine XQ.inc rfl rfl rfl ⟨by omega, by omega⟩ ?_)
      refine XQ.ast rfl ?_ hm.1 (by show M 4 o < lS S' (A (M 2 o) + 2); omega) ?_
      · exact hr.ast (S := S') hO ok z8
      repeat (first | refine XQ.go rfl rfl ?_ | refine XQ.zeq0 rfl ?_ | refine XQ.zeq1 rfl ?_ | refine XQ.zne0 rfl ?_ | refine XQ.zne1 rfl ?_ | refine XQ.add rfl ⟨by omega, by omega⟩ ?_ | refine XQ.sub rfl ⟨by omega, by omega⟩ ?_ | refine XQ.inc rfl rfl rfl ⟨by omega, by omega⟩ ?_)
      exact XQ.ret rfl rfl ⟨rfl, fin.1, fin.2, ((CFr.rf.set (Or.inr (by omega)) _ _).set (Or.inr (by omega)) _ _).set (Or.inr (by omega)) _ _⟩
    · have good : aEnter M o k w = (0, M) := by unfold aEnter; rw [e3, if_pos (by omega), if_pos (by have := hm.2.2.2.2 h4; omega)]
      rw [good]
      repeat (first | refine XQ.go rfl rfl ?_ | refine XQ.zeq0 rfl ?_ | refine XQ.zeq1 rfl ?_ | refine XQ.zne0 rfl ?_ | refine XQ.zne1 rfl ?_ | refine XQ.add rfl ⟨by omega, by omega⟩ ?_ | refine XQ.sub rfl ⟨by omega, by omega⟩ ?_ | refine XQ.inc rfl rfl rfl ⟨by omega, by omega⟩ ?_)
      exact XQ.ret rfl rfl ⟨rfl, hC, hw, CFr.rf⟩
theorem C_put {t k w : Int} (hC : CL x S A M) (hw : WF M) : XQ (d + 3) k_H_put 0 (mentry (mL k_H_put) [.inr (some x), .inl t, .inl k, .inl w]) [] S (fun q S' => q = some (.inl (aPut M t k w).1) ∧ CL x S' A (aPut M t k w).2 ∧ WF (aPut M t k w).2 ∧ CFr x 3 30 S S') := by
  have hC0 := hC
  obtain ⟨hF, hN, hRs, hV, hO, hPl, hTg, hMk⟩ := hC
  have bad : (aObjOf M t 4 < 0 ∨ aObj M k < 0 ∨ w < 0 ∨ 5 < w) → aPut M t k w = (0, M) := fun q => by unfold aPut; rw [if_pos q]
  repeat (first | refine XQ.go rfl rfl ?_ | refine XQ.zeq0 rfl ?_ | refine XQ.zeq1 rfl ?_ | refine XQ.zne0 rfl ?_ | refine XQ.zne1 rfl ?_ | refine XQ.add rfl ⟨by omega, by omega⟩ ?_ | refine XQ.sub rfl ⟨by omega, by omega⟩ ?_ | refine XQ.inc rfl rfl rfl ⟨by omega, by omega⟩ ?_)
  refine XQ.v2 rfl hF.1 rfl (le8 rfl) (C_heldThing (v := k) hF hV hO hw.2.2.1) (fun q S' hq => ?_)
  obtain ⟨rfl, rfl⟩ := hq
  repeat (first | refine XQ.go rfl rfl ?_ | refine XQ.zeq0 rfl ?_ | refine XQ.zeq1 rfl ?_ | refine XQ.zne0 rfl ?_ | refine XQ.zne1 rfl ?_ | refine XQ.add rfl ⟨by omega, by omega⟩ ?_ | refine XQ.sub rfl ⟨by omega, by omega⟩ ?_ | refine XQ.inc rfl rfl rfl ⟨by omega, by omega⟩ ?_)
  refine XQ.s1 rfl rfl (le8 rfl) (C_isVariable (v := w)) (fun r S' hq => ?_)
  obtain ⟨rfl, ⟨rfl, hw2⟩ | ⟨rfl, hw2⟩⟩ := hq
  · rcases hT_cases hO hw k with ⟨e, e2⟩ | ⟨e, h0, h5, h9, hl, ht, g0, g1, g2⟩
    · rw [bad (by omega), e]
      repeat (first | refine XQ.go rfl rfl ?_ | refine XQ.zeq0 rfl ?_ | refine XQ.zeq1 rfl ?_ | refine XQ.zne0 rfl ?_ | refine XQ.zne1 rfl ?_ | refine XQ.add rfl ⟨by omega, by omega⟩ ?_ | refine XQ.sub rfl ⟨by omega, by omega⟩ ?_ | refine XQ.inc rfl rfl rfl ⟨by omega, by omega⟩ ?_)
      exact XQ.ret rfl rfl ⟨rfl, hC0, hw, CFr.rf⟩
    · rw [e]
      repeat (first | refine XQ.go rfl rfl ?_ | refine XQ.zeq0 rfl ?_ | refine XQ.zeq1 rfl ?_ | refine XQ.zne0 rfl ?_ | refine XQ.zne1 rfl ?_ | refine XQ.add rfl ⟨by omega, by omega⟩ ?_ | refine XQ.sub rfl ⟨by omega, by omega⟩ ?_ | refine XQ.inc rfl rfl rfl ⟨by omega, by omega⟩ ?_)
      refine XQ.v2 rfl hF.1 rfl (le8 rfl) (C_held (d := d + 1) (v := t) hF hV) (fun q S' hq => ?_)
      obtain ⟨rfl, r, rfl, ⟨i0, i5, i1, i2⟩ | ⟨i0, rfl⟩⟩ := hq
      · rcases i2.cases hO (hw.2.2.1 t i0 i5) with ⟨e, rfl⟩ | ⟨e, a, rfl, e2, e3⟩ | ⟨e, rfl, e2, e3⟩
        · rw [bad (by have := aObjOf_n (s := 4) (Or.inl (by rw [aObj_n (M := M) (v := t) (fun z => by omega)]; decide)); omega)]
          repeat (first | refine XQ.go rfl rfl ?_ | refine XQ.zeq0 rfl ?_ | refine XQ.zeq1 rfl ?_ | refine XQ.zne0 rfl ?_ | refine XQ.zne1 rfl ?_ | refine XQ.add rfl ⟨by omega, by omega⟩ ?_ | refine XQ.sub rfl ⟨by omega, by omega⟩ ?_ | refine XQ.inc rfl rfl rfl ⟨by omega, by omega⟩ ?_)
          exact XQ.ret rfl rfl ⟨rfl, hC0, hw, CFr.rf⟩
        · rw [bad (by have := aObjOf_n (s := 4) (Or.inl (by rw [aObj_n (M := M) (v := t) (fun z => by omega)]; decide)); omega)]
          repeat (first | refine XQ.go rfl rfl ?_ | refine XQ.zeq0 rfl ?_ | refine XQ.zeq1 rfl ?_ | refine XQ.zne0 rfl ?_ | refine XQ.zne1 rfl ?_ | refine XQ.add rfl ⟨by omega, by omega⟩ ?_ | refine XQ.sub rfl ⟨by omega, by omega⟩ ?_ | refine XQ.inc rfl rfl rfl ⟨by omega, by omega⟩ ?_)
          refine XQ.insN rfl (by rw [e2]; rfl) (by rw [e2]; rfl) ?_
          repeat (first | refine XQ.go rfl rfl ?_ | refine XQ.zeq0 rfl ?_ | refine XQ.zeq1 rfl ?_ | refine XQ.zne0 rfl ?_ | refine XQ.zne1 rfl ?_ | refine XQ.add rfl ⟨by omega, by omega⟩ ?_ | refine XQ.sub rfl ⟨by omega, by omega⟩ ?_ | refine XQ.inc rfl rfl rfl ⟨by omega, by omega⟩ ?_)
          exact XQ.ret rfl rfl ⟨rfl, hC0, hw, CFr.rf⟩
        · obtain ⟨j0, j1, j2⟩ := aObj_9 hw.2.1 i0 i5 e e2
          have hob := hO _ j0 j1
          unfold cObj at hob
          rw [j2] at hob
          rcases hob.2.2.2 with ⟨z, z2, -⟩ | ⟨z, z2, -⟩ | ⟨z, z2, z3, z4, z5, z6, z7, z8, z9, z10⟩
          · rw [bad (by have := aObjOf_n (M := M) (v := t) (s := 4) (Or.inr (by omega)); omega)]
            repeat (first | refine XQ.go rfl rfl ?_ | refine XQ.zeq0 rfl ?_ | refine XQ.zeq1 rfl ?_ | refine XQ.zne0 rfl ?_ | refine XQ.zne1 rfl ?_ | refine XQ.add rfl ⟨by omega, by omega⟩ ?_ | refine XQ.sub rfl ⟨by omega, by omega⟩ ?_ | refine XQ.inc rfl rfl rfl ⟨by omega, by omega⟩ ?_)
            refine XQ.insN rfl (by rw [z]; rfl) (by rw [z]; rfl) ?_
            repeat (first | refine XQ.go rfl rfl ?_ | refine XQ.zeq0 rfl ?_ | refine XQ.zeq1 rfl ?_ | refine XQ.zne0 rfl ?_ | refine XQ.zne1 rfl ?_ | refine XQ.add rfl ⟨by omega, by omega⟩ ?_ | refine XQ.sub rfl ⟨by omega, by omega⟩ ?_ | refine XQ.inc rfl rfl rfl ⟨by omega, by omega⟩ ?_)
            exact XQ.ret rfl rfl ⟨rfl, hC0, hw, CFr.rf⟩
          · rw [bad (by have := aObjOf_n (M := M) (v := t) (s := 4) (Or.inr (by omega)); omega)]
            repeat (first | refine XQ.go rfl rfl ?_ | refine XQ.zeq0 rfl ?_ | refine XQ.zeq1 rfl ?_ | refine XQ.zne0 rfl ?_ | refine XQ.zne1 rfl ?_ | refine XQ.add rfl ⟨by omega, by omega⟩ ?_ | refine XQ.sub rfl ⟨by omega, by omega⟩ ?_ | refine XQ.inc rfl rfl rfl ⟨by omega, by omega⟩ ?_)
            refine XQ.insN rfl (by rw [z]; rfl) (by rw [z]; rfl) ?_
            repeat (first | refine XQ.go rfl rfl ?_ | refine XQ.zeq0 rfl ?_ | refine XQ.zeq1 rfl ?_ | refine XQ.zne0 rfl ?_ | refine XQ.zne1 rfl ?_ | refine XQ.add rfl ⟨by omega, by omega⟩ ?_ | refine XQ.sub rfl ⟨by omega, by omega⟩ ?_ | refine XQ.inc rfl rfl rfl ⟨by omega, by omega⟩ ?_)
            exact XQ.ret rfl rfl ⟨rfl, hC0, hw, CFr.rf⟩
          · have eo := aObjOf_y j0 z2
            have good : aPut M t k w = aEnter M (aObj M t) k w := by unfold aPut aEnter; rw [eo, if_neg (by omega)]
            repeat (first | refine XQ.go rfl rfl ?_ | refine XQ.zeq0 rfl ?_ | refine XQ.zeq1 rfl ?_ | refine XQ.zne0 rfl ?_ | refine XQ.zne1 rfl ?_ | refine XQ.add rfl ⟨by omega, by omega⟩ ?_ | refine XQ.sub rfl ⟨by omega, by omega⟩ ?_ | refine XQ.inc rfl rfl rfl ⟨by omega, by omega⟩ ?_)
            refine XQ.insY rfl (by rw [z]; rfl) ?_
            repeat (first | refine XQ.go rfl rfl ?_ | refine XQ.zeq0 rfl ?_ | refine XQ.zeq1 rfl ?_ | refine XQ.zne0 rfl ?_ | refine XQ.zne1 rfl ?_ | refine XQ.add rfl ⟨by omega, by omega⟩ ?_ | refine XQ.sub rfl ⟨by omega, by omega⟩ ?_ | refine XQ.inc rfl rfl rfl ⟨by omega, by omega⟩ ?_)
            refine XQ.cst rfl (by rw [z]; rfl) ?_
            repeat (first | refine XQ.go rfl rfl ?_ | refine XQ.zeq0 rfl ?_ | refine XQ.zeq1 rfl ?_ | refine XQ.zne0 rfl ?_ | refine XQ.zne1 rfl ?_ | refine XQ.add rfl ⟨by omega, by omega⟩ ?_ | refine XQ.sub rfl ⟨by omega, by omega⟩ ?_ | refine XQ.inc rfl rfl rfl ⟨by omega, by omega⟩ ?_)
            refine XQ.v2 rfl hF.1 rfl (le8 rfl) (C_held (d := d + 1) (v := w) hF hV) (fun q S' hq => ?_)
            obtain ⟨rfl, r, rfl, ⟨l0, l5, l1, l2⟩ | ⟨l0, rfl⟩⟩ := hq
            · have hent := C_enter (d := d) hC0 hw j0 j1 z2 hl l2 (hw.2.2.1 w l0 l5)
              rw [j2] at hent
              rw [good]
              have hval : (aEnter M (aObj M t) k w).1 = 0 ∨ (aEnter M (aObj M t) k w).1 = 1 := by
                unfold aEnter
                split
                · split
                  · exact Or.inl rfl
                  · exact Or.inr rfl
                · exact Or.inr rfl
              refine XQ.v3 rfl z rfl (le8 rfl) hent.deep (fun q S'' hq => ?_)
              obtain ⟨rfl, y1, y2, y3⟩ := hq
              rcases hval with y | y <;> rw [y] at *
              · repeat (first | refine XQ.go rfl rfl ?_ | refine XQ.zeq0 rfl ?_ | refine XQ.zeq1 rfl ?_ | refine XQ.zne0 rfl ?_ | refine XQ.zne1 rfl ?_ | refine XQ.add rfl ⟨by omega, by omega⟩ ?_ | refine XQ.sub rfl ⟨by omega, by omega⟩ ?_ | refine XQ.inc rfl rfl rfl ⟨by omega, by omega⟩ ?_)
                exact XQ.ret rfl rfl ⟨rfl, y1, y2, y3⟩
              · repeat (first | refine XQ.go rfl rfl ?_ | refine XQ.zeq0 rfl ?_ | refine XQ.zeq1 rfl ?_ | refine XQ.zne0 rfl ?_ | refine XQ.zne1 rfl ?_ | refine XQ.add rfl ⟨by omega, by omega⟩ ?_ | refine XQ.sub rfl ⟨by omega, by omega⟩ ?_ | refine XQ.inc rfl rfl rfl ⟨by omega, by omega⟩ ?_)
                exact XQ.ret rfl rfl ⟨rfl, y1, y2, y3⟩
            · omega
      · rw [bad (by have := aObjOf_n (s := 4) (Or.inl (by rw [aObj_n (M := M) (v := t) (fun z => by omega)]; decide)); omega)]
        repeat (first | refine XQ.go rfl rfl ?_ | refine XQ.zeq0 rfl ?_ | refine XQ.zeq1 rfl ?_ | refine XQ.zne0 rfl ?_ | refine XQ.zne1 rfl ?_ | refine XQ.add rfl ⟨by omega, by omega⟩ ?_ | refine XQ.sub rfl ⟨by omega, by omega⟩ ?_ | refine XQ.inc rfl rfl rfl ⟨by omega, by omega⟩ ?_)
        exact XQ.ret rfl rfl ⟨rfl, hC0, hw, CFr.rf⟩
  · rw [bad (by omega)]
    repeat (first | refine XQ.go rfl rfl ?_ | refine XQ.zeq0 rfl ?_ | refine XQ.zeq1 rfl ?_ | refine XQ.zne0 rfl ?_ | refine XQ.zne1 rfl ?_ | refine XQ.add rfl ⟨by omega, by omega⟩ ?_ | refine XQ.sub rfl ⟨by omega, by omega⟩ ?_ | refine XQ.inc rfl rfl rfl ⟨by omega, by omega⟩ ?_)
    exact XQ.ret rfl rfl ⟨rfl, hC0, hw, CFr.rf⟩
end G6
