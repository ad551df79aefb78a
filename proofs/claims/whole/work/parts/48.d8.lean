/-! making an object: the pure side and the picture -/
theorem aMkF_ch (o : Int) (M : MM) : ∀ k : Nat, offS [5, 6, 7] M (lp (aMkF o) k M) ∧ ∀ j i, (j = 5 ∨ j = 6 ∨ j = 7) → lp (aMkF o) k M j i = if 4 * o ≤ i ∧ i < 4 * o + (k : Int) then 0 else M j i
  | 0 => ⟨offS.rf, fun j i _ => by rw [if_neg (by omega)]; rfl⟩
  | k + 1 => by
    obtain ⟨g1, g2⟩ := aMkF_ch o M k
    show offS _ M (aMkF o k (lp (aMkF o) k M)) ∧ ∀ j i, (j = 5 ∨ j = 6 ∨ j = 7) → aMkF o k (lp (aMkF o) k M) j i = _
    generalize lp (aMkF o) k M = N at g1 g2
    unfold aMkF
    refine ⟨((g1.u rfl _ _).u rfl _ _).u rfl _ _, fun j i hj => ?_⟩
    by_cases c : i = 4 * o + (k : Int)
    · rw [if_pos (by omega), c]
      rcases hj with rfl | rfl | rfl
      · rw [u2_n _ _ (Or.inl (by decide)), u2_n _ _ (Or.inl (by decide)), u2_s]
      · rw [u2_n _ _ (Or.inl (by decide)), u2_s]
      · rw [u2_s]
    · rw [u2_n _ _ (Or.inr c), u2_n _ _ (Or.inr c), u2_n _ _ (Or.inr c), g2 j i hj]
      by_cases c2 : 4 * o ≤ i ∧ i < 4 * o + (k : Int)
      · rw [if_pos c2, if_pos (by omega)]
      · rw [if_neg c2, if_neg (by omega)]
/-- a state with one object more -/
def NW (M N : MM) (s n : Int) : Prop := offS [2, 3, 4, 5, 6, 7, 13] M N ∧ (∀ i, N 13 i = if i = 0 then M 13 0 + 1 else if i = 1 then M 13 1 + 1 else M 13 i) ∧ (∀ i, N 2 i = if i = M 13 0 then M 13 1 + 1 else M 2 i) ∧ (∀ i, N 3 i = if i = M 13 0 then s else M 3 i) ∧ (∀ i, N 4 i = if i = M 13 0 then n else M 4 i) ∧ ∀ j i, (j = 5 ∨ j = 6 ∨ j = 7) → i < 4 * M 13 0 ∨ 4 * M 13 0 + 4 ≤ i → N j i = M j i
theorem aMkO_ch (M : MM) (s n : Int) : NW M (aMkO M s n) s n ∧ ∀ j f, (j = 5 ∨ j = 6 ∨ j = 7) → 0 ≤ f → f < 4 → aMkO M s n j (4 * M 13 0 + f) = 0 := by
  obtain ⟨g1, g2⟩ := aMkF_ch (M 13 0) (u2 (u2 (u2 (u2 (u2 M 13 0 (M 13 0 + 1)) 13 1 (M 13 1 + 1)) 2 (M 13 0) (M 13 1 + 1)) 3 (M 13 0) s) 4 (M 13 0) n) 4
  have e : aMkO M s n = lp (aMkF (M 13 0)) 4 (u2 (u2 (u2 (u2 (u2 M 13 0 (M 13 0 + 1)) 13 1 (M 13 1 + 1)) 2 (M 13 0) (M 13 1 + 1)) 3 (M 13 0) s) 4 (M 13 0) n) := rfl
  rw [e]
  generalize lp (aMkF (M 13 0)) 4 (u2 (u2 (u2 (u2 (u2 M 13 0 (M 13 0 + 1)) 13 1 (M 13 1 + 1)) 2 (M 13 0) (M 13 1 + 1)) 3 (M 13 0) s) 4 (M 13 0) n) = N at g1 g2 ⊢
  refine ⟨⟨fun j i hj => ?_, fun i => ?_, fun i => ?_, fun i => ?_, fun i => ?_, fun j i hj hi => ?_⟩, fun j f hj f0 f1 => ?_⟩
  · simp at hj
    rw [g1 j i (by simp; omega), u2_n _ _ (Or.inl (by omega)), u2_n _ _ (Or.inl (by omega)), u2_n _ _ (Or.inl (by omega)), u2_n _ _ (Or.inl (by omega)), u2_n _ _ (Or.inl (by omega))]
  · rw [g1 13 i rfl, u2_n _ _ (Or.inl (by decide)), u2_n _ _ (Or.inl (by decide)), u2_n _ _ (Or.inl (by decide))]
    by_cases c : i = 0
    · rw [if_pos c, c, u2_n _ _ (Or.inr (by decide)), u2_s]
    · rw [if_neg c]
      by_cases c2 : i = 1
      · rw [if_pos c2, c2, u2_s]
      · rw [if_neg c2, u2_n _ _ (Or.inr c2), u2_n _ _ (Or.inr c)]
  · rw [g1 2 i rfl, u2_n _ _ (Or.inl (by decide)), u2_n _ _ (Or.inl (by decide))]
    by_cases c : i = M 13 0
    · rw [if_pos c, c, u2_s]
    · rw [if_neg c, u2_n _ _ (Or.inr c), u2_n _ _ (Or.inl (by decide)), u2_n _ _ (Or.inl (by decide))]
  · rw [g1 3 i rfl, u2_n _ _ (Or.inl (by decide))]
    by_cases c : i = M 13 0
    · rw [if_pos c, c, u2_s]
    · rw [if_neg c, u2_n _ _ (Or.inr c), u2_n _ _ (Or.inl (by decide)), u2_n _ _ (Or.inl (by decide)), u2_n _ _ (Or.inl (by decide))]
  · rw [g1 4 i rfl]
    by_cases c : i = M 13 0
    · rw [if_pos c, c, u2_s]
    · rw [if_neg c, u2_n _ _ (Or.inr c), u2_n _ _ (Or.inl (by decide)), u2_n _ _ (Or.inl (by decide)), u2_n _ _ (Or.inl (by decide)), u2_n _ _ (Or.inl (by decide))]
  · rw [g2 j i hj, if_neg (by omega), u2_n _ _ (Or.inl (by omega)), u2_n _ _ (Or.inl (by omega)), u2_n _ _ (Or.inl (by omega)), u2_n _ _ (Or.inl (by omega)), u2_n _ _ (Or.inl (by omega))]
  · rw [g2 j _ hj, if_pos (by omega)]
theorem live_nw {M N : MM} {s n : Int} (hN : NW M N s n) {h : Int} (hl : live M h) : live N h := by
  obtain ⟨o, a, b, c⟩ := hl
  refine ⟨o, a, ?_, ?_⟩
  · rw [hN.2.1, if_pos rfl]; omega
  · rw [hN.2.2.1, if_neg (by omega)]; exact c
theorem OKV_nw {M N : MM} {s n : Int} (hN : NW M N s n) {is has : Int} (h : OKV M is has) : OKV N is has := by
  rcases h with h | h | h
  · exact Or.inl h
  · exact Or.inr (Or.inl h)
  · exact Or.inr (Or.inr ⟨h.1, live_nw hN h.2⟩)
theorem aCells_nw {M N : MM} {s n : Int} (hN : NW M N s n) {o : Int} (ho : o ≠ M 13 0) : aCells N o = aCells M o := by
  unfold aCells
  rw [hN.2.2.2.1, hN.2.2.2.2.1, if_neg ho, if_neg ho]
theorem aUsed_nw {M N : MM} {s n : Int} (hN : NW M N s n) (h0 : 0 ≤ M 13 0) : aUsed N = aUsed M + aCells N (M 13 0) ∧ ∀ k : Nat, (k : Int) ≤ M 13 0 → aCb N k = aCb M k := by
  have hc : ∀ k : Nat, (k : Int) ≤ M 13 0 → aCb N k = aCb M k := fun k hk => aCb_eq k (fun o ho => aCells_nw hN (by omega))
  refine ⟨?_, hc⟩
  unfold aUsed
  have e : (N 13 0).toNat = (M 13 0).toNat + 1 := by rw [hN.2.1, if_pos rfl]; omega
  rw [e]
  show aCb N (M 13 0).toNat + aCells N ((M 13 0).toNat : Int) = _
  rw [hc _ (by omega), Int.toNat_of_nonneg h0]
theorem WF.nw {M N : MM} {s n : Int} (hw : WF M) (hN : NW M N s n) (h20 : M 13 0 < 20) (hm : M 13 1 < 100000) (hs : (s = 2 ∧ 1 ≤ n ∧ n ≤ 4) ∨ (s = 3 ∧ n = 1) ∨ (s = 4 ∧ n = 0)) (hf : ∀ f, 0 ≤ f → f < n → OKV M (N 5 (4 * M 13 0 + f)) (N 6 (4 * M 13 0 + f)) ∧ (s = 3 → ¬ N 5 (4 * M 13 0 + f) = 1)) (hu : aUsed M + aCells N (M 13 0) ≤ 60) : WF N := by
  have hu2 := (aUsed_nw hN hw.1.1.1).1
  obtain ⟨⟨b1, b2, b3, b4⟩, h2, h3, h4, h5, h6, h7, h8⟩ := hw
  have ok := fun {is has : Int} (z : OKV M is has) => OKV_nw hN z
  have lv := fun {h : Int} (z : live M h) => live_nw hN z
  obtain ⟨ho, n13, n2, n3, n4, n5⟩ := hN
  have m0 : N 13 0 = M 13 0 + 1 := by rw [n13, if_pos rfl]
  have m1 : N 13 1 = M 13 1 + 1 := by rw [n13, if_neg (by decide), if_pos rfl]
  have m2 : N 13 2 = M 13 2 := by rw [n13, if_neg (by decide), if_neg (by decide)]
  have m3 : N 13 3 = M 13 3 := by rw [n13, if_neg (by decide), if_neg (by decide)]
  have m4 : N 13 4 = M 13 4 := by rw [n13, if_neg (by decide), if_neg (by decide)]
  refine ⟨?_, ⟨fun o o' a b c => ?_, fun o a b => ?_⟩, fun v v0 v5 => ?_, fun o f a1 a2 a3 a4 => ?_, fun o a1 a2 => ?_, fun o f f' a1 a2 a3 a4 a5 a6 => ?_, ?_, by omega⟩
  · unfold BW
    rw [m0, m1, m2, m3, m4]
    refine ⟨by omega, b2, fun o a b => ?_, by omega⟩
    rw [n3, n4]
    by_cases c : o = M 13 0
    · rw [if_pos c, if_pos c]; omega
    · rw [if_neg c, if_neg c]; exact b3 o a (by omega)
  · rw [m0] at c
    rw [n2, n2, if_neg (by omega)]
    by_cases e : o' = M 13 0
    · rw [if_pos e]; have := (h2.2 o a (by omega)).2; omega
    · rw [if_neg e]; exact h2.1 o o' a b (by omega)
  · rw [m0] at b
    rw [n2, m1]
    by_cases e : o = M 13 0
    · rw [if_pos e]; omega
    · rw [if_neg e]; have := h2.2 o a (by omega); omega
  · rw [ho 0 v rfl, ho 1 v rfl]
    exact ok (h3 v v0 v5)
  · rw [m0] at a2
    rw [n4] at a4
    rw [n3]
    by_cases e : o = M 13 0
    · subst e
      rw [if_pos rfl] at a4
      rw [if_pos rfl]
      obtain ⟨w1, w2⟩ := hf f a3 a4
      exact ⟨ok w1, w2, fun z => by omega⟩
    · rw [if_neg e] at a4
      have hmx := (b3 o a1 (by omega)).2.1
      rw [if_neg e, n5 5 _ (by omega) (by omega), n5 6 _ (by omega) (by omega), n5 7 _ (by omega) (by omega)]
      obtain ⟨w1, w2, w3⟩ := h4 o f a1 (by omega) a3 a4
      exact ⟨ok w1, w2, fun z => lv (w3 z)⟩
  · rw [m0] at a2
    rw [n3, n4]
    by_cases e : o = M 13 0
    · rw [if_pos e, if_pos e]; omega
    · rw [if_neg e, if_neg e]; exact h5 o a1 (by omega)
  · rw [m0] at a2
    rw [n3] at a3
    rw [n4] at a6
    by_cases e : o = M 13 0
    · rw [if_pos e] at a3 a6; omega
    · rw [if_neg e] at a3 a6
      have hmx := (b3 o a1 (by omega)).2.1
      rw [n5 7 _ (by omega) (by omega), n5 7 _ (by omega) (by omega)]
      exact h6 o f f' a1 (by omega) a3 a4 a5 a6
  · unfold wR
    rw [m2, m3]
    refine ⟨fun q a b => ?_, fun q a b => ?_, fun q q' a b c => ?_, fun q q' a b c => ?_, fun q q' a b c e => ?_⟩
    · rw [ho 9 q rfl]; exact lv (h7.1 q a b)
    · rw [ho 11 q rfl]; exact lv (h7.2.1 q a b)
    · rw [ho 9 q rfl, ho 9 q' rfl]; exact h7.2.2.1 q q' a b c
    · rw [ho 11 q rfl, ho 11 q' rfl]; exact h7.2.2.2.1 q q' a b c
    · rw [ho 9 q rfl, ho 11 q' rfl]; exact h7.2.2.2.2 q q' a b c e
section H8
variable {d x : Nat} {S S' : MS} {A A' : Int → Nat} {M M' N : MM}
theorem VR.chA {r : Option Nat} {is has : Int} (h : VR x S A r is has) (ok : OKV M is has) (hA : ∀ h, live M h → A' h = A h) : VR x S A' r is has := by
  rcases h with h | h | ⟨h, h2⟩
  · exact Or.inl h
  · exact Or.inr (Or.inl h)
  · refine Or.inr (Or.inr ⟨h, ?_⟩)
    rcases ok with z | z | z
    · omega
    · omega
    · rw [hA _ z.2]; exact h2
theorem CL.chA (hC : CL x S A M) (hw : WF M) (hA : ∀ h, live M h → A' h = A h) : CL x S A' M := by
  obtain ⟨hF, hN, hRs, hV, hO, hPl, hTg, hMk⟩ := hC
  have ho : ∀ o, 0 ≤ o → o < M 13 0 → A' (M 2 o) = A (M 2 o) := fun o a b => hA _ (live_o a b)
  have hR := hw.2.2.2.2.2.2.1
  refine ⟨hF, hN, ⟨⟨hRs.1.1, fun i a b => ?_⟩, ⟨hRs.2.1.1, fun i a b => ?_⟩, ⟨hRs.2.2.1, fun i a b => ?_⟩⟩, fun v v0 v5 => ?_, fun o a b => ?_, ⟨hPl.1, fun o a b => ?_⟩, ⟨fun o a b => ?_, fun q a b => ?_, fun q a b => ?_⟩, fun o a b => ?_⟩
  · show vS S (x + 2 + 1) i = .inr (some (A' (M 2 i)))
    rw [ho i a b]; exact hRs.1.2 i a b
  · show vS S (x + 4 + 1) i = .inr (some (A' (M 9 i)))
    rw [hA _ (hR.1 i a b)]; exact hRs.2.1.2 i a b
  · show vS S (x + 6 + 1) i = .inr (some (A' (M 11 i)))
    rw [hA _ (hR.2.1 i a b)]; exact hRs.2.2.2 i a b
  · obtain ⟨r, z1, z2⟩ := hV v v0 v5
    exact ⟨r, z1, z2.chA (hw.2.2.1 v v0 v5) hA⟩
  · obtain ⟨g1, g2, g3, g4⟩ := hO o a b
    have hf := hw.2.2.2.1 o
    unfold cObj
    rw [ho o a b]
    refine ⟨g1, g2, g3, ?_⟩
    rcases g4 with ⟨z1, z2, z3, z4, z5, z6⟩ | ⟨z1, z2, r, z3, z4⟩ | ⟨z1, z2, z3, z4, z5, z6, z7, z8, z9, z10⟩
    · refine Or.inl ⟨z1, z2, z3, z4, z5, fun f f0 f1 => ?_⟩
      obtain ⟨r, y1, y2⟩ := z6 f f0 f1
      exact ⟨r, y1, y2.chA (hf f a b f0 f1).1 hA⟩
    · have hm1 := hw.2.2.2.2.1 o a b z2
      have h0 := (hf 0 a b (by omega) (by omega)).1
      rw [Int.add_zero] at h0
      exact Or.inr (Or.inl ⟨z1, z2, r, z3, z4.chA h0 hA⟩)
    · refine Or.inr (Or.inr ⟨z1, z2, z3, z4, z5, z6, z7, z8, z9, fun f f0 f1 => ?_⟩)
      obtain ⟨y0, r, y1, y2⟩ := z10 f f0 f1
      exact ⟨by rw [hA _ ((hf f a b f0 f1).2.2 z2)]; exact y0, r, y1, y2.chA (hf f a b f0 f1).1 hA⟩
  · rw [ho o a b]; exact hPl.2 o a b
  · rw [ho o a b]; exact hTg.1 o a b
  · rw [hA _ (hR.1 q a b)]; exact hTg.2.1 q a b
  · rw [hA _ (hR.2.1 q a b)]; exact hTg.2.2 q a b
  · rw [ho o a b]; exact hMk o a b
/-- the store after settling -/
def stlS (x : Nat) (S : MS) (M : MM) (a : Nat) (c : Int) : MS := mset (mset (mset (mset (mset S x 5 (.inl (M 13 1 + 1))) (x + 3) (M 13 0) (.inr (some a))) (x + 2) 1 (.inl (M 13 0 + 1))) a 2 (.inl (aUsed M))) x 4 (.inl (aUsed M + c))
theorem stl_v {a : Nat} {c : Int} (ha : x + 22 ≤ a) (b : Nat) (j : Int) : vS (stlS x S M a c) b j = if b = x then (if j = 4 then .inl (aUsed M + c) else if j = 5 then .inl (M 13 1 + 1) else vS S b j) else if b = x + 2 then (if j = 1 then .inl (M 13 0 + 1) else vS S b j) else if b = x + 3 then (if j = M 13 0 then .inr (some a) else vS S b j) else if b = a then (if j = 2 then .inl (aUsed M) else vS S b j) else vS S b j := by
  unfold stlS
  by_cases c1 : b = x
  · rw [if_pos c1, c1, mset_s, mset_v _ _ _ _ (by omega), mset_v _ _ _ _ (by omega), mset_v _ _ _ _ (by omega), mset_s]
  · rw [if_neg c1, mset_v _ _ _ _ c1]
    by_cases c2 : b = x + 2
    · rw [if_pos c2, c2, mset_v _ _ _ _ (by omega), mset_s, mset_v _ _ _ _ (by omega), mset_v _ _ _ _ (by omega)]
    · rw [if_neg c2]
      by_cases c3 : b = x + 3
      · rw [if_pos c3, c3, mset_v _ _ _ _ (by omega), mset_v _ _ _ _ (by omega), mset_s, mset_v _ _ _ _ (by omega)]
      · rw [if_neg c3]
        by_cases c4 : b = a
        · rw [if_pos c4, c4, mset_s, mset_v _ _ _ _ (by omega), mset_v _ _ _ _ (by omega), mset_v _ _ _ _ (by omega)]
        · rw [if_neg c4, mset_v _ _ _ _ c4, mset_v _ _ _ _ c2, mset_v _ _ _ _ c3, mset_v _ _ _ _ c1]
theorem CL.stl {s n : Int} {a : Nat} (hC : CL x S A M) (hw : WF M) (hN : NW M N s n) (h20 : M 13 0 < 20) (hn4 : n ≤ 4) (ha : A (M 13 1 + 1) = a) (hob : cObj x S A N (M 13 0)) (h3 : ∃ b, vS S a 3 = .inl b) (h4 : vS S a 4 = .inl 0) : CL x (stlS x S M a (aCells N (M 13 0))) A N := by
  have hn2 : N 2 (M 13 0) = M 13 1 + 1 := by rw [hN.2.2.1, if_pos rfl]
  have hge : x + 22 ≤ a := by have := hob.1; rw [hn2, ha] at this; exact this
  have hta : TG S a := by have := hob.tg; rw [hn2, ha] at this; exact this
  have hva : vS S a 0 = .inl (M 13 1 + 1) := by have := hob.2.1; rw [hn2, ha] at this; exact this
  have hv := fun b j => stl_v (x := x) (S := S) (M := M) (c := aCells N (M 13 0)) hge b j
  have hst : tS (stlS x S M a (aCells N (M 13 0))) = tS S := rfl
  have hsl : lS (stlS x S M a (aCells N (M 13 0))) = lS S := rfl
  have hsz : zS (stlS x S M a (aCells N (M 13 0))) = zS S := rfl
  generalize stlS x S M a (aCells N (M 13 0)) = S' at hv hst hsl hsz ⊢
  obtain ⟨hF, hNm, hRs, hV, hO, hPl, hTg, hMk⟩ := hC
  have hR := hw.2.2.2.2.2.2.1
  have hb := hw.1.1
  obtain ⟨hu, hcb⟩ := aUsed_nw hN hb.1
  have hA : AgO x S S' := ⟨fun b _ => by rw [hst, hsl]; exact ⟨rfl, rfl⟩, fun b j b1 _ b3 => by
    rw [hv, if_neg (by omega), if_neg (by omega), if_neg (by omega)]
    split
    · rename_i c
      rw [if_neg (fun z => b3 ⟨by rw [c]; exact hta, by omega, by omega⟩)]
    · rfl⟩
  have hnA : ∀ o, 0 ≤ o → o < M 13 0 → A (M 2 o) ≠ a := fun o z1 z2 e => by
    have q1 := (hO o z1 z2).2.1
    rw [e, hva] at q1
    injection q1 with q1
    have := (hw.2.1.2 o z1 z2).2
    omega
  have hnL : ∀ h, live M h → A h ≠ a := fun h hl => by
    obtain ⟨o, z1, z2, z3⟩ := hl
    rw [← z3]; exact hnA o z1 z2
  have hnge : ∀ o, 0 ≤ o → o < M 13 0 → x + 22 ≤ A (M 2 o) := fun o z1 z2 => (hO o z1 z2).1
  obtain ⟨ho, n13, n2, n3, n4, n5⟩ := hN
  have m0 : N 13 0 = M 13 0 + 1 := by rw [n13, if_pos rfl]
  have m1 : N 13 1 = M 13 1 + 1 := by rw [n13, if_neg (by decide), if_pos rfl]
  have m2 : N 13 2 = M 13 2 := by rw [n13, if_neg (by decide), if_neg (by decide)]
  have m3 : N 13 3 = M 13 3 := by rw [n13, if_neg (by decide), if_neg (by decide)]
  have m4 : N 13 4 = M 13 4 := by rw [n13, if_neg (by decide), if_neg (by decide)]
  have f9 : (fun o => A (N 9 o)) = fun o => A (M 9 o) := by funext o; rw [ho 9 o rfl]
  have f11 : (fun o => A (N 11 o)) = fun o => A (M 11 o) := by funext o; rw [ho 11 o rfl]
  have hx : ∀ j, j ≠ 4 → j ≠ 5 → vS S' x j = vS S x j := fun j j1 j2 => by rw [hv, if_pos rfl, if_neg j1, if_neg j2]
  have hz : ∀ b, b < x + 22 → b ≠ x → b ≠ x + 2 → b ≠ x + 3 → vS S' b = vS S b := fun b b0 b1 b2 b3 => funext fun j => by rw [hv, if_neg b1, if_neg b2, if_neg b3, if_neg (by omega)]
  refine ⟨hF.tr hst hsl hsz (fun j hj => hx j (by omega) (by omega)) (by rw [hv, if_neg (by omega), if_pos rfl, if_neg (by decide)]) (by rw [hz _ (by omega) (by omega) (by omega) (by omega)]) (by rw [hz _ (by omega) (by omega) (by omega) (by omega)]), ⟨?_, ?_⟩, ⟨⟨?_, fun i i0 i1 => ?_⟩, ?_, ?_⟩, ?_, ?_, ⟨?_, fun o z1 z2 => ?_⟩, ⟨fun o z1 z2 => ?_, fun q z1 z2 => ?_, fun q z1 z2 => ?_⟩, fun o z1 z2 => ?_⟩
  · rw [hv, if_pos rfl, if_neg (by decide), if_pos rfl, m1]
  · rw [hx 6 (by decide) (by decide), m4]; exact hNm.2
  · rw [hv, if_neg (by omega), if_pos rfl, if_pos rfl, m0]
  · rw [m0] at i1
    show vS S' (x + 3) i = .inr (some (A (N 2 i)))
    rw [hv, if_neg (by omega), if_neg (by omega), if_pos rfl, n2]
    by_cases c : i = M 13 0
    · rw [if_pos c, if_pos c, ha]
    · rw [if_neg c, if_neg c]; exact hRs.1.2 i i0 (by omega)
  · rw [m2, f9]
    exact hRs.2.1.tr (by rw [hz _ (by omega) (by omega) (by omega) (by omega)]) (hz _ (by omega) (by omega) (by omega) (by omega))
  · rw [m3, f11]
    exact hRs.2.2.tr (by rw [hz _ (by omega) (by omega) (by omega) (by omega)]) (hz _ (by omega) (by omega) (by omega) (by omega))
  · intro w w0 w5
    rw [ho 0 w rfl, ho 1 w rfl, hz _ (by omega) (by omega) (by omega) (by omega)]
    obtain ⟨r', z1, z2⟩ := hV w w0 w5
    exact ⟨r', z1, z2.tr hA⟩
  · intro o z1 z2
    rw [m0] at z2
    by_cases c : o = M 13 0
    · rw [c]
      have h4' : N 4 (M 13 0) ≤ 4 := by rw [n4, if_pos rfl]; exact hn4
      exact hob.tr hA ⟨rfl, rfl, rfl, fun _ _ _ => ⟨rfl, rfl, rfl⟩⟩ h4'
    · have hm := (hw.1.2.2.1 o z1 (by omega)).2.1
      exact (hO o z1 (by omega)).tr hA ⟨by rw [n2, if_neg c], by rw [n3, if_neg c], by rw [n4, if_neg c], fun f f0 f1 => ⟨n5 5 _ (by omega) (by omega), n5 6 _ (by omega) (by omega), n5 7 _ (by omega) (by omega)⟩⟩ hm
  · rw [hv, if_pos rfl, if_pos rfl, hu]
  · rw [m0] at z2
    rw [n2]
    by_cases c : o = M 13 0
    · rw [if_pos c, ha, hv, if_neg (by omega), if_neg (by omega), if_neg (by omega), if_pos rfl, if_pos rfl, hcb _ (by omega), c]
      rfl
    · have g := hnge o z1 (by omega)
      rw [if_neg c, hv, if_neg (by omega), if_neg (by omega), if_neg (by omega), if_neg (hnA o z1 (by omega)), hcb _ (by omega)]
      exact hPl.2 o z1 (by omega)
  · rw [m0] at z2
    rw [n2, m2, m3, aIn_off ho rfl, aIn_off ho rfl]
    by_cases c : o = M 13 0
    · have nl : ¬ live M (M 13 1 + 1) := fun ⟨o', y1, y2, y3⟩ => by have := (hw.2.1.2 o' y1 y2).2; omega
      have e1 : aIn M 9 (M 13 1 + 1) (M 13 2).toNat = false := by
        cases hh : aIn M 9 (M 13 1 + 1) (M 13 2).toNat
        · rfl
        · obtain ⟨q, y1, y2, y3⟩ := aIn_i.mp hh
          exact absurd (y3 ▸ hR.1 q y1 y2) nl
      have e2 : aIn M 11 (M 13 1 + 1) (M 13 3).toNat = false := by
        cases hh : aIn M 11 (M 13 1 + 1) (M 13 3).toNat
        · rfl
        · obtain ⟨q, y1, y2, y3⟩ := aIn_i.mp hh
          exact absurd (y3 ▸ hR.2.1 q y1 y2) nl
      rw [if_pos c, ha, e1, e2, hv, if_neg (by omega), if_neg (by omega), if_neg (by omega), if_pos rfl, if_neg (by decide)]
      exact h4
    · have g := hnge o z1 (by omega)
      rw [if_neg c, hv, if_neg (by omega), if_neg (by omega), if_neg (by omega), if_neg (hnA o z1 (by omega))]
      exact hTg.1 o z1 (by omega)
  · rw [m2] at z2
    have lq := hR.1 q z1 z2
    have gq := live_ge hO lq
    rw [ho 9 q rfl, ho 10 q rfl, hv, if_neg (by omega), if_neg (by omega), if_neg (by omega), if_neg (hnL _ lq)]
    exact hTg.2.1 q z1 z2
  · rw [m3] at z2
    have lq := hR.2.1 q z1 z2
    have gq := live_ge hO lq
    rw [ho 11 q rfl, ho 12 q rfl, hv, if_neg (by omega), if_neg (by omega), if_neg (by omega), if_neg (hnL _ lq)]
    exact hTg.2.2 q z1 z2
  · rw [m0] at z2
    rw [n2]
    by_cases c : o = M 13 0
    · rw [if_pos c, ha, hv, if_neg (by omega), if_neg (by omega), if_neg (by omega), if_pos rfl, if_neg (by decide)]
      exact h3
    · have g := hnge o z1 (by omega)
      rw [if_neg c, hv, if_neg (by omega), if_neg (by omega), if_neg (by omega), if_neg (hnA o z1 (by omega))]
      exact hMk o z1 (by omega)
end H8
