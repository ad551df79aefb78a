/-! the collection purely: what it keeps -/
theorem WF.num {M M' : MM} (hw : WF M) (ho : offS [13] M M') (e0 : M' 13 0 = M 13 0) (e1 : M' 13 1 = M 13 1) (e2 : M' 13 2 = M 13 2) (e3 : M' 13 3 = M 13 3) (hB : BW M') : WF M' := by
  obtain ⟨-, h2, h3, h4, h5, h6, h7, h8⟩ := hw
  have ok := fun {is has : Int} (z : OKV M is has) => OKV_off ho rfl e0 z
  have lv := fun {h : Int} (z : live M h) => live_off ho rfl e0 z
  refine ⟨hB, ?_, ?_, ?_, ?_, ?_, ?_, ?_⟩
  · unfold wN
    rw [e0, e1]
    exact ⟨fun o o' a b c => by rw [ho 2 o rfl, ho 2 o' rfl]; exact h2.1 o o' a b c, fun o a b => by rw [ho 2 o rfl]; exact h2.2 o a b⟩
  · intro w w0 w5
    rw [ho 0 w rfl, ho 1 w rfl]
    exact ok (h3 w w0 w5)
  · intro o f a1 a2 a3 a4
    rw [e0] at a2
    rw [ho 4 o rfl] at a4
    rw [ho 5 _ rfl, ho 6 _ rfl, ho 3 o rfl, ho 7 _ rfl]
    obtain ⟨z1, z2, z3⟩ := h4 o f a1 a2 a3 a4
    exact ⟨ok z1, z2, fun z => lv (z3 z)⟩
  · intro o a1 a2
    rw [e0] at a2
    rw [ho 3 o rfl, ho 4 o rfl]
    exact h5 o a1 a2
  · intro o f f' a1 a2 a3 a4 a5 a6
    rw [e0] at a2
    rw [ho 3 o rfl] at a3
    rw [ho 4 o rfl] at a6
    rw [ho 7 _ rfl, ho 7 _ rfl]
    exact h6 o f f' a1 a2 a3 a4 a5 a6
  · unfold wR
    rw [e2, e3]
    refine ⟨fun q a b => ?_, fun q a b => ?_, fun q q' a b c => ?_, fun q q' a b c => ?_, fun q q' a b c e => ?_⟩
    · rw [ho 9 q rfl]; exact lv (h7.1 q a b)
    · rw [ho 11 q rfl]; exact lv (h7.2.1 q a b)
    · rw [ho 9 q rfl, ho 9 q' rfl]; exact h7.2.2.1 q q' a b c
    · rw [ho 11 q rfl, ho 11 q' rfl]; exact h7.2.2.2.1 q q' a b c
    · rw [ho 9 q rfl, ho 11 q' rfl]; exact h7.2.2.2.2 q q' a b c e
  · unfold aUsed
    rw [e0, aCb_off ho rfl rfl]
    exact h8
theorem WF.run {M : MM} (hw : WF M) (hr : M 13 4 < 100000) : WF (u2 M 13 4 (M 13 4 + 1)) :=
  hw.num (offS.rf.u rfl _ _) (u2_n _ _ (Or.inr (by decide))) (u2_n _ _ (Or.inr (by decide))) (u2_n _ _ (Or.inr (by decide))) (u2_n _ _ (Or.inr (by decide))) (hw.1.run hr)
theorem aCb_N {M N : MM} {f : Nat → Bool} {n : Nat} (hN : ∀ o : Nat, o < n → f o = true → aCells N (cK f o) = aCells M o) (h0 : ∀ o : Nat, o < n → 0 ≤ aCells M o) : ∀ k : Nat, k ≤ n → aCb N (cK f k).toNat ≤ aCb M k
  | 0, _ => Int.le_refl _
  | k + 1, hk => by
    have ih := aCb_N hN h0 k (by omega)
    have hc := cK_in f k
    have h1 := h0 k (by omega)
    have e : cK f (k + 1) = cK f k + bI (f k) := rfl
    show aCb N (cK f (k + 1)).toNat ≤ aCb M k + aCells M (k : Int)
    cases hf : f k
    · rw [e, hf, show cK f k + bI false = cK f k from Int.add_zero _]
      omega
    · have e2 : (cK f (k + 1)).toNat = (cK f k).toNat + 1 := by
        rw [e, hf]
        show (cK f k + 1).toNat = _
        omega
      rw [e2]
      show aCb N (cK f k).toNat + aCells N ((cK f k).toNat : Int) ≤ _
      rw [Int.toNat_of_nonneg hc.1, hN k (by omega) hf]
      omega
theorem aSweep_wf {M : MM} (hw : WF M) (hclo : clo M) (hK : allK M (M 13 0)) (hv : ∀ v, 0 ≤ v → v ≤ 5 → M 0 v = 9 → aIsM M (M 1 v) = true) (hwt : ∀ q, 0 ≤ q → q < M 13 3 → aIsM M (M 11 q) = true) (hrg : ∀ q, 0 ≤ q → q < M 13 2 → aIsM M (M 9 q) = true) : WF (aSweep M).2 := by
  have hb := hw.1.1
  obtain ⟨-, ho, e0, e13, s2, s5⟩ := aSweep_ch (M := M) hb.1
  have hB := (aSweep_ok hw.1).1
  generalize (aSweep M).2 = N at ho e0 e13 s2 s5 hB ⊢
  have sj : ∀ q, 0 ≤ q → q < N 13 0 → ∃ o : Nat, (o : Int) < M 13 0 ∧ oM M o = true ∧ cK (oM M) o = q ∧ N 2 q = M 2 o ∧ N 3 q = M 3 o ∧ N 4 q = M 4 o ∧ ∀ j f, (j = 5 ∨ j = 6 ∨ j = 7) → 0 ≤ f → f < 4 → N j (4 * q + f) = M j (4 * (o : Int) + f) := fun q q0 q1 => by
    rw [e0] at q1
    obtain ⟨i, a, b, c⟩ := cK_sj _ q q0 q1
    have ha : (i : Int) < M 13 0 := by omega
    rw [← c]
    exact ⟨i, ha, b, rfl, s2 i ha b 2 (by omega), s2 i ha b 3 (by omega), s2 i ha b 4 (by omega), s5 i ha b⟩
  have lv : ∀ {h : Int}, live M h → aIsM M h = true → live N h := fun {h} hl hm => by
    obtain ⟨o, o0, o1, rfl⟩ := hl
    rw [aIsM_live hw.2.1 o0 o1] at hm
    have hm' : oM M o.toNat = true := by unfold oM; rw [Int.toNat_of_nonneg o0]; exact hm
    refine ⟨cK (oM M) o.toNat, (cK_in _ _).1, by rw [e0]; exact cK_lt hm' (by omega), ?_⟩
    rw [s2 o.toNat (by omega) hm' 2 (by omega), Int.toNat_of_nonneg o0]
  have mk8 : ∀ o : Nat, oM M o = true → M 8 o ≠ 0 := fun o h => of_decide_eq_true h
  have ok : ∀ {is has : Int}, OKV M is has → (is = 9 → aIsM M has = true) → OKV N is has := fun h hm => by
    rcases h with h | h | h
    · exact Or.inl h
    · exact Or.inr (Or.inl h)
    · exact Or.inr (Or.inr ⟨h.1, lv h.2 (hm h.1)⟩)
  have ord : ∀ {i i' : Nat}, cK (oM M) i < cK (oM M) i' → i < i' := fun {i i'} h => by
    by_cases z : i < i'
    · exact z
    · have := cK_mono (oM M) i' i (by omega); omega
  refine ⟨hB, ⟨fun q q' q0 q1 q2 => ?_, fun q q0 q1 => ?_⟩, fun v v0 v5 => ?_, fun q f q0 q1 f0 f1 => ?_, fun q q0 q1 => ?_, fun q f f' q0 q1 q3 f0 f1 f2 => ?_, ⟨fun q q0 q1 => ?_, fun q q0 q1 => ?_, fun q q' q0 q1 q2 => ?_, fun q q' q0 q1 q2 => ?_, fun q q' q0 q1 q2 q3 => ?_⟩, ?_⟩
  · obtain ⟨o, a, b, c, e, -⟩ := sj q q0 (by omega)
    obtain ⟨o', a', b', c', e', -⟩ := sj q' (by omega) q2
    rw [e, e']
    exact hw.2.1.1 o o' (by omega) (by have := ord (i := o) (i' := o') (by omega); omega) a'
  · obtain ⟨o, a, b, c, e, -⟩ := sj q q0 q1
    rw [e, e13 1 (by decide)]
    exact hw.2.1.2 o (by omega) a
  · rw [ho 0 v rfl, ho 1 v rfl]
    exact ok (hw.2.2.1 v v0 v5) (hv v v0 v5)
  · obtain ⟨o, a, b, c, e, e3, e4, e5⟩ := sj q q0 q1
    rw [e4] at f1
    have hm := hw.1.2.2.1 o (by omega) a
    rw [e5 5 f (by omega) f0 (by omega), e5 6 f (by omega) f0 (by omega), e5 7 f (by omega) f0 (by omega), e3]
    obtain ⟨w1, w2, w3⟩ := hw.2.2.2.1 o f (by omega) a f0 f1
    refine ⟨ok w1 (fun h9 => ?_), w2, fun y => lv (w3 y) (hK.1 o f (by omega) a y f0 f1)⟩
    have hl : live M (M 6 (4 * (o : Int) + f)) := by
      rcases w1 with z | z | z
      · omega
      · omega
      · exact z.2
    have hfn : ((f.toNat : Nat) : Int) = f := Int.toNat_of_nonneg f0
    by_cases c3 : M 3 o = 3
    · have hm1 := hw.2.2.2.2.1 o (by omega) a c3
      have hf0 : f = 0 := by omega
      subst hf0
      rw [Int.add_zero] at h9 ⊢
      exact hK.2 o (by omega) a c3 h9
    · have hcnt : aCnt true M o f = true := by
        rcases hm.2.2.1 with z | z | z
        · exact aCnt_2 z
        · exact absurd z c3
        · unfold aCnt; rw [z]; rfl
      have := hclo o f.toNat a (mk8 o b) (by omega) (by rw [hfn]; exact hcnt) (by rw [hfn]; exact h9)
      rw [hfn] at this
      obtain ⟨t, t0, t1, t2⟩ := hl
      rw [← t2] at this ⊢
      rw [aIsM_live hw.2.1 t0 t1]
      unfold aAdd at this
      rw [aAt_live hw.2.1 t0 t1] at this
      apply decide_eq_true
      intro z
      rw [if_neg (by omega)] at this
      cases this
  · obtain ⟨o, a, b, c, e, e3, e4, e5⟩ := sj q q0 q1
    rw [e3, e4]
    exact hw.2.2.2.2.1 o (by omega) a
  · obtain ⟨o, a, b, c, e, e3, e4, e5⟩ := sj q q0 q1
    rw [e3] at q3
    rw [e4] at f2
    have hm := hw.1.2.2.1 o (by omega) a
    rw [e5 7 f (by omega) f0 (by omega), e5 7 f' (by omega) (by omega) (by omega)]
    exact hw.2.2.2.2.2.1 o f f' (by omega) a q3 f0 f1 f2
  · rw [e13 2 (by decide)] at q1
    rw [ho 9 q rfl]
    exact lv (hw.2.2.2.2.2.2.1.1 q q0 q1) (hrg q q0 q1)
  · rw [e13 3 (by decide)] at q1
    rw [ho 11 q rfl]
    exact lv (hw.2.2.2.2.2.2.1.2.1 q q0 q1) (hwt q q0 q1)
  · rw [e13 2 (by decide)] at q2
    rw [ho 9 q rfl, ho 9 q' rfl]
    exact hw.2.2.2.2.2.2.1.2.2.1 q q' q0 q1 q2
  · rw [e13 3 (by decide)] at q2
    rw [ho 11 q rfl, ho 11 q' rfl]
    exact hw.2.2.2.2.2.2.1.2.2.2.1 q q' q0 q1 q2
  · rw [e13 2 (by decide)] at q1
    rw [e13 3 (by decide)] at q3
    rw [ho 9 q rfl, ho 11 q' rfl]
    exact hw.2.2.2.2.2.2.1.2.2.2.2 q q' q0 q1 q2 q3
  · have h8 := hw.2.2.2.2.2.2.2
    unfold aUsed at h8 ⊢
    rw [e0]
    have := aCb_N (M := M) (N := N) (f := oM M) (n := (M 13 0).toNat) (fun o ho hr => by
      unfold aCells
      rw [s2 o (by omega) hr 3 (by omega), s2 o (by omega) hr 4 (by omega)]) (fun o ho => by have := (hw.1.cells (o := (o : Int)) (by omega) (by omega)).1; omega) _ (Nat.le_refl _)
    omega
/-- the collection's states -/
theorem aC2_wf {M : MM} (hw : WF M) (hr : M 13 4 < 100000) : WF (aC1 M) ∧ WF (aRoots (aC1 M)) ∧ WF (aC2 M) := by
  have h1 : WF (aC1 M) := (hw.run hr).off8 (offS.of (aClear_off _))
  have h2 : WF (aRoots (aC1 M)) := h1.off8 (offS.of (aRoots_off _))
  exact ⟨h1, h2, h2.off8 (offS.of (aClo_off _ _ _))⟩
theorem aLoose_wf {M : MM} (hw : WF M) : offS [4, 5, 6, 7] M (aLoose M) ∧ WF (aLoose M) ∧ allK (aLoose M) (aLoose M 13 0) := by
  obtain ⟨g1, g2, g3⟩ := aLoose_ch hw (M 13 0).toNat (by have := hw.1.1; omega)
  have e0 : aLoose M 13 0 = M 13 0 := g1 13 0 rfl
  refine ⟨g1, g2, ?_⟩
  rw [e0]
  rw [Int.toNat_of_nonneg hw.1.1.1] at g3
  exact g3
theorem allK.offS {R : List Nat} {M M' : MM} {k : Int} (h : allK M k) (ho : offS R M M') (h2 : R.contains 2 = false) (h3 : R.contains 3 = false) (h4 : R.contains 4 = false) (h5 : R.contains 5 = false) (h6 : R.contains 6 = false) (h7 : R.contains 7 = false) (h8 : R.contains 8 = false) (e0 : M' 13 0 = M 13 0) : allK M' k := by
  refine ⟨fun o f a b c e1 e2 => ?_, fun o a b c e => ?_⟩
  · rw [ho 3 o h3] at c
    rw [ho 4 o h4] at e2
    rw [ho 7 _ h7, aIsM_off ho h2 h8 e0]
    exact h.1 o f a b c e1 e2
  · rw [ho 3 o h3] at c
    rw [ho 5 _ h5] at e
    rw [ho 6 _ h6, aIsM_off ho h2 h8 e0]
    exact h.2 o a b c e
theorem aC4_ch {M : MM} (hw : WF M) (hr : M 13 4 < 100000) : WF (aC3 M) ∧ aClo false 21 (aWaits (aC3 M)) = aC4 M ∧ WF (aC4 M) ∧ clo (aC4 M) ∧ allK (aC4 M) (aC4 M 13 0) ∧ (∀ v, 0 ≤ v → v ≤ 5 → aC4 M 0 v = 9 → aIsM (aC4 M) (aC4 M 1 v) = true) ∧ (∀ q, 0 ≤ q → q < aC4 M 13 3 → aIsM (aC4 M) (aC4 M 11 q) = true) ∧ (∀ q, 0 ≤ q → q < aC4 M 13 2 → aIsM (aC4 M) (aC4 M 9 q) = true) := by
  obtain ⟨w1, w1r, w2⟩ := aC2_wf hw hr
  obtain ⟨l1, l2, l3⟩ := aLoose_wf w2
  have w3 : WF (aC3 M) := aCallW_wf l2
  obtain ⟨-, co, c0, c1, c4⟩ := aCallW_ok l2.1
  have k3 : allK (aC3 M) (aC3 M 13 0) := by
    have e : aC3 M 13 0 = aLoose (aC2 M) 13 0 := c0
    rw [e]
    exact l3.offS co rfl rfl rfl rfl rfl rfl rfl c0
  have wo := aWaits_off (aC3 M)
  have wg := aWaits_g (aC3 M)
  have kw : allK (aWaits (aC3 M)) (aWaits (aC3 M) 13 0) := by
    rw [wo 13 0 (by decide)]
    exact k3.g wo wg
  have ww : WF (aWaits (aC3 M)) := w3.off8 (offS.of wo)
  have fo := aClo_off true 21 (aWaits (aC3 M))
  have fg := aClo_g true 21 (aWaits (aC3 M))
  have w4 : WF (aC4 M) := ww.off8 (offS.of fo)
  have o34 : offM (aC3 M) (aC4 M) := wo.tr fo
  have g34 : gM (aC3 M) (aC4 M) := wg.tr fg
  refine ⟨w3, aClo_all 21 _ ww.1.1.1 kw, w4, aClo_clo ww.1.1, ?_, fun v v0 v5 h9 => ?_, fun q q0 q1 => ?_, fun q q0 q1 => ?_⟩
  · have e : aC4 M 13 0 = aWaits (aC3 M) 13 0 := fo 13 0 (by decide)
    rw [e]
    exact kw.g fo fg
  · have hro := aRoots_off (aC1 M)
    have o2 : offM (aC1 M) (aC2 M) := hro.tr (aClo_off false 21 _)
    have e3 : ∀ i, (aC3 M) 0 i = aC2 M 0 i ∧ aC3 M 1 i = aC2 M 1 i := fun i => ⟨(co 0 i rfl).trans (l1 0 i rfl), (co 1 i rfl).trans (l1 1 i rfl)⟩
    have e0 : aC4 M 0 v = aC1 M 0 v := (o34 0 v (by decide)).trans ((e3 v).1.trans (o2 0 v (by decide)))
    have e1 : aC4 M 1 v = aC1 M 1 v := (o34 1 v (by decide)).trans ((e3 v).2.trans (o2 1 v (by decide)))
    rw [e0] at h9
    rw [e1]
    refine aIsM_g o34 g34 ?_
    show aIsM (aCallW (aLoose (aC2 M))) _ = true
    rw [aIsM_off co rfl rfl c0, aIsM_off l1 rfl rfl (l1 13 0 rfl)]
    refine aIsM_g (aClo_off false 21 _) (aClo_g false 21 _) ?_
    refine aIsM_g (aWaits_off _) (aWaits_g _) ?_
    have := aVars_m w1.2.1 w1.2.2.1 6 (Nat.le_refl _) v.toNat (by omega) (by rw [Int.toNat_of_nonneg v0]; exact h9)
    rw [Int.toNat_of_nonneg v0] at this
    exact this
  · have e3 : aC4 M 13 3 = aC3 M 13 3 := o34 13 3 (by decide)
    have e11 : aC4 M 11 q = aC3 M 11 q := o34 11 q (by decide)
    rw [e3] at q1
    rw [e11]
    refine aIsM_g fo fg ?_
    have := aWaits_m w3.2.1 w3.2.2.2.2.2.2.1.2.1 (aC3 M 13 3).toNat (by have := w3.1.2.1; omega) q.toNat (by omega)
    rw [Int.toNat_of_nonneg q0] at this
    exact this
  · have e2 : aC4 M 13 2 = aC3 M 13 2 := o34 13 2 (by decide)
    have e9 : aC4 M 9 q = aC3 M 9 q := o34 9 q (by decide)
    rw [e2] at q1
    rw [e9]
    refine aIsM_g o34 g34 ?_
    obtain ⟨i, a, b, c, e, -⟩ := (aCallW_in l2).1 q q0 q1
    show aIsM (aCallW (aLoose (aC2 M))) (aCallW (aLoose (aC2 M)) 9 q) = true
    rw [e, aIsM_off co rfl rfl c0]
    exact b
theorem aColl_wf {M : MM} (hw : WF M) (hr : M 13 4 < 100000) : WF (aColl M).2 := by
  obtain ⟨-, -, w4, h1, h2, h3, h4, h5⟩ := aC4_ch hw hr
  exact aSweep_wf w4 h1 h2 h3 h4 h5
