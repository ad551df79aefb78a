/-! the collection purely: the spreading ends, and nothing that is kept holds what is gone -/
theorem aIsM_g {M M' : MM} (ho : offM M M') (hg : gM M M') {h : Int} (hm : aIsM M h = true) : aIsM M' h = true := by
  unfold aIsM at hm ⊢
  have := of_decide_eq_true hm
  rw [aAt_off ho]
  exact decide_eq_true ⟨this.1, hg _ this.2⟩
theorem allK.g {M M' : MM} {k : Int} (h : allK M k) (ho : offM M M') (hg : gM M M') : allK M' k := by
  refine ⟨fun o f a b c e1 e2 => ?_, fun o a b c e => ?_⟩
  · rw [ho 3 o (by decide)] at c
    rw [ho 4 o (by decide)] at e2
    rw [ho 7 _ (by decide)]
    exact aIsM_g ho hg (h.1 o f a b c e1 e2)
  · rw [ho 3 o (by decide)] at c
    rw [ho 5 _ (by decide)] at e
    rw [ho 6 _ (by decide)]
    exact aIsM_g ho hg (h.2 o a b c e)
theorem aSprF_all {o f : Nat} {p : Bool × MM} (h : p.2 3 o = 4 → aIsM p.2 (p.2 7 (4 * (o : Int) + f)) = true) : aSprF false o f p = aSprF true o f p := by
  have e : aCnt false p.2 o f = aCnt true p.2 o f := by
    by_cases c : p.2 3 o = 4
    · unfold aCnt; rw [h c]; simp
    · unfold aCnt; simp [c]
  unfold aSprF
  rw [e]
theorem aSprO_all {o : Nat} {p : Bool × MM} {n : Int} (h : allK p.2 n) (ho : (o : Int) < n) : aSprO false o p = aSprO true o p := by
  unfold aSprO
  have key : ∀ k : Nat, (k : Int) ≤ p.2 4 o → lp (aSprF false o) k p = lp (aSprF true o) k p := by
    intro k
    induction k with
    | zero => intro _; rfl
    | succ k ih =>
      intro hk
      show aSprF false o k (lp (aSprF false o) k p) = aSprF true o k (lp (aSprF true o) k p)
      rw [ih (by omega)]
      have hoff : offM p.2 (lp (aSprF true o) k p).2 := lp_off2 (fun f p => aSprF_off true o f p) _
      have hgr : gM p.2 (lp (aSprF true o) k p).2 := lp_inv (fun _ (q : Bool × MM) => gM p.2 q.2) gM.rf _ (fun i x _ hx => hx.tr (aSprF_g true o i x))
      refine aSprF_all (fun c => ?_)
      exact (h.g hoff hgr).1 o k (by omega) ho c (by omega) (by rw [hoff 4 o (by decide)]; omega)
  by_cases c : 0 ≤ p.2 4 o
  · exact key _ (by omega)
  · rw [show (p.2 4 (o : Int)).toNat = 0 by omega]; rfl
theorem aSpr_all {M : MM} (h0 : 0 ≤ M 13 0) (h : allK M (M 13 0)) : aSpr false M = aSpr true M := by
  unfold aSpr
  have key : ∀ k : Nat, (k : Int) ≤ M 13 0 → lp (aSprO false) k (false, M) = lp (aSprO true) k (false, M) := by
    intro k
    induction k with
    | zero => intro _; rfl
    | succ k ih =>
      intro hk
      show aSprO false k (lp (aSprO false) k (false, M)) = aSprO true k (lp (aSprO true) k (false, M))
      rw [ih (by omega)]
      have hoff : offM M (lp (aSprO true) k (false, M)).2 := lp_off2 (p := (false, M)) (fun o p => aSprO_off true o p) _
      have hgr : gM M (lp (aSprO true) k (false, M)).2 := lp_inv (fun _ (q : Bool × MM) => gM M q.2) gM.rf _ (fun i x _ hx => hx.tr (aSprO_g true i x))
      exact aSprO_all (h.g hoff hgr) (by omega)
  exact key _ (by omega)
theorem aClo_all : ∀ (r : Nat) (M : MM), 0 ≤ M 13 0 → allK M (M 13 0) → aClo false r M = aClo true r M
  | 0, _, _, _ => rfl
  | r + 1, M, h0, h => by
    rw [aClo, aClo, aSpr_all h0 h]
    have hoff := aSpr_off true M
    have hgr := aSpr_g true M
    rw [aClo_all r (aSpr true M).2 (by rw [hoff 13 0 (by decide)]; exact h0) (by rw [hoff 13 0 (by decide)]; exact h.g hoff hgr)]
/-- what a spreading that adds nothing says -/
def clo (M : MM) : Prop := ∀ o f : Nat, (o : Int) < M 13 0 → M 8 o ≠ 0 → (f : Int) < M 4 o → aCnt true M o f = true → M 5 (4 * (o : Int) + f) = 9 → (aAdd M (M 6 (4 * (o : Int) + f))).1 = false
theorem aAdd_f {M : MM} {h : Int} (hf : (aAdd M h).1 = false) : (aAdd M h).2 = M := by
  unfold aAdd at hf ⊢
  split at hf
  · rename_i c; rw [if_pos c]
  · cases hf
theorem aSprF_f {o f : Nat} {p : Bool × MM} (h : (aSprF true o f p).1 = false) : p.1 = false ∧ (aSprF true o f p).2 = p.2 ∧ (¬ p.2 8 (o : Int) = 0 ∧ aCnt true p.2 o f = true ∧ p.2 5 (4 * (o : Int) + f) = 9 → (aAdd p.2 (p.2 6 (4 * (o : Int) + f))).1 = false) := by
  unfold aSprF at h ⊢
  by_cases c : ¬ p.2 8 (o : Int) = 0 ∧ aCnt true p.2 o f = true ∧ p.2 5 (4 * (o : Int) + f) = 9
  · rw [if_pos c] at h ⊢
    have h : (p.1 || (aAdd p.2 (p.2 6 (4 * (o : Int) + f))).1) = false := h
    rw [Bool.or_eq_false_iff] at h
    exact ⟨h.1, aAdd_f h.2, fun _ => h.2⟩
  · rw [if_neg c] at h ⊢
    exact ⟨h, rfl, fun z => absurd z c⟩
theorem aSprFl_f {o : Nat} {p : Bool × MM} : ∀ k : Nat, (lp (aSprF true o) k p).1 = false → p.1 = false ∧ (lp (aSprF true o) k p).2 = p.2 ∧ ∀ f : Nat, f < k → ¬ p.2 8 (o : Int) = 0 ∧ aCnt true p.2 o f = true ∧ p.2 5 (4 * (o : Int) + f) = 9 → (aAdd p.2 (p.2 6 (4 * (o : Int) + f))).1 = false
  | 0, h => ⟨h, rfl, fun f hf => absurd hf (Nat.not_lt_zero f)⟩
  | k + 1, h => by
    obtain ⟨g1, g2, g3⟩ := aSprF_f (p := lp (aSprF true o) k p) h
    obtain ⟨i1, i2, i3⟩ := aSprFl_f k g1
    rw [i2] at g3
    refine ⟨i1, g2.trans i2, fun f hf => ?_⟩
    by_cases c : f = k
    · subst c; exact g3
    · exact i3 f (by omega)
theorem aSprO_e (all : Bool) (o : Nat) (p : Bool × MM) : aSprO all o p = lp (aSprF all o) (p.2 4 (o : Int)).toNat p := rfl
theorem aVr_e (v : Nat) (M : MM) : aVr v M = if M 0 (v : Int) = 9 then (aAdd M (M 1 (v : Int))).2 else M := rfl
theorem aSprOl_f {M : MM} : ∀ k : Nat, (lp (aSprO true) k (false, M)).1 = false → (lp (aSprO true) k (false, M)).2 = M ∧ ∀ o f : Nat, o < k → (f : Int) < M 4 o → ¬ M 8 (o : Int) = 0 ∧ aCnt true M o f = true ∧ M 5 (4 * (o : Int) + f) = 9 → (aAdd M (M 6 (4 * (o : Int) + f))).1 = false
  | 0, h => ⟨rfl, fun o f hf => absurd hf (Nat.not_lt_zero o)⟩
  | k + 1, h => by
    have h : (aSprO true k (lp (aSprO true) k (false, M))).1 = false := h
    rw [aSprO_e] at h
    obtain ⟨g1, g2, g3⟩ := aSprFl_f _ h
    obtain ⟨i2, i3⟩ := aSprOl_f k g1
    have e2 : (lp (aSprO true) (k + 1) (false, M)).2 = (lp (aSprO true) k (false, M)).2 := g2
    have g3' : ∀ f : Nat, f < (M 4 (k : Int)).toNat → ¬ M 8 (k : Int) = 0 ∧ aCnt true M k f = true ∧ M 5 (4 * (k : Int) + f) = 9 → (aAdd M (M 6 (4 * (k : Int) + f))).1 = false := by
      rw [i2] at g3
      exact g3
    refine ⟨e2.trans i2, fun o f ho hf => ?_⟩
    by_cases c : o = k
    · subst c; exact g3' f (by omega)
    · exact i3 o f (by omega) hf
theorem aSpr_f {M : MM} (h0 : 0 ≤ M 13 0) (h : (aSpr true M).1 = false) : (aSpr true M).2 = M ∧ clo M := by
  unfold aSpr at h ⊢
  obtain ⟨g1, g2⟩ := aSprOl_f _ h
  exact ⟨g1, fun o f ho h8 hf hc h9 => g2 o f (by omega) hf ⟨h8, hc, h9⟩⟩
/-- how many are marked -/
def mc (M : MM) : Int := cK (oM M) (M 13 0).toNat
theorem cK_le {f g : Nat → Bool} : ∀ k : Nat, (∀ i, i < k → f i = true → g i = true) → cK f k ≤ cK g k
  | 0, _ => Int.le_refl _
  | k + 1, h => by
    have i1 := cK_le k (fun i hi => h i (by omega))
    have h1 := bI_01 (g k)
    show cK f k + bI (f k) ≤ cK g k + bI (g k)
    cases hf : f k
    · show cK f k + 0 ≤ _; omega
    · rw [h k (by omega) hf]; omega
theorem cK_lt2 {f g : Nat → Bool} {i : Nat} (hf : f i = false) (hg : g i = true) : ∀ k : Nat, i < k → (∀ i, i < k → f i = true → g i = true) → cK f k + 1 ≤ cK g k
  | 0, h, _ => absurd h (Nat.not_lt_zero i)
  | k + 1, h, hm => by
    show cK f k + bI (f k) + 1 ≤ cK g k + bI (g k)
    by_cases c : i = k
    · subst c
      have := cK_le i (fun j hj => hm j (by omega))
      rw [hf, hg]
      show cK f i + 0 + 1 ≤ cK g i + 1
      omega
    · have i1 := cK_lt2 hf hg k (by omega) (fun j hj => hm j (by omega))
      have h1 := bI_01 (g k)
      cases hfk : f k
      · show cK f k + 0 + 1 ≤ _; omega
      · rw [hm k (by omega) hfk]; omega
theorem mc_add {M : MM} (hB : BN M) (h : Int) : mc M + bI (aAdd M h).1 ≤ mc (aAdd M h).2 := by
  unfold aAdd
  split
  · show mc M + 0 ≤ mc M; omega
  · rename_i c
    show mc M + 1 ≤ mc (u2 M 8 (aAt M h) 1)
    rcases aAt_in hB h with z | ⟨z1, z2, z3⟩
    · omega
    · unfold mc
      rw [u2_n _ _ (Or.inl (by decide))]
      refine cK_lt2 (i := (aAt M h).toNat) ?_ ?_ _ (by omega) (fun i _ hi => ?_)
      · unfold oM
        rw [Int.toNat_of_nonneg z1]
        exact decide_eq_false (by omega)
      · unfold oM
        rw [Int.toNat_of_nonneg z1, u2_s]
        decide
      · unfold oM at hi ⊢
        have hi := of_decide_eq_true hi
        apply decide_eq_true
        by_cases q : (i : Int) = aAt M h
        · rw [q, u2_s]; decide
        · rw [u2_n _ _ (Or.inr q)]; exact hi
theorem BN.off {M M' : MM} (h : BN M) (ho : offM M M') : BN M' := by unfold BN; rw [ho 13 0 (by decide)]; exact h
theorem mc_F {M0 : MM} (hB : BN M0) {all : Bool} {o f : Nat} {p : Bool × MM} (h : mc M0 + bI p.1 ≤ mc p.2 ∧ offM M0 p.2) : mc M0 + bI (aSprF all o f p).1 ≤ mc (aSprF all o f p).2 ∧ offM M0 (aSprF all o f p).2 := by
  refine ⟨?_, h.2.tr (aSprF_off all o f p)⟩
  unfold aSprF
  split
  · have h1 := mc_add (hB.off h.2) (p.2 6 (4 * (o : Int) + f))
    show mc M0 + bI (p.1 || (aAdd p.2 (p.2 6 (4 * (o : Int) + f))).1) ≤ mc (aAdd p.2 (p.2 6 (4 * (o : Int) + f))).2
    have h2 := h.1
    cases hb : (aAdd p.2 (p.2 6 (4 * (o : Int) + f))).1
    · rw [hb] at h1
      have h1 : mc p.2 + 0 ≤ _ := h1
      rw [Bool.or_false]
      omega
    · rw [hb] at h1
      have h1 : mc p.2 + 1 ≤ _ := h1
      have h3 := bI_01 p.1
      rw [Bool.or_true]
      show mc M0 + 1 ≤ _
      omega
  · exact h.1
theorem mc_spr {M : MM} (hB : BN M) (all : Bool) : mc M + bI (aSpr all M).1 ≤ mc (aSpr all M).2 := by
  refine (lp_inv (fun _ (q : Bool × MM) => mc M + bI q.1 ≤ mc q.2 ∧ offM M q.2) ⟨by show mc M + 0 ≤ mc M; omega, offM.rf⟩ _ (fun i x _ hx => ?_)).1
  unfold aSprO
  exact lp_inv (fun _ (q : Bool × MM) => mc M + bI q.1 ≤ mc q.2 ∧ offM M q.2) hx _ (fun i x _ hx => mc_F hB hx)
theorem aClo_c : ∀ (r : Nat) (M : MM), BN M → clo (aClo true r M) ∨ mc M + (r : Int) ≤ mc (aClo true r M)
  | 0, M, _ => Or.inr (by show mc M + 0 ≤ mc M; omega)
  | r + 1, M, hB => by
    rw [aClo]
    cases hb : (aSpr true M).1
    · obtain ⟨e, c⟩ := aSpr_f hB.1 hb
      refine Or.inl ?_
      show clo (aSpr true M).2
      rw [e]
      exact c
    · have h1 := mc_spr hB true
      rw [hb] at h1
      have h1 : mc M + 1 ≤ mc (aSpr true M).2 := h1
      show clo (aClo true r (aSpr true M).2) ∨ mc M + _ ≤ mc (aClo true r (aSpr true M).2)
      rcases aClo_c r (aSpr true M).2 (hB.off (aSpr_off true M)) with z | z
      · exact Or.inl z
      · exact Or.inr (by omega)
theorem aClo_clo {M : MM} (hB : BN M) : clo (aClo true 21 M) := by
  rcases aClo_c 21 M hB with z | z
  · exact z
  · have h1 := cK_in (oM M) (M 13 0).toNat
    have h2 := cK_in (oM (aClo true 21 M)) (aClo true 21 M 13 0).toNat
    have h3 := aClo_off true 21 M 13 0 (by decide)
    unfold mc at z
    have := hB.1
    have := hB.2
    omega
theorem aAdd_m {M : MM} (hw : wN M) {h : Int} (hl : live M h) : aIsM (aAdd M h).2 h = true := by
  have ha := aAt_off (aAdd_off M h) h
  obtain ⟨o, o0, o1, rfl⟩ := hl
  rw [aAt_live hw o0 o1] at ha
  unfold aIsM
  rw [ha]
  apply decide_eq_true
  refine ⟨o0, ?_⟩
  unfold aAdd
  rw [aAt_live hw o0 o1]
  split
  · rename_i c
    show ¬ M 8 o = 0
    omega
  · show ¬ u2 M 8 o 1 8 o = 0
    rw [u2_s]
    decide
theorem wN.off {M M' : MM} (h : wN M) (ho : offM M M') : wN M' := by
  unfold wN
  rw [ho 13 0 (by decide), ho 13 1 (by decide)]
  exact ⟨fun o o' a b c => by rw [ho 2 o (by decide), ho 2 o' (by decide)]; exact h.1 o o' a b c, fun o a b => by rw [ho 2 o (by decide)]; exact h.2 o a b⟩
theorem live.off {M M' : MM} {h : Int} (hl : live M h) (ho : offM M M') : live M' h := live_off (offS.of ho) rfl (ho 13 0 (by decide)) hl
theorem aVars_m {M : MM} (hw : wN M) (hV : wV M) : ∀ k : Nat, k ≤ 6 → ∀ v : Nat, v < k → M 0 v = 9 → aIsM (lp aVr k M) (M 1 v) = true
  | 0, _, v, hv, _ => absurd hv (Nat.not_lt_zero v)
  | k + 1, hk, v, hv, h9 => by
    have ho : offM M (lp aVr k M) := lp_off (fun i M => aVr_off i M) k
    show aIsM (aVr k (lp aVr k M)) (M 1 v) = true
    by_cases c : v = k
    · subst c
      rw [aVr_e, ho 0 _ (by decide), ho 1 _ (by decide), if_pos h9]
      refine aAdd_m (hw.off ho) (live.off ?_ ho)
      rcases hV v (by omega) (by omega) with z | z | z
      · omega
      · omega
      · exact z.2
    · refine aIsM_g (aVr_off k _) ?_ (aVars_m hw hV k (by omega) v (by omega) h9)
      unfold aVr
      split
      · exact aAdd_g _ _
      · exact gM.rf
theorem aWaits_m {M : MM} (hw : wN M) (hl : ∀ q, 0 ≤ q → q < M 13 3 → live M (M 11 q)) : ∀ k : Nat, (k : Int) ≤ M 13 3 → ∀ q : Nat, q < k → aIsM (lp (fun k M => (aAdd M (M 11 (k : Int))).2) k M) (M 11 q) = true
  | 0, _, v, hv => absurd hv (Nat.not_lt_zero v)
  | k + 1, hk, v, hv => by
    have ho : offM M (lp (fun k M => (aAdd M (M 11 (k : Int))).2) k M) := lp_off (fun i M => aAdd_off M _) k
    show aIsM (aAdd (lp (fun k M => (aAdd M (M 11 (k : Int))).2) k M) (lp (fun k M => (aAdd M (M 11 (k : Int))).2) k M 11 (k : Int))).2 (M 11 v) = true
    rw [ho 11 _ (by decide)]
    by_cases c : v = k
    · subst c
      exact aAdd_m (hw.off ho) (live.off (hl v (by omega) (by omega)) ho)
    · exact aIsM_g (aAdd_off _ _) (aAdd_g _ _) (aWaits_m hw hl k (by omega) v (by omega))
theorem aWaits_g (M : MM) : gM M (aWaits M) := lp_inv (fun _ q => gM M q) gM.rf _ (fun i x _ hx => hx.tr (aAdd_g _ _))
