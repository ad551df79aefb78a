/-! what the store says of the heap, and what every instruction needs -/
abbrev MG : Type := State × va_G × (Nat → ClassId) × Nat
/-- the words that stay when the tables are warmed -/
def stabB (w : Cond) : Bool := (w.onTables && w.keeps) || (w.onTables && match w with
  | .arrayClass _ => true
  | .methodLinkNest _ _ _ _ => true
  | .fieldLinkNest _ _ _ _ _ _ => true
  | .castable _ _ => true
  | .declares _ => true
  | _ => false)
theorem stab_warm {w : Cond} (h : stabB w = true) {s U : State} (hW : s.WarmedH U.vm) (hw : va_Nw w s) : va_Nw w U := by
  unfold stabB at h
  rcases (Bool.or_eq_true _ _).mp h with h1 | h1
  · exact word_at hW (Or.inl h1) hw
  · rw [Bool.and_eq_true] at h1
    obtain ⟨h0, h2⟩ := h1
    split at h2
    · exact word_at hW (Or.inr ⟨_, rfl⟩) hw
    · exact va_Nw.warmM hW hw
    · exact va_Nw.warmF hW hw
    · exact va_Nw.warmC hW hw
    · exact va_Nw.warmD hW hw
    · cases h2
theorem stab_tab {w : Cond} (h : stabB w = true) : w.onTables = true := by
  unfold stabB at h
  rcases (Bool.or_eq_true _ _).mp h with h1 | h1
  · rw [Bool.and_eq_true] at h1; exact h1.1
  · rw [Bool.and_eq_true] at h1; exact h1.1
def mWS : List Cond := lw_tbl.filter stabB
theorem inW {w : Cond} (i : Nat) (h : lw_tbl[i]? = some w) (hs : stabB w = true) : w ∈ mWS := List.mem_filter.mpr ⟨List.mem_of_getElem? h, hs⟩
def KW (G : MG) (s : State) : Prop := (∀ w ∈ mWS, va_Nw w s) ∧ G.1.vm.Alike s.vm ∧ (∀ q ∈ mNC, va_Nc q.1 q.2 s) ∧ ∀ E ∈ [mThing, mValue], va_AO E s
theorem KW.w {G : MG} {s : State} (h : KW G s) {A : Array Value} {w : Cond} (hw : w ∈ mWS) : w.before A s = true := va_Nw.use (stab_tab (List.mem_filter.mp hw).2) (h.1 w hw)
theorem KW.warm {G : MG} {s U : State} (h : KW G s) (hW : s.WarmedH U.vm) : KW G U := ⟨fun w hw => stab_warm (List.mem_filter.mp hw).2 hW (h.1 w hw), h.2.1.trans hW.alike, fun q hq => (h.2.2.1 q hq).moved hW.alike, fun E hE => (h.2.2.2 E hE).moved hW.alike⟩
theorem KW.same {G : MG} {s U : State} (h : KW G s) (e : s.vm = U.vm) : KW G U := ⟨fun w hw => va_Nw.same (stab_tab (List.mem_filter.mp hw).2) e (h.1 w hw), e ▸ h.2.1, fun q hq => (h.2.2.1 q hq).moved (e ▸ Vm.Alike.refl s.vm), fun E hE => (h.2.2.2 E hE).moved (e ▸ Vm.Alike.refl s.vm)⟩
def mtys (G : MG) : List (ClassId × FieldType) := [(G.2.2.1 0, .int), (G.2.2.1 1, .boolean), (G.2.2.1 2, .object mThing), (G.2.2.1 3, .object mValue)]
def K0 (G : MG) : Prop := va_K G.2.1 mcl (mtys G) G.1
theorem K0.at {G : MG} (h : K0 G) {s : State} (hw : KW G s) : va_K G.2.1 mcl (mtys G) s := va_K.moved hw.2.1 h
/-- what a cell is -/
def cellOK (G : MG) (t : Nat) (n : Int) (f : Int → MV) (a : Nat) (H : Heap) : Prop :=
  (∃ (ci : Nat) (r : vw_C), t = ci + 1 ∧ ci < 19 ∧ mcl[ci]? = some r ∧ n = (r.2.2 : Int) ∧ G.2.2.2 ≤ a ∧ t_OB a (G.2.1.1 ci) r.2.2 (G.2.1.2 ci) H (fun j => cv (f (j : Int)))) ∨
  (∃ (j N : Nat), t = 20 + j ∧ j < 4 ∧ n = (N : Int) ∧ G.2.2.2 ≤ a ∧ H[a]? = some (arrV (G.2.2.1 j) N (fun i => cv (f (i : Int))))) ∨
  (∃ (N : Nat), t = 30 ∧ n = (N : Int) ∧ ∃ scr : Cell, H[a]? = some scr ∧ G.1.isArrayOf scr .int ∧ scr.vm ≠ .unknown ∧ scr.slots.size = N ∧ ∀ j : Nat, j < N → scr.slots[j]? = some (cv (f (j : Int))))
theorem cellOK.lt {G : MG} {t : Nat} {n : Int} {f : Int → MV} {a : Nat} {H : Heap} (h : cellOK G t n f a H) : a < H.size := by
  rcases h with ⟨_, _, _, _, _, _, _, cell, h1, _⟩ | ⟨_, _, _, _, _, _, h1⟩ | ⟨_, _, _, scr, h1, _⟩ <;> exact (Array.getElem?_eq_some_iff.mp h1).1
theorem cellOK.kept {G : MG} {t : Nat} {n : Int} {f : Int → MV} {a : Nat} {H H' : Heap} (h : cellOK G t n f a H) (e : H'[a]? = H[a]?) : cellOK G t n f a H' := by
  rcases h with ⟨ci, r, h1, h2, h3, h4, h5, h6⟩ | ⟨j, N, h1, h2, h3, h4, h5⟩ | ⟨N, h1, h2, scr, h3, h4⟩
  · exact Or.inl ⟨ci, r, h1, h2, h3, h4, h5, h6.kept e⟩
  · exact Or.inr (Or.inl ⟨j, N, h1, h2, h3, h4, by rw [e]; exact h5⟩)
  · exact Or.inr (Or.inr ⟨N, h1, h2, scr, by rw [e]; exact h3, h4⟩)
def Rel (G : MG) (S : MS) (H : Heap) : Prop := H.size = zS S ∧ (∀ a k, okV (vS S a k)) ∧ (∀ a, tS S a ≠ 0 → cellOK G (tS S a) (lS S a) (vS S a) a H) ∧ (∀ a, inR (lS S a)) ∧ G.2.2.2 ≤ zS S
theorem mset_v (S : MS) (a : Nat) (k : Int) (v : MV) {b : Nat} (h : b ≠ a) : vS (mset S a k v) b = vS S b := by
  funext j
  show (if b = a ∧ j = k then v else vS S b j) = vS S b j
  rw [if_neg (fun q => h q.1)]
theorem mset_s (S : MS) (a : Nat) (k : Int) (v : MV) (j : Int) : vS (mset S a k v) a j = if j = k then v else vS S a j := by
  show (if a = a ∧ j = k then v else vS S a j) = _
  by_cases h : j = k
  · rw [if_pos ⟨rfl, h⟩, if_pos h]
  · rw [if_neg (fun q => h q.2), if_neg h]
theorem Rel.put {G : MG} {S : MS} {H H' : Heap} {a : Nat} {k : Int} {v : MV} (hR : Rel G S H) (hz : H'.size = H.size) (ho : ∀ q, q ≠ a → H'[q]? = H[q]?) (hv : okV v) (ha : cellOK G (tS S a) (lS S a) (vS (mset S a k v) a) a H') : Rel G (mset S a k v) H' := by
  obtain ⟨h1, h2, h3, h4, h5⟩ := hR
  refine ⟨hz.trans h1, fun b j => ?_, fun b hb => ?_, h4, h5⟩
  · show okV (if b = a ∧ j = k then v else vS S b j)
    split
    · exact hv
    · exact h2 b j
  · by_cases e : b = a
    · subst e; exact ha
    · rw [mset_v _ _ _ _ e]
      exact (h3 b hb).kept (ho b e)
theorem Rel.new {G : MG} {S : MS} {H H' : Heap} {t : Nat} {n : Int} {f : Int → MV} (hR : Rel G S H) (hz : H'.size = H.size + 1) (ho : ∀ q, q < H.size → H'[q]? = H[q]?) (hv : ∀ k, okV (f k)) (hn : inR n) (ha : cellOK G t n f (zS S) H') : Rel G (mnew S t n f) H' := by
  obtain ⟨h1, h2, h3, h4, h5⟩ := hR
  refine ⟨by rw [hz, h1]; rfl, fun b j => ?_, fun b hb => ?_, fun b => ?_, Nat.le_succ_of_le h5⟩
  · show okV ((if b = zS S then f else vS S b) j)
    split
    · exact hv j
    · exact h2 b j
  · by_cases e : b = zS S
    · have q : tS (mnew S t n f) b = t ∧ lS (mnew S t n f) b = n ∧ vS (mnew S t n f) b = f := ⟨if_pos e, if_pos e, if_pos e⟩
      rw [q.1, q.2.1, q.2.2, e]
      exact ha
    · have q : tS (mnew S t n f) b = tS S b ∧ lS (mnew S t n f) b = lS S b ∧ vS (mnew S t n f) b = vS S b := ⟨if_neg e, if_neg e, if_neg e⟩
      rw [q.1] at hb
      rw [q.1, q.2.1, q.2.2]
      have hc := h3 b hb
      exact hc.kept (ho b hc.lt)
  · show inR (if b = zS S then n else lS S b)
    split
    · exact hn
    · exact h4 b
-- the locals
def lvl (L : ML) : List (Nat × Value) := (List.range L.length).filterMap fun i => (L[i]?).bind fun x => x.map fun v => (i, cv v)
theorem mem_lvl {L : ML} {i : Nat} {v : MV} (h : L[i]? = some (some v)) : (i, cv v) ∈ lvl L := by
  refine List.mem_filterMap.mpr ⟨i, List.mem_range.mpr (List.getElem?_eq_some_iff.mp h).1, ?_⟩
  rw [h]; rfl
theorem lvl_mem {L : ML} {q : Nat × Value} (h : q ∈ lvl L) : ∃ v, L[q.1]? = some (some v) ∧ q.2 = cv v := by
  obtain ⟨i, -, hi⟩ := List.mem_filterMap.mp h
  cases hx : L[i]? with
  | none => rw [hx] at hi; cases hi
  | some x =>
    rw [hx] at hi
    cases x with
    | none => cases hi
    | some v =>
      have e : q = (i, cv v) := (Option.some.inj hi).symm
      subst e
      exact ⟨v, hx, rfl⟩
def LR (nL : Nat) (ls : Array Slot) (L : ML) : Prop := lv_has ls nL (lvl L) ∧ L.length = nL ∧ ∀ v, some v ∈ L → okV v
theorem cv_cat (v : MV) : (cv v).category = 1 := by
  rcases v with e | _ | a <;> rfl
theorem LR.get {nL : Nat} {ls : Array Slot} {L : ML} (h : LR nL ls L) {i : Nat} {v : MV} (hi : L[i]? = some (some v)) : ls[i]? = some (.val (cv v)) ∧ okV v := ⟨h.1.2.2 _ (mem_lvl hi), h.2.2 v (List.mem_of_getElem? hi)⟩
theorem LR.set {nL : Nat} {ls' : Array Slot} {L : ML} {i : Nat} {v : MV} (h2 : L.length = nL) (h3 : ∀ v, some v ∈ L → okV v) (hv : okV v) (h : lv_has ls' nL ((i, cv v) :: (lvl L).filter (fun q => !(q.1 == i) && !(q.1 + 1 == i && q.2.category == 2)))) : LR nL ls' (L.set i (some v)) := by
  refine ⟨⟨h.1, h.2.1, fun q hq => ?_⟩, by rw [List.length_set]; exact h2, fun w hw => ?_⟩
  · obtain ⟨w, e1, e2⟩ := lvl_mem hq
    by_cases e : q.1 = i
    · rw [e] at e1
      have hl : i < L.length := by
        have := (List.getElem?_eq_some_iff.mp e1).1
        rwa [List.length_set] at this
      rw [List.getElem?_set_self hl] at e1
      have e3 : v = w := Option.some.inj (Option.some.inj e1)
      refine h.2.2 q (List.mem_cons.mpr (Or.inl ?_))
      rw [e3]
      exact Prod.ext e e2
    · rw [List.getElem?_set_ne (Ne.symm e)] at e1
      refine h.2.2 q (List.mem_cons.mpr (Or.inr (List.mem_filter.mpr ⟨?_, ?_⟩)))
      · have := mem_lvl e1
        rw [← e2] at this
        exact this
      · have hc : q.2.category = 1 := by rw [e2]; exact cv_cat w
        simp [e, hc]
  · rcases List.mem_or_eq_of_mem_set hw with h' | h'
    · exact h3 w h'
    · cases h'; exact hv
-- what an instruction owes
def CX (G : MG) (k : Nat) (p : Program) (s : State) (m : MethodId) (meth : Method) (c : Code) : Prop := p.tables.exec = Jvm.exec ∧ c.code = mB k ∧ c.maxLocals = mL k ∧ s.vm.findClass (mO k) = some m.cls ∧ (mN k = true → meth.name = "<init>") ∧ KW G s
def LK (G : MG) (locs : List Loc) : Prop := ∀ q ∈ locs, G.2.2.2 ≤ q.base
theorem LK.put {G : MG} {locs : List Loc} {a i : Nat} (h : LK G locs) (ha : G.2.2.2 ≤ a) : LK G (locs ++ [⟨a, i⟩]) := by
  intro q hq
  rcases List.mem_append.mp hq with h1 | h1
  · exact h q h1
  · rw [List.mem_singleton.mp h1]; exact ha
def okS (st : List MV) : Prop := ∀ v ∈ st, okV v
theorem okS.t {v : MV} {st : List MV} (h : okS (v :: st)) : okS st := fun w hw => h w (List.mem_cons_of_mem _ hw)
theorem okS.h {v : MV} {st : List MV} (h : okS (v :: st)) : okV v := h v List.mem_cons_self
theorem okS.c {v : MV} {st : List MV} (hv : okV v) (h : okS st) : okS (v :: st) := fun w hw => by
  rcases List.mem_cons.mp hw with e | e
  · rw [e]; exact hv
  · exact h w e
def SI (G : MG) (k pc : Nat) (mi : MI) : Prop :=
  ∀ (L : ML) (st : List MV) (S : MS) (pc' : Nat) (L' : ML) (st' : List MV) (S' : MS), mi L st S = some (pc', L', st', S') → (zS S ≤ zS S' ∧ qS S ≤ qS S') ∧
    ∀ (p : Program) (l : Launch) (e : Env) (R : Room) (s : State) (m : MethodId) (args : Array Value) (below : List Frame) (meth : Method) (c : Code) (H : Heap) (ls : Array Slot) (locs : List Loc) (cells slots cells' slots' : Nat) (Q : State → Prop),
      CX G k p s m meth c → 1 ≤ R.frames → 20 ≤ R.locals → Rel G S H → LR (mL k) ls L → okS st → LK G locs → cells' + zS S = cells + zS S' → slots' + qS S = slots + qS S' → cells' ≤ R.cells → slots' ≤ R.slots →
      (∀ (H' : Heap) (ls' : Array Slot) (locs' : List Loc), Rel G S' H' → LR (mL k) ls' L' → okS st' → LK G locs' → W p l e R s m args below meth c H' locs' cells' slots' Q (F0 m pc' ls' (st'.map cv))) →
      W p l e R s m args below meth c H locs cells slots Q (F0 m pc ls (st.map cv))
/-- an instruction that leaves the store -/
theorem SI.pure {G : MG} {k pc : Nat} {mi : MI} (h : ∀ (L : ML) (st : List MV) (S : MS) (pc' : Nat) (L' : ML) (st' : List MV) (S' : MS), mi L st S = some (pc', L', st', S') → S' = S ∧
    ∀ (p : Program) (l : Launch) (e : Env) (R : Room) (s : State) (m : MethodId) (args : Array Value) (below : List Frame) (meth : Method) (c : Code) (H : Heap) (ls : Array Slot) (locs : List Loc) (cells slots : Nat) (Q : State → Prop),
      CX G k p s m meth c → 1 ≤ R.frames → 20 ≤ R.locals → Rel G S H → LR (mL k) ls L → okS st →
      (∀ (ls' : Array Slot), LR (mL k) ls' L' → okS st' → W p l e R s m args below meth c H locs cells slots Q (F0 m pc' ls' (st'.map cv))) →
      W p l e R s m args below meth c H locs cells slots Q (F0 m pc ls (st.map cv))) : SI G k pc mi := by
  intro L st S pc' L' st' S' e0
  obtain ⟨rfl, hw⟩ := h L st S pc' L' st' S' e0
  refine ⟨⟨Nat.le_refl _, Nat.le_refl _⟩, fun p l e R s m args below meth c H ls locs cells slots cells' slots' Q C r1 r2 hR hL hs hlk e1 e2 _ _ kk => ?_⟩
  have e1' : cells = cells' := by omega
  have e2' : slots = slots' := by omega
  subst e1'; subst e2'
  exact hw p l e R s m args below meth c H ls locs cells slots Q C r1 r2 hR hL hs fun ls' h1 h2 => kk H ls' locs hR h1 h2 hlk
