/-! calls, returns, and the whole run -/
section MRUN
variable {G : MG} {k pc : Nat}
def wdC (k' : Nat) : Cond := .code (mY k') (mB k') (mL k') (mR k')
/-- a call is sound: with any contract of the callee it runs -/
def SC (G : MG) (k pc : Nat) (mc0 : MC) : Prop := mc0.2.2.2 = pc + 3 ∧ ∀ (st : List MV) (S : MS) (k' : Nat) (as rest : List MV), mcallee mc0.1 mc0.2.1 mc0.2.2.1 st S = some (k', as, rest) →
  ∀ (p : Program) (l : Launch) (e : Env) (R : Room) (s : State) (m : MethodId) (args : Array Value) (below : List Frame) (meth : Method) (c : Code) (H : Heap) (ls : Array Slot) (locs : List Loc) (cells slots mc ms : Nat) (rm : Room) (Pc : Array Value → State → Prop) (Qc : Array Value → State → Outcome → State → Prop) (free : Addr → Prop),
    CX G k p s m meth c → Rel G S H → Met l (mY k') [wdC k'] rm Pc Qc mc ms free → rm.cells = mc → rm.slots = ms → rm.frames + 1 ≤ R.frames → 8 + (mL k' + 11) + rm.locals ≤ R.locals → FrameBlind Pc → (∀ U : State, U.heap = H → s.WarmedH U.vm → Pc (as.map cv).toArray U) → ls.size = mL k → cells + mc ≤ R.cells ∧ slots + ms ≤ R.slots →
    va_Run p l e R s m args below meth c H locs cells slots mc ms (F0 m pc ls (st.map cv)) (rest.map cv) (Qc (as.map cv).toArray) free
theorem callee_inv {sta : Bool} {na : Nat} {tg : List (Nat × Nat)} {st : List MV} {S : MS} {k' : Nat} {as rest : List MV} (h : mcallee sta na tg st S = some (k', as, rest)) : st = as.reverse ++ rest ∧ as.length = na ∧ rest.length ≤ 8 ∧ ((sta = true ∧ tg.lookup 0 = some k') ∨ (sta = false ∧ ∃ b as', as = .inr (some b) :: as' ∧ tg.lookup (tS S b) = some k')) := by
  unfold mcallee at h
  split at h
  · rename_i hc
    have key : ∀ as' : List MV, as' = (st.take na).reverse → st = as'.reverse ++ st.drop na ∧ as'.length = na := by
      intro as' e
      subst e
      rw [List.reverse_reverse, List.take_append_drop, List.length_reverse, List.length_take]
      exact ⟨rfl, by omega⟩
    split at h
    · cases hl : tg.lookup 0 with
      | none => rw [hl] at h; cases h
      | some q =>
        rw [hl] at h
        simp only [Option.map_some, Option.some.injEq, Prod.mk.injEq] at h
        obtain ⟨rfl, rfl, rfl⟩ := h
        exact ⟨(key _ rfl).1, (key _ rfl).2, hc.2, Or.inl ⟨rfl, rfl⟩⟩
    · split at h
      · rename_i b as' he
        cases hl : tg.lookup (tS S b) with
        | none => rw [hl] at h; cases h
        | some q =>
          rw [hl] at h
          simp only [Option.map_some, Option.some.injEq, Prod.mk.injEq] at h
          obtain ⟨rfl, rfl, rfl⟩ := h
          exact ⟨(key _ he.symm).1, (key _ he.symm).2, hc.2, Or.inr ⟨rfl, b, as', rfl, hl⟩⟩
      · cases h
  · cases h
theorem room8 {m : MethodId} {pc : Nat} {ls : Array Slot} {x : List Value} {rest : List MV} (h : rest.length ≤ 8) : 2 * (F0 m pc ls x).monitorRoom + ((rest.map cv).map fun v => v.category).sum ≤ 8 := by
  rw [cv_sum]
  show 2 * 0 + rest.length ≤ 8
  omega
/-- what a callee must have whoever calls it -/
def COK (k' n : Nat) : Prop := wdC k' ∈ mWS ∧ Cond.initialized (mY k').cls ∈ mWS ∧ ((mY k').cls ≠ "java/lang/invoke/MethodHandle" ∧ (mY k').cls ≠ "java/lang/invoke/VarHandle") ∧ (parseMethodDescriptor (mY k').desc).map (fun d => d.parameters.length) = some n
theorem COK.len {k' n : Nat} (h : COK k' n) : ∀ sig, parseMethodDescriptor (mY k').desc = some sig → n = sig.parameters.length := fun sig hs => by
  have h2 := h.2.2.2
  rw [hs] at h2
  exact (Option.some.inj h2).symm
theorem COK.ws {k' n : Nat} (h : COK k' n) {s : State} (hk : KW G s) : ∀ w ∈ [wdC k'], ∀ (a' : Array Value) (U : State), s.WarmedH U.vm → w.before a' U = true := fun w hw a' U hW => by
  rw [List.mem_singleton.mp hw]
  exact (hk.warm hW).w h.1
theorem map_rev (as rest : List MV) : (as.reverse ++ rest).map cv = (as.map cv).reverse ++ rest.map cv := by
  rw [List.map_append, List.map_reverse]
theorem lookup1 {α : Type} {a b : Nat} {x y : α} (h : [(a, x)].lookup b = some y) : b = a ∧ y = x := by
  unfold List.lookup at h
  split at h
  · rename_i hb
    exact ⟨by simpa using hb, (Option.some.inj h).symm⟩
  · cases h
theorem lookup_mem {α : Type} {l : List (Nat × α)} {b : Nat} {y : α} (h : l.lookup b = some y) : (b, y) ∈ l := by
  induction l with
  | nil => cases h
  | cons q t ih =>
    obtain ⟨a, x⟩ := q
    unfold List.lookup at h
    split at h
    · rename_i hb
      have e : b = a := by simpa using hb
      rw [e, ← Option.some.inj h]
      exact List.mem_cons_self
    · exact List.mem_cons_of_mem _ (ih h)
theorem c_static {idx n k1 : Nat} (hd : decode (mB k) pc = .ok (.invokestatic idx, 3)) (hk : COK k1 n) (hl : Cond.methodLink (mO k) idx (mY k1) ∈ mWS) (hs : Cond.static (mY k1) ∈ mWS) : SC G k pc (true, n, [(0, k1)], pc + 3) := by
  refine ⟨rfl, fun st S k' as rest h p l e R s m args below meth c H ls locs cells slots mc ms rm Pc Qc free C hR hM r1 r2 r3 r4 hb hP hls hf => ?_⟩
  obtain ⟨rfl, e2, e3, e4⟩ := callee_inv h
  rcases e4 with ⟨-, e4⟩ | ⟨e4, -⟩
  · obtain ⟨-, rfl⟩ := lookup1 e4
    have KWs := C.2.2.2.2.2
    rw [map_rev]
    exact va_runS (n := n) (ws := [wdC k']) ⟨C.1, C.2.1, C.2.2.1, C.2.2.2.1, fun w (hw : w ∈ mWS) => KWs.w hw⟩ hM ⟨⟨r1, r2, r3, r4, hk.ws KWs, List.mem_singleton.mpr rfl, KWs.w hk.1, KWs.w hk.2.1, hk.2.2.1, hk.len, KWs.w hl⟩, KWs.w hs⟩ ⟨hb, hP⟩ rfl (by rw [List.length_map]; exact e2) hls rfl (room8 e3) hd hf
  · cases e4
theorem c_staticN {idx n k1 : Nat} {host : String} (hd : decode (mB k) pc = .ok (.invokestatic idx, 3)) (hk : COK k1 n) (hl : Cond.methodLinkNest (mO k) idx (mY k1) host ∈ mWS) (hs : Cond.static (mY k1) ∈ mWS) : SC G k pc (true, n, [(0, k1)], pc + 3) := by
  refine ⟨rfl, fun st S k' as rest h p l e R s m args below meth c H ls locs cells slots mc ms rm Pc Qc free C hR hM r1 r2 r3 r4 hb hP hls hf => ?_⟩
  obtain ⟨rfl, e2, e3, e4⟩ := callee_inv h
  rcases e4 with ⟨-, e4⟩ | ⟨e4, -⟩
  · obtain ⟨-, rfl⟩ := lookup1 e4
    have KWs := C.2.2.2.2.2
    rw [map_rev]
    exact va_runSN (n := n) (host := host) (ws := [wdC k']) ⟨C.1, C.2.1, C.2.2.1, C.2.2.2.1, fun w (hw : w ∈ mWS) => KWs.w hw⟩ hM ⟨⟨⟨r1, r2, r3, r4, hk.ws KWs, List.mem_singleton.mpr rfl⟩, KWs.w hk.1, KWs.w hk.2.1, hk.2.2.1, hk.len, KWs.w hl⟩, KWs.w hs, trivial⟩ ⟨hb, hP⟩ rfl (by rw [List.length_map]; exact e2) hls rfl (room8 e3) hd hf
  · cases e4
theorem c_init {idx n k1 : Nat} {ts : List Nat} (hd : decode (mB k) pc = .ok (.invokespecial idx, 3)) (hk : COK k1 n) (hl : Cond.methodLink (mO k) idx (mY k1) ∈ mWS) (hin : Cond.instanceMethod (mY k1) ∈ mWS) (hnm : (mY k1).name = "<init>") (hrt : mR k1 = none) : SC G k pc (false, n + 1, ts.map (fun t => (t, k1)), pc + 3) := by
  refine ⟨rfl, fun st S k' as rest h p l e R s m args below meth c H ls locs cells slots mc ms rm Pc Qc free C hR hM r1 r2 r3 r4 hb hP hls hf => ?_⟩
  obtain ⟨rfl, e2, e3, e4⟩ := callee_inv h
  rcases e4 with ⟨e4, -⟩ | ⟨-, b, as', rfl, e5⟩
  · cases e4
  · have hk' : k1 = k' := by
      have h9 := lookup_mem e5
      obtain ⟨t, -, ht⟩ := List.mem_map.mp h9
      exact congrArg Prod.snd ht
    subst hk'
    have KWs := C.2.2.2.2.2
    rw [map_rev, List.map_cons, List.reverse_cons, List.append_assoc]
    have e6 : as'.length = n := by simpa using e2
    have hcd : Cond.code (mY k1) (mB k1) (mL k1) none = wdC k1 := by unfold wdC; rw [hrt]
    exact va_runI (n := n) (b := b) (bytes := mB k1) (maxL := mL k1) (ws := [wdC k1]) ⟨C.1, C.2.1, C.2.2.1, C.2.2.2.1, fun w (hw : w ∈ mWS) => KWs.w hw⟩ hM ⟨⟨r1, r2, r3, r4, hk.ws KWs, by rw [hcd]; exact List.mem_singleton.mpr rfl, by rw [hcd]; exact KWs.w hk.1, KWs.w hk.2.1, hk.2.2.1, hk.len, KWs.w hl⟩, hnm, KWs.w hin⟩ ⟨hb, hP⟩ rfl (by rw [List.length_map]; exact e6) hls rfl (room8 e3) hd hf
theorem c_initN {idx n k1 : Nat} {host : String} {ts : List Nat} (hd : decode (mB k) pc = .ok (.invokespecial idx, 3)) (hk : COK k1 n) (hl : Cond.methodLinkNest (mO k) idx (mY k1) host ∈ mWS) (hin : Cond.instanceMethod (mY k1) ∈ mWS) (hnm : (mY k1).name = "<init>") (hrt : mR k1 = none) : SC G k pc (false, n + 1, ts.map (fun t => (t, k1)), pc + 3) := by
  refine ⟨rfl, fun st S k' as rest h p l e R s m args below meth c H ls locs cells slots mc ms rm Pc Qc free C hR hM r1 r2 r3 r4 hb hP hls hf => ?_⟩
  obtain ⟨rfl, e2, e3, e4⟩ := callee_inv h
  rcases e4 with ⟨e4, -⟩ | ⟨-, b, as', rfl, e5⟩
  · cases e4
  · have hk' : k1 = k' := by
      have h9 := lookup_mem e5
      obtain ⟨t, -, ht⟩ := List.mem_map.mp h9
      exact congrArg Prod.snd ht
    subst hk'
    have KWs := C.2.2.2.2.2
    rw [map_rev, List.map_cons, List.reverse_cons, List.append_assoc]
    have e6 : as'.length = n := by simpa using e2
    have hcd : Cond.code (mY k1) (mB k1) (mL k1) none = wdC k1 := by unfold wdC; rw [hrt]
    exact va_runIN (n := n) (b := b) (host := host) (bytes := mB k1) (maxL := mL k1) (ws := [wdC k1]) ⟨C.1, C.2.1, C.2.2.1, C.2.2.2.1, fun w (hw : w ∈ mWS) => KWs.w hw⟩ hM ⟨⟨⟨r1, r2, r3, r4, hk.ws KWs, by rw [hcd]; exact List.mem_singleton.mpr rfl⟩, by rw [hcd]; exact KWs.w hk.1, KWs.w hk.2.1, hk.2.2.1, hk.len, KWs.w hl⟩, hnm, KWs.w hin⟩ ⟨hb, hP⟩ rfl (by rw [List.length_map]; exact e6) hls rfl (room8 e3) hd hf
theorem c_virt {idx n : Nat} {tg : List (Nat × Nat)} (hK : K0 G) (hd : decode (mB k) pc = .ok (.invokevirtual idx, 3)) (ht : ∀ q ∈ tg, COK q.2 n ∧ Cond.methodLink (mO k) idx (mY q.2) ∈ mWS ∧ Cond.instanceMethod (mY q.2) ∈ mWS ∧ ∃ (ci : Nat) (r : vw_C), q.1 = ci + 1 ∧ ci < 19 ∧ mcl[ci]? = some r ∧ Cond.selects r.1 (mY q.2) (mY q.2) ∈ mWS) : SC G k pc (false, n + 1, tg, pc + 3) := by
  refine ⟨rfl, fun st S k' as rest h p l e R s m args below meth c H ls locs cells slots mc ms rm Pc Qc free C hR hM r1 r2 r3 r4 hb hP hls hf => ?_⟩
  obtain ⟨rfl, e2, e3, e4⟩ := callee_inv h
  rcases e4 with ⟨e4, -⟩ | ⟨-, b, as', rfl, e5⟩
  · cases e4
  · obtain ⟨hk, hl, hin, ci, r, f1, f2, f3, f4⟩ := ht _ (lookup_mem e5)
    have KWs := C.2.2.2.2.2
    rw [map_rev, List.map_cons, List.reverse_cons, List.append_assoc]
    have e6 : as'.length = n := by simpa using e2
    exact va_runV (n := n) (b := b) (C := r.1) (ws := [wdC k']) ⟨C.1, C.2.1, C.2.2.1, C.2.2.2.1, fun w (hw : w ∈ mWS) => KWs.w hw⟩ hM ⟨⟨r1, r2, r3, r4, hk.ws KWs, List.mem_singleton.mpr rfl, KWs.w hk.1, KWs.w hk.2.1, hk.2.2.1, hk.len, KWs.w hl⟩, KWs.w hin, KWs.w f4⟩ ⟨hb, recvR hK hR KWs f1 f2 f3, hP⟩ rfl (by rw [List.length_map]; exact e6) hls rfl (room8 e3) hd hf
/-- a call that names an abstract method -/
theorem c_abs {idx n : Nat} {x : MethodName} {owner : String} {tg : List (Nat × Nat)} (hK : K0 G) (hd : decode (mB k) pc = .ok (.invokevirtual idx, 3)) (hl : Cond.methodLink (mO k) idx x ∈ mWS) (hsm : Cond.sameMethod x.cls owner x.name x.desc ∈ mWS) (hdc : Cond.declares ⟨owner, x.name, x.desc⟩ ∈ mWS) (how : owner ≠ "java/lang/invoke/MethodHandle" ∧ owner ≠ "java/lang/invoke/VarHandle") (hln : (parseMethodDescriptor x.desc).map (fun d => d.parameters.length) = some n)
    (ht : ∀ q ∈ tg, COK q.2 n ∧ Cond.instanceMethod (mY q.2) ∈ mWS ∧ ∃ (ci : Nat) (r : vw_C), q.1 = ci + 1 ∧ ci < 19 ∧ mcl[ci]? = some r ∧ Cond.selects r.1 x (mY q.2) ∈ mWS) : SC G k pc (false, n + 1, tg, pc + 3) := by
  refine ⟨rfl, fun st S k' as rest h p l e R s m args below meth c H ls locs cells slots mc ms rm Pc Qc free C hR hM r1 r2 r3 r4 hb hP hls hf => ?_⟩
  obtain ⟨rfl, e2, e3, e4⟩ := callee_inv h
  rcases e4 with ⟨e4, -⟩ | ⟨-, b, as', rfl, e5⟩
  · cases e4
  · obtain ⟨hk, hin, ci, r, f1, f2, f3, f4⟩ := ht _ (lookup_mem e5)
    have KWs := C.2.2.2.2.2
    rw [map_rev, List.map_cons, List.reverse_cons, List.append_assoc]
    have e6 : as'.length = n := by simpa using e2
    exact va_runU (n := n) (b := b) (C := r.1) (owner := owner) (x := x) (ws := [wdC k']) (bytes := mB k') (maxL := mL k') (ret := mR k') ⟨C.1, C.2.1, C.2.2.1, C.2.2.2.1, fun w (hw : w ∈ mWS) => KWs.w hw⟩ hM ⟨⟨r1, r2, r3, r4, hk.ws KWs, List.mem_singleton.mpr rfl⟩, KWs.w hk.1, KWs.w hk.2.1, how, fun sig hs => (by rw [hs] at hln; exact (Option.some.inj hln).symm), KWs.w hl, KWs.w hsm, va_Decl.abs (KWs.1 _ hdc), KWs.w f4, KWs.w hin⟩ ⟨hb, recvR hK hR KWs f1 f2 f3, hP⟩ rfl (by rw [List.length_map]; exact e6) hls rfl (room8 e3) hd hf
-- returns
def SR (k pc rk : Nat) : Prop := match rk with
  | 0 => decode (mB k) pc = .ok (.ireturn, 1) ∧ mR k = some .int
  | 1 => decode (mB k) pc = .ok (.ireturn, 1) ∧ mR k = some .boolean
  | 2 => decode (mB k) pc = .ok (.areturn, 1) ∧ ∃ n, mR k = some (.object n)
  | 3 => decode (mB k) pc = .ok (.return_, 1) ∧ mR k = none
  | _ => False
/-- a method's own tables fit -/
def MOK (k' : Nat) : Prop := plainName (mY k').cls = true ∧ mO k' = (mY k').cls ∧ (mN k' = true → (mY k').name = "<init>") ∧ mL k' ≤ 21
def SE (G : MG) (k pc : Nat) (x : ME) : Prop := match x with
  | .inl mi => SI G k pc mi
  | .inr (.inl mc) => SC G k pc mc ∧ ∀ q ∈ mc.2.2.1, MOK q.2 ∧ mc.2.1 ≤ mL q.2
  | .inr (.inr rk) => SR k pc rk
theorem mret_s {rk : Nat} {st : List MV} {S : MS} {r : Option MV × MS} (h : mret rk st S = some r) : r.2 = S ∧ st = r.1.toList := by
  unfold mret at h
  split at h
  · cases h; exact ⟨rfl, rfl⟩
  · split at h
    · cases h; exact ⟨rfl, rfl⟩
    · cases h
  · cases h; exact ⟨rfl, rfl⟩
  · cases h; exact ⟨rfl, rfl⟩
  · cases h
/-- what a run gives at the machine -/
def RunOK (G : MG) (d k pc : Nat) (L : ML) (st : List MV) (S : MS) (r : Option MV × MS) : Prop := (zS S ≤ zS r.2 ∧ qS S ≤ qS r.2) ∧
  ∀ (p : Program) (l : Launch) (e : Env) (R : Room) (s : State) (m : MethodId) (args : Array Value) (below : List Frame) (meth : Method) (c : Code) (H : Heap) (ls : Array Slot) (locs : List Loc) (cells slots cE sE : Nat) (Q : State → Prop),
    CX G k p s m meth c → d + 1 ≤ R.frames → 40 * (d + 1) ≤ R.locals → Rel G S H → LR (mL k) ls L → okS st → LK G locs → cE + zS S = cells + zS r.2 → sE + qS S = slots + qS r.2 → cE ≤ R.cells → sE ≤ R.slots →
    (∀ (pc' rk : Nat) (H' : Heap) (ls' : Array Slot) (locs' : List Loc) (st' : List MV), mcd k pc' = some (.inr (.inr rk)) → mret rk st' r.2 = some r → Rel G r.2 H' → okS st' → LK G locs' → W p l e R s m args below meth c H' locs' cE sE Q (F0 m pc' ls' (st'.map cv))) →
    W p l e R s m args below meth c H locs cells slots Q (F0 m pc ls (st.map cv))
theorem entryLR {nL : Nat} {as : List MV} (ha : okS as) (hl : as.length ≤ nL) (m : MethodId) : ∃ ls, entryFrame m (as.map cv).toArray nL = F0 m 0 ls [] ∧ LR nL ls (mentry nL as) := by
  have hsl : lg_sl (as.map cv) = (as.map cv).map Slot.val := by
    clear ha hl
    induction as with
    | nil => rfl
    | cons a t ih =>
      unfold lg_sl at ih ⊢
      rw [List.map_cons, List.flatMap_cons, ih, if_neg (by rw [cv_cat]; decide)]
      rfl
  have h1 := lv_entry (as.map cv) (n := nL) (by rw [hsl, List.length_map, List.length_map]; exact hl)
  refine ⟨_, lg_entry_eq m (as.map cv) nL, ⟨h1.1, h1.2.1, fun q hq => ?_⟩, ?_, fun v hv => ?_⟩
  · obtain ⟨v, e1, e2⟩ := lvl_mem hq
    unfold mentry at e1
    by_cases hi : q.1 < as.length
    · rw [List.getElem?_append_left (by rw [List.length_map]; exact hi), List.getElem?_map] at e1
      cases hx : as[q.1]? with
      | none => rw [hx] at e1; cases e1
      | some w =>
        rw [hx] at e1
        have e3 : w = v := Option.some.inj (Option.some.inj e1)
        rw [hsl, List.getElem?_toArray, List.getElem?_append_left (by rw [List.length_map, List.length_map]; exact hi), List.getElem?_map, List.getElem?_map, hx, e3, e2]
        rfl
    · rw [List.getElem?_append_right (by rw [List.length_map]; omega)] at e1
      have := List.mem_of_getElem? e1
      have h9 := List.eq_of_mem_replicate this
      cases h9
  · unfold mentry
    rw [List.length_append, List.length_map, List.length_replicate]
    omega
  · unfold mentry at hv
    rcases List.mem_append.mp hv with h | h
    · obtain ⟨w, hw, e⟩ := List.mem_map.mp h
      cases e
      exact ha v hw
    · cases List.eq_of_mem_replicate h
def McPc (G : MG) (as : List MV) (S : MS) : Array Value → State → Prop := fun v U => v = (as.map cv).toArray ∧ KW G U ∧ Rel G S U.heap
def McQc (G : MG) (r : Option MV × MS) : Array Value → State → Outcome → State → Prop := fun _ _ oc t => oc = .returned (r.1.map cv) ∧ Rel G r.2 t.heap ∧ okS r.1.toList
theorem calling_vm (U : State) (g : JFrame) (mk : MethodId) (a : Array Value) : U.vm = (U.calling g mk a).vm := rfl
theorem McPc.blind {as : List MV} {S : MS} : FrameBlind (McPc G as S) := fun a U g mk h => ⟨h.1, h.2.1.same (calling_vm U g mk a), h.2.2⟩
theorem run_met {d k' : Nat} {as : List MV} {S : MS} {r : Option MV × MS} (hp : ∀ k pc x, mcd k pc = some x → SE G k pc x) (h : RunOK G d k' 0 (mentry (mL k') as) [] S r) (hk : MOK k') (hl : as.length ≤ mL k') (ha : okS as) (l : Launch) :
    Met l (mY k') [wdC k'] { frames := d + 1, cells := zS r.2 - zS S, slots := qS r.2 - qS S, locals := 40 * (d + 1) } (McPc G as S) (McQc G r) (zS r.2 - zS S) (qS r.2 - qS S) (fun q => G.2.2.2 ≤ q) := by
  obtain ⟨rv, rS⟩ := r
  refine Met.ofW (cc := mB k') (maxL := mL k') (ret := mR k') hk.1 rfl ?_
  intro p e s m args below meth c s₁ B hml hv
  obtain ⟨rfl, hkw, hR⟩ := hv
  obtain ⟨ls, e1, e2⟩ := entryLR ha hl m
  rw [e1]
  have hC : CX G k' p s m meth c := ⟨B.exec, B.bytes, hml, by rw [hk.2.1]; exact findClass_of_methodNamed B.named, fun z => by rw [(name_of_methodNamed B.named B.method).1]; exact hk.2.2.1 z, hkw⟩
  refine h.2 p l e _ s m _ below meth c s.heap ls [] 0 0 (zS rS - zS S) (qS rS - qS S) _ hC (Nat.le_refl _) (Nat.le_refl _) hR e2 (fun v hv => by cases hv) (fun q hq => by cases hq) (by have h9 : zS S ≤ zS rS := h.1.1; show zS rS - zS S + zS S = 0 + zS rS; omega) (by have h9 : qS S ≤ qS rS := h.1.2; show qS rS - qS S + qS S = 0 + qS rS; omega) (Nat.le_refl _) (Nat.le_refl _) ?_
  intro pc' rk H' ls' locs' st' hcd hr hR' hs' hlk
  have hret := hp _ _ _ hcd
  have hx := B.exec
  have hb := B.bytes
  have hrt := B.returns
  have hq : ∀ t : State, t.heap = H' → McQc G (rv, rS) (as.map cv).toArray s (.returned (rv.map cv)) t := fun t ht => ⟨rfl, by rw [ht]; exact hR', by rw [← (mret_s hr).2]; exact hs'⟩
  unfold mret at hr
  split at hr
  · obtain ⟨d1, d2⟩ := hret
    cases hr
    exact W.iret hx hb (hrt.trans d2) (fun t ht _ => hq t ht) hlk d1 B.notSynchronized
  · split at hr
    · rename_i e he
      obtain ⟨d1, d2⟩ := hret
      cases hr
      refine W.zret hx hb (hrt.trans d2) ?_ (fun t ht _ => hq t ht) hlk d1 B.notSynchronized
      rcases he with rfl | rfl <;> decide
    · cases hr
  · rename_i rr
    obtain ⟨d1, n, d2⟩ := hret
    cases hr
    refine W.aret hx hb (hrt.trans d2) (Or.inl ⟨n, rfl⟩) ?_ (fun t ht _ => hq t ht) hlk d1 B.notSynchronized
    cases rr with
    | none => exact Or.inl rfl
    | some a => exact Or.inr ⟨a, rfl⟩
  · obtain ⟨d1, d2⟩ := hret
    cases hr
    exact W.vret hx hb (hrt.trans d2) (fun t ht _ => hq t ht) hlk d1 B.notSynchronized
  · cases hr
set_option maxHeartbeats 2000000 in
/-- a run of the mini-machine is a run of the machine -/
theorem mx_sound (hp : ∀ k pc x, mcd k pc = some x → SE G k pc x) : ∀ (n d k pc : Nat) (L : ML) (st : List MV) (S : MS) (r : Option MV × MS), mx mcd mL n d k pc L st S = some r → RunOK G d k pc L st S r := by
  intro n
  induction n with
  | zero => intro d k pc L st S r h; cases h
  | succ n ih =>
    intro d k pc L st S r h
    unfold mx at h
    split at h
    · cases h
    · rename_i mi hcd
      split at h
      · cases h
      · rename_i pc' L' st' S' hmi
        have h1 := ih _ _ _ _ _ _ _ h
        have h2 : SI G k pc mi := hp _ _ _ hcd
        obtain ⟨⟨m1, m2⟩, h3⟩ := h2 _ _ _ _ _ _ _ hmi
        refine ⟨⟨Nat.le_trans m1 h1.1.1, Nat.le_trans m2 h1.1.2⟩, fun p l e R s m args below meth c H ls locs cells slots cE sE Q C r1 r2 hR hL hs hlk q1 q2 q3 q4 kk => ?_⟩
        have n1 := h1.1.1
        have n2 := h1.1.2
        refine h3 p l e R s m args below meth c H ls locs cells slots (cells + (zS S' - zS S)) (slots + (qS S' - qS S)) Q C (by omega) (by omega) hR hL hs hlk (by omega) (by omega) (by omega) (by omega) ?_
        intro H' ls' locs' hR' hL' hs' hlk'
        exact h1.2 p l e R s m args below meth c H' ls' locs' _ _ cE sE Q C r1 r2 hR' hL' hs' hlk' (by omega) (by omega) q3 q4 kk
    · rename_i sta na tg nx hcd
      split at h
      · cases h
      · rename_i d
        split at h
        · cases h
        · rename_i k' as rest hce
          split at h
          · cases h
          · rename_i v S' hrun
            have h1 := ih _ _ _ _ _ _ _ hrun
            have h2 := ih _ _ _ _ _ _ _ h
            have h3 : SC G k pc (sta, na, tg, nx) ∧ ∀ q ∈ tg, MOK q.2 ∧ na ≤ mL q.2 := hp _ _ _ hcd
            obtain ⟨⟨hnx, h4⟩, hm⟩ := h3
            have hnx : nx = pc + 3 := hnx
            subst hnx
            have h5 := h4 st S k' as rest hce
            obtain ⟨e1, e2, e3, e4⟩ := callee_inv hce
            have hk : MOK k' ∧ na ≤ mL k' := by
              rcases e4 with ⟨-, e4⟩ | ⟨-, b, as', -, e4⟩
              · exact hm _ (lookup_mem e4)
              · exact hm _ (lookup_mem e4)
            have n1 := h1.1.1
            have n2 := h1.1.2
            have n3 := h2.1.1
            have n4 := h2.1.2
            refine ⟨⟨Nat.le_trans n1 n3, Nat.le_trans n2 n4⟩, fun p l e R s m args below meth c H ls locs cells slots cE sE Q C r1 r2 hR hL hs hlk q1 q2 q3 q4 kk => ?_⟩
            have has : okS as := fun w hw => hs w (by rw [e1]; exact List.mem_append_left _ (List.mem_reverse.mpr hw))
            have hrs : okS rest := fun w hw => hs w (by rw [e1]; exact List.mem_append_right _ hw)
            have hM := run_met hp h1 hk.1 (by omega) has l
            have n5 : zS S ≤ zS S' := n1
            have n6 : qS S ≤ qS S' := n2
            have hkL := hk.1.2.2.2
            have hrunW := h5 p l e R s m args below meth c H ls locs cells slots (zS S' - zS S) (qS S' - qS S) _ _ _ _ C hR hM rfl rfl (by show d + 1 + 1 ≤ R.frames; omega) (by show 8 + (mL k' + 11) + 40 * (d + 1) ≤ R.locals; omega) McPc.blind (fun U hU hW => ⟨rfl, C.2.2.2.2.2.warm hW, by rw [hU]; exact hR⟩) hL.1.1 ⟨by omega, by omega⟩
            intro T hT X
            obtain ⟨v', st₀, t, T', Lc, g0, X', gL, g1, g2, ⟨g3, g4, g5⟩, stp⟩ := hrunW T hT X
            have hv : v' = v.map cv := by
              have := g3
              cases this
              rfl
            subst hv
            have hfin := h2.2 p l e R s m args below meth c T'.heap ls (locs ++ Lc) (cells + (zS S' - zS S)) (slots + (qS S' - qS S)) cE sE Q C r1 r2 (by rw [g1]; exact g4) hL (by
                intro w hw
                rcases List.mem_append.mp hw with h' | h'
                · exact g5 w h'
                · exact hrs w h') (by
                intro q hq
                rcases List.mem_append.mp hq with h' | h'
                · exact hlk q h'
                · exact gL q h') (by show cE + zS S' = cells + (zS S' - zS S) + zS r.2; omega) (by show sE + qS S' = slots + (qS S' - qS S) + qS r.2; omega) q3 q4 kk
            obtain ⟨t2, a1, b1⟩ := hfin T' rfl X'
            refine ⟨t2, stp t2 ?_, b1⟩
            have ev : (v.toList ++ rest).map cv = (v.map cv).toList ++ rest.map cv := by
              cases v <;> rfl
            rw [ev] at a1
            exact a1
    · rename_i rk hcd
      obtain ⟨e1, e2⟩ := mret_s h
      refine ⟨⟨by rw [e1]; exact Nat.le_refl _, by rw [e1]; exact Nat.le_refl _⟩, fun p l e R s m args below meth c H ls locs cells slots cE sE Q C r1 r2 hR hL hs hlk q1 q2 q3 q4 kk => ?_⟩
      rw [e1] at q1 q2
      have q1' : cells = cE := by omega
      have q2' : slots = sE := by omega
      subst q1'; subst q2'
      exact kk pc rk H ls locs st hcd (by rw [e1]; exact h) (by rw [e1]; exact hR) hs hlk
end MRUN
