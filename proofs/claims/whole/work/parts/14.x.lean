/-! walking: XQ d k pc L st S Q: from here the run comes to an end, with Q of its answer and its store -/
def XQ (d k pc : Nat) (L : ML) (st : List MV) (S : MS) (Q : Option MV → MS → Prop) : Prop := ∃ n v S', mx mcd mL n d k pc L st S = some (v, S') ∧ Q v S'
theorem mx_i {n d k pc : Nat} {L : ML} {st : List MV} {S : MS} {mi : MI} (h : mcd k pc = some (.inl mi)) : mx mcd mL (n + 1) d k pc L st S = match mi L st S with
    | none => none
    | some (pc', L', st', S') => mx mcd mL n d k pc' L' st' S' := by
  rw [mx, h]
  rfl
theorem mx_c {n d k pc : Nat} {L : ML} {st : List MV} {S : MS} {sta : Bool} {na : Nat} {tg : List (Nat × Nat)} {nx : Nat} (h : mcd k pc = some (.inr (.inl (sta, na, tg, nx)))) : mx mcd mL (n + 1) (d + 1) k pc L st S = match mcallee sta na tg st S with
    | none => none
    | some (k', as, rest) => match mx mcd mL n d k' 0 (mentry (mL k') as) [] S with
      | none => none
      | some (v, S') => mx mcd mL n (d + 1) k nx L (v.toList ++ rest) S' := by
  rw [mx, h]
  rfl
theorem mx_r {n d k pc : Nat} {L : ML} {st : List MV} {S : MS} {rk : Nat} (h : mcd k pc = some (.inr (.inr rk))) : mx mcd mL (n + 1) d k pc L st S = mret rk st S := by
  rw [mx, h]
theorem mx_mono : ∀ (n d k pc : Nat) (L : ML) (st : List MV) (S : MS) (r : Option MV × MS), mx mcd mL n d k pc L st S = some r → mx mcd mL (n + 1) d k pc L st S = some r := by
  intro n
  induction n with
  | zero => intro d k pc L st S r h; cases h
  | succ n ih =>
    intro d k pc L st S r h
    unfold mx at h
    split at h
    · cases h
    · rename_i mi hcd
      rw [mx_i hcd]
      split at h
      · cases h
      · rename_i pc' L' st' S' hmi
        rw [hmi]
        exact ih _ _ _ _ _ _ _ h
    · rename_i sta na tg nx hcd
      split at h
      · cases h
      · split at h
        · cases h
        · rename_i k' as rest hce
          split at h
          · cases h
          · rename_i v S' hrun
            rw [mx_c hcd, hce]
            simp only [ih _ _ _ _ _ _ _ hrun]
            exact ih _ _ _ _ _ _ _ h
    · rename_i rk hcd
      rw [mx_r hcd]
      exact h
theorem mx_le {n n' d k pc : Nat} {L : ML} {st : List MV} {S : MS} {r : Option MV × MS} (h : mx mcd mL n d k pc L st S = some r) (hl : n ≤ n') : mx mcd mL n' d k pc L st S = some r := by
  induction hl with
  | refl => exact h
  | step _ ih => exact mx_mono _ _ _ _ _ _ _ _ ih
section XROWS
variable {d k pc : Nat} {L : ML} {st : List MV} {S : MS} {Q : Option MV → MS → Prop}
theorem XQ.go {mi : MI} {pc' : Nat} {L' : ML} {st' : List MV} {S' : MS} (h : mcd k pc = some (.inl mi)) (h2 : mi L st S = some (pc', L', st', S')) (kk : XQ d k pc' L' st' S' Q) : XQ d k pc L st S Q := by
  obtain ⟨n, v, S2, hn, hq⟩ := kk
  refine ⟨n + 1, v, S2, ?_, hq⟩
  unfold mx
  simp only [h, h2]
  exact hn
theorem XQ.ret {rk : Nat} {v : Option MV} (h : mcd k pc = some (.inr (.inr rk))) (h2 : mret rk st S = some (v, S)) (hq : Q v S) : XQ d k pc L st S Q := by
  refine ⟨1, v, S, ?_, hq⟩
  unfold mx
  simp only [h]
  exact h2
theorem XQ.call {sta : Bool} {na : Nat} {tg : List (Nat × Nat)} {nx k' : Nat} {as rest : List MV} {Q' : Option MV → MS → Prop} (h : mcd k pc = some (.inr (.inl (sta, na, tg, nx)))) (h2 : mcallee sta na tg st S = some (k', as, rest)) (h3 : XQ d k' 0 (mentry (mL k') as) [] S Q') (kk : ∀ v S', Q' v S' → XQ (d + 1) k nx L (v.toList ++ rest) S' Q) : XQ (d + 1) k pc L st S Q := by
  obtain ⟨n1, v, S', h1, hq⟩ := h3
  obtain ⟨n2, v2, S2, h4, hq2⟩ := kk v S' hq
  refine ⟨n1 + n2 + 1, v2, S2, ?_, hq2⟩
  unfold mx
  simp only [h, h2, mx_le h1 (Nat.le_add_right n1 n2)]
  exact mx_le h4 (Nat.le_add_left n2 n1)
theorem XQ.mono {Q' : Option MV → MS → Prop} (h : XQ d k pc L st S Q) (hq : ∀ v S', Q v S' → Q' v S') : XQ d k pc L st S Q' := by
  obtain ⟨n, v, S', h1, h2⟩ := h
  exact ⟨n, v, S', h1, hq v S' h2⟩
/-- deeper room does no harm -/
theorem mx_deep : ∀ (n d k pc : Nat) (L : ML) (st : List MV) (S : MS) (r : Option MV × MS), mx mcd mL n d k pc L st S = some r → mx mcd mL n (d + 1) k pc L st S = some r := by
  intro n
  induction n with
  | zero => intro d k pc L st S r h; cases h
  | succ n ih =>
    intro d k pc L st S r h
    unfold mx at h
    split at h
    · cases h
    · rename_i mi hcd
      rw [mx_i hcd]
      split at h
      · cases h
      · rename_i pc' L' st' S' hmi
        rw [hmi]
        exact ih _ _ _ _ _ _ _ h
    · rename_i sta na tg nx hcd
      split at h
      · cases h
      · split at h
        · cases h
        · rename_i k' as rest hce
          split at h
          · cases h
          · rename_i v S' hrun
            rw [mx_c hcd, hce]
            simp only [ih _ _ _ _ _ _ _ hrun]
            exact ih _ _ _ _ _ _ _ h
    · rename_i rk hcd
      rw [mx_r hcd]
      exact h
theorem XQ.deep (h : XQ d k pc L st S Q) : XQ (d + 1) k pc L st S Q := by
  obtain ⟨n, v, S', hn, hq⟩ := h
  exact ⟨n, v, S', mx_deep _ _ _ _ _ _ _ _ hn, hq⟩
theorem XQ.deepn {d' : Nat} (h : XQ d k pc L st S Q) (hd : d ≤ d') : XQ d' k pc L st S Q := by
  induction hd with
  | refl => exact h
  | step _ ih => exact ih.deep
-- branches
theorem XQ.zeq {a : Int} {tg nx : Nat} (h : mcd k pc = some (.inl (i_z 0 tg nx))) (kt : a = 0 → XQ d k tg L st S Q) (kf : ¬ a = 0 → XQ d k nx L st S Q) : XQ d k pc L (.inl a :: st) S Q := by
  by_cases q : a = 0
  · exact XQ.go h (show i_z 0 tg nx L (.inl a :: st) S = some (tg, L, st, S) by simp [i_z, cmpB, q]) (kt q)
  · exact XQ.go h (show i_z 0 tg nx L (.inl a :: st) S = some (nx, L, st, S) by simp [i_z, cmpB, q]) (kf q)
theorem XQ.zne {a : Int} {tg nx : Nat} (h : mcd k pc = some (.inl (i_z 1 tg nx))) (kt : ¬ a = 0 → XQ d k tg L st S Q) (kf : a = 0 → XQ d k nx L st S Q) : XQ d k pc L (.inl a :: st) S Q := by
  by_cases q : a = 0
  · exact XQ.go h (show i_z 1 tg nx L (.inl a :: st) S = some (nx, L, st, S) by simp [i_z, cmpB, q]) (kf q)
  · exact XQ.go h (show i_z 1 tg nx L (.inl a :: st) S = some (tg, L, st, S) by simp [i_z, cmpB, q]) (kt q)
theorem XQ.zlt {a : Int} {tg nx : Nat} (h : mcd k pc = some (.inl (i_z 2 tg nx))) (kt : a < 0 → XQ d k tg L st S Q) (kf : 0 ≤ a → XQ d k nx L st S Q) : XQ d k pc L (.inl a :: st) S Q := by
  by_cases q : a < 0
  · exact XQ.go h (show i_z 2 tg nx L (.inl a :: st) S = some (tg, L, st, S) by simp [i_z, cmpB, q]) (kt q)
  · exact XQ.go h (show i_z 2 tg nx L (.inl a :: st) S = some (nx, L, st, S) by simp [i_z, cmpB, q]) (kf (by omega))
theorem XQ.zge {a : Int} {tg nx : Nat} (h : mcd k pc = some (.inl (i_z 3 tg nx))) (kt : 0 ≤ a → XQ d k tg L st S Q) (kf : a < 0 → XQ d k nx L st S Q) : XQ d k pc L (.inl a :: st) S Q := by
  by_cases q : 0 ≤ a
  · exact XQ.go h (show i_z 3 tg nx L (.inl a :: st) S = some (tg, L, st, S) by simp [i_z, cmpB, q]) (kt q)
  · exact XQ.go h (show i_z 3 tg nx L (.inl a :: st) S = some (nx, L, st, S) by simp [i_z, cmpB, q]) (kf (by omega))
theorem XQ.zgt {a : Int} {tg nx : Nat} (h : mcd k pc = some (.inl (i_z 4 tg nx))) (kt : 0 < a → XQ d k tg L st S Q) (kf : a ≤ 0 → XQ d k nx L st S Q) : XQ d k pc L (.inl a :: st) S Q := by
  by_cases q : 0 < a
  · exact XQ.go h (show i_z 4 tg nx L (.inl a :: st) S = some (tg, L, st, S) by simp [i_z, cmpB, q]) (kt q)
  · exact XQ.go h (show i_z 4 tg nx L (.inl a :: st) S = some (nx, L, st, S) by simp [i_z, cmpB, q]) (kf (by omega))
theorem XQ.zle {a : Int} {tg nx : Nat} (h : mcd k pc = some (.inl (i_z 5 tg nx))) (kt : a ≤ 0 → XQ d k tg L st S Q) (kf : 0 < a → XQ d k nx L st S Q) : XQ d k pc L (.inl a :: st) S Q := by
  by_cases q : a ≤ 0
  · exact XQ.go h (show i_z 5 tg nx L (.inl a :: st) S = some (tg, L, st, S) by simp [i_z, cmpB, q]) (kt q)
  · exact XQ.go h (show i_z 5 tg nx L (.inl a :: st) S = some (nx, L, st, S) by simp [i_z, cmpB, q]) (kf (by omega))
theorem XQ.ceq {a b : Int} {tg nx : Nat} (h : mcd k pc = some (.inl (i_cmp 0 tg nx))) (kt : a = b → XQ d k tg L st S Q) (kf : ¬ a = b → XQ d k nx L st S Q) : XQ d k pc L (.inl b :: .inl a :: st) S Q := by
  by_cases q : a = b
  · exact XQ.go h (show i_cmp 0 tg nx L (.inl b :: .inl a :: st) S = some (tg, L, st, S) by simp [i_cmp, cmpB, q]) (kt q)
  · exact XQ.go h (show i_cmp 0 tg nx L (.inl b :: .inl a :: st) S = some (nx, L, st, S) by simp [i_cmp, cmpB, q]) (kf q)
theorem XQ.cne {a b : Int} {tg nx : Nat} (h : mcd k pc = some (.inl (i_cmp 1 tg nx))) (kt : ¬ a = b → XQ d k tg L st S Q) (kf : a = b → XQ d k nx L st S Q) : XQ d k pc L (.inl b :: .inl a :: st) S Q := by
  by_cases q : a = b
  · exact XQ.go h (show i_cmp 1 tg nx L (.inl b :: .inl a :: st) S = some (nx, L, st, S) by simp [i_cmp, cmpB, q]) (kf q)
  · exact XQ.go h (show i_cmp 1 tg nx L (.inl b :: .inl a :: st) S = some (tg, L, st, S) by simp [i_cmp, cmpB, q]) (kt q)
theorem XQ.clt {a b : Int} {tg nx : Nat} (h : mcd k pc = some (.inl (i_cmp 2 tg nx))) (kt : a < b → XQ d k tg L st S Q) (kf : b ≤ a → XQ d k nx L st S Q) : XQ d k pc L (.inl b :: .inl a :: st) S Q := by
  by_cases q : a < b
  · exact XQ.go h (show i_cmp 2 tg nx L (.inl b :: .inl a :: st) S = some (tg, L, st, S) by simp [i_cmp, cmpB, q]) (kt q)
  · exact XQ.go h (show i_cmp 2 tg nx L (.inl b :: .inl a :: st) S = some (nx, L, st, S) by simp [i_cmp, cmpB, q]) (kf (by omega))
theorem XQ.cge {a b : Int} {tg nx : Nat} (h : mcd k pc = some (.inl (i_cmp 3 tg nx))) (kt : b ≤ a → XQ d k tg L st S Q) (kf : a < b → XQ d k nx L st S Q) : XQ d k pc L (.inl b :: .inl a :: st) S Q := by
  by_cases q : b ≤ a
  · exact XQ.go h (show i_cmp 3 tg nx L (.inl b :: .inl a :: st) S = some (tg, L, st, S) by simp [i_cmp, cmpB, q]) (kt q)
  · exact XQ.go h (show i_cmp 3 tg nx L (.inl b :: .inl a :: st) S = some (nx, L, st, S) by simp [i_cmp, cmpB, q]) (kf (by omega))
theorem XQ.cgt {a b : Int} {tg nx : Nat} (h : mcd k pc = some (.inl (i_cmp 4 tg nx))) (kt : b < a → XQ d k tg L st S Q) (kf : a ≤ b → XQ d k nx L st S Q) : XQ d k pc L (.inl b :: .inl a :: st) S Q := by
  by_cases q : b < a
  · exact XQ.go h (show i_cmp 4 tg nx L (.inl b :: .inl a :: st) S = some (tg, L, st, S) by simp [i_cmp, cmpB, q]) (kt q)
  · exact XQ.go h (show i_cmp 4 tg nx L (.inl b :: .inl a :: st) S = some (nx, L, st, S) by simp [i_cmp, cmpB, q]) (kf (by omega))
theorem XQ.cle {a b : Int} {tg nx : Nat} (h : mcd k pc = some (.inl (i_cmp 5 tg nx))) (kt : a ≤ b → XQ d k tg L st S Q) (kf : b < a → XQ d k nx L st S Q) : XQ d k pc L (.inl b :: .inl a :: st) S Q := by
  by_cases q : a ≤ b
  · exact XQ.go h (show i_cmp 5 tg nx L (.inl b :: .inl a :: st) S = some (tg, L, st, S) by simp [i_cmp, cmpB, q]) (kt q)
  · exact XQ.go h (show i_cmp 5 tg nx L (.inl b :: .inl a :: st) S = some (nx, L, st, S) by simp [i_cmp, cmpB, q]) (kf (by omega))
theorem XQ.aeq {a b : Option Nat} {tg nx : Nat} (h : mcd k pc = some (.inl (i_aeq tg nx))) (kt : a = b → XQ d k tg L st S Q) (kf : ¬ a = b → XQ d k nx L st S Q) : XQ d k pc L (.inr b :: .inr a :: st) S Q := by
  by_cases q : a = b
  · exact XQ.go h (show i_aeq tg nx L (.inr b :: .inr a :: st) S = some (tg, L, st, S) by simp [i_aeq, q]) (kt q)
  · exact XQ.go h (show i_aeq tg nx L (.inr b :: .inr a :: st) S = some (nx, L, st, S) by simp [i_aeq, q]) (kf q)
-- heap
theorem XQ.get {a : Nat} {ts : List Nat} {kk : Int} {nx : Nat} {v : MV} (h : mcd k pc = some (.inl (i_get ts kk nx))) (ht : ts.contains (tS S a) = true) (hv : vS S a kk = v) (hk : XQ d k nx L (v :: st) S Q) : XQ d k pc L (.inr (some a) :: st) S Q :=
  XQ.go h (show i_get ts kk nx L (.inr (some a) :: st) S = some (nx, L, v :: st, S) by simp only [i_get, ht, hv, if_true]) hk
theorem XQ.put {a : Nat} {ts : List Nat} {kk : Int} {ty nx : Nat} {v : MV} (h : mcd k pc = some (.inl (i_put ts kk ty nx))) (ht : ts.contains (tS S a) = true) (hv : fitM ty v = true) (hk : XQ d k nx L st (mset S a kk v) Q) : XQ d k pc L (v :: .inr (some a) :: st) S Q :=
  XQ.go h (show i_put ts kk ty nx L (v :: .inr (some a) :: st) S = some (nx, L, st, mset S a kk v) by simp only [i_put, ht, hv, Bool.and_self, if_true]) hk
theorem XQ.ld {a : Nat} {i : Int} {ts : List Nat} {nx : Nat} {v : MV} (h : mcd k pc = some (.inl (i_ld ts nx))) (ht : ts.contains (tS S a) = true) (h0 : 0 ≤ i) (hl : i < lS S a) (hv : vS S a i = v) (hk : XQ d k nx L (v :: st) S Q) : XQ d k pc L (.inl i :: .inr (some a) :: st) S Q :=
  XQ.go h (show i_ld ts nx L (.inl i :: .inr (some a) :: st) S = some (nx, L, v :: st, S) by simp only [i_ld, ht, hv]; rw [if_pos ⟨trivial, h0, hl⟩]) hk
theorem XQ.ist {a : Nat} {i x : Int} {nx : Nat} (h : mcd k pc = some (.inl (i_ist nx))) (ht : tS S a = 20) (h0 : 0 ≤ i) (hl : i < lS S a) (hk : XQ d k nx L st (mset S a i (.inl x)) Q) : XQ d k pc L (.inl x :: .inl i :: .inr (some a) :: st) S Q :=
  XQ.go h (show i_ist nx L (.inl x :: .inl i :: .inr (some a) :: st) S = some (nx, L, st, mset S a i (.inl x)) by simp only [i_ist]; rw [if_pos ⟨ht, h0, hl⟩]) hk
theorem XQ.zst {a : Nat} {i x : Int} {nx : Nat} (h : mcd k pc = some (.inl (i_zst nx))) (ht : tS S a = 21) (hx : x = 0 ∨ x = 1) (h0 : 0 ≤ i) (hl : i < lS S a) (hk : XQ d k nx L st (mset S a i (.inl x)) Q) : XQ d k pc L (.inl x :: .inl i :: .inr (some a) :: st) S Q :=
  XQ.go h (show i_zst nx L (.inl x :: .inl i :: .inr (some a) :: st) S = some (nx, L, st, mset S a i (.inl x)) by simp only [i_zst]; rw [if_pos ⟨ht, hx, h0, hl⟩]) hk
theorem XQ.ast {a : Nat} {i : Int} {x : Option Nat} {as : List (Nat × List Nat)} {nx : Nat} (h : mcd k pc = some (.inl (i_ast as nx))) (hok : astOK as S a x = true) (h0 : 0 ≤ i) (hl : i < lS S a) (hk : XQ d k nx L st (mset S a i (.inr x)) Q) : XQ d k pc L (.inr x :: .inl i :: .inr (some a) :: st) S Q :=
  XQ.go h (show i_ast as nx L (.inr x :: .inl i :: .inr (some a) :: st) S = some (nx, L, st, mset S a i (.inr x)) by simp only [i_ast]; rw [if_pos ⟨hok, h0, hl⟩]) hk
theorem XQ.len {a : Nat} {nx : Nat} {n : Int} (h : mcd k pc = some (.inl (i_len nx))) (ht : 20 ≤ tS S a) (hn : lS S a = n) (hk : XQ d k nx L (.inl n :: st) S Q) : XQ d k pc L (.inr (some a) :: st) S Q :=
  XQ.go h (show i_len nx L (.inr (some a) :: st) S = some (nx, L, .inl n :: st, S) by simp only [i_len, hn]; rw [if_pos ht]) hk
theorem XQ.newa {n : Int} {t : Nat} {v : MV} {nx : Nat} (h : mcd k pc = some (.inl (i_newa t v nx))) (h0 : 0 ≤ n) (h1 : n ≤ 100000) (hk : XQ d k nx L (.inr (some (zS S)) :: st) (mnew S t n (fun _ => v)) Q) : XQ d k pc L (.inl n :: st) S Q :=
  XQ.go h (show i_newa t v nx L (.inl n :: st) S = some (nx, L, .inr (some (zS S)) :: st, mnew S t n (fun _ => v)) by simp only [i_newa]; rw [if_pos ⟨h0, h1⟩]) hk
theorem XQ.insY {a : Nat} {ys ns : List Nat} {nx : Nat} (h : mcd k pc = some (.inl (i_ins ys ns nx))) (ht : ys.contains (tS S a) = true) (hk : XQ d k nx L (.inl 1 :: st) S Q) : XQ d k pc L (.inr (some a) :: st) S Q :=
  XQ.go h (show i_ins ys ns nx L (.inr (some a) :: st) S = some (nx, L, .inl 1 :: st, S) by simp only [i_ins, ht, if_true]) hk
theorem XQ.insN {a : Nat} {ys ns : List Nat} {nx : Nat} (h : mcd k pc = some (.inl (i_ins ys ns nx))) (ht : ys.contains (tS S a) = false) (ht2 : ns.contains (tS S a) = true) (hk : XQ d k nx L (.inl 0 :: st) S Q) : XQ d k pc L (.inr (some a) :: st) S Q :=
  XQ.go h (show i_ins ys ns nx L (.inr (some a) :: st) S = some (nx, L, .inl 0 :: st, S) by simp only [i_ins, ht, ht2, if_true]; rfl) hk
theorem XQ.cst {a : Nat} {ys : List Nat} {nx : Nat} (h : mcd k pc = some (.inl (i_cst ys nx))) (ht : ys.contains (tS S a) = true) (hk : XQ d k nx L (.inr (some a) :: st) S Q) : XQ d k pc L (.inr (some a) :: st) S Q :=
  XQ.go h (show i_cst ys nx L (.inr (some a) :: st) S = some (nx, L, .inr (some a) :: st, S) by simp only [i_cst, ht, if_true]) hk
theorem XQ.bin {a b c : Int} {f : Int → Int → Int} {nx : Nat} (h : mcd k pc = some (.inl (i_bin f nx))) (hc : f a b = c) (hr : inR c) (hk : XQ d k nx L (.inl c :: st) S Q) : XQ d k pc L (.inl b :: .inl a :: st) S Q :=
  XQ.go h (show i_bin f nx L (.inl b :: .inl a :: st) S = some (nx, L, .inl c :: st, S) by simp only [i_bin, hc]; rw [if_pos hr]) hk
theorem XQ.inc {j : Nat} {n a c : Int} {nx : Nat} (h : mcd k pc = some (.inl (i_ii j n nx))) (hj : L[j]? = some (some (.inl a))) (hc : a + n = c) (hr : inR c) (hk : XQ d k nx (L.set j (some (.inl c))) st S Q) : XQ d k pc L st S Q :=
  XQ.go h (show i_ii j n nx L st S = some (nx, L.set j (some (.inl c)), st, S) by simp only [i_ii, hj, hc]; rw [if_pos hr]) hk
end XROWS
