/-! each instruction is sound -/
section MINS
variable {G : MG} {k pc : Nat}
theorem ofInt_toInt {a : Int} (h : inR a) : (Int32.ofInt a).toInt = a := Int32.toInt_ofInt_of_le (by have := h.1; omega) (by have := h.2; omega)
theorem ofInt_lt {a b : Int} (ha : inR a) (hb : inR b) : Int32.ofInt a < Int32.ofInt b ↔ a < b := by
  rw [Int32.lt_iff_toInt_lt, ofInt_toInt ha, ofInt_toInt hb]
theorem ofInt_le {a b : Int} (ha : inR a) (hb : inR b) : Int32.ofInt a ≤ Int32.ofInt b ↔ a ≤ b := by
  rw [Int32.le_iff_toInt_le, ofInt_toInt ha, ofInt_toInt hb]
theorem ofInt_eq {a b : Int} (ha : inR a) (hb : inR b) : Int32.ofInt a = Int32.ofInt b ↔ a = b := by
  constructor
  · intro h
    rw [← ofInt_toInt ha, ← ofInt_toInt hb, h]
  · intro h; rw [h]
theorem ofInt_clamp {a : Int} (ha : inR a) : (Int32.ofInt a).toNatClampNeg = a.toNat := by
  show (Int32.ofInt a).toInt.toNat = a.toNat
  rw [ofInt_toInt ha]
theorem inR0 : inR 0 := by decide
theorem ofInt_0 : Int32.ofInt 0 = 0 := by decide
theorem s_iconst {e : Int} (hd : decode (mB k) pc = .ok (.iconst e, 1)) (he : inR e) : SI G k pc (i_c e (pc + 1)) := by
  refine SI.pure fun L st S pc' L' st' S' h => ?_
  simp only [i_c, Option.some.injEq, Prod.mk.injEq] at h
  obtain ⟨rfl, rfl, rfl, rfl⟩ := h
  exact ⟨rfl, fun p l e R s m args below meth c H ls locs cells slots Q C _ _ _ hL hs kk => lv_iconst C.1 C.2.1 hd rfl (kk ls hL (okS.c he hs))⟩
theorem s_bipush {e : Int} (hd : decode (mB k) pc = .ok (.bipush e, 2)) (hv : (Int8.ofInt e).toInt32 = Int32.ofInt e) (he : inR e) : SI G k pc (i_c e (pc + 2)) := by
  refine SI.pure fun L st S pc' L' st' S' h => ?_
  simp only [i_c, Option.some.injEq, Prod.mk.injEq] at h
  obtain ⟨rfl, rfl, rfl, rfl⟩ := h
  exact ⟨rfl, fun p l e R s m args below meth c H ls locs cells slots Q C _ _ _ hL hs kk => lv_bipush C.1 C.2.1 hd hv (kk ls hL (okS.c he hs))⟩
theorem s_sipush {e : Int} (hd : decode (mB k) pc = .ok (.sipush e, 3)) (hv : (Int16.ofInt e).toInt32 = Int32.ofInt e) (he : inR e) : SI G k pc (i_c e (pc + 3)) := by
  refine SI.pure fun L st S pc' L' st' S' h => ?_
  simp only [i_c, Option.some.injEq, Prod.mk.injEq] at h
  obtain ⟨rfl, rfl, rfl, rfl⟩ := h
  exact ⟨rfl, fun p l e R s m args below meth c H ls locs cells slots Q C _ _ _ hL hs kk => lv_sipush C.1 C.2.1 hd hv (kk ls hL (okS.c he hs))⟩
theorem s_ldc {e : Int} {idx : Nat} (hd : decode (mB k) pc = .ok (.ldc idx, 2)) (hw : Cond.constant (mO k) idx (Int32.ofInt e) ∈ mWS) (he : inR e) : SI G k pc (i_c e (pc + 2)) := by
  refine SI.pure fun L st S pc' L' st' S' h => ?_
  simp only [i_c, Option.some.injEq, Prod.mk.injEq] at h
  obtain ⟨rfl, rfl, rfl, rfl⟩ := h
  exact ⟨rfl, fun p l e R s m args below meth c H ls locs cells slots Q C _ _ _ hL hs kk => lv_ldc C.1 C.2.1 C.2.2.2.1 (C.2.2.2.2.2.w hw) hd (kk ls hL (okS.c he hs))⟩
theorem s_null (hd : decode (mB k) pc = .ok (.aconst_null, 1)) : SI G k pc (i_n (pc + 1)) := by
  refine SI.pure fun L st S pc' L' st' S' h => ?_
  simp only [i_n, Option.some.injEq, Prod.mk.injEq] at h
  obtain ⟨rfl, rfl, rfl, rfl⟩ := h
  exact ⟨rfl, fun p l e R s m args below meth c H ls locs cells slots Q C _ _ _ hL hs kk => lv_null C.1 C.2.1 hd (kk ls hL (okS.c (show okV (.inr none) from trivial) hs))⟩
theorem il_inv {L L' : ML} {st st' : List MV} {S S' : MS} {j nx pc' : Nat} (h : i_il j nx L st S = some (pc', L', st', S')) : ∃ e, L[j]? = some (some (.inl e)) ∧ pc' = nx ∧ L' = L ∧ st' = .inl e :: st ∧ S' = S := by
  unfold i_il at h
  split at h
  · rename_i e he
    simp only [Option.some.injEq, Prod.mk.injEq] at h
    exact ⟨e, he, h.1.symm, h.2.1.symm, h.2.2.1.symm, h.2.2.2.symm⟩
  · cases h
theorem al_inv {L L' : ML} {st st' : List MV} {S S' : MS} {j nx pc' : Nat} (h : i_al j nx L st S = some (pc', L', st', S')) : ∃ r, L[j]? = some (some (.inr r)) ∧ pc' = nx ∧ L' = L ∧ st' = .inr r :: st ∧ S' = S := by
  unfold i_al at h
  split at h
  · rename_i e he
    simp only [Option.some.injEq, Prod.mk.injEq] at h
    exact ⟨e, he, h.1.symm, h.2.1.symm, h.2.2.1.symm, h.2.2.2.symm⟩
  · cases h
theorem s_iload {j : Nat} (hd : decode (mB k) pc = .ok (.iload j, 2)) : SI G k pc (i_il j (pc + 2)) := by
  refine SI.pure fun L st S pc' L' st' S' h => ?_
  obtain ⟨x, hx, rfl, rfl, rfl, rfl⟩ := il_inv h
  exact ⟨rfl, fun p l e R s m args below meth c H ls locs cells slots Q C _ _ _ hL hs kk => lv_iload C.1 C.2.1 hd (hL.get hx).1 (kk ls hL (okS.c (hL.get hx).2 hs))⟩
theorem s_iload_n {j : Fin 4} (hd : decode (mB k) pc = .ok (.iload_n j, 1)) : SI G k pc (i_il j (pc + 1)) := by
  refine SI.pure fun L st S pc' L' st' S' h => ?_
  obtain ⟨x, hx, rfl, rfl, rfl, rfl⟩ := il_inv h
  exact ⟨rfl, fun p l e R s m args below meth c H ls locs cells slots Q C _ _ _ hL hs kk => lv_iload_n C.1 C.2.1 hd rfl (hL.get hx).1 (kk ls hL (okS.c (hL.get hx).2 hs))⟩
theorem s_aload {j : Nat} (hd : decode (mB k) pc = .ok (.aload j, 2)) : SI G k pc (i_al j (pc + 2)) := by
  refine SI.pure fun L st S pc' L' st' S' h => ?_
  obtain ⟨x, hx, rfl, rfl, rfl, rfl⟩ := al_inv h
  refine ⟨rfl, fun p l e R s m args below meth c H ls locs cells slots Q C _ _ _ hL hs kk => ?_⟩
  cases x with
  | none => exact lv_aloadN C.1 C.2.1 hd (hL.get hx).1 (kk ls hL (okS.c (hL.get hx).2 hs))
  | some a => exact lv_aload C.1 C.2.1 hd (hL.get hx).1 (kk ls hL (okS.c (hL.get hx).2 hs))
theorem s_aload_n {j : Fin 4} (hd : decode (mB k) pc = .ok (.aload_n j, 1)) : SI G k pc (i_al j (pc + 1)) := by
  refine SI.pure fun L st S pc' L' st' S' h => ?_
  obtain ⟨x, hx, rfl, rfl, rfl, rfl⟩ := al_inv h
  refine ⟨rfl, fun p l e R s m args below meth c H ls locs cells slots Q C _ _ _ hL hs kk => ?_⟩
  cases x with
  | none => exact lv_aload_nN C.1 C.2.1 hd rfl (hL.get hx).1 (kk ls hL (okS.c (hL.get hx).2 hs))
  | some a => exact lv_aload_n C.1 C.2.1 hd rfl (hL.get hx).1 (kk ls hL (okS.c (hL.get hx).2 hs))
theorem is_inv {L L' : ML} {st st' : List MV} {S S' : MS} {j nx pc' : Nat} (h : i_is j nx L st S = some (pc', L', st', S')) : ∃ e, st = .inl e :: st' ∧ pc' = nx ∧ L' = L.set j (some (.inl e)) ∧ S' = S := by
  unfold i_is at h
  split at h
  · rename_i e t
    simp only [Option.some.injEq, Prod.mk.injEq] at h
    exact ⟨e, by rw [h.2.2.1], h.1.symm, h.2.1.symm, h.2.2.2.symm⟩
  · cases h
theorem as_inv {L L' : ML} {st st' : List MV} {S S' : MS} {j nx pc' : Nat} (h : i_as j nx L st S = some (pc', L', st', S')) : ∃ r, st = .inr r :: st' ∧ pc' = nx ∧ L' = L.set j (some (.inr r)) ∧ S' = S := by
  unfold i_as at h
  split at h
  · rename_i e t
    simp only [Option.some.injEq, Prod.mk.injEq] at h
    exact ⟨e, by rw [h.2.2.1], h.1.symm, h.2.1.symm, h.2.2.2.symm⟩
  · cases h
theorem s_istore {j : Nat} (hd : decode (mB k) pc = .ok (.istore j, 2)) (hj : j < mL k) : SI G k pc (i_is j (pc + 2)) := by
  refine SI.pure fun L st S pc' L' st' S' h => ?_
  obtain ⟨x, rfl, rfl, rfl, rfl⟩ := is_inv h
  exact ⟨rfl, fun p l e R s m args below meth c H ls locs cells slots Q C _ _ _ hL hs kk => lv_istore C.1 C.2.1 hd hL.1 hj rfl fun ls' h' => kk ls' (LR.set hL.2.1 hL.2.2 hs.h h') hs.t⟩
theorem s_istore_n {j : Fin 4} (hd : decode (mB k) pc = .ok (.istore_n j, 1)) (hj : (j : Nat) < mL k) : SI G k pc (i_is j (pc + 1)) := by
  refine SI.pure fun L st S pc' L' st' S' h => ?_
  obtain ⟨x, rfl, rfl, rfl, rfl⟩ := is_inv h
  exact ⟨rfl, fun p l e R s m args below meth c H ls locs cells slots Q C _ _ _ hL hs kk => lv_istore_n C.1 C.2.1 hd rfl hL.1 hj rfl fun ls' h' => kk ls' (LR.set hL.2.1 hL.2.2 hs.h h') hs.t⟩
theorem s_astore {j : Nat} (hd : decode (mB k) pc = .ok (.astore j, 2)) (hj : j < mL k) : SI G k pc (i_as j (pc + 2)) := by
  refine SI.pure fun L st S pc' L' st' S' h => ?_
  obtain ⟨x, rfl, rfl, rfl, rfl⟩ := as_inv h
  refine ⟨rfl, fun p l e R s m args below meth c H ls locs cells slots Q C _ _ _ hL hs kk => ?_⟩
  cases x with
  | none => exact lv_astoreN C.1 C.2.1 hd hL.1 hj rfl fun ls' h' => kk ls' (LR.set hL.2.1 hL.2.2 hs.h h') hs.t
  | some a => exact lv_astore C.1 C.2.1 hd hL.1 hj rfl fun ls' h' => kk ls' (LR.set hL.2.1 hL.2.2 hs.h h') hs.t
theorem s_astore_n {j : Fin 4} (hd : decode (mB k) pc = .ok (.astore_n j, 1)) (hj : (j : Nat) < mL k) : SI G k pc (i_as j (pc + 1)) := by
  refine SI.pure fun L st S pc' L' st' S' h => ?_
  obtain ⟨x, rfl, rfl, rfl, rfl⟩ := as_inv h
  refine ⟨rfl, fun p l e R s m args below meth c H ls locs cells slots Q C _ _ _ hL hs kk => ?_⟩
  cases x with
  | none => exact lv_astore_nN C.1 C.2.1 hd rfl hL.1 hj rfl fun ls' h' => kk ls' (LR.set hL.2.1 hL.2.2 hs.h h') hs.t
  | some a => exact lv_astore_n C.1 C.2.1 hd rfl hL.1 hj rfl fun ls' h' => kk ls' (LR.set hL.2.1 hL.2.2 hs.h h') hs.t
theorem s_iinc {j : Nat} {n : Int} (hd : decode (mB k) pc = .ok (.iinc j n, 3)) (hj : j < mL k) : SI G k pc (i_ii j n (pc + 3)) := by
  refine SI.pure fun L st S pc' L' st' S' h => ?_
  unfold i_ii at h
  split at h
  · rename_i x hx
    split at h
    · rename_i hr
      simp only [Option.some.injEq, Prod.mk.injEq] at h
      obtain ⟨rfl, rfl, rfl, rfl⟩ := h
      refine ⟨rfl, fun p l e R s m args below meth c H ls locs cells slots Q C _ _ _ hL hs kk => ?_⟩
      obtain ⟨q, hq⟩ := List.getElem?_of_mem (mem_lvl hx)
      exact lv_iinc (k := q) C.1 C.2.1 hd hL.1 hq (Int32.ofInt_add x n).symm hj rfl fun ls' h' => kk ls' (LR.set (v := .inl (x + n)) hL.2.1 hL.2.2 hr h') hs
    · cases h
  · cases h
theorem bin_inv {f : Int → Int → Int} {L L' : ML} {st st' : List MV} {S S' : MS} {nx pc' : Nat} (h : i_bin f nx L st S = some (pc', L', st', S')) : ∃ a b t, st = .inl b :: .inl a :: t ∧ inR (f a b) ∧ pc' = nx ∧ L' = L ∧ st' = .inl (f a b) :: t ∧ S' = S := by
  unfold i_bin at h
  split at h
  · rename_i b a t
    split at h
    · rename_i hr
      simp only [Option.some.injEq, Prod.mk.injEq] at h
      exact ⟨a, b, t, rfl, hr, h.1.symm, h.2.1.symm, h.2.2.1.symm, h.2.2.2.symm⟩
    · cases h
  · cases h
theorem s_iadd (hd : decode (mB k) pc = .ok (.iadd, 1)) : SI G k pc (i_bin (fun a b => a + b) (pc + 1)) := by
  refine SI.pure fun L st S pc' L' st' S' h => ?_
  obtain ⟨a, b, t, rfl, hr, rfl, rfl, rfl, rfl⟩ := bin_inv h
  refine ⟨rfl, fun p l e R s m args below meth c H ls locs cells slots Q C _ _ _ hL hs kk => lv_iadd C.1 C.2.1 hd ?_⟩
  have h1 := kk ls hL (okS.c (v := .inl (a + b)) hr hs.t.t)
  rw [← Int32.ofInt_add]
  exact h1
theorem s_isub (hd : decode (mB k) pc = .ok (.isub, 1)) : SI G k pc (i_bin (fun a b => a - b) (pc + 1)) := by
  refine SI.pure fun L st S pc' L' st' S' h => ?_
  obtain ⟨a, b, t, rfl, hr, rfl, rfl, rfl, rfl⟩ := bin_inv h
  refine ⟨rfl, fun p l e R s m args below meth c H ls locs cells slots Q C _ _ _ hL hs kk => lv_isub C.1 C.2.1 hd ?_⟩
  have h1 := kk ls hL (okS.c (v := .inl (a - b)) hr hs.t.t)
  rw [← Int32.ofInt_sub]
  exact h1
theorem s_imul (hd : decode (mB k) pc = .ok (.imul, 1)) : SI G k pc (i_bin (fun a b => a * b) (pc + 1)) := by
  refine SI.pure fun L st S pc' L' st' S' h => ?_
  obtain ⟨a, b, t, rfl, hr, rfl, rfl, rfl, rfl⟩ := bin_inv h
  refine ⟨rfl, fun p l e R s m args below meth c H ls locs cells slots Q C _ _ _ hL hs kk => lv_imul C.1 C.2.1 hd ?_⟩
  have h1 := kk ls hL (okS.c (v := .inl (a * b)) hr hs.t.t)
  rw [← Int32.ofInt_mul]
  exact h1
theorem and31 {a : Int} (ha : inR a) : Int32.ofInt a &&& 31 = Int32.ofInt (a % 32) := by
  rw [pk_and (Int32.ofInt a) (m := 31) 5 (by decide)]
  have h1 : (Int32.ofInt a).toBitVec.toNat = (a % 4294967296).toNat := by
    show (BitVec.ofInt 32 a).toNat = _
    rw [BitVec.toNat_ofInt]
    rfl
  rw [h1]
  unfold nI
  have h2 : (a % 32).toNat = (a % 4294967296).toNat % 2 ^ 5 := by omega
  have h3 : a % 32 = (((a % 4294967296).toNat % 2 ^ 5 : Nat) : Int) := by omega
  rw [h3]
  exact Int32.ofInt_eq_ofNat.symm
theorem s_iand (hd : decode (mB k) pc = .ok (.iand, 1)) : SI G k pc (i_and (pc + 1)) := by
  refine SI.pure fun L st S pc' L' st' S' h => ?_
  unfold i_and at h
  split at h
  · rename_i b a t
    split at h
    · rename_i hb
      simp only [Option.some.injEq, Prod.mk.injEq] at h
      obtain ⟨rfl, rfl, rfl, rfl⟩ := h
      subst hb
      refine ⟨rfl, fun p l e R s m args below meth c H ls locs cells slots Q C _ _ _ hL hs kk => lv_iand C.1 C.2.1 hd ?_⟩
      have h1 := kk ls hL (okS.c (v := .inl (a % 32)) (show inR _ from ⟨by omega, by omega⟩) hs.t.t)
      have ha : inR a := hs.t.h
      rw [show Int32.ofInt 31 = 31 by decide, and31 ha]
      exact h1
    · cases h
  · cases h
theorem s_dup (hd : decode (mB k) pc = .ok (.dup, 1)) : SI G k pc (i_dup (pc + 1)) := by
  refine SI.pure fun L st S pc' L' st' S' h => ?_
  unfold i_dup at h
  split at h
  · simp only [Option.some.injEq, Prod.mk.injEq] at h
    obtain ⟨rfl, rfl, rfl, rfl⟩ := h
    exact ⟨rfl, fun p l e R s m args below meth c H ls locs cells slots Q C _ _ _ hL hs kk => lv_dup C.1 C.2.1 hd (cv_cat _) (kk ls hL (okS.c hs.h hs))⟩
  · cases h
theorem s_pop (hd : decode (mB k) pc = .ok (.pop, 1)) : SI G k pc (i_pop (pc + 1)) := by
  refine SI.pure fun L st S pc' L' st' S' h => ?_
  unfold i_pop at h
  split at h
  · simp only [Option.some.injEq, Prod.mk.injEq] at h
    obtain ⟨rfl, rfl, rfl, rfl⟩ := h
    exact ⟨rfl, fun p l e R s m args below meth c H ls locs cells slots Q C _ _ _ hL hs kk => lv_pop C.1 C.2.1 hd (cv_cat _) (kk ls hL hs.t)⟩
  · cases h
theorem s_dup_x1 (hd : decode (mB k) pc = .ok (.dup_x1, 1)) : SI G k pc (i_dx1 (pc + 1)) := by
  refine SI.pure fun L st S pc' L' st' S' h => ?_
  unfold i_dx1 at h
  split at h
  · simp only [Option.some.injEq, Prod.mk.injEq] at h
    obtain ⟨rfl, rfl, rfl, rfl⟩ := h
    exact ⟨rfl, fun p l e R s m args below meth c H ls locs cells slots Q C _ _ _ hL hs kk => lv_dup_x1 C.1 C.2.1 hd (cv_cat _) (cv_cat _) (kk ls hL (okS.c hs.h (okS.c hs.t.h (okS.c hs.h hs.t.t))))⟩
  · cases h
theorem s_dup2 (hd : decode (mB k) pc = .ok (.dup2, 1)) : SI G k pc (i_dup2 (pc + 1)) := by
  refine SI.pure fun L st S pc' L' st' S' h => ?_
  unfold i_dup2 at h
  split at h
  · simp only [Option.some.injEq, Prod.mk.injEq] at h
    obtain ⟨rfl, rfl, rfl, rfl⟩ := h
    exact ⟨rfl, fun p l e R s m args below meth c H ls locs cells slots Q C _ _ _ hL hs kk => lv_dup2_11 C.1 C.2.1 hd (cv_cat _) (cv_cat _) (kk ls hL (okS.c hs.h (okS.c hs.t.h hs)))⟩
  · cases h
theorem z_inv {o tg nx : Nat} {L L' : ML} {st st' : List MV} {S S' : MS} {pc' : Nat} (h : i_z o tg nx L st S = some (pc', L', st', S')) : ∃ a, st = .inl a :: st' ∧ pc' = (if cmpB o a 0 then tg else nx) ∧ L' = L ∧ S' = S := by
  unfold i_z at h
  split at h
  · rename_i a t
    cases hc : cmpB o a 0 <;> (rw [hc] at h; simp only [cond, Option.some.injEq, Prod.mk.injEq] at h; exact ⟨a, by rw [h.2.2.1], by rw [hc, ← h.1]; rfl, h.2.1.symm, h.2.2.2.symm⟩)
  · cases h
theorem cmp_inv {o tg nx : Nat} {L L' : ML} {st st' : List MV} {S S' : MS} {pc' : Nat} (h : i_cmp o tg nx L st S = some (pc', L', st', S')) : ∃ a b, st = .inl b :: .inl a :: st' ∧ pc' = (if cmpB o a b then tg else nx) ∧ L' = L ∧ S' = S := by
  unfold i_cmp at h
  split at h
  · rename_i b a t
    cases hc : cmpB o a b <;> (rw [hc] at h; simp only [cond, Option.some.injEq, Prod.mk.injEq] at h; exact ⟨a, b, by rw [h.2.2.1], by rw [hc, ← h.1]; rfl, h.2.1.symm, h.2.2.2.symm⟩)
  · cases h
theorem s_if_eq {off : Int} {tg : Nat} (hd : decode (mB k) pc = .ok (.ifCond .eq off, 3)) (ht : (pc : Int) + off = (tg : Int)) : SI G k pc (i_z 0 tg (pc + 3)) := by
  refine SI.pure fun L st S pc' L' st' S' h => ?_
  obtain ⟨a, rfl, rfl, rfl, rfl⟩ := z_inv h
  refine ⟨rfl, fun p l e R s m args below meth c H ls locs cells slots Q C _ _ _ hL hs kk => ?_⟩
  have ha : inR a := hs.h
  have key : (Int32.ofInt a = Int32.ofInt 0) ↔ cmpB 0 a 0 = true := by
    rw [ofInt_eq ha inR0]
    simp [cmpB]
  have k1 := kk ls hL hs.t
  rw [ofInt_0] at key
  refine lv_if_eq C.1 C.2.1 hd ht (fun q => ?_) (fun q => ?_)
  · have q2 : cmpB 0 a 0 = true := key.mp (by first | exact q | exact Int32.not_lt.mp q | exact Int32.not_le.mp q | omega)
    rw [q2] at k1
    exact k1
  · have q2 : cmpB 0 a 0 = false := by
      cases hc : cmpB 0 a 0 with
      | false => rfl
      | true => exact absurd (key.mpr hc) (by first | exact q | exact fun z => q z | exact fun z => z q | exact Int32.not_le.mpr q | exact Int32.not_lt.mpr q)
    rw [q2] at k1
    exact k1
theorem s_icmp_eq {off : Int} {tg : Nat} (hd : decode (mB k) pc = .ok (.if_icmp .eq off, 3)) (ht : (pc : Int) + off = (tg : Int)) : SI G k pc (i_cmp 0 tg (pc + 3)) := by
  refine SI.pure fun L st S pc' L' st' S' h => ?_
  obtain ⟨a, b, rfl, rfl, rfl, rfl⟩ := cmp_inv h
  refine ⟨rfl, fun p l e R s m args below meth c H ls locs cells slots Q C _ _ _ hL hs kk => ?_⟩
  have ha : inR a := hs.t.h
  have hb : inR b := hs.h
  have key : (Int32.ofInt a = Int32.ofInt b) ↔ cmpB 0 a b = true := by
    rw [ofInt_eq ha hb]
    simp [cmpB]
  have k1 := kk ls hL hs.t.t
  refine lv_icmp_eq C.1 C.2.1 hd ht (fun q => ?_) (fun q => ?_)
  · have q2 : cmpB 0 a b = true := key.mp (by first | exact q | exact Int32.not_lt.mp q | exact Int32.not_le.mp q | omega)
    rw [q2] at k1
    exact k1
  · have q2 : cmpB 0 a b = false := by
      cases hc : cmpB 0 a b with
      | false => rfl
      | true => exact absurd (key.mpr hc) (by first | exact q | exact fun z => q z | exact fun z => z q | exact Int32.not_le.mpr q | exact Int32.not_lt.mpr q)
    rw [q2] at k1
    exact k1
theorem s_if_ne {off : Int} {tg : Nat} (hd : decode (mB k) pc = .ok (.ifCond .ne off, 3)) (ht : (pc : Int) + off = (tg : Int)) : SI G k pc (i_z 1 tg (pc + 3)) := by
  refine SI.pure fun L st S pc' L' st' S' h => ?_
  obtain ⟨a, rfl, rfl, rfl, rfl⟩ := z_inv h
  refine ⟨rfl, fun p l e R s m args below meth c H ls locs cells slots Q C _ _ _ hL hs kk => ?_⟩
  have ha : inR a := hs.h
  have key : (¬ Int32.ofInt a = Int32.ofInt 0) ↔ cmpB 1 a 0 = true := by
    rw [ofInt_eq ha inR0]
    simp [cmpB]
  have k1 := kk ls hL hs.t
  rw [ofInt_0] at key
  refine lv_if_ne C.1 C.2.1 hd ht (fun q => ?_) (fun q => ?_)
  · have q2 : cmpB 1 a 0 = true := key.mp (by first | exact q | exact Int32.not_lt.mp q | exact Int32.not_le.mp q | omega)
    rw [q2] at k1
    exact k1
  · have q2 : cmpB 1 a 0 = false := by
      cases hc : cmpB 1 a 0 with
      | false => rfl
      | true => exact absurd (key.mpr hc) (by first | exact q | exact fun z => q z | exact fun z => z q | exact Int32.not_le.mpr q | exact Int32.not_lt.mpr q)
    rw [q2] at k1
    exact k1
theorem s_icmp_ne {off : Int} {tg : Nat} (hd : decode (mB k) pc = .ok (.if_icmp .ne off, 3)) (ht : (pc : Int) + off = (tg : Int)) : SI G k pc (i_cmp 1 tg (pc + 3)) := by
  refine SI.pure fun L st S pc' L' st' S' h => ?_
  obtain ⟨a, b, rfl, rfl, rfl, rfl⟩ := cmp_inv h
  refine ⟨rfl, fun p l e R s m args below meth c H ls locs cells slots Q C _ _ _ hL hs kk => ?_⟩
  have ha : inR a := hs.t.h
  have hb : inR b := hs.h
  have key : (¬ Int32.ofInt a = Int32.ofInt b) ↔ cmpB 1 a b = true := by
    rw [ofInt_eq ha hb]
    simp [cmpB]
  have k1 := kk ls hL hs.t.t
  refine lv_icmp_ne C.1 C.2.1 hd ht (fun q => ?_) (fun q => ?_)
  · have q2 : cmpB 1 a b = true := key.mp (by first | exact q | exact Int32.not_lt.mp q | exact Int32.not_le.mp q | omega)
    rw [q2] at k1
    exact k1
  · have q2 : cmpB 1 a b = false := by
      cases hc : cmpB 1 a b with
      | false => rfl
      | true => exact absurd (key.mpr hc) (by first | exact q | exact fun z => q z | exact fun z => z q | exact Int32.not_le.mpr q | exact Int32.not_lt.mpr q)
    rw [q2] at k1
    exact k1
theorem s_if_lt {off : Int} {tg : Nat} (hd : decode (mB k) pc = .ok (.ifCond .lt off, 3)) (ht : (pc : Int) + off = (tg : Int)) : SI G k pc (i_z 2 tg (pc + 3)) := by
  refine SI.pure fun L st S pc' L' st' S' h => ?_
  obtain ⟨a, rfl, rfl, rfl, rfl⟩ := z_inv h
  refine ⟨rfl, fun p l e R s m args below meth c H ls locs cells slots Q C _ _ _ hL hs kk => ?_⟩
  have ha : inR a := hs.h
  have key : (Int32.ofInt a < Int32.ofInt 0) ↔ cmpB 2 a 0 = true := by
    rw [ofInt_lt ha inR0]
    simp [cmpB]
  have k1 := kk ls hL hs.t
  rw [ofInt_0] at key
  refine lv_if_lt C.1 C.2.1 hd ht (fun q => ?_) (fun q => ?_)
  · have q2 : cmpB 2 a 0 = true := key.mp (by first | exact q | exact Int32.not_lt.mp q | exact Int32.not_le.mp q | omega)
    rw [q2] at k1
    exact k1
  · have q2 : cmpB 2 a 0 = false := by
      cases hc : cmpB 2 a 0 with
      | false => rfl
      | true => exact absurd (key.mpr hc) (by first | exact q | exact fun z => q z | exact fun z => z q | exact Int32.not_le.mpr q | exact Int32.not_lt.mpr q)
    rw [q2] at k1
    exact k1
theorem s_icmp_lt {off : Int} {tg : Nat} (hd : decode (mB k) pc = .ok (.if_icmp .lt off, 3)) (ht : (pc : Int) + off = (tg : Int)) : SI G k pc (i_cmp 2 tg (pc + 3)) := by
  refine SI.pure fun L st S pc' L' st' S' h => ?_
  obtain ⟨a, b, rfl, rfl, rfl, rfl⟩ := cmp_inv h
  refine ⟨rfl, fun p l e R s m args below meth c H ls locs cells slots Q C _ _ _ hL hs kk => ?_⟩
  have ha : inR a := hs.t.h
  have hb : inR b := hs.h
  have key : (Int32.ofInt a < Int32.ofInt b) ↔ cmpB 2 a b = true := by
    rw [ofInt_lt ha hb]
    simp [cmpB]
  have k1 := kk ls hL hs.t.t
  refine lv_icmp_lt C.1 C.2.1 hd ht (fun q => ?_) (fun q => ?_)
  · have q2 : cmpB 2 a b = true := key.mp (by first | exact q | exact Int32.not_lt.mp q | exact Int32.not_le.mp q | omega)
    rw [q2] at k1
    exact k1
  · have q2 : cmpB 2 a b = false := by
      cases hc : cmpB 2 a b with
      | false => rfl
      | true => exact absurd (key.mpr hc) (by first | exact q | exact fun z => q z | exact fun z => z q | exact Int32.not_le.mpr q | exact Int32.not_lt.mpr q)
    rw [q2] at k1
    exact k1
theorem s_if_ge {off : Int} {tg : Nat} (hd : decode (mB k) pc = .ok (.ifCond .ge off, 3)) (ht : (pc : Int) + off = (tg : Int)) : SI G k pc (i_z 3 tg (pc + 3)) := by
  refine SI.pure fun L st S pc' L' st' S' h => ?_
  obtain ⟨a, rfl, rfl, rfl, rfl⟩ := z_inv h
  refine ⟨rfl, fun p l e R s m args below meth c H ls locs cells slots Q C _ _ _ hL hs kk => ?_⟩
  have ha : inR a := hs.h
  have key : (Int32.ofInt 0 ≤ Int32.ofInt a) ↔ cmpB 3 a 0 = true := by
    rw [ofInt_le inR0 ha]
    simp [cmpB]
  have k1 := kk ls hL hs.t
  rw [ofInt_0] at key
  refine lv_if_ge C.1 C.2.1 hd ht (fun q => ?_) (fun q => ?_)
  · have q2 : cmpB 3 a 0 = true := key.mp (by first | exact q | exact Int32.not_lt.mp q | exact Int32.not_le.mp q | omega)
    rw [q2] at k1
    exact k1
  · have q2 : cmpB 3 a 0 = false := by
      cases hc : cmpB 3 a 0 with
      | false => rfl
      | true => exact absurd (key.mpr hc) (by first | exact q | exact fun z => q z | exact fun z => z q | exact Int32.not_le.mpr q | exact Int32.not_lt.mpr q)
    rw [q2] at k1
    exact k1
theorem s_icmp_ge {off : Int} {tg : Nat} (hd : decode (mB k) pc = .ok (.if_icmp .ge off, 3)) (ht : (pc : Int) + off = (tg : Int)) : SI G k pc (i_cmp 3 tg (pc + 3)) := by
  refine SI.pure fun L st S pc' L' st' S' h => ?_
  obtain ⟨a, b, rfl, rfl, rfl, rfl⟩ := cmp_inv h
  refine ⟨rfl, fun p l e R s m args below meth c H ls locs cells slots Q C _ _ _ hL hs kk => ?_⟩
  have ha : inR a := hs.t.h
  have hb : inR b := hs.h
  have key : (Int32.ofInt b ≤ Int32.ofInt a) ↔ cmpB 3 a b = true := by
    rw [ofInt_le hb ha]
    simp [cmpB]
  have k1 := kk ls hL hs.t.t
  refine lv_icmp_ge C.1 C.2.1 hd ht (fun q => ?_) (fun q => ?_)
  · have q2 : cmpB 3 a b = true := key.mp (by first | exact q | exact Int32.not_lt.mp q | exact Int32.not_le.mp q | omega)
    rw [q2] at k1
    exact k1
  · have q2 : cmpB 3 a b = false := by
      cases hc : cmpB 3 a b with
      | false => rfl
      | true => exact absurd (key.mpr hc) (by first | exact q | exact fun z => q z | exact fun z => z q | exact Int32.not_le.mpr q | exact Int32.not_lt.mpr q)
    rw [q2] at k1
    exact k1
theorem s_if_gt {off : Int} {tg : Nat} (hd : decode (mB k) pc = .ok (.ifCond .gt off, 3)) (ht : (pc : Int) + off = (tg : Int)) : SI G k pc (i_z 4 tg (pc + 3)) := by
  refine SI.pure fun L st S pc' L' st' S' h => ?_
  obtain ⟨a, rfl, rfl, rfl, rfl⟩ := z_inv h
  refine ⟨rfl, fun p l e R s m args below meth c H ls locs cells slots Q C _ _ _ hL hs kk => ?_⟩
  have ha : inR a := hs.h
  have key : (Int32.ofInt 0 < Int32.ofInt a) ↔ cmpB 4 a 0 = true := by
    rw [ofInt_lt inR0 ha]
    simp [cmpB]
  have k1 := kk ls hL hs.t
  rw [ofInt_0] at key
  refine lv_if_gt C.1 C.2.1 hd ht (fun q => ?_) (fun q => ?_)
  · have q2 : cmpB 4 a 0 = true := key.mp (by first | exact q | exact Int32.not_lt.mp q | exact Int32.not_le.mp q | omega)
    rw [q2] at k1
    exact k1
  · have q2 : cmpB 4 a 0 = false := by
      cases hc : cmpB 4 a 0 with
      | false => rfl
      | true => exact absurd (key.mpr hc) (by first | exact q | exact fun z => q z | exact fun z => z q | exact Int32.not_le.mpr q | exact Int32.not_lt.mpr q)
    rw [q2] at k1
    exact k1
theorem s_icmp_gt {off : Int} {tg : Nat} (hd : decode (mB k) pc = .ok (.if_icmp .gt off, 3)) (ht : (pc : Int) + off = (tg : Int)) : SI G k pc (i_cmp 4 tg (pc + 3)) := by
  refine SI.pure fun L st S pc' L' st' S' h => ?_
  obtain ⟨a, b, rfl, rfl, rfl, rfl⟩ := cmp_inv h
  refine ⟨rfl, fun p l e R s m args below meth c H ls locs cells slots Q C _ _ _ hL hs kk => ?_⟩
  have ha : inR a := hs.t.h
  have hb : inR b := hs.h
  have key : (Int32.ofInt b < Int32.ofInt a) ↔ cmpB 4 a b = true := by
    rw [ofInt_lt hb ha]
    simp [cmpB]
  have k1 := kk ls hL hs.t.t
  refine lv_icmp_gt C.1 C.2.1 hd ht (fun q => ?_) (fun q => ?_)
  · have q2 : cmpB 4 a b = true := key.mp (by first | exact q | exact Int32.not_lt.mp q | exact Int32.not_le.mp q | omega)
    rw [q2] at k1
    exact k1
  · have q2 : cmpB 4 a b = false := by
      cases hc : cmpB 4 a b with
      | false => rfl
      | true => exact absurd (key.mpr hc) (by first | exact q | exact fun z => q z | exact fun z => z q | exact Int32.not_le.mpr q | exact Int32.not_lt.mpr q)
    rw [q2] at k1
    exact k1
theorem s_if_le {off : Int} {tg : Nat} (hd : decode (mB k) pc = .ok (.ifCond .le off, 3)) (ht : (pc : Int) + off = (tg : Int)) : SI G k pc (i_z 5 tg (pc + 3)) := by
  refine SI.pure fun L st S pc' L' st' S' h => ?_
  obtain ⟨a, rfl, rfl, rfl, rfl⟩ := z_inv h
  refine ⟨rfl, fun p l e R s m args below meth c H ls locs cells slots Q C _ _ _ hL hs kk => ?_⟩
  have ha : inR a := hs.h
  have key : (Int32.ofInt a ≤ Int32.ofInt 0) ↔ cmpB 5 a 0 = true := by
    rw [ofInt_le ha inR0]
    simp [cmpB]
  have k1 := kk ls hL hs.t
  rw [ofInt_0] at key
  refine lv_if_le C.1 C.2.1 hd ht (fun q => ?_) (fun q => ?_)
  · have q2 : cmpB 5 a 0 = true := key.mp (by first | exact q | exact Int32.not_lt.mp q | exact Int32.not_le.mp q | omega)
    rw [q2] at k1
    exact k1
  · have q2 : cmpB 5 a 0 = false := by
      cases hc : cmpB 5 a 0 with
      | false => rfl
      | true => exact absurd (key.mpr hc) (by first | exact q | exact fun z => q z | exact fun z => z q | exact Int32.not_le.mpr q | exact Int32.not_lt.mpr q)
    rw [q2] at k1
    exact k1
theorem s_icmp_le {off : Int} {tg : Nat} (hd : decode (mB k) pc = .ok (.if_icmp .le off, 3)) (ht : (pc : Int) + off = (tg : Int)) : SI G k pc (i_cmp 5 tg (pc + 3)) := by
  refine SI.pure fun L st S pc' L' st' S' h => ?_
  obtain ⟨a, b, rfl, rfl, rfl, rfl⟩ := cmp_inv h
  refine ⟨rfl, fun p l e R s m args below meth c H ls locs cells slots Q C _ _ _ hL hs kk => ?_⟩
  have ha : inR a := hs.t.h
  have hb : inR b := hs.h
  have key : (Int32.ofInt a ≤ Int32.ofInt b) ↔ cmpB 5 a b = true := by
    rw [ofInt_le ha hb]
    simp [cmpB]
  have k1 := kk ls hL hs.t.t
  refine lv_icmp_le C.1 C.2.1 hd ht (fun q => ?_) (fun q => ?_)
  · have q2 : cmpB 5 a b = true := key.mp (by first | exact q | exact Int32.not_lt.mp q | exact Int32.not_le.mp q | omega)
    rw [q2] at k1
    exact k1
  · have q2 : cmpB 5 a b = false := by
      cases hc : cmpB 5 a b with
      | false => rfl
      | true => exact absurd (key.mpr hc) (by first | exact q | exact fun z => q z | exact fun z => z q | exact Int32.not_le.mpr q | exact Int32.not_lt.mpr q)
    rw [q2] at k1
    exact k1
theorem nul_inv {tg nx : Nat} {L L' : ML} {st st' : List MV} {S S' : MS} {pc' : Nat} (h : i_nul tg nx L st S = some (pc', L', st', S')) : (st = .inr none :: st' ∧ pc' = tg ∧ L' = L ∧ S' = S) ∨ ∃ a, st = .inr (some a) :: st' ∧ pc' = nx ∧ L' = L ∧ S' = S := by
  unfold i_nul at h
  split at h
  · simp only [Option.some.injEq, Prod.mk.injEq] at h
    exact Or.inl ⟨by rw [h.2.2.1], h.1.symm, h.2.1.symm, h.2.2.2.symm⟩
  · simp only [Option.some.injEq, Prod.mk.injEq] at h
    exact Or.inr ⟨_, by rw [h.2.2.1], h.1.symm, h.2.1.symm, h.2.2.2.symm⟩
  · cases h
theorem s_ifnull {off : Int} {tg : Nat} (hd : decode (mB k) pc = .ok (.ifnull off, 3)) (ht : (pc : Int) + off = (tg : Int)) : SI G k pc (i_nul tg (pc + 3)) := by
  refine SI.pure fun L st S pc' L' st' S' h => ?_
  rcases nul_inv h with ⟨rfl, rfl, rfl, rfl⟩ | ⟨a, rfl, rfl, rfl, rfl⟩
  · exact ⟨rfl, fun p l e R s m args below meth c H ls locs cells slots Q C _ _ _ hL hs kk => lv_ifnullN C.1 C.2.1 hd ht (kk ls hL hs.t)⟩
  · exact ⟨rfl, fun p l e R s m args below meth c H ls locs cells slots Q C _ _ _ hL hs kk => lv_ifnull C.1 C.2.1 hd (kk ls hL hs.t)⟩
theorem s_ifnonnull {off : Int} {tg : Nat} (hd : decode (mB k) pc = .ok (.ifnonnull off, 3)) (ht : (pc : Int) + off = (tg : Int)) : SI G k pc (i_nul (pc + 3) tg) := by
  refine SI.pure fun L st S pc' L' st' S' h => ?_
  rcases nul_inv h with ⟨rfl, rfl, rfl, rfl⟩ | ⟨a, rfl, rfl, rfl, rfl⟩
  · exact ⟨rfl, fun p l e R s m args below meth c H ls locs cells slots Q C _ _ _ hL hs kk => lv_ifnonnullN C.1 C.2.1 hd (kk ls hL hs.t)⟩
  · exact ⟨rfl, fun p l e R s m args below meth c H ls locs cells slots Q C _ _ _ hL hs kk => lv_ifnonnull C.1 C.2.1 hd ht (kk ls hL hs.t)⟩
theorem aeq_inv {tg nx : Nat} {L L' : ML} {st st' : List MV} {S S' : MS} {pc' : Nat} (h : i_aeq tg nx L st S = some (pc', L', st', S')) : ∃ a b, st = .inr b :: .inr a :: st' ∧ pc' = (if a = b then tg else nx) ∧ L' = L ∧ S' = S := by
  unfold i_aeq at h
  split at h
  · rename_i b a t
    split at h
    · rename_i hc
      simp only [Option.some.injEq, Prod.mk.injEq] at h
      exact ⟨a, b, by rw [h.2.2.1], by rw [if_pos hc, h.1], h.2.1.symm, h.2.2.2.symm⟩
    · rename_i hc
      simp only [Option.some.injEq, Prod.mk.injEq] at h
      exact ⟨a, b, by rw [h.2.2.1], by rw [if_neg hc, h.1], h.2.1.symm, h.2.2.2.symm⟩
  · cases h
theorem cv_rf (r : Option Nat) : cv (.inr r) = va_rf r := by cases r <;> rfl
theorem s_acmp_eq {off : Int} {tg : Nat} (hd : decode (mB k) pc = .ok (.if_acmp .eq off, 3)) (ht : (pc : Int) + off = (tg : Int)) : SI G k pc (i_aeq tg (pc + 3)) := by
  refine SI.pure fun L st S pc' L' st' S' h => ?_
  obtain ⟨a, b, rfl, rfl, rfl, rfl⟩ := aeq_inv h
  refine ⟨rfl, fun p l e R s m args below meth c H ls locs cells slots Q C _ _ _ hL hs kk => ?_⟩
  have k1 := kk ls hL hs.t.t
  rw [List.map_cons, List.map_cons, cv_rf, cv_rf]
  refine lv_acmp_eq C.1 C.2.1 hd ht (fun q => ?_) (fun q => ?_)
  · rw [if_pos q] at k1; exact k1
  · rw [if_neg q] at k1; exact k1
theorem s_acmp_ne {off : Int} {tg : Nat} (hd : decode (mB k) pc = .ok (.if_acmp .ne off, 3)) (ht : (pc : Int) + off = (tg : Int)) : SI G k pc (i_aeq (pc + 3) tg) := by
  refine SI.pure fun L st S pc' L' st' S' h => ?_
  obtain ⟨a, b, rfl, rfl, rfl, rfl⟩ := aeq_inv h
  refine ⟨rfl, fun p l e R s m args below meth c H ls locs cells slots Q C _ _ _ hL hs kk => ?_⟩
  have k1 := kk ls hL hs.t.t
  rw [List.map_cons, List.map_cons, cv_rf, cv_rf]
  refine lv_acmp_ne C.1 C.2.1 hd ht (fun q => ?_) (fun q => ?_)
  · rw [if_neg q] at k1; exact k1
  · rw [if_pos q] at k1; exact k1
theorem s_goto {off : Int} {tg : Nat} (hd : decode (mB k) pc = .ok (.goto off, 3)) (ht : (pc : Int) + off = (tg : Int)) : SI G k pc (i_go tg) := by
  refine SI.pure fun L st S pc' L' st' S' h => ?_
  simp only [i_go, Option.some.injEq, Prod.mk.injEq] at h
  obtain ⟨rfl, rfl, rfl, rfl⟩ := h
  exact ⟨rfl, fun p l e R s m args below meth c H ls locs cells slots Q C _ _ _ hL hs kk => lv_goto C.1 C.2.1 hd ht (kk ls hL hs)⟩
theorem s_switch {df lo hi : Int} {offs : Array Int} {len dt : Nat} {tg : List Nat} (hd : decode (mB k) pc = .ok (.tableswitch df lo hi offs, len)) (h1 : (pc : Int) + df = (dt : Int)) (h2 : offs.toList.map (fun o => (pc : Int) + o) = tg.map (fun t : Nat => (t : Int))) : SI G k pc (i_sw lo hi tg dt) := by
  refine SI.pure fun L st S pc' L' st' S' h => ?_
  unfold i_sw at h
  split at h
  · rename_i a t
    split at h
    · rename_i ho
      simp only [Option.some.injEq, Prod.mk.injEq] at h
      obtain ⟨rfl, rfl, rfl, rfl⟩ := h
      refine ⟨rfl, fun p l e R s m args below meth c H ls locs cells slots Q C _ _ _ hL hs kk => lv_tableOut C.1 C.2.1 hd ?_ h1 (kk ls hL hs.t)⟩
      rw [ofInt_toInt hs.h]; exact ho
    · rename_i ho
      cases hg : tg[(a - lo).toNat]? with
      | none => rw [hg] at h; cases h
      | some tt =>
        rw [hg] at h
        simp only [Option.map_some, Option.some.injEq, Prod.mk.injEq] at h
        obtain ⟨rfl, rfl, rfl, rfl⟩ := h
        refine ⟨rfl, fun p l e R s m args below meth c H ls locs cells slots Q C _ _ _ hL hs kk => ?_⟩
        have hm : (offs.toList.map (fun o => (pc : Int) + o))[(a - lo).toNat]? = some (tt : Int) := by
          rw [h2, List.getElem?_map, hg]; rfl
        rw [List.getElem?_map] at hm
        cases hx : offs.toList[(a - lo).toNat]? with
        | none => rw [hx] at hm; cases hm
        | some off =>
          rw [hx] at hm
          have hm2 : (pc : Int) + off = (tt : Int) := Option.some.inj hm
          refine lv_tableIn C.1 C.2.1 hd ?_ ?_ (off := off) ?_ hm2 (kk ls hL hs.t)
          · rw [ofInt_toInt hs.h]; omega
          · rw [ofInt_toInt hs.h]; omega
          · rw [ofInt_toInt hs.h, ← Array.getElem?_toList]; exact hx
  · cases h
/-- the field kk of a cell of tag t, spelled by ref, nm, ds -/
def FOK (t kk : Nat) (ref nm ds : String) : Prop := ∃ (ci : Nat) (r : vw_C), t = ci + 1 ∧ ci < 19 ∧ mcl[ci]? = some r ∧ kk < r.2.2 ∧ (r.2.1 kk).2.1 = nm ∧ (r.2.1 kk).2.2.1 = ds ∧ (ref = (r.2.1 kk).1 ∨ Cond.sameField ref (r.2.1 kk).1 nm ds ∈ mWS) ∧ ∀ w ∈ u_ws r.1 r.2.1 r.2.2, w ∈ mWS
theorem cell_obj {t : Nat} {n : Int} {f : Int → MV} {a : Nat} {H : Heap} {ci : Nat} {r : vw_C} (h : cellOK G t n f a H) (e : t = ci + 1) (hci : ci < 19) (hr : mcl[ci]? = some r) : n = (r.2.2 : Int) ∧ G.2.2.2 ≤ a ∧ t_OB a (G.2.1.1 ci) r.2.2 (G.2.1.2 ci) H (fun j => cv (f (j : Int))) := by
  rcases h with ⟨ci', r', h1, h2, h3, h4, h5, h6⟩ | ⟨j, N, h1, h2, h3, h4, h5⟩ | ⟨N, h1, h2⟩
  · have e1 : ci' = ci := by omega
    subst e1
    cases hr.symm.trans h3
    exact ⟨h4, h5, h6⟩
  · omega
  · omega
theorem s_get {idx kk : Nat} {ts : List Nat} {ref nm ds : String} (hK : K0 G) (hd : decode (mB k) pc = .ok (.getfield idx, 3)) (hw : Cond.fieldLink (mO k) idx ref nm ds ∈ mWS) (hts : ∀ t ∈ ts, FOK t kk ref nm ds) : SI G k pc (i_get ts (kk : Int) (pc + 3)) := by
  refine SI.pure fun L st S pc' L' st' S' h => ?_
  unfold i_get at h
  split at h
  · rename_i a t
    split at h
    · rename_i hc
      simp only [Option.some.injEq, Prod.mk.injEq] at h
      obtain ⟨rfl, rfl, rfl, rfl⟩ := h
      refine ⟨rfl, fun p l e R s m args below meth c H ls locs cells slots Q C _ _ hR hL hs kk2 => ?_⟩
      obtain ⟨ci, r, e1, e2, e3, e4, e5, e6, e7, e8⟩ := hts _ (List.contains_iff_mem.mp hc)
      obtain ⟨g1, g2, cell, g3, g4, g5, g6⟩ := cell_obj (hR.2.2.1 a (by omega)) e1 e2 e3
      have KWs := C.2.2.2.2.2
      have hts' : ∀ w ∈ mWS, w.before args s = true := fun w hw => KWs.w hw
      obtain ⟨hS, hfc, kC, hkC, hkind⟩ := (hK.at KWs).1 ci _ e3
      obtain ⟨cf, kf, fi, fd, hi, hsl⟩ := hS kk e4
      have hi2 := hi
      rw [e5, e6] at hi2
      have hfd : s.fieldFound? ref nm ds = some (cf, kf, fi, fd) := by
        rcases e7 with rfl | e7
        · exact hi2
        · exact u_same (KWs.w (A := args) e7) _ hi2
      refine W.getf (v := cv (vS S a kk)) C.1 C.2.1 C.2.2.2.1 (KWs.w hw) hfd (u_facts hfc hkC (u_lays hts' e8 e4) hi).1 g3 (by rw [g5]; exact fun h => by cases h) ?_ rfl rfl hd (kk2 ls hL (okS.c (hR.2.1 a kk) hs.t))
      rw [hsl, g6 kk e4]
    · cases h
  · cases h
def fty (ty : Nat) (ft : FieldType) : Prop := match ty with
  | 0 => ft = .int
  | 1 => ft = .boolean
  | 2 => (∃ n, ft = .object n) ∨ ∃ t, ft = .array t
  | _ => False
theorem fitM_ok {ty : Nat} {ft : FieldType} {v : MV} (h : fty ty ft) (hv : fitM ty v = true) : narrow ft (cv v) = cv v ∧ fits ft (cv v) = true := by
  unfold fty at h
  split at h
  · subst h
    rcases v with e | _ | a <;> first | exact ⟨rfl, rfl⟩ | (simp [fitM] at hv)
  · subst h
    rcases v with e | _ | a
    · have h2 : e = 0 ∨ e = 1 := by simpa [fitM] using hv
      rcases h2 with rfl | rfl
      · exact ⟨by decide, by decide⟩
      · exact ⟨by decide, by decide⟩
    · simp [fitM] at hv
    · simp [fitM] at hv
  · rcases h with ⟨n, rfl⟩ | ⟨t, rfl⟩ <;> (rcases v with e | _ | a <;> first | exact ⟨rfl, rfl⟩ | (simp [fitM] at hv))
  · exact h.elim
/-- a field that may be written: not final, or final and written by its own constructor -/
def POK (k t kk ty : Nat) : Prop := ∃ (ci : Nat) (r : vw_C) (tys : Nat → FieldType), t = ci + 1 ∧ mcl[ci]? = some r ∧ (∀ j, j < r.2.2 → parseFieldDescriptor (r.2.1 j).2.2.1 = some (tys j)) ∧ (∀ a, a < r.2.2 → ∀ b, b < r.2.2 → a ≠ b → (r.2.1 a).2.1 ≠ (r.2.1 b).2.1) ∧ fty ty (tys kk) ∧ ((r.2.1 kk).2.2.2 = false ∨ ((r.2.1 kk).2.2.2 = true ∧ mN k = true ∧ (r.2.1 kk).1 = mO k))
theorem put_inv {ts : List Nat} {kk : Int} {ty nx : Nat} {L L' : ML} {st st' : List MV} {S S' : MS} {pc' : Nat} (h : i_put ts kk ty nx L st S = some (pc', L', st', S')) : ∃ v a, st = v :: .inr (some a) :: st' ∧ ts.contains (tS S a) = true ∧ fitM ty v = true ∧ pc' = nx ∧ L' = L ∧ S' = mset S a kk v := by
  unfold i_put at h
  split at h
  · rename_i v a t
    split at h
    · rename_i hc
      rw [Bool.and_eq_true] at hc
      simp only [Option.some.injEq, Prod.mk.injEq] at h
      exact ⟨v, a, by rw [h.2.2.1], hc.1, hc.2, h.1.symm, h.2.1.symm, h.2.2.2.symm⟩
    · cases h
  · cases h
theorem cv_upd (f : Int → MV) (kk : Nat) (v : MV) (j : Nat) : updV (fun j => cv (f (j : Int))) kk (cv v) j = cv (if (j : Int) = (kk : Int) then v else f (j : Int)) := by
  by_cases h : j = kk
  · subst h; simp [updV]
  · have h2 : ¬ (j : Int) = (kk : Int) := by omega
    simp [updV, h, h2]
set_option maxHeartbeats 1000000 in
theorem s_put {idx kk ty : Nat} {ts : List Nat} {ref nm ds : String} (hK : K0 G) (hd : decode (mB k) pc = .ok (.putfield idx, 3)) (hw : Cond.fieldLink (mO k) idx ref nm ds ∈ mWS) (hts : ∀ t ∈ ts, FOK t kk ref nm ds) (hps : ∀ t ∈ ts, POK k t kk ty) : SI G k pc (i_put ts (kk : Int) ty (pc + 3)) := by
  intro L st S pc' L' st' S' h
  obtain ⟨v, a, rfl, hc, hfit, rfl, rfl, rfl⟩ := put_inv h
  refine ⟨⟨Nat.le_refl _, Nat.le_refl _⟩, fun p l e R s m args below meth c H ls locs cells slots cells' slots' Q C r1 r2 hR hL hs hlk q1 q2 _ _ kk2 => ?_⟩
  have q1' : cells = cells' := by have : zS (mset S a kk v) = zS S := rfl; omega
  have q2' : slots = slots' := by have : qS (mset S a kk v) = qS S := rfl; omega
  subst q1'; subst q2'
  obtain ⟨ci, r, e1, e2, e3, e4, e5, e6, e7, e8⟩ := hts _ (List.contains_iff_mem.mp hc)
  obtain ⟨ci', r', tys, f1, f3, f4, f5, f6, f7⟩ := hps _ (List.contains_iff_mem.mp hc)
  have ec : ci' = ci := by omega
  subst ec
  cases e3.symm.trans f3
  obtain ⟨g1, g2, cell, g3, g4, g5, g6⟩ := cell_obj (hR.2.2.1 a (by omega)) e1 e2 e3
  have KWs := C.2.2.2.2.2
  have hts' : ∀ w ∈ mWS, w.before args s = true := fun w hw => KWs.w hw
  have hKs := hK.at KWs
  have hap := va_apart (own := mO k) hts' e8 tys f4 f5 hKs e3
  obtain ⟨hS, hfc, kC, hkC, hkind⟩ := hKs.1 ci' _ e3
  obtain ⟨cf, kf, fi, fd, hi, hsl⟩ := hS kk e4
  have hi2 := hi
  rw [e5, e6] at hi2
  have hfd : s.fieldFound? ref nm ds = some (cf, kf, fi, fd) := by
    rcases e7 with rfl | e7
    · exact hi2
    · exact u_same (KWs.w (A := args) e7) _ hi2
  have hst := (u_facts hfc hkC (u_lays hts' e8 e4) hi).1
  obtain ⟨n1, n2⟩ := fitM_ok f6 hfit
  have hlay := hts' _ (e8 _ (u_in_lay e4))
  have fin : ∀ (H' : Heap), H'[a]? = some (cell.setSlot fd.slot (cv v)) → H'.size = H.size → (∀ q, q ≠ a → H'[q]? = H[q]?) → W p l e R s m args below meth c H' (locs ++ [⟨a, fd.slot⟩]) cells slots Q (F0 m (pc + 3) ls (st'.map cv)) := by
    intro H' h1 h2 h3
    refine kk2 H' ls _ (hR.put h2 h3 hs.h ?_) hL hs.t.t (hlk.put g2)
    refine Or.inl ⟨ci', r, e1, e2, e3, g1, g2, ?_⟩
    rw [hsl] at h1
    refine t_OB.to (V := updV (fun j => cv (vS S a (j : Int))) kk (cv v)) ⟨_, h1, g4, g5, t_set g6 hap e4 (cv v)⟩ (fun j _ => ?_)
    rw [cv_upd, mset_s]
  rcases f7 with f7 | ⟨f7, f8, f9⟩
  · unfold u_lay at hlay
    rw [if_neg (by rw [f7]; decide)] at hlay
    have h6 := u_store hfc hkC hkind hlay hi (f4 kk e4) n1 n2
    exact W.putK C.1 C.2.1 (f := fd) ⟨C.2.2.2.1, KWs.w hw, ⟨_, _, _, hfd⟩, hst⟩ (by rw [g4]; exact h6) g3 g5 (by rw [hsl]; exact k2_hasslot (g6 kk e4)) rfl rfl hd fin
  · unfold u_lay at hlay
    rw [if_pos f7] at hlay
    have hcf : m.cls = cf := by
      obtain ⟨_, _, c', _, _, _, -, -, hf', -, -, -, hown2, -⟩ := Cond.laysFinal_spec hlay
      have e1 : c' = cf := by have := hi.symm.trans hf'; simp at this; exact this.1.symm
      rw [f9] at hown2
      rw [← e1]; exact Option.some.inj (C.2.2.2.1.symm.trans hown2)
    have h6 := u_fits hfc hkC hkind (Or.inr hlay) hi (f4 kk e4) n1 n2
    exact W.putFinK C.1 C.2.1 C.2.2.2.1 (KWs.w hw) hfd hst hcf (C.2.2.2.2.1 f8) (by rw [g4]; exact h6) g3 g5 (by rw [hsl]; exact k2_hasslot (g6 kk e4)) rfl rfl hd fin
theorem cell_arr {t : Nat} {n : Int} {f : Int → MV} {a : Nat} {H : Heap} {j : Nat} (h : cellOK G t n f a H) (e : t = 20 + j) (hj : j < 4) : ∃ N : Nat, n = (N : Int) ∧ G.2.2.2 ≤ a ∧ H[a]? = some (arrV (G.2.2.1 j) N (fun i => cv (f (i : Int)))) := by
  rcases h with ⟨ci', r', h1, h2, h3, h4, h5, h6⟩ | ⟨j', N, h1, h2, h3, h4, h5⟩ | ⟨N, h1, h2⟩
  · omega
  · have e1 : j' = j := by omega
    subst e1
    exact ⟨N, h3, h4, h5⟩
  · omega
theorem cell_scr {t : Nat} {n : Int} {f : Int → MV} {a : Nat} {H : Heap} (h : cellOK G t n f a H) (e : t = 30) : ∃ N : Nat, n = (N : Int) ∧ ∃ scr : Cell, H[a]? = some scr ∧ G.1.isArrayOf scr .int ∧ scr.vm ≠ .unknown ∧ scr.slots.size = N ∧ ∀ j : Nat, j < N → scr.slots[j]? = some (cv (f (j : Int))) := by
  rcases h with ⟨ci', r', h1, h2, h3, h4, h5, h6⟩ | ⟨j', N, h1, h2, h3, h4, h5⟩ | ⟨N, h1, h2⟩
  · omega
  · omega
  · exact ⟨N, h2⟩
theorem ld_inv {ts : List Nat} {nx : Nat} {L L' : ML} {st st' : List MV} {S S' : MS} {pc' : Nat} (h : i_ld ts nx L st S = some (pc', L', st', S')) : ∃ i a t, st = .inl i :: .inr (some a) :: t ∧ ts.contains (tS S a) = true ∧ 0 ≤ i ∧ i < lS S a ∧ pc' = nx ∧ L' = L ∧ st' = vS S a i :: t ∧ S = S' := by
  unfold i_ld at h
  split at h
  · rename_i i a t
    split at h
    · rename_i hc
      simp only [Option.some.injEq, Prod.mk.injEq] at h
      exact ⟨i, a, t, rfl, hc.1, hc.2.1, hc.2.2, h.1.symm, h.2.1.symm, h.2.2.1.symm, h.2.2.2⟩
    · cases h
  · cases h
theorem idx_ok {i : Int} {N : Nat} (hi : inR i) (h0 : 0 ≤ i) (hl : i < (N : Int)) : ¬ (Int32.ofInt i < 0 ∨ N ≤ (Int32.ofInt i).toNatClampNeg) ∧ (Int32.ofInt i).toNatClampNeg = i.toNat ∧ i.toNat < N ∧ ((i.toNat : Nat) : Int) = i := by
  have e1 := ofInt_clamp hi
  refine ⟨fun q => ?_, e1, by omega, by omega⟩
  rcases q with q | q
  · rw [← ofInt_0, ofInt_lt hi inR0] at q; omega
  · rw [e1] at q; omega
theorem s_iald (hK : K0 G) (hd : decode (mB k) pc = .ok (.iaload, 1)) : SI G k pc (i_ld [20, 30] (pc + 1)) := by
  refine SI.pure fun L st S pc' L' st' S' h => ?_
  obtain ⟨i, a, t, rfl, hc, h0, hl, rfl, rfl, rfl, rfl⟩ := ld_inv h
  refine ⟨rfl, fun p l e R s m args below meth c H ls locs cells slots Q C _ _ hR hL hs kk => ?_⟩
  have hc2 : tS S a = 20 ∨ tS S a = 30 := by simpa using hc
  have k1 := kk ls hL (okS.c (hR.2.1 a i) hs.t.t)
  have KWs := C.2.2.2.2.2
  rcases hc2 with e1 | e1
  · obtain ⟨N, g1, g2, g3⟩ := cell_arr (j := 0) (hR.2.2.1 a (by omega)) e1 (by omega)
    obtain ⟨b1, b2, b3, b4⟩ := idx_ok hs.h h0 (by rw [← g1]; exact hl)
    have hAr := ((hK.at KWs).2 0 _ rfl).1
    refine W.iald (v := cv (vS S a i)) C.1 C.2.1 g3 (hAr N _) (fun q => by cases q) (by rw [arrV_size]; exact b1) ?_ rfl rfl hd k1
    rw [b2, arrV_read _ _ b3, b4]
  · obtain ⟨N, g1, scr, g2, g3, g4, g5, g6⟩ := cell_scr (hR.2.2.1 a (by omega)) e1
    obtain ⟨b1, b2, b3, b4⟩ := idx_ok hs.h h0 (by rw [← g1]; exact hl)
    refine W.iald (v := cv (vS S a i)) C.1 C.2.1 g2 (State.isArrayOf_alike KWs.2.1 g3) g4 (by rw [g5]; exact b1) ?_ rfl rfl hd k1
    rw [b2, g6 _ b3, b4]
theorem s_zald (hK : K0 G) (hd : decode (mB k) pc = .ok (.baload, 1)) : SI G k pc (i_ld [21] (pc + 1)) := by
  refine SI.pure fun L st S pc' L' st' S' h => ?_
  obtain ⟨i, a, t, rfl, hc, h0, hl, rfl, rfl, rfl, rfl⟩ := ld_inv h
  refine ⟨rfl, fun p l e R s m args below meth c H ls locs cells slots Q C _ _ hR hL hs kk => ?_⟩
  have e1 : tS S a = 21 := by simpa using hc
  have k1 := kk ls hL (okS.c (hR.2.1 a i) hs.t.t)
  have KWs := C.2.2.2.2.2
  obtain ⟨N, g1, g2, g3⟩ := cell_arr (j := 1) (hR.2.2.1 a (by omega)) e1 (by omega)
  obtain ⟨b1, b2, b3, b4⟩ := idx_ok hs.h h0 (by rw [← g1]; exact hl)
  have hAr := ((hK.at KWs).2 1 _ rfl).1
  refine W.zald (v := cv (vS S a i)) C.1 C.2.1 g3 (hAr N _) (fun q => by cases q) (by rw [arrV_size]; exact b1) ?_ rfl rfl hd k1
  rw [b2, arrV_read _ _ b3, b4]
theorem s_aald (hK : K0 G) (hd : decode (mB k) pc = .ok (.aaload, 1)) : SI G k pc (i_ld [22, 23] (pc + 1)) := by
  refine SI.pure fun L st S pc' L' st' S' h => ?_
  obtain ⟨i, a, t, rfl, hc, h0, hl, rfl, rfl, rfl, rfl⟩ := ld_inv h
  refine ⟨rfl, fun p l e R s m args below meth c H ls locs cells slots Q C _ _ hR hL hs kk => ?_⟩
  have hc2 : tS S a = 22 ∨ tS S a = 23 := by simpa using hc
  have k1 := kk ls hL (okS.c (hR.2.1 a i) hs.t.t)
  have KWs := C.2.2.2.2.2
  rcases hc2 with e1 | e1
  · obtain ⟨N, g1, g2, g3⟩ := cell_arr (j := 2) (hR.2.2.1 a (by omega)) e1 (by omega)
    obtain ⟨b1, b2, b3, b4⟩ := idx_ok hs.h h0 (by rw [← g1]; exact hl)
    have hAr := ((hK.at KWs).2 2 _ rfl).1
    refine W.aald (v := cv (vS S a i)) C.1 C.2.1 g3 (hAr N _) rfl (fun q => by cases q) (by rw [arrV_size]; exact b1) ?_ rfl rfl hd k1
    rw [b2, arrV_read _ _ b3, b4]
  · obtain ⟨N, g1, g2, g3⟩ := cell_arr (j := 3) (hR.2.2.1 a (by omega)) e1 (by omega)
    obtain ⟨b1, b2, b3, b4⟩ := idx_ok hs.h h0 (by rw [← g1]; exact hl)
    have hAr := ((hK.at KWs).2 3 _ rfl).1
    refine W.aald (v := cv (vS S a i)) C.1 C.2.1 g3 (hAr N _) rfl (fun q => by cases q) (by rw [arrV_size]; exact b1) ?_ rfl rfl hd k1
    rw [b2, arrV_read _ _ b3, b4]
/-- a cell of an array, one place written -/
theorem Rel.arr {S : MS} {H H' : Heap} {a j N : Nat} {i : Int} {v : MV} {x : Int32} (hR : Rel G S H) (e1 : tS S a = 20 + j) (hj : j < 4) (g1 : lS S a = (N : Int)) (g2 : G.2.2.2 ≤ a) (h0 : 0 ≤ i) (b2 : x.toNatClampNeg = i.toNat) (hv : okV v) (h1 : H'[a]? = some ((arrV (G.2.2.1 j) N (fun i => cv (vS S a (i : Int)))).setSlot x.toNatClampNeg (cv v))) (h2 : H'.size = H.size) (h3 : ∀ q, q ≠ a → H'[q]? = H[q]?) : Rel G (mset S a i v) H' := by
  refine hR.put h2 h3 hv (Or.inr (Or.inl ⟨j, N, e1, hj, g1, g2, ?_⟩))
  rw [h1, arrV_store, b2]
  congr 2
  funext q
  rw [cv_upd, mset_s]
  rw [show ((i.toNat : Nat) : Int) = i by omega]
theorem s_iast (hK : K0 G) (hd : decode (mB k) pc = .ok (.iastore, 1)) : SI G k pc (i_ist (pc + 1)) := by
  intro L st S pc' L' st' S' h
  unfold i_ist at h
  split at h
  · rename_i x i a t
    split at h
    · rename_i hc
      simp only [Option.some.injEq, Prod.mk.injEq] at h
      obtain ⟨rfl, rfl, rfl, rfl⟩ := h
      obtain ⟨e1, h0, hl⟩ := hc
      refine ⟨⟨Nat.le_refl _, Nat.le_refl _⟩, fun p l e R s m args below meth c H ls locs cells slots cells' slots' Q C r1 r2 hR hL hs hlk q1 q2 _ _ kk => ?_⟩
      have q1' : cells = cells' := by have : zS (mset S a i (.inl x)) = zS S := rfl; omega
      have q2' : slots = slots' := by have : qS (mset S a i (.inl x)) = qS S := rfl; omega
      subst q1'; subst q2'
      have KWs := C.2.2.2.2.2
      obtain ⟨N, g1, g2, g3⟩ := cell_arr (j := 0) (hR.2.2.1 a (by omega)) e1 (by omega)
      obtain ⟨b1, b2, b3, b4⟩ := idx_ok hs.t.h h0 (by rw [← g1]; exact hl)
      have hAr := ((hK.at KWs).2 0 _ rfl).1
      exact W.iast C.1 C.2.1 g3 (hAr N _) (fun q => by cases q) (by rw [arrV_size]; exact b1) rfl rfl hd fun H' z1 z2 z3 => kk H' ls _ (hR.arr (j := 0) e1 (by omega) g1 g2 h0 b2 hs.h z1 z2 z3) hL hs.t.t.t (hlk.put g2)
    · cases h
  · cases h
theorem s_zast (hK : K0 G) (hd : decode (mB k) pc = .ok (.bastore, 1)) : SI G k pc (i_zst (pc + 1)) := by
  intro L st S pc' L' st' S' h
  unfold i_zst at h
  split at h
  · rename_i x i a t
    split at h
    · rename_i hc
      simp only [Option.some.injEq, Prod.mk.injEq] at h
      obtain ⟨rfl, rfl, rfl, rfl⟩ := h
      obtain ⟨e1, hx, h0, hl⟩ := hc
      refine ⟨⟨Nat.le_refl _, Nat.le_refl _⟩, fun p l e R s m args below meth c H ls locs cells slots cells' slots' Q C r1 r2 hR hL hs hlk q1 q2 _ _ kk => ?_⟩
      have q1' : cells = cells' := by have : zS (mset S a i (.inl x)) = zS S := rfl; omega
      have q2' : slots = slots' := by have : qS (mset S a i (.inl x)) = qS S := rfl; omega
      subst q1'; subst q2'
      have KWs := C.2.2.2.2.2
      obtain ⟨N, g1, g2, g3⟩ := cell_arr (j := 1) (hR.2.2.1 a (by omega)) e1 (by omega)
      obtain ⟨b1, b2, b3, b4⟩ := idx_ok hs.t.h h0 (by rw [← g1]; exact hl)
      have hAr := ((hK.at KWs).2 1 _ rfl).1
      have hn : narrow .boolean (.int (Int32.ofInt x)) = cv (.inl x) := by
        rcases hx with rfl | rfl <;> decide
      exact W.zast C.1 C.2.1 g3 (hAr N _) (fun q => by cases q) (by rw [arrV_size]; exact b1) rfl rfl hd fun H' z1 z2 z3 => kk H' ls _ (hR.arr (j := 1) e1 (by omega) g1 g2 h0 b2 hs.h (by rw [← hn]; exact z1) z2 z3) hL hs.t.t.t (hlk.put g2)
    · cases h
  · cases h
/-- which cells an array of references takes: all in mcl that are castable -/
def AOK (j : Nat) (E : String) (ts : List Nat) : Prop := ∀ t ∈ ts, ∃ (ci : Nat) (r : vw_C), t = ci + 1 ∧ ci < 19 ∧ mcl[ci]? = some r ∧ Cond.castable r.1 E ∈ mWS
theorem s_aast {ts2 ts3 : List Nat} (hK : K0 G) (hd : decode (mB k) pc = .ok (.aastore, 1)) (h2 : AOK 2 mThing ts2) (h3 : AOK 3 mValue ts3) : SI G k pc (i_ast [(22, ts2), (23, ts3)] (pc + 1)) := by
  intro L st S pc' L' st' S' h
  unfold i_ast at h
  split at h
  · rename_i x i a t
    split at h
    · rename_i hc
      simp only [Option.some.injEq, Prod.mk.injEq] at h
      obtain ⟨rfl, rfl, rfl, rfl⟩ := h
      obtain ⟨hok, h0, hl⟩ := hc
      refine ⟨⟨Nat.le_refl _, Nat.le_refl _⟩, fun p l e R s m args below meth c H ls locs cells slots cells' slots' Q C r1 r2 hR hL hs hlk q1 q2 _ _ kk => ?_⟩
      have q1' : cells = cells' := by have : zS (mset S a i (.inr x)) = zS S := rfl; omega
      have q2' : slots = slots' := by have : qS (mset S a i (.inr x)) = qS S := rfl; omega
      subst q1'; subst q2'
      have KWs := C.2.2.2.2.2
      have main : ∀ (j : Nat) (E : String) (ts : List Nat), j < 4 → tS S a = 20 + j → (mtys G)[j]? = some (G.2.2.1 j, .object E) → (∀ b, x = some b → ts.contains (tS S b) = true) → AOK j E ts → W p l e R s m args below meth c H locs cells slots Q (F0 m pc ls ((.inr x :: .inl i :: .inr (some a) :: t : List MV).map cv)) := by
        intro j E ts hj e1 hty hx hA
        obtain ⟨N, g1, g2, g3⟩ := cell_arr (j := j) (hR.2.2.1 a (by omega)) e1 hj
        obtain ⟨b1, b2, b3, b4⟩ := idx_ok hs.t.h h0 (by rw [← g1]; exact hl)
        have hTT := (hK.at KWs).2 j _ hty
        cases x with
        | none =>
          exact va_WaastN (C := E) C.1 C.2.1 g3 (hTT.1 N _) (fun q => by cases q) (by rw [arrV_size]; exact b1) rfl rfl hd fun H' z1 z2 z3 => kk H' ls _ (hR.arr e1 hj g1 g2 h0 b2 hs.h z1 z2 z3) hL hs.t.t.t (hlk.put g2)
        | some b =>
          obtain ⟨ci, r, f1, f2, f3, f4⟩ := hA _ (List.contains_iff_mem.mp (hx b rfl))
          obtain ⟨-, -, cellV, v1, v2, v3, -⟩ := cell_obj (hR.2.2.1 b (by omega)) f1 f2 f3
          obtain ⟨kA, comp, k1, k2, k3, -⟩ := hTT.2
          obtain ⟨kE, hkE, -⟩ := Vm.findClass_spec k3
          obtain ⟨-, hfc, kC, hkC, -⟩ := (hK.at KWs).1 ci _ f3
          obtain ⟨c0, t0, w1, w2, w3⟩ := Cond.castable_spec (KWs.w (A := args) f4)
          cases hfc.symm.trans w1
          cases k3.symm.trans w2
          exact W.aast C.1 C.2.1 g3 (fun q h => by cases h) (fun h => by cases h) k1 k2 rfl hkE ⟨fun q => b1 (Or.inl q), by rw [arrV_size, b2]; exact b3⟩ v1 (fun q h => by rw [v3] at h; cases h) (by rw [v2]; exact hkC) (by rw [v2]; exact w3) rfl rfl hd fun H' z1 z2 z3 => kk H' ls _ (hR.arr e1 hj g1 g2 h0 b2 hs.h z1 z2 z3) hL hs.t.t.t (hlk.put g2)
      have hcase : (tS S a = 22 ∧ ∀ b, x = some b → ts2.contains (tS S b) = true) ∨ (tS S a = 23 ∧ ∀ b, x = some b → ts3.contains (tS S b) = true) := by
        unfold astOK at hok
        by_cases e22 : tS S a = 22
        · refine Or.inl ⟨e22, fun b hb => ?_⟩
          subst hb
          simpa [List.lookup, e22] using hok
        · by_cases e23 : tS S a = 23
          · refine Or.inr ⟨e23, fun b hb => ?_⟩
            subst hb
            simpa [List.lookup, e23] using hok
          · exfalso
            have n22 : (tS S a == 22) = false := by simpa using e22
            have n23 : (tS S a == 23) = false := by simpa using e23
            cases x <;> simp [List.lookup, n22, n23] at hok
      rcases hcase with ⟨e1, hx⟩ | ⟨e1, hx⟩
      · exact main 2 mThing ts2 (by omega) e1 rfl hx h2
      · exact main 3 mValue ts3 (by omega) e1 rfl hx h3
    · cases h
  · cases h
theorem s_len (hK : K0 G) (hd : decode (mB k) pc = .ok (.arraylength, 1)) : SI G k pc (i_len (pc + 1)) := by
  refine SI.pure fun L st S pc' L' st' S' h => ?_
  unfold i_len at h
  split at h
  · rename_i a t
    split at h
    · rename_i hc
      simp only [Option.some.injEq, Prod.mk.injEq] at h
      obtain ⟨rfl, rfl, rfl, rfl⟩ := h
      refine ⟨rfl, fun p l e R s m args below meth c H ls locs cells slots Q C _ _ hR hL hs kk => ?_⟩
      have k1 := kk ls hL (okS.c (v := .inl (lS S a)) (hR.2.2.2.1 a) hs.t)
      have KWs := C.2.2.2.2.2
      rcases hR.2.2.1 a (by omega) with ⟨ci', r', h1, h2, h3, h4, h5, h6⟩ | ⟨j, N, h1, h2, h3, h4, h5⟩ | ⟨N, h1, h2, scr, g2, g3, g4, g5, g6⟩
      · omega
      · have ht : ∃ ft, (mtys G)[j]? = some (G.2.2.1 j, ft) := by
          rcases (show j = 0 ∨ j = 1 ∨ j = 2 ∨ j = 3 by omega) with rfl | rfl | rfl | rfl <;> exact ⟨_, rfl⟩
        obtain ⟨ft, hft⟩ := ht
        refine W.alen (n := Int32.ofInt (lS S a)) C.1 C.2.1 h5 (((hK.at KWs).2 j _ hft).1 N _) ?_ rfl rfl hd k1
        rw [arrV_size, h3]
        exact Int32.ofInt_eq_ofNat.symm
      · refine W.alen (n := Int32.ofInt (lS S a)) C.1 C.2.1 g2 (State.isArrayOf_alike KWs.2.1 g3) ?_ rfl rfl hd k1
        rw [g5, h2]
        exact Int32.ofInt_eq_ofNat.symm
    · cases h
  · cases h
/-- an object of the kind ci can be made here -/
def NOK (k idx t n : Nat) (f : Int → MV) : Prop := ∃ (ci : Nat) (r : vw_C) (tys : Nat → FieldType), t = ci + 1 ∧ ci < 19 ∧ mcl[ci]? = some r ∧ r.2.2 = n ∧ (∀ j, j < n → parseFieldDescriptor (r.2.1 j).2.2.1 = some (tys j)) ∧ (∀ j, j < n → defaultValue (tys j) = cv (f (j : Int))) ∧ (∀ j, okV (f j)) ∧ (∀ w ∈ u_ws r.1 r.2.1 r.2.2, w ∈ mWS) ∧ Cond.classLink (mO k) idx r.1 ∈ mWS ∧ Cond.instantiable r.1 n ∈ mWS ∧ Cond.initialized r.1 ∈ mWS ∧ n < 1000
theorem s_new {idx t n : Nat} {f : Int → MV} (hK : K0 G) (hd : decode (mB k) pc = .ok (.new idx, 3)) (hn : NOK k idx t n f) : SI G k pc (i_new t n f (pc + 3)) := by
  intro L st S pc' L' st' S' h
  simp only [i_new, Option.some.injEq, Prod.mk.injEq] at h
  obtain ⟨rfl, rfl, rfl, rfl⟩ := h
  have z0 : zS (mnew S t (n : Int) f) = zS S + 1 := rfl
  have z1 : qS (mnew S t (n : Int) f) = qS S + n := by
    show qS S + ((n : Int)).toNat = qS S + n
    omega
  refine ⟨⟨by omega, by omega⟩, fun p l e R s m args below meth c H ls locs cells slots cells' slots' Q C r1 r2 hR hL hs hlk q1 q2 q3 q4 kk => ?_⟩
  obtain ⟨ci, r, tys, e1, e2, e3, e4, e5, e6, e7, e8, e9, e10, e11, e12⟩ := hn
  have KWs := C.2.2.2.2.2
  have hts' : ∀ w ∈ mWS, w.before args s = true := fun w hw => KWs.w hw
  have hKn := (hK.at KWs).1 ci _ e3
  have q1' : cells + 1 = cells' := by omega
  have q2' : slots + n = slots' := by omega
  subst q1'; subst q2'
  refine W.newcK C.1 C.2.1 C.2.2.2.1 (KWs.w e9) (KWs.w e10) (KWs.w e11) rfl hd q3 q4 hKn.2.1 hR.1 fun H1 kC hkC w1 w2 w3 => ?_
  refine kk H1 ls locs (hR.new (by rw [w2, hR.1]) (fun q hq => w3 q (by rw [← hR.1]; exact hq)) e7 ⟨by omega, by omega⟩ (Or.inl ⟨ci, r, e1, e2, e3, by rw [e4], hR.2.2.2.2, ?_⟩)) hL (okS.c (show okV (.inr (some (zS S))) from trivial) hs) hlk
  have hb := u_born (o := zS S) (H := H1) tys hts' e8 hKn hkC w1 (by rw [e4]; exact e5)
  exact hb.to (fun j hj => e6 j (by rw [← e4]; exact hj))
theorem newa_inv {t : Nat} {v : MV} {nx : Nat} {L L' : ML} {st st' : List MV} {S S' : MS} {pc' : Nat} (h : i_newa t v nx L st S = some (pc', L', st', S')) : ∃ n t', st = .inl n :: t' ∧ 0 ≤ n ∧ n ≤ 100000 ∧ pc' = nx ∧ L' = L ∧ st' = .inr (some (zS S)) :: t' ∧ S' = mnew S t n (fun _ => v) := by
  unfold i_newa at h
  split at h
  · rename_i n t'
    split at h
    · rename_i hc
      simp only [Option.some.injEq, Prod.mk.injEq] at h
      exact ⟨n, t', rfl, hc.1, hc.2, h.1.symm, h.2.1.symm, h.2.2.1.symm, h.2.2.2.symm⟩
    · cases h
  · cases h
theorem s_newa {at_ : ArrayType} {j : Nat} (hK : K0 G) (hd : decode (mB k) pc = .ok (.newarray at_, 2)) (hj : j < 4) (hty : (mtys G)[j]? = some (G.2.2.1 j, newarray.typeOf at_)) (hdf : defaultValue (newarray.typeOf at_) = cv (.inl 0)) (hcb : componentBytes (newarray.typeOf at_) ≤ 8) (hRA : ∀ cA, va_RA G.1 cA (newarray.typeOf at_) → G.1.vm.findClass ("[" ++ (newarray.typeOf at_).toString) = some cA) : SI G k pc (i_newa (20 + j) (.inl 0) (pc + 2)) := by
  intro L st S pc' L' st' S' h
  obtain ⟨n, t', rfl, h0, h1, rfl, rfl, rfl, rfl⟩ := newa_inv h
  have z0 : zS (mnew S (20 + j) n (fun _ => (.inl 0 : MV))) = zS S + 1 := rfl
  have z1 : qS (mnew S (20 + j) n (fun _ => (.inl 0 : MV))) = qS S + n.toNat := rfl
  refine ⟨⟨by omega, by omega⟩, fun p l e R s m args below meth c H ls locs cells slots cells' slots' Q C r1 r2 hR hL hs hlk q1 q2 q3 q4 kk => ?_⟩
  have KWs := C.2.2.2.2.2
  have q1' : cells + 1 = cells' := by omega
  have q2' : slots + n.toNat = slots' := by omega
  subst q1'; subst q2'
  have hnn : ¬ Int32.ofInt n < 0 := by rw [← ofInt_0, ofInt_lt hs.h inR0]; omega
  have hTT := (hK.at KWs).2 j _ hty
  have hf2 : s.vm.findClass ("[" ++ (newarray.typeOf at_).toString) = some (G.2.2.1 j) := by rw [KWs.2.1.findClass]; exact hRA _ ((hK.2 j _ hty).2)
  have harr : (Cond.arrayClass (newarray.typeOf at_)).before args s = true := by
    obtain ⟨-, kA, hkA, comp, hkind⟩ := hTT.1 0 (fun _ => .null)
    have hkA : s.vm.classes[G.2.2.1 j]? = some kA := hkA
    simp [Cond.before, Cond.holds, Cond.value, hf2, hkA, hkind]
  refine va_newaK C.1 C.2.1 harr rfl hd rfl hnn (ofInt_clamp hs.h) ?_ q3 q4 hR.1 fun H1 cA w1 w2 w3 _ w5 => ?_
  · have : n.toNat * componentBytes (newarray.typeOf at_) ≤ 100000 * 8 := Nat.mul_le_mul (by omega) hcb
    omega
  · have hcA : cA = G.2.2.1 j := Option.some.inj (w5.symm.trans hf2)
    subst hcA
    refine kk H1 ls locs (hR.new (by rw [w2, hR.1]) (fun q hq => w3 q (by rw [← hR.1]; exact hq)) (fun _ => inR0) hs.h (Or.inr (Or.inl ⟨j, n.toNat, rfl, hj, by omega, hR.2.2.2.2, ?_⟩))) hL (okS.c (show okV (.inr (some (zS S))) from trivial) hs.t) hlk
    rw [w1, hdf]
theorem s_anew {idx j : Nat} {E : String} (hK : K0 G) (hd : decode (mB k) pc = .ok (.anewarray idx, 3)) (hw : Cond.classLink (mO k) idx E ∈ mWS) (hw2 : E ∈ [mThing, mValue]) (hj : j < 4) (hty : (mtys G)[j]? = some (G.2.2.1 j, .object E)) : SI G k pc (i_newa (20 + j) (.inr none) (pc + 3)) := by
  intro L st S pc' L' st' S' h
  obtain ⟨n, t', rfl, h0, h1, rfl, rfl, rfl, rfl⟩ := newa_inv h
  have z0 : zS (mnew S (20 + j) n (fun _ => (.inr none : MV))) = zS S + 1 := rfl
  have z1 : qS (mnew S (20 + j) n (fun _ => (.inr none : MV))) = qS S + n.toNat := rfl
  refine ⟨⟨by omega, by omega⟩, fun p l e R s m args below meth c H ls locs cells slots cells' slots' Q C r1 r2 hR hL hs hlk q1 q2 q3 q4 kk => ?_⟩
  have KWs := C.2.2.2.2.2
  have q1' : cells + 1 = cells' := by omega
  have q2' : slots + n.toNat = slots' := by omega
  subst q1'; subst q2'
  have hnn : ¬ Int32.ofInt n < 0 := by rw [← ofInt_0, ofInt_lt hs.h inR0]; omega
  have hcl : (Int32.ofInt n).toNatClampNeg = n.toNat := ofInt_clamp hs.h
  refine W.anew C.1 C.2.1 C.2.2.2.1 (KWs.w hw) (va_AO.use (KWs.2.2.2 E hw2)) rfl hd rfl hnn (by rw [hcl]; omega) q3 (by rw [hcl]; exact q4) fun cA kA comp f1 f2 f3 f4 => ?_
  rw [hcl]
  have hcA : cA = G.2.2.1 j := by
    obtain ⟨kA', comp', g1, g2, g3, g4⟩ := ((hK.at KWs).2 j _ hty).2
    exact Option.some.inj (f1.symm.trans g4)
  subst hcA
  have z := kk (H.push { cls := G.2.2.1 j, slots := Array.replicate n.toNat .null, vm := .none }) ls locs (hR.new (by rw [Array.size_push]) (fun q hq => by rw [Array.getElem?_push, if_neg (Nat.ne_of_lt hq)]) (fun _ => trivial) hs.h (Or.inr (Or.inl ⟨j, n.toNat, rfl, hj, by omega, hR.2.2.2.2, by
    rw [← hR.1, Array.getElem?_push_size, arrV_new]
    rfl⟩))) hL (okS.c (show okV (.inr (some (zS S))) from trivial) hs.t) hlk
  rw [hR.1]
  exact z
/-- of a class test: which tags pass, which fail -/
def YOK (E : String) (ys : List Nat) : Prop := ∀ t ∈ ys, ∃ (ci : Nat) (r : vw_C), t = ci + 1 ∧ ci < 19 ∧ mcl[ci]? = some r ∧ Cond.castable r.1 E ∈ mWS
def ZOK (E : String) (ns : List Nat) : Prop := ∀ t ∈ ns, ∃ (ci : Nat) (r : vw_C), t = ci + 1 ∧ ci < 19 ∧ mcl[ci]? = some r ∧ (r.1, E) ∈ mNC
theorem recvR (hK : K0 G) {S : MS} {H : Heap} {a ci : Nat} {r : vw_C} {s : State} (hR : Rel G S H) (KWs : KW G s) (e1 : tS S a = ci + 1) (e2 : ci < 19) (e3 : mcl[ci]? = some r) : ∃ cell : Cell, H[a]? = some cell ∧ cell.vm.isStatics = false ∧ s.vm.findClass r.1 = some cell.cls := by
  obtain ⟨-, -, cell, g3, g4, g5, -⟩ := cell_obj (hR.2.2.1 a (by omega)) e1 e2 e3
  exact ⟨cell, g3, by rw [g5]; rfl, by rw [g4]; exact ((hK.at KWs).1 ci _ e3).2.1⟩
theorem s_inst {idx : Nat} {E : String} {ys ns : List Nat} (hK : K0 G) (hd : decode (mB k) pc = .ok (.instanceof idx, 3)) (hw : Cond.classLink (mO k) idx E ∈ mWS) (hy : YOK E ys) (hn : ZOK E ns) : SI G k pc (i_ins ys ns (pc + 3)) := by
  refine SI.pure fun L st S pc' L' st' S' h => ?_
  unfold i_ins at h
  split at h
  · simp only [Option.some.injEq, Prod.mk.injEq] at h
    obtain ⟨rfl, rfl, rfl, rfl⟩ := h
    exact ⟨rfl, fun p l e R s m args below meth c H ls locs cells slots Q C _ _ hR hL hs kk => lv_instN C.1 C.2.1 hd (kk ls hL (okS.c (v := .inl 0) inR0 hs.t))⟩
  · rename_i a t
    split at h
    · rename_i hc
      simp only [Option.some.injEq, Prod.mk.injEq] at h
      obtain ⟨rfl, rfl, rfl, rfl⟩ := h
      refine ⟨rfl, fun p l e R s m args below meth c H ls locs cells slots Q C _ _ hR hL hs kk => ?_⟩
      have KWs := C.2.2.2.2.2
      obtain ⟨ci, r, e1, e2, e3, e4⟩ := hy _ (List.contains_iff_mem.mp hc)
      exact va_instY C.1 C.2.1 C.2.2.2.1 (KWs.w hw) (KWs.1 _ e4) (recvR hK hR KWs e1 e2 e3) hd (kk ls hL (okS.c (v := .inl 1) (show inR 1 by decide) hs.t))
    · split at h
      · rename_i hc
        simp only [Option.some.injEq, Prod.mk.injEq] at h
        obtain ⟨rfl, rfl, rfl, rfl⟩ := h
        refine ⟨rfl, fun p l e R s m args below meth c H ls locs cells slots Q C _ _ hR hL hs kk => ?_⟩
        have KWs := C.2.2.2.2.2
        obtain ⟨ci, r, e1, e2, e3, e4⟩ := hn _ (List.contains_iff_mem.mp hc)
        exact va_instNo C.1 C.2.1 C.2.2.2.1 (KWs.w hw) (KWs.2.2.1 _ e4) (recvR hK hR KWs e1 e2 e3) hd (kk ls hL (okS.c (v := .inl 0) inR0 hs.t))
      · cases h
  · cases h
theorem s_cast {idx : Nat} {E : String} {ys : List Nat} (hK : K0 G) (hd : decode (mB k) pc = .ok (.checkcast idx, 3)) (hw : Cond.classLink (mO k) idx E ∈ mWS) (hy : YOK E ys) : SI G k pc (i_cst ys (pc + 3)) := by
  refine SI.pure fun L st S pc' L' st' S' h => ?_
  unfold i_cst at h
  split at h
  · simp only [Option.some.injEq, Prod.mk.injEq] at h
    obtain ⟨rfl, rfl, rfl, rfl⟩ := h
    exact ⟨rfl, fun p l e R s m args below meth c H ls locs cells slots Q C _ _ hR hL hs kk => lv_castN C.1 C.2.1 hd (kk ls hL hs)⟩
  · rename_i a t
    split at h
    · rename_i hc
      simp only [Option.some.injEq, Prod.mk.injEq] at h
      obtain ⟨rfl, rfl, rfl, rfl⟩ := h
      refine ⟨rfl, fun p l e R s m args below meth c H ls locs cells slots Q C _ _ hR hL hs kk => ?_⟩
      have KWs := C.2.2.2.2.2
      obtain ⟨ci, r, e1, e2, e3, e4⟩ := hy _ (List.contains_iff_mem.mp hc)
      exact va_castY C.1 C.2.1 C.2.2.2.1 (KWs.w hw) (KWs.1 _ e4) (recvR hK hR KWs e1 e2 e3) hd (kk ls hL hs)
    · cases h
  · cases h
theorem cv_sum (st : List MV) : ((st.map cv).map fun v => v.category).sum = st.length := by
  induction st with
  | nil => rfl
  | cons a t ih => simp only [List.map_cons, List.sum_cons, List.length_cons, ih, cv_cat]; omega
theorem s_obj {idx : Nat} (hd : decode (mB k) pc = .ok (.invokespecial idx, 3)) (h1 : Cond.methodLink (mO k) idx Lib.objectInit ∈ mWS) (h2 : Cond.instanceMethod Lib.objectInit ∈ mWS) (h3 : Cond.code Lib.objectInit ⟨#[0xb1]⟩ 1 none ∈ mWS) : SI G k pc (i_obj (pc + 3)) := by
  refine SI.pure fun L st S pc' L' st' S' h => ?_
  unfold i_obj at h
  split at h
  · rename_i a t
    split at h
    · rename_i hc
      simp only [Option.some.injEq, Prod.mk.injEq] at h
      obtain ⟨rfl, rfl, rfl, rfl⟩ := h
      refine ⟨rfl, fun p l e R s m args below meth c H ls locs cells slots Q C r1 r2 hR hL hs kk => ?_⟩
      have KWs := C.2.2.2.2.2
      refine W.objInit C.1 C.2.1 C.2.2.2.1 (KWs.w h1) (KWs.w h2) (KWs.w h3) rfl (by rw [C.2.2.1]; exact hL.1.1) rfl hd r1 ?_ (kk ls hL hs.t)
      rw [cv_sum]
      show 2 * 0 + t.length + 12 ≤ R.locals
      omega
    · cases h
  · cases h
end MINS
