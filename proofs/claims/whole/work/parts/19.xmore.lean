/-! more rows for walking -/
section XM
variable {d k pc : Nat} {L : ML} {st : List MV} {S : MS} {Q : Option MV → MS → Prop}
theorem XQ.zeq0 {tg nx : Nat} (h : mcd k pc = some (.inl (i_z 0 tg nx))) (hk : XQ d k tg L st S Q) : XQ d k pc L (.inl 0 :: st) S Q := XQ.zeq h (fun _ => hk) (fun q => absurd rfl q)
theorem XQ.zeq1 {tg nx : Nat} (h : mcd k pc = some (.inl (i_z 0 tg nx))) (hk : XQ d k nx L st S Q) : XQ d k pc L (.inl 1 :: st) S Q := XQ.zeq h (fun q => absurd q (by decide)) (fun _ => hk)
theorem XQ.zne0 {tg nx : Nat} (h : mcd k pc = some (.inl (i_z 1 tg nx))) (hk : XQ d k nx L st S Q) : XQ d k pc L (.inl 0 :: st) S Q := XQ.zne h (fun q => absurd rfl q) (fun _ => hk)
theorem XQ.zne1 {tg nx : Nat} (h : mcd k pc = some (.inl (i_z 1 tg nx))) (hk : XQ d k tg L st S Q) : XQ d k pc L (.inl 1 :: st) S Q := XQ.zne h (fun _ => hk) (fun q => absurd q (by decide))
theorem XQ.add {a b : Int} {nx : Nat} (h : mcd k pc = some (.inl (i_bin (fun a b => a + b) nx))) (hr : inR (a + b)) (hk : XQ d k nx L (.inl (a + b) :: st) S Q) : XQ d k pc L (.inl b :: .inl a :: st) S Q := XQ.bin h rfl hr hk
theorem XQ.sub {a b : Int} {nx : Nat} (h : mcd k pc = some (.inl (i_bin (fun a b => a - b) nx))) (hr : inR (a - b)) (hk : XQ d k nx L (.inl (a - b) :: st) S Q) : XQ d k pc L (.inl b :: .inl a :: st) S Q := XQ.bin h rfl hr hk
theorem XQ.mul {a b : Int} {nx : Nat} (h : mcd k pc = some (.inl (i_bin (fun a b => a * b) nx))) (hr : inR (a * b)) (hk : XQ d k nx L (.inl (a * b) :: st) S Q) : XQ d k pc L (.inl b :: .inl a :: st) S Q := XQ.bin h rfl hr hk
end XM
def pu (v : Option MV) (st : List MV) : List MV := match v with
  | none => st
  | some x => x :: st
theorem pu_e (v : Option MV) (st : List MV) : pu v st = v.toList ++ st := by cases v <;> rfl
section XC
variable {d k pc : Nat} {L : ML} {rest : List MV} {S : MS} {Q Q' : Option MV → MS → Prop} {tg : List (Nat × Nat)} {nx k' b t : Nat} {a1 a2 a3 : MV}
theorem XQ.s1 (h : mcd k pc = some (.inr (.inl (true, 1, tg, nx)))) (hl : tg.lookup 0 = some k') (hr : rest.length ≤ 8) (h3 : XQ d k' 0 (mentry (mL k') [a1]) [] S Q') (kk : ∀ v S', Q' v S' → XQ (d + 1) k nx L (pu v rest) S' Q) : XQ (d + 1) k pc L (a1 :: rest) S Q := by
  refine XQ.call h (k' := k') (as := [a1]) (rest := rest) ?_ h3 (fun v S' hq => by rw [← pu_e]; exact kk v S' hq)
  unfold mcallee
  rw [if_pos ⟨by simp, hr⟩]
  simp [hl]
theorem XQ.v1 (h : mcd k pc = some (.inr (.inl (false, 1, tg, nx)))) (ht : tS S b = t) (hl : tg.lookup t = some k') (hr : rest.length ≤ 8) (h3 : XQ d k' 0 (mentry (mL k') [.inr (some b)]) [] S Q') (kk : ∀ v S', Q' v S' → XQ (d + 1) k nx L (pu v rest) S' Q) : XQ (d + 1) k pc L (.inr (some b) :: rest) S Q := by
  refine XQ.call h (k' := k') (as := [.inr (some b)]) (rest := rest) ?_ h3 (fun v S' hq => by rw [← pu_e]; exact kk v S' hq)
  unfold mcallee
  rw [if_pos ⟨by simp, hr⟩]
  subst ht
  simp [hl]
theorem XQ.v2 (h : mcd k pc = some (.inr (.inl (false, 2, tg, nx)))) (ht : tS S b = t) (hl : tg.lookup t = some k') (hr : rest.length ≤ 8) (h3 : XQ d k' 0 (mentry (mL k') [.inr (some b), a1]) [] S Q') (kk : ∀ v S', Q' v S' → XQ (d + 1) k nx L (pu v rest) S' Q) : XQ (d + 1) k pc L (a1 :: .inr (some b) :: rest) S Q := by
  refine XQ.call h (k' := k') (as := [.inr (some b), a1]) (rest := rest) ?_ h3 (fun v S' hq => by rw [← pu_e]; exact kk v S' hq)
  unfold mcallee
  rw [if_pos ⟨by simp, hr⟩]
  subst ht
  simp [hl]
theorem XQ.v3 (h : mcd k pc = some (.inr (.inl (false, 3, tg, nx)))) (ht : tS S b = t) (hl : tg.lookup t = some k') (hr : rest.length ≤ 8) (h3 : XQ d k' 0 (mentry (mL k') [.inr (some b), a1, a2]) [] S Q') (kk : ∀ v S', Q' v S' → XQ (d + 1) k nx L (pu v rest) S' Q) : XQ (d + 1) k pc L (a2 :: a1 :: .inr (some b) :: rest) S Q := by
  refine XQ.call h (k' := k') (as := [.inr (some b), a1, a2]) (rest := rest) ?_ h3 (fun v S' hq => by rw [← pu_e]; exact kk v S' hq)
  unfold mcallee
  rw [if_pos ⟨by simp, hr⟩]
  subst ht
  simp [hl]
theorem XQ.v4 (h : mcd k pc = some (.inr (.inl (false, 4, tg, nx)))) (ht : tS S b = t) (hl : tg.lookup t = some k') (hr : rest.length ≤ 8) (h3 : XQ d k' 0 (mentry (mL k') [.inr (some b), a1, a2, a3]) [] S Q') (kk : ∀ v S', Q' v S' → XQ (d + 1) k nx L (pu v rest) S' Q) : XQ (d + 1) k pc L (a3 :: a2 :: a1 :: .inr (some b) :: rest) S Q := by
  refine XQ.call h (k' := k') (as := [.inr (some b), a1, a2, a3]) (rest := rest) ?_ h3 (fun v S' hq => by rw [← pu_e]; exact kk v S' hq)
  unfold mcallee
  rw [if_pos ⟨by simp, hr⟩]
  subst ht
  simp [hl]
end XC
/-- eight at most: of a stack that is written out -/
theorem le8 {n : Nat} (h : Nat.ble n 8 = true) : n ≤ 8 := Nat.le_of_ble_eq_true h
