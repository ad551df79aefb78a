/-! the two objects at the start -/
def M00 : MM := fun _ _ => 0
def nulF : Int → MV := fun _ => .inr none
def zerF : Int → MV := fun _ => .inl 0
def arrS (S : MS) (m : Nat) (j : Int) (t : Nat) (n : Int) : MS := mset (mnew S t n (fun _ => .inl 0)) m j (.inr (some (zS S)))
def rowS (S : MS) (x : Nat) (j n : Int) : MS := mset (mset (mnew (mnew S 6 2 df_R) 22 n (fun _ => .inr none)) (zS S) 0 (.inr (some (zS S + 1)))) x j (.inr (some (zS S)))
section I2
variable {S : MS} {x m t b : Nat} {j n k : Int}
theorem arr_o (hm : b ≠ m) (hb : b ≠ zS S) : tS (arrS S m j t n) b = tS S b ∧ lS (arrS S m j t n) b = lS S b ∧ vS (arrS S m j t n) b = vS S b := by
  obtain ⟨h1, h2, h3⟩ := mnew_t S t n (fun _ => .inl 0) hb
  exact ⟨h1, h2, (mset_v _ _ _ _ hm).trans h3⟩
theorem arr_m (hm : m < zS S) : tS (arrS S m j t n) m = tS S m ∧ lS (arrS S m j t n) m = lS S m ∧ ∀ k, vS (arrS S m j t n) m k = if k = j then .inr (some (zS S)) else vS S m k := by
  obtain ⟨h1, h2, h3⟩ := mnew_t S t n (fun _ => .inl 0) (show m ≠ zS S by omega)
  refine ⟨h1, h2, fun k => ?_⟩
  unfold arrS
  rw [mset_s, h3]
theorem arr_a (hm : m < zS S) : tS (arrS S m j t n) (zS S) = t ∧ lS (arrS S m j t n) (zS S) = n ∧ vS (arrS S m j t n) (zS S) = fun _ => .inl 0 := by
  obtain ⟨h1, h2, h3⟩ := mnew_s S t n (fun _ => .inl 0)
  exact ⟨h1, h2, (mset_v _ _ _ _ (by omega)).trans h3⟩
theorem arr_f (h : ∀ b, zS S ≤ b → tS S b = 0) : ∀ b, zS (arrS S m j t n) ≤ b → tS (arrS S m j t n) b = 0 := fr_n t n (fun _ => .inl 0) h
theorem row_o (h1 : b ≠ x) (h2 : b ≠ zS S) (h3 : b ≠ zS S + 1) : tS (rowS S x j n) b = tS S b ∧ lS (rowS S x j n) b = lS S b ∧ vS (rowS S x j n) b = vS S b := by
  obtain ⟨g1, g2, g3⟩ := mnew_t S 6 2 df_R h2
  obtain ⟨e1, e2, e3⟩ := mnew_t (mnew S 6 2 df_R) 22 n (fun _ => .inr none) (show b ≠ zS S + 1 from h3)
  exact ⟨e1.trans g1, e2.trans g2, ((mset_v _ _ _ _ h1).trans (mset_v _ _ _ _ h2)).trans (e3.trans g3)⟩
theorem row_x (hx : x < zS S) : tS (rowS S x j n) x = tS S x ∧ lS (rowS S x j n) x = lS S x ∧ ∀ k, vS (rowS S x j n) x k = if k = j then .inr (some (zS S)) else vS S x k := by
  obtain ⟨g1, g2, g3⟩ := mnew_t S 6 2 df_R (show x ≠ zS S by omega)
  obtain ⟨e1, e2, e3⟩ := mnew_t (mnew S 6 2 df_R) 22 n (fun _ => .inr none) (show x ≠ zS S + 1 by omega)
  refine ⟨e1.trans g1, e2.trans g2, fun k => ?_⟩
  unfold rowS
  rw [mset_s, mset_v _ _ _ _ (show x ≠ zS S by omega), e3, g3]
theorem row_r (hx : x < zS S) : tS (rowS S x j n) (zS S) = 6 ∧ vS (rowS S x j n) (zS S) 0 = .inr (some (zS S + 1)) ∧ vS (rowS S x j n) (zS S) 1 = .inl 0 := by
  obtain ⟨g1, g2, g3⟩ := mnew_s S 6 2 df_R
  obtain ⟨e1, e2, e3⟩ := mnew_t (mnew S 6 2 df_R) 22 n (fun _ => .inr none) (show zS S ≠ zS S + 1 by omega)
  refine ⟨e1.trans g1, ?_, ?_⟩
  · unfold rowS
    rw [mset_v _ _ _ _ (show zS S ≠ x by omega), mset_s, if_pos rfl]
  · unfold rowS
    rw [mset_v _ _ _ _ (show zS S ≠ x by omega), mset_s, if_neg (by decide), e3, g3]
    rfl
theorem row_a (hx : x < zS S) : tS (rowS S x j n) (zS S + 1) = 22 ∧ lS (rowS S x j n) (zS S + 1) = n := by
  obtain ⟨e1, e2, e3⟩ := mnew_s (mnew S 6 2 df_R) 22 n (fun _ => .inr none)
  exact ⟨e1, e2⟩
theorem row_f (h : ∀ b, zS S ≤ b → tS S b = 0) : ∀ b, zS (rowS S x j n) ≤ b → tS (rowS S x j n) b = 0 := fr_n 22 n (fun _ => .inr none) (S' := mnew S 6 2 df_R) (fr_n 6 2 df_R h)
end I2
section I3
variable {d k pc : Nat} {L : ML} {st : List MV} {S : MS} {Q : Option MV → MS → Prop} {m t nx x : Nat} {j n : Int}
theorem XQ.parr (h : mcd k pc = some (.inl (i_put [7] j 2 nx))) (ht : tS S m = 7) (hm : m < zS S) (kk : tS (arrS S m j t n) m = 7 → m < zS (arrS S m j t n) → XQ d k nx L st (arrS S m j t n) Q) : XQ d k pc L (.inr (some (zS S)) :: .inr (some m) :: st) (mnew S t n (fun _ => .inl 0)) Q := by
  have h7 := (mnew_t S t n (fun _ => .inl 0) (show m ≠ zS S by omega)).1.trans ht
  exact XQ.put h (by rw [h7]; rfl) rfl (kk h7 (show m < zS S + 1 by omega))
def iniM (S : MS) (m : Nat) : MS := arrS (arrS (arrS (arrS (arrS (arrS (arrS (arrS (arrS (arrS (arrS (arrS (arrS S m 0 20 6) m 1 20 6) m 4 20 20) m 5 20 20) m 6 20 20) m 7 20 80) m 8 20 80) m 9 20 80) m 10 21 20) m 12 20 8) m 13 20 8) m 15 20 8) m 16 20 8
theorem M_init (ht : tS S m = 7) (hm : m < zS S) : XQ d k_M_init 0 (mentry (mL k_M_init) [.inr (some m)]) [] S (fun q S' => S' = iniM S m ∧ q = none) := by
  repeat (first | refine XQ.go rfl rfl ?_ | refine XQ.zeq0 rfl ?_ | refine XQ.zeq1 rfl ?_ | refine XQ.zne0 rfl ?_ | refine XQ.zne1 rfl ?_ | refine XQ.add rfl ⟨by omega, by omega⟩ ?_ | refine XQ.sub rfl ⟨by omega, by omega⟩ ?_ | refine XQ.inc rfl rfl rfl ⟨by omega, by omega⟩ ?_)
  refine XQ.parr rfl ht hm (fun ht hm => ?_)
  repeat (first | refine XQ.go rfl rfl ?_ | refine XQ.zeq0 rfl ?_ | refine XQ.zeq1 rfl ?_ | refine XQ.zne0 rfl ?_ | refine XQ.zne1 rfl ?_ | refine XQ.add rfl ⟨by omega, by omega⟩ ?_ | refine XQ.sub rfl ⟨by omega, by omega⟩ ?_ | refine XQ.inc rfl rfl rfl ⟨by omega, by omega⟩ ?_)
  refine XQ.parr rfl ht hm (fun ht hm => ?_)
  repeat (first | refine XQ.go rfl rfl ?_ | refine XQ.zeq0 rfl ?_ | refine XQ.zeq1 rfl ?_ | refine XQ.zne0 rfl ?_ | refine XQ.zne1 rfl ?_ | refine XQ.add rfl ⟨by omega, by omega⟩ ?_ | refine XQ.sub rfl ⟨by omega, by omega⟩ ?_ | refine XQ.inc rfl rfl rfl ⟨by omega, by omega⟩ ?_)
  refine XQ.parr rfl ht hm (fun ht hm => ?_)
  repeat (first | refine XQ.go rfl rfl ?_ | refine XQ.zeq0 rfl ?_ | refine XQ.zeq1 rfl ?_ | refine XQ.zne0 rfl ?_ | refine XQ.zne1 rfl ?_ | refine XQ.add rfl ⟨by omega, by omega⟩ ?_ | refine XQ.sub rfl ⟨by omega, by omega⟩ ?_ | refine XQ.inc rfl rfl rfl ⟨by omega, by omega⟩ ?_)
  refine XQ.parr rfl ht hm (fun ht hm => ?_)
  repeat (first | refine XQ.go rfl rfl ?_ | refine XQ.zeq0 rfl ?_ | refine XQ.zeq1 rfl ?_ | refine XQ.zne0 rfl ?_ | refine XQ.zne1 rfl ?_ | refine XQ.add rfl ⟨by omega, by omega⟩ ?_ | refine XQ.sub rfl ⟨by omega, by omega⟩ ?_ | refine XQ.inc rfl rfl rfl ⟨by omega, by omega⟩ ?_)
  refine XQ.parr rfl ht hm (fun ht hm => ?_)
  repeat (first | refine XQ.go rfl rfl ?_ | refine XQ.zeq0 rfl ?_ | refine XQ.zeq1 rfl ?_ | refine XQ.zne0 rfl ?_ | refine XQ.zne1 rfl ?_ | refine XQ.add rfl ⟨by omega, by omega⟩ ?_ | refine XQ.sub rfl ⟨by omega, by omega⟩ ?_ | refine XQ.inc rfl rfl rfl ⟨by omega, by omega⟩ ?_)
  refine XQ.parr rfl ht hm (fun ht hm => ?_)
  repeat (first | refine XQ.go rfl rfl ?_ | refine XQ.zeq0 rfl ?_ | refine XQ.zeq1 rfl ?_ | refine XQ.zne0 rfl ?_ | refine XQ.zne1 rfl ?_ | refine XQ.add rfl ⟨by omega, by omega⟩ ?_ | refine XQ.sub rfl ⟨by omega, by omega⟩ ?_ | refine XQ.inc rfl rfl rfl ⟨by omega, by omega⟩ ?_)
  refine XQ.parr rfl ht hm (fun ht hm => ?_)
  repeat (first | refine XQ.go rfl rfl ?_ | refine XQ.zeq0 rfl ?_ | refine XQ.zeq1 rfl ?_ | refine XQ.zne0 rfl ?_ | refine XQ.zne1 rfl ?_ | refine XQ.add rfl ⟨by omega, by omega⟩ ?_ | refine XQ.sub rfl ⟨by omega, by omega⟩ ?_ | refine XQ.inc rfl rfl rfl ⟨by omega, by omega⟩ ?_)
  refine XQ.parr rfl ht hm (fun ht hm => ?_)
  repeat (first | refine XQ.go rfl rfl ?_ | refine XQ.zeq0 rfl ?_ | refine XQ.zeq1 rfl ?_ | refine XQ.zne0 rfl ?_ | refine XQ.zne1 rfl ?_ | refine XQ.add rfl ⟨by omega, by omega⟩ ?_ | refine XQ.sub rfl ⟨by omega, by omega⟩ ?_ | refine XQ.inc rfl rfl rfl ⟨by omega, by omega⟩ ?_)
  refine XQ.parr rfl ht hm (fun ht hm => ?_)
  repeat (first | refine XQ.go rfl rfl ?_ | refine XQ.zeq0 rfl ?_ | refine XQ.zeq1 rfl ?_ | refine XQ.zne0 rfl ?_ | refine XQ.zne1 rfl ?_ | refine XQ.add rfl ⟨by omega, by omega⟩ ?_ | refine XQ.sub rfl ⟨by omega, by omega⟩ ?_ | refine XQ.inc rfl rfl rfl ⟨by omega, by omega⟩ ?_)
  refine XQ.parr rfl ht hm (fun ht hm => ?_)
  repeat (first | refine XQ.go rfl rfl ?_ | refine XQ.zeq0 rfl ?_ | refine XQ.zeq1 rfl ?_ | refine XQ.zne0 rfl ?_ | refine XQ.zne1 rfl ?_ | refine XQ.add rfl ⟨by omega, by omega⟩ ?_ | refine XQ.sub rfl ⟨by omega, by omega⟩ ?_ | refine XQ.inc rfl rfl rfl ⟨by omega, by omega⟩ ?_)
  refine XQ.parr rfl ht hm (fun ht hm => ?_)
  repeat (first | refine XQ.go rfl rfl ?_ | refine XQ.zeq0 rfl ?_ | refine XQ.zeq1 rfl ?_ | refine XQ.zne0 rfl ?_ | refine XQ.zne1 rfl ?_ | refine XQ.add rfl ⟨by omega, by omega⟩ ?_ | refine XQ.sub rfl ⟨by omega, by omega⟩ ?_ | refine XQ.inc rfl rfl rfl ⟨by omega, by omega⟩ ?_)
  refine XQ.parr rfl ht hm (fun ht hm => ?_)
  repeat (first | refine XQ.go rfl rfl ?_ | refine XQ.zeq0 rfl ?_ | refine XQ.zeq1 rfl ?_ | refine XQ.zne0 rfl ?_ | refine XQ.zne1 rfl ?_ | refine XQ.add rfl ⟨by omega, by omega⟩ ?_ | refine XQ.sub rfl ⟨by omega, by omega⟩ ?_ | refine XQ.inc rfl rfl rfl ⟨by omega, by omega⟩ ?_)
  refine XQ.parr rfl ht hm (fun ht hm => ?_)
  exact XQ.ret rfl rfl ⟨rfl, rfl⟩
theorem C_Rinit {a : Nat} (ht : tS S a = 6) (hlt : a < zS S) (n0 : 0 ≤ n) (n1 : n ≤ 100) : XQ d k_R_init 0 (mentry (mL k_R_init) [.inr (some a), .inl n]) [] S (fun q S' => S' = mset (mnew S 22 n (fun _ => .inr none)) a 0 (.inr (some (zS S))) ∧ q = none) := by
  repeat (first | refine XQ.go rfl rfl ?_ | refine XQ.zeq0 rfl ?_ | refine XQ.zeq1 rfl ?_ | refine XQ.zne0 rfl ?_ | refine XQ.zne1 rfl ?_ | refine XQ.add rfl ⟨by omega, by omega⟩ ?_ | refine XQ.sub rfl ⟨by omega, by omega⟩ ?_ | refine XQ.inc rfl rfl rfl ⟨by omega, by omega⟩ ?_)
  refine XQ.newa rfl n0 (by omega) ?_
  refine XQ.put rfl (by rw [(mnew_t S 22 n (fun _ => .inr none) (show a ≠ zS S by omega)).1, ht]; rfl) rfl ?_
  exact XQ.ret rfl rfl ⟨rfl, rfl⟩
def iniH (S : MS) (x : Nat) : MS := rowS (rowS (rowS (mset (mnew S 23 6 (fun _ => .inr none)) x 0 (.inr (some (zS S)))) x 1 20) x 2 8) x 3 8
/-- one row of the class made -/
theorem H_row {nx2 : Nat} (h : mcd k pc = some (.inr (.inl (false, 2, [(6, k_R_init)], nx)))) (h2 : mcd k nx = some (.inl (i_put [1] j 2 nx2))) (ht : tS S x = 1) (hx : x < zS S) (n0 : 0 ≤ n) (n1 : n ≤ 100) (kk : tS (rowS S x j n) x = 1 → x < zS (rowS S x j n) → XQ (d + 1) k nx2 L [] (rowS S x j n) Q) : XQ (d + 1) k pc L [.inl n, .inr (some (zS S)), .inr (some (zS S)), .inr (some x)] (mnew S 6 2 df_R) Q := by
  have e6 := (mnew_s S 6 2 df_R).1
  refine XQ.v2 h e6 rfl (le8 rfl) (C_Rinit (d := d) e6 (Nat.lt_succ_self _) n0 n1) (fun q S' hq => ?_)
  obtain ⟨rfl, rfl⟩ := hq
  have h1 := (row_x (S := S) (j := j) (n := n) hx).1.trans ht
  exact XQ.put h2 (by rw [show tS (mset (mnew (mnew S 6 2 df_R) 22 n (fun _ => .inr none)) (zS S) 0 (.inr (some (zS (mnew S 6 2 df_R))))) x = 1 from h1]; rfl) rfl (kk h1 (show x < zS S + 1 + 1 by omega))
theorem H_init (ht : tS S x = 1) (hx : x < zS S) : XQ (d + 1) k_H_init 0 (mentry (mL k_H_init) [.inr (some x)]) [] S (fun q S' => S' = iniH S x ∧ q = none) := by
  repeat (first | refine XQ.go rfl rfl ?_ | refine XQ.zeq0 rfl ?_ | refine XQ.zeq1 rfl ?_ | refine XQ.zne0 rfl ?_ | refine XQ.zne1 rfl ?_ | refine XQ.add rfl ⟨by omega, by omega⟩ ?_ | refine XQ.sub rfl ⟨by omega, by omega⟩ ?_ | refine XQ.inc rfl rfl rfl ⟨by omega, by omega⟩ ?_)
  have h1 := (mnew_t S 23 6 (fun _ => .inr none) (show x ≠ zS S by omega)).1.trans ht
  refine XQ.put rfl (by rw [h1]; rfl) rfl ?_
  repeat (first | refine XQ.go rfl rfl ?_ | refine XQ.zeq0 rfl ?_ | refine XQ.zeq1 rfl ?_ | refine XQ.zne0 rfl ?_ | refine XQ.zne1 rfl ?_ | refine XQ.add rfl ⟨by omega, by omega⟩ ?_ | refine XQ.sub rfl ⟨by omega, by omega⟩ ?_ | refine XQ.inc rfl rfl rfl ⟨by omega, by omega⟩ ?_)
  refine H_row rfl rfl (j := 1) h1 (show x < zS S + 1 by omega) (by decide) (by decide) (fun h2 hx => ?_)
  repeat (first | refine XQ.go rfl rfl ?_ | refine XQ.zeq0 rfl ?_ | refine XQ.zeq1 rfl ?_ | refine XQ.zne0 rfl ?_ | refine XQ.zne1 rfl ?_ | refine XQ.add rfl ⟨by omega, by omega⟩ ?_ | refine XQ.sub rfl ⟨by omega, by omega⟩ ?_ | refine XQ.inc rfl rfl rfl ⟨by omega, by omega⟩ ?_)
  refine H_row rfl rfl (j := 2) h2 hx (by decide) (by decide) (fun h2 hx => ?_)
  repeat (first | refine XQ.go rfl rfl ?_ | refine XQ.zeq0 rfl ?_ | refine XQ.zeq1 rfl ?_ | refine XQ.zne0 rfl ?_ | refine XQ.zne1 rfl ?_ | refine XQ.add rfl ⟨by omega, by omega⟩ ?_ | refine XQ.sub rfl ⟨by omega, by omega⟩ ?_ | refine XQ.inc rfl rfl rfl ⟨by omega, by omega⟩ ?_)
  refine H_row rfl rfl (j := 3) h2 hx (by decide) (by decide) (fun h2 hx => ?_)
  exact XQ.ret rfl rfl ⟨rfl, rfl⟩
end I3
