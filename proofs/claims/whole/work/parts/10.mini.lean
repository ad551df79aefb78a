/-! the mini-machine: values are Ints or addresses, the store holds every cell of the run, an instruction is a function -/
abbrev MV : Type := Int ⊕ Option Nat
abbrev MS : Type := Nat × Nat × (Nat → Nat) × (Nat → Int) × (Nat → Int → MV)
abbrev ML : Type := List (Option MV)
abbrev MI : Type := ML → List MV → MS → Option (Nat × ML × List MV × MS)
abbrev MC : Type := Bool × Nat × List (Nat × Nat) × Nat
abbrev ME : Type := MI ⊕ (MC ⊕ Nat)
abbrev zS (S : MS) : Nat := S.1
abbrev qS (S : MS) : Nat := S.2.1
abbrev tS (S : MS) : Nat → Nat := S.2.2.1
abbrev lS (S : MS) : Nat → Int := S.2.2.2.1
abbrev vS (S : MS) : Nat → Int → MV := S.2.2.2.2
def mset (S : MS) (a : Nat) (k : Int) (v : MV) : MS := (S.1, S.2.1, S.2.2.1, S.2.2.2.1, fun b j => if b = a ∧ j = k then v else S.2.2.2.2 b j)
def mnew (S : MS) (t : Nat) (n : Int) (f : Int → MV) : MS := (S.1 + 1, S.2.1 + n.toNat, fun b => if b = S.1 then t else S.2.2.1 b, fun b => if b = S.1 then n else S.2.2.2.1 b, fun b => if b = S.1 then f else S.2.2.2.2 b)
def cv (v : MV) : Value := match v with
  | .inl e => .int (Int32.ofInt e)
  | .inr none => .null
  | .inr (some a) => .ref a
abbrev inR (e : Int) : Prop := -2147483648 ≤ e ∧ e < 2147483648
def okV (v : MV) : Prop := match v with
  | .inl e => inR e
  | .inr _ => True
-- instructions
def i_c (e : Int) (nx : Nat) : MI := fun L st S => some (nx, L, .inl e :: st, S)
def i_n (nx : Nat) : MI := fun L st S => some (nx, L, .inr none :: st, S)
def i_il (j nx : Nat) : MI := fun L st S => match L[j]? with
  | some (some (.inl e)) => some (nx, L, .inl e :: st, S)
  | _ => none
def i_al (j nx : Nat) : MI := fun L st S => match L[j]? with
  | some (some (.inr r)) => some (nx, L, .inr r :: st, S)
  | _ => none
def i_is (j nx : Nat) : MI := fun L st S => match st with
  | .inl e :: st => some (nx, L.set j (some (.inl e)), st, S)
  | _ => none
def i_as (j nx : Nat) : MI := fun L st S => match st with
  | .inr r :: st => some (nx, L.set j (some (.inr r)), st, S)
  | _ => none
noncomputable def i_ii (j : Nat) (n : Int) (nx : Nat) : MI := fun L st S => match L[j]? with
  | some (some (.inl e)) => @ite _ (inR (e + n)) (Classical.propDecidable _) (some (nx, L.set j (some (.inl (e + n))), st, S)) none
  | _ => none
noncomputable def i_bin (f : Int → Int → Int) (nx : Nat) : MI := fun L st S => match st with
  | .inl b :: .inl a :: st => @ite _ (inR (f a b)) (Classical.propDecidable _) (some (nx, L, .inl (f a b) :: st, S)) none
  | _ => none
def i_and (nx : Nat) : MI := fun L st S => match st with
  | .inl b :: .inl a :: st => if b = 31 then some (nx, L, .inl (a % 32) :: st, S) else none
  | _ => none
def i_dup (nx : Nat) : MI := fun L st S => match st with
  | a :: st => some (nx, L, a :: a :: st, S)
  | _ => none
def i_pop (nx : Nat) : MI := fun L st S => match st with
  | _ :: st => some (nx, L, st, S)
  | _ => none
def i_dx1 (nx : Nat) : MI := fun L st S => match st with
  | a :: b :: st => some (nx, L, a :: b :: a :: st, S)
  | _ => none
def i_dup2 (nx : Nat) : MI := fun L st S => match st with
  | a :: b :: st => some (nx, L, a :: b :: a :: b :: st, S)
  | _ => none
noncomputable def cmpB (o : Nat) (a b : Int) : Bool := match o with
  | 0 => @decide (a = b) (Classical.propDecidable _)
  | 1 => @decide (¬ a = b) (Classical.propDecidable _)
  | 2 => @decide (a < b) (Classical.propDecidable _)
  | 3 => @decide (b ≤ a) (Classical.propDecidable _)
  | 4 => @decide (b < a) (Classical.propDecidable _)
  | _ => @decide (a ≤ b) (Classical.propDecidable _)
noncomputable def i_z (o tg nx : Nat) : MI := fun L st S => match st with
  | .inl a :: st => cond (cmpB o a 0) (some (tg, L, st, S)) (some (nx, L, st, S))
  | _ => none
noncomputable def i_cmp (o tg nx : Nat) : MI := fun L st S => match st with
  | .inl b :: .inl a :: st => cond (cmpB o a b) (some (tg, L, st, S)) (some (nx, L, st, S))
  | _ => none
def i_nul (tg nx : Nat) : MI := fun L st S => match st with
  | .inr none :: st => some (tg, L, st, S)
  | .inr (some _) :: st => some (nx, L, st, S)
  | _ => none
def i_aeq (tg nx : Nat) : MI := fun L st S => match st with
  | .inr b :: .inr a :: st => if a = b then some (tg, L, st, S) else some (nx, L, st, S)
  | _ => none
def i_go (tg : Nat) : MI := fun L st S => some (tg, L, st, S)
def i_sw (lo hi : Int) (tg : List Nat) (df : Nat) : MI := fun L st S => match st with
  | .inl a :: st => if a < lo ∨ hi < a then some (df, L, st, S) else (tg[(a - lo).toNat]?).map fun t => (t, L, st, S)
  | _ => none
def i_get (ts : List Nat) (kk : Int) (nx : Nat) : MI := fun L st S => match st with
  | .inr (some a) :: st => if ts.contains (tS S a) then some (nx, L, vS S a kk :: st, S) else none
  | _ => none
def fitM (ty : Nat) (v : MV) : Bool := match ty, v with
  | 0, .inl _ => true
  | 1, .inl e => decide (e = 0 ∨ e = 1)
  | 2, .inr _ => true
  | _, _ => false
def i_put (ts : List Nat) (kk : Int) (ty nx : Nat) : MI := fun L st S => match st with
  | v :: .inr (some a) :: st => if ts.contains (tS S a) && fitM ty v then some (nx, L, st, mset S a kk v) else none
  | _ => none
def i_ld (ts : List Nat) (nx : Nat) : MI := fun L st S => match st with
  | .inl i :: .inr (some a) :: st => if ts.contains (tS S a) ∧ 0 ≤ i ∧ i < lS S a then some (nx, L, vS S a i :: st, S) else none
  | _ => none
def i_ist (nx : Nat) : MI := fun L st S => match st with
  | .inl x :: .inl i :: .inr (some a) :: st => if tS S a = 20 ∧ 0 ≤ i ∧ i < lS S a then some (nx, L, st, mset S a i (.inl x)) else none
  | _ => none
def i_zst (nx : Nat) : MI := fun L st S => match st with
  | .inl x :: .inl i :: .inr (some a) :: st => if tS S a = 21 ∧ (x = 0 ∨ x = 1) ∧ 0 ≤ i ∧ i < lS S a then some (nx, L, st, mset S a i (.inl x)) else none
  | _ => none
def astOK (as : List (Nat × List Nat)) (S : MS) (a : Nat) (r : Option Nat) : Bool := match r with
  | none => (as.lookup (tS S a)).isSome
  | some b => match as.lookup (tS S a) with
    | some ts => ts.contains (tS S b)
    | none => false
def i_ast (as : List (Nat × List Nat)) (nx : Nat) : MI := fun L st S => match st with
  | .inr r :: .inl i :: .inr (some a) :: st => if astOK as S a r ∧ 0 ≤ i ∧ i < lS S a then some (nx, L, st, mset S a i (.inr r)) else none
  | _ => none
def i_len (nx : Nat) : MI := fun L st S => match st with
  | .inr (some a) :: st => if 20 ≤ tS S a then some (nx, L, .inl (lS S a) :: st, S) else none
  | _ => none
def i_new (t n : Nat) (f : Int → MV) (nx : Nat) : MI := fun L st S => some (nx, L, .inr (some (zS S)) :: st, mnew S t (n : Int) f)
def i_newa (t : Nat) (v : MV) (nx : Nat) : MI := fun L st S => match st with
  | .inl n :: st => if 0 ≤ n ∧ n ≤ 100000 then some (nx, L, .inr (some (zS S)) :: st, mnew S t n (fun _ => v)) else none
  | _ => none
def i_ins (ys ns : List Nat) (nx : Nat) : MI := fun L st S => match st with
  | .inr none :: st => some (nx, L, .inl 0 :: st, S)
  | .inr (some a) :: st => if ys.contains (tS S a) then some (nx, L, .inl 1 :: st, S) else if ns.contains (tS S a) then some (nx, L, .inl 0 :: st, S) else none
  | _ => none
def i_cst (ys : List Nat) (nx : Nat) : MI := fun L st S => match st with
  | .inr none :: st => some (nx, L, .inr none :: st, S)
  | .inr (some a) :: st => if ys.contains (tS S a) then some (nx, L, .inr (some a) :: st, S) else none
  | _ => none
def i_obj (nx : Nat) : MI := fun L st S => match st with
  | .inr (some _) :: st => if st.length ≤ 8 then some (nx, L, st, S) else none
  | _ => none
-- calls and returns
def mcallee (sta : Bool) (na : Nat) (tg : List (Nat × Nat)) (st : List MV) (S : MS) : Option (Nat × List MV × List MV) :=
  if na ≤ st.length ∧ (st.drop na).length ≤ 8 then
    match sta with
    | true => (tg.lookup 0).map fun k' => (k', (st.take na).reverse, st.drop na)
    | false => match (st.take na).reverse with
      | .inr (some b) :: as => (tg.lookup (tS S b)).map fun k' => (k', .inr (some b) :: as, st.drop na)
      | _ => none
  else none
def mret (rk : Nat) (st : List MV) (S : MS) : Option (Option MV × MS) := match rk, st with
  | 0, [.inl e] => some (some (.inl e), S)
  | 1, [.inl e] => if e = 0 ∨ e = 1 then some (some (.inl e), S) else none
  | 2, [.inr r] => some (some (.inr r), S)
  | 3, [] => some (none, S)
  | _, _ => none
def mentry (nL : Nat) (as : List MV) : ML := as.map some ++ List.replicate (nL - as.length) none
def mx (P : Nat → Nat → Option ME) (nL : Nat → Nat) : Nat → Nat → Nat → Nat → ML → List MV → MS → Option (Option MV × MS)
  | 0, _, _, _, _, _, _ => none
  | n + 1, d, k, pc, L, st, S =>
    match P k pc with
    | none => none
    | some (.inl mi) => match mi L st S with
      | none => none
      | some (pc', L', st', S') => mx P nL n d k pc' L' st' S'
    | some (.inr (.inl (sta, na, tg, nx))) => match d with
      | 0 => none
      | d + 1 => match mcallee sta na tg st S with
        | none => none
        | some (k', as, rest) => match mx P nL n d k' 0 (mentry (nL k') as) [] S with
          | none => none
          | some (v, S') => mx P nL n (d + 1) k nx L (v.toList ++ rest) S'
    | some (.inr (.inr rk)) => mret rk st S
